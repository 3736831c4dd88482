def RX0 : String := "StreetMarket$History"
def TX0 : u_T := fun k => match k with
  | 0 => ("StreetMarket$History", "kept", "[LStreetMarket$Market;", true)
  | 1 => ("StreetMarket$History", "newest", "I", false)
  | _ => ("StreetMarket$History", "count", "I", false)
def tyX0 : Nat → FieldType := fun k => match k with
  | 0 => .array (.object "StreetMarket$Market")
  | 1 => .int
  | _ => .int
abbrev wsX00 : List Cond := u_ws RX0 TX0 3
theorem nmX0 : ∀ a, a < 3 → ∀ b, b < 3 → a ≠ b → (TX0 a).2.1 ≠ (TX0 b).2.1 := by decide +kernel
theorem tyX0_ok : ∀ k, k < 3 → parseFieldDescriptor (TX0 k).2.2.1 = some (tyX0 k) := by decide +kernel
abbrev cX0_init : ByteArray := prog_2_method_1_code
def yX0_init : MethodName := ⟨RX0, "<init>", "()V"⟩
abbrev cX0_remember : ByteArray := prog_2_method_2_code
def yX0_remember : MethodName := ⟨RX0, "remember", "(LStreetMarket$Market;)V"⟩
abbrev cX0_takeBack : ByteArray := prog_2_method_3_code
def yX0_takeBack : MethodName := ⟨RX0, "takeBack", "(LStreetMarket$Market;)V"⟩
def RX1 : String := "StreetMarket$Insertion"
def TX1 : u_T := fun k => match k with
  | 0 => ("StreetMarket$Insertion", "street", "LStreetMarket$Market;", true)
  | 1 => ("StreetMarket$Insertion", "found", "LStreetMarket$Market;", true)
  | 2 => ("StreetMarket$Insertion", "mostIncome", "I", false)
  | 3 => ("StreetMarket$Insertion", "fewestMoved", "I", false)
  | 4 => ("StreetMarket$Insertion", "oldStarts", "[I", true)
  | 5 => ("StreetMarket$Insertion", "walkers", "[I", true)
  | _ => ("StreetMarket$Insertion", "hopes", "[I", true)
def tyX1 : Nat → FieldType := fun k => match k with
  | 0 => .object "StreetMarket$Market"
  | 1 => .object "StreetMarket$Market"
  | 2 => .int
  | 3 => .int
  | 4 => .array .int
  | 5 => .array .int
  | _ => .array .int
abbrev wsX10 : List Cond := u_ws RX1 TX1 7
theorem nmX1 : ∀ a, a < 7 → ∀ b, b < 7 → a ≠ b → (TX1 a).2.1 ≠ (TX1 b).2.1 := by decide +kernel
theorem tyX1_ok : ∀ k, k < 7 → parseFieldDescriptor (TX1 k).2.2.1 = some (tyX1 k) := by decide +kernel
abbrev cX1_init : ByteArray := prog_3_method_1_code
def yX1_init : MethodName := ⟨RX1, "<init>", "()V"⟩
abbrev cX1_search : ByteArray := prog_3_method_2_code
def yX1_search : MethodName := ⟨RX1, "search", "(LStreetMarket$Market;II)V"⟩
abbrev cX1_chooseMovers : ByteArray := prog_3_method_3_code
def yX1_chooseMovers : MethodName := ⟨RX1, "chooseMovers", "(III)V"⟩
abbrev cX1_sumHopes : ByteArray := prog_3_method_4_code
def yX1_sumHopes : MethodName := ⟨RX1, "sumHopes", "(I)Z"⟩
abbrev cX1_isHopeless : ByteArray := prog_3_method_5_code
def yX1_isHopeless : MethodName := ⟨RX1, "isHopeless", "(II)Z"⟩
abbrev cX1_seatWalkers : ByteArray := prog_3_method_6_code
def yX1_seatWalkers : MethodName := ⟨RX1, "seatWalkers", "(III)V"⟩
abbrev cX1_consider : ByteArray := prog_3_method_7_code
def yX1_consider : MethodName := ⟨RX1, "consider", "(II)V"⟩
def RX2 : String := "StreetMarket$Market"
def TX2 : u_T := fun k => match k with
  | 0 => ("StreetMarket$Market", "pitches", "I", false)
  | 1 => ("StreetMarket$Market", "rows", "[I", true)
  | 2 => ("StreetMarket$Market", "rents", "[I", true)
  | 3 => ("StreetMarket$Market", "roofs", "[Z", true)
  | 4 => ("StreetMarket$Market", "traders", "I", false)
  | 5 => ("StreetMarket$Market", "trades", "[I", true)
  | 6 => ("StreetMarket$Market", "fronts", "[I", true)
  | 7 => ("StreetMarket$Market", "limits", "[I", true)
  | 8 => ("StreetMarket$Market", "needy", "[Z", true)
  | 9 => ("StreetMarket$Market", "clashes", "[I", true)
  | 10 => ("StreetMarket$Market", "covers", "I", false)
  | 11 => ("StreetMarket$Market", "starts", "[I", true)
  | 12 => ("StreetMarket$Market", "standing", "[I", true)
  | _ => ("StreetMarket$Market", "coversBusy", "I", false)
def tyX2 : Nat → FieldType := fun k => match k with
  | 0 => .int
  | 1 => .array .int
  | 2 => .array .int
  | 3 => .array .boolean
  | 4 => .int
  | 5 => .array .int
  | 6 => .array .int
  | 7 => .array .int
  | 8 => .array .boolean
  | 9 => .array .int
  | 10 => .int
  | 11 => .array .int
  | 12 => .array .int
  | _ => .int
abbrev wsX20 : List Cond := u_ws RX2 TX2 14
theorem nmX2 : ∀ a, a < 14 → ∀ b, b < 14 → a ≠ b → (TX2 a).2.1 ≠ (TX2 b).2.1 := by decide +kernel
theorem tyX2_ok : ∀ k, k < 14 → parseFieldDescriptor (TX2 k).2.2.1 = some (tyX2 k) := by decide +kernel
abbrev cX2_init : ByteArray := prog_4_method_1_code
def yX2_init : MethodName := ⟨RX2, "<init>", "()V"⟩
abbrev cX2_copyFrom : ByteArray := prog_4_method_2_code
def yX2_copyFrom : MethodName := ⟨RX2, "copyFrom", "(LStreetMarket$Market;)V"⟩
abbrev cX2_wipe : ByteArray := prog_4_method_3_code
def yX2_wipe : MethodName := ⟨RX2, "wipe", "()V"⟩
abbrev cX2_hasPitch : ByteArray := prog_4_method_4_code
def yX2_hasPitch : MethodName := ⟨RX2, "hasPitch", "(I)Z"⟩
abbrev cX2_hasTrader : ByteArray := prog_4_method_5_code
def yX2_hasTrader : MethodName := ⟨RX2, "hasTrader", "(I)Z"⟩
abbrev cX2_addPitch : ByteArray := prog_4_method_6_code
def yX2_addPitch : MethodName := ⟨RX2, "addPitch", "(IIZ)V"⟩
abbrev cX2_enrol : ByteArray := prog_4_method_7_code
def yX2_enrol : MethodName := ⟨RX2, "enrol", "(IIIZ)V"⟩
abbrev cX2_putClash : ByteArray := prog_4_method_8_code
def yX2_putClash : MethodName := ⟨RX2, "putClash", "(IIZ)V"⟩
abbrev cX2_areClashing : ByteArray := prog_4_method_9_code
def yX2_areClashing : MethodName := ⟨RX2, "areClashing", "(II)Z"⟩
abbrev cX2_shareRow : ByteArray := prog_4_method_10_code
def yX2_shareRow : MethodName := ⟨RX2, "shareRow", "(II)Z"⟩
abbrev cX2_isInOneRow : ByteArray := prog_4_method_11_code
def yX2_isInOneRow : MethodName := ⟨RX2, "isInOneRow", "(II)Z"⟩
abbrev cX2_blockRent : ByteArray := prog_4_method_12_code
def yX2_blockRent : MethodName := ⟨RX2, "blockRent", "(II)I"⟩
abbrev cX2_affords : ByteArray := prog_4_method_13_code
def yX2_affords : MethodName := ⟨RX2, "affords", "(II)Z"⟩
abbrev cX2_openPitches : ByteArray := prog_4_method_14_code
def yX2_openPitches : MethodName := ⟨RX2, "openPitches", "(II)I"⟩
abbrev cX2_coversFor : ByteArray := prog_4_method_15_code
def yX2_coversFor : MethodName := ⟨RX2, "coversFor", "(II)I"⟩
abbrev cX2_isSeated : ByteArray := prog_4_method_16_code
def yX2_isSeated : MethodName := ⟨RX2, "isSeated", "(I)Z"⟩
abbrev cX2_isSheltered : ByteArray := prog_4_method_17_code
def yX2_isSheltered : MethodName := ⟨RX2, "isSheltered", "(I)Z"⟩
abbrev cX2_isBlockFree : ByteArray := prog_4_method_18_code
def yX2_isBlockFree : MethodName := ⟨RX2, "isBlockFree", "(II)Z"⟩
abbrev cX2_clashesBeside : ByteArray := prog_4_method_19_code
def yX2_clashesBeside : MethodName := ⟨RX2, "clashesBeside", "(II)Z"⟩
abbrev cX2_clashesWith : ByteArray := prog_4_method_20_code
def yX2_clashesWith : MethodName := ⟨RX2, "clashesWith", "(II)Z"⟩
abbrev cX2_hindrance : ByteArray := prog_4_method_21_code
def yX2_hindrance : MethodName := ⟨RX2, "hindrance", "(II)I"⟩
abbrev cX2_seat : ByteArray := prog_4_method_22_code
def yX2_seat : MethodName := ⟨RX2, "seat", "(II)V"⟩
abbrev cX2_seatIfPossible : ByteArray := prog_4_method_23_code
def yX2_seatIfPossible : MethodName := ⟨RX2, "seatIfPossible", "(II)Z"⟩
abbrev cX2_dearestStart : ByteArray := prog_4_method_24_code
def yX2_dearestStart : MethodName := ⟨RX2, "dearestStart", "(II)I"⟩
abbrev cX2_seatDearest : ByteArray := prog_4_method_25_code
def yX2_seatDearest : MethodName := ⟨RX2, "seatDearest", "(I)V"⟩
abbrev cX2_unseat : ByteArray := prog_4_method_26_code
def yX2_unseat : MethodName := ⟨RX2, "unseat", "(I)V"⟩
abbrev cX2_unseatAll : ByteArray := prog_4_method_27_code
def yX2_unseatAll : MethodName := ⟨RX2, "unseatAll", "()V"⟩
abbrev cX2_settle : ByteArray := prog_4_method_28_code
def yX2_settle : MethodName := ⟨RX2, "settle", "(III)V"⟩
abbrev cX2_countSeated : ByteArray := prog_4_method_29_code
def yX2_countSeated : MethodName := ⟨RX2, "countSeated", "()I"⟩
abbrev cX2_totalRent : ByteArray := prog_4_method_30_code
def yX2_totalRent : MethodName := ⟨RX2, "totalRent", "()I"⟩
abbrev cX2_standSideBySide : ByteArray := prog_4_method_31_code
def yX2_standSideBySide : MethodName := ⟨RX2, "standSideBySide", "(II)Z"⟩
abbrev cX2_isPair : ByteArray := prog_4_method_32_code
def yX2_isPair : MethodName := ⟨RX2, "isPair", "(IIII)Z"⟩
abbrev cX2_comesBefore : ByteArray := prog_4_method_33_code
def yX2_comesBefore : MethodName := ⟨RX2, "comesBefore", "(LStreetMarket$Market;)Z"⟩
abbrev cX2_turnAround : ByteArray := prog_4_method_34_code
def yX2_turnAround : MethodName := ⟨RX2, "turnAround", "()V"⟩
def RX3 : String := "StreetMarket$Planner"
def TX3 : u_T := fun k => match k with
  | 0 => ("StreetMarket$Planner", "street", "LStreetMarket$Market;", true)
  | 1 => ("StreetMarket$Planner", "table", "[I", false)
  | 2 => ("StreetMarket$Planner", "sets", "I", false)
  | 3 => ("StreetMarket$Planner", "kinds", "I", false)
  | 4 => ("StreetMarket$Planner", "levels", "I", false)
  | 5 => ("StreetMarket$Planner", "worths", "[I", true)
  | 6 => ("StreetMarket$Planner", "needs", "[I", true)
  | 7 => ("StreetMarket$Planner", "kindsBehind", "[I", true)
  | 8 => ("StreetMarket$Planner", "kindOf", "[I", true)
  | _ => ("StreetMarket$Planner", "barred", "[I", true)
def tyX3 : Nat → FieldType := fun k => match k with
  | 0 => .object "StreetMarket$Market"
  | 1 => .array .int
  | 2 => .int
  | 3 => .int
  | 4 => .int
  | 5 => .array .int
  | 6 => .array .int
  | 7 => .array .int
  | 8 => .array .int
  | _ => .array .int
abbrev wsX30 : List Cond := u_ws RX3 TX3 10
theorem nmX3 : ∀ a, a < 10 → ∀ b, b < 10 → a ≠ b → (TX3 a).2.1 ≠ (TX3 b).2.1 := by decide +kernel
theorem tyX3_ok : ∀ k, k < 10 → parseFieldDescriptor (TX3 k).2.2.1 = some (tyX3 k) := by decide +kernel
abbrev cX3_init : ByteArray := prog_5_method_1_code
def yX3_init : MethodName := ⟨RX3, "<init>", "()V"⟩
abbrev cX3_plan : ByteArray := prog_5_method_2_code
def yX3_plan : MethodName := ⟨RX3, "plan", "(LStreetMarket$Market;)V"⟩
abbrev cX3_sortKinds : ByteArray := prog_5_method_3_code
def yX3_sortKinds : MethodName := ⟨RX3, "sortKinds", "()V"⟩
abbrev cX3_foesOf : ByteArray := prog_5_method_4_code
def yX3_foesOf : MethodName := ⟨RX3, "foesOf", "(I)I"⟩
abbrev cX3_measureBlocks : ByteArray := prog_5_method_5_code
def yX3_measureBlocks : MethodName := ⟨RX3, "measureBlocks", "()V"⟩
abbrev cX3_makeRoom : ByteArray := prog_5_method_6_code
def yX3_makeRoom : MethodName := ⟨RX3, "makeRoom", "(I)V"⟩
abbrev cX3_cell : ByteArray := prog_5_method_7_code
def yX3_cell : MethodName := ⟨RX3, "cell", "(III)I"⟩
abbrev cX3_level : ByteArray := prog_5_method_8_code
def yX3_level : MethodName := ⟨RX3, "level", "(I)I"⟩
abbrev cX3_canCome : ByteArray := prog_5_method_9_code
def yX3_canCome : MethodName := ⟨RX3, "canCome", "(III)Z"⟩
abbrev cX3_isBarred : ByteArray := prog_5_method_10_code
def yX3_isBarred : MethodName := ⟨RX3, "isBarred", "(II)Z"⟩
abbrev cX3_kindBeside : ByteArray := prog_5_method_11_code
def yX3_kindBeside : MethodName := ⟨RX3, "kindBeside", "(III)I"⟩
abbrev cX3_fill : ByteArray := prog_5_method_12_code
def yX3_fill : MethodName := ⟨RX3, "fill", "(II)V"⟩
abbrev cX3_tryStart : ByteArray := prog_5_method_13_code
def yX3_tryStart : MethodName := ⟨RX3, "tryStart", "(III)V"⟩
abbrev cX3_cellAfter : ByteArray := prog_5_method_14_code
def yX3_cellAfter : MethodName := ⟨RX3, "cellAfter", "(III)I"⟩
abbrev cX3_incomeWithout : ByteArray := prog_5_method_15_code
def yX3_incomeWithout : MethodName := ⟨RX3, "incomeWithout", "(II)I"⟩
abbrev cX3_seatBest : ByteArray := prog_5_method_16_code
def yX3_seatBest : MethodName := ⟨RX3, "seatBest", "(LStreetMarket$Market;)V"⟩
abbrev cX3_firstChoice : ByteArray := prog_5_method_17_code
def yX3_firstChoice : MethodName := ⟨RX3, "firstChoice", "(IIII)I"⟩
abbrev cX3_dearestRent : ByteArray := prog_5_method_18_code
def yX3_dearestRent : MethodName := ⟨RX3, "dearestRent", "(ILStreetMarket$Planner;)I"⟩
abbrev cX3_worthAround : ByteArray := prog_5_method_19_code
def yX3_worthAround : MethodName := ⟨RX3, "worthAround", "(IIIILStreetMarket$Planner;)I"⟩
def RX4 : String := "StreetMarket$SetupReader"
def TX4 : u_T := fun k => match k with
  | 0 => ("StreetMarket$SetupReader", "text", "[I", false)
  | 1 => ("StreetMarket$SetupReader", "length", "I", false)
  | 2 => ("StreetMarket$SetupReader", "position", "I", false)
  | 3 => ("StreetMarket$SetupReader", "rowsRead", "I", false)
  | 4 => ("StreetMarket$SetupReader", "error", "I", false)
  | _ => ("StreetMarket$SetupReader", "errorAt", "I", false)
def tyX4 : Nat → FieldType := fun k => match k with
  | 0 => .array .int
  | 1 => .int
  | 2 => .int
  | 3 => .int
  | 4 => .int
  | _ => .int
abbrev wsX40 : List Cond := u_ws RX4 TX4 6
theorem nmX4 : ∀ a, a < 6 → ∀ b, b < 6 → a ≠ b → (TX4 a).2.1 ≠ (TX4 b).2.1 := by decide +kernel
theorem tyX4_ok : ∀ k, k < 6 → parseFieldDescriptor (TX4 k).2.2.1 = some (tyX4 k) := by decide +kernel
abbrev cX4_init : ByteArray := prog_6_method_1_code
def yX4_init : MethodName := ⟨RX4, "<init>", "()V"⟩
abbrev cX4_read : ByteArray := prog_6_method_2_code
def yX4_read : MethodName := ⟨RX4, "read", "([IILStreetMarket$Market;)I"⟩
abbrev cX4_readStatement : ByteArray := prog_6_method_3_code
def yX4_readStatement : MethodName := ⟨RX4, "readStatement", "(LStreetMarket$Market;)V"⟩
abbrev cX4_readRow : ByteArray := prog_6_method_4_code
def yX4_readRow : MethodName := ⟨RX4, "readRow", "(LStreetMarket$Market;I)V"⟩
abbrev cX4_readPitch : ByteArray := prog_6_method_5_code
def yX4_readPitch : MethodName := ⟨RX4, "readPitch", "(LStreetMarket$Market;I)V"⟩
abbrev cX4_readTrader : ByteArray := prog_6_method_6_code
def yX4_readTrader : MethodName := ⟨RX4, "readTrader", "(LStreetMarket$Market;I)V"⟩
abbrev cX4_readClash : ByteArray := prog_6_method_7_code
def yX4_readClash : MethodName := ⟨RX4, "readClash", "(LStreetMarket$Market;)V"⟩
abbrev cX4_fail : ByteArray := prog_6_method_8_code
def yX4_fail : MethodName := ⟨RX4, "fail", "(II)V"⟩
abbrev cX4_skipSpaces : ByteArray := prog_6_method_9_code
def yX4_skipSpaces : MethodName := ⟨RX4, "skipSpaces", "()V"⟩
abbrev cX4_isLetter : ByteArray := prog_6_method_10_code
def yX4_isLetter : MethodName := ⟨RX4, "isLetter", "(I)Z"⟩
abbrev cX4_isDigit : ByteArray := prog_6_method_11_code
def yX4_isDigit : MethodName := ⟨RX4, "isDigit", "(I)Z"⟩
abbrev cX4_isAtDigit : ByteArray := prog_6_method_12_code
def yX4_isAtDigit : MethodName := ⟨RX4, "isAtDigit", "()Z"⟩
abbrev cX4_takesWord : ByteArray := prog_6_method_13_code
def yX4_takesWord : MethodName := ⟨RX4, "takesWord", "(Ljava/lang/String;)Z"⟩
abbrev cX4_readWord : ByteArray := prog_6_method_14_code
def yX4_readWord : MethodName := ⟨RX4, "readWord", "(Ljava/lang/String;)V"⟩
abbrev cX4_readNumber : ByteArray := prog_6_method_15_code
def yX4_readNumber : MethodName := ⟨RX4, "readNumber", "(II)I"⟩
abbrev cX4_readSemicolon : ByteArray := prog_6_method_16_code
def yX4_readSemicolon : MethodName := ⟨RX4, "readSemicolon", "()V"⟩
def RX5 : String := "StreetMarket"
def TX5 : u_T := fun k => match k with
  | 0 => ("StreetMarket", "text", "[I", true)
  | 1 => ("StreetMarket", "textLength", "I", false)
  | 2 => ("StreetMarket", "errorAt", "I", false)
  | 3 => ("StreetMarket", "reader", "LStreetMarket$SetupReader;", true)
  | 4 => ("StreetMarket", "market", "LStreetMarket$Market;", true)
  | 5 => ("StreetMarket", "draft", "LStreetMarket$Market;", true)
  | 6 => ("StreetMarket", "history", "LStreetMarket$History;", true)
  | 7 => ("StreetMarket", "planner", "LStreetMarket$Planner;", true)
  | 8 => ("StreetMarket", "trialPlanner", "LStreetMarket$Planner;", true)
  | 9 => ("StreetMarket", "insertion", "LStreetMarket$Insertion;", true)
  | 10 => ("StreetMarket", "queue", "[I", true)
  | _ => ("StreetMarket", "planned", "Z", false)
def tyX5 : Nat → FieldType := fun k => match k with
  | 0 => .array .int
  | 1 => .int
  | 2 => .int
  | 3 => .object "StreetMarket$SetupReader"
  | 4 => .object "StreetMarket$Market"
  | 5 => .object "StreetMarket$Market"
  | 6 => .object "StreetMarket$History"
  | 7 => .object "StreetMarket$Planner"
  | 8 => .object "StreetMarket$Planner"
  | 9 => .object "StreetMarket$Insertion"
  | 10 => .array .int
  | _ => .boolean
abbrev wsX50 : List Cond := u_ws RX5 TX5 12
theorem nmX5 : ∀ a, a < 12 → ∀ b, b < 12 → a ≠ b → (TX5 a).2.1 ≠ (TX5 b).2.1 := by decide +kernel
theorem tyX5_ok : ∀ k, k < 12 → parseFieldDescriptor (TX5 k).2.2.1 = some (tyX5 k) := by decide +kernel
abbrev cX5_init : ByteArray := prog_1_method_1_code
def yX5_init : MethodName := ⟨RX5, "<init>", "()V"⟩
abbrev cX5_append : ByteArray := prog_1_method_2_code
def yX5_append : MethodName := ⟨RX5, "append", "(IIIII)I"⟩
abbrev cX5_appendFour : ByteArray := prog_1_method_3_code
def yX5_appendFour : MethodName := ⟨RX5, "appendFour", "(I)V"⟩
abbrev cX5_load : ByteArray := prog_1_method_4_code
def yX5_load : MethodName := ⟨RX5, "load", "(I)I"⟩
abbrev cX5_errorPosition : ByteArray := prog_1_method_5_code
def yX5_errorPosition : MethodName := ⟨RX5, "errorPosition", "()I"⟩
abbrev cX5_pitchCount : ByteArray := prog_1_method_6_code
def yX5_pitchCount : MethodName := ⟨RX5, "pitchCount", "()I"⟩
abbrev cX5_row : ByteArray := prog_1_method_7_code
def yX5_row : MethodName := ⟨RX5, "row", "(I)I"⟩
abbrev cX5_rent : ByteArray := prog_1_method_8_code
def yX5_rent : MethodName := ⟨RX5, "rent", "(I)I"⟩
abbrev cX5_isRoofed : ByteArray := prog_1_method_9_code
def yX5_isRoofed : MethodName := ⟨RX5, "isRoofed", "(I)Z"⟩
abbrev cX5_setRent : ByteArray := prog_1_method_10_code
def yX5_setRent : MethodName := ⟨RX5, "setRent", "(II)I"⟩
abbrev cX5_traderCount : ByteArray := prog_1_method_11_code
def yX5_traderCount : MethodName := ⟨RX5, "traderCount", "()I"⟩
abbrev cX5_trade : ByteArray := prog_1_method_12_code
def yX5_trade : MethodName := ⟨RX5, "trade", "(I)I"⟩
abbrev cX5_frontage : ByteArray := prog_1_method_13_code
def yX5_frontage : MethodName := ⟨RX5, "frontage", "(I)I"⟩
abbrev cX5_addTrader : ByteArray := prog_1_method_14_code
def yX5_addTrader : MethodName := ⟨RX5, "addTrader", "(IIIZ)I"⟩
abbrev cX5_clash : ByteArray := prog_1_method_15_code
def yX5_clash : MethodName := ⟨RX5, "clash", "(II)Z"⟩
abbrev cX5_setClash : ByteArray := prog_1_method_16_code
def yX5_setClash : MethodName := ⟨RX5, "setClash", "(IIZ)V"⟩
abbrev cX5_setCovers : ByteArray := prog_1_method_17_code
def yX5_setCovers : MethodName := ⟨RX5, "setCovers", "(I)I"⟩
abbrev cX5_traderAt : ByteArray := prog_1_method_18_code
def yX5_traderAt : MethodName := ⟨RX5, "traderAt", "(I)I"⟩
abbrev cX5_start : ByteArray := prog_1_method_19_code
def yX5_start : MethodName := ⟨RX5, "start", "(I)I"⟩
abbrev cX5_obstacle : ByteArray := prog_1_method_20_code
def yX5_obstacle : MethodName := ⟨RX5, "obstacle", "(II)I"⟩
abbrev cX5_place : ByteArray := prog_1_method_21_code
def yX5_place : MethodName := ⟨RX5, "place", "(II)I"⟩
abbrev cX5_remove : ByteArray := prog_1_method_22_code
def yX5_remove : MethodName := ⟨RX5, "remove", "(I)I"⟩
abbrev cX5_swap : ByteArray := prog_1_method_23_code
def yX5_swap : MethodName := ⟨RX5, "swap", "(II)I"⟩
abbrev cX5_draftExchange : ByteArray := prog_1_method_24_code
def yX5_draftExchange : MethodName := ⟨RX5, "draftExchange", "(II)Z"⟩
abbrev cX5_clear : ByteArray := prog_1_method_25_code
def yX5_clear : MethodName := ⟨RX5, "clear", "()I"⟩
abbrev cX5_income : ByteArray := prog_1_method_26_code
def yX5_income : MethodName := ⟨RX5, "income", "()I"⟩
abbrev cX5_coversUsed : ByteArray := prog_1_method_27_code
def yX5_coversUsed : MethodName := ⟨RX5, "coversUsed", "()I"⟩
abbrev cX5_expectedIncome : ByteArray := prog_1_method_28_code
def yX5_expectedIncome : MethodName := ⟨RX5, "expectedIncome", "(D)D"⟩
abbrev cX5_bestIncome : ByteArray := prog_1_method_29_code
def yX5_bestIncome : MethodName := ⟨RX5, "bestIncome", "()I"⟩
abbrev cX5_preparePlan : ByteArray := prog_1_method_30_code
def yX5_preparePlan : MethodName := ⟨RX5, "preparePlan", "()V"⟩
abbrev cX5_optimise : ByteArray := prog_1_method_31_code
def yX5_optimise : MethodName := ⟨RX5, "optimise", "()I"⟩
abbrev cX5_clashCost : ByteArray := prog_1_method_32_code
def yX5_clashCost : MethodName := ⟨RX5, "clashCost", "(II)I"⟩
abbrev cX5_coverValue : ByteArray := prog_1_method_33_code
def yX5_coverValue : MethodName := ⟨RX5, "coverValue", "()I"⟩
abbrev cX5_contribution : ByteArray := prog_1_method_34_code
def yX5_contribution : MethodName := ⟨RX5, "contribution", "(I)I"⟩
abbrev cX5_bestRent : ByteArray := prog_1_method_35_code
def yX5_bestRent : MethodName := ⟨RX5, "bestRent", "(I)I"⟩
abbrev cX5_firstCome : ByteArray := prog_1_method_36_code
def yX5_firstCome : MethodName := ⟨RX5, "firstCome", "(J)I"⟩
abbrev cX5_readQueue : ByteArray := prog_1_method_37_code
def yX5_readQueue : MethodName := ⟨RX5, "readQueue", "(J)I"⟩
abbrev cX5_insertionIncome : ByteArray := prog_1_method_38_code
def yX5_insertionIncome : MethodName := ⟨RX5, "insertionIncome", "(II)I"⟩
abbrev cX5_insert : ByteArray := prog_1_method_39_code
def yX5_insert : MethodName := ⟨RX5, "insert", "(II)I"⟩
abbrev cX5_undo : ByteArray := prog_1_method_40_code
def yX5_undo : MethodName := ⟨RX5, "undo", "()I"⟩
abbrev cX5_requirePitch : ByteArray := prog_1_method_41_code
def yX5_requirePitch : MethodName := ⟨RX5, "requirePitch", "(I)V"⟩
abbrev cX5_requireTrader : ByteArray := prog_1_method_42_code
def yX5_requireTrader : MethodName := ⟨RX5, "requireTrader", "(I)V"⟩
abbrev cX5_requireTrades : ByteArray := prog_1_method_43_code
def yX5_requireTrades : MethodName := ⟨RX5, "requireTrades", "(II)V"⟩
abbrev cX5_requireNewcomer : ByteArray := prog_1_method_44_code
def yX5_requireNewcomer : MethodName := ⟨RX5, "requireNewcomer", "(II)V"⟩
abbrev cX5_isNoTrade : ByteArray := prog_1_method_45_code
def yX5_isNoTrade : MethodName := ⟨RX5, "isNoTrade", "(I)Z"⟩
abbrev cX5_isOutside : ByteArray := prog_1_method_46_code
def yX5_isOutside : MethodName := ⟨RX5, "isOutside", "(III)Z"⟩
def RX6 : String := "StreetMarketModel"
def TX6 : u_T := fun k => match k with
  | 0 => ("StreetMarketModel", "a", "[I", true)
  | 1 => ("StreetMarketModel", "fresh", "[I", true)
  | 2 => ("StreetMarketModel", "kept", "[I", true)
  | 3 => ("StreetMarketModel", "keptMany", "I", false)
  | 4 => ("StreetMarketModel", "thrown", "I", false)
  | 5 => ("StreetMarketModel", "buffer", "[I", true)
  | 6 => ("StreetMarketModel", "buffered", "I", false)
  | 7 => ("StreetMarketModel", "size", "I", false)
  | 8 => ("StreetMarketModel", "at", "I", false)
  | 9 => ("StreetMarketModel", "behind", "I", false)
  | 10 => ("StreetMarketModel", "kind", "I", false)
  | 11 => ("StreetMarketModel", "wrong", "I", false)
  | 12 => ("StreetMarketModel", "wrongAt", "I", false)
  | 13 => ("StreetMarketModel", "errorAt", "I", false)
  | 14 => ("StreetMarketModel", "number", "J", false)
  | 15 => ("StreetMarketModel", "best", "[I", true)
  | 16 => ("StreetMarketModel", "rentBy", "[I", true)
  | 17 => ("StreetMarketModel", "bareBy", "[I", true)
  | 18 => ("StreetMarketModel", "aheadBy", "[I", true)
  | 19 => ("StreetMarketModel", "isEdge", "[Z", true)
  | 20 => ("StreetMarketModel", "tried", "[I", true)
  | 21 => ("StreetMarketModel", "stands", "[I", true)
  | 22 => ("StreetMarketModel", "found", "[I", true)
  | 23 => ("StreetMarketModel", "foundOn", "[I", true)
  | 24 => ("StreetMarketModel", "moving", "[I", true)
  | 25 => ("StreetMarketModel", "movingMany", "I", false)
  | 26 => ("StreetMarketModel", "foundIncome", "I", false)
  | _ => ("StreetMarketModel", "foundMoves", "I", false)
def tyX6 : Nat → FieldType := fun k => match k with
  | 0 => .array .int
  | 1 => .array .int
  | 2 => .array .int
  | 3 => .int
  | 4 => .int
  | 5 => .array .int
  | 6 => .int
  | 7 => .int
  | 8 => .int
  | 9 => .int
  | 10 => .int
  | 11 => .int
  | 12 => .int
  | 13 => .int
  | 14 => .long
  | 15 => .array .int
  | 16 => .array .int
  | 17 => .array .int
  | 18 => .array .int
  | 19 => .array .boolean
  | 20 => .array .int
  | 21 => .array .int
  | 22 => .array .int
  | 23 => .array .int
  | 24 => .array .int
  | 25 => .int
  | 26 => .int
  | _ => .int
abbrev wsX60 : List Cond := u_ws RX6 TX6 28
theorem nmX6 : ∀ a, a < 28 → ∀ b, b < 28 → a ≠ b → (TX6 a).2.1 ≠ (TX6 b).2.1 := by decide +kernel
theorem tyX6_ok : ∀ k, k < 28 → parseFieldDescriptor (TX6 k).2.2.1 = some (tyX6 k) := by decide +kernel
abbrev cX6_init : ByteArray := prog_8_method_1_code
def yX6_init : MethodName := ⟨RX6, "<init>", "()V"⟩
abbrev cX6_thrown : ByteArray := prog_8_method_2_code
def yX6_thrown : MethodName := ⟨RX6, "thrown", "()I"⟩
abbrev cX6_isIn : ByteArray := prog_8_method_3_code
def yX6_isIn : MethodName := ⟨RX6, "isIn", "(JJJ)Z"⟩
abbrev cX6_keeps : ByteArray := prog_8_method_4_code
def yX6_keeps : MethodName := ⟨RX6, "keeps", "()V"⟩
abbrev cX6_undo : ByteArray := prog_8_method_5_code
def yX6_undo : MethodName := ⟨RX6, "undo", "()I"⟩
abbrev cX6_append : ByteArray := prog_8_method_6_code
def yX6_append : MethodName := ⟨RX6, "append", "(IIIII)I"⟩
abbrev cX6_see : ByteArray := prog_8_method_7_code
def yX6_see : MethodName := ⟨RX6, "see", "(I)I"⟩
abbrev cX6_isSmall : ByteArray := prog_8_method_8_code
def yX6_isSmall : MethodName := ⟨RX6, "isSmall", "(I)Z"⟩
abbrev cX6_isDigit : ByteArray := prog_8_method_9_code
def yX6_isDigit : MethodName := ⟨RX6, "isDigit", "(I)Z"⟩
abbrev cX6_keyAt : ByteArray := prog_8_method_10_code
def yX6_keyAt : MethodName := ⟨RX6, "keyAt", "()I"⟩
abbrev cX6_next : ByteArray := prog_8_method_11_code
def yX6_next : MethodName := ⟨RX6, "next", "()V"⟩
abbrev cX6_fails : ByteArray := prog_8_method_12_code
def yX6_fails : MethodName := ⟨RX6, "fails", "(I)V"⟩
abbrev cX6_is : ByteArray := prog_8_method_13_code
def yX6_is : MethodName := ⟨RX6, "is", "(I)Z"⟩
abbrev cX6_eats : ByteArray := prog_8_method_14_code
def yX6_eats : MethodName := ⟨RX6, "eats", "(I)Z"⟩
abbrev cX6_needs : ByteArray := prog_8_method_15_code
def yX6_needs : MethodName := ⟨RX6, "needs", "(I)V"⟩
abbrev cX6_takes : ByteArray := prog_8_method_16_code
def yX6_takes : MethodName := ⟨RX6, "takes", "(II)I"⟩
abbrev cX6_readsRow : ByteArray := prog_8_method_17_code
def yX6_readsRow : MethodName := ⟨RX6, "readsRow", "()V"⟩
abbrev cX6_readsTrader : ByteArray := prog_8_method_18_code
def yX6_readsTrader : MethodName := ⟨RX6, "readsTrader", "()V"⟩
abbrev cX6_readsStatement : ByteArray := prog_8_method_19_code
def yX6_readsStatement : MethodName := ⟨RX6, "readsStatement", "()V"⟩
abbrev cX6_clashes : ByteArray := prog_8_method_20_code
def yX6_clashes : MethodName := ⟨RX6, "clashes", "([IIII)V"⟩
abbrev cX6_load : ByteArray := prog_8_method_21_code
def yX6_load : MethodName := ⟨RX6, "load", "(I)I"⟩
abbrev cX6_errorPosition : ByteArray := prog_8_method_22_code
def yX6_errorPosition : MethodName := ⟨RX6, "errorPosition", "()I"⟩
abbrev cX6_isPitch : ByteArray := prog_8_method_23_code
def yX6_isPitch : MethodName := ⟨RX6, "isPitch", "(I)Z"⟩
abbrev cX6_isTrader : ByteArray := prog_8_method_24_code
def yX6_isTrader : MethodName := ⟨RX6, "isTrader", "(I)Z"⟩
abbrev cX6_areTrades : ByteArray := prog_8_method_25_code
def yX6_areTrades : MethodName := ⟨RX6, "areTrades", "(II)Z"⟩
abbrev cX6_pitchCount : ByteArray := prog_8_method_26_code
def yX6_pitchCount : MethodName := ⟨RX6, "pitchCount", "()I"⟩
abbrev cX6_pitchValue : ByteArray := prog_8_method_27_code
def yX6_pitchValue : MethodName := ⟨RX6, "pitchValue", "(II)I"⟩
abbrev cX6_traderValue : ByteArray := prog_8_method_28_code
def yX6_traderValue : MethodName := ⟨RX6, "traderValue", "(II)I"⟩
abbrev cX6_row : ByteArray := prog_8_method_29_code
def yX6_row : MethodName := ⟨RX6, "row", "(I)I"⟩
abbrev cX6_rent : ByteArray := prog_8_method_30_code
def yX6_rent : MethodName := ⟨RX6, "rent", "(I)I"⟩
abbrev cX6_isRoofed : ByteArray := prog_8_method_31_code
def yX6_isRoofed : MethodName := ⟨RX6, "isRoofed", "(I)Z"⟩
abbrev cX6_traderCount : ByteArray := prog_8_method_32_code
def yX6_traderCount : MethodName := ⟨RX6, "traderCount", "()I"⟩
abbrev cX6_trade : ByteArray := prog_8_method_33_code
def yX6_trade : MethodName := ⟨RX6, "trade", "(I)I"⟩
abbrev cX6_frontage : ByteArray := prog_8_method_34_code
def yX6_frontage : MethodName := ⟨RX6, "frontage", "(I)I"⟩
abbrev cX6_start : ByteArray := prog_8_method_35_code
def yX6_start : MethodName := ⟨RX6, "start", "(I)I"⟩
abbrev cX6_isOn : ByteArray := prog_8_method_36_code
def yX6_isOn : MethodName := ⟨RX6, "isOn", "(II)Z"⟩
abbrev cX6_on : ByteArray := prog_8_method_37_code
def yX6_on : MethodName := ⟨RX6, "on", "(I)I"⟩
abbrev cX6_traderAt : ByteArray := prog_8_method_38_code
def yX6_traderAt : MethodName := ⟨RX6, "traderAt", "(I)I"⟩
abbrev cX6_rentOf : ByteArray := prog_8_method_39_code
def yX6_rentOf : MethodName := ⟨RX6, "rentOf", "(II)I"⟩
abbrev cX6_bare : ByteArray := prog_8_method_40_code
def yX6_bare : MethodName := ⟨RX6, "bare", "(II)I"⟩
abbrev cX6_isRoom : ByteArray := prog_8_method_41_code
def yX6_isRoom : MethodName := ⟨RX6, "isRoom", "(II)Z"⟩
abbrev cX6_usedCovers : ByteArray := prog_8_method_42_code
def yX6_usedCovers : MethodName := ⟨RX6, "usedCovers", "()I"⟩
abbrev cX6_doClash : ByteArray := prog_8_method_43_code
def yX6_doClash : MethodName := ⟨RX6, "doClash", "(II)Z"⟩
abbrev cX6_setRent : ByteArray := prog_8_method_44_code
def yX6_setRent : MethodName := ⟨RX6, "setRent", "(II)I"⟩
abbrev cX6_addTrader : ByteArray := prog_8_method_45_code
def yX6_addTrader : MethodName := ⟨RX6, "addTrader", "(IIIZ)I"⟩
abbrev cX6_clash : ByteArray := prog_8_method_46_code
def yX6_clash : MethodName := ⟨RX6, "clash", "(II)Z"⟩
abbrev cX6_areBeside : ByteArray := prog_8_method_47_code
def yX6_areBeside : MethodName := ⟨RX6, "areBeside", "(II)Z"⟩
abbrev cX6_setClash : ByteArray := prog_8_method_48_code
def yX6_setClash : MethodName := ⟨RX6, "setClash", "(IIZ)V"⟩
abbrev cX6_setCovers : ByteArray := prog_8_method_49_code
def yX6_setCovers : MethodName := ⟨RX6, "setCovers", "(I)I"⟩
abbrev cX6_isFree : ByteArray := prog_8_method_50_code
def yX6_isFree : MethodName := ⟨RX6, "isFree", "(II)Z"⟩
abbrev cX6_clashesAt : ByteArray := prog_8_method_51_code
def yX6_clashesAt : MethodName := ⟨RX6, "clashesAt", "(III)Z"⟩
abbrev cX6_hinders : ByteArray := prog_8_method_52_code
def yX6_hinders : MethodName := ⟨RX6, "hinders", "(II)I"⟩
abbrev cX6_obstacle : ByteArray := prog_8_method_53_code
def yX6_obstacle : MethodName := ⟨RX6, "obstacle", "(II)I"⟩
abbrev cX6_place : ByteArray := prog_8_method_54_code
def yX6_place : MethodName := ⟨RX6, "place", "(II)I"⟩
abbrev cX6_remove : ByteArray := prog_8_method_55_code
def yX6_remove : MethodName := ⟨RX6, "remove", "(I)I"⟩
abbrev cX6_placed : ByteArray := prog_8_method_56_code
def yX6_placed : MethodName := ⟨RX6, "placed", "()I"⟩
abbrev cX6_clear : ByteArray := prog_8_method_57_code
def yX6_clear : MethodName := ⟨RX6, "clear", "()I"⟩
abbrev cX6_incomeNow : ByteArray := prog_8_method_58_code
def yX6_incomeNow : MethodName := ⟨RX6, "incomeNow", "()I"⟩
abbrev cX6_income : ByteArray := prog_8_method_59_code
def yX6_income : MethodName := ⟨RX6, "income", "()I"⟩
abbrev cX6_coversUsed : ByteArray := prog_8_method_60_code
def yX6_coversUsed : MethodName := ⟨RX6, "coversUsed", "()I"⟩
abbrev cX6_isSheltered : ByteArray := prog_8_method_61_code
def yX6_isSheltered : MethodName := ⟨RX6, "isSheltered", "(I)Z"⟩
abbrev cX6_expectedIncome : ByteArray := prog_8_method_62_code
def yX6_expectedIncome : MethodName := ⟨RX6, "expectedIncome", "(D)D"⟩
abbrev cX6_at : ByteArray := prog_8_method_63_code
def yX6_at : MethodName := ⟨RX6, "at", "(IIII)I"⟩
abbrev cX6_isSameRow : ByteArray := prog_8_method_64_code
def yX6_isSameRow : MethodName := ⟨RX6, "isSameRow", "(II)Z"⟩
abbrev cX6_laysBlocks : ByteArray := prog_8_method_65_code
def yX6_laysBlocks : MethodName := ⟨RX6, "laysBlocks", "()V"⟩
abbrev cX6_begun : ByteArray := prog_8_method_66_code
def yX6_begun : MethodName := ⟨RX6, "begun", "(IIIII)I"⟩
abbrev cX6_free : ByteArray := prog_8_method_67_code
def yX6_free : MethodName := ⟨RX6, "free", "(III)I"⟩
abbrev cX6_plans : ByteArray := prog_8_method_68_code
def yX6_plans : MethodName := ⟨RX6, "plans", "(I)I"⟩
abbrev cX6_bestIncome : ByteArray := prog_8_method_69_code
def yX6_bestIncome : MethodName := ⟨RX6, "bestIncome", "()I"⟩
abbrev cX6_optimise : ByteArray := prog_8_method_70_code
def yX6_optimise : MethodName := ⟨RX6, "optimise", "()I"⟩
abbrev cX6_clashCost : ByteArray := prog_8_method_71_code
def yX6_clashCost : MethodName := ⟨RX6, "clashCost", "(II)I"⟩
abbrev cX6_coverValue : ByteArray := prog_8_method_72_code
def yX6_coverValue : MethodName := ⟨RX6, "coverValue", "()I"⟩
abbrev cX6_contribution : ByteArray := prog_8_method_73_code
def yX6_contribution : MethodName := ⟨RX6, "contribution", "(I)I"⟩
abbrev cX6_laysEdges : ByteArray := prog_8_method_74_code
def yX6_laysEdges : MethodName := ⟨RX6, "laysEdges", "(I)V"⟩
abbrev cX6_bestRent : ByteArray := prog_8_method_75_code
def yX6_bestRent : MethodName := ⟨RX6, "bestRent", "(I)I"⟩
abbrev cX6_takesStart : ByteArray := prog_8_method_76_code
def yX6_takesStart : MethodName := ⟨RX6, "takesStart", "(I)I"⟩
abbrev cX6_isOrder : ByteArray := prog_8_method_77_code
def yX6_isOrder : MethodName := ⟨RX6, "isOrder", "(J)Z"⟩
abbrev cX6_firstCome : ByteArray := prog_8_method_78_code
def yX6_firstCome : MethodName := ⟨RX6, "firstCome", "(J)I"⟩
abbrev cX6_lays : ByteArray := prog_8_method_79_code
def yX6_lays : MethodName := ⟨RX6, "lays", "(III)V"⟩
abbrev cX6_isClear : ByteArray := prog_8_method_80_code
def yX6_isClear : MethodName := ⟨RX6, "isClear", "(II)Z"⟩
abbrev cX6_isSound : ByteArray := prog_8_method_81_code
def yX6_isSound : MethodName := ⟨RX6, "isSound", "()Z"⟩
abbrev cX6_isAhead : ByteArray := prog_8_method_82_code
def yX6_isAhead : MethodName := ⟨RX6, "isAhead", "()Z"⟩
abbrev cX6_compares : ByteArray := prog_8_method_83_code
def yX6_compares : MethodName := ⟨RX6, "compares", "()V"⟩
abbrev cX6_fits : ByteArray := prog_8_method_84_code
def yX6_fits : MethodName := ⟨RX6, "fits", "(II)Z"⟩
abbrev cX6_canSwap : ByteArray := prog_8_method_85_code
def yX6_canSwap : MethodName := ⟨RX6, "canSwap", "(II)Z"⟩
abbrev cX6_swap : ByteArray := prog_8_method_86_code
def yX6_swap : MethodName := ⟨RX6, "swap", "(II)I"⟩
abbrev cX6_seeks : ByteArray := prog_8_method_87_code
def yX6_seeks : MethodName := ⟨RX6, "seeks", "(I)V"⟩
abbrev cX6_triesMoving : ByteArray := prog_8_method_88_code
def yX6_triesMoving : MethodName := ⟨RX6, "triesMoving", "()V"⟩
abbrev cX6_seeksInsertion : ByteArray := prog_8_method_89_code
def yX6_seeksInsertion : MethodName := ⟨RX6, "seeksInsertion", "(II)V"⟩
abbrev cX6_refusesInsertion : ByteArray := prog_8_method_90_code
def yX6_refusesInsertion : MethodName := ⟨RX6, "refusesInsertion", "(II)I"⟩
abbrev cX6_insertionIncome : ByteArray := prog_8_method_91_code
def yX6_insertionIncome : MethodName := ⟨RX6, "insertionIncome", "(II)I"⟩
abbrev cX6_insert : ByteArray := prog_8_method_92_code
def yX6_insert : MethodName := ⟨RX6, "insert", "(II)I"⟩
def RJ9 : String := "java/lang/Math"
abbrev cJ9_max_7cf53 : ByteArray := prog_13_method_65_code
def yJ9_max_7cf53 : MethodName := ⟨RJ9, "max", "(II)I"⟩
abbrev cJ9_min_7cf53 : ByteArray := prog_13_method_69_code
def yJ9_min_7cf53 : MethodName := ⟨RJ9, "min", "(II)I"⟩
def RJ0 : String := "java/lang/String"
abbrev cJ0_length_8abf5 : ByteArray := prog_15_method_54_code
def yJ0_length_8abf5 : MethodName := ⟨RJ0, "length", "()I"⟩
abbrev cJ0_charAt_5068e : ByteArray := prog_15_method_56_code
def yJ0_charAt_5068e : MethodName := ⟨RJ0, "charAt", "(I)C"⟩
abbrev cJ0_coder_7d493 : ByteArray := prog_15_method_152_code
def yJ0_coder_7d493 : MethodName := ⟨RJ0, "coder", "()B"⟩
abbrev cJ0_isLatin1_aae02 : ByteArray := prog_15_method_154_code
def yJ0_isLatin1_aae02 : MethodName := ⟨RJ0, "isLatin1", "()Z"⟩
abbrev cJ0_checkIndex_df160 : ByteArray := prog_15_method_155_code
def yJ0_checkIndex_df160 : MethodName := ⟨RJ0, "checkIndex", "(II)V"⟩
def RJ1 : String := "java/lang/StringLatin1"
abbrev cJ1_charAt_3b067 : ByteArray := prog_16_method_2_code
def yJ1_charAt_3b067 : MethodName := ⟨RJ1, "charAt", "([BI)C"⟩
def RJ2 : String := "java/lang/StringUTF16"
abbrev cJ2_getChar_3b067 : ByteArray := prog_17_method_5_code
def yJ2_getChar_3b067 : MethodName := ⟨RJ2, "getChar", "([BI)C"⟩
abbrev cJ2_length_9d52b : ByteArray := prog_17_method_6_code
def yJ2_length_9d52b : MethodName := ⟨RJ2, "length", "([B)I"⟩
abbrev cJ2_charAt_3b067 : ByteArray := prog_17_method_83_code
def yJ2_charAt_3b067 : MethodName := ⟨RJ2, "charAt", "([BI)C"⟩
abbrev cJ2_checkIndex_2214a : ByteArray := prog_17_method_91_code
def yJ2_checkIndex_2214a : MethodName := ⟨RJ2, "checkIndex", "(I[B)V"⟩
def RJ3 : String := "jdk/internal/util/Preconditions"
abbrev cJ3_checkIndex_8e157 : ByteArray := prog_20_method_11_code
def yJ3_checkIndex_8e157 : MethodName := ⟨RJ3, "checkIndex", "(IILjava/util/function/BiFunction;)I"⟩
theorem dX0_init_0 : decode cX0_init 0 = .ok (.aload_n 0, 1) := by decide +kernel
theorem dX0_init_1 : decode cX0_init 1 = .ok (.invokespecial 3, 3) := by decide +kernel
theorem dX0_init_4 : decode cX0_init 4 = .ok (.aload_n 0, 1) := by decide +kernel
theorem dX0_init_5 : decode cX0_init 5 = .ok (.bipush 6, 2) := by decide +kernel
theorem dX0_init_7 : decode cX0_init 7 = .ok (.anewarray 9, 3) := by decide +kernel
theorem dX0_init_10 : decode cX0_init 10 = .ok (.putfield 11, 3) := by decide +kernel
theorem dX0_init_13 : decode cX0_init 13 = .ok (.aload_n 0, 1) := by decide +kernel
theorem dX0_init_14 : decode cX0_init 14 = .ok (.iconst 0, 1) := by decide +kernel
theorem dX0_init_15 : decode cX0_init 15 = .ok (.putfield 17, 3) := by decide +kernel
theorem dX0_init_18 : decode cX0_init 18 = .ok (.aload_n 0, 1) := by decide +kernel
theorem dX0_init_19 : decode cX0_init 19 = .ok (.iconst 0, 1) := by decide +kernel
theorem dX0_init_20 : decode cX0_init 20 = .ok (.putfield 21, 3) := by decide +kernel
theorem dX0_init_23 : decode cX0_init 23 = .ok (.iconst 0, 1) := by decide +kernel
theorem dX0_init_24 : decode cX0_init 24 = .ok (.istore_n 1, 1) := by decide +kernel
theorem dX0_init_25 : decode cX0_init 25 = .ok (.iload_n 1, 1) := by decide +kernel
theorem dX0_init_26 : decode cX0_init 26 = .ok (.bipush 6, 2) := by decide +kernel
theorem dX0_init_28 : decode cX0_init 28 = .ok (.if_icmp .ge 22, 3) := by decide +kernel
theorem dX0_init_31 : decode cX0_init 31 = .ok (.aload_n 0, 1) := by decide +kernel
theorem dX0_init_32 : decode cX0_init 32 = .ok (.getfield 11, 3) := by decide +kernel
theorem dX0_init_35 : decode cX0_init 35 = .ok (.iload_n 1, 1) := by decide +kernel
theorem dX0_init_36 : decode cX0_init 36 = .ok (.new 9, 3) := by decide +kernel
theorem dX0_init_39 : decode cX0_init 39 = .ok (.dup, 1) := by decide +kernel
theorem dX0_init_40 : decode cX0_init 40 = .ok (.invokespecial 24, 3) := by decide +kernel
theorem dX0_init_43 : decode cX0_init 43 = .ok (.aastore, 1) := by decide +kernel
theorem dX0_init_44 : decode cX0_init 44 = .ok (.iinc 1 1, 3) := by decide +kernel
theorem dX0_init_47 : decode cX0_init 47 = .ok (.goto (-22), 3) := by decide +kernel
theorem dX0_init_50 : decode cX0_init 50 = .ok (.return_, 1) := by decide +kernel
theorem dX0_remember_0 : decode cX0_remember 0 = .ok (.aload_n 0, 1) := by decide +kernel
theorem dX0_remember_1 : decode cX0_remember 1 = .ok (.aload_n 0, 1) := by decide +kernel
theorem dX0_remember_2 : decode cX0_remember 2 = .ok (.getfield 17, 3) := by decide +kernel
theorem dX0_remember_5 : decode cX0_remember 5 = .ok (.iconst 1, 1) := by decide +kernel
theorem dX0_remember_6 : decode cX0_remember 6 = .ok (.iadd, 1) := by decide +kernel
theorem dX0_remember_7 : decode cX0_remember 7 = .ok (.bipush 6, 2) := by decide +kernel
theorem dX0_remember_9 : decode cX0_remember 9 = .ok (.if_icmp .ge 12, 3) := by decide +kernel
theorem dX0_remember_12 : decode cX0_remember 12 = .ok (.aload_n 0, 1) := by decide +kernel
theorem dX0_remember_13 : decode cX0_remember 13 = .ok (.getfield 17, 3) := by decide +kernel
theorem dX0_remember_16 : decode cX0_remember 16 = .ok (.iconst 1, 1) := by decide +kernel
theorem dX0_remember_17 : decode cX0_remember 17 = .ok (.iadd, 1) := by decide +kernel
theorem dX0_remember_18 : decode cX0_remember 18 = .ok (.goto 4, 3) := by decide +kernel
theorem dX0_remember_21 : decode cX0_remember 21 = .ok (.iconst 0, 1) := by decide +kernel
theorem dX0_remember_22 : decode cX0_remember 22 = .ok (.putfield 17, 3) := by decide +kernel
theorem dX0_remember_25 : decode cX0_remember 25 = .ok (.aload_n 0, 1) := by decide +kernel
theorem dX0_remember_26 : decode cX0_remember 26 = .ok (.getfield 11, 3) := by decide +kernel
theorem dX0_remember_29 : decode cX0_remember 29 = .ok (.aload_n 0, 1) := by decide +kernel
theorem dX0_remember_30 : decode cX0_remember 30 = .ok (.getfield 17, 3) := by decide +kernel
theorem dX0_remember_33 : decode cX0_remember 33 = .ok (.aaload, 1) := by decide +kernel
theorem dX0_remember_34 : decode cX0_remember 34 = .ok (.aload_n 1, 1) := by decide +kernel
theorem dX0_remember_35 : decode cX0_remember 35 = .ok (.invokevirtual 25, 3) := by decide +kernel
theorem dX0_remember_38 : decode cX0_remember 38 = .ok (.aload_n 0, 1) := by decide +kernel
theorem dX0_remember_39 : decode cX0_remember 39 = .ok (.getfield 21, 3) := by decide +kernel
theorem dX0_remember_42 : decode cX0_remember 42 = .ok (.bipush 6, 2) := by decide +kernel
theorem dX0_remember_44 : decode cX0_remember 44 = .ok (.if_icmp .ge 13, 3) := by decide +kernel
theorem dX0_remember_47 : decode cX0_remember 47 = .ok (.aload_n 0, 1) := by decide +kernel
theorem dX0_remember_48 : decode cX0_remember 48 = .ok (.dup, 1) := by decide +kernel
theorem dX0_remember_49 : decode cX0_remember 49 = .ok (.getfield 21, 3) := by decide +kernel
theorem dX0_remember_52 : decode cX0_remember 52 = .ok (.iconst 1, 1) := by decide +kernel
theorem dX0_remember_53 : decode cX0_remember 53 = .ok (.iadd, 1) := by decide +kernel
theorem dX0_remember_54 : decode cX0_remember 54 = .ok (.putfield 21, 3) := by decide +kernel
theorem dX0_remember_57 : decode cX0_remember 57 = .ok (.return_, 1) := by decide +kernel
theorem dX0_takeBack_0 : decode cX0_takeBack 0 = .ok (.aload_n 0, 1) := by decide +kernel
theorem dX0_takeBack_1 : decode cX0_takeBack 1 = .ok (.getfield 21, 3) := by decide +kernel
theorem dX0_takeBack_4 : decode cX0_takeBack 4 = .ok (.ifCond .le 47, 3) := by decide +kernel
theorem dX0_takeBack_7 : decode cX0_takeBack 7 = .ok (.aload_n 1, 1) := by decide +kernel
theorem dX0_takeBack_8 : decode cX0_takeBack 8 = .ok (.aload_n 0, 1) := by decide +kernel
theorem dX0_takeBack_9 : decode cX0_takeBack 9 = .ok (.getfield 11, 3) := by decide +kernel
theorem dX0_takeBack_12 : decode cX0_takeBack 12 = .ok (.aload_n 0, 1) := by decide +kernel
theorem dX0_takeBack_13 : decode cX0_takeBack 13 = .ok (.getfield 17, 3) := by decide +kernel
theorem dX0_takeBack_16 : decode cX0_takeBack 16 = .ok (.aaload, 1) := by decide +kernel
theorem dX0_takeBack_17 : decode cX0_takeBack 17 = .ok (.invokevirtual 25, 3) := by decide +kernel
theorem dX0_takeBack_20 : decode cX0_takeBack 20 = .ok (.aload_n 0, 1) := by decide +kernel
theorem dX0_takeBack_21 : decode cX0_takeBack 21 = .ok (.aload_n 0, 1) := by decide +kernel
theorem dX0_takeBack_22 : decode cX0_takeBack 22 = .ok (.getfield 17, 3) := by decide +kernel
theorem dX0_takeBack_25 : decode cX0_takeBack 25 = .ok (.ifCond .le 12, 3) := by decide +kernel
theorem dX0_takeBack_28 : decode cX0_takeBack 28 = .ok (.aload_n 0, 1) := by decide +kernel
theorem dX0_takeBack_29 : decode cX0_takeBack 29 = .ok (.getfield 17, 3) := by decide +kernel
theorem dX0_takeBack_32 : decode cX0_takeBack 32 = .ok (.iconst 1, 1) := by decide +kernel
theorem dX0_takeBack_33 : decode cX0_takeBack 33 = .ok (.isub, 1) := by decide +kernel
theorem dX0_takeBack_34 : decode cX0_takeBack 34 = .ok (.goto 4, 3) := by decide +kernel
theorem dX0_takeBack_37 : decode cX0_takeBack 37 = .ok (.iconst 5, 1) := by decide +kernel
theorem dX0_takeBack_38 : decode cX0_takeBack 38 = .ok (.putfield 17, 3) := by decide +kernel
theorem dX0_takeBack_41 : decode cX0_takeBack 41 = .ok (.aload_n 0, 1) := by decide +kernel
theorem dX0_takeBack_42 : decode cX0_takeBack 42 = .ok (.dup, 1) := by decide +kernel
theorem dX0_takeBack_43 : decode cX0_takeBack 43 = .ok (.getfield 21, 3) := by decide +kernel
theorem dX0_takeBack_46 : decode cX0_takeBack 46 = .ok (.iconst 1, 1) := by decide +kernel
theorem dX0_takeBack_47 : decode cX0_takeBack 47 = .ok (.isub, 1) := by decide +kernel
theorem dX0_takeBack_48 : decode cX0_takeBack 48 = .ok (.putfield 21, 3) := by decide +kernel
theorem dX0_takeBack_51 : decode cX0_takeBack 51 = .ok (.return_, 1) := by decide +kernel
theorem dX1_init_0 : decode cX1_init 0 = .ok (.aload_n 0, 1) := by decide +kernel
theorem dX1_init_1 : decode cX1_init 1 = .ok (.invokespecial 3, 3) := by decide +kernel
theorem dX1_init_4 : decode cX1_init 4 = .ok (.aload_n 0, 1) := by decide +kernel
theorem dX1_init_5 : decode cX1_init 5 = .ok (.new 9, 3) := by decide +kernel
theorem dX1_init_8 : decode cX1_init 8 = .ok (.dup, 1) := by decide +kernel
theorem dX1_init_9 : decode cX1_init 9 = .ok (.invokespecial 11, 3) := by decide +kernel
theorem dX1_init_12 : decode cX1_init 12 = .ok (.putfield 12, 3) := by decide +kernel
theorem dX1_init_15 : decode cX1_init 15 = .ok (.aload_n 0, 1) := by decide +kernel
theorem dX1_init_16 : decode cX1_init 16 = .ok (.new 9, 3) := by decide +kernel
theorem dX1_init_19 : decode cX1_init 19 = .ok (.dup, 1) := by decide +kernel
theorem dX1_init_20 : decode cX1_init 20 = .ok (.invokespecial 11, 3) := by decide +kernel
theorem dX1_init_23 : decode cX1_init 23 = .ok (.putfield 18, 3) := by decide +kernel
theorem dX1_init_26 : decode cX1_init 26 = .ok (.aload_n 0, 1) := by decide +kernel
theorem dX1_init_27 : decode cX1_init 27 = .ok (.iconst (-1), 1) := by decide +kernel
theorem dX1_init_28 : decode cX1_init 28 = .ok (.putfield 21, 3) := by decide +kernel
theorem dX1_init_31 : decode cX1_init 31 = .ok (.aload_n 0, 1) := by decide +kernel
theorem dX1_init_32 : decode cX1_init 32 = .ok (.iconst 0, 1) := by decide +kernel
theorem dX1_init_33 : decode cX1_init 33 = .ok (.putfield 25, 3) := by decide +kernel
theorem dX1_init_36 : decode cX1_init 36 = .ok (.aload_n 0, 1) := by decide +kernel
theorem dX1_init_37 : decode cX1_init 37 = .ok (.bipush 8, 2) := by decide +kernel
theorem dX1_init_39 : decode cX1_init 39 = .ok (.newarray .int, 2) := by decide +kernel
theorem dX1_init_41 : decode cX1_init 41 = .ok (.putfield 28, 3) := by decide +kernel
theorem dX1_init_44 : decode cX1_init 44 = .ok (.aload_n 0, 1) := by decide +kernel
theorem dX1_init_45 : decode cX1_init 45 = .ok (.iconst 3, 1) := by decide +kernel
theorem dX1_init_46 : decode cX1_init 46 = .ok (.newarray .int, 2) := by decide +kernel
theorem dX1_init_48 : decode cX1_init 48 = .ok (.putfield 32, 3) := by decide +kernel
theorem dX1_init_51 : decode cX1_init 51 = .ok (.aload_n 0, 1) := by decide +kernel
theorem dX1_init_52 : decode cX1_init 52 = .ok (.iconst 4, 1) := by decide +kernel
theorem dX1_init_53 : decode cX1_init 53 = .ok (.newarray .int, 2) := by decide +kernel
theorem dX1_init_55 : decode cX1_init 55 = .ok (.putfield 35, 3) := by decide +kernel
theorem dX1_init_58 : decode cX1_init 58 = .ok (.return_, 1) := by decide +kernel
theorem dX1_search_0 : decode cX1_search 0 = .ok (.aload_n 0, 1) := by decide +kernel
theorem dX1_search_1 : decode cX1_search 1 = .ok (.getfield 12, 3) := by decide +kernel
theorem dX1_search_4 : decode cX1_search 4 = .ok (.aload_n 1, 1) := by decide +kernel
theorem dX1_search_5 : decode cX1_search 5 = .ok (.invokevirtual 38, 3) := by decide +kernel
theorem dX1_search_8 : decode cX1_search 8 = .ok (.aload_n 1, 1) := by decide +kernel
theorem dX1_search_9 : decode cX1_search 9 = .ok (.getfield 42, 3) := by decide +kernel
theorem dX1_search_12 : decode cX1_search 12 = .ok (.iconst 0, 1) := by decide +kernel
theorem dX1_search_13 : decode cX1_search 13 = .ok (.aload_n 0, 1) := by decide +kernel
theorem dX1_search_14 : decode cX1_search 14 = .ok (.getfield 28, 3) := by decide +kernel
theorem dX1_search_17 : decode cX1_search 17 = .ok (.iconst 0, 1) := by decide +kernel
theorem dX1_search_18 : decode cX1_search 18 = .ok (.bipush 8, 2) := by decide +kernel
theorem dX1_search_20 : decode cX1_search 20 = .ok (.invokestatic 45, 3) := by decide +kernel
theorem dX1_search_23 : decode cX1_search 23 = .ok (.aload_n 0, 1) := by decide +kernel
theorem dX1_search_24 : decode cX1_search 24 = .ok (.iconst (-1), 1) := by decide +kernel
theorem dX1_search_25 : decode cX1_search 25 = .ok (.putfield 21, 3) := by decide +kernel
theorem dX1_search_28 : decode cX1_search 28 = .ok (.aload_n 0, 1) := by decide +kernel
theorem dX1_search_29 : decode cX1_search 29 = .ok (.iconst 0, 1) := by decide +kernel
theorem dX1_search_30 : decode cX1_search 30 = .ok (.putfield 25, 3) := by decide +kernel
theorem dX1_search_33 : decode cX1_search 33 = .ok (.aload_n 0, 1) := by decide +kernel
theorem dX1_search_34 : decode cX1_search 34 = .ok (.getfield 32, 3) := by decide +kernel
theorem dX1_search_37 : decode cX1_search 37 = .ok (.iconst 0, 1) := by decide +kernel
theorem dX1_search_38 : decode cX1_search 38 = .ok (.iload_n 2, 1) := by decide +kernel
theorem dX1_search_39 : decode cX1_search 39 = .ok (.iastore, 1) := by decide +kernel
theorem dX1_search_40 : decode cX1_search 40 = .ok (.aload_n 0, 1) := by decide +kernel
theorem dX1_search_41 : decode cX1_search 41 = .ok (.iconst 0, 1) := by decide +kernel
theorem dX1_search_42 : decode cX1_search 42 = .ok (.iconst 0, 1) := by decide +kernel
theorem dX1_search_43 : decode cX1_search 43 = .ok (.iload_n 3, 1) := by decide +kernel
theorem dX1_search_44 : decode cX1_search 44 = .ok (.invokevirtual 51, 3) := by decide +kernel
theorem dX1_search_47 : decode cX1_search 47 = .ok (.return_, 1) := by decide +kernel
theorem dX1_chooseMovers_0 : decode cX1_chooseMovers 0 = .ok (.aload_n 0, 1) := by decide +kernel
theorem dX1_chooseMovers_1 : decode cX1_chooseMovers 1 = .ok (.iload_n 1, 1) := by decide +kernel
theorem dX1_chooseMovers_2 : decode cX1_chooseMovers 2 = .ok (.invokevirtual 55, 3) := by decide +kernel
theorem dX1_chooseMovers_5 : decode cX1_chooseMovers 5 = .ok (.ifCond .eq 16, 3) := by decide +kernel
theorem dX1_chooseMovers_8 : decode cX1_chooseMovers 8 = .ok (.aload_n 0, 1) := by decide +kernel
theorem dX1_chooseMovers_9 : decode cX1_chooseMovers 9 = .ok (.iconst 0, 1) := by decide +kernel
theorem dX1_chooseMovers_10 : decode cX1_chooseMovers 10 = .ok (.iload_n 1, 1) := by decide +kernel
theorem dX1_chooseMovers_11 : decode cX1_chooseMovers 11 = .ok (.aload_n 0, 1) := by decide +kernel
theorem dX1_chooseMovers_12 : decode cX1_chooseMovers 12 = .ok (.getfield 12, 3) := by decide +kernel
theorem dX1_chooseMovers_15 : decode cX1_chooseMovers 15 = .ok (.invokevirtual 59, 3) := by decide +kernel
theorem dX1_chooseMovers_18 : decode cX1_chooseMovers 18 = .ok (.invokevirtual 63, 3) := by decide +kernel
theorem dX1_chooseMovers_21 : decode cX1_chooseMovers 21 = .ok (.iload_n 1, 1) := by decide +kernel
theorem dX1_chooseMovers_22 : decode cX1_chooseMovers 22 = .ok (.iload_n 3, 1) := by decide +kernel
theorem dX1_chooseMovers_23 : decode cX1_chooseMovers 23 = .ok (.if_icmp .ge 8, 3) := by decide +kernel
theorem dX1_chooseMovers_26 : decode cX1_chooseMovers 26 = .ok (.iload_n 1, 1) := by decide +kernel
theorem dX1_chooseMovers_27 : decode cX1_chooseMovers 27 = .ok (.iconst 2, 1) := by decide +kernel
theorem dX1_chooseMovers_28 : decode cX1_chooseMovers 28 = .ok (.if_icmp .lt 4, 3) := by decide +kernel
theorem dX1_chooseMovers_31 : decode cX1_chooseMovers 31 = .ok (.return_, 1) := by decide +kernel
theorem dX1_chooseMovers_32 : decode cX1_chooseMovers 32 = .ok (.iload_n 2, 1) := by decide +kernel
theorem dX1_chooseMovers_33 : decode cX1_chooseMovers 33 = .ok (.istore 4, 2) := by decide +kernel
theorem dX1_chooseMovers_35 : decode cX1_chooseMovers 35 = .ok (.iload 4, 2) := by decide +kernel
theorem dX1_chooseMovers_37 : decode cX1_chooseMovers 37 = .ok (.aload_n 0, 1) := by decide +kernel
theorem dX1_chooseMovers_38 : decode cX1_chooseMovers 38 = .ok (.getfield 12, 3) := by decide +kernel
theorem dX1_chooseMovers_41 : decode cX1_chooseMovers 41 = .ok (.getfield 66, 3) := by decide +kernel
theorem dX1_chooseMovers_44 : decode cX1_chooseMovers 44 = .ok (.if_icmp .ge 68, 3) := by decide +kernel
theorem dX1_chooseMovers_47 : decode cX1_chooseMovers 47 = .ok (.aload_n 0, 1) := by decide +kernel
theorem dX1_chooseMovers_48 : decode cX1_chooseMovers 48 = .ok (.getfield 12, 3) := by decide +kernel
theorem dX1_chooseMovers_51 : decode cX1_chooseMovers 51 = .ok (.iload 4, 2) := by decide +kernel
theorem dX1_chooseMovers_53 : decode cX1_chooseMovers 53 = .ok (.invokevirtual 69, 3) := by decide +kernel
theorem dX1_chooseMovers_56 : decode cX1_chooseMovers 56 = .ok (.ifCond .eq 50, 3) := by decide +kernel
theorem dX1_chooseMovers_59 : decode cX1_chooseMovers 59 = .ok (.aload_n 0, 1) := by decide +kernel
theorem dX1_chooseMovers_60 : decode cX1_chooseMovers 60 = .ok (.getfield 12, 3) := by decide +kernel
theorem dX1_chooseMovers_63 : decode cX1_chooseMovers 63 = .ok (.iload 4, 2) := by decide +kernel
theorem dX1_chooseMovers_65 : decode cX1_chooseMovers 65 = .ok (.invokevirtual 72, 3) := by decide +kernel
theorem dX1_chooseMovers_68 : decode cX1_chooseMovers 68 = .ok (.aload_n 0, 1) := by decide +kernel
theorem dX1_chooseMovers_69 : decode cX1_chooseMovers 69 = .ok (.getfield 32, 3) := by decide +kernel
theorem dX1_chooseMovers_72 : decode cX1_chooseMovers 72 = .ok (.iload_n 1, 1) := by decide +kernel
theorem dX1_chooseMovers_73 : decode cX1_chooseMovers 73 = .ok (.iconst 1, 1) := by decide +kernel
theorem dX1_chooseMovers_74 : decode cX1_chooseMovers 74 = .ok (.iadd, 1) := by decide +kernel
theorem dX1_chooseMovers_75 : decode cX1_chooseMovers 75 = .ok (.iload 4, 2) := by decide +kernel
theorem dX1_chooseMovers_77 : decode cX1_chooseMovers 77 = .ok (.iastore, 1) := by decide +kernel
theorem dX1_chooseMovers_78 : decode cX1_chooseMovers 78 = .ok (.aload_n 0, 1) := by decide +kernel
theorem dX1_chooseMovers_79 : decode cX1_chooseMovers 79 = .ok (.iload_n 1, 1) := by decide +kernel
theorem dX1_chooseMovers_80 : decode cX1_chooseMovers 80 = .ok (.iconst 1, 1) := by decide +kernel
theorem dX1_chooseMovers_81 : decode cX1_chooseMovers 81 = .ok (.iadd, 1) := by decide +kernel
theorem dX1_chooseMovers_82 : decode cX1_chooseMovers 82 = .ok (.iload 4, 2) := by decide +kernel
theorem dX1_chooseMovers_84 : decode cX1_chooseMovers 84 = .ok (.iconst 1, 1) := by decide +kernel
theorem dX1_chooseMovers_85 : decode cX1_chooseMovers 85 = .ok (.iadd, 1) := by decide +kernel
theorem dX1_chooseMovers_86 : decode cX1_chooseMovers 86 = .ok (.iload_n 3, 1) := by decide +kernel
theorem dX1_chooseMovers_87 : decode cX1_chooseMovers 87 = .ok (.invokevirtual 51, 3) := by decide +kernel
theorem dX1_chooseMovers_90 : decode cX1_chooseMovers 90 = .ok (.aload_n 0, 1) := by decide +kernel
theorem dX1_chooseMovers_91 : decode cX1_chooseMovers 91 = .ok (.getfield 12, 3) := by decide +kernel
theorem dX1_chooseMovers_94 : decode cX1_chooseMovers 94 = .ok (.iload 4, 2) := by decide +kernel
theorem dX1_chooseMovers_96 : decode cX1_chooseMovers 96 = .ok (.aload_n 0, 1) := by decide +kernel
theorem dX1_chooseMovers_97 : decode cX1_chooseMovers 97 = .ok (.getfield 28, 3) := by decide +kernel
theorem dX1_chooseMovers_100 : decode cX1_chooseMovers 100 = .ok (.iload 4, 2) := by decide +kernel
theorem dX1_chooseMovers_102 : decode cX1_chooseMovers 102 = .ok (.iaload, 1) := by decide +kernel
theorem dX1_chooseMovers_103 : decode cX1_chooseMovers 103 = .ok (.invokevirtual 76, 3) := by decide +kernel
theorem dX1_chooseMovers_106 : decode cX1_chooseMovers 106 = .ok (.iinc 4 1, 3) := by decide +kernel
theorem dX1_chooseMovers_109 : decode cX1_chooseMovers 109 = .ok (.goto (-74), 3) := by decide +kernel
theorem dX1_chooseMovers_112 : decode cX1_chooseMovers 112 = .ok (.return_, 1) := by decide +kernel
theorem dX1_sumHopes_0 : decode cX1_sumHopes 0 = .ok (.aload_n 0, 1) := by decide +kernel
theorem dX1_sumHopes_1 : decode cX1_sumHopes 1 = .ok (.getfield 35, 3) := by decide +kernel
theorem dX1_sumHopes_4 : decode cX1_sumHopes 4 = .ok (.iload_n 1, 1) := by decide +kernel
theorem dX1_sumHopes_5 : decode cX1_sumHopes 5 = .ok (.iconst 1, 1) := by decide +kernel
theorem dX1_sumHopes_6 : decode cX1_sumHopes 6 = .ok (.iadd, 1) := by decide +kernel
theorem dX1_sumHopes_7 : decode cX1_sumHopes 7 = .ok (.iconst 0, 1) := by decide +kernel
theorem dX1_sumHopes_8 : decode cX1_sumHopes 8 = .ok (.iastore, 1) := by decide +kernel
theorem dX1_sumHopes_9 : decode cX1_sumHopes 9 = .ok (.iload_n 1, 1) := by decide +kernel
theorem dX1_sumHopes_10 : decode cX1_sumHopes 10 = .ok (.istore_n 2, 1) := by decide +kernel
theorem dX1_sumHopes_11 : decode cX1_sumHopes 11 = .ok (.iload_n 2, 1) := by decide +kernel
theorem dX1_sumHopes_12 : decode cX1_sumHopes 12 = .ok (.ifCond .lt 70, 3) := by decide +kernel
theorem dX1_sumHopes_15 : decode cX1_sumHopes 15 = .ok (.aload_n 0, 1) := by decide +kernel
theorem dX1_sumHopes_16 : decode cX1_sumHopes 16 = .ok (.getfield 12, 3) := by decide +kernel
theorem dX1_sumHopes_19 : decode cX1_sumHopes 19 = .ok (.aload_n 0, 1) := by decide +kernel
theorem dX1_sumHopes_20 : decode cX1_sumHopes 20 = .ok (.getfield 32, 3) := by decide +kernel
theorem dX1_sumHopes_23 : decode cX1_sumHopes 23 = .ok (.iload_n 2, 1) := by decide +kernel
theorem dX1_sumHopes_24 : decode cX1_sumHopes 24 = .ok (.iaload, 1) := by decide +kernel
theorem dX1_sumHopes_25 : decode cX1_sumHopes 25 = .ok (.aload_n 0, 1) := by decide +kernel
theorem dX1_sumHopes_26 : decode cX1_sumHopes 26 = .ok (.getfield 28, 3) := by decide +kernel
theorem dX1_sumHopes_29 : decode cX1_sumHopes 29 = .ok (.aload_n 0, 1) := by decide +kernel
theorem dX1_sumHopes_30 : decode cX1_sumHopes 30 = .ok (.getfield 32, 3) := by decide +kernel
theorem dX1_sumHopes_33 : decode cX1_sumHopes 33 = .ok (.iload_n 2, 1) := by decide +kernel
theorem dX1_sumHopes_34 : decode cX1_sumHopes 34 = .ok (.iaload, 1) := by decide +kernel
theorem dX1_sumHopes_35 : decode cX1_sumHopes 35 = .ok (.iaload, 1) := by decide +kernel
theorem dX1_sumHopes_36 : decode cX1_sumHopes 36 = .ok (.invokevirtual 80, 3) := by decide +kernel
theorem dX1_sumHopes_39 : decode cX1_sumHopes 39 = .ok (.istore_n 3, 1) := by decide +kernel
theorem dX1_sumHopes_40 : decode cX1_sumHopes 40 = .ok (.iload_n 3, 1) := by decide +kernel
theorem dX1_sumHopes_41 : decode cX1_sumHopes 41 = .ok (.iconst (-1), 1) := by decide +kernel
theorem dX1_sumHopes_42 : decode cX1_sumHopes 42 = .ok (.if_icmp .ne 5, 3) := by decide +kernel
theorem dX1_sumHopes_45 : decode cX1_sumHopes 45 = .ok (.iconst 0, 1) := by decide +kernel
theorem dX1_sumHopes_46 : decode cX1_sumHopes 46 = .ok (.ireturn, 1) := by decide +kernel
theorem dX1_sumHopes_47 : decode cX1_sumHopes 47 = .ok (.aload_n 0, 1) := by decide +kernel
theorem dX1_sumHopes_48 : decode cX1_sumHopes 48 = .ok (.getfield 35, 3) := by decide +kernel
theorem dX1_sumHopes_51 : decode cX1_sumHopes 51 = .ok (.iload_n 2, 1) := by decide +kernel
theorem dX1_sumHopes_52 : decode cX1_sumHopes 52 = .ok (.aload_n 0, 1) := by decide +kernel
theorem dX1_sumHopes_53 : decode cX1_sumHopes 53 = .ok (.getfield 35, 3) := by decide +kernel
theorem dX1_sumHopes_56 : decode cX1_sumHopes 56 = .ok (.iload_n 2, 1) := by decide +kernel
theorem dX1_sumHopes_57 : decode cX1_sumHopes 57 = .ok (.iconst 1, 1) := by decide +kernel
theorem dX1_sumHopes_58 : decode cX1_sumHopes 58 = .ok (.iadd, 1) := by decide +kernel
theorem dX1_sumHopes_59 : decode cX1_sumHopes 59 = .ok (.iaload, 1) := by decide +kernel
theorem dX1_sumHopes_60 : decode cX1_sumHopes 60 = .ok (.aload_n 0, 1) := by decide +kernel
theorem dX1_sumHopes_61 : decode cX1_sumHopes 61 = .ok (.getfield 12, 3) := by decide +kernel
theorem dX1_sumHopes_64 : decode cX1_sumHopes 64 = .ok (.aload_n 0, 1) := by decide +kernel
theorem dX1_sumHopes_65 : decode cX1_sumHopes 65 = .ok (.getfield 32, 3) := by decide +kernel
theorem dX1_sumHopes_68 : decode cX1_sumHopes 68 = .ok (.iload_n 2, 1) := by decide +kernel
theorem dX1_sumHopes_69 : decode cX1_sumHopes 69 = .ok (.iaload, 1) := by decide +kernel
theorem dX1_sumHopes_70 : decode cX1_sumHopes 70 = .ok (.iload_n 3, 1) := by decide +kernel
theorem dX1_sumHopes_71 : decode cX1_sumHopes 71 = .ok (.invokevirtual 84, 3) := by decide +kernel
theorem dX1_sumHopes_74 : decode cX1_sumHopes 74 = .ok (.iadd, 1) := by decide +kernel
theorem dX1_sumHopes_75 : decode cX1_sumHopes 75 = .ok (.iastore, 1) := by decide +kernel
theorem dX1_sumHopes_76 : decode cX1_sumHopes 76 = .ok (.iinc 2 (-1), 3) := by decide +kernel
theorem dX1_sumHopes_79 : decode cX1_sumHopes 79 = .ok (.goto (-68), 3) := by decide +kernel
theorem dX1_sumHopes_82 : decode cX1_sumHopes 82 = .ok (.iconst 1, 1) := by decide +kernel
theorem dX1_sumHopes_83 : decode cX1_sumHopes 83 = .ok (.ireturn, 1) := by decide +kernel
theorem dX1_isHopeless_0 : decode cX1_isHopeless 0 = .ok (.iload_n 2, 1) := by decide +kernel
theorem dX1_isHopeless_1 : decode cX1_isHopeless 1 = .ok (.aload_n 0, 1) := by decide +kernel
theorem dX1_isHopeless_2 : decode cX1_isHopeless 2 = .ok (.getfield 21, 3) := by decide +kernel
theorem dX1_isHopeless_5 : decode cX1_isHopeless 5 = .ok (.if_icmp .lt 19, 3) := by decide +kernel
theorem dX1_isHopeless_8 : decode cX1_isHopeless 8 = .ok (.iload_n 2, 1) := by decide +kernel
theorem dX1_isHopeless_9 : decode cX1_isHopeless 9 = .ok (.aload_n 0, 1) := by decide +kernel
theorem dX1_isHopeless_10 : decode cX1_isHopeless 10 = .ok (.getfield 21, 3) := by decide +kernel
theorem dX1_isHopeless_13 : decode cX1_isHopeless 13 = .ok (.if_icmp .ne 15, 3) := by decide +kernel
theorem dX1_isHopeless_16 : decode cX1_isHopeless 16 = .ok (.iload_n 1, 1) := by decide +kernel
theorem dX1_isHopeless_17 : decode cX1_isHopeless 17 = .ok (.aload_n 0, 1) := by decide +kernel
theorem dX1_isHopeless_18 : decode cX1_isHopeless 18 = .ok (.getfield 25, 3) := by decide +kernel
theorem dX1_isHopeless_21 : decode cX1_isHopeless 21 = .ok (.if_icmp .le 7, 3) := by decide +kernel
theorem dX1_isHopeless_24 : decode cX1_isHopeless 24 = .ok (.iconst 1, 1) := by decide +kernel
theorem dX1_isHopeless_25 : decode cX1_isHopeless 25 = .ok (.goto 4, 3) := by decide +kernel
theorem dX1_isHopeless_28 : decode cX1_isHopeless 28 = .ok (.iconst 0, 1) := by decide +kernel
theorem dX1_isHopeless_29 : decode cX1_isHopeless 29 = .ok (.ireturn, 1) := by decide +kernel
theorem dX1_seatWalkers_0 : decode cX1_seatWalkers 0 = .ok (.aload_n 0, 1) := by decide +kernel
theorem dX1_seatWalkers_1 : decode cX1_seatWalkers 1 = .ok (.iload_n 2, 1) := by decide +kernel
theorem dX1_seatWalkers_2 : decode cX1_seatWalkers 2 = .ok (.iload_n 3, 1) := by decide +kernel
theorem dX1_seatWalkers_3 : decode cX1_seatWalkers 3 = .ok (.aload_n 0, 1) := by decide +kernel
theorem dX1_seatWalkers_4 : decode cX1_seatWalkers 4 = .ok (.getfield 35, 3) := by decide +kernel
theorem dX1_seatWalkers_7 : decode cX1_seatWalkers 7 = .ok (.iload_n 1, 1) := by decide +kernel
theorem dX1_seatWalkers_8 : decode cX1_seatWalkers 8 = .ok (.iaload, 1) := by decide +kernel
theorem dX1_seatWalkers_9 : decode cX1_seatWalkers 9 = .ok (.iadd, 1) := by decide +kernel
theorem dX1_seatWalkers_10 : decode cX1_seatWalkers 10 = .ok (.invokevirtual 87, 3) := by decide +kernel
theorem dX1_seatWalkers_13 : decode cX1_seatWalkers 13 = .ok (.ifCond .eq 4, 3) := by decide +kernel
theorem dX1_seatWalkers_16 : decode cX1_seatWalkers 16 = .ok (.return_, 1) := by decide +kernel
theorem dX1_seatWalkers_17 : decode cX1_seatWalkers 17 = .ok (.iload_n 1, 1) := by decide +kernel
theorem dX1_seatWalkers_18 : decode cX1_seatWalkers 18 = .ok (.iload_n 2, 1) := by decide +kernel
theorem dX1_seatWalkers_19 : decode cX1_seatWalkers 19 = .ok (.if_icmp .gt 8, 3) := by decide +kernel
theorem dX1_seatWalkers_22 : decode cX1_seatWalkers 22 = .ok (.iload_n 1, 1) := by decide +kernel
theorem dX1_seatWalkers_23 : decode cX1_seatWalkers 23 = .ok (.iconst 2, 1) := by decide +kernel
theorem dX1_seatWalkers_24 : decode cX1_seatWalkers 24 = .ok (.if_icmp .le 10, 3) := by decide +kernel
theorem dX1_seatWalkers_27 : decode cX1_seatWalkers 27 = .ok (.aload_n 0, 1) := by decide +kernel
theorem dX1_seatWalkers_28 : decode cX1_seatWalkers 28 = .ok (.iload_n 2, 1) := by decide +kernel
theorem dX1_seatWalkers_29 : decode cX1_seatWalkers 29 = .ok (.iload_n 3, 1) := by decide +kernel
theorem dX1_seatWalkers_30 : decode cX1_seatWalkers 30 = .ok (.invokevirtual 91, 3) := by decide +kernel
theorem dX1_seatWalkers_33 : decode cX1_seatWalkers 33 = .ok (.return_, 1) := by decide +kernel
theorem dX1_seatWalkers_34 : decode cX1_seatWalkers 34 = .ok (.aload_n 0, 1) := by decide +kernel
theorem dX1_seatWalkers_35 : decode cX1_seatWalkers 35 = .ok (.getfield 32, 3) := by decide +kernel
theorem dX1_seatWalkers_38 : decode cX1_seatWalkers 38 = .ok (.iload_n 1, 1) := by decide +kernel
theorem dX1_seatWalkers_39 : decode cX1_seatWalkers 39 = .ok (.iaload, 1) := by decide +kernel
theorem dX1_seatWalkers_40 : decode cX1_seatWalkers 40 = .ok (.istore 4, 2) := by decide +kernel
theorem dX1_seatWalkers_42 : decode cX1_seatWalkers 42 = .ok (.iconst 0, 1) := by decide +kernel
theorem dX1_seatWalkers_43 : decode cX1_seatWalkers 43 = .ok (.istore 5, 2) := by decide +kernel
theorem dX1_seatWalkers_45 : decode cX1_seatWalkers 45 = .ok (.iload 5, 2) := by decide +kernel
theorem dX1_seatWalkers_47 : decode cX1_seatWalkers 47 = .ok (.aload_n 0, 1) := by decide +kernel
theorem dX1_seatWalkers_48 : decode cX1_seatWalkers 48 = .ok (.getfield 12, 3) := by decide +kernel
theorem dX1_seatWalkers_51 : decode cX1_seatWalkers 51 = .ok (.getfield 94, 3) := by decide +kernel
theorem dX1_seatWalkers_54 : decode cX1_seatWalkers 54 = .ok (.if_icmp .ge 65, 3) := by decide +kernel
theorem dX1_seatWalkers_57 : decode cX1_seatWalkers 57 = .ok (.iload 5, 2) := by decide +kernel
theorem dX1_seatWalkers_59 : decode cX1_seatWalkers 59 = .ok (.aload_n 0, 1) := by decide +kernel
theorem dX1_seatWalkers_60 : decode cX1_seatWalkers 60 = .ok (.getfield 28, 3) := by decide +kernel
theorem dX1_seatWalkers_63 : decode cX1_seatWalkers 63 = .ok (.iload 4, 2) := by decide +kernel
theorem dX1_seatWalkers_65 : decode cX1_seatWalkers 65 = .ok (.iaload, 1) := by decide +kernel
theorem dX1_seatWalkers_66 : decode cX1_seatWalkers 66 = .ok (.if_icmp .eq 47, 3) := by decide +kernel
theorem dX1_seatWalkers_69 : decode cX1_seatWalkers 69 = .ok (.aload_n 0, 1) := by decide +kernel
theorem dX1_seatWalkers_70 : decode cX1_seatWalkers 70 = .ok (.getfield 12, 3) := by decide +kernel
theorem dX1_seatWalkers_73 : decode cX1_seatWalkers 73 = .ok (.iload 4, 2) := by decide +kernel
theorem dX1_seatWalkers_75 : decode cX1_seatWalkers 75 = .ok (.iload 5, 2) := by decide +kernel
theorem dX1_seatWalkers_77 : decode cX1_seatWalkers 77 = .ok (.invokevirtual 97, 3) := by decide +kernel
theorem dX1_seatWalkers_80 : decode cX1_seatWalkers 80 = .ok (.ifCond .eq 33, 3) := by decide +kernel
theorem dX1_seatWalkers_83 : decode cX1_seatWalkers 83 = .ok (.aload_n 0, 1) := by decide +kernel
theorem dX1_seatWalkers_84 : decode cX1_seatWalkers 84 = .ok (.iload_n 1, 1) := by decide +kernel
theorem dX1_seatWalkers_85 : decode cX1_seatWalkers 85 = .ok (.iconst 1, 1) := by decide +kernel
theorem dX1_seatWalkers_86 : decode cX1_seatWalkers 86 = .ok (.iadd, 1) := by decide +kernel
theorem dX1_seatWalkers_87 : decode cX1_seatWalkers 87 = .ok (.iload_n 2, 1) := by decide +kernel
theorem dX1_seatWalkers_88 : decode cX1_seatWalkers 88 = .ok (.iload_n 3, 1) := by decide +kernel
theorem dX1_seatWalkers_89 : decode cX1_seatWalkers 89 = .ok (.aload_n 0, 1) := by decide +kernel
theorem dX1_seatWalkers_90 : decode cX1_seatWalkers 90 = .ok (.getfield 12, 3) := by decide +kernel
theorem dX1_seatWalkers_93 : decode cX1_seatWalkers 93 = .ok (.iload 4, 2) := by decide +kernel
theorem dX1_seatWalkers_95 : decode cX1_seatWalkers 95 = .ok (.iload 5, 2) := by decide +kernel
theorem dX1_seatWalkers_97 : decode cX1_seatWalkers 97 = .ok (.invokevirtual 84, 3) := by decide +kernel
theorem dX1_seatWalkers_100 : decode cX1_seatWalkers 100 = .ok (.iadd, 1) := by decide +kernel
theorem dX1_seatWalkers_101 : decode cX1_seatWalkers 101 = .ok (.invokevirtual 63, 3) := by decide +kernel
theorem dX1_seatWalkers_104 : decode cX1_seatWalkers 104 = .ok (.aload_n 0, 1) := by decide +kernel
theorem dX1_seatWalkers_105 : decode cX1_seatWalkers 105 = .ok (.getfield 12, 3) := by decide +kernel
theorem dX1_seatWalkers_108 : decode cX1_seatWalkers 108 = .ok (.iload 4, 2) := by decide +kernel
theorem dX1_seatWalkers_110 : decode cX1_seatWalkers 110 = .ok (.invokevirtual 72, 3) := by decide +kernel
theorem dX1_seatWalkers_113 : decode cX1_seatWalkers 113 = .ok (.iinc 5 1, 3) := by decide +kernel
theorem dX1_seatWalkers_116 : decode cX1_seatWalkers 116 = .ok (.goto (-71), 3) := by decide +kernel
theorem dX1_seatWalkers_119 : decode cX1_seatWalkers 119 = .ok (.return_, 1) := by decide +kernel
theorem dX1_consider_0 : decode cX1_consider 0 = .ok (.iload_n 2, 1) := by decide +kernel
theorem dX1_consider_1 : decode cX1_consider 1 = .ok (.aload_n 0, 1) := by decide +kernel
theorem dX1_consider_2 : decode cX1_consider 2 = .ok (.getfield 21, 3) := by decide +kernel
theorem dX1_consider_5 : decode cX1_consider 5 = .ok (.if_icmp .gt 41, 3) := by decide +kernel
theorem dX1_consider_8 : decode cX1_consider 8 = .ok (.iload_n 2, 1) := by decide +kernel
theorem dX1_consider_9 : decode cX1_consider 9 = .ok (.aload_n 0, 1) := by decide +kernel
theorem dX1_consider_10 : decode cX1_consider 10 = .ok (.getfield 21, 3) := by decide +kernel
theorem dX1_consider_13 : decode cX1_consider 13 = .ok (.if_icmp .ne 54, 3) := by decide +kernel
theorem dX1_consider_16 : decode cX1_consider 16 = .ok (.iload_n 1, 1) := by decide +kernel
theorem dX1_consider_17 : decode cX1_consider 17 = .ok (.aload_n 0, 1) := by decide +kernel
theorem dX1_consider_18 : decode cX1_consider 18 = .ok (.getfield 25, 3) := by decide +kernel
theorem dX1_consider_21 : decode cX1_consider 21 = .ok (.if_icmp .lt 25, 3) := by decide +kernel
theorem dX1_consider_24 : decode cX1_consider 24 = .ok (.iload_n 1, 1) := by decide +kernel
theorem dX1_consider_25 : decode cX1_consider 25 = .ok (.aload_n 0, 1) := by decide +kernel
theorem dX1_consider_26 : decode cX1_consider 26 = .ok (.getfield 25, 3) := by decide +kernel
theorem dX1_consider_29 : decode cX1_consider 29 = .ok (.if_icmp .ne 38, 3) := by decide +kernel
theorem dX1_consider_32 : decode cX1_consider 32 = .ok (.aload_n 0, 1) := by decide +kernel
theorem dX1_consider_33 : decode cX1_consider 33 = .ok (.getfield 12, 3) := by decide +kernel
theorem dX1_consider_36 : decode cX1_consider 36 = .ok (.aload_n 0, 1) := by decide +kernel
theorem dX1_consider_37 : decode cX1_consider 37 = .ok (.getfield 18, 3) := by decide +kernel
theorem dX1_consider_40 : decode cX1_consider 40 = .ok (.invokevirtual 100, 3) := by decide +kernel
theorem dX1_consider_43 : decode cX1_consider 43 = .ok (.ifCond .eq 24, 3) := by decide +kernel
theorem dX1_consider_46 : decode cX1_consider 46 = .ok (.aload_n 0, 1) := by decide +kernel
theorem dX1_consider_47 : decode cX1_consider 47 = .ok (.iload_n 2, 1) := by decide +kernel
theorem dX1_consider_48 : decode cX1_consider 48 = .ok (.putfield 21, 3) := by decide +kernel
theorem dX1_consider_51 : decode cX1_consider 51 = .ok (.aload_n 0, 1) := by decide +kernel
theorem dX1_consider_52 : decode cX1_consider 52 = .ok (.iload_n 1, 1) := by decide +kernel
theorem dX1_consider_53 : decode cX1_consider 53 = .ok (.putfield 25, 3) := by decide +kernel
theorem dX1_consider_56 : decode cX1_consider 56 = .ok (.aload_n 0, 1) := by decide +kernel
theorem dX1_consider_57 : decode cX1_consider 57 = .ok (.getfield 18, 3) := by decide +kernel
theorem dX1_consider_60 : decode cX1_consider 60 = .ok (.aload_n 0, 1) := by decide +kernel
theorem dX1_consider_61 : decode cX1_consider 61 = .ok (.getfield 12, 3) := by decide +kernel
theorem dX1_consider_64 : decode cX1_consider 64 = .ok (.invokevirtual 38, 3) := by decide +kernel
theorem dX1_consider_67 : decode cX1_consider 67 = .ok (.return_, 1) := by decide +kernel
theorem dX2_init_0 : decode cX2_init 0 = .ok (.aload_n 0, 1) := by decide +kernel
theorem dX2_init_1 : decode cX2_init 1 = .ok (.invokespecial 3, 3) := by decide +kernel
theorem dX2_init_4 : decode cX2_init 4 = .ok (.aload_n 0, 1) := by decide +kernel
theorem dX2_init_5 : decode cX2_init 5 = .ok (.iconst 0, 1) := by decide +kernel
theorem dX2_init_6 : decode cX2_init 6 = .ok (.putfield 9, 3) := by decide +kernel
theorem dX2_init_9 : decode cX2_init 9 = .ok (.aload_n 0, 1) := by decide +kernel
theorem dX2_init_10 : decode cX2_init 10 = .ok (.bipush 24, 2) := by decide +kernel
theorem dX2_init_12 : decode cX2_init 12 = .ok (.newarray .int, 2) := by decide +kernel
theorem dX2_init_14 : decode cX2_init 14 = .ok (.putfield 15, 3) := by decide +kernel
theorem dX2_init_17 : decode cX2_init 17 = .ok (.aload_n 0, 1) := by decide +kernel
theorem dX2_init_18 : decode cX2_init 18 = .ok (.bipush 24, 2) := by decide +kernel
theorem dX2_init_20 : decode cX2_init 20 = .ok (.newarray .int, 2) := by decide +kernel
theorem dX2_init_22 : decode cX2_init 22 = .ok (.putfield 19, 3) := by decide +kernel
theorem dX2_init_25 : decode cX2_init 25 = .ok (.aload_n 0, 1) := by decide +kernel
theorem dX2_init_26 : decode cX2_init 26 = .ok (.bipush 24, 2) := by decide +kernel
theorem dX2_init_28 : decode cX2_init 28 = .ok (.newarray .boolean, 2) := by decide +kernel
theorem dX2_init_30 : decode cX2_init 30 = .ok (.putfield 22, 3) := by decide +kernel
theorem dX2_init_33 : decode cX2_init 33 = .ok (.aload_n 0, 1) := by decide +kernel
theorem dX2_init_34 : decode cX2_init 34 = .ok (.iconst 0, 1) := by decide +kernel
theorem dX2_init_35 : decode cX2_init 35 = .ok (.putfield 26, 3) := by decide +kernel
theorem dX2_init_38 : decode cX2_init 38 = .ok (.aload_n 0, 1) := by decide +kernel
theorem dX2_init_39 : decode cX2_init 39 = .ok (.bipush 8, 2) := by decide +kernel
theorem dX2_init_41 : decode cX2_init 41 = .ok (.newarray .int, 2) := by decide +kernel
theorem dX2_init_43 : decode cX2_init 43 = .ok (.putfield 29, 3) := by decide +kernel
theorem dX2_init_46 : decode cX2_init 46 = .ok (.aload_n 0, 1) := by decide +kernel
theorem dX2_init_47 : decode cX2_init 47 = .ok (.bipush 8, 2) := by decide +kernel
theorem dX2_init_49 : decode cX2_init 49 = .ok (.newarray .int, 2) := by decide +kernel
theorem dX2_init_51 : decode cX2_init 51 = .ok (.putfield 32, 3) := by decide +kernel
theorem dX2_init_54 : decode cX2_init 54 = .ok (.aload_n 0, 1) := by decide +kernel
theorem dX2_init_55 : decode cX2_init 55 = .ok (.bipush 8, 2) := by decide +kernel
theorem dX2_init_57 : decode cX2_init 57 = .ok (.newarray .int, 2) := by decide +kernel
theorem dX2_init_59 : decode cX2_init 59 = .ok (.putfield 35, 3) := by decide +kernel
theorem dX2_init_62 : decode cX2_init 62 = .ok (.aload_n 0, 1) := by decide +kernel
theorem dX2_init_63 : decode cX2_init 63 = .ok (.bipush 8, 2) := by decide +kernel
theorem dX2_init_65 : decode cX2_init 65 = .ok (.newarray .boolean, 2) := by decide +kernel
theorem dX2_init_67 : decode cX2_init 67 = .ok (.putfield 38, 3) := by decide +kernel
theorem dX2_init_70 : decode cX2_init 70 = .ok (.aload_n 0, 1) := by decide +kernel
theorem dX2_init_71 : decode cX2_init 71 = .ok (.bipush 8, 2) := by decide +kernel
theorem dX2_init_73 : decode cX2_init 73 = .ok (.newarray .int, 2) := by decide +kernel
theorem dX2_init_75 : decode cX2_init 75 = .ok (.putfield 41, 3) := by decide +kernel
theorem dX2_init_78 : decode cX2_init 78 = .ok (.aload_n 0, 1) := by decide +kernel
theorem dX2_init_79 : decode cX2_init 79 = .ok (.iconst 0, 1) := by decide +kernel
theorem dX2_init_80 : decode cX2_init 80 = .ok (.putfield 44, 3) := by decide +kernel
theorem dX2_init_83 : decode cX2_init 83 = .ok (.aload_n 0, 1) := by decide +kernel
theorem dX2_init_84 : decode cX2_init 84 = .ok (.bipush 8, 2) := by decide +kernel
theorem dX2_init_86 : decode cX2_init 86 = .ok (.newarray .int, 2) := by decide +kernel
theorem dX2_init_88 : decode cX2_init 88 = .ok (.putfield 47, 3) := by decide +kernel
theorem dX2_init_91 : decode cX2_init 91 = .ok (.aload_n 0, 1) := by decide +kernel
theorem dX2_init_92 : decode cX2_init 92 = .ok (.bipush 24, 2) := by decide +kernel
theorem dX2_init_94 : decode cX2_init 94 = .ok (.newarray .int, 2) := by decide +kernel
theorem dX2_init_96 : decode cX2_init 96 = .ok (.putfield 50, 3) := by decide +kernel
theorem dX2_init_99 : decode cX2_init 99 = .ok (.aload_n 0, 1) := by decide +kernel
theorem dX2_init_100 : decode cX2_init 100 = .ok (.iconst 0, 1) := by decide +kernel
theorem dX2_init_101 : decode cX2_init 101 = .ok (.putfield 53, 3) := by decide +kernel
theorem dX2_init_104 : decode cX2_init 104 = .ok (.iconst 0, 1) := by decide +kernel
theorem dX2_init_105 : decode cX2_init 105 = .ok (.istore_n 1, 1) := by decide +kernel
theorem dX2_init_106 : decode cX2_init 106 = .ok (.iload_n 1, 1) := by decide +kernel
theorem dX2_init_107 : decode cX2_init 107 = .ok (.bipush 8, 2) := by decide +kernel
theorem dX2_init_109 : decode cX2_init 109 = .ok (.if_icmp .ge 16, 3) := by decide +kernel
theorem dX2_init_112 : decode cX2_init 112 = .ok (.aload_n 0, 1) := by decide +kernel
theorem dX2_init_113 : decode cX2_init 113 = .ok (.getfield 47, 3) := by decide +kernel
theorem dX2_init_116 : decode cX2_init 116 = .ok (.iload_n 1, 1) := by decide +kernel
theorem dX2_init_117 : decode cX2_init 117 = .ok (.iconst (-1), 1) := by decide +kernel
theorem dX2_init_118 : decode cX2_init 118 = .ok (.iastore, 1) := by decide +kernel
theorem dX2_init_119 : decode cX2_init 119 = .ok (.iinc 1 1, 3) := by decide +kernel
theorem dX2_init_122 : decode cX2_init 122 = .ok (.goto (-16), 3) := by decide +kernel
theorem dX2_init_125 : decode cX2_init 125 = .ok (.iconst 0, 1) := by decide +kernel
theorem dX2_init_126 : decode cX2_init 126 = .ok (.istore_n 1, 1) := by decide +kernel
theorem dX2_init_127 : decode cX2_init 127 = .ok (.iload_n 1, 1) := by decide +kernel
theorem dX2_init_128 : decode cX2_init 128 = .ok (.bipush 24, 2) := by decide +kernel
theorem dX2_init_130 : decode cX2_init 130 = .ok (.if_icmp .ge 16, 3) := by decide +kernel
theorem dX2_init_133 : decode cX2_init 133 = .ok (.aload_n 0, 1) := by decide +kernel
theorem dX2_init_134 : decode cX2_init 134 = .ok (.getfield 50, 3) := by decide +kernel
theorem dX2_init_137 : decode cX2_init 137 = .ok (.iload_n 1, 1) := by decide +kernel
theorem dX2_init_138 : decode cX2_init 138 = .ok (.iconst (-1), 1) := by decide +kernel
theorem dX2_init_139 : decode cX2_init 139 = .ok (.iastore, 1) := by decide +kernel
theorem dX2_init_140 : decode cX2_init 140 = .ok (.iinc 1 1, 3) := by decide +kernel
theorem dX2_init_143 : decode cX2_init 143 = .ok (.goto (-16), 3) := by decide +kernel
theorem dX2_init_146 : decode cX2_init 146 = .ok (.return_, 1) := by decide +kernel
theorem dX2_copyFrom_0 : decode cX2_copyFrom 0 = .ok (.aload_n 0, 1) := by decide +kernel
theorem dX2_copyFrom_1 : decode cX2_copyFrom 1 = .ok (.aload_n 1, 1) := by decide +kernel
theorem dX2_copyFrom_2 : decode cX2_copyFrom 2 = .ok (.getfield 9, 3) := by decide +kernel
theorem dX2_copyFrom_5 : decode cX2_copyFrom 5 = .ok (.putfield 9, 3) := by decide +kernel
theorem dX2_copyFrom_8 : decode cX2_copyFrom 8 = .ok (.aload_n 1, 1) := by decide +kernel
theorem dX2_copyFrom_9 : decode cX2_copyFrom 9 = .ok (.getfield 15, 3) := by decide +kernel
theorem dX2_copyFrom_12 : decode cX2_copyFrom 12 = .ok (.iconst 0, 1) := by decide +kernel
theorem dX2_copyFrom_13 : decode cX2_copyFrom 13 = .ok (.aload_n 0, 1) := by decide +kernel
theorem dX2_copyFrom_14 : decode cX2_copyFrom 14 = .ok (.getfield 15, 3) := by decide +kernel
theorem dX2_copyFrom_17 : decode cX2_copyFrom 17 = .ok (.iconst 0, 1) := by decide +kernel
theorem dX2_copyFrom_18 : decode cX2_copyFrom 18 = .ok (.bipush 24, 2) := by decide +kernel
theorem dX2_copyFrom_20 : decode cX2_copyFrom 20 = .ok (.invokestatic 56, 3) := by decide +kernel
theorem dX2_copyFrom_23 : decode cX2_copyFrom 23 = .ok (.aload_n 1, 1) := by decide +kernel
theorem dX2_copyFrom_24 : decode cX2_copyFrom 24 = .ok (.getfield 19, 3) := by decide +kernel
theorem dX2_copyFrom_27 : decode cX2_copyFrom 27 = .ok (.iconst 0, 1) := by decide +kernel
theorem dX2_copyFrom_28 : decode cX2_copyFrom 28 = .ok (.aload_n 0, 1) := by decide +kernel
theorem dX2_copyFrom_29 : decode cX2_copyFrom 29 = .ok (.getfield 19, 3) := by decide +kernel
theorem dX2_copyFrom_32 : decode cX2_copyFrom 32 = .ok (.iconst 0, 1) := by decide +kernel
theorem dX2_copyFrom_33 : decode cX2_copyFrom 33 = .ok (.bipush 24, 2) := by decide +kernel
theorem dX2_copyFrom_35 : decode cX2_copyFrom 35 = .ok (.invokestatic 56, 3) := by decide +kernel
theorem dX2_copyFrom_38 : decode cX2_copyFrom 38 = .ok (.iconst 0, 1) := by decide +kernel
theorem dX2_copyFrom_39 : decode cX2_copyFrom 39 = .ok (.istore_n 2, 1) := by decide +kernel
theorem dX2_copyFrom_40 : decode cX2_copyFrom 40 = .ok (.iload_n 2, 1) := by decide +kernel
theorem dX2_copyFrom_41 : decode cX2_copyFrom 41 = .ok (.bipush 24, 2) := by decide +kernel
theorem dX2_copyFrom_43 : decode cX2_copyFrom 43 = .ok (.if_icmp .ge 21, 3) := by decide +kernel
theorem dX2_copyFrom_46 : decode cX2_copyFrom 46 = .ok (.aload_n 0, 1) := by decide +kernel
theorem dX2_copyFrom_47 : decode cX2_copyFrom 47 = .ok (.getfield 22, 3) := by decide +kernel
theorem dX2_copyFrom_50 : decode cX2_copyFrom 50 = .ok (.iload_n 2, 1) := by decide +kernel
theorem dX2_copyFrom_51 : decode cX2_copyFrom 51 = .ok (.aload_n 1, 1) := by decide +kernel
theorem dX2_copyFrom_52 : decode cX2_copyFrom 52 = .ok (.getfield 22, 3) := by decide +kernel
theorem dX2_copyFrom_55 : decode cX2_copyFrom 55 = .ok (.iload_n 2, 1) := by decide +kernel
theorem dX2_copyFrom_56 : decode cX2_copyFrom 56 = .ok (.baload, 1) := by decide +kernel
theorem dX2_copyFrom_57 : decode cX2_copyFrom 57 = .ok (.bastore, 1) := by decide +kernel
theorem dX2_copyFrom_58 : decode cX2_copyFrom 58 = .ok (.iinc 2 1, 3) := by decide +kernel
theorem dX2_copyFrom_61 : decode cX2_copyFrom 61 = .ok (.goto (-21), 3) := by decide +kernel
theorem dX2_copyFrom_64 : decode cX2_copyFrom 64 = .ok (.aload_n 0, 1) := by decide +kernel
theorem dX2_copyFrom_65 : decode cX2_copyFrom 65 = .ok (.aload_n 1, 1) := by decide +kernel
theorem dX2_copyFrom_66 : decode cX2_copyFrom 66 = .ok (.getfield 26, 3) := by decide +kernel
theorem dX2_copyFrom_69 : decode cX2_copyFrom 69 = .ok (.putfield 26, 3) := by decide +kernel
theorem dX2_copyFrom_72 : decode cX2_copyFrom 72 = .ok (.aload_n 1, 1) := by decide +kernel
theorem dX2_copyFrom_73 : decode cX2_copyFrom 73 = .ok (.getfield 29, 3) := by decide +kernel
theorem dX2_copyFrom_76 : decode cX2_copyFrom 76 = .ok (.iconst 0, 1) := by decide +kernel
theorem dX2_copyFrom_77 : decode cX2_copyFrom 77 = .ok (.aload_n 0, 1) := by decide +kernel
theorem dX2_copyFrom_78 : decode cX2_copyFrom 78 = .ok (.getfield 29, 3) := by decide +kernel
theorem dX2_copyFrom_81 : decode cX2_copyFrom 81 = .ok (.iconst 0, 1) := by decide +kernel
theorem dX2_copyFrom_82 : decode cX2_copyFrom 82 = .ok (.bipush 8, 2) := by decide +kernel
theorem dX2_copyFrom_84 : decode cX2_copyFrom 84 = .ok (.invokestatic 56, 3) := by decide +kernel
theorem dX2_copyFrom_87 : decode cX2_copyFrom 87 = .ok (.aload_n 1, 1) := by decide +kernel
theorem dX2_copyFrom_88 : decode cX2_copyFrom 88 = .ok (.getfield 32, 3) := by decide +kernel
theorem dX2_copyFrom_91 : decode cX2_copyFrom 91 = .ok (.iconst 0, 1) := by decide +kernel
theorem dX2_copyFrom_92 : decode cX2_copyFrom 92 = .ok (.aload_n 0, 1) := by decide +kernel
theorem dX2_copyFrom_93 : decode cX2_copyFrom 93 = .ok (.getfield 32, 3) := by decide +kernel
theorem dX2_copyFrom_96 : decode cX2_copyFrom 96 = .ok (.iconst 0, 1) := by decide +kernel
theorem dX2_copyFrom_97 : decode cX2_copyFrom 97 = .ok (.bipush 8, 2) := by decide +kernel
theorem dX2_copyFrom_99 : decode cX2_copyFrom 99 = .ok (.invokestatic 56, 3) := by decide +kernel
theorem dX2_copyFrom_102 : decode cX2_copyFrom 102 = .ok (.aload_n 1, 1) := by decide +kernel
theorem dX2_copyFrom_103 : decode cX2_copyFrom 103 = .ok (.getfield 35, 3) := by decide +kernel
theorem dX2_copyFrom_106 : decode cX2_copyFrom 106 = .ok (.iconst 0, 1) := by decide +kernel
theorem dX2_copyFrom_107 : decode cX2_copyFrom 107 = .ok (.aload_n 0, 1) := by decide +kernel
theorem dX2_copyFrom_108 : decode cX2_copyFrom 108 = .ok (.getfield 35, 3) := by decide +kernel
theorem dX2_copyFrom_111 : decode cX2_copyFrom 111 = .ok (.iconst 0, 1) := by decide +kernel
theorem dX2_copyFrom_112 : decode cX2_copyFrom 112 = .ok (.bipush 8, 2) := by decide +kernel
theorem dX2_copyFrom_114 : decode cX2_copyFrom 114 = .ok (.invokestatic 56, 3) := by decide +kernel
theorem dX2_copyFrom_117 : decode cX2_copyFrom 117 = .ok (.iconst 0, 1) := by decide +kernel
theorem dX2_copyFrom_118 : decode cX2_copyFrom 118 = .ok (.istore_n 2, 1) := by decide +kernel
theorem dX2_copyFrom_119 : decode cX2_copyFrom 119 = .ok (.iload_n 2, 1) := by decide +kernel
theorem dX2_copyFrom_120 : decode cX2_copyFrom 120 = .ok (.bipush 8, 2) := by decide +kernel
theorem dX2_copyFrom_122 : decode cX2_copyFrom 122 = .ok (.if_icmp .ge 21, 3) := by decide +kernel
theorem dX2_copyFrom_125 : decode cX2_copyFrom 125 = .ok (.aload_n 0, 1) := by decide +kernel
theorem dX2_copyFrom_126 : decode cX2_copyFrom 126 = .ok (.getfield 38, 3) := by decide +kernel
theorem dX2_copyFrom_129 : decode cX2_copyFrom 129 = .ok (.iload_n 2, 1) := by decide +kernel
theorem dX2_copyFrom_130 : decode cX2_copyFrom 130 = .ok (.aload_n 1, 1) := by decide +kernel
theorem dX2_copyFrom_131 : decode cX2_copyFrom 131 = .ok (.getfield 38, 3) := by decide +kernel
theorem dX2_copyFrom_134 : decode cX2_copyFrom 134 = .ok (.iload_n 2, 1) := by decide +kernel
theorem dX2_copyFrom_135 : decode cX2_copyFrom 135 = .ok (.baload, 1) := by decide +kernel
theorem dX2_copyFrom_136 : decode cX2_copyFrom 136 = .ok (.bastore, 1) := by decide +kernel
theorem dX2_copyFrom_137 : decode cX2_copyFrom 137 = .ok (.iinc 2 1, 3) := by decide +kernel
theorem dX2_copyFrom_140 : decode cX2_copyFrom 140 = .ok (.goto (-21), 3) := by decide +kernel
theorem dX2_copyFrom_143 : decode cX2_copyFrom 143 = .ok (.aload_n 1, 1) := by decide +kernel
theorem dX2_copyFrom_144 : decode cX2_copyFrom 144 = .ok (.getfield 41, 3) := by decide +kernel
theorem dX2_copyFrom_147 : decode cX2_copyFrom 147 = .ok (.iconst 0, 1) := by decide +kernel
theorem dX2_copyFrom_148 : decode cX2_copyFrom 148 = .ok (.aload_n 0, 1) := by decide +kernel
theorem dX2_copyFrom_149 : decode cX2_copyFrom 149 = .ok (.getfield 41, 3) := by decide +kernel
theorem dX2_copyFrom_152 : decode cX2_copyFrom 152 = .ok (.iconst 0, 1) := by decide +kernel
theorem dX2_copyFrom_153 : decode cX2_copyFrom 153 = .ok (.bipush 8, 2) := by decide +kernel
theorem dX2_copyFrom_155 : decode cX2_copyFrom 155 = .ok (.invokestatic 56, 3) := by decide +kernel
theorem dX2_copyFrom_158 : decode cX2_copyFrom 158 = .ok (.aload_n 0, 1) := by decide +kernel
theorem dX2_copyFrom_159 : decode cX2_copyFrom 159 = .ok (.aload_n 1, 1) := by decide +kernel
theorem dX2_copyFrom_160 : decode cX2_copyFrom 160 = .ok (.getfield 44, 3) := by decide +kernel
theorem dX2_copyFrom_163 : decode cX2_copyFrom 163 = .ok (.putfield 44, 3) := by decide +kernel
theorem dX2_copyFrom_166 : decode cX2_copyFrom 166 = .ok (.aload_n 1, 1) := by decide +kernel
theorem dX2_copyFrom_167 : decode cX2_copyFrom 167 = .ok (.getfield 47, 3) := by decide +kernel
theorem dX2_copyFrom_170 : decode cX2_copyFrom 170 = .ok (.iconst 0, 1) := by decide +kernel
theorem dX2_copyFrom_171 : decode cX2_copyFrom 171 = .ok (.aload_n 0, 1) := by decide +kernel
theorem dX2_copyFrom_172 : decode cX2_copyFrom 172 = .ok (.getfield 47, 3) := by decide +kernel
theorem dX2_copyFrom_175 : decode cX2_copyFrom 175 = .ok (.iconst 0, 1) := by decide +kernel
theorem dX2_copyFrom_176 : decode cX2_copyFrom 176 = .ok (.bipush 8, 2) := by decide +kernel
theorem dX2_copyFrom_178 : decode cX2_copyFrom 178 = .ok (.invokestatic 56, 3) := by decide +kernel
theorem dX2_copyFrom_181 : decode cX2_copyFrom 181 = .ok (.aload_n 1, 1) := by decide +kernel
theorem dX2_copyFrom_182 : decode cX2_copyFrom 182 = .ok (.getfield 50, 3) := by decide +kernel
theorem dX2_copyFrom_185 : decode cX2_copyFrom 185 = .ok (.iconst 0, 1) := by decide +kernel
theorem dX2_copyFrom_186 : decode cX2_copyFrom 186 = .ok (.aload_n 0, 1) := by decide +kernel
theorem dX2_copyFrom_187 : decode cX2_copyFrom 187 = .ok (.getfield 50, 3) := by decide +kernel
theorem dX2_copyFrom_190 : decode cX2_copyFrom 190 = .ok (.iconst 0, 1) := by decide +kernel
theorem dX2_copyFrom_191 : decode cX2_copyFrom 191 = .ok (.bipush 24, 2) := by decide +kernel
theorem dX2_copyFrom_193 : decode cX2_copyFrom 193 = .ok (.invokestatic 56, 3) := by decide +kernel
theorem dX2_copyFrom_196 : decode cX2_copyFrom 196 = .ok (.aload_n 0, 1) := by decide +kernel
theorem dX2_copyFrom_197 : decode cX2_copyFrom 197 = .ok (.aload_n 1, 1) := by decide +kernel
theorem dX2_copyFrom_198 : decode cX2_copyFrom 198 = .ok (.getfield 53, 3) := by decide +kernel
theorem dX2_copyFrom_201 : decode cX2_copyFrom 201 = .ok (.putfield 53, 3) := by decide +kernel
theorem dX2_copyFrom_204 : decode cX2_copyFrom 204 = .ok (.return_, 1) := by decide +kernel
theorem dX2_wipe_0 : decode cX2_wipe 0 = .ok (.aload_n 0, 1) := by decide +kernel
theorem dX2_wipe_1 : decode cX2_wipe 1 = .ok (.invokevirtual 62, 3) := by decide +kernel
theorem dX2_wipe_4 : decode cX2_wipe 4 = .ok (.aload_n 0, 1) := by decide +kernel
theorem dX2_wipe_5 : decode cX2_wipe 5 = .ok (.iconst 0, 1) := by decide +kernel
theorem dX2_wipe_6 : decode cX2_wipe 6 = .ok (.putfield 9, 3) := by decide +kernel
theorem dX2_wipe_9 : decode cX2_wipe 9 = .ok (.aload_n 0, 1) := by decide +kernel
theorem dX2_wipe_10 : decode cX2_wipe 10 = .ok (.iconst 0, 1) := by decide +kernel
theorem dX2_wipe_11 : decode cX2_wipe 11 = .ok (.putfield 26, 3) := by decide +kernel
theorem dX2_wipe_14 : decode cX2_wipe 14 = .ok (.aload_n 0, 1) := by decide +kernel
theorem dX2_wipe_15 : decode cX2_wipe 15 = .ok (.iconst 0, 1) := by decide +kernel
theorem dX2_wipe_16 : decode cX2_wipe 16 = .ok (.putfield 44, 3) := by decide +kernel
theorem dX2_wipe_19 : decode cX2_wipe 19 = .ok (.iconst 0, 1) := by decide +kernel
theorem dX2_wipe_20 : decode cX2_wipe 20 = .ok (.istore_n 1, 1) := by decide +kernel
theorem dX2_wipe_21 : decode cX2_wipe 21 = .ok (.iload_n 1, 1) := by decide +kernel
theorem dX2_wipe_22 : decode cX2_wipe 22 = .ok (.bipush 8, 2) := by decide +kernel
theorem dX2_wipe_24 : decode cX2_wipe 24 = .ok (.if_icmp .ge 16, 3) := by decide +kernel
theorem dX2_wipe_27 : decode cX2_wipe 27 = .ok (.aload_n 0, 1) := by decide +kernel
theorem dX2_wipe_28 : decode cX2_wipe 28 = .ok (.getfield 41, 3) := by decide +kernel
theorem dX2_wipe_31 : decode cX2_wipe 31 = .ok (.iload_n 1, 1) := by decide +kernel
theorem dX2_wipe_32 : decode cX2_wipe 32 = .ok (.iconst 0, 1) := by decide +kernel
theorem dX2_wipe_33 : decode cX2_wipe 33 = .ok (.iastore, 1) := by decide +kernel
theorem dX2_wipe_34 : decode cX2_wipe 34 = .ok (.iinc 1 1, 3) := by decide +kernel
theorem dX2_wipe_37 : decode cX2_wipe 37 = .ok (.goto (-16), 3) := by decide +kernel
theorem dX2_wipe_40 : decode cX2_wipe 40 = .ok (.return_, 1) := by decide +kernel
theorem dX2_hasPitch_0 : decode cX2_hasPitch 0 = .ok (.iload_n 1, 1) := by decide +kernel
theorem dX2_hasPitch_1 : decode cX2_hasPitch 1 = .ok (.ifCond .lt 15, 3) := by decide +kernel
theorem dX2_hasPitch_4 : decode cX2_hasPitch 4 = .ok (.iload_n 1, 1) := by decide +kernel
theorem dX2_hasPitch_5 : decode cX2_hasPitch 5 = .ok (.aload_n 0, 1) := by decide +kernel
theorem dX2_hasPitch_6 : decode cX2_hasPitch 6 = .ok (.getfield 9, 3) := by decide +kernel
theorem dX2_hasPitch_9 : decode cX2_hasPitch 9 = .ok (.if_icmp .ge 7, 3) := by decide +kernel
theorem dX2_hasPitch_12 : decode cX2_hasPitch 12 = .ok (.iconst 1, 1) := by decide +kernel
theorem dX2_hasPitch_13 : decode cX2_hasPitch 13 = .ok (.goto 4, 3) := by decide +kernel
theorem dX2_hasPitch_16 : decode cX2_hasPitch 16 = .ok (.iconst 0, 1) := by decide +kernel
theorem dX2_hasPitch_17 : decode cX2_hasPitch 17 = .ok (.ireturn, 1) := by decide +kernel
theorem dX2_hasTrader_0 : decode cX2_hasTrader 0 = .ok (.iload_n 1, 1) := by decide +kernel
theorem dX2_hasTrader_1 : decode cX2_hasTrader 1 = .ok (.ifCond .lt 15, 3) := by decide +kernel
theorem dX2_hasTrader_4 : decode cX2_hasTrader 4 = .ok (.iload_n 1, 1) := by decide +kernel
theorem dX2_hasTrader_5 : decode cX2_hasTrader 5 = .ok (.aload_n 0, 1) := by decide +kernel
theorem dX2_hasTrader_6 : decode cX2_hasTrader 6 = .ok (.getfield 26, 3) := by decide +kernel
theorem dX2_hasTrader_9 : decode cX2_hasTrader 9 = .ok (.if_icmp .ge 7, 3) := by decide +kernel
theorem dX2_hasTrader_12 : decode cX2_hasTrader 12 = .ok (.iconst 1, 1) := by decide +kernel
theorem dX2_hasTrader_13 : decode cX2_hasTrader 13 = .ok (.goto 4, 3) := by decide +kernel
theorem dX2_hasTrader_16 : decode cX2_hasTrader 16 = .ok (.iconst 0, 1) := by decide +kernel
theorem dX2_hasTrader_17 : decode cX2_hasTrader 17 = .ok (.ireturn, 1) := by decide +kernel
theorem dX2_addPitch_0 : decode cX2_addPitch 0 = .ok (.aload_n 0, 1) := by decide +kernel
theorem dX2_addPitch_1 : decode cX2_addPitch 1 = .ok (.getfield 9, 3) := by decide +kernel
theorem dX2_addPitch_4 : decode cX2_addPitch 4 = .ok (.bipush 24, 2) := by decide +kernel
theorem dX2_addPitch_6 : decode cX2_addPitch 6 = .ok (.if_icmp .ge 43, 3) := by decide +kernel
theorem dX2_addPitch_9 : decode cX2_addPitch 9 = .ok (.aload_n 0, 1) := by decide +kernel
theorem dX2_addPitch_10 : decode cX2_addPitch 10 = .ok (.getfield 15, 3) := by decide +kernel
theorem dX2_addPitch_13 : decode cX2_addPitch 13 = .ok (.aload_n 0, 1) := by decide +kernel
theorem dX2_addPitch_14 : decode cX2_addPitch 14 = .ok (.getfield 9, 3) := by decide +kernel
theorem dX2_addPitch_17 : decode cX2_addPitch 17 = .ok (.iload_n 1, 1) := by decide +kernel
theorem dX2_addPitch_18 : decode cX2_addPitch 18 = .ok (.iastore, 1) := by decide +kernel
theorem dX2_addPitch_19 : decode cX2_addPitch 19 = .ok (.aload_n 0, 1) := by decide +kernel
theorem dX2_addPitch_20 : decode cX2_addPitch 20 = .ok (.getfield 19, 3) := by decide +kernel
theorem dX2_addPitch_23 : decode cX2_addPitch 23 = .ok (.aload_n 0, 1) := by decide +kernel
theorem dX2_addPitch_24 : decode cX2_addPitch 24 = .ok (.getfield 9, 3) := by decide +kernel
theorem dX2_addPitch_27 : decode cX2_addPitch 27 = .ok (.iload_n 2, 1) := by decide +kernel
theorem dX2_addPitch_28 : decode cX2_addPitch 28 = .ok (.iastore, 1) := by decide +kernel
theorem dX2_addPitch_29 : decode cX2_addPitch 29 = .ok (.aload_n 0, 1) := by decide +kernel
theorem dX2_addPitch_30 : decode cX2_addPitch 30 = .ok (.getfield 22, 3) := by decide +kernel
theorem dX2_addPitch_33 : decode cX2_addPitch 33 = .ok (.aload_n 0, 1) := by decide +kernel
theorem dX2_addPitch_34 : decode cX2_addPitch 34 = .ok (.getfield 9, 3) := by decide +kernel
theorem dX2_addPitch_37 : decode cX2_addPitch 37 = .ok (.iload_n 3, 1) := by decide +kernel
theorem dX2_addPitch_38 : decode cX2_addPitch 38 = .ok (.bastore, 1) := by decide +kernel
theorem dX2_addPitch_39 : decode cX2_addPitch 39 = .ok (.aload_n 0, 1) := by decide +kernel
theorem dX2_addPitch_40 : decode cX2_addPitch 40 = .ok (.dup, 1) := by decide +kernel
theorem dX2_addPitch_41 : decode cX2_addPitch 41 = .ok (.getfield 9, 3) := by decide +kernel
theorem dX2_addPitch_44 : decode cX2_addPitch 44 = .ok (.iconst 1, 1) := by decide +kernel
theorem dX2_addPitch_45 : decode cX2_addPitch 45 = .ok (.iadd, 1) := by decide +kernel
theorem dX2_addPitch_46 : decode cX2_addPitch 46 = .ok (.putfield 9, 3) := by decide +kernel
theorem dX2_addPitch_49 : decode cX2_addPitch 49 = .ok (.return_, 1) := by decide +kernel
theorem dX2_enrol_0 : decode cX2_enrol 0 = .ok (.aload_n 0, 1) := by decide +kernel
theorem dX2_enrol_1 : decode cX2_enrol 1 = .ok (.getfield 26, 3) := by decide +kernel
theorem dX2_enrol_4 : decode cX2_enrol 4 = .ok (.bipush 8, 2) := by decide +kernel
theorem dX2_enrol_6 : decode cX2_enrol 6 = .ok (.if_icmp .ge 54, 3) := by decide +kernel
theorem dX2_enrol_9 : decode cX2_enrol 9 = .ok (.aload_n 0, 1) := by decide +kernel
theorem dX2_enrol_10 : decode cX2_enrol 10 = .ok (.getfield 29, 3) := by decide +kernel
theorem dX2_enrol_13 : decode cX2_enrol 13 = .ok (.aload_n 0, 1) := by decide +kernel
theorem dX2_enrol_14 : decode cX2_enrol 14 = .ok (.getfield 26, 3) := by decide +kernel
theorem dX2_enrol_17 : decode cX2_enrol 17 = .ok (.iload_n 1, 1) := by decide +kernel
theorem dX2_enrol_18 : decode cX2_enrol 18 = .ok (.iastore, 1) := by decide +kernel
theorem dX2_enrol_19 : decode cX2_enrol 19 = .ok (.aload_n 0, 1) := by decide +kernel
theorem dX2_enrol_20 : decode cX2_enrol 20 = .ok (.getfield 32, 3) := by decide +kernel
theorem dX2_enrol_23 : decode cX2_enrol 23 = .ok (.aload_n 0, 1) := by decide +kernel
theorem dX2_enrol_24 : decode cX2_enrol 24 = .ok (.getfield 26, 3) := by decide +kernel
theorem dX2_enrol_27 : decode cX2_enrol 27 = .ok (.iload_n 2, 1) := by decide +kernel
theorem dX2_enrol_28 : decode cX2_enrol 28 = .ok (.iastore, 1) := by decide +kernel
theorem dX2_enrol_29 : decode cX2_enrol 29 = .ok (.aload_n 0, 1) := by decide +kernel
theorem dX2_enrol_30 : decode cX2_enrol 30 = .ok (.getfield 35, 3) := by decide +kernel
theorem dX2_enrol_33 : decode cX2_enrol 33 = .ok (.aload_n 0, 1) := by decide +kernel
theorem dX2_enrol_34 : decode cX2_enrol 34 = .ok (.getfield 26, 3) := by decide +kernel
theorem dX2_enrol_37 : decode cX2_enrol 37 = .ok (.iload_n 3, 1) := by decide +kernel
theorem dX2_enrol_38 : decode cX2_enrol 38 = .ok (.iastore, 1) := by decide +kernel
theorem dX2_enrol_39 : decode cX2_enrol 39 = .ok (.aload_n 0, 1) := by decide +kernel
theorem dX2_enrol_40 : decode cX2_enrol 40 = .ok (.getfield 38, 3) := by decide +kernel
theorem dX2_enrol_43 : decode cX2_enrol 43 = .ok (.aload_n 0, 1) := by decide +kernel
theorem dX2_enrol_44 : decode cX2_enrol 44 = .ok (.getfield 26, 3) := by decide +kernel
theorem dX2_enrol_47 : decode cX2_enrol 47 = .ok (.iload 4, 2) := by decide +kernel
theorem dX2_enrol_49 : decode cX2_enrol 49 = .ok (.bastore, 1) := by decide +kernel
theorem dX2_enrol_50 : decode cX2_enrol 50 = .ok (.aload_n 0, 1) := by decide +kernel
theorem dX2_enrol_51 : decode cX2_enrol 51 = .ok (.dup, 1) := by decide +kernel
theorem dX2_enrol_52 : decode cX2_enrol 52 = .ok (.getfield 26, 3) := by decide +kernel
theorem dX2_enrol_55 : decode cX2_enrol 55 = .ok (.iconst 1, 1) := by decide +kernel
theorem dX2_enrol_56 : decode cX2_enrol 56 = .ok (.iadd, 1) := by decide +kernel
theorem dX2_enrol_57 : decode cX2_enrol 57 = .ok (.putfield 26, 3) := by decide +kernel
theorem dX2_enrol_60 : decode cX2_enrol 60 = .ok (.return_, 1) := by decide +kernel
theorem dX2_putClash_0 : decode cX2_putClash 0 = .ok (.iload_n 3, 1) := by decide +kernel
theorem dX2_putClash_1 : decode cX2_putClash 1 = .ok (.ifCond .eq 30, 3) := by decide +kernel
theorem dX2_putClash_4 : decode cX2_putClash 4 = .ok (.aload_n 0, 1) := by decide +kernel
theorem dX2_putClash_5 : decode cX2_putClash 5 = .ok (.getfield 41, 3) := by decide +kernel
theorem dX2_putClash_8 : decode cX2_putClash 8 = .ok (.iload_n 1, 1) := by decide +kernel
theorem dX2_putClash_9 : decode cX2_putClash 9 = .ok (.dup2, 1) := by decide +kernel
theorem dX2_putClash_10 : decode cX2_putClash 10 = .ok (.iaload, 1) := by decide +kernel
theorem dX2_putClash_11 : decode cX2_putClash 11 = .ok (.iconst 1, 1) := by decide +kernel
theorem dX2_putClash_12 : decode cX2_putClash 12 = .ok (.iload_n 2, 1) := by decide +kernel
theorem dX2_putClash_13 : decode cX2_putClash 13 = .ok (.ishl, 1) := by decide +kernel
theorem dX2_putClash_14 : decode cX2_putClash 14 = .ok (.ior, 1) := by decide +kernel
theorem dX2_putClash_15 : decode cX2_putClash 15 = .ok (.iastore, 1) := by decide +kernel
theorem dX2_putClash_16 : decode cX2_putClash 16 = .ok (.aload_n 0, 1) := by decide +kernel
theorem dX2_putClash_17 : decode cX2_putClash 17 = .ok (.getfield 41, 3) := by decide +kernel
theorem dX2_putClash_20 : decode cX2_putClash 20 = .ok (.iload_n 2, 1) := by decide +kernel
theorem dX2_putClash_21 : decode cX2_putClash 21 = .ok (.dup2, 1) := by decide +kernel
theorem dX2_putClash_22 : decode cX2_putClash 22 = .ok (.iaload, 1) := by decide +kernel
theorem dX2_putClash_23 : decode cX2_putClash 23 = .ok (.iconst 1, 1) := by decide +kernel
theorem dX2_putClash_24 : decode cX2_putClash 24 = .ok (.iload_n 1, 1) := by decide +kernel
theorem dX2_putClash_25 : decode cX2_putClash 25 = .ok (.ishl, 1) := by decide +kernel
theorem dX2_putClash_26 : decode cX2_putClash 26 = .ok (.ior, 1) := by decide +kernel
theorem dX2_putClash_27 : decode cX2_putClash 27 = .ok (.iastore, 1) := by decide +kernel
theorem dX2_putClash_28 : decode cX2_putClash 28 = .ok (.goto 31, 3) := by decide +kernel
theorem dX2_putClash_31 : decode cX2_putClash 31 = .ok (.aload_n 0, 1) := by decide +kernel
theorem dX2_putClash_32 : decode cX2_putClash 32 = .ok (.getfield 41, 3) := by decide +kernel
theorem dX2_putClash_35 : decode cX2_putClash 35 = .ok (.iload_n 1, 1) := by decide +kernel
theorem dX2_putClash_36 : decode cX2_putClash 36 = .ok (.dup2, 1) := by decide +kernel
theorem dX2_putClash_37 : decode cX2_putClash 37 = .ok (.iaload, 1) := by decide +kernel
theorem dX2_putClash_38 : decode cX2_putClash 38 = .ok (.iconst 1, 1) := by decide +kernel
theorem dX2_putClash_39 : decode cX2_putClash 39 = .ok (.iload_n 2, 1) := by decide +kernel
theorem dX2_putClash_40 : decode cX2_putClash 40 = .ok (.ishl, 1) := by decide +kernel
theorem dX2_putClash_41 : decode cX2_putClash 41 = .ok (.iconst (-1), 1) := by decide +kernel
theorem dX2_putClash_42 : decode cX2_putClash 42 = .ok (.ixor, 1) := by decide +kernel
theorem dX2_putClash_43 : decode cX2_putClash 43 = .ok (.iand, 1) := by decide +kernel
theorem dX2_putClash_44 : decode cX2_putClash 44 = .ok (.iastore, 1) := by decide +kernel
theorem dX2_putClash_45 : decode cX2_putClash 45 = .ok (.aload_n 0, 1) := by decide +kernel
theorem dX2_putClash_46 : decode cX2_putClash 46 = .ok (.getfield 41, 3) := by decide +kernel
theorem dX2_putClash_49 : decode cX2_putClash 49 = .ok (.iload_n 2, 1) := by decide +kernel
theorem dX2_putClash_50 : decode cX2_putClash 50 = .ok (.dup2, 1) := by decide +kernel
theorem dX2_putClash_51 : decode cX2_putClash 51 = .ok (.iaload, 1) := by decide +kernel
theorem dX2_putClash_52 : decode cX2_putClash 52 = .ok (.iconst 1, 1) := by decide +kernel
theorem dX2_putClash_53 : decode cX2_putClash 53 = .ok (.iload_n 1, 1) := by decide +kernel
theorem dX2_putClash_54 : decode cX2_putClash 54 = .ok (.ishl, 1) := by decide +kernel
theorem dX2_putClash_55 : decode cX2_putClash 55 = .ok (.iconst (-1), 1) := by decide +kernel
theorem dX2_putClash_56 : decode cX2_putClash 56 = .ok (.ixor, 1) := by decide +kernel
theorem dX2_putClash_57 : decode cX2_putClash 57 = .ok (.iand, 1) := by decide +kernel
theorem dX2_putClash_58 : decode cX2_putClash 58 = .ok (.iastore, 1) := by decide +kernel
theorem dX2_putClash_59 : decode cX2_putClash 59 = .ok (.return_, 1) := by decide +kernel
theorem dX2_areClashing_0 : decode cX2_areClashing 0 = .ok (.aload_n 0, 1) := by decide +kernel
theorem dX2_areClashing_1 : decode cX2_areClashing 1 = .ok (.getfield 41, 3) := by decide +kernel
theorem dX2_areClashing_4 : decode cX2_areClashing 4 = .ok (.iload_n 1, 1) := by decide +kernel
theorem dX2_areClashing_5 : decode cX2_areClashing 5 = .ok (.iaload, 1) := by decide +kernel
theorem dX2_areClashing_6 : decode cX2_areClashing 6 = .ok (.iload_n 2, 1) := by decide +kernel
theorem dX2_areClashing_7 : decode cX2_areClashing 7 = .ok (.ishr, 1) := by decide +kernel
theorem dX2_areClashing_8 : decode cX2_areClashing 8 = .ok (.iconst 1, 1) := by decide +kernel
theorem dX2_areClashing_9 : decode cX2_areClashing 9 = .ok (.iand, 1) := by decide +kernel
theorem dX2_areClashing_10 : decode cX2_areClashing 10 = .ok (.ifCond .eq 7, 3) := by decide +kernel
theorem dX2_areClashing_13 : decode cX2_areClashing 13 = .ok (.iconst 1, 1) := by decide +kernel
theorem dX2_areClashing_14 : decode cX2_areClashing 14 = .ok (.goto 4, 3) := by decide +kernel
theorem dX2_areClashing_17 : decode cX2_areClashing 17 = .ok (.iconst 0, 1) := by decide +kernel
theorem dX2_areClashing_18 : decode cX2_areClashing 18 = .ok (.ireturn, 1) := by decide +kernel
theorem dX2_shareRow_0 : decode cX2_shareRow 0 = .ok (.iload_n 1, 1) := by decide +kernel
theorem dX2_shareRow_1 : decode cX2_shareRow 1 = .ok (.ifCond .lt 35, 3) := by decide +kernel
theorem dX2_shareRow_4 : decode cX2_shareRow 4 = .ok (.iload_n 1, 1) := by decide +kernel
theorem dX2_shareRow_5 : decode cX2_shareRow 5 = .ok (.iload_n 2, 1) := by decide +kernel
theorem dX2_shareRow_6 : decode cX2_shareRow 6 = .ok (.if_icmp .gt 30, 3) := by decide +kernel
theorem dX2_shareRow_9 : decode cX2_shareRow 9 = .ok (.iload_n 2, 1) := by decide +kernel
theorem dX2_shareRow_10 : decode cX2_shareRow 10 = .ok (.aload_n 0, 1) := by decide +kernel
theorem dX2_shareRow_11 : decode cX2_shareRow 11 = .ok (.getfield 9, 3) := by decide +kernel
theorem dX2_shareRow_14 : decode cX2_shareRow 14 = .ok (.if_icmp .ge 22, 3) := by decide +kernel
theorem dX2_shareRow_17 : decode cX2_shareRow 17 = .ok (.aload_n 0, 1) := by decide +kernel
theorem dX2_shareRow_18 : decode cX2_shareRow 18 = .ok (.getfield 15, 3) := by decide +kernel
theorem dX2_shareRow_21 : decode cX2_shareRow 21 = .ok (.iload_n 1, 1) := by decide +kernel
theorem dX2_shareRow_22 : decode cX2_shareRow 22 = .ok (.iaload, 1) := by decide +kernel
theorem dX2_shareRow_23 : decode cX2_shareRow 23 = .ok (.aload_n 0, 1) := by decide +kernel
theorem dX2_shareRow_24 : decode cX2_shareRow 24 = .ok (.getfield 15, 3) := by decide +kernel
theorem dX2_shareRow_27 : decode cX2_shareRow 27 = .ok (.iload_n 2, 1) := by decide +kernel
theorem dX2_shareRow_28 : decode cX2_shareRow 28 = .ok (.iaload, 1) := by decide +kernel
theorem dX2_shareRow_29 : decode cX2_shareRow 29 = .ok (.if_icmp .ne 7, 3) := by decide +kernel
theorem dX2_shareRow_32 : decode cX2_shareRow 32 = .ok (.iconst 1, 1) := by decide +kernel
theorem dX2_shareRow_33 : decode cX2_shareRow 33 = .ok (.goto 4, 3) := by decide +kernel
theorem dX2_shareRow_36 : decode cX2_shareRow 36 = .ok (.iconst 0, 1) := by decide +kernel
theorem dX2_shareRow_37 : decode cX2_shareRow 37 = .ok (.ireturn, 1) := by decide +kernel
theorem dX2_isInOneRow_0 : decode cX2_isInOneRow 0 = .ok (.aload_n 0, 1) := by decide +kernel
theorem dX2_isInOneRow_1 : decode cX2_isInOneRow 1 = .ok (.iload_n 2, 1) := by decide +kernel
theorem dX2_isInOneRow_2 : decode cX2_isInOneRow 2 = .ok (.iload_n 2, 1) := by decide +kernel
theorem dX2_isInOneRow_3 : decode cX2_isInOneRow 3 = .ok (.aload_n 0, 1) := by decide +kernel
theorem dX2_isInOneRow_4 : decode cX2_isInOneRow 4 = .ok (.getfield 32, 3) := by decide +kernel
theorem dX2_isInOneRow_7 : decode cX2_isInOneRow 7 = .ok (.iload_n 1, 1) := by decide +kernel
theorem dX2_isInOneRow_8 : decode cX2_isInOneRow 8 = .ok (.iaload, 1) := by decide +kernel
theorem dX2_isInOneRow_9 : decode cX2_isInOneRow 9 = .ok (.iadd, 1) := by decide +kernel
theorem dX2_isInOneRow_10 : decode cX2_isInOneRow 10 = .ok (.iconst 1, 1) := by decide +kernel
theorem dX2_isInOneRow_11 : decode cX2_isInOneRow 11 = .ok (.isub, 1) := by decide +kernel
theorem dX2_isInOneRow_12 : decode cX2_isInOneRow 12 = .ok (.invokevirtual 65, 3) := by decide +kernel
theorem dX2_isInOneRow_15 : decode cX2_isInOneRow 15 = .ok (.ireturn, 1) := by decide +kernel
theorem dX2_blockRent_0 : decode cX2_blockRent 0 = .ok (.iconst 0, 1) := by decide +kernel
theorem dX2_blockRent_1 : decode cX2_blockRent 1 = .ok (.istore_n 3, 1) := by decide +kernel
theorem dX2_blockRent_2 : decode cX2_blockRent 2 = .ok (.iload_n 2, 1) := by decide +kernel
theorem dX2_blockRent_3 : decode cX2_blockRent 3 = .ok (.aload_n 0, 1) := by decide +kernel
theorem dX2_blockRent_4 : decode cX2_blockRent 4 = .ok (.getfield 32, 3) := by decide +kernel
theorem dX2_blockRent_7 : decode cX2_blockRent 7 = .ok (.iload_n 1, 1) := by decide +kernel
theorem dX2_blockRent_8 : decode cX2_blockRent 8 = .ok (.iaload, 1) := by decide +kernel
theorem dX2_blockRent_9 : decode cX2_blockRent 9 = .ok (.iadd, 1) := by decide +kernel
theorem dX2_blockRent_10 : decode cX2_blockRent 10 = .ok (.istore 4, 2) := by decide +kernel
theorem dX2_blockRent_12 : decode cX2_blockRent 12 = .ok (.iload_n 2, 1) := by decide +kernel
theorem dX2_blockRent_13 : decode cX2_blockRent 13 = .ok (.istore 5, 2) := by decide +kernel
theorem dX2_blockRent_15 : decode cX2_blockRent 15 = .ok (.iload 5, 2) := by decide +kernel
theorem dX2_blockRent_17 : decode cX2_blockRent 17 = .ok (.iload 4, 2) := by decide +kernel
theorem dX2_blockRent_19 : decode cX2_blockRent 19 = .ok (.if_icmp .ge 28, 3) := by decide +kernel
theorem dX2_blockRent_22 : decode cX2_blockRent 22 = .ok (.iload 5, 2) := by decide +kernel
theorem dX2_blockRent_24 : decode cX2_blockRent 24 = .ok (.aload_n 0, 1) := by decide +kernel
theorem dX2_blockRent_25 : decode cX2_blockRent 25 = .ok (.getfield 9, 3) := by decide +kernel
theorem dX2_blockRent_28 : decode cX2_blockRent 28 = .ok (.if_icmp .ge 19, 3) := by decide +kernel
theorem dX2_blockRent_31 : decode cX2_blockRent 31 = .ok (.iload_n 3, 1) := by decide +kernel
theorem dX2_blockRent_32 : decode cX2_blockRent 32 = .ok (.aload_n 0, 1) := by decide +kernel
theorem dX2_blockRent_33 : decode cX2_blockRent 33 = .ok (.getfield 19, 3) := by decide +kernel
theorem dX2_blockRent_36 : decode cX2_blockRent 36 = .ok (.iload 5, 2) := by decide +kernel
theorem dX2_blockRent_38 : decode cX2_blockRent 38 = .ok (.iaload, 1) := by decide +kernel
theorem dX2_blockRent_39 : decode cX2_blockRent 39 = .ok (.iadd, 1) := by decide +kernel
theorem dX2_blockRent_40 : decode cX2_blockRent 40 = .ok (.istore_n 3, 1) := by decide +kernel
theorem dX2_blockRent_41 : decode cX2_blockRent 41 = .ok (.iinc 5 1, 3) := by decide +kernel
theorem dX2_blockRent_44 : decode cX2_blockRent 44 = .ok (.goto (-29), 3) := by decide +kernel
theorem dX2_blockRent_47 : decode cX2_blockRent 47 = .ok (.iload_n 3, 1) := by decide +kernel
theorem dX2_blockRent_48 : decode cX2_blockRent 48 = .ok (.ireturn, 1) := by decide +kernel
theorem dX2_affords_0 : decode cX2_affords 0 = .ok (.aload_n 0, 1) := by decide +kernel
theorem dX2_affords_1 : decode cX2_affords 1 = .ok (.iload_n 1, 1) := by decide +kernel
theorem dX2_affords_2 : decode cX2_affords 2 = .ok (.iload_n 2, 1) := by decide +kernel
theorem dX2_affords_3 : decode cX2_affords 3 = .ok (.invokevirtual 69, 3) := by decide +kernel
theorem dX2_affords_6 : decode cX2_affords 6 = .ok (.aload_n 0, 1) := by decide +kernel
theorem dX2_affords_7 : decode cX2_affords 7 = .ok (.getfield 35, 3) := by decide +kernel
theorem dX2_affords_10 : decode cX2_affords 10 = .ok (.iload_n 1, 1) := by decide +kernel
theorem dX2_affords_11 : decode cX2_affords 11 = .ok (.iaload, 1) := by decide +kernel
theorem dX2_affords_12 : decode cX2_affords 12 = .ok (.if_icmp .gt 7, 3) := by decide +kernel
theorem dX2_affords_15 : decode cX2_affords 15 = .ok (.iconst 1, 1) := by decide +kernel
theorem dX2_affords_16 : decode cX2_affords 16 = .ok (.goto 4, 3) := by decide +kernel
theorem dX2_affords_19 : decode cX2_affords 19 = .ok (.iconst 0, 1) := by decide +kernel
theorem dX2_affords_20 : decode cX2_affords 20 = .ok (.ireturn, 1) := by decide +kernel
theorem dX2_openPitches_0 : decode cX2_openPitches 0 = .ok (.iconst 0, 1) := by decide +kernel
theorem dX2_openPitches_1 : decode cX2_openPitches 1 = .ok (.istore_n 3, 1) := by decide +kernel
theorem dX2_openPitches_2 : decode cX2_openPitches 2 = .ok (.iload_n 2, 1) := by decide +kernel
theorem dX2_openPitches_3 : decode cX2_openPitches 3 = .ok (.aload_n 0, 1) := by decide +kernel
theorem dX2_openPitches_4 : decode cX2_openPitches 4 = .ok (.getfield 32, 3) := by decide +kernel
theorem dX2_openPitches_7 : decode cX2_openPitches 7 = .ok (.iload_n 1, 1) := by decide +kernel
theorem dX2_openPitches_8 : decode cX2_openPitches 8 = .ok (.iaload, 1) := by decide +kernel
theorem dX2_openPitches_9 : decode cX2_openPitches 9 = .ok (.iadd, 1) := by decide +kernel
theorem dX2_openPitches_10 : decode cX2_openPitches 10 = .ok (.istore 4, 2) := by decide +kernel
theorem dX2_openPitches_12 : decode cX2_openPitches 12 = .ok (.iload_n 2, 1) := by decide +kernel
theorem dX2_openPitches_13 : decode cX2_openPitches 13 = .ok (.istore 5, 2) := by decide +kernel
theorem dX2_openPitches_15 : decode cX2_openPitches 15 = .ok (.iload 5, 2) := by decide +kernel
theorem dX2_openPitches_17 : decode cX2_openPitches 17 = .ok (.iload 4, 2) := by decide +kernel
theorem dX2_openPitches_19 : decode cX2_openPitches 19 = .ok (.if_icmp .ge 31, 3) := by decide +kernel
theorem dX2_openPitches_22 : decode cX2_openPitches 22 = .ok (.iload 5, 2) := by decide +kernel
theorem dX2_openPitches_24 : decode cX2_openPitches 24 = .ok (.aload_n 0, 1) := by decide +kernel
theorem dX2_openPitches_25 : decode cX2_openPitches 25 = .ok (.getfield 9, 3) := by decide +kernel
theorem dX2_openPitches_28 : decode cX2_openPitches 28 = .ok (.if_icmp .ge 22, 3) := by decide +kernel
theorem dX2_openPitches_31 : decode cX2_openPitches 31 = .ok (.aload_n 0, 1) := by decide +kernel
theorem dX2_openPitches_32 : decode cX2_openPitches 32 = .ok (.getfield 22, 3) := by decide +kernel
theorem dX2_openPitches_35 : decode cX2_openPitches 35 = .ok (.iload 5, 2) := by decide +kernel
theorem dX2_openPitches_37 : decode cX2_openPitches 37 = .ok (.baload, 1) := by decide +kernel
theorem dX2_openPitches_38 : decode cX2_openPitches 38 = .ok (.ifCond .ne 6, 3) := by decide +kernel
theorem dX2_openPitches_41 : decode cX2_openPitches 41 = .ok (.iinc 3 1, 3) := by decide +kernel
theorem dX2_openPitches_44 : decode cX2_openPitches 44 = .ok (.iinc 5 1, 3) := by decide +kernel
theorem dX2_openPitches_47 : decode cX2_openPitches 47 = .ok (.goto (-32), 3) := by decide +kernel
theorem dX2_openPitches_50 : decode cX2_openPitches 50 = .ok (.iload_n 3, 1) := by decide +kernel
theorem dX2_openPitches_51 : decode cX2_openPitches 51 = .ok (.ireturn, 1) := by decide +kernel
theorem dX2_coversFor_0 : decode cX2_coversFor 0 = .ok (.aload_n 0, 1) := by decide +kernel
theorem dX2_coversFor_1 : decode cX2_coversFor 1 = .ok (.getfield 38, 3) := by decide +kernel
theorem dX2_coversFor_4 : decode cX2_coversFor 4 = .ok (.iload_n 1, 1) := by decide +kernel
theorem dX2_coversFor_5 : decode cX2_coversFor 5 = .ok (.baload, 1) := by decide +kernel
theorem dX2_coversFor_6 : decode cX2_coversFor 6 = .ok (.ifCond .eq 12, 3) := by decide +kernel
theorem dX2_coversFor_9 : decode cX2_coversFor 9 = .ok (.aload_n 0, 1) := by decide +kernel
theorem dX2_coversFor_10 : decode cX2_coversFor 10 = .ok (.iload_n 1, 1) := by decide +kernel
theorem dX2_coversFor_11 : decode cX2_coversFor 11 = .ok (.iload_n 2, 1) := by decide +kernel
theorem dX2_coversFor_12 : decode cX2_coversFor 12 = .ok (.invokevirtual 73, 3) := by decide +kernel
theorem dX2_coversFor_15 : decode cX2_coversFor 15 = .ok (.goto 4, 3) := by decide +kernel
theorem dX2_coversFor_18 : decode cX2_coversFor 18 = .ok (.iconst 0, 1) := by decide +kernel
theorem dX2_coversFor_19 : decode cX2_coversFor 19 = .ok (.ireturn, 1) := by decide +kernel
theorem dX2_isSeated_0 : decode cX2_isSeated 0 = .ok (.aload_n 0, 1) := by decide +kernel
theorem dX2_isSeated_1 : decode cX2_isSeated 1 = .ok (.getfield 47, 3) := by decide +kernel
theorem dX2_isSeated_4 : decode cX2_isSeated 4 = .ok (.iload_n 1, 1) := by decide +kernel
theorem dX2_isSeated_5 : decode cX2_isSeated 5 = .ok (.iaload, 1) := by decide +kernel
theorem dX2_isSeated_6 : decode cX2_isSeated 6 = .ok (.iconst (-1), 1) := by decide +kernel
theorem dX2_isSeated_7 : decode cX2_isSeated 7 = .ok (.if_icmp .eq 7, 3) := by decide +kernel
theorem dX2_isSeated_10 : decode cX2_isSeated 10 = .ok (.iconst 1, 1) := by decide +kernel
theorem dX2_isSeated_11 : decode cX2_isSeated 11 = .ok (.goto 4, 3) := by decide +kernel
theorem dX2_isSeated_14 : decode cX2_isSeated 14 = .ok (.iconst 0, 1) := by decide +kernel
theorem dX2_isSeated_15 : decode cX2_isSeated 15 = .ok (.ireturn, 1) := by decide +kernel
theorem dX2_isSheltered_0 : decode cX2_isSheltered 0 = .ok (.aload_n 0, 1) := by decide +kernel
theorem dX2_isSheltered_1 : decode cX2_isSheltered 1 = .ok (.getfield 38, 3) := by decide +kernel
theorem dX2_isSheltered_4 : decode cX2_isSheltered 4 = .ok (.iload_n 1, 1) := by decide +kernel
theorem dX2_isSheltered_5 : decode cX2_isSheltered 5 = .ok (.baload, 1) := by decide +kernel
theorem dX2_isSheltered_6 : decode cX2_isSheltered 6 = .ok (.ifCond .ne 17, 3) := by decide +kernel
theorem dX2_isSheltered_9 : decode cX2_isSheltered 9 = .ok (.aload_n 0, 1) := by decide +kernel
theorem dX2_isSheltered_10 : decode cX2_isSheltered 10 = .ok (.iload_n 1, 1) := by decide +kernel
theorem dX2_isSheltered_11 : decode cX2_isSheltered 11 = .ok (.aload_n 0, 1) := by decide +kernel
theorem dX2_isSheltered_12 : decode cX2_isSheltered 12 = .ok (.getfield 47, 3) := by decide +kernel
theorem dX2_isSheltered_15 : decode cX2_isSheltered 15 = .ok (.iload_n 1, 1) := by decide +kernel
theorem dX2_isSheltered_16 : decode cX2_isSheltered 16 = .ok (.iaload, 1) := by decide +kernel
theorem dX2_isSheltered_17 : decode cX2_isSheltered 17 = .ok (.invokevirtual 73, 3) := by decide +kernel
theorem dX2_isSheltered_20 : decode cX2_isSheltered 20 = .ok (.ifCond .ne 7, 3) := by decide +kernel
theorem dX2_isSheltered_23 : decode cX2_isSheltered 23 = .ok (.iconst 1, 1) := by decide +kernel
theorem dX2_isSheltered_24 : decode cX2_isSheltered 24 = .ok (.goto 4, 3) := by decide +kernel
theorem dX2_isSheltered_27 : decode cX2_isSheltered 27 = .ok (.iconst 0, 1) := by decide +kernel
theorem dX2_isSheltered_28 : decode cX2_isSheltered 28 = .ok (.ireturn, 1) := by decide +kernel
theorem dX2_isBlockFree_0 : decode cX2_isBlockFree 0 = .ok (.iload_n 2, 1) := by decide +kernel
theorem dX2_isBlockFree_1 : decode cX2_isBlockFree 1 = .ok (.aload_n 0, 1) := by decide +kernel
theorem dX2_isBlockFree_2 : decode cX2_isBlockFree 2 = .ok (.getfield 32, 3) := by decide +kernel
theorem dX2_isBlockFree_5 : decode cX2_isBlockFree 5 = .ok (.iload_n 1, 1) := by decide +kernel
theorem dX2_isBlockFree_6 : decode cX2_isBlockFree 6 = .ok (.iaload, 1) := by decide +kernel
theorem dX2_isBlockFree_7 : decode cX2_isBlockFree 7 = .ok (.iadd, 1) := by decide +kernel
theorem dX2_isBlockFree_8 : decode cX2_isBlockFree 8 = .ok (.istore_n 3, 1) := by decide +kernel
theorem dX2_isBlockFree_9 : decode cX2_isBlockFree 9 = .ok (.iload_n 2, 1) := by decide +kernel
theorem dX2_isBlockFree_10 : decode cX2_isBlockFree 10 = .ok (.istore 4, 2) := by decide +kernel
theorem dX2_isBlockFree_12 : decode cX2_isBlockFree 12 = .ok (.iload 4, 2) := by decide +kernel
theorem dX2_isBlockFree_14 : decode cX2_isBlockFree 14 = .ok (.iload_n 3, 1) := by decide +kernel
theorem dX2_isBlockFree_15 : decode cX2_isBlockFree 15 = .ok (.if_icmp .ge 31, 3) := by decide +kernel
theorem dX2_isBlockFree_18 : decode cX2_isBlockFree 18 = .ok (.iload 4, 2) := by decide +kernel
theorem dX2_isBlockFree_20 : decode cX2_isBlockFree 20 = .ok (.aload_n 0, 1) := by decide +kernel
theorem dX2_isBlockFree_21 : decode cX2_isBlockFree 21 = .ok (.getfield 9, 3) := by decide +kernel
theorem dX2_isBlockFree_24 : decode cX2_isBlockFree 24 = .ok (.if_icmp .ge 22, 3) := by decide +kernel
theorem dX2_isBlockFree_27 : decode cX2_isBlockFree 27 = .ok (.aload_n 0, 1) := by decide +kernel
theorem dX2_isBlockFree_28 : decode cX2_isBlockFree 28 = .ok (.getfield 50, 3) := by decide +kernel
theorem dX2_isBlockFree_31 : decode cX2_isBlockFree 31 = .ok (.iload 4, 2) := by decide +kernel
theorem dX2_isBlockFree_33 : decode cX2_isBlockFree 33 = .ok (.iaload, 1) := by decide +kernel
theorem dX2_isBlockFree_34 : decode cX2_isBlockFree 34 = .ok (.iconst (-1), 1) := by decide +kernel
theorem dX2_isBlockFree_35 : decode cX2_isBlockFree 35 = .ok (.if_icmp .eq 5, 3) := by decide +kernel
theorem dX2_isBlockFree_38 : decode cX2_isBlockFree 38 = .ok (.iconst 0, 1) := by decide +kernel
theorem dX2_isBlockFree_39 : decode cX2_isBlockFree 39 = .ok (.ireturn, 1) := by decide +kernel
theorem dX2_isBlockFree_40 : decode cX2_isBlockFree 40 = .ok (.iinc 4 1, 3) := by decide +kernel
theorem dX2_isBlockFree_43 : decode cX2_isBlockFree 43 = .ok (.goto (-31), 3) := by decide +kernel
theorem dX2_isBlockFree_46 : decode cX2_isBlockFree 46 = .ok (.iconst 1, 1) := by decide +kernel
theorem dX2_isBlockFree_47 : decode cX2_isBlockFree 47 = .ok (.ireturn, 1) := by decide +kernel
theorem dX2_clashesBeside_0 : decode cX2_clashesBeside 0 = .ok (.iload_n 2, 1) := by decide +kernel
theorem dX2_clashesBeside_1 : decode cX2_clashesBeside 1 = .ok (.aload_n 0, 1) := by decide +kernel
theorem dX2_clashesBeside_2 : decode cX2_clashesBeside 2 = .ok (.getfield 32, 3) := by decide +kernel
theorem dX2_clashesBeside_5 : decode cX2_clashesBeside 5 = .ok (.iload_n 1, 1) := by decide +kernel
theorem dX2_clashesBeside_6 : decode cX2_clashesBeside 6 = .ok (.iaload, 1) := by decide +kernel
theorem dX2_clashesBeside_7 : decode cX2_clashesBeside 7 = .ok (.iadd, 1) := by decide +kernel
theorem dX2_clashesBeside_8 : decode cX2_clashesBeside 8 = .ok (.iconst 1, 1) := by decide +kernel
theorem dX2_clashesBeside_9 : decode cX2_clashesBeside 9 = .ok (.isub, 1) := by decide +kernel
theorem dX2_clashesBeside_10 : decode cX2_clashesBeside 10 = .ok (.istore_n 3, 1) := by decide +kernel
theorem dX2_clashesBeside_11 : decode cX2_clashesBeside 11 = .ok (.aload_n 0, 1) := by decide +kernel
theorem dX2_clashesBeside_12 : decode cX2_clashesBeside 12 = .ok (.iload_n 2, 1) := by decide +kernel
theorem dX2_clashesBeside_13 : decode cX2_clashesBeside 13 = .ok (.iconst 1, 1) := by decide +kernel
theorem dX2_clashesBeside_14 : decode cX2_clashesBeside 14 = .ok (.isub, 1) := by decide +kernel
theorem dX2_clashesBeside_15 : decode cX2_clashesBeside 15 = .ok (.iload_n 2, 1) := by decide +kernel
theorem dX2_clashesBeside_16 : decode cX2_clashesBeside 16 = .ok (.invokevirtual 65, 3) := by decide +kernel
theorem dX2_clashesBeside_19 : decode cX2_clashesBeside 19 = .ok (.ifCond .eq 19, 3) := by decide +kernel
theorem dX2_clashesBeside_22 : decode cX2_clashesBeside 22 = .ok (.aload_n 0, 1) := by decide +kernel
theorem dX2_clashesBeside_23 : decode cX2_clashesBeside 23 = .ok (.iload_n 1, 1) := by decide +kernel
theorem dX2_clashesBeside_24 : decode cX2_clashesBeside 24 = .ok (.aload_n 0, 1) := by decide +kernel
theorem dX2_clashesBeside_25 : decode cX2_clashesBeside 25 = .ok (.getfield 50, 3) := by decide +kernel
theorem dX2_clashesBeside_28 : decode cX2_clashesBeside 28 = .ok (.iload_n 2, 1) := by decide +kernel
theorem dX2_clashesBeside_29 : decode cX2_clashesBeside 29 = .ok (.iconst 1, 1) := by decide +kernel
theorem dX2_clashesBeside_30 : decode cX2_clashesBeside 30 = .ok (.isub, 1) := by decide +kernel
theorem dX2_clashesBeside_31 : decode cX2_clashesBeside 31 = .ok (.iaload, 1) := by decide +kernel
theorem dX2_clashesBeside_32 : decode cX2_clashesBeside 32 = .ok (.invokevirtual 76, 3) := by decide +kernel
theorem dX2_clashesBeside_35 : decode cX2_clashesBeside 35 = .ok (.ifCond .ne 30, 3) := by decide +kernel
theorem dX2_clashesBeside_38 : decode cX2_clashesBeside 38 = .ok (.aload_n 0, 1) := by decide +kernel
theorem dX2_clashesBeside_39 : decode cX2_clashesBeside 39 = .ok (.iload_n 3, 1) := by decide +kernel
theorem dX2_clashesBeside_40 : decode cX2_clashesBeside 40 = .ok (.iload_n 3, 1) := by decide +kernel
theorem dX2_clashesBeside_41 : decode cX2_clashesBeside 41 = .ok (.iconst 1, 1) := by decide +kernel
theorem dX2_clashesBeside_42 : decode cX2_clashesBeside 42 = .ok (.iadd, 1) := by decide +kernel
theorem dX2_clashesBeside_43 : decode cX2_clashesBeside 43 = .ok (.invokevirtual 65, 3) := by decide +kernel
theorem dX2_clashesBeside_46 : decode cX2_clashesBeside 46 = .ok (.ifCond .eq 23, 3) := by decide +kernel
theorem dX2_clashesBeside_49 : decode cX2_clashesBeside 49 = .ok (.aload_n 0, 1) := by decide +kernel
theorem dX2_clashesBeside_50 : decode cX2_clashesBeside 50 = .ok (.iload_n 1, 1) := by decide +kernel
theorem dX2_clashesBeside_51 : decode cX2_clashesBeside 51 = .ok (.aload_n 0, 1) := by decide +kernel
theorem dX2_clashesBeside_52 : decode cX2_clashesBeside 52 = .ok (.getfield 50, 3) := by decide +kernel
theorem dX2_clashesBeside_55 : decode cX2_clashesBeside 55 = .ok (.iload_n 3, 1) := by decide +kernel
theorem dX2_clashesBeside_56 : decode cX2_clashesBeside 56 = .ok (.iconst 1, 1) := by decide +kernel
theorem dX2_clashesBeside_57 : decode cX2_clashesBeside 57 = .ok (.iadd, 1) := by decide +kernel
theorem dX2_clashesBeside_58 : decode cX2_clashesBeside 58 = .ok (.iaload, 1) := by decide +kernel
theorem dX2_clashesBeside_59 : decode cX2_clashesBeside 59 = .ok (.invokevirtual 76, 3) := by decide +kernel
theorem dX2_clashesBeside_62 : decode cX2_clashesBeside 62 = .ok (.ifCond .eq 7, 3) := by decide +kernel
theorem dX2_clashesBeside_65 : decode cX2_clashesBeside 65 = .ok (.iconst 1, 1) := by decide +kernel
theorem dX2_clashesBeside_66 : decode cX2_clashesBeside 66 = .ok (.goto 4, 3) := by decide +kernel
theorem dX2_clashesBeside_69 : decode cX2_clashesBeside 69 = .ok (.iconst 0, 1) := by decide +kernel
theorem dX2_clashesBeside_70 : decode cX2_clashesBeside 70 = .ok (.ireturn, 1) := by decide +kernel
theorem dX2_clashesWith_0 : decode cX2_clashesWith 0 = .ok (.iload_n 2, 1) := by decide +kernel
theorem dX2_clashesWith_1 : decode cX2_clashesWith 1 = .ok (.iconst (-1), 1) := by decide +kernel
theorem dX2_clashesWith_2 : decode cX2_clashesWith 2 = .ok (.if_icmp .eq 30, 3) := by decide +kernel
theorem dX2_clashesWith_5 : decode cX2_clashesWith 5 = .ok (.aload_n 0, 1) := by decide +kernel
theorem dX2_clashesWith_6 : decode cX2_clashesWith 6 = .ok (.getfield 41, 3) := by decide +kernel
theorem dX2_clashesWith_9 : decode cX2_clashesWith 9 = .ok (.aload_n 0, 1) := by decide +kernel
theorem dX2_clashesWith_10 : decode cX2_clashesWith 10 = .ok (.getfield 29, 3) := by decide +kernel
theorem dX2_clashesWith_13 : decode cX2_clashesWith 13 = .ok (.iload_n 1, 1) := by decide +kernel
theorem dX2_clashesWith_14 : decode cX2_clashesWith 14 = .ok (.iaload, 1) := by decide +kernel
theorem dX2_clashesWith_15 : decode cX2_clashesWith 15 = .ok (.iaload, 1) := by decide +kernel
theorem dX2_clashesWith_16 : decode cX2_clashesWith 16 = .ok (.aload_n 0, 1) := by decide +kernel
theorem dX2_clashesWith_17 : decode cX2_clashesWith 17 = .ok (.getfield 29, 3) := by decide +kernel
theorem dX2_clashesWith_20 : decode cX2_clashesWith 20 = .ok (.iload_n 2, 1) := by decide +kernel
theorem dX2_clashesWith_21 : decode cX2_clashesWith 21 = .ok (.iaload, 1) := by decide +kernel
theorem dX2_clashesWith_22 : decode cX2_clashesWith 22 = .ok (.ishr, 1) := by decide +kernel
theorem dX2_clashesWith_23 : decode cX2_clashesWith 23 = .ok (.iconst 1, 1) := by decide +kernel
theorem dX2_clashesWith_24 : decode cX2_clashesWith 24 = .ok (.iand, 1) := by decide +kernel
theorem dX2_clashesWith_25 : decode cX2_clashesWith 25 = .ok (.ifCond .eq 7, 3) := by decide +kernel
theorem dX2_clashesWith_28 : decode cX2_clashesWith 28 = .ok (.iconst 1, 1) := by decide +kernel
theorem dX2_clashesWith_29 : decode cX2_clashesWith 29 = .ok (.goto 4, 3) := by decide +kernel
theorem dX2_clashesWith_32 : decode cX2_clashesWith 32 = .ok (.iconst 0, 1) := by decide +kernel
theorem dX2_clashesWith_33 : decode cX2_clashesWith 33 = .ok (.ireturn, 1) := by decide +kernel
theorem dX2_hindrance_0 : decode cX2_hindrance 0 = .ok (.aload_n 0, 1) := by decide +kernel
theorem dX2_hindrance_1 : decode cX2_hindrance 1 = .ok (.iload_n 1, 1) := by decide +kernel
theorem dX2_hindrance_2 : decode cX2_hindrance 2 = .ok (.invokevirtual 79, 3) := by decide +kernel
theorem dX2_hindrance_5 : decode cX2_hindrance 5 = .ok (.ifCond .eq 5, 3) := by decide +kernel
theorem dX2_hindrance_8 : decode cX2_hindrance 8 = .ok (.iconst 1, 1) := by decide +kernel
theorem dX2_hindrance_9 : decode cX2_hindrance 9 = .ok (.ireturn, 1) := by decide +kernel
theorem dX2_hindrance_10 : decode cX2_hindrance 10 = .ok (.aload_n 0, 1) := by decide +kernel
theorem dX2_hindrance_11 : decode cX2_hindrance 11 = .ok (.iload_n 1, 1) := by decide +kernel
theorem dX2_hindrance_12 : decode cX2_hindrance 12 = .ok (.iload_n 2, 1) := by decide +kernel
theorem dX2_hindrance_13 : decode cX2_hindrance 13 = .ok (.invokevirtual 83, 3) := by decide +kernel
theorem dX2_hindrance_16 : decode cX2_hindrance 16 = .ok (.ifCond .ne 5, 3) := by decide +kernel
theorem dX2_hindrance_19 : decode cX2_hindrance 19 = .ok (.iconst 2, 1) := by decide +kernel
theorem dX2_hindrance_20 : decode cX2_hindrance 20 = .ok (.ireturn, 1) := by decide +kernel
theorem dX2_hindrance_21 : decode cX2_hindrance 21 = .ok (.aload_n 0, 1) := by decide +kernel
theorem dX2_hindrance_22 : decode cX2_hindrance 22 = .ok (.iload_n 1, 1) := by decide +kernel
theorem dX2_hindrance_23 : decode cX2_hindrance 23 = .ok (.iload_n 2, 1) := by decide +kernel
theorem dX2_hindrance_24 : decode cX2_hindrance 24 = .ok (.invokevirtual 86, 3) := by decide +kernel
theorem dX2_hindrance_27 : decode cX2_hindrance 27 = .ok (.ifCond .ne 5, 3) := by decide +kernel
theorem dX2_hindrance_30 : decode cX2_hindrance 30 = .ok (.iconst 3, 1) := by decide +kernel
theorem dX2_hindrance_31 : decode cX2_hindrance 31 = .ok (.ireturn, 1) := by decide +kernel
theorem dX2_hindrance_32 : decode cX2_hindrance 32 = .ok (.aload_n 0, 1) := by decide +kernel
theorem dX2_hindrance_33 : decode cX2_hindrance 33 = .ok (.iload_n 1, 1) := by decide +kernel
theorem dX2_hindrance_34 : decode cX2_hindrance 34 = .ok (.iload_n 2, 1) := by decide +kernel
theorem dX2_hindrance_35 : decode cX2_hindrance 35 = .ok (.invokevirtual 89, 3) := by decide +kernel
theorem dX2_hindrance_38 : decode cX2_hindrance 38 = .ok (.ifCond .ne 5, 3) := by decide +kernel
theorem dX2_hindrance_41 : decode cX2_hindrance 41 = .ok (.iconst 4, 1) := by decide +kernel
theorem dX2_hindrance_42 : decode cX2_hindrance 42 = .ok (.ireturn, 1) := by decide +kernel
theorem dX2_hindrance_43 : decode cX2_hindrance 43 = .ok (.aload_n 0, 1) := by decide +kernel
theorem dX2_hindrance_44 : decode cX2_hindrance 44 = .ok (.getfield 53, 3) := by decide +kernel
theorem dX2_hindrance_47 : decode cX2_hindrance 47 = .ok (.aload_n 0, 1) := by decide +kernel
theorem dX2_hindrance_48 : decode cX2_hindrance 48 = .ok (.iload_n 1, 1) := by decide +kernel
theorem dX2_hindrance_49 : decode cX2_hindrance 49 = .ok (.iload_n 2, 1) := by decide +kernel
theorem dX2_hindrance_50 : decode cX2_hindrance 50 = .ok (.invokevirtual 92, 3) := by decide +kernel
theorem dX2_hindrance_53 : decode cX2_hindrance 53 = .ok (.iadd, 1) := by decide +kernel
theorem dX2_hindrance_54 : decode cX2_hindrance 54 = .ok (.aload_n 0, 1) := by decide +kernel
theorem dX2_hindrance_55 : decode cX2_hindrance 55 = .ok (.getfield 44, 3) := by decide +kernel
theorem dX2_hindrance_58 : decode cX2_hindrance 58 = .ok (.if_icmp .le 5, 3) := by decide +kernel
theorem dX2_hindrance_61 : decode cX2_hindrance 61 = .ok (.iconst 5, 1) := by decide +kernel
theorem dX2_hindrance_62 : decode cX2_hindrance 62 = .ok (.ireturn, 1) := by decide +kernel
theorem dX2_hindrance_63 : decode cX2_hindrance 63 = .ok (.aload_n 0, 1) := by decide +kernel
theorem dX2_hindrance_64 : decode cX2_hindrance 64 = .ok (.iload_n 1, 1) := by decide +kernel
theorem dX2_hindrance_65 : decode cX2_hindrance 65 = .ok (.iload_n 2, 1) := by decide +kernel
theorem dX2_hindrance_66 : decode cX2_hindrance 66 = .ok (.invokevirtual 95, 3) := by decide +kernel
theorem dX2_hindrance_69 : decode cX2_hindrance 69 = .ok (.ifCond .eq 8, 3) := by decide +kernel
theorem dX2_hindrance_72 : decode cX2_hindrance 72 = .ok (.bipush 6, 2) := by decide +kernel
theorem dX2_hindrance_74 : decode cX2_hindrance 74 = .ok (.goto 4, 3) := by decide +kernel
theorem dX2_hindrance_77 : decode cX2_hindrance 77 = .ok (.iconst 0, 1) := by decide +kernel
theorem dX2_hindrance_78 : decode cX2_hindrance 78 = .ok (.ireturn, 1) := by decide +kernel
theorem dX2_seat_0 : decode cX2_seat 0 = .ok (.aload_n 0, 1) := by decide +kernel
theorem dX2_seat_1 : decode cX2_seat 1 = .ok (.iload_n 2, 1) := by decide +kernel
theorem dX2_seat_2 : decode cX2_seat 2 = .ok (.aload_n 0, 1) := by decide +kernel
theorem dX2_seat_3 : decode cX2_seat 3 = .ok (.getfield 32, 3) := by decide +kernel
theorem dX2_seat_6 : decode cX2_seat 6 = .ok (.iload_n 1, 1) := by decide +kernel
theorem dX2_seat_7 : decode cX2_seat 7 = .ok (.iaload, 1) := by decide +kernel
theorem dX2_seat_8 : decode cX2_seat 8 = .ok (.iload_n 1, 1) := by decide +kernel
theorem dX2_seat_9 : decode cX2_seat 9 = .ok (.invokevirtual 98, 3) := by decide +kernel
theorem dX2_seat_12 : decode cX2_seat 12 = .ok (.aload_n 0, 1) := by decide +kernel
theorem dX2_seat_13 : decode cX2_seat 13 = .ok (.getfield 47, 3) := by decide +kernel
theorem dX2_seat_16 : decode cX2_seat 16 = .ok (.iload_n 1, 1) := by decide +kernel
theorem dX2_seat_17 : decode cX2_seat 17 = .ok (.iload_n 2, 1) := by decide +kernel
theorem dX2_seat_18 : decode cX2_seat 18 = .ok (.iastore, 1) := by decide +kernel
theorem dX2_seat_19 : decode cX2_seat 19 = .ok (.aload_n 0, 1) := by decide +kernel
theorem dX2_seat_20 : decode cX2_seat 20 = .ok (.dup, 1) := by decide +kernel
theorem dX2_seat_21 : decode cX2_seat 21 = .ok (.getfield 53, 3) := by decide +kernel
theorem dX2_seat_24 : decode cX2_seat 24 = .ok (.aload_n 0, 1) := by decide +kernel
theorem dX2_seat_25 : decode cX2_seat 25 = .ok (.iload_n 1, 1) := by decide +kernel
theorem dX2_seat_26 : decode cX2_seat 26 = .ok (.iload_n 2, 1) := by decide +kernel
theorem dX2_seat_27 : decode cX2_seat 27 = .ok (.invokevirtual 92, 3) := by decide +kernel
theorem dX2_seat_30 : decode cX2_seat 30 = .ok (.iadd, 1) := by decide +kernel
theorem dX2_seat_31 : decode cX2_seat 31 = .ok (.putfield 53, 3) := by decide +kernel
theorem dX2_seat_34 : decode cX2_seat 34 = .ok (.return_, 1) := by decide +kernel
theorem dX2_seatIfPossible_0 : decode cX2_seatIfPossible 0 = .ok (.aload_n 0, 1) := by decide +kernel
theorem dX2_seatIfPossible_1 : decode cX2_seatIfPossible 1 = .ok (.iload_n 1, 1) := by decide +kernel
theorem dX2_seatIfPossible_2 : decode cX2_seatIfPossible 2 = .ok (.iload_n 2, 1) := by decide +kernel
theorem dX2_seatIfPossible_3 : decode cX2_seatIfPossible 3 = .ok (.invokevirtual 102, 3) := by decide +kernel
theorem dX2_seatIfPossible_6 : decode cX2_seatIfPossible 6 = .ok (.ifCond .eq 5, 3) := by decide +kernel
theorem dX2_seatIfPossible_9 : decode cX2_seatIfPossible 9 = .ok (.iconst 0, 1) := by decide +kernel
theorem dX2_seatIfPossible_10 : decode cX2_seatIfPossible 10 = .ok (.ireturn, 1) := by decide +kernel
theorem dX2_seatIfPossible_11 : decode cX2_seatIfPossible 11 = .ok (.aload_n 0, 1) := by decide +kernel
theorem dX2_seatIfPossible_12 : decode cX2_seatIfPossible 12 = .ok (.iload_n 1, 1) := by decide +kernel
theorem dX2_seatIfPossible_13 : decode cX2_seatIfPossible 13 = .ok (.iload_n 2, 1) := by decide +kernel
theorem dX2_seatIfPossible_14 : decode cX2_seatIfPossible 14 = .ok (.invokevirtual 105, 3) := by decide +kernel
theorem dX2_seatIfPossible_17 : decode cX2_seatIfPossible 17 = .ok (.iconst 1, 1) := by decide +kernel
theorem dX2_seatIfPossible_18 : decode cX2_seatIfPossible 18 = .ok (.ireturn, 1) := by decide +kernel
theorem dX2_dearestStart_0 : decode cX2_dearestStart 0 = .ok (.iconst (-1), 1) := by decide +kernel
theorem dX2_dearestStart_1 : decode cX2_dearestStart 1 = .ok (.istore_n 3, 1) := by decide +kernel
theorem dX2_dearestStart_2 : decode cX2_dearestStart 2 = .ok (.iconst 0, 1) := by decide +kernel
theorem dX2_dearestStart_3 : decode cX2_dearestStart 3 = .ok (.istore 4, 2) := by decide +kernel
theorem dX2_dearestStart_5 : decode cX2_dearestStart 5 = .ok (.iconst 0, 1) := by decide +kernel
theorem dX2_dearestStart_6 : decode cX2_dearestStart 6 = .ok (.istore 5, 2) := by decide +kernel
theorem dX2_dearestStart_8 : decode cX2_dearestStart 8 = .ok (.iload 5, 2) := by decide +kernel
theorem dX2_dearestStart_10 : decode cX2_dearestStart 10 = .ok (.aload_n 0, 1) := by decide +kernel
theorem dX2_dearestStart_11 : decode cX2_dearestStart 11 = .ok (.getfield 9, 3) := by decide +kernel
theorem dX2_dearestStart_14 : decode cX2_dearestStart 14 = .ok (.if_icmp .ge 48, 3) := by decide +kernel
theorem dX2_dearestStart_17 : decode cX2_dearestStart 17 = .ok (.aload_n 0, 1) := by decide +kernel
theorem dX2_dearestStart_18 : decode cX2_dearestStart 18 = .ok (.iload_n 1, 1) := by decide +kernel
theorem dX2_dearestStart_19 : decode cX2_dearestStart 19 = .ok (.iload 5, 2) := by decide +kernel
theorem dX2_dearestStart_21 : decode cX2_dearestStart 21 = .ok (.invokevirtual 69, 3) := by decide +kernel
theorem dX2_dearestStart_24 : decode cX2_dearestStart 24 = .ok (.istore 6, 2) := by decide +kernel
theorem dX2_dearestStart_26 : decode cX2_dearestStart 26 = .ok (.iload 6, 2) := by decide +kernel
theorem dX2_dearestStart_28 : decode cX2_dearestStart 28 = .ok (.iload 4, 2) := by decide +kernel
theorem dX2_dearestStart_30 : decode cX2_dearestStart 30 = .ok (.if_icmp .le 26, 3) := by decide +kernel
theorem dX2_dearestStart_33 : decode cX2_dearestStart 33 = .ok (.iload 5, 2) := by decide +kernel
theorem dX2_dearestStart_35 : decode cX2_dearestStart 35 = .ok (.iload_n 2, 1) := by decide +kernel
theorem dX2_dearestStart_36 : decode cX2_dearestStart 36 = .ok (.if_icmp .eq 20, 3) := by decide +kernel
theorem dX2_dearestStart_39 : decode cX2_dearestStart 39 = .ok (.aload_n 0, 1) := by decide +kernel
theorem dX2_dearestStart_40 : decode cX2_dearestStart 40 = .ok (.iload_n 1, 1) := by decide +kernel
theorem dX2_dearestStart_41 : decode cX2_dearestStart 41 = .ok (.iload 5, 2) := by decide +kernel
theorem dX2_dearestStart_43 : decode cX2_dearestStart 43 = .ok (.invokevirtual 102, 3) := by decide +kernel
theorem dX2_dearestStart_46 : decode cX2_dearestStart 46 = .ok (.ifCond .ne 10, 3) := by decide +kernel
theorem dX2_dearestStart_49 : decode cX2_dearestStart 49 = .ok (.iload 6, 2) := by decide +kernel
theorem dX2_dearestStart_51 : decode cX2_dearestStart 51 = .ok (.istore 4, 2) := by decide +kernel
theorem dX2_dearestStart_53 : decode cX2_dearestStart 53 = .ok (.iload 5, 2) := by decide +kernel
theorem dX2_dearestStart_55 : decode cX2_dearestStart 55 = .ok (.istore_n 3, 1) := by decide +kernel
theorem dX2_dearestStart_56 : decode cX2_dearestStart 56 = .ok (.iinc 5 1, 3) := by decide +kernel
theorem dX2_dearestStart_59 : decode cX2_dearestStart 59 = .ok (.goto (-51), 3) := by decide +kernel
theorem dX2_dearestStart_62 : decode cX2_dearestStart 62 = .ok (.iload_n 3, 1) := by decide +kernel
theorem dX2_dearestStart_63 : decode cX2_dearestStart 63 = .ok (.ireturn, 1) := by decide +kernel
theorem dX2_seatDearest_0 : decode cX2_seatDearest 0 = .ok (.aload_n 0, 1) := by decide +kernel
theorem dX2_seatDearest_1 : decode cX2_seatDearest 1 = .ok (.iload_n 1, 1) := by decide +kernel
theorem dX2_seatDearest_2 : decode cX2_seatDearest 2 = .ok (.iconst (-1), 1) := by decide +kernel
theorem dX2_seatDearest_3 : decode cX2_seatDearest 3 = .ok (.invokevirtual 109, 3) := by decide +kernel
theorem dX2_seatDearest_6 : decode cX2_seatDearest 6 = .ok (.istore_n 2, 1) := by decide +kernel
theorem dX2_seatDearest_7 : decode cX2_seatDearest 7 = .ok (.iload_n 2, 1) := by decide +kernel
theorem dX2_seatDearest_8 : decode cX2_seatDearest 8 = .ok (.iconst (-1), 1) := by decide +kernel
theorem dX2_seatDearest_9 : decode cX2_seatDearest 9 = .ok (.if_icmp .eq 9, 3) := by decide +kernel
theorem dX2_seatDearest_12 : decode cX2_seatDearest 12 = .ok (.aload_n 0, 1) := by decide +kernel
theorem dX2_seatDearest_13 : decode cX2_seatDearest 13 = .ok (.iload_n 1, 1) := by decide +kernel
theorem dX2_seatDearest_14 : decode cX2_seatDearest 14 = .ok (.iload_n 2, 1) := by decide +kernel
theorem dX2_seatDearest_15 : decode cX2_seatDearest 15 = .ok (.invokevirtual 105, 3) := by decide +kernel
theorem dX2_seatDearest_18 : decode cX2_seatDearest 18 = .ok (.return_, 1) := by decide +kernel
theorem dX2_unseat_0 : decode cX2_unseat 0 = .ok (.aload_n 0, 1) := by decide +kernel
theorem dX2_unseat_1 : decode cX2_unseat 1 = .ok (.iload_n 1, 1) := by decide +kernel
theorem dX2_unseat_2 : decode cX2_unseat 2 = .ok (.invokevirtual 79, 3) := by decide +kernel
theorem dX2_unseat_5 : decode cX2_unseat 5 = .ok (.ifCond .eq 44, 3) := by decide +kernel
theorem dX2_unseat_8 : decode cX2_unseat 8 = .ok (.aload_n 0, 1) := by decide +kernel
theorem dX2_unseat_9 : decode cX2_unseat 9 = .ok (.getfield 47, 3) := by decide +kernel
theorem dX2_unseat_12 : decode cX2_unseat 12 = .ok (.iload_n 1, 1) := by decide +kernel
theorem dX2_unseat_13 : decode cX2_unseat 13 = .ok (.iaload, 1) := by decide +kernel
theorem dX2_unseat_14 : decode cX2_unseat 14 = .ok (.istore_n 2, 1) := by decide +kernel
theorem dX2_unseat_15 : decode cX2_unseat 15 = .ok (.aload_n 0, 1) := by decide +kernel
theorem dX2_unseat_16 : decode cX2_unseat 16 = .ok (.iload_n 2, 1) := by decide +kernel
theorem dX2_unseat_17 : decode cX2_unseat 17 = .ok (.aload_n 0, 1) := by decide +kernel
theorem dX2_unseat_18 : decode cX2_unseat 18 = .ok (.getfield 32, 3) := by decide +kernel
theorem dX2_unseat_21 : decode cX2_unseat 21 = .ok (.iload_n 1, 1) := by decide +kernel
theorem dX2_unseat_22 : decode cX2_unseat 22 = .ok (.iaload, 1) := by decide +kernel
theorem dX2_unseat_23 : decode cX2_unseat 23 = .ok (.iconst (-1), 1) := by decide +kernel
theorem dX2_unseat_24 : decode cX2_unseat 24 = .ok (.invokevirtual 98, 3) := by decide +kernel
theorem dX2_unseat_27 : decode cX2_unseat 27 = .ok (.aload_n 0, 1) := by decide +kernel
theorem dX2_unseat_28 : decode cX2_unseat 28 = .ok (.getfield 47, 3) := by decide +kernel
theorem dX2_unseat_31 : decode cX2_unseat 31 = .ok (.iload_n 1, 1) := by decide +kernel
theorem dX2_unseat_32 : decode cX2_unseat 32 = .ok (.iconst (-1), 1) := by decide +kernel
theorem dX2_unseat_33 : decode cX2_unseat 33 = .ok (.iastore, 1) := by decide +kernel
theorem dX2_unseat_34 : decode cX2_unseat 34 = .ok (.aload_n 0, 1) := by decide +kernel
theorem dX2_unseat_35 : decode cX2_unseat 35 = .ok (.dup, 1) := by decide +kernel
theorem dX2_unseat_36 : decode cX2_unseat 36 = .ok (.getfield 53, 3) := by decide +kernel
theorem dX2_unseat_39 : decode cX2_unseat 39 = .ok (.aload_n 0, 1) := by decide +kernel
theorem dX2_unseat_40 : decode cX2_unseat 40 = .ok (.iload_n 1, 1) := by decide +kernel
theorem dX2_unseat_41 : decode cX2_unseat 41 = .ok (.iload_n 2, 1) := by decide +kernel
theorem dX2_unseat_42 : decode cX2_unseat 42 = .ok (.invokevirtual 92, 3) := by decide +kernel
theorem dX2_unseat_45 : decode cX2_unseat 45 = .ok (.isub, 1) := by decide +kernel
theorem dX2_unseat_46 : decode cX2_unseat 46 = .ok (.putfield 53, 3) := by decide +kernel
theorem dX2_unseat_49 : decode cX2_unseat 49 = .ok (.return_, 1) := by decide +kernel
theorem dX2_unseatAll_0 : decode cX2_unseatAll 0 = .ok (.iconst 0, 1) := by decide +kernel
theorem dX2_unseatAll_1 : decode cX2_unseatAll 1 = .ok (.istore_n 1, 1) := by decide +kernel
theorem dX2_unseatAll_2 : decode cX2_unseatAll 2 = .ok (.iload_n 1, 1) := by decide +kernel
theorem dX2_unseatAll_3 : decode cX2_unseatAll 3 = .ok (.aload_n 0, 1) := by decide +kernel
theorem dX2_unseatAll_4 : decode cX2_unseatAll 4 = .ok (.getfield 26, 3) := by decide +kernel
theorem dX2_unseatAll_7 : decode cX2_unseatAll 7 = .ok (.if_icmp .ge 14, 3) := by decide +kernel
theorem dX2_unseatAll_10 : decode cX2_unseatAll 10 = .ok (.aload_n 0, 1) := by decide +kernel
theorem dX2_unseatAll_11 : decode cX2_unseatAll 11 = .ok (.iload_n 1, 1) := by decide +kernel
theorem dX2_unseatAll_12 : decode cX2_unseatAll 12 = .ok (.invokevirtual 112, 3) := by decide +kernel
theorem dX2_unseatAll_15 : decode cX2_unseatAll 15 = .ok (.iinc 1 1, 3) := by decide +kernel
theorem dX2_unseatAll_18 : decode cX2_unseatAll 18 = .ok (.goto (-16), 3) := by decide +kernel
theorem dX2_unseatAll_21 : decode cX2_unseatAll 21 = .ok (.return_, 1) := by decide +kernel
theorem dX2_settle_0 : decode cX2_settle 0 = .ok (.iload_n 1, 1) := by decide +kernel
theorem dX2_settle_1 : decode cX2_settle 1 = .ok (.iload_n 2, 1) := by decide +kernel
theorem dX2_settle_2 : decode cX2_settle 2 = .ok (.iadd, 1) := by decide +kernel
theorem dX2_settle_3 : decode cX2_settle 3 = .ok (.istore 4, 2) := by decide +kernel
theorem dX2_settle_5 : decode cX2_settle 5 = .ok (.iload_n 1, 1) := by decide +kernel
theorem dX2_settle_6 : decode cX2_settle 6 = .ok (.istore 5, 2) := by decide +kernel
theorem dX2_settle_8 : decode cX2_settle 8 = .ok (.iload 5, 2) := by decide +kernel
theorem dX2_settle_10 : decode cX2_settle 10 = .ok (.iload 4, 2) := by decide +kernel
theorem dX2_settle_12 : decode cX2_settle 12 = .ok (.if_icmp .ge 26, 3) := by decide +kernel
theorem dX2_settle_15 : decode cX2_settle 15 = .ok (.iload 5, 2) := by decide +kernel
theorem dX2_settle_17 : decode cX2_settle 17 = .ok (.aload_n 0, 1) := by decide +kernel
theorem dX2_settle_18 : decode cX2_settle 18 = .ok (.getfield 9, 3) := by decide +kernel
theorem dX2_settle_21 : decode cX2_settle 21 = .ok (.if_icmp .ge 17, 3) := by decide +kernel
theorem dX2_settle_24 : decode cX2_settle 24 = .ok (.aload_n 0, 1) := by decide +kernel
theorem dX2_settle_25 : decode cX2_settle 25 = .ok (.getfield 50, 3) := by decide +kernel
theorem dX2_settle_28 : decode cX2_settle 28 = .ok (.iload 5, 2) := by decide +kernel
theorem dX2_settle_30 : decode cX2_settle 30 = .ok (.iload_n 3, 1) := by decide +kernel
theorem dX2_settle_31 : decode cX2_settle 31 = .ok (.iastore, 1) := by decide +kernel
theorem dX2_settle_32 : decode cX2_settle 32 = .ok (.iinc 5 1, 3) := by decide +kernel
theorem dX2_settle_35 : decode cX2_settle 35 = .ok (.goto (-27), 3) := by decide +kernel
theorem dX2_settle_38 : decode cX2_settle 38 = .ok (.return_, 1) := by decide +kernel
theorem dX2_countSeated_0 : decode cX2_countSeated 0 = .ok (.iconst 0, 1) := by decide +kernel
theorem dX2_countSeated_1 : decode cX2_countSeated 1 = .ok (.istore_n 1, 1) := by decide +kernel
theorem dX2_countSeated_2 : decode cX2_countSeated 2 = .ok (.iconst 0, 1) := by decide +kernel
theorem dX2_countSeated_3 : decode cX2_countSeated 3 = .ok (.istore_n 2, 1) := by decide +kernel
theorem dX2_countSeated_4 : decode cX2_countSeated 4 = .ok (.iload_n 2, 1) := by decide +kernel
theorem dX2_countSeated_5 : decode cX2_countSeated 5 = .ok (.aload_n 0, 1) := by decide +kernel
theorem dX2_countSeated_6 : decode cX2_countSeated 6 = .ok (.getfield 26, 3) := by decide +kernel
theorem dX2_countSeated_9 : decode cX2_countSeated 9 = .ok (.if_icmp .ge 20, 3) := by decide +kernel
theorem dX2_countSeated_12 : decode cX2_countSeated 12 = .ok (.aload_n 0, 1) := by decide +kernel
theorem dX2_countSeated_13 : decode cX2_countSeated 13 = .ok (.iload_n 2, 1) := by decide +kernel
theorem dX2_countSeated_14 : decode cX2_countSeated 14 = .ok (.invokevirtual 79, 3) := by decide +kernel
theorem dX2_countSeated_17 : decode cX2_countSeated 17 = .ok (.ifCond .eq 6, 3) := by decide +kernel
theorem dX2_countSeated_20 : decode cX2_countSeated 20 = .ok (.iinc 1 1, 3) := by decide +kernel
theorem dX2_countSeated_23 : decode cX2_countSeated 23 = .ok (.iinc 2 1, 3) := by decide +kernel
theorem dX2_countSeated_26 : decode cX2_countSeated 26 = .ok (.goto (-22), 3) := by decide +kernel
theorem dX2_countSeated_29 : decode cX2_countSeated 29 = .ok (.iload_n 1, 1) := by decide +kernel
theorem dX2_countSeated_30 : decode cX2_countSeated 30 = .ok (.ireturn, 1) := by decide +kernel
theorem dX2_totalRent_0 : decode cX2_totalRent 0 = .ok (.iconst 0, 1) := by decide +kernel
theorem dX2_totalRent_1 : decode cX2_totalRent 1 = .ok (.istore_n 1, 1) := by decide +kernel
theorem dX2_totalRent_2 : decode cX2_totalRent 2 = .ok (.iconst 0, 1) := by decide +kernel
theorem dX2_totalRent_3 : decode cX2_totalRent 3 = .ok (.istore_n 2, 1) := by decide +kernel
theorem dX2_totalRent_4 : decode cX2_totalRent 4 = .ok (.iload_n 2, 1) := by decide +kernel
theorem dX2_totalRent_5 : decode cX2_totalRent 5 = .ok (.aload_n 0, 1) := by decide +kernel
theorem dX2_totalRent_6 : decode cX2_totalRent 6 = .ok (.getfield 26, 3) := by decide +kernel
theorem dX2_totalRent_9 : decode cX2_totalRent 9 = .ok (.if_icmp .ge 31, 3) := by decide +kernel
theorem dX2_totalRent_12 : decode cX2_totalRent 12 = .ok (.aload_n 0, 1) := by decide +kernel
theorem dX2_totalRent_13 : decode cX2_totalRent 13 = .ok (.iload_n 2, 1) := by decide +kernel
theorem dX2_totalRent_14 : decode cX2_totalRent 14 = .ok (.invokevirtual 79, 3) := by decide +kernel
theorem dX2_totalRent_17 : decode cX2_totalRent 17 = .ok (.ifCond .eq 17, 3) := by decide +kernel
theorem dX2_totalRent_20 : decode cX2_totalRent 20 = .ok (.iload_n 1, 1) := by decide +kernel
theorem dX2_totalRent_21 : decode cX2_totalRent 21 = .ok (.aload_n 0, 1) := by decide +kernel
theorem dX2_totalRent_22 : decode cX2_totalRent 22 = .ok (.iload_n 2, 1) := by decide +kernel
theorem dX2_totalRent_23 : decode cX2_totalRent 23 = .ok (.aload_n 0, 1) := by decide +kernel
theorem dX2_totalRent_24 : decode cX2_totalRent 24 = .ok (.getfield 47, 3) := by decide +kernel
theorem dX2_totalRent_27 : decode cX2_totalRent 27 = .ok (.iload_n 2, 1) := by decide +kernel
theorem dX2_totalRent_28 : decode cX2_totalRent 28 = .ok (.iaload, 1) := by decide +kernel
theorem dX2_totalRent_29 : decode cX2_totalRent 29 = .ok (.invokevirtual 69, 3) := by decide +kernel
theorem dX2_totalRent_32 : decode cX2_totalRent 32 = .ok (.iadd, 1) := by decide +kernel
theorem dX2_totalRent_33 : decode cX2_totalRent 33 = .ok (.istore_n 1, 1) := by decide +kernel
theorem dX2_totalRent_34 : decode cX2_totalRent 34 = .ok (.iinc 2 1, 3) := by decide +kernel
theorem dX2_totalRent_37 : decode cX2_totalRent 37 = .ok (.goto (-33), 3) := by decide +kernel
theorem dX2_totalRent_40 : decode cX2_totalRent 40 = .ok (.iload_n 1, 1) := by decide +kernel
theorem dX2_totalRent_41 : decode cX2_totalRent 41 = .ok (.ireturn, 1) := by decide +kernel
theorem dX2_standSideBySide_0 : decode cX2_standSideBySide 0 = .ok (.iconst 0, 1) := by decide +kernel
theorem dX2_standSideBySide_1 : decode cX2_standSideBySide 1 = .ok (.istore_n 3, 1) := by decide +kernel
theorem dX2_standSideBySide_2 : decode cX2_standSideBySide 2 = .ok (.iload_n 3, 1) := by decide +kernel
theorem dX2_standSideBySide_3 : decode cX2_standSideBySide 3 = .ok (.iconst 1, 1) := by decide +kernel
theorem dX2_standSideBySide_4 : decode cX2_standSideBySide 4 = .ok (.iadd, 1) := by decide +kernel
theorem dX2_standSideBySide_5 : decode cX2_standSideBySide 5 = .ok (.aload_n 0, 1) := by decide +kernel
theorem dX2_standSideBySide_6 : decode cX2_standSideBySide 6 = .ok (.getfield 9, 3) := by decide +kernel
theorem dX2_standSideBySide_9 : decode cX2_standSideBySide 9 = .ok (.if_icmp .ge 81, 3) := by decide +kernel
theorem dX2_standSideBySide_12 : decode cX2_standSideBySide 12 = .ok (.aload_n 0, 1) := by decide +kernel
theorem dX2_standSideBySide_13 : decode cX2_standSideBySide 13 = .ok (.getfield 50, 3) := by decide +kernel
theorem dX2_standSideBySide_16 : decode cX2_standSideBySide 16 = .ok (.iload_n 3, 1) := by decide +kernel
theorem dX2_standSideBySide_17 : decode cX2_standSideBySide 17 = .ok (.iaload, 1) := by decide +kernel
theorem dX2_standSideBySide_18 : decode cX2_standSideBySide 18 = .ok (.istore 4, 2) := by decide +kernel
theorem dX2_standSideBySide_20 : decode cX2_standSideBySide 20 = .ok (.aload_n 0, 1) := by decide +kernel
theorem dX2_standSideBySide_21 : decode cX2_standSideBySide 21 = .ok (.getfield 50, 3) := by decide +kernel
theorem dX2_standSideBySide_24 : decode cX2_standSideBySide 24 = .ok (.iload_n 3, 1) := by decide +kernel
theorem dX2_standSideBySide_25 : decode cX2_standSideBySide 25 = .ok (.iconst 1, 1) := by decide +kernel
theorem dX2_standSideBySide_26 : decode cX2_standSideBySide 26 = .ok (.iadd, 1) := by decide +kernel
theorem dX2_standSideBySide_27 : decode cX2_standSideBySide 27 = .ok (.iaload, 1) := by decide +kernel
theorem dX2_standSideBySide_28 : decode cX2_standSideBySide 28 = .ok (.istore 5, 2) := by decide +kernel
theorem dX2_standSideBySide_30 : decode cX2_standSideBySide 30 = .ok (.iload 4, 2) := by decide +kernel
theorem dX2_standSideBySide_32 : decode cX2_standSideBySide 32 = .ok (.iload 5, 2) := by decide +kernel
theorem dX2_standSideBySide_34 : decode cX2_standSideBySide 34 = .ok (.if_icmp .eq 50, 3) := by decide +kernel
theorem dX2_standSideBySide_37 : decode cX2_standSideBySide 37 = .ok (.iload 4, 2) := by decide +kernel
theorem dX2_standSideBySide_39 : decode cX2_standSideBySide 39 = .ok (.iconst (-1), 1) := by decide +kernel
theorem dX2_standSideBySide_40 : decode cX2_standSideBySide 40 = .ok (.if_icmp .eq 44, 3) := by decide +kernel
theorem dX2_standSideBySide_43 : decode cX2_standSideBySide 43 = .ok (.iload 5, 2) := by decide +kernel
theorem dX2_standSideBySide_45 : decode cX2_standSideBySide 45 = .ok (.iconst (-1), 1) := by decide +kernel
theorem dX2_standSideBySide_46 : decode cX2_standSideBySide 46 = .ok (.if_icmp .eq 38, 3) := by decide +kernel
theorem dX2_standSideBySide_49 : decode cX2_standSideBySide 49 = .ok (.aload_n 0, 1) := by decide +kernel
theorem dX2_standSideBySide_50 : decode cX2_standSideBySide 50 = .ok (.iload_n 3, 1) := by decide +kernel
theorem dX2_standSideBySide_51 : decode cX2_standSideBySide 51 = .ok (.iload_n 3, 1) := by decide +kernel
theorem dX2_standSideBySide_52 : decode cX2_standSideBySide 52 = .ok (.iconst 1, 1) := by decide +kernel
theorem dX2_standSideBySide_53 : decode cX2_standSideBySide 53 = .ok (.iadd, 1) := by decide +kernel
theorem dX2_standSideBySide_54 : decode cX2_standSideBySide 54 = .ok (.invokevirtual 65, 3) := by decide +kernel
theorem dX2_standSideBySide_57 : decode cX2_standSideBySide 57 = .ok (.ifCond .eq 27, 3) := by decide +kernel
theorem dX2_standSideBySide_60 : decode cX2_standSideBySide 60 = .ok (.aload_n 0, 1) := by decide +kernel
theorem dX2_standSideBySide_61 : decode cX2_standSideBySide 61 = .ok (.getfield 29, 3) := by decide +kernel
theorem dX2_standSideBySide_64 : decode cX2_standSideBySide 64 = .ok (.iload 4, 2) := by decide +kernel
theorem dX2_standSideBySide_66 : decode cX2_standSideBySide 66 = .ok (.iaload, 1) := by decide +kernel
theorem dX2_standSideBySide_67 : decode cX2_standSideBySide 67 = .ok (.aload_n 0, 1) := by decide +kernel
theorem dX2_standSideBySide_68 : decode cX2_standSideBySide 68 = .ok (.getfield 29, 3) := by decide +kernel
theorem dX2_standSideBySide_71 : decode cX2_standSideBySide 71 = .ok (.iload 5, 2) := by decide +kernel
theorem dX2_standSideBySide_73 : decode cX2_standSideBySide 73 = .ok (.iaload, 1) := by decide +kernel
theorem dX2_standSideBySide_74 : decode cX2_standSideBySide 74 = .ok (.iload_n 1, 1) := by decide +kernel
theorem dX2_standSideBySide_75 : decode cX2_standSideBySide 75 = .ok (.iload_n 2, 1) := by decide +kernel
theorem dX2_standSideBySide_76 : decode cX2_standSideBySide 76 = .ok (.invokestatic 116, 3) := by decide +kernel
theorem dX2_standSideBySide_79 : decode cX2_standSideBySide 79 = .ok (.ifCond .eq 5, 3) := by decide +kernel
theorem dX2_standSideBySide_82 : decode cX2_standSideBySide 82 = .ok (.iconst 1, 1) := by decide +kernel
theorem dX2_standSideBySide_83 : decode cX2_standSideBySide 83 = .ok (.ireturn, 1) := by decide +kernel
theorem dX2_standSideBySide_84 : decode cX2_standSideBySide 84 = .ok (.iinc 3 1, 3) := by decide +kernel
theorem dX2_standSideBySide_87 : decode cX2_standSideBySide 87 = .ok (.goto (-85), 3) := by decide +kernel
theorem dX2_standSideBySide_90 : decode cX2_standSideBySide 90 = .ok (.iconst 0, 1) := by decide +kernel
theorem dX2_standSideBySide_91 : decode cX2_standSideBySide 91 = .ok (.ireturn, 1) := by decide +kernel
theorem dX2_isPair_0 : decode cX2_isPair 0 = .ok (.iload_n 0, 1) := by decide +kernel
theorem dX2_isPair_1 : decode cX2_isPair 1 = .ok (.iload_n 2, 1) := by decide +kernel
theorem dX2_isPair_2 : decode cX2_isPair 2 = .ok (.if_icmp .ne 8, 3) := by decide +kernel
theorem dX2_isPair_5 : decode cX2_isPair 5 = .ok (.iload_n 1, 1) := by decide +kernel
theorem dX2_isPair_6 : decode cX2_isPair 6 = .ok (.iload_n 3, 1) := by decide +kernel
theorem dX2_isPair_7 : decode cX2_isPair 7 = .ok (.if_icmp .eq 13, 3) := by decide +kernel
theorem dX2_isPair_10 : decode cX2_isPair 10 = .ok (.iload_n 0, 1) := by decide +kernel
theorem dX2_isPair_11 : decode cX2_isPair 11 = .ok (.iload_n 3, 1) := by decide +kernel
theorem dX2_isPair_12 : decode cX2_isPair 12 = .ok (.if_icmp .ne 12, 3) := by decide +kernel
theorem dX2_isPair_15 : decode cX2_isPair 15 = .ok (.iload_n 1, 1) := by decide +kernel
theorem dX2_isPair_16 : decode cX2_isPair 16 = .ok (.iload_n 2, 1) := by decide +kernel
theorem dX2_isPair_17 : decode cX2_isPair 17 = .ok (.if_icmp .ne 7, 3) := by decide +kernel
theorem dX2_isPair_20 : decode cX2_isPair 20 = .ok (.iconst 1, 1) := by decide +kernel
theorem dX2_isPair_21 : decode cX2_isPair 21 = .ok (.goto 4, 3) := by decide +kernel
theorem dX2_isPair_24 : decode cX2_isPair 24 = .ok (.iconst 0, 1) := by decide +kernel
theorem dX2_isPair_25 : decode cX2_isPair 25 = .ok (.ireturn, 1) := by decide +kernel
theorem dX2_comesBefore_0 : decode cX2_comesBefore 0 = .ok (.iconst 0, 1) := by decide +kernel
theorem dX2_comesBefore_1 : decode cX2_comesBefore 1 = .ok (.istore_n 2, 1) := by decide +kernel
theorem dX2_comesBefore_2 : decode cX2_comesBefore 2 = .ok (.iload_n 2, 1) := by decide +kernel
theorem dX2_comesBefore_3 : decode cX2_comesBefore 3 = .ok (.aload_n 0, 1) := by decide +kernel
theorem dX2_comesBefore_4 : decode cX2_comesBefore 4 = .ok (.getfield 9, 3) := by decide +kernel
theorem dX2_comesBefore_7 : decode cX2_comesBefore 7 = .ok (.if_icmp .ge 53, 3) := by decide +kernel
theorem dX2_comesBefore_10 : decode cX2_comesBefore 10 = .ok (.aload_n 0, 1) := by decide +kernel
theorem dX2_comesBefore_11 : decode cX2_comesBefore 11 = .ok (.getfield 50, 3) := by decide +kernel
theorem dX2_comesBefore_14 : decode cX2_comesBefore 14 = .ok (.iload_n 2, 1) := by decide +kernel
theorem dX2_comesBefore_15 : decode cX2_comesBefore 15 = .ok (.iaload, 1) := by decide +kernel
theorem dX2_comesBefore_16 : decode cX2_comesBefore 16 = .ok (.istore_n 3, 1) := by decide +kernel
theorem dX2_comesBefore_17 : decode cX2_comesBefore 17 = .ok (.aload_n 1, 1) := by decide +kernel
theorem dX2_comesBefore_18 : decode cX2_comesBefore 18 = .ok (.getfield 50, 3) := by decide +kernel
theorem dX2_comesBefore_21 : decode cX2_comesBefore 21 = .ok (.iload_n 2, 1) := by decide +kernel
theorem dX2_comesBefore_22 : decode cX2_comesBefore 22 = .ok (.iaload, 1) := by decide +kernel
theorem dX2_comesBefore_23 : decode cX2_comesBefore 23 = .ok (.istore 4, 2) := by decide +kernel
theorem dX2_comesBefore_25 : decode cX2_comesBefore 25 = .ok (.iload_n 3, 1) := by decide +kernel
theorem dX2_comesBefore_26 : decode cX2_comesBefore 26 = .ok (.iload 4, 2) := by decide +kernel
theorem dX2_comesBefore_28 : decode cX2_comesBefore 28 = .ok (.if_icmp .eq 26, 3) := by decide +kernel
theorem dX2_comesBefore_31 : decode cX2_comesBefore 31 = .ok (.iload 4, 2) := by decide +kernel
theorem dX2_comesBefore_33 : decode cX2_comesBefore 33 = .ok (.iconst (-1), 1) := by decide +kernel
theorem dX2_comesBefore_34 : decode cX2_comesBefore 34 = .ok (.if_icmp .eq 14, 3) := by decide +kernel
theorem dX2_comesBefore_37 : decode cX2_comesBefore 37 = .ok (.iload_n 3, 1) := by decide +kernel
theorem dX2_comesBefore_38 : decode cX2_comesBefore 38 = .ok (.iconst (-1), 1) := by decide +kernel
theorem dX2_comesBefore_39 : decode cX2_comesBefore 39 = .ok (.if_icmp .eq 13, 3) := by decide +kernel
theorem dX2_comesBefore_42 : decode cX2_comesBefore 42 = .ok (.iload_n 3, 1) := by decide +kernel
theorem dX2_comesBefore_43 : decode cX2_comesBefore 43 = .ok (.iload 4, 2) := by decide +kernel
theorem dX2_comesBefore_45 : decode cX2_comesBefore 45 = .ok (.if_icmp .ge 7, 3) := by decide +kernel
theorem dX2_comesBefore_48 : decode cX2_comesBefore 48 = .ok (.iconst 1, 1) := by decide +kernel
theorem dX2_comesBefore_49 : decode cX2_comesBefore 49 = .ok (.goto 4, 3) := by decide +kernel
theorem dX2_comesBefore_52 : decode cX2_comesBefore 52 = .ok (.iconst 0, 1) := by decide +kernel
theorem dX2_comesBefore_53 : decode cX2_comesBefore 53 = .ok (.ireturn, 1) := by decide +kernel
theorem dX2_comesBefore_54 : decode cX2_comesBefore 54 = .ok (.iinc 2 1, 3) := by decide +kernel
theorem dX2_comesBefore_57 : decode cX2_comesBefore 57 = .ok (.goto (-55), 3) := by decide +kernel
theorem dX2_comesBefore_60 : decode cX2_comesBefore 60 = .ok (.iconst 0, 1) := by decide +kernel
theorem dX2_comesBefore_61 : decode cX2_comesBefore 61 = .ok (.ireturn, 1) := by decide +kernel
theorem dX2_turnAround_0 : decode cX2_turnAround 0 = .ok (.aload_n 0, 1) := by decide +kernel
theorem dX2_turnAround_1 : decode cX2_turnAround 1 = .ok (.invokevirtual 62, 3) := by decide +kernel
theorem dX2_turnAround_4 : decode cX2_turnAround 4 = .ok (.iconst 0, 1) := by decide +kernel
theorem dX2_turnAround_5 : decode cX2_turnAround 5 = .ok (.istore_n 1, 1) := by decide +kernel
theorem dX2_turnAround_6 : decode cX2_turnAround 6 = .ok (.aload_n 0, 1) := by decide +kernel
theorem dX2_turnAround_7 : decode cX2_turnAround 7 = .ok (.getfield 9, 3) := by decide +kernel
theorem dX2_turnAround_10 : decode cX2_turnAround 10 = .ok (.iconst 1, 1) := by decide +kernel
theorem dX2_turnAround_11 : decode cX2_turnAround 11 = .ok (.isub, 1) := by decide +kernel
theorem dX2_turnAround_12 : decode cX2_turnAround 12 = .ok (.istore_n 2, 1) := by decide +kernel
theorem dX2_turnAround_13 : decode cX2_turnAround 13 = .ok (.iload_n 1, 1) := by decide +kernel
theorem dX2_turnAround_14 : decode cX2_turnAround 14 = .ok (.iload_n 2, 1) := by decide +kernel
theorem dX2_turnAround_15 : decode cX2_turnAround 15 = .ok (.if_icmp .ge 94, 3) := by decide +kernel
theorem dX2_turnAround_18 : decode cX2_turnAround 18 = .ok (.aload_n 0, 1) := by decide +kernel
theorem dX2_turnAround_19 : decode cX2_turnAround 19 = .ok (.getfield 15, 3) := by decide +kernel
theorem dX2_turnAround_22 : decode cX2_turnAround 22 = .ok (.iload_n 1, 1) := by decide +kernel
theorem dX2_turnAround_23 : decode cX2_turnAround 23 = .ok (.iaload, 1) := by decide +kernel
theorem dX2_turnAround_24 : decode cX2_turnAround 24 = .ok (.istore_n 3, 1) := by decide +kernel
theorem dX2_turnAround_25 : decode cX2_turnAround 25 = .ok (.aload_n 0, 1) := by decide +kernel
theorem dX2_turnAround_26 : decode cX2_turnAround 26 = .ok (.getfield 15, 3) := by decide +kernel
theorem dX2_turnAround_29 : decode cX2_turnAround 29 = .ok (.iload_n 1, 1) := by decide +kernel
theorem dX2_turnAround_30 : decode cX2_turnAround 30 = .ok (.aload_n 0, 1) := by decide +kernel
theorem dX2_turnAround_31 : decode cX2_turnAround 31 = .ok (.getfield 15, 3) := by decide +kernel
theorem dX2_turnAround_34 : decode cX2_turnAround 34 = .ok (.iload_n 2, 1) := by decide +kernel
theorem dX2_turnAround_35 : decode cX2_turnAround 35 = .ok (.iaload, 1) := by decide +kernel
theorem dX2_turnAround_36 : decode cX2_turnAround 36 = .ok (.iastore, 1) := by decide +kernel
theorem dX2_turnAround_37 : decode cX2_turnAround 37 = .ok (.aload_n 0, 1) := by decide +kernel
theorem dX2_turnAround_38 : decode cX2_turnAround 38 = .ok (.getfield 15, 3) := by decide +kernel
theorem dX2_turnAround_41 : decode cX2_turnAround 41 = .ok (.iload_n 2, 1) := by decide +kernel
theorem dX2_turnAround_42 : decode cX2_turnAround 42 = .ok (.iload_n 3, 1) := by decide +kernel
theorem dX2_turnAround_43 : decode cX2_turnAround 43 = .ok (.iastore, 1) := by decide +kernel
theorem dX2_turnAround_44 : decode cX2_turnAround 44 = .ok (.aload_n 0, 1) := by decide +kernel
theorem dX2_turnAround_45 : decode cX2_turnAround 45 = .ok (.getfield 19, 3) := by decide +kernel
theorem dX2_turnAround_48 : decode cX2_turnAround 48 = .ok (.iload_n 1, 1) := by decide +kernel
theorem dX2_turnAround_49 : decode cX2_turnAround 49 = .ok (.iaload, 1) := by decide +kernel
theorem dX2_turnAround_50 : decode cX2_turnAround 50 = .ok (.istore 4, 2) := by decide +kernel
theorem dX2_turnAround_52 : decode cX2_turnAround 52 = .ok (.aload_n 0, 1) := by decide +kernel
theorem dX2_turnAround_53 : decode cX2_turnAround 53 = .ok (.getfield 19, 3) := by decide +kernel
theorem dX2_turnAround_56 : decode cX2_turnAround 56 = .ok (.iload_n 1, 1) := by decide +kernel
theorem dX2_turnAround_57 : decode cX2_turnAround 57 = .ok (.aload_n 0, 1) := by decide +kernel
theorem dX2_turnAround_58 : decode cX2_turnAround 58 = .ok (.getfield 19, 3) := by decide +kernel
theorem dX2_turnAround_61 : decode cX2_turnAround 61 = .ok (.iload_n 2, 1) := by decide +kernel
theorem dX2_turnAround_62 : decode cX2_turnAround 62 = .ok (.iaload, 1) := by decide +kernel
theorem dX2_turnAround_63 : decode cX2_turnAround 63 = .ok (.iastore, 1) := by decide +kernel
theorem dX2_turnAround_64 : decode cX2_turnAround 64 = .ok (.aload_n 0, 1) := by decide +kernel
theorem dX2_turnAround_65 : decode cX2_turnAround 65 = .ok (.getfield 19, 3) := by decide +kernel
theorem dX2_turnAround_68 : decode cX2_turnAround 68 = .ok (.iload_n 2, 1) := by decide +kernel
theorem dX2_turnAround_69 : decode cX2_turnAround 69 = .ok (.iload 4, 2) := by decide +kernel
theorem dX2_turnAround_71 : decode cX2_turnAround 71 = .ok (.iastore, 1) := by decide +kernel
theorem dX2_turnAround_72 : decode cX2_turnAround 72 = .ok (.aload_n 0, 1) := by decide +kernel
theorem dX2_turnAround_73 : decode cX2_turnAround 73 = .ok (.getfield 22, 3) := by decide +kernel
theorem dX2_turnAround_76 : decode cX2_turnAround 76 = .ok (.iload_n 1, 1) := by decide +kernel
theorem dX2_turnAround_77 : decode cX2_turnAround 77 = .ok (.baload, 1) := by decide +kernel
theorem dX2_turnAround_78 : decode cX2_turnAround 78 = .ok (.istore 5, 2) := by decide +kernel
theorem dX2_turnAround_80 : decode cX2_turnAround 80 = .ok (.aload_n 0, 1) := by decide +kernel
theorem dX2_turnAround_81 : decode cX2_turnAround 81 = .ok (.getfield 22, 3) := by decide +kernel
theorem dX2_turnAround_84 : decode cX2_turnAround 84 = .ok (.iload_n 1, 1) := by decide +kernel
theorem dX2_turnAround_85 : decode cX2_turnAround 85 = .ok (.aload_n 0, 1) := by decide +kernel
theorem dX2_turnAround_86 : decode cX2_turnAround 86 = .ok (.getfield 22, 3) := by decide +kernel
theorem dX2_turnAround_89 : decode cX2_turnAround 89 = .ok (.iload_n 2, 1) := by decide +kernel
theorem dX2_turnAround_90 : decode cX2_turnAround 90 = .ok (.baload, 1) := by decide +kernel
theorem dX2_turnAround_91 : decode cX2_turnAround 91 = .ok (.bastore, 1) := by decide +kernel
theorem dX2_turnAround_92 : decode cX2_turnAround 92 = .ok (.aload_n 0, 1) := by decide +kernel
theorem dX2_turnAround_93 : decode cX2_turnAround 93 = .ok (.getfield 22, 3) := by decide +kernel
theorem dX2_turnAround_96 : decode cX2_turnAround 96 = .ok (.iload_n 2, 1) := by decide +kernel
theorem dX2_turnAround_97 : decode cX2_turnAround 97 = .ok (.iload 5, 2) := by decide +kernel
theorem dX2_turnAround_99 : decode cX2_turnAround 99 = .ok (.bastore, 1) := by decide +kernel
theorem dX2_turnAround_100 : decode cX2_turnAround 100 = .ok (.iinc 1 1, 3) := by decide +kernel
theorem dX2_turnAround_103 : decode cX2_turnAround 103 = .ok (.iinc 2 (-1), 3) := by decide +kernel
theorem dX2_turnAround_106 : decode cX2_turnAround 106 = .ok (.goto (-93), 3) := by decide +kernel
theorem dX2_turnAround_109 : decode cX2_turnAround 109 = .ok (.return_, 1) := by decide +kernel
theorem dX3_init_0 : decode cX3_init 0 = .ok (.aload_n 0, 1) := by decide +kernel
theorem dX3_init_1 : decode cX3_init 1 = .ok (.invokespecial 3, 3) := by decide +kernel
theorem dX3_init_4 : decode cX3_init 4 = .ok (.aload_n 0, 1) := by decide +kernel
theorem dX3_init_5 : decode cX3_init 5 = .ok (.new 9, 3) := by decide +kernel
theorem dX3_init_8 : decode cX3_init 8 = .ok (.dup, 1) := by decide +kernel
theorem dX3_init_9 : decode cX3_init 9 = .ok (.invokespecial 11, 3) := by decide +kernel
theorem dX3_init_12 : decode cX3_init 12 = .ok (.putfield 12, 3) := by decide +kernel
theorem dX3_init_15 : decode cX3_init 15 = .ok (.aload_n 0, 1) := by decide +kernel
theorem dX3_init_16 : decode cX3_init 16 = .ok (.sipush 1024, 3) := by decide +kernel
theorem dX3_init_19 : decode cX3_init 19 = .ok (.newarray .int, 2) := by decide +kernel
theorem dX3_init_21 : decode cX3_init 21 = .ok (.putfield 18, 3) := by decide +kernel
theorem dX3_init_24 : decode cX3_init 24 = .ok (.aload_n 0, 1) := by decide +kernel
theorem dX3_init_25 : decode cX3_init 25 = .ok (.iconst 1, 1) := by decide +kernel
theorem dX3_init_26 : decode cX3_init 26 = .ok (.putfield 22, 3) := by decide +kernel
theorem dX3_init_29 : decode cX3_init 29 = .ok (.aload_n 0, 1) := by decide +kernel
theorem dX3_init_30 : decode cX3_init 30 = .ok (.iconst 1, 1) := by decide +kernel
theorem dX3_init_31 : decode cX3_init 31 = .ok (.putfield 26, 3) := by decide +kernel
theorem dX3_init_34 : decode cX3_init 34 = .ok (.aload_n 0, 1) := by decide +kernel
theorem dX3_init_35 : decode cX3_init 35 = .ok (.iconst 1, 1) := by decide +kernel
theorem dX3_init_36 : decode cX3_init 36 = .ok (.putfield 29, 3) := by decide +kernel
theorem dX3_init_39 : decode cX3_init 39 = .ok (.aload_n 0, 1) := by decide +kernel
theorem dX3_init_40 : decode cX3_init 40 = .ok (.sipush 192, 3) := by decide +kernel
theorem dX3_init_43 : decode cX3_init 43 = .ok (.newarray .int, 2) := by decide +kernel
theorem dX3_init_45 : decode cX3_init 45 = .ok (.putfield 32, 3) := by decide +kernel
theorem dX3_init_48 : decode cX3_init 48 = .ok (.aload_n 0, 1) := by decide +kernel
theorem dX3_init_49 : decode cX3_init 49 = .ok (.sipush 192, 3) := by decide +kernel
theorem dX3_init_52 : decode cX3_init 52 = .ok (.newarray .int, 2) := by decide +kernel
theorem dX3_init_54 : decode cX3_init 54 = .ok (.putfield 35, 3) := by decide +kernel
theorem dX3_init_57 : decode cX3_init 57 = .ok (.aload_n 0, 1) := by decide +kernel
theorem dX3_init_58 : decode cX3_init 58 = .ok (.sipush 192, 3) := by decide +kernel
theorem dX3_init_61 : decode cX3_init 61 = .ok (.newarray .int, 2) := by decide +kernel
theorem dX3_init_63 : decode cX3_init 63 = .ok (.putfield 38, 3) := by decide +kernel
theorem dX3_init_66 : decode cX3_init 66 = .ok (.aload_n 0, 1) := by decide +kernel
theorem dX3_init_67 : decode cX3_init 67 = .ok (.bipush 8, 2) := by decide +kernel
theorem dX3_init_69 : decode cX3_init 69 = .ok (.newarray .int, 2) := by decide +kernel
theorem dX3_init_71 : decode cX3_init 71 = .ok (.putfield 41, 3) := by decide +kernel
theorem dX3_init_74 : decode cX3_init 74 = .ok (.aload_n 0, 1) := by decide +kernel
theorem dX3_init_75 : decode cX3_init 75 = .ok (.bipush 9, 2) := by decide +kernel
theorem dX3_init_77 : decode cX3_init 77 = .ok (.newarray .int, 2) := by decide +kernel
theorem dX3_init_79 : decode cX3_init 79 = .ok (.putfield 44, 3) := by decide +kernel
theorem dX3_init_82 : decode cX3_init 82 = .ok (.return_, 1) := by decide +kernel
theorem dX3_plan_0 : decode cX3_plan 0 = .ok (.aload_n 0, 1) := by decide +kernel
theorem dX3_plan_1 : decode cX3_plan 1 = .ok (.getfield 12, 3) := by decide +kernel
theorem dX3_plan_4 : decode cX3_plan 4 = .ok (.aload_n 1, 1) := by decide +kernel
theorem dX3_plan_5 : decode cX3_plan 5 = .ok (.invokevirtual 47, 3) := by decide +kernel
theorem dX3_plan_8 : decode cX3_plan 8 = .ok (.aload_n 0, 1) := by decide +kernel
theorem dX3_plan_9 : decode cX3_plan 9 = .ok (.iconst 1, 1) := by decide +kernel
theorem dX3_plan_10 : decode cX3_plan 10 = .ok (.aload_n 0, 1) := by decide +kernel
theorem dX3_plan_11 : decode cX3_plan 11 = .ok (.getfield 12, 3) := by decide +kernel
theorem dX3_plan_14 : decode cX3_plan 14 = .ok (.getfield 51, 3) := by decide +kernel
theorem dX3_plan_17 : decode cX3_plan 17 = .ok (.ishl, 1) := by decide +kernel
theorem dX3_plan_18 : decode cX3_plan 18 = .ok (.putfield 22, 3) := by decide +kernel
theorem dX3_plan_21 : decode cX3_plan 21 = .ok (.aload_n 0, 1) := by decide +kernel
theorem dX3_plan_22 : decode cX3_plan 22 = .ok (.invokevirtual 54, 3) := by decide +kernel
theorem dX3_plan_25 : decode cX3_plan 25 = .ok (.aload_n 0, 1) := by decide +kernel
theorem dX3_plan_26 : decode cX3_plan 26 = .ok (.invokevirtual 57, 3) := by decide +kernel
theorem dX3_plan_29 : decode cX3_plan 29 = .ok (.aload_n 0, 1) := by decide +kernel
theorem dX3_plan_30 : decode cX3_plan 30 = .ok (.aload_n 0, 1) := by decide +kernel
theorem dX3_plan_31 : decode cX3_plan 31 = .ok (.getfield 12, 3) := by decide +kernel
theorem dX3_plan_34 : decode cX3_plan 34 = .ok (.getfield 60, 3) := by decide +kernel
theorem dX3_plan_37 : decode cX3_plan 37 = .ok (.iconst 1, 1) := by decide +kernel
theorem dX3_plan_38 : decode cX3_plan 38 = .ok (.iadd, 1) := by decide +kernel
theorem dX3_plan_39 : decode cX3_plan 39 = .ok (.aload_n 0, 1) := by decide +kernel
theorem dX3_plan_40 : decode cX3_plan 40 = .ok (.getfield 22, 3) := by decide +kernel
theorem dX3_plan_43 : decode cX3_plan 43 = .ok (.imul, 1) := by decide +kernel
theorem dX3_plan_44 : decode cX3_plan 44 = .ok (.aload_n 0, 1) := by decide +kernel
theorem dX3_plan_45 : decode cX3_plan 45 = .ok (.getfield 26, 3) := by decide +kernel
theorem dX3_plan_48 : decode cX3_plan 48 = .ok (.imul, 1) := by decide +kernel
theorem dX3_plan_49 : decode cX3_plan 49 = .ok (.aload_n 0, 1) := by decide +kernel
theorem dX3_plan_50 : decode cX3_plan 50 = .ok (.getfield 29, 3) := by decide +kernel
theorem dX3_plan_53 : decode cX3_plan 53 = .ok (.imul, 1) := by decide +kernel
theorem dX3_plan_54 : decode cX3_plan 54 = .ok (.invokevirtual 63, 3) := by decide +kernel
theorem dX3_plan_57 : decode cX3_plan 57 = .ok (.aload_n 0, 1) := by decide +kernel
theorem dX3_plan_58 : decode cX3_plan 58 = .ok (.aload_n 0, 1) := by decide +kernel
theorem dX3_plan_59 : decode cX3_plan 59 = .ok (.getfield 12, 3) := by decide +kernel
theorem dX3_plan_62 : decode cX3_plan 62 = .ok (.getfield 60, 3) := by decide +kernel
theorem dX3_plan_65 : decode cX3_plan 65 = .ok (.iconst 0, 1) := by decide +kernel
theorem dX3_plan_66 : decode cX3_plan 66 = .ok (.iconst 0, 1) := by decide +kernel
theorem dX3_plan_67 : decode cX3_plan 67 = .ok (.invokevirtual 67, 3) := by decide +kernel
theorem dX3_plan_70 : decode cX3_plan 70 = .ok (.istore_n 2, 1) := by decide +kernel
theorem dX3_plan_71 : decode cX3_plan 71 = .ok (.iload_n 2, 1) := by decide +kernel
theorem dX3_plan_72 : decode cX3_plan 72 = .ok (.istore_n 3, 1) := by decide +kernel
theorem dX3_plan_73 : decode cX3_plan 73 = .ok (.iload_n 3, 1) := by decide +kernel
theorem dX3_plan_74 : decode cX3_plan 74 = .ok (.iload_n 2, 1) := by decide +kernel
theorem dX3_plan_75 : decode cX3_plan 75 = .ok (.aload_n 0, 1) := by decide +kernel
theorem dX3_plan_76 : decode cX3_plan 76 = .ok (.getfield 22, 3) := by decide +kernel
theorem dX3_plan_79 : decode cX3_plan 79 = .ok (.aload_n 0, 1) := by decide +kernel
theorem dX3_plan_80 : decode cX3_plan 80 = .ok (.getfield 26, 3) := by decide +kernel
theorem dX3_plan_83 : decode cX3_plan 83 = .ok (.imul, 1) := by decide +kernel
theorem dX3_plan_84 : decode cX3_plan 84 = .ok (.aload_n 0, 1) := by decide +kernel
theorem dX3_plan_85 : decode cX3_plan 85 = .ok (.getfield 29, 3) := by decide +kernel
theorem dX3_plan_88 : decode cX3_plan 88 = .ok (.imul, 1) := by decide +kernel
theorem dX3_plan_89 : decode cX3_plan 89 = .ok (.iadd, 1) := by decide +kernel
theorem dX3_plan_90 : decode cX3_plan 90 = .ok (.if_icmp .ge 16, 3) := by decide +kernel
theorem dX3_plan_93 : decode cX3_plan 93 = .ok (.aload_n 0, 1) := by decide +kernel
theorem dX3_plan_94 : decode cX3_plan 94 = .ok (.getfield 18, 3) := by decide +kernel
theorem dX3_plan_97 : decode cX3_plan 97 = .ok (.iload_n 3, 1) := by decide +kernel
theorem dX3_plan_98 : decode cX3_plan 98 = .ok (.iconst 0, 1) := by decide +kernel
theorem dX3_plan_99 : decode cX3_plan 99 = .ok (.iastore, 1) := by decide +kernel
theorem dX3_plan_100 : decode cX3_plan 100 = .ok (.iinc 3 1, 3) := by decide +kernel
theorem dX3_plan_103 : decode cX3_plan 103 = .ok (.goto (-30), 3) := by decide +kernel
theorem dX3_plan_106 : decode cX3_plan 106 = .ok (.aload_n 0, 1) := by decide +kernel
theorem dX3_plan_107 : decode cX3_plan 107 = .ok (.getfield 12, 3) := by decide +kernel
theorem dX3_plan_110 : decode cX3_plan 110 = .ok (.getfield 60, 3) := by decide +kernel
theorem dX3_plan_113 : decode cX3_plan 113 = .ok (.iconst 1, 1) := by decide +kernel
theorem dX3_plan_114 : decode cX3_plan 114 = .ok (.isub, 1) := by decide +kernel
theorem dX3_plan_115 : decode cX3_plan 115 = .ok (.istore_n 3, 1) := by decide +kernel
theorem dX3_plan_116 : decode cX3_plan 116 = .ok (.iload_n 3, 1) := by decide +kernel
theorem dX3_plan_117 : decode cX3_plan 117 = .ok (.ifCond .lt 34, 3) := by decide +kernel
theorem dX3_plan_120 : decode cX3_plan 120 = .ok (.iconst 0, 1) := by decide +kernel
theorem dX3_plan_121 : decode cX3_plan 121 = .ok (.istore 4, 2) := by decide +kernel
theorem dX3_plan_123 : decode cX3_plan 123 = .ok (.iload 4, 2) := by decide +kernel
theorem dX3_plan_125 : decode cX3_plan 125 = .ok (.aload_n 0, 1) := by decide +kernel
theorem dX3_plan_126 : decode cX3_plan 126 = .ok (.getfield 22, 3) := by decide +kernel
theorem dX3_plan_129 : decode cX3_plan 129 = .ok (.if_icmp .ge 16, 3) := by decide +kernel
theorem dX3_plan_132 : decode cX3_plan 132 = .ok (.aload_n 0, 1) := by decide +kernel
theorem dX3_plan_133 : decode cX3_plan 133 = .ok (.iload_n 3, 1) := by decide +kernel
theorem dX3_plan_134 : decode cX3_plan 134 = .ok (.iload 4, 2) := by decide +kernel
theorem dX3_plan_136 : decode cX3_plan 136 = .ok (.invokevirtual 71, 3) := by decide +kernel
theorem dX3_plan_139 : decode cX3_plan 139 = .ok (.iinc 4 1, 3) := by decide +kernel
theorem dX3_plan_142 : decode cX3_plan 142 = .ok (.goto (-19), 3) := by decide +kernel
theorem dX3_plan_145 : decode cX3_plan 145 = .ok (.iinc 3 (-1), 3) := by decide +kernel
theorem dX3_plan_148 : decode cX3_plan 148 = .ok (.goto (-32), 3) := by decide +kernel
theorem dX3_plan_151 : decode cX3_plan 151 = .ok (.return_, 1) := by decide +kernel
theorem dX3_sortKinds_0 : decode cX3_sortKinds 0 = .ok (.aload_n 0, 1) := by decide +kernel
theorem dX3_sortKinds_1 : decode cX3_sortKinds 1 = .ok (.iconst 1, 1) := by decide +kernel
theorem dX3_sortKinds_2 : decode cX3_sortKinds 2 = .ok (.putfield 26, 3) := by decide +kernel
theorem dX3_sortKinds_5 : decode cX3_sortKinds 5 = .ok (.aload_n 0, 1) := by decide +kernel
theorem dX3_sortKinds_6 : decode cX3_sortKinds 6 = .ok (.getfield 44, 3) := by decide +kernel
theorem dX3_sortKinds_9 : decode cX3_sortKinds 9 = .ok (.iconst 0, 1) := by decide +kernel
theorem dX3_sortKinds_10 : decode cX3_sortKinds 10 = .ok (.iconst 0, 1) := by decide +kernel
theorem dX3_sortKinds_11 : decode cX3_sortKinds 11 = .ok (.iastore, 1) := by decide +kernel
theorem dX3_sortKinds_12 : decode cX3_sortKinds 12 = .ok (.iconst 0, 1) := by decide +kernel
theorem dX3_sortKinds_13 : decode cX3_sortKinds 13 = .ok (.istore_n 1, 1) := by decide +kernel
theorem dX3_sortKinds_14 : decode cX3_sortKinds 14 = .ok (.iload_n 1, 1) := by decide +kernel
theorem dX3_sortKinds_15 : decode cX3_sortKinds 15 = .ok (.aload_n 0, 1) := by decide +kernel
theorem dX3_sortKinds_16 : decode cX3_sortKinds 16 = .ok (.getfield 12, 3) := by decide +kernel
theorem dX3_sortKinds_19 : decode cX3_sortKinds 19 = .ok (.getfield 51, 3) := by decide +kernel
theorem dX3_sortKinds_22 : decode cX3_sortKinds 22 = .ok (.if_icmp .ge 73, 3) := by decide +kernel
theorem dX3_sortKinds_25 : decode cX3_sortKinds 25 = .ok (.aload_n 0, 1) := by decide +kernel
theorem dX3_sortKinds_26 : decode cX3_sortKinds 26 = .ok (.iload_n 1, 1) := by decide +kernel
theorem dX3_sortKinds_27 : decode cX3_sortKinds 27 = .ok (.invokevirtual 75, 3) := by decide +kernel
theorem dX3_sortKinds_30 : decode cX3_sortKinds 30 = .ok (.istore_n 2, 1) := by decide +kernel
theorem dX3_sortKinds_31 : decode cX3_sortKinds 31 = .ok (.iconst 0, 1) := by decide +kernel
theorem dX3_sortKinds_32 : decode cX3_sortKinds 32 = .ok (.istore_n 3, 1) := by decide +kernel
theorem dX3_sortKinds_33 : decode cX3_sortKinds 33 = .ok (.iload_n 3, 1) := by decide +kernel
theorem dX3_sortKinds_34 : decode cX3_sortKinds 34 = .ok (.aload_n 0, 1) := by decide +kernel
theorem dX3_sortKinds_35 : decode cX3_sortKinds 35 = .ok (.getfield 26, 3) := by decide +kernel
theorem dX3_sortKinds_38 : decode cX3_sortKinds 38 = .ok (.if_icmp .ge 19, 3) := by decide +kernel
theorem dX3_sortKinds_41 : decode cX3_sortKinds 41 = .ok (.aload_n 0, 1) := by decide +kernel
theorem dX3_sortKinds_42 : decode cX3_sortKinds 42 = .ok (.getfield 44, 3) := by decide +kernel
theorem dX3_sortKinds_45 : decode cX3_sortKinds 45 = .ok (.iload_n 3, 1) := by decide +kernel
theorem dX3_sortKinds_46 : decode cX3_sortKinds 46 = .ok (.iaload, 1) := by decide +kernel
theorem dX3_sortKinds_47 : decode cX3_sortKinds 47 = .ok (.iload_n 2, 1) := by decide +kernel
theorem dX3_sortKinds_48 : decode cX3_sortKinds 48 = .ok (.if_icmp .eq 9, 3) := by decide +kernel
theorem dX3_sortKinds_51 : decode cX3_sortKinds 51 = .ok (.iinc 3 1, 3) := by decide +kernel
theorem dX3_sortKinds_54 : decode cX3_sortKinds 54 = .ok (.goto (-21), 3) := by decide +kernel
theorem dX3_sortKinds_57 : decode cX3_sortKinds 57 = .ok (.iload_n 3, 1) := by decide +kernel
theorem dX3_sortKinds_58 : decode cX3_sortKinds 58 = .ok (.aload_n 0, 1) := by decide +kernel
theorem dX3_sortKinds_59 : decode cX3_sortKinds 59 = .ok (.getfield 26, 3) := by decide +kernel
theorem dX3_sortKinds_62 : decode cX3_sortKinds 62 = .ok (.if_icmp .ne 20, 3) := by decide +kernel
theorem dX3_sortKinds_65 : decode cX3_sortKinds 65 = .ok (.aload_n 0, 1) := by decide +kernel
theorem dX3_sortKinds_66 : decode cX3_sortKinds 66 = .ok (.getfield 44, 3) := by decide +kernel
theorem dX3_sortKinds_69 : decode cX3_sortKinds 69 = .ok (.iload_n 3, 1) := by decide +kernel
theorem dX3_sortKinds_70 : decode cX3_sortKinds 70 = .ok (.iload_n 2, 1) := by decide +kernel
theorem dX3_sortKinds_71 : decode cX3_sortKinds 71 = .ok (.iastore, 1) := by decide +kernel
theorem dX3_sortKinds_72 : decode cX3_sortKinds 72 = .ok (.aload_n 0, 1) := by decide +kernel
theorem dX3_sortKinds_73 : decode cX3_sortKinds 73 = .ok (.dup, 1) := by decide +kernel
theorem dX3_sortKinds_74 : decode cX3_sortKinds 74 = .ok (.getfield 26, 3) := by decide +kernel
theorem dX3_sortKinds_77 : decode cX3_sortKinds 77 = .ok (.iconst 1, 1) := by decide +kernel
theorem dX3_sortKinds_78 : decode cX3_sortKinds 78 = .ok (.iadd, 1) := by decide +kernel
theorem dX3_sortKinds_79 : decode cX3_sortKinds 79 = .ok (.putfield 26, 3) := by decide +kernel
theorem dX3_sortKinds_82 : decode cX3_sortKinds 82 = .ok (.aload_n 0, 1) := by decide +kernel
theorem dX3_sortKinds_83 : decode cX3_sortKinds 83 = .ok (.getfield 41, 3) := by decide +kernel
theorem dX3_sortKinds_86 : decode cX3_sortKinds 86 = .ok (.iload_n 1, 1) := by decide +kernel
theorem dX3_sortKinds_87 : decode cX3_sortKinds 87 = .ok (.iload_n 3, 1) := by decide +kernel
theorem dX3_sortKinds_88 : decode cX3_sortKinds 88 = .ok (.iastore, 1) := by decide +kernel
theorem dX3_sortKinds_89 : decode cX3_sortKinds 89 = .ok (.iinc 1 1, 3) := by decide +kernel
theorem dX3_sortKinds_92 : decode cX3_sortKinds 92 = .ok (.goto (-78), 3) := by decide +kernel
theorem dX3_sortKinds_95 : decode cX3_sortKinds 95 = .ok (.return_, 1) := by decide +kernel
theorem dX3_foesOf_0 : decode cX3_foesOf 0 = .ok (.iconst 0, 1) := by decide +kernel
theorem dX3_foesOf_1 : decode cX3_foesOf 1 = .ok (.istore_n 2, 1) := by decide +kernel
theorem dX3_foesOf_2 : decode cX3_foesOf 2 = .ok (.iconst 0, 1) := by decide +kernel
theorem dX3_foesOf_3 : decode cX3_foesOf 3 = .ok (.istore_n 3, 1) := by decide +kernel
theorem dX3_foesOf_4 : decode cX3_foesOf 4 = .ok (.iload_n 3, 1) := by decide +kernel
theorem dX3_foesOf_5 : decode cX3_foesOf 5 = .ok (.aload_n 0, 1) := by decide +kernel
theorem dX3_foesOf_6 : decode cX3_foesOf 6 = .ok (.getfield 12, 3) := by decide +kernel
theorem dX3_foesOf_9 : decode cX3_foesOf 9 = .ok (.getfield 51, 3) := by decide +kernel
theorem dX3_foesOf_12 : decode cX3_foesOf 12 = .ok (.if_icmp .ge 32, 3) := by decide +kernel
theorem dX3_foesOf_15 : decode cX3_foesOf 15 = .ok (.iload_n 3, 1) := by decide +kernel
theorem dX3_foesOf_16 : decode cX3_foesOf 16 = .ok (.iload_n 1, 1) := by decide +kernel
theorem dX3_foesOf_17 : decode cX3_foesOf 17 = .ok (.if_icmp .eq 21, 3) := by decide +kernel
theorem dX3_foesOf_20 : decode cX3_foesOf 20 = .ok (.aload_n 0, 1) := by decide +kernel
theorem dX3_foesOf_21 : decode cX3_foesOf 21 = .ok (.getfield 12, 3) := by decide +kernel
theorem dX3_foesOf_24 : decode cX3_foesOf 24 = .ok (.iload_n 1, 1) := by decide +kernel
theorem dX3_foesOf_25 : decode cX3_foesOf 25 = .ok (.iload_n 3, 1) := by decide +kernel
theorem dX3_foesOf_26 : decode cX3_foesOf 26 = .ok (.invokevirtual 79, 3) := by decide +kernel
theorem dX3_foesOf_29 : decode cX3_foesOf 29 = .ok (.ifCond .eq 9, 3) := by decide +kernel
theorem dX3_foesOf_32 : decode cX3_foesOf 32 = .ok (.iload_n 2, 1) := by decide +kernel
theorem dX3_foesOf_33 : decode cX3_foesOf 33 = .ok (.iconst 1, 1) := by decide +kernel
theorem dX3_foesOf_34 : decode cX3_foesOf 34 = .ok (.iload_n 3, 1) := by decide +kernel
theorem dX3_foesOf_35 : decode cX3_foesOf 35 = .ok (.ishl, 1) := by decide +kernel
theorem dX3_foesOf_36 : decode cX3_foesOf 36 = .ok (.ior, 1) := by decide +kernel
theorem dX3_foesOf_37 : decode cX3_foesOf 37 = .ok (.istore_n 2, 1) := by decide +kernel
theorem dX3_foesOf_38 : decode cX3_foesOf 38 = .ok (.iinc 3 1, 3) := by decide +kernel
theorem dX3_foesOf_41 : decode cX3_foesOf 41 = .ok (.goto (-37), 3) := by decide +kernel
theorem dX3_foesOf_44 : decode cX3_foesOf 44 = .ok (.iload_n 2, 1) := by decide +kernel
theorem dX3_foesOf_45 : decode cX3_foesOf 45 = .ok (.ireturn, 1) := by decide +kernel
theorem dX3_measureBlocks_0 : decode cX3_measureBlocks 0 = .ok (.iconst 0, 1) := by decide +kernel
theorem dX3_measureBlocks_1 : decode cX3_measureBlocks 1 = .ok (.istore_n 1, 1) := by decide +kernel
theorem dX3_measureBlocks_2 : decode cX3_measureBlocks 2 = .ok (.iconst 0, 1) := by decide +kernel
theorem dX3_measureBlocks_3 : decode cX3_measureBlocks 3 = .ok (.istore_n 2, 1) := by decide +kernel
theorem dX3_measureBlocks_4 : decode cX3_measureBlocks 4 = .ok (.iload_n 2, 1) := by decide +kernel
theorem dX3_measureBlocks_5 : decode cX3_measureBlocks 5 = .ok (.aload_n 0, 1) := by decide +kernel
theorem dX3_measureBlocks_6 : decode cX3_measureBlocks 6 = .ok (.getfield 12, 3) := by decide +kernel
theorem dX3_measureBlocks_9 : decode cX3_measureBlocks 9 = .ok (.getfield 51, 3) := by decide +kernel
theorem dX3_measureBlocks_12 : decode cX3_measureBlocks 12 = .ok (.if_icmp .ge 179, 3) := by decide +kernel
theorem dX3_measureBlocks_15 : decode cX3_measureBlocks 15 = .ok (.iconst 0, 1) := by decide +kernel
theorem dX3_measureBlocks_16 : decode cX3_measureBlocks 16 = .ok (.istore_n 3, 1) := by decide +kernel
theorem dX3_measureBlocks_17 : decode cX3_measureBlocks 17 = .ok (.iconst 0, 1) := by decide +kernel
theorem dX3_measureBlocks_18 : decode cX3_measureBlocks 18 = .ok (.istore 4, 2) := by decide +kernel
theorem dX3_measureBlocks_20 : decode cX3_measureBlocks 20 = .ok (.iload 4, 2) := by decide +kernel
theorem dX3_measureBlocks_22 : decode cX3_measureBlocks 22 = .ok (.aload_n 0, 1) := by decide +kernel
theorem dX3_measureBlocks_23 : decode cX3_measureBlocks 23 = .ok (.getfield 12, 3) := by decide +kernel
theorem dX3_measureBlocks_26 : decode cX3_measureBlocks 26 = .ok (.getfield 60, 3) := by decide +kernel
theorem dX3_measureBlocks_29 : decode cX3_measureBlocks 29 = .ok (.if_icmp .ge 152, 3) := by decide +kernel
theorem dX3_measureBlocks_32 : decode cX3_measureBlocks 32 = .ok (.iload_n 2, 1) := by decide +kernel
theorem dX3_measureBlocks_33 : decode cX3_measureBlocks 33 = .ok (.bipush 24, 2) := by decide +kernel
theorem dX3_measureBlocks_35 : decode cX3_measureBlocks 35 = .ok (.imul, 1) := by decide +kernel
theorem dX3_measureBlocks_36 : decode cX3_measureBlocks 36 = .ok (.iload 4, 2) := by decide +kernel
theorem dX3_measureBlocks_38 : decode cX3_measureBlocks 38 = .ok (.iadd, 1) := by decide +kernel
theorem dX3_measureBlocks_39 : decode cX3_measureBlocks 39 = .ok (.istore 5, 2) := by decide +kernel
theorem dX3_measureBlocks_41 : decode cX3_measureBlocks 41 = .ok (.aload_n 0, 1) := by decide +kernel
theorem dX3_measureBlocks_42 : decode cX3_measureBlocks 42 = .ok (.getfield 12, 3) := by decide +kernel
theorem dX3_measureBlocks_45 : decode cX3_measureBlocks 45 = .ok (.iload_n 2, 1) := by decide +kernel
theorem dX3_measureBlocks_46 : decode cX3_measureBlocks 46 = .ok (.iload 4, 2) := by decide +kernel
theorem dX3_measureBlocks_48 : decode cX3_measureBlocks 48 = .ok (.invokevirtual 83, 3) := by decide +kernel
theorem dX3_measureBlocks_51 : decode cX3_measureBlocks 51 = .ok (.ifCond .eq 20, 3) := by decide +kernel
theorem dX3_measureBlocks_54 : decode cX3_measureBlocks 54 = .ok (.aload_n 0, 1) := by decide +kernel
theorem dX3_measureBlocks_55 : decode cX3_measureBlocks 55 = .ok (.getfield 12, 3) := by decide +kernel
theorem dX3_measureBlocks_58 : decode cX3_measureBlocks 58 = .ok (.iload_n 2, 1) := by decide +kernel
theorem dX3_measureBlocks_59 : decode cX3_measureBlocks 59 = .ok (.iload 4, 2) := by decide +kernel
theorem dX3_measureBlocks_61 : decode cX3_measureBlocks 61 = .ok (.invokevirtual 86, 3) := by decide +kernel
theorem dX3_measureBlocks_64 : decode cX3_measureBlocks 64 = .ok (.ifCond .eq 7, 3) := by decide +kernel
theorem dX3_measureBlocks_67 : decode cX3_measureBlocks 67 = .ok (.iconst 1, 1) := by decide +kernel
theorem dX3_measureBlocks_68 : decode cX3_measureBlocks 68 = .ok (.goto 4, 3) := by decide +kernel
theorem dX3_measureBlocks_71 : decode cX3_measureBlocks 71 = .ok (.iconst 0, 1) := by decide +kernel
theorem dX3_measureBlocks_72 : decode cX3_measureBlocks 72 = .ok (.istore 6, 2) := by decide +kernel
theorem dX3_measureBlocks_74 : decode cX3_measureBlocks 74 = .ok (.aload_n 0, 1) := by decide +kernel
theorem dX3_measureBlocks_75 : decode cX3_measureBlocks 75 = .ok (.getfield 32, 3) := by decide +kernel
theorem dX3_measureBlocks_78 : decode cX3_measureBlocks 78 = .ok (.iload 5, 2) := by decide +kernel
theorem dX3_measureBlocks_80 : decode cX3_measureBlocks 80 = .ok (.iload 6, 2) := by decide +kernel
theorem dX3_measureBlocks_82 : decode cX3_measureBlocks 82 = .ok (.ifCond .eq 21, 3) := by decide +kernel
theorem dX3_measureBlocks_85 : decode cX3_measureBlocks 85 = .ok (.aload_n 0, 1) := by decide +kernel
theorem dX3_measureBlocks_86 : decode cX3_measureBlocks 86 = .ok (.getfield 12, 3) := by decide +kernel
theorem dX3_measureBlocks_89 : decode cX3_measureBlocks 89 = .ok (.iload_n 2, 1) := by decide +kernel
theorem dX3_measureBlocks_90 : decode cX3_measureBlocks 90 = .ok (.iload 4, 2) := by decide +kernel
theorem dX3_measureBlocks_92 : decode cX3_measureBlocks 92 = .ok (.invokevirtual 89, 3) := by decide +kernel
theorem dX3_measureBlocks_95 : decode cX3_measureBlocks 95 = .ok (.bipush 16, 2) := by decide +kernel
theorem dX3_measureBlocks_97 : decode cX3_measureBlocks 97 = .ok (.imul, 1) := by decide +kernel
theorem dX3_measureBlocks_98 : decode cX3_measureBlocks 98 = .ok (.iconst 1, 1) := by decide +kernel
theorem dX3_measureBlocks_99 : decode cX3_measureBlocks 99 = .ok (.iadd, 1) := by decide +kernel
theorem dX3_measureBlocks_100 : decode cX3_measureBlocks 100 = .ok (.goto 4, 3) := by decide +kernel
theorem dX3_measureBlocks_103 : decode cX3_measureBlocks 103 = .ok (.iconst 0, 1) := by decide +kernel
theorem dX3_measureBlocks_104 : decode cX3_measureBlocks 104 = .ok (.iastore, 1) := by decide +kernel
theorem dX3_measureBlocks_105 : decode cX3_measureBlocks 105 = .ok (.aload_n 0, 1) := by decide +kernel
theorem dX3_measureBlocks_106 : decode cX3_measureBlocks 106 = .ok (.getfield 35, 3) := by decide +kernel
theorem dX3_measureBlocks_109 : decode cX3_measureBlocks 109 = .ok (.iload 5, 2) := by decide +kernel
theorem dX3_measureBlocks_111 : decode cX3_measureBlocks 111 = .ok (.aload_n 0, 1) := by decide +kernel
theorem dX3_measureBlocks_112 : decode cX3_measureBlocks 112 = .ok (.getfield 12, 3) := by decide +kernel
theorem dX3_measureBlocks_115 : decode cX3_measureBlocks 115 = .ok (.iload_n 2, 1) := by decide +kernel
theorem dX3_measureBlocks_116 : decode cX3_measureBlocks 116 = .ok (.iload 4, 2) := by decide +kernel
theorem dX3_measureBlocks_118 : decode cX3_measureBlocks 118 = .ok (.invokevirtual 93, 3) := by decide +kernel
theorem dX3_measureBlocks_121 : decode cX3_measureBlocks 121 = .ok (.iastore, 1) := by decide +kernel
theorem dX3_measureBlocks_122 : decode cX3_measureBlocks 122 = .ok (.iload 4, 2) := by decide +kernel
theorem dX3_measureBlocks_124 : decode cX3_measureBlocks 124 = .ok (.aload_n 0, 1) := by decide +kernel
theorem dX3_measureBlocks_125 : decode cX3_measureBlocks 125 = .ok (.getfield 12, 3) := by decide +kernel
theorem dX3_measureBlocks_128 : decode cX3_measureBlocks 128 = .ok (.getfield 96, 3) := by decide +kernel
theorem dX3_measureBlocks_131 : decode cX3_measureBlocks 131 = .ok (.iload_n 2, 1) := by decide +kernel
theorem dX3_measureBlocks_132 : decode cX3_measureBlocks 132 = .ok (.iaload, 1) := by decide +kernel
theorem dX3_measureBlocks_133 : decode cX3_measureBlocks 133 = .ok (.iadd, 1) := by decide +kernel
theorem dX3_measureBlocks_134 : decode cX3_measureBlocks 134 = .ok (.istore 7, 2) := by decide +kernel
theorem dX3_measureBlocks_136 : decode cX3_measureBlocks 136 = .ok (.aload_n 0, 1) := by decide +kernel
theorem dX3_measureBlocks_137 : decode cX3_measureBlocks 137 = .ok (.getfield 38, 3) := by decide +kernel
theorem dX3_measureBlocks_140 : decode cX3_measureBlocks 140 = .ok (.iload 5, 2) := by decide +kernel
theorem dX3_measureBlocks_142 : decode cX3_measureBlocks 142 = .ok (.aload_n 0, 1) := by decide +kernel
theorem dX3_measureBlocks_143 : decode cX3_measureBlocks 143 = .ok (.iload_n 2, 1) := by decide +kernel
theorem dX3_measureBlocks_144 : decode cX3_measureBlocks 144 = .ok (.iload 7, 2) := by decide +kernel
theorem dX3_measureBlocks_146 : decode cX3_measureBlocks 146 = .ok (.iconst 1, 1) := by decide +kernel
theorem dX3_measureBlocks_147 : decode cX3_measureBlocks 147 = .ok (.isub, 1) := by decide +kernel
theorem dX3_measureBlocks_148 : decode cX3_measureBlocks 148 = .ok (.iload 7, 2) := by decide +kernel
theorem dX3_measureBlocks_150 : decode cX3_measureBlocks 150 = .ok (.invokevirtual 99, 3) := by decide +kernel
theorem dX3_measureBlocks_153 : decode cX3_measureBlocks 153 = .ok (.iastore, 1) := by decide +kernel
theorem dX3_measureBlocks_154 : decode cX3_measureBlocks 154 = .ok (.iload_n 3, 1) := by decide +kernel
theorem dX3_measureBlocks_155 : decode cX3_measureBlocks 155 = .ok (.iload 6, 2) := by decide +kernel
theorem dX3_measureBlocks_157 : decode cX3_measureBlocks 157 = .ok (.ifCond .eq 13, 3) := by decide +kernel
theorem dX3_measureBlocks_160 : decode cX3_measureBlocks 160 = .ok (.aload_n 0, 1) := by decide +kernel
theorem dX3_measureBlocks_161 : decode cX3_measureBlocks 161 = .ok (.getfield 35, 3) := by decide +kernel
theorem dX3_measureBlocks_164 : decode cX3_measureBlocks 164 = .ok (.iload 5, 2) := by decide +kernel
theorem dX3_measureBlocks_166 : decode cX3_measureBlocks 166 = .ok (.iaload, 1) := by decide +kernel
theorem dX3_measureBlocks_167 : decode cX3_measureBlocks 167 = .ok (.goto 4, 3) := by decide +kernel
theorem dX3_measureBlocks_170 : decode cX3_measureBlocks 170 = .ok (.iconst 0, 1) := by decide +kernel
theorem dX3_measureBlocks_171 : decode cX3_measureBlocks 171 = .ok (.invokestatic 102, 3) := by decide +kernel
theorem dX3_measureBlocks_174 : decode cX3_measureBlocks 174 = .ok (.istore_n 3, 1) := by decide +kernel
theorem dX3_measureBlocks_175 : decode cX3_measureBlocks 175 = .ok (.iinc 4 1, 3) := by decide +kernel
theorem dX3_measureBlocks_178 : decode cX3_measureBlocks 178 = .ok (.goto (-158), 3) := by decide +kernel
theorem dX3_measureBlocks_181 : decode cX3_measureBlocks 181 = .ok (.iload_n 1, 1) := by decide +kernel
theorem dX3_measureBlocks_182 : decode cX3_measureBlocks 182 = .ok (.iload_n 3, 1) := by decide +kernel
theorem dX3_measureBlocks_183 : decode cX3_measureBlocks 183 = .ok (.iadd, 1) := by decide +kernel
theorem dX3_measureBlocks_184 : decode cX3_measureBlocks 184 = .ok (.istore_n 1, 1) := by decide +kernel
theorem dX3_measureBlocks_185 : decode cX3_measureBlocks 185 = .ok (.iinc 2 1, 3) := by decide +kernel
theorem dX3_measureBlocks_188 : decode cX3_measureBlocks 188 = .ok (.goto (-184), 3) := by decide +kernel
theorem dX3_measureBlocks_191 : decode cX3_measureBlocks 191 = .ok (.aload_n 0, 1) := by decide +kernel
theorem dX3_measureBlocks_192 : decode cX3_measureBlocks 192 = .ok (.aload_n 0, 1) := by decide +kernel
theorem dX3_measureBlocks_193 : decode cX3_measureBlocks 193 = .ok (.getfield 12, 3) := by decide +kernel
theorem dX3_measureBlocks_196 : decode cX3_measureBlocks 196 = .ok (.getfield 107, 3) := by decide +kernel
theorem dX3_measureBlocks_199 : decode cX3_measureBlocks 199 = .ok (.iconst 1, 1) := by decide +kernel
theorem dX3_measureBlocks_200 : decode cX3_measureBlocks 200 = .ok (.iadd, 1) := by decide +kernel
theorem dX3_measureBlocks_201 : decode cX3_measureBlocks 201 = .ok (.iload_n 1, 1) := by decide +kernel
theorem dX3_measureBlocks_202 : decode cX3_measureBlocks 202 = .ok (.invokestatic 110, 3) := by decide +kernel
theorem dX3_measureBlocks_205 : decode cX3_measureBlocks 205 = .ok (.iconst 1, 1) := by decide +kernel
theorem dX3_measureBlocks_206 : decode cX3_measureBlocks 206 = .ok (.iadd, 1) := by decide +kernel
theorem dX3_measureBlocks_207 : decode cX3_measureBlocks 207 = .ok (.putfield 29, 3) := by decide +kernel
theorem dX3_measureBlocks_210 : decode cX3_measureBlocks 210 = .ok (.return_, 1) := by decide +kernel
theorem dX3_makeRoom_0 : decode cX3_makeRoom 0 = .ok (.aload_n 0, 1) := by decide +kernel
theorem dX3_makeRoom_1 : decode cX3_makeRoom 1 = .ok (.getfield 18, 3) := by decide +kernel
theorem dX3_makeRoom_4 : decode cX3_makeRoom 4 = .ok (.arraylength, 1) := by decide +kernel
theorem dX3_makeRoom_5 : decode cX3_makeRoom 5 = .ok (.iload_n 1, 1) := by decide +kernel
theorem dX3_makeRoom_6 : decode cX3_makeRoom 6 = .ok (.if_icmp .ge 25, 3) := by decide +kernel
theorem dX3_makeRoom_9 : decode cX3_makeRoom 9 = .ok (.aload_n 0, 1) := by decide +kernel
theorem dX3_makeRoom_10 : decode cX3_makeRoom 10 = .ok (.iload_n 1, 1) := by decide +kernel
theorem dX3_makeRoom_11 : decode cX3_makeRoom 11 = .ok (.iconst 2, 1) := by decide +kernel
theorem dX3_makeRoom_12 : decode cX3_makeRoom 12 = .ok (.aload_n 0, 1) := by decide +kernel
theorem dX3_makeRoom_13 : decode cX3_makeRoom 13 = .ok (.getfield 18, 3) := by decide +kernel
theorem dX3_makeRoom_16 : decode cX3_makeRoom 16 = .ok (.arraylength, 1) := by decide +kernel
theorem dX3_makeRoom_17 : decode cX3_makeRoom 17 = .ok (.imul, 1) := by decide +kernel
theorem dX3_makeRoom_18 : decode cX3_makeRoom 18 = .ok (.ldc 113, 2) := by decide +kernel
theorem dX3_makeRoom_20 : decode cX3_makeRoom 20 = .ok (.invokestatic 110, 3) := by decide +kernel
theorem dX3_makeRoom_23 : decode cX3_makeRoom 23 = .ok (.invokestatic 102, 3) := by decide +kernel
theorem dX3_makeRoom_26 : decode cX3_makeRoom 26 = .ok (.newarray .int, 2) := by decide +kernel
theorem dX3_makeRoom_28 : decode cX3_makeRoom 28 = .ok (.putfield 18, 3) := by decide +kernel
theorem dX3_makeRoom_31 : decode cX3_makeRoom 31 = .ok (.return_, 1) := by decide +kernel
theorem dX3_cell_0 : decode cX3_cell 0 = .ok (.iload_n 1, 1) := by decide +kernel
theorem dX3_cell_1 : decode cX3_cell 1 = .ok (.aload_n 0, 1) := by decide +kernel
theorem dX3_cell_2 : decode cX3_cell 2 = .ok (.getfield 22, 3) := by decide +kernel
theorem dX3_cell_5 : decode cX3_cell 5 = .ok (.imul, 1) := by decide +kernel
theorem dX3_cell_6 : decode cX3_cell 6 = .ok (.iload_n 2, 1) := by decide +kernel
theorem dX3_cell_7 : decode cX3_cell 7 = .ok (.iadd, 1) := by decide +kernel
theorem dX3_cell_8 : decode cX3_cell 8 = .ok (.aload_n 0, 1) := by decide +kernel
theorem dX3_cell_9 : decode cX3_cell 9 = .ok (.getfield 26, 3) := by decide +kernel
theorem dX3_cell_12 : decode cX3_cell 12 = .ok (.imul, 1) := by decide +kernel
theorem dX3_cell_13 : decode cX3_cell 13 = .ok (.iload_n 3, 1) := by decide +kernel
theorem dX3_cell_14 : decode cX3_cell 14 = .ok (.iadd, 1) := by decide +kernel
theorem dX3_cell_15 : decode cX3_cell 15 = .ok (.aload_n 0, 1) := by decide +kernel
theorem dX3_cell_16 : decode cX3_cell 16 = .ok (.getfield 29, 3) := by decide +kernel
theorem dX3_cell_19 : decode cX3_cell 19 = .ok (.imul, 1) := by decide +kernel
theorem dX3_cell_20 : decode cX3_cell 20 = .ok (.ireturn, 1) := by decide +kernel
theorem dX3_level_0 : decode cX3_level 0 = .ok (.iload_n 1, 1) := by decide +kernel
theorem dX3_level_1 : decode cX3_level 1 = .ok (.aload_n 0, 1) := by decide +kernel
theorem dX3_level_2 : decode cX3_level 2 = .ok (.getfield 29, 3) := by decide +kernel
theorem dX3_level_5 : decode cX3_level 5 = .ok (.iconst 1, 1) := by decide +kernel
theorem dX3_level_6 : decode cX3_level 6 = .ok (.isub, 1) := by decide +kernel
theorem dX3_level_7 : decode cX3_level 7 = .ok (.invokestatic 110, 3) := by decide +kernel
theorem dX3_level_10 : decode cX3_level 10 = .ok (.ireturn, 1) := by decide +kernel
theorem dX3_canCome_0 : decode cX3_canCome 0 = .ok (.iload_n 3, 1) := by decide +kernel
theorem dX3_canCome_1 : decode cX3_canCome 1 = .ok (.iload_n 1, 1) := by decide +kernel
theorem dX3_canCome_2 : decode cX3_canCome 2 = .ok (.ishr, 1) := by decide +kernel
theorem dX3_canCome_3 : decode cX3_canCome 3 = .ok (.iconst 1, 1) := by decide +kernel
theorem dX3_canCome_4 : decode cX3_canCome 4 = .ok (.iand, 1) := by decide +kernel
theorem dX3_canCome_5 : decode cX3_canCome 5 = .ok (.ifCond .ne 21, 3) := by decide +kernel
theorem dX3_canCome_8 : decode cX3_canCome 8 = .ok (.aload_n 0, 1) := by decide +kernel
theorem dX3_canCome_9 : decode cX3_canCome 9 = .ok (.getfield 32, 3) := by decide +kernel
theorem dX3_canCome_12 : decode cX3_canCome 12 = .ok (.iload_n 1, 1) := by decide +kernel
theorem dX3_canCome_13 : decode cX3_canCome 13 = .ok (.bipush 24, 2) := by decide +kernel
theorem dX3_canCome_15 : decode cX3_canCome 15 = .ok (.imul, 1) := by decide +kernel
theorem dX3_canCome_16 : decode cX3_canCome 16 = .ok (.iload_n 2, 1) := by decide +kernel
theorem dX3_canCome_17 : decode cX3_canCome 17 = .ok (.iadd, 1) := by decide +kernel
theorem dX3_canCome_18 : decode cX3_canCome 18 = .ok (.iaload, 1) := by decide +kernel
theorem dX3_canCome_19 : decode cX3_canCome 19 = .ok (.ifCond .le 7, 3) := by decide +kernel
theorem dX3_canCome_22 : decode cX3_canCome 22 = .ok (.iconst 1, 1) := by decide +kernel
theorem dX3_canCome_23 : decode cX3_canCome 23 = .ok (.goto 4, 3) := by decide +kernel
theorem dX3_canCome_26 : decode cX3_canCome 26 = .ok (.iconst 0, 1) := by decide +kernel
theorem dX3_canCome_27 : decode cX3_canCome 27 = .ok (.ireturn, 1) := by decide +kernel
theorem dX3_isBarred_0 : decode cX3_isBarred 0 = .ok (.aload_n 0, 1) := by decide +kernel
theorem dX3_isBarred_1 : decode cX3_isBarred 1 = .ok (.getfield 44, 3) := by decide +kernel
theorem dX3_isBarred_4 : decode cX3_isBarred 4 = .ok (.iload_n 2, 1) := by decide +kernel
theorem dX3_isBarred_5 : decode cX3_isBarred 5 = .ok (.iaload, 1) := by decide +kernel
theorem dX3_isBarred_6 : decode cX3_isBarred 6 = .ok (.iload_n 1, 1) := by decide +kernel
theorem dX3_isBarred_7 : decode cX3_isBarred 7 = .ok (.ishr, 1) := by decide +kernel
theorem dX3_isBarred_8 : decode cX3_isBarred 8 = .ok (.iconst 1, 1) := by decide +kernel
theorem dX3_isBarred_9 : decode cX3_isBarred 9 = .ok (.iand, 1) := by decide +kernel
theorem dX3_isBarred_10 : decode cX3_isBarred 10 = .ok (.ifCond .eq 7, 3) := by decide +kernel
theorem dX3_isBarred_13 : decode cX3_isBarred 13 = .ok (.iconst 1, 1) := by decide +kernel
theorem dX3_isBarred_14 : decode cX3_isBarred 14 = .ok (.goto 4, 3) := by decide +kernel
theorem dX3_isBarred_17 : decode cX3_isBarred 17 = .ok (.iconst 0, 1) := by decide +kernel
theorem dX3_isBarred_18 : decode cX3_isBarred 18 = .ok (.ireturn, 1) := by decide +kernel
theorem dX3_kindBeside_0 : decode cX3_kindBeside 0 = .ok (.aload_n 0, 1) := by decide +kernel
theorem dX3_kindBeside_1 : decode cX3_kindBeside 1 = .ok (.getfield 12, 3) := by decide +kernel
theorem dX3_kindBeside_4 : decode cX3_kindBeside 4 = .ok (.iload_n 2, 1) := by decide +kernel
theorem dX3_kindBeside_5 : decode cX3_kindBeside 5 = .ok (.iload_n 3, 1) := by decide +kernel
theorem dX3_kindBeside_6 : decode cX3_kindBeside 6 = .ok (.invokevirtual 114, 3) := by decide +kernel
theorem dX3_kindBeside_9 : decode cX3_kindBeside 9 = .ok (.ifCond .eq 12, 3) := by decide +kernel
theorem dX3_kindBeside_12 : decode cX3_kindBeside 12 = .ok (.aload_n 0, 1) := by decide +kernel
theorem dX3_kindBeside_13 : decode cX3_kindBeside 13 = .ok (.getfield 41, 3) := by decide +kernel
theorem dX3_kindBeside_16 : decode cX3_kindBeside 16 = .ok (.iload_n 1, 1) := by decide +kernel
theorem dX3_kindBeside_17 : decode cX3_kindBeside 17 = .ok (.iaload, 1) := by decide +kernel
theorem dX3_kindBeside_18 : decode cX3_kindBeside 18 = .ok (.goto 4, 3) := by decide +kernel
theorem dX3_kindBeside_21 : decode cX3_kindBeside 21 = .ok (.iconst 0, 1) := by decide +kernel
theorem dX3_kindBeside_22 : decode cX3_kindBeside 22 = .ok (.ireturn, 1) := by decide +kernel
theorem dX3_fill_0 : decode cX3_fill 0 = .ok (.aload_n 0, 1) := by decide +kernel
theorem dX3_fill_1 : decode cX3_fill 1 = .ok (.iload_n 1, 1) := by decide +kernel
theorem dX3_fill_2 : decode cX3_fill 2 = .ok (.iload_n 2, 1) := by decide +kernel
theorem dX3_fill_3 : decode cX3_fill 3 = .ok (.iconst 0, 1) := by decide +kernel
theorem dX3_fill_4 : decode cX3_fill 4 = .ok (.invokevirtual 67, 3) := by decide +kernel
theorem dX3_fill_7 : decode cX3_fill 7 = .ok (.istore_n 3, 1) := by decide +kernel
theorem dX3_fill_8 : decode cX3_fill 8 = .ok (.aload_n 0, 1) := by decide +kernel
theorem dX3_fill_9 : decode cX3_fill 9 = .ok (.iload_n 1, 1) := by decide +kernel
theorem dX3_fill_10 : decode cX3_fill 10 = .ok (.iconst 1, 1) := by decide +kernel
theorem dX3_fill_11 : decode cX3_fill 11 = .ok (.iadd, 1) := by decide +kernel
theorem dX3_fill_12 : decode cX3_fill 12 = .ok (.iload_n 2, 1) := by decide +kernel
theorem dX3_fill_13 : decode cX3_fill 13 = .ok (.iconst 0, 1) := by decide +kernel
theorem dX3_fill_14 : decode cX3_fill 14 = .ok (.invokevirtual 67, 3) := by decide +kernel
theorem dX3_fill_17 : decode cX3_fill 17 = .ok (.istore 4, 2) := by decide +kernel
theorem dX3_fill_19 : decode cX3_fill 19 = .ok (.iconst 0, 1) := by decide +kernel
theorem dX3_fill_20 : decode cX3_fill 20 = .ok (.istore 5, 2) := by decide +kernel
theorem dX3_fill_22 : decode cX3_fill 22 = .ok (.iload 5, 2) := by decide +kernel
theorem dX3_fill_24 : decode cX3_fill 24 = .ok (.aload_n 0, 1) := by decide +kernel
theorem dX3_fill_25 : decode cX3_fill 25 = .ok (.getfield 26, 3) := by decide +kernel
theorem dX3_fill_28 : decode cX3_fill 28 = .ok (.if_icmp .ge 54, 3) := by decide +kernel
theorem dX3_fill_31 : decode cX3_fill 31 = .ok (.iconst 0, 1) := by decide +kernel
theorem dX3_fill_32 : decode cX3_fill 32 = .ok (.istore 6, 2) := by decide +kernel
theorem dX3_fill_34 : decode cX3_fill 34 = .ok (.iload 6, 2) := by decide +kernel
theorem dX3_fill_36 : decode cX3_fill 36 = .ok (.aload_n 0, 1) := by decide +kernel
theorem dX3_fill_37 : decode cX3_fill 37 = .ok (.getfield 29, 3) := by decide +kernel
theorem dX3_fill_40 : decode cX3_fill 40 = .ok (.if_icmp .ge 36, 3) := by decide +kernel
theorem dX3_fill_43 : decode cX3_fill 43 = .ok (.aload_n 0, 1) := by decide +kernel
theorem dX3_fill_44 : decode cX3_fill 44 = .ok (.getfield 18, 3) := by decide +kernel
theorem dX3_fill_47 : decode cX3_fill 47 = .ok (.iload_n 3, 1) := by decide +kernel
theorem dX3_fill_48 : decode cX3_fill 48 = .ok (.iload 5, 2) := by decide +kernel
theorem dX3_fill_50 : decode cX3_fill 50 = .ok (.aload_n 0, 1) := by decide +kernel
theorem dX3_fill_51 : decode cX3_fill 51 = .ok (.getfield 29, 3) := by decide +kernel
theorem dX3_fill_54 : decode cX3_fill 54 = .ok (.imul, 1) := by decide +kernel
theorem dX3_fill_55 : decode cX3_fill 55 = .ok (.iadd, 1) := by decide +kernel
theorem dX3_fill_56 : decode cX3_fill 56 = .ok (.iload 6, 2) := by decide +kernel
theorem dX3_fill_58 : decode cX3_fill 58 = .ok (.iadd, 1) := by decide +kernel
theorem dX3_fill_59 : decode cX3_fill 59 = .ok (.aload_n 0, 1) := by decide +kernel
theorem dX3_fill_60 : decode cX3_fill 60 = .ok (.getfield 18, 3) := by decide +kernel
theorem dX3_fill_63 : decode cX3_fill 63 = .ok (.iload 4, 2) := by decide +kernel
theorem dX3_fill_65 : decode cX3_fill 65 = .ok (.iload 6, 2) := by decide +kernel
theorem dX3_fill_67 : decode cX3_fill 67 = .ok (.iadd, 1) := by decide +kernel
theorem dX3_fill_68 : decode cX3_fill 68 = .ok (.iaload, 1) := by decide +kernel
theorem dX3_fill_69 : decode cX3_fill 69 = .ok (.iastore, 1) := by decide +kernel
theorem dX3_fill_70 : decode cX3_fill 70 = .ok (.iinc 6 1, 3) := by decide +kernel
theorem dX3_fill_73 : decode cX3_fill 73 = .ok (.goto (-39), 3) := by decide +kernel
theorem dX3_fill_76 : decode cX3_fill 76 = .ok (.iinc 5 1, 3) := by decide +kernel
theorem dX3_fill_79 : decode cX3_fill 79 = .ok (.goto (-57), 3) := by decide +kernel
theorem dX3_fill_82 : decode cX3_fill 82 = .ok (.iconst 0, 1) := by decide +kernel
theorem dX3_fill_83 : decode cX3_fill 83 = .ok (.istore 5, 2) := by decide +kernel
theorem dX3_fill_85 : decode cX3_fill 85 = .ok (.iload 5, 2) := by decide +kernel
theorem dX3_fill_87 : decode cX3_fill 87 = .ok (.aload_n 0, 1) := by decide +kernel
theorem dX3_fill_88 : decode cX3_fill 88 = .ok (.getfield 12, 3) := by decide +kernel
theorem dX3_fill_91 : decode cX3_fill 91 = .ok (.getfield 51, 3) := by decide +kernel
theorem dX3_fill_94 : decode cX3_fill 94 = .ok (.if_icmp .ge 28, 3) := by decide +kernel
theorem dX3_fill_97 : decode cX3_fill 97 = .ok (.aload_n 0, 1) := by decide +kernel
theorem dX3_fill_98 : decode cX3_fill 98 = .ok (.iload 5, 2) := by decide +kernel
theorem dX3_fill_100 : decode cX3_fill 100 = .ok (.iload_n 1, 1) := by decide +kernel
theorem dX3_fill_101 : decode cX3_fill 101 = .ok (.iload_n 2, 1) := by decide +kernel
theorem dX3_fill_102 : decode cX3_fill 102 = .ok (.invokevirtual 117, 3) := by decide +kernel
theorem dX3_fill_105 : decode cX3_fill 105 = .ok (.ifCond .eq 11, 3) := by decide +kernel
theorem dX3_fill_108 : decode cX3_fill 108 = .ok (.aload_n 0, 1) := by decide +kernel
theorem dX3_fill_109 : decode cX3_fill 109 = .ok (.iload 5, 2) := by decide +kernel
theorem dX3_fill_111 : decode cX3_fill 111 = .ok (.iload_n 1, 1) := by decide +kernel
theorem dX3_fill_112 : decode cX3_fill 112 = .ok (.iload_n 2, 1) := by decide +kernel
theorem dX3_fill_113 : decode cX3_fill 113 = .ok (.invokevirtual 121, 3) := by decide +kernel
theorem dX3_fill_116 : decode cX3_fill 116 = .ok (.iinc 5 1, 3) := by decide +kernel
theorem dX3_fill_119 : decode cX3_fill 119 = .ok (.goto (-34), 3) := by decide +kernel
theorem dX3_fill_122 : decode cX3_fill 122 = .ok (.return_, 1) := by decide +kernel
theorem dX3_tryStart_0 : decode cX3_tryStart 0 = .ok (.iload_n 1, 1) := by decide +kernel
theorem dX3_tryStart_1 : decode cX3_tryStart 1 = .ok (.bipush 24, 2) := by decide +kernel
theorem dX3_tryStart_3 : decode cX3_tryStart 3 = .ok (.imul, 1) := by decide +kernel
theorem dX3_tryStart_4 : decode cX3_tryStart 4 = .ok (.iload_n 2, 1) := by decide +kernel
theorem dX3_tryStart_5 : decode cX3_tryStart 5 = .ok (.iadd, 1) := by decide +kernel
theorem dX3_tryStart_6 : decode cX3_tryStart 6 = .ok (.istore 4, 2) := by decide +kernel
theorem dX3_tryStart_8 : decode cX3_tryStart 8 = .ok (.aload_n 0, 1) := by decide +kernel
theorem dX3_tryStart_9 : decode cX3_tryStart 9 = .ok (.getfield 32, 3) := by decide +kernel
theorem dX3_tryStart_12 : decode cX3_tryStart 12 = .ok (.iload 4, 2) := by decide +kernel
theorem dX3_tryStart_14 : decode cX3_tryStart 14 = .ok (.iaload, 1) := by decide +kernel
theorem dX3_tryStart_15 : decode cX3_tryStart 15 = .ok (.istore 5, 2) := by decide +kernel
theorem dX3_tryStart_17 : decode cX3_tryStart 17 = .ok (.aload_n 0, 1) := by decide +kernel
theorem dX3_tryStart_18 : decode cX3_tryStart 18 = .ok (.getfield 35, 3) := by decide +kernel
theorem dX3_tryStart_21 : decode cX3_tryStart 21 = .ok (.iload 4, 2) := by decide +kernel
theorem dX3_tryStart_23 : decode cX3_tryStart 23 = .ok (.iaload, 1) := by decide +kernel
theorem dX3_tryStart_24 : decode cX3_tryStart 24 = .ok (.istore 6, 2) := by decide +kernel
theorem dX3_tryStart_26 : decode cX3_tryStart 26 = .ok (.aload_n 0, 1) := by decide +kernel
theorem dX3_tryStart_27 : decode cX3_tryStart 27 = .ok (.iload_n 2, 1) := by decide +kernel
theorem dX3_tryStart_28 : decode cX3_tryStart 28 = .ok (.iload_n 3, 1) := by decide +kernel
theorem dX3_tryStart_29 : decode cX3_tryStart 29 = .ok (.iconst 0, 1) := by decide +kernel
theorem dX3_tryStart_30 : decode cX3_tryStart 30 = .ok (.invokevirtual 67, 3) := by decide +kernel
theorem dX3_tryStart_33 : decode cX3_tryStart 33 = .ok (.istore 7, 2) := by decide +kernel
theorem dX3_tryStart_35 : decode cX3_tryStart 35 = .ok (.aload_n 0, 1) := by decide +kernel
theorem dX3_tryStart_36 : decode cX3_tryStart 36 = .ok (.iload_n 1, 1) := by decide +kernel
theorem dX3_tryStart_37 : decode cX3_tryStart 37 = .ok (.iload_n 2, 1) := by decide +kernel
theorem dX3_tryStart_38 : decode cX3_tryStart 38 = .ok (.iload_n 3, 1) := by decide +kernel
theorem dX3_tryStart_39 : decode cX3_tryStart 39 = .ok (.invokevirtual 125, 3) := by decide +kernel
theorem dX3_tryStart_42 : decode cX3_tryStart 42 = .ok (.iload 6, 2) := by decide +kernel
theorem dX3_tryStart_44 : decode cX3_tryStart 44 = .ok (.isub, 1) := by decide +kernel
theorem dX3_tryStart_45 : decode cX3_tryStart 45 = .ok (.istore 8, 2) := by decide +kernel
theorem dX3_tryStart_47 : decode cX3_tryStart 47 = .ok (.aload_n 0, 1) := by decide +kernel
theorem dX3_tryStart_48 : decode cX3_tryStart 48 = .ok (.getfield 18, 3) := by decide +kernel
theorem dX3_tryStart_51 : decode cX3_tryStart 51 = .ok (.astore 9, 2) := by decide +kernel
theorem dX3_tryStart_53 : decode cX3_tryStart 53 = .ok (.iconst 0, 1) := by decide +kernel
theorem dX3_tryStart_54 : decode cX3_tryStart 54 = .ok (.istore 10, 2) := by decide +kernel
theorem dX3_tryStart_56 : decode cX3_tryStart 56 = .ok (.iload 10, 2) := by decide +kernel
theorem dX3_tryStart_58 : decode cX3_tryStart 58 = .ok (.aload_n 0, 1) := by decide +kernel
theorem dX3_tryStart_59 : decode cX3_tryStart 59 = .ok (.getfield 26, 3) := by decide +kernel
theorem dX3_tryStart_62 : decode cX3_tryStart 62 = .ok (.if_icmp .ge 86, 3) := by decide +kernel
theorem dX3_tryStart_65 : decode cX3_tryStart 65 = .ok (.aload_n 0, 1) := by decide +kernel
theorem dX3_tryStart_66 : decode cX3_tryStart 66 = .ok (.iload_n 1, 1) := by decide +kernel
theorem dX3_tryStart_67 : decode cX3_tryStart 67 = .ok (.iload 10, 2) := by decide +kernel
theorem dX3_tryStart_69 : decode cX3_tryStart 69 = .ok (.invokevirtual 128, 3) := by decide +kernel
theorem dX3_tryStart_72 : decode cX3_tryStart 72 = .ok (.ifCond .eq 6, 3) := by decide +kernel
theorem dX3_tryStart_75 : decode cX3_tryStart 75 = .ok (.goto 58, 3) := by decide +kernel
theorem dX3_tryStart_78 : decode cX3_tryStart 78 = .ok (.iload 6, 2) := by decide +kernel
theorem dX3_tryStart_80 : decode cX3_tryStart 80 = .ok (.istore 11, 2) := by decide +kernel
theorem dX3_tryStart_82 : decode cX3_tryStart 82 = .ok (.iload 11, 2) := by decide +kernel
theorem dX3_tryStart_84 : decode cX3_tryStart 84 = .ok (.aload_n 0, 1) := by decide +kernel
theorem dX3_tryStart_85 : decode cX3_tryStart 85 = .ok (.getfield 29, 3) := by decide +kernel
theorem dX3_tryStart_88 : decode cX3_tryStart 88 = .ok (.if_icmp .ge 45, 3) := by decide +kernel
theorem dX3_tryStart_91 : decode cX3_tryStart 91 = .ok (.iload 5, 2) := by decide +kernel
theorem dX3_tryStart_93 : decode cX3_tryStart 93 = .ok (.aload 9, 2) := by decide +kernel
theorem dX3_tryStart_95 : decode cX3_tryStart 95 = .ok (.iload 8, 2) := by decide +kernel
theorem dX3_tryStart_97 : decode cX3_tryStart 97 = .ok (.iload 11, 2) := by decide +kernel
theorem dX3_tryStart_99 : decode cX3_tryStart 99 = .ok (.iadd, 1) := by decide +kernel
theorem dX3_tryStart_100 : decode cX3_tryStart 100 = .ok (.iaload, 1) := by decide +kernel
theorem dX3_tryStart_101 : decode cX3_tryStart 101 = .ok (.iadd, 1) := by decide +kernel
theorem dX3_tryStart_102 : decode cX3_tryStart 102 = .ok (.istore 12, 2) := by decide +kernel
theorem dX3_tryStart_104 : decode cX3_tryStart 104 = .ok (.iload 12, 2) := by decide +kernel
theorem dX3_tryStart_106 : decode cX3_tryStart 106 = .ok (.aload 9, 2) := by decide +kernel
theorem dX3_tryStart_108 : decode cX3_tryStart 108 = .ok (.iload 7, 2) := by decide +kernel
theorem dX3_tryStart_110 : decode cX3_tryStart 110 = .ok (.iload 11, 2) := by decide +kernel
theorem dX3_tryStart_112 : decode cX3_tryStart 112 = .ok (.iadd, 1) := by decide +kernel
theorem dX3_tryStart_113 : decode cX3_tryStart 113 = .ok (.iaload, 1) := by decide +kernel
theorem dX3_tryStart_114 : decode cX3_tryStart 114 = .ok (.if_icmp .le 13, 3) := by decide +kernel
theorem dX3_tryStart_117 : decode cX3_tryStart 117 = .ok (.aload 9, 2) := by decide +kernel
theorem dX3_tryStart_119 : decode cX3_tryStart 119 = .ok (.iload 7, 2) := by decide +kernel
theorem dX3_tryStart_121 : decode cX3_tryStart 121 = .ok (.iload 11, 2) := by decide +kernel
theorem dX3_tryStart_123 : decode cX3_tryStart 123 = .ok (.iadd, 1) := by decide +kernel
theorem dX3_tryStart_124 : decode cX3_tryStart 124 = .ok (.iload 12, 2) := by decide +kernel
theorem dX3_tryStart_126 : decode cX3_tryStart 126 = .ok (.iastore, 1) := by decide +kernel
theorem dX3_tryStart_127 : decode cX3_tryStart 127 = .ok (.iinc 11 1, 3) := by decide +kernel
theorem dX3_tryStart_130 : decode cX3_tryStart 130 = .ok (.goto (-48), 3) := by decide +kernel
theorem dX3_tryStart_133 : decode cX3_tryStart 133 = .ok (.iinc 10 1, 3) := by decide +kernel
theorem dX3_tryStart_136 : decode cX3_tryStart 136 = .ok (.iload 7, 2) := by decide +kernel
theorem dX3_tryStart_138 : decode cX3_tryStart 138 = .ok (.aload_n 0, 1) := by decide +kernel
theorem dX3_tryStart_139 : decode cX3_tryStart 139 = .ok (.getfield 29, 3) := by decide +kernel
theorem dX3_tryStart_142 : decode cX3_tryStart 142 = .ok (.iadd, 1) := by decide +kernel
theorem dX3_tryStart_143 : decode cX3_tryStart 143 = .ok (.istore 7, 2) := by decide +kernel
theorem dX3_tryStart_145 : decode cX3_tryStart 145 = .ok (.goto (-89), 3) := by decide +kernel
theorem dX3_tryStart_148 : decode cX3_tryStart 148 = .ok (.return_, 1) := by decide +kernel
theorem dX3_cellAfter_0 : decode cX3_cellAfter 0 = .ok (.aload_n 0, 1) := by decide +kernel
theorem dX3_cellAfter_1 : decode cX3_cellAfter 1 = .ok (.getfield 38, 3) := by decide +kernel
theorem dX3_cellAfter_4 : decode cX3_cellAfter 4 = .ok (.iload_n 1, 1) := by decide +kernel
theorem dX3_cellAfter_5 : decode cX3_cellAfter 5 = .ok (.bipush 24, 2) := by decide +kernel
theorem dX3_cellAfter_7 : decode cX3_cellAfter 7 = .ok (.imul, 1) := by decide +kernel
theorem dX3_cellAfter_8 : decode cX3_cellAfter 8 = .ok (.iload_n 2, 1) := by decide +kernel
theorem dX3_cellAfter_9 : decode cX3_cellAfter 9 = .ok (.iadd, 1) := by decide +kernel
theorem dX3_cellAfter_10 : decode cX3_cellAfter 10 = .ok (.iaload, 1) := by decide +kernel
theorem dX3_cellAfter_11 : decode cX3_cellAfter 11 = .ok (.istore 4, 2) := by decide +kernel
theorem dX3_cellAfter_13 : decode cX3_cellAfter 13 = .ok (.aload_n 0, 1) := by decide +kernel
theorem dX3_cellAfter_14 : decode cX3_cellAfter 14 = .ok (.iload_n 2, 1) := by decide +kernel
theorem dX3_cellAfter_15 : decode cX3_cellAfter 15 = .ok (.aload_n 0, 1) := by decide +kernel
theorem dX3_cellAfter_16 : decode cX3_cellAfter 16 = .ok (.getfield 12, 3) := by decide +kernel
theorem dX3_cellAfter_19 : decode cX3_cellAfter 19 = .ok (.getfield 96, 3) := by decide +kernel
theorem dX3_cellAfter_22 : decode cX3_cellAfter 22 = .ok (.iload_n 1, 1) := by decide +kernel
theorem dX3_cellAfter_23 : decode cX3_cellAfter 23 = .ok (.iaload, 1) := by decide +kernel
theorem dX3_cellAfter_24 : decode cX3_cellAfter 24 = .ok (.iadd, 1) := by decide +kernel
theorem dX3_cellAfter_25 : decode cX3_cellAfter 25 = .ok (.iload_n 3, 1) := by decide +kernel
theorem dX3_cellAfter_26 : decode cX3_cellAfter 26 = .ok (.iconst 1, 1) := by decide +kernel
theorem dX3_cellAfter_27 : decode cX3_cellAfter 27 = .ok (.iload_n 1, 1) := by decide +kernel
theorem dX3_cellAfter_28 : decode cX3_cellAfter 28 = .ok (.ishl, 1) := by decide +kernel
theorem dX3_cellAfter_29 : decode cX3_cellAfter 29 = .ok (.ior, 1) := by decide +kernel
theorem dX3_cellAfter_30 : decode cX3_cellAfter 30 = .ok (.iload 4, 2) := by decide +kernel
theorem dX3_cellAfter_32 : decode cX3_cellAfter 32 = .ok (.invokevirtual 67, 3) := by decide +kernel
theorem dX3_cellAfter_35 : decode cX3_cellAfter 35 = .ok (.ireturn, 1) := by decide +kernel
theorem dX3_incomeWithout_0 : decode cX3_incomeWithout 0 = .ok (.aload_n 0, 1) := by decide +kernel
theorem dX3_incomeWithout_1 : decode cX3_incomeWithout 1 = .ok (.getfield 18, 3) := by decide +kernel
theorem dX3_incomeWithout_4 : decode cX3_incomeWithout 4 = .ok (.aload_n 0, 1) := by decide +kernel
theorem dX3_incomeWithout_5 : decode cX3_incomeWithout 5 = .ok (.iconst 0, 1) := by decide +kernel
theorem dX3_incomeWithout_6 : decode cX3_incomeWithout 6 = .ok (.iload_n 1, 1) := by decide +kernel
theorem dX3_incomeWithout_7 : decode cX3_incomeWithout 7 = .ok (.iconst 0, 1) := by decide +kernel
theorem dX3_incomeWithout_8 : decode cX3_incomeWithout 8 = .ok (.invokevirtual 67, 3) := by decide +kernel
theorem dX3_incomeWithout_11 : decode cX3_incomeWithout 11 = .ok (.aload_n 0, 1) := by decide +kernel
theorem dX3_incomeWithout_12 : decode cX3_incomeWithout 12 = .ok (.iload_n 2, 1) := by decide +kernel
theorem dX3_incomeWithout_13 : decode cX3_incomeWithout 13 = .ok (.invokevirtual 131, 3) := by decide +kernel
theorem dX3_incomeWithout_16 : decode cX3_incomeWithout 16 = .ok (.iadd, 1) := by decide +kernel
theorem dX3_incomeWithout_17 : decode cX3_incomeWithout 17 = .ok (.iaload, 1) := by decide +kernel
theorem dX3_incomeWithout_18 : decode cX3_incomeWithout 18 = .ok (.bipush 16, 2) := by decide +kernel
theorem dX3_incomeWithout_20 : decode cX3_incomeWithout 20 = .ok (.idiv, 1) := by decide +kernel
theorem dX3_incomeWithout_21 : decode cX3_incomeWithout 21 = .ok (.ireturn, 1) := by decide +kernel
theorem dX3_seatBest_0 : decode cX3_seatBest 0 = .ok (.iconst 0, 1) := by decide +kernel
theorem dX3_seatBest_1 : decode cX3_seatBest 1 = .ok (.istore_n 2, 1) := by decide +kernel
theorem dX3_seatBest_2 : decode cX3_seatBest 2 = .ok (.iconst 0, 1) := by decide +kernel
theorem dX3_seatBest_3 : decode cX3_seatBest 3 = .ok (.istore_n 3, 1) := by decide +kernel
theorem dX3_seatBest_4 : decode cX3_seatBest 4 = .ok (.aload_n 0, 1) := by decide +kernel
theorem dX3_seatBest_5 : decode cX3_seatBest 5 = .ok (.aload_n 0, 1) := by decide +kernel
theorem dX3_seatBest_6 : decode cX3_seatBest 6 = .ok (.getfield 12, 3) := by decide +kernel
theorem dX3_seatBest_9 : decode cX3_seatBest 9 = .ok (.getfield 107, 3) := by decide +kernel
theorem dX3_seatBest_12 : decode cX3_seatBest 12 = .ok (.invokevirtual 131, 3) := by decide +kernel
theorem dX3_seatBest_15 : decode cX3_seatBest 15 = .ok (.istore 4, 2) := by decide +kernel
theorem dX3_seatBest_17 : decode cX3_seatBest 17 = .ok (.iconst 0, 1) := by decide +kernel
theorem dX3_seatBest_18 : decode cX3_seatBest 18 = .ok (.istore 5, 2) := by decide +kernel
theorem dX3_seatBest_20 : decode cX3_seatBest 20 = .ok (.iconst 0, 1) := by decide +kernel
theorem dX3_seatBest_21 : decode cX3_seatBest 21 = .ok (.istore 6, 2) := by decide +kernel
theorem dX3_seatBest_23 : decode cX3_seatBest 23 = .ok (.iload 6, 2) := by decide +kernel
theorem dX3_seatBest_25 : decode cX3_seatBest 25 = .ok (.aload_n 0, 1) := by decide +kernel
theorem dX3_seatBest_26 : decode cX3_seatBest 26 = .ok (.getfield 12, 3) := by decide +kernel
theorem dX3_seatBest_29 : decode cX3_seatBest 29 = .ok (.getfield 60, 3) := by decide +kernel
theorem dX3_seatBest_32 : decode cX3_seatBest 32 = .ok (.if_icmp .ge 102, 3) := by decide +kernel
theorem dX3_seatBest_35 : decode cX3_seatBest 35 = .ok (.iload 6, 2) := by decide +kernel
theorem dX3_seatBest_37 : decode cX3_seatBest 37 = .ok (.iload 5, 2) := by decide +kernel
theorem dX3_seatBest_39 : decode cX3_seatBest 39 = .ok (.if_icmp .ge 6, 3) := by decide +kernel
theorem dX3_seatBest_42 : decode cX3_seatBest 42 = .ok (.goto 86, 3) := by decide +kernel
theorem dX3_seatBest_45 : decode cX3_seatBest 45 = .ok (.aload_n 0, 1) := by decide +kernel
theorem dX3_seatBest_46 : decode cX3_seatBest 46 = .ok (.iload 6, 2) := by decide +kernel
theorem dX3_seatBest_48 : decode cX3_seatBest 48 = .ok (.iload_n 2, 1) := by decide +kernel
theorem dX3_seatBest_49 : decode cX3_seatBest 49 = .ok (.iload_n 3, 1) := by decide +kernel
theorem dX3_seatBest_50 : decode cX3_seatBest 50 = .ok (.iload 4, 2) := by decide +kernel
theorem dX3_seatBest_52 : decode cX3_seatBest 52 = .ok (.invokevirtual 134, 3) := by decide +kernel
theorem dX3_seatBest_55 : decode cX3_seatBest 55 = .ok (.istore 7, 2) := by decide +kernel
theorem dX3_seatBest_57 : decode cX3_seatBest 57 = .ok (.iload 7, 2) := by decide +kernel
theorem dX3_seatBest_59 : decode cX3_seatBest 59 = .ok (.iconst (-1), 1) := by decide +kernel
theorem dX3_seatBest_60 : decode cX3_seatBest 60 = .ok (.if_icmp .ne 8, 3) := by decide +kernel
theorem dX3_seatBest_63 : decode cX3_seatBest 63 = .ok (.iconst 0, 1) := by decide +kernel
theorem dX3_seatBest_64 : decode cX3_seatBest 64 = .ok (.istore_n 3, 1) := by decide +kernel
theorem dX3_seatBest_65 : decode cX3_seatBest 65 = .ok (.goto 63, 3) := by decide +kernel
theorem dX3_seatBest_68 : decode cX3_seatBest 68 = .ok (.iload 7, 2) := by decide +kernel
theorem dX3_seatBest_70 : decode cX3_seatBest 70 = .ok (.bipush 24, 2) := by decide +kernel
theorem dX3_seatBest_72 : decode cX3_seatBest 72 = .ok (.imul, 1) := by decide +kernel
theorem dX3_seatBest_73 : decode cX3_seatBest 73 = .ok (.iload 6, 2) := by decide +kernel
theorem dX3_seatBest_75 : decode cX3_seatBest 75 = .ok (.iadd, 1) := by decide +kernel
theorem dX3_seatBest_76 : decode cX3_seatBest 76 = .ok (.istore 8, 2) := by decide +kernel
theorem dX3_seatBest_78 : decode cX3_seatBest 78 = .ok (.aload_n 1, 1) := by decide +kernel
theorem dX3_seatBest_79 : decode cX3_seatBest 79 = .ok (.iload 7, 2) := by decide +kernel
theorem dX3_seatBest_81 : decode cX3_seatBest 81 = .ok (.iload 6, 2) := by decide +kernel
theorem dX3_seatBest_83 : decode cX3_seatBest 83 = .ok (.invokevirtual 138, 3) := by decide +kernel
theorem dX3_seatBest_86 : decode cX3_seatBest 86 = .ok (.iload_n 2, 1) := by decide +kernel
theorem dX3_seatBest_87 : decode cX3_seatBest 87 = .ok (.iconst 1, 1) := by decide +kernel
theorem dX3_seatBest_88 : decode cX3_seatBest 88 = .ok (.iload 7, 2) := by decide +kernel
theorem dX3_seatBest_90 : decode cX3_seatBest 90 = .ok (.ishl, 1) := by decide +kernel
theorem dX3_seatBest_91 : decode cX3_seatBest 91 = .ok (.ior, 1) := by decide +kernel
theorem dX3_seatBest_92 : decode cX3_seatBest 92 = .ok (.istore_n 2, 1) := by decide +kernel
theorem dX3_seatBest_93 : decode cX3_seatBest 93 = .ok (.iload 4, 2) := by decide +kernel
theorem dX3_seatBest_95 : decode cX3_seatBest 95 = .ok (.aload_n 0, 1) := by decide +kernel
theorem dX3_seatBest_96 : decode cX3_seatBest 96 = .ok (.getfield 35, 3) := by decide +kernel
theorem dX3_seatBest_99 : decode cX3_seatBest 99 = .ok (.iload 8, 2) := by decide +kernel
theorem dX3_seatBest_101 : decode cX3_seatBest 101 = .ok (.iaload, 1) := by decide +kernel
theorem dX3_seatBest_102 : decode cX3_seatBest 102 = .ok (.isub, 1) := by decide +kernel
theorem dX3_seatBest_103 : decode cX3_seatBest 103 = .ok (.istore 4, 2) := by decide +kernel
theorem dX3_seatBest_105 : decode cX3_seatBest 105 = .ok (.aload_n 0, 1) := by decide +kernel
theorem dX3_seatBest_106 : decode cX3_seatBest 106 = .ok (.getfield 38, 3) := by decide +kernel
theorem dX3_seatBest_109 : decode cX3_seatBest 109 = .ok (.iload 8, 2) := by decide +kernel
theorem dX3_seatBest_111 : decode cX3_seatBest 111 = .ok (.iaload, 1) := by decide +kernel
theorem dX3_seatBest_112 : decode cX3_seatBest 112 = .ok (.istore_n 3, 1) := by decide +kernel
theorem dX3_seatBest_113 : decode cX3_seatBest 113 = .ok (.iload 6, 2) := by decide +kernel
theorem dX3_seatBest_115 : decode cX3_seatBest 115 = .ok (.aload_n 0, 1) := by decide +kernel
theorem dX3_seatBest_116 : decode cX3_seatBest 116 = .ok (.getfield 12, 3) := by decide +kernel
theorem dX3_seatBest_119 : decode cX3_seatBest 119 = .ok (.getfield 96, 3) := by decide +kernel
theorem dX3_seatBest_122 : decode cX3_seatBest 122 = .ok (.iload 7, 2) := by decide +kernel
theorem dX3_seatBest_124 : decode cX3_seatBest 124 = .ok (.iaload, 1) := by decide +kernel
theorem dX3_seatBest_125 : decode cX3_seatBest 125 = .ok (.iadd, 1) := by decide +kernel
theorem dX3_seatBest_126 : decode cX3_seatBest 126 = .ok (.istore 5, 2) := by decide +kernel
theorem dX3_seatBest_128 : decode cX3_seatBest 128 = .ok (.iinc 6 1, 3) := by decide +kernel
theorem dX3_seatBest_131 : decode cX3_seatBest 131 = .ok (.goto (-108), 3) := by decide +kernel
theorem dX3_seatBest_134 : decode cX3_seatBest 134 = .ok (.return_, 1) := by decide +kernel
theorem dX3_firstChoice_0 : decode cX3_firstChoice 0 = .ok (.aload_n 0, 1) := by decide +kernel
theorem dX3_firstChoice_1 : decode cX3_firstChoice 1 = .ok (.getfield 18, 3) := by decide +kernel
theorem dX3_firstChoice_4 : decode cX3_firstChoice 4 = .ok (.aload_n 0, 1) := by decide +kernel
theorem dX3_firstChoice_5 : decode cX3_firstChoice 5 = .ok (.iload_n 1, 1) := by decide +kernel
theorem dX3_firstChoice_6 : decode cX3_firstChoice 6 = .ok (.iload_n 2, 1) := by decide +kernel
theorem dX3_firstChoice_7 : decode cX3_firstChoice 7 = .ok (.iload_n 3, 1) := by decide +kernel
theorem dX3_firstChoice_8 : decode cX3_firstChoice 8 = .ok (.invokevirtual 67, 3) := by decide +kernel
theorem dX3_firstChoice_11 : decode cX3_firstChoice 11 = .ok (.iload 4, 2) := by decide +kernel
theorem dX3_firstChoice_13 : decode cX3_firstChoice 13 = .ok (.iadd, 1) := by decide +kernel
theorem dX3_firstChoice_14 : decode cX3_firstChoice 14 = .ok (.iaload, 1) := by decide +kernel
theorem dX3_firstChoice_15 : decode cX3_firstChoice 15 = .ok (.istore 5, 2) := by decide +kernel
theorem dX3_firstChoice_17 : decode cX3_firstChoice 17 = .ok (.iconst 0, 1) := by decide +kernel
theorem dX3_firstChoice_18 : decode cX3_firstChoice 18 = .ok (.istore 6, 2) := by decide +kernel
theorem dX3_firstChoice_20 : decode cX3_firstChoice 20 = .ok (.iload 6, 2) := by decide +kernel
theorem dX3_firstChoice_22 : decode cX3_firstChoice 22 = .ok (.aload_n 0, 1) := by decide +kernel
theorem dX3_firstChoice_23 : decode cX3_firstChoice 23 = .ok (.getfield 12, 3) := by decide +kernel
theorem dX3_firstChoice_26 : decode cX3_firstChoice 26 = .ok (.getfield 51, 3) := by decide +kernel
theorem dX3_firstChoice_29 : decode cX3_firstChoice 29 = .ok (.if_icmp .ge 91, 3) := by decide +kernel
theorem dX3_firstChoice_32 : decode cX3_firstChoice 32 = .ok (.iload 6, 2) := by decide +kernel
theorem dX3_firstChoice_34 : decode cX3_firstChoice 34 = .ok (.bipush 24, 2) := by decide +kernel
theorem dX3_firstChoice_36 : decode cX3_firstChoice 36 = .ok (.imul, 1) := by decide +kernel
theorem dX3_firstChoice_37 : decode cX3_firstChoice 37 = .ok (.iload_n 1, 1) := by decide +kernel
theorem dX3_firstChoice_38 : decode cX3_firstChoice 38 = .ok (.iadd, 1) := by decide +kernel
theorem dX3_firstChoice_39 : decode cX3_firstChoice 39 = .ok (.istore 7, 2) := by decide +kernel
theorem dX3_firstChoice_41 : decode cX3_firstChoice 41 = .ok (.aload_n 0, 1) := by decide +kernel
theorem dX3_firstChoice_42 : decode cX3_firstChoice 42 = .ok (.iload 6, 2) := by decide +kernel
theorem dX3_firstChoice_44 : decode cX3_firstChoice 44 = .ok (.iload_n 1, 1) := by decide +kernel
theorem dX3_firstChoice_45 : decode cX3_firstChoice 45 = .ok (.iload_n 2, 1) := by decide +kernel
theorem dX3_firstChoice_46 : decode cX3_firstChoice 46 = .ok (.invokevirtual 117, 3) := by decide +kernel
theorem dX3_firstChoice_49 : decode cX3_firstChoice 49 = .ok (.ifCond .eq 65, 3) := by decide +kernel
theorem dX3_firstChoice_52 : decode cX3_firstChoice 52 = .ok (.aload_n 0, 1) := by decide +kernel
theorem dX3_firstChoice_53 : decode cX3_firstChoice 53 = .ok (.iload 6, 2) := by decide +kernel
theorem dX3_firstChoice_55 : decode cX3_firstChoice 55 = .ok (.iload_n 3, 1) := by decide +kernel
theorem dX3_firstChoice_56 : decode cX3_firstChoice 56 = .ok (.invokevirtual 128, 3) := by decide +kernel
theorem dX3_firstChoice_59 : decode cX3_firstChoice 59 = .ok (.ifCond .ne 55, 3) := by decide +kernel
theorem dX3_firstChoice_62 : decode cX3_firstChoice 62 = .ok (.aload_n 0, 1) := by decide +kernel
theorem dX3_firstChoice_63 : decode cX3_firstChoice 63 = .ok (.getfield 35, 3) := by decide +kernel
theorem dX3_firstChoice_66 : decode cX3_firstChoice 66 = .ok (.iload 7, 2) := by decide +kernel
theorem dX3_firstChoice_68 : decode cX3_firstChoice 68 = .ok (.iaload, 1) := by decide +kernel
theorem dX3_firstChoice_69 : decode cX3_firstChoice 69 = .ok (.iload 4, 2) := by decide +kernel
theorem dX3_firstChoice_71 : decode cX3_firstChoice 71 = .ok (.if_icmp .gt 43, 3) := by decide +kernel
theorem dX3_firstChoice_74 : decode cX3_firstChoice 74 = .ok (.aload_n 0, 1) := by decide +kernel
theorem dX3_firstChoice_75 : decode cX3_firstChoice 75 = .ok (.getfield 32, 3) := by decide +kernel
theorem dX3_firstChoice_78 : decode cX3_firstChoice 78 = .ok (.iload 7, 2) := by decide +kernel
theorem dX3_firstChoice_80 : decode cX3_firstChoice 80 = .ok (.iaload, 1) := by decide +kernel
theorem dX3_firstChoice_81 : decode cX3_firstChoice 81 = .ok (.aload_n 0, 1) := by decide +kernel
theorem dX3_firstChoice_82 : decode cX3_firstChoice 82 = .ok (.getfield 18, 3) := by decide +kernel
theorem dX3_firstChoice_85 : decode cX3_firstChoice 85 = .ok (.aload_n 0, 1) := by decide +kernel
theorem dX3_firstChoice_86 : decode cX3_firstChoice 86 = .ok (.iload 6, 2) := by decide +kernel
theorem dX3_firstChoice_88 : decode cX3_firstChoice 88 = .ok (.iload_n 1, 1) := by decide +kernel
theorem dX3_firstChoice_89 : decode cX3_firstChoice 89 = .ok (.iload_n 2, 1) := by decide +kernel
theorem dX3_firstChoice_90 : decode cX3_firstChoice 90 = .ok (.invokevirtual 125, 3) := by decide +kernel
theorem dX3_firstChoice_93 : decode cX3_firstChoice 93 = .ok (.iload 4, 2) := by decide +kernel
theorem dX3_firstChoice_95 : decode cX3_firstChoice 95 = .ok (.iadd, 1) := by decide +kernel
theorem dX3_firstChoice_96 : decode cX3_firstChoice 96 = .ok (.aload_n 0, 1) := by decide +kernel
theorem dX3_firstChoice_97 : decode cX3_firstChoice 97 = .ok (.getfield 35, 3) := by decide +kernel
theorem dX3_firstChoice_100 : decode cX3_firstChoice 100 = .ok (.iload 7, 2) := by decide +kernel
theorem dX3_firstChoice_102 : decode cX3_firstChoice 102 = .ok (.iaload, 1) := by decide +kernel
theorem dX3_firstChoice_103 : decode cX3_firstChoice 103 = .ok (.isub, 1) := by decide +kernel
theorem dX3_firstChoice_104 : decode cX3_firstChoice 104 = .ok (.iaload, 1) := by decide +kernel
theorem dX3_firstChoice_105 : decode cX3_firstChoice 105 = .ok (.iadd, 1) := by decide +kernel
theorem dX3_firstChoice_106 : decode cX3_firstChoice 106 = .ok (.iload 5, 2) := by decide +kernel
theorem dX3_firstChoice_108 : decode cX3_firstChoice 108 = .ok (.if_icmp .ne 6, 3) := by decide +kernel
theorem dX3_firstChoice_111 : decode cX3_firstChoice 111 = .ok (.iload 6, 2) := by decide +kernel
theorem dX3_firstChoice_113 : decode cX3_firstChoice 113 = .ok (.ireturn, 1) := by decide +kernel
theorem dX3_firstChoice_114 : decode cX3_firstChoice 114 = .ok (.iinc 6 1, 3) := by decide +kernel
theorem dX3_firstChoice_117 : decode cX3_firstChoice 117 = .ok (.goto (-97), 3) := by decide +kernel
theorem dX3_firstChoice_120 : decode cX3_firstChoice 120 = .ok (.iconst (-1), 1) := by decide +kernel
theorem dX3_firstChoice_121 : decode cX3_firstChoice 121 = .ok (.ireturn, 1) := by decide +kernel
theorem dX3_dearestRent_0 : decode cX3_dearestRent 0 = .ok (.aload_n 0, 1) := by decide +kernel
theorem dX3_dearestRent_1 : decode cX3_dearestRent 1 = .ok (.iload_n 1, 1) := by decide +kernel
theorem dX3_dearestRent_2 : decode cX3_dearestRent 2 = .ok (.iload_n 1, 1) := by decide +kernel
theorem dX3_dearestRent_3 : decode cX3_dearestRent 3 = .ok (.iconst 1, 1) := by decide +kernel
theorem dX3_dearestRent_4 : decode cX3_dearestRent 4 = .ok (.iadd, 1) := by decide +kernel
theorem dX3_dearestRent_5 : decode cX3_dearestRent 5 = .ok (.iconst (-1), 1) := by decide +kernel
theorem dX3_dearestRent_6 : decode cX3_dearestRent 6 = .ok (.aload_n 0, 1) := by decide +kernel
theorem dX3_dearestRent_7 : decode cX3_dearestRent 7 = .ok (.getfield 12, 3) := by decide +kernel
theorem dX3_dearestRent_10 : decode cX3_dearestRent 10 = .ok (.getfield 107, 3) := by decide +kernel
theorem dX3_dearestRent_13 : decode cX3_dearestRent 13 = .ok (.aload_n 2, 1) := by decide +kernel
theorem dX3_dearestRent_14 : decode cX3_dearestRent 14 = .ok (.invokevirtual 141, 3) := by decide +kernel
theorem dX3_dearestRent_17 : decode cX3_dearestRent 17 = .ok (.bipush 16, 2) := by decide +kernel
theorem dX3_dearestRent_19 : decode cX3_dearestRent 19 = .ok (.idiv, 1) := by decide +kernel
theorem dX3_dearestRent_20 : decode cX3_dearestRent 20 = .ok (.istore_n 3, 1) := by decide +kernel
theorem dX3_dearestRent_21 : decode cX3_dearestRent 21 = .ok (.iconst 1, 1) := by decide +kernel
theorem dX3_dearestRent_22 : decode cX3_dearestRent 22 = .ok (.istore 4, 2) := by decide +kernel
theorem dX3_dearestRent_24 : decode cX3_dearestRent 24 = .ok (.iconst 0, 1) := by decide +kernel
theorem dX3_dearestRent_25 : decode cX3_dearestRent 25 = .ok (.istore 5, 2) := by decide +kernel
theorem dX3_dearestRent_27 : decode cX3_dearestRent 27 = .ok (.iload 5, 2) := by decide +kernel
theorem dX3_dearestRent_29 : decode cX3_dearestRent 29 = .ok (.aload_n 0, 1) := by decide +kernel
theorem dX3_dearestRent_30 : decode cX3_dearestRent 30 = .ok (.getfield 12, 3) := by decide +kernel
theorem dX3_dearestRent_33 : decode cX3_dearestRent 33 = .ok (.getfield 51, 3) := by decide +kernel
theorem dX3_dearestRent_36 : decode cX3_dearestRent 36 = .ok (.if_icmp .ge 198, 3) := by decide +kernel
theorem dX3_dearestRent_39 : decode cX3_dearestRent 39 = .ok (.iload_n 1, 1) := by decide +kernel
theorem dX3_dearestRent_40 : decode cX3_dearestRent 40 = .ok (.aload_n 0, 1) := by decide +kernel
theorem dX3_dearestRent_41 : decode cX3_dearestRent 41 = .ok (.getfield 12, 3) := by decide +kernel
theorem dX3_dearestRent_44 : decode cX3_dearestRent 44 = .ok (.getfield 96, 3) := by decide +kernel
theorem dX3_dearestRent_47 : decode cX3_dearestRent 47 = .ok (.iload 5, 2) := by decide +kernel
theorem dX3_dearestRent_49 : decode cX3_dearestRent 49 = .ok (.iaload, 1) := by decide +kernel
theorem dX3_dearestRent_50 : decode cX3_dearestRent 50 = .ok (.isub, 1) := by decide +kernel
theorem dX3_dearestRent_51 : decode cX3_dearestRent 51 = .ok (.iconst 1, 1) := by decide +kernel
theorem dX3_dearestRent_52 : decode cX3_dearestRent 52 = .ok (.iadd, 1) := by decide +kernel
theorem dX3_dearestRent_53 : decode cX3_dearestRent 53 = .ok (.istore 6, 2) := by decide +kernel
theorem dX3_dearestRent_55 : decode cX3_dearestRent 55 = .ok (.iload 6, 2) := by decide +kernel
theorem dX3_dearestRent_57 : decode cX3_dearestRent 57 = .ok (.iload_n 1, 1) := by decide +kernel
theorem dX3_dearestRent_58 : decode cX3_dearestRent 58 = .ok (.if_icmp .gt 170, 3) := by decide +kernel
theorem dX3_dearestRent_61 : decode cX3_dearestRent 61 = .ok (.aload_n 0, 1) := by decide +kernel
theorem dX3_dearestRent_62 : decode cX3_dearestRent 62 = .ok (.getfield 12, 3) := by decide +kernel
theorem dX3_dearestRent_65 : decode cX3_dearestRent 65 = .ok (.iload 5, 2) := by decide +kernel
theorem dX3_dearestRent_67 : decode cX3_dearestRent 67 = .ok (.iload 6, 2) := by decide +kernel
theorem dX3_dearestRent_69 : decode cX3_dearestRent 69 = .ok (.invokevirtual 83, 3) := by decide +kernel
theorem dX3_dearestRent_72 : decode cX3_dearestRent 72 = .ok (.ifCond .ne 6, 3) := by decide +kernel
theorem dX3_dearestRent_75 : decode cX3_dearestRent 75 = .ok (.goto 147, 3) := by decide +kernel
theorem dX3_dearestRent_78 : decode cX3_dearestRent 78 = .ok (.aload_n 0, 1) := by decide +kernel
theorem dX3_dearestRent_79 : decode cX3_dearestRent 79 = .ok (.getfield 12, 3) := by decide +kernel
theorem dX3_dearestRent_82 : decode cX3_dearestRent 82 = .ok (.iload 5, 2) := by decide +kernel
theorem dX3_dearestRent_84 : decode cX3_dearestRent 84 = .ok (.iload 6, 2) := by decide +kernel
theorem dX3_dearestRent_86 : decode cX3_dearestRent 86 = .ok (.invokevirtual 89, 3) := by decide +kernel
theorem dX3_dearestRent_89 : decode cX3_dearestRent 89 = .ok (.aload_n 0, 1) := by decide +kernel
theorem dX3_dearestRent_90 : decode cX3_dearestRent 90 = .ok (.getfield 12, 3) := by decide +kernel
theorem dX3_dearestRent_93 : decode cX3_dearestRent 93 = .ok (.getfield 145, 3) := by decide +kernel
theorem dX3_dearestRent_96 : decode cX3_dearestRent 96 = .ok (.iload_n 1, 1) := by decide +kernel
theorem dX3_dearestRent_97 : decode cX3_dearestRent 97 = .ok (.iaload, 1) := by decide +kernel
theorem dX3_dearestRent_98 : decode cX3_dearestRent 98 = .ok (.isub, 1) := by decide +kernel
theorem dX3_dearestRent_99 : decode cX3_dearestRent 99 = .ok (.istore 7, 2) := by decide +kernel
theorem dX3_dearestRent_101 : decode cX3_dearestRent 101 = .ok (.aload_n 0, 1) := by decide +kernel
theorem dX3_dearestRent_102 : decode cX3_dearestRent 102 = .ok (.getfield 12, 3) := by decide +kernel
theorem dX3_dearestRent_105 : decode cX3_dearestRent 105 = .ok (.getfield 148, 3) := by decide +kernel
theorem dX3_dearestRent_108 : decode cX3_dearestRent 108 = .ok (.iload 5, 2) := by decide +kernel
theorem dX3_dearestRent_110 : decode cX3_dearestRent 110 = .ok (.iaload, 1) := by decide +kernel
theorem dX3_dearestRent_111 : decode cX3_dearestRent 111 = .ok (.iload 7, 2) := by decide +kernel
theorem dX3_dearestRent_113 : decode cX3_dearestRent 113 = .ok (.isub, 1) := by decide +kernel
theorem dX3_dearestRent_114 : decode cX3_dearestRent 114 = .ok (.sipush 999, 3) := by decide +kernel
theorem dX3_dearestRent_117 : decode cX3_dearestRent 117 = .ok (.invokestatic 110, 3) := by decide +kernel
theorem dX3_dearestRent_120 : decode cX3_dearestRent 120 = .ok (.istore 8, 2) := by decide +kernel
theorem dX3_dearestRent_122 : decode cX3_dearestRent 122 = .ok (.aload_n 0, 1) := by decide +kernel
theorem dX3_dearestRent_123 : decode cX3_dearestRent 123 = .ok (.getfield 12, 3) := by decide +kernel
theorem dX3_dearestRent_126 : decode cX3_dearestRent 126 = .ok (.getfield 107, 3) := by decide +kernel
theorem dX3_dearestRent_129 : decode cX3_dearestRent 129 = .ok (.aload_n 0, 1) := by decide +kernel
theorem dX3_dearestRent_130 : decode cX3_dearestRent 130 = .ok (.getfield 12, 3) := by decide +kernel
theorem dX3_dearestRent_133 : decode cX3_dearestRent 133 = .ok (.iload 5, 2) := by decide +kernel
theorem dX3_dearestRent_135 : decode cX3_dearestRent 135 = .ok (.iload 6, 2) := by decide +kernel
theorem dX3_dearestRent_137 : decode cX3_dearestRent 137 = .ok (.invokevirtual 93, 3) := by decide +kernel
theorem dX3_dearestRent_140 : decode cX3_dearestRent 140 = .ok (.isub, 1) := by decide +kernel
theorem dX3_dearestRent_141 : decode cX3_dearestRent 141 = .ok (.istore 9, 2) := by decide +kernel
theorem dX3_dearestRent_143 : decode cX3_dearestRent 143 = .ok (.iload 8, 2) := by decide +kernel
theorem dX3_dearestRent_145 : decode cX3_dearestRent 145 = .ok (.iconst 1, 1) := by decide +kernel
theorem dX3_dearestRent_146 : decode cX3_dearestRent 146 = .ok (.if_icmp .lt 76, 3) := by decide +kernel
theorem dX3_dearestRent_149 : decode cX3_dearestRent 149 = .ok (.iload 9, 2) := by decide +kernel
theorem dX3_dearestRent_151 : decode cX3_dearestRent 151 = .ok (.ifCond .ge 6, 3) := by decide +kernel
theorem dX3_dearestRent_154 : decode cX3_dearestRent 154 = .ok (.goto 68, 3) := by decide +kernel
theorem dX3_dearestRent_157 : decode cX3_dearestRent 157 = .ok (.iload 6, 2) := by decide +kernel
theorem dX3_dearestRent_159 : decode cX3_dearestRent 159 = .ok (.aload_n 0, 1) := by decide +kernel
theorem dX3_dearestRent_160 : decode cX3_dearestRent 160 = .ok (.getfield 12, 3) := by decide +kernel
theorem dX3_dearestRent_163 : decode cX3_dearestRent 163 = .ok (.getfield 96, 3) := by decide +kernel
theorem dX3_dearestRent_166 : decode cX3_dearestRent 166 = .ok (.iload 5, 2) := by decide +kernel
theorem dX3_dearestRent_168 : decode cX3_dearestRent 168 = .ok (.iaload, 1) := by decide +kernel
theorem dX3_dearestRent_169 : decode cX3_dearestRent 169 = .ok (.iadd, 1) := by decide +kernel
theorem dX3_dearestRent_170 : decode cX3_dearestRent 170 = .ok (.istore 10, 2) := by decide +kernel
theorem dX3_dearestRent_172 : decode cX3_dearestRent 172 = .ok (.aload_n 0, 1) := by decide +kernel
theorem dX3_dearestRent_173 : decode cX3_dearestRent 173 = .ok (.iload 6, 2) := by decide +kernel
theorem dX3_dearestRent_175 : decode cX3_dearestRent 175 = .ok (.iload 10, 2) := by decide +kernel
theorem dX3_dearestRent_177 : decode cX3_dearestRent 177 = .ok (.iload 5, 2) := by decide +kernel
theorem dX3_dearestRent_179 : decode cX3_dearestRent 179 = .ok (.iload 9, 2) := by decide +kernel
theorem dX3_dearestRent_181 : decode cX3_dearestRent 181 = .ok (.aload_n 2, 1) := by decide +kernel
theorem dX3_dearestRent_182 : decode cX3_dearestRent 182 = .ok (.invokevirtual 141, 3) := by decide +kernel
theorem dX3_dearestRent_185 : decode cX3_dearestRent 185 = .ok (.bipush 16, 2) := by decide +kernel
theorem dX3_dearestRent_187 : decode cX3_dearestRent 187 = .ok (.idiv, 1) := by decide +kernel
theorem dX3_dearestRent_188 : decode cX3_dearestRent 188 = .ok (.iload 7, 2) := by decide +kernel
theorem dX3_dearestRent_190 : decode cX3_dearestRent 190 = .ok (.iadd, 1) := by decide +kernel
theorem dX3_dearestRent_191 : decode cX3_dearestRent 191 = .ok (.iload 8, 2) := by decide +kernel
theorem dX3_dearestRent_193 : decode cX3_dearestRent 193 = .ok (.iadd, 1) := by decide +kernel
theorem dX3_dearestRent_194 : decode cX3_dearestRent 194 = .ok (.istore 11, 2) := by decide +kernel
theorem dX3_dearestRent_196 : decode cX3_dearestRent 196 = .ok (.iload 11, 2) := by decide +kernel
theorem dX3_dearestRent_198 : decode cX3_dearestRent 198 = .ok (.iload_n 3, 1) := by decide +kernel
theorem dX3_dearestRent_199 : decode cX3_dearestRent 199 = .ok (.if_icmp .gt 16, 3) := by decide +kernel
theorem dX3_dearestRent_202 : decode cX3_dearestRent 202 = .ok (.iload 11, 2) := by decide +kernel
theorem dX3_dearestRent_204 : decode cX3_dearestRent 204 = .ok (.iload_n 3, 1) := by decide +kernel
theorem dX3_dearestRent_205 : decode cX3_dearestRent 205 = .ok (.if_icmp .ne 17, 3) := by decide +kernel
theorem dX3_dearestRent_208 : decode cX3_dearestRent 208 = .ok (.iload 8, 2) := by decide +kernel
theorem dX3_dearestRent_210 : decode cX3_dearestRent 210 = .ok (.iload 4, 2) := by decide +kernel
theorem dX3_dearestRent_212 : decode cX3_dearestRent 212 = .ok (.if_icmp .ge 10, 3) := by decide +kernel
theorem dX3_dearestRent_215 : decode cX3_dearestRent 215 = .ok (.iload 11, 2) := by decide +kernel
theorem dX3_dearestRent_217 : decode cX3_dearestRent 217 = .ok (.istore_n 3, 1) := by decide +kernel
theorem dX3_dearestRent_218 : decode cX3_dearestRent 218 = .ok (.iload 8, 2) := by decide +kernel
theorem dX3_dearestRent_220 : decode cX3_dearestRent 220 = .ok (.istore 4, 2) := by decide +kernel
theorem dX3_dearestRent_222 : decode cX3_dearestRent 222 = .ok (.iinc 6 1, 3) := by decide +kernel
theorem dX3_dearestRent_225 : decode cX3_dearestRent 225 = .ok (.goto (-170), 3) := by decide +kernel
theorem dX3_dearestRent_228 : decode cX3_dearestRent 228 = .ok (.iinc 5 1, 3) := by decide +kernel
theorem dX3_dearestRent_231 : decode cX3_dearestRent 231 = .ok (.goto (-204), 3) := by decide +kernel
theorem dX3_dearestRent_234 : decode cX3_dearestRent 234 = .ok (.iload 4, 2) := by decide +kernel
theorem dX3_dearestRent_236 : decode cX3_dearestRent 236 = .ok (.ireturn, 1) := by decide +kernel
theorem dX3_worthAround_0 : decode cX3_worthAround 0 = .ok (.iload_n 3, 1) := by decide +kernel
theorem dX3_worthAround_1 : decode cX3_worthAround 1 = .ok (.iconst (-1), 1) := by decide +kernel
theorem dX3_worthAround_2 : decode cX3_worthAround 2 = .ok (.if_icmp .ne 7, 3) := by decide +kernel
theorem dX3_worthAround_5 : decode cX3_worthAround 5 = .ok (.iconst 0, 1) := by decide +kernel
theorem dX3_worthAround_6 : decode cX3_worthAround 6 = .ok (.goto 6, 3) := by decide +kernel
theorem dX3_worthAround_9 : decode cX3_worthAround 9 = .ok (.iconst 1, 1) := by decide +kernel
theorem dX3_worthAround_10 : decode cX3_worthAround 10 = .ok (.iload_n 3, 1) := by decide +kernel
theorem dX3_worthAround_11 : decode cX3_worthAround 11 = .ok (.ishl, 1) := by decide +kernel
theorem dX3_worthAround_12 : decode cX3_worthAround 12 = .ok (.istore 6, 2) := by decide +kernel
theorem dX3_worthAround_14 : decode cX3_worthAround 14 = .ok (.iload_n 3, 1) := by decide +kernel
theorem dX3_worthAround_15 : decode cX3_worthAround 15 = .ok (.iconst (-1), 1) := by decide +kernel
theorem dX3_worthAround_16 : decode cX3_worthAround 16 = .ok (.if_icmp .ne 7, 3) := by decide +kernel
theorem dX3_worthAround_19 : decode cX3_worthAround 19 = .ok (.iconst 0, 1) := by decide +kernel
theorem dX3_worthAround_20 : decode cX3_worthAround 20 = .ok (.goto 12, 3) := by decide +kernel
theorem dX3_worthAround_23 : decode cX3_worthAround 23 = .ok (.aload_n 0, 1) := by decide +kernel
theorem dX3_worthAround_24 : decode cX3_worthAround 24 = .ok (.iload_n 3, 1) := by decide +kernel
theorem dX3_worthAround_25 : decode cX3_worthAround 25 = .ok (.iload_n 1, 1) := by decide +kernel
theorem dX3_worthAround_26 : decode cX3_worthAround 26 = .ok (.iconst 1, 1) := by decide +kernel
theorem dX3_worthAround_27 : decode cX3_worthAround 27 = .ok (.isub, 1) := by decide +kernel
theorem dX3_worthAround_28 : decode cX3_worthAround 28 = .ok (.iload_n 1, 1) := by decide +kernel
theorem dX3_worthAround_29 : decode cX3_worthAround 29 = .ok (.invokevirtual 99, 3) := by decide +kernel
theorem dX3_worthAround_32 : decode cX3_worthAround 32 = .ok (.istore 7, 2) := by decide +kernel
theorem dX3_worthAround_34 : decode cX3_worthAround 34 = .ok (.iload_n 3, 1) := by decide +kernel
theorem dX3_worthAround_35 : decode cX3_worthAround 35 = .ok (.iconst (-1), 1) := by decide +kernel
theorem dX3_worthAround_36 : decode cX3_worthAround 36 = .ok (.if_icmp .ne 7, 3) := by decide +kernel
theorem dX3_worthAround_39 : decode cX3_worthAround 39 = .ok (.iconst 0, 1) := by decide +kernel
theorem dX3_worthAround_40 : decode cX3_worthAround 40 = .ok (.goto 12, 3) := by decide +kernel
theorem dX3_worthAround_43 : decode cX3_worthAround 43 = .ok (.aload_n 0, 1) := by decide +kernel
theorem dX3_worthAround_44 : decode cX3_worthAround 44 = .ok (.iload_n 3, 1) := by decide +kernel
theorem dX3_worthAround_45 : decode cX3_worthAround 45 = .ok (.iload_n 2, 1) := by decide +kernel
theorem dX3_worthAround_46 : decode cX3_worthAround 46 = .ok (.iconst 1, 1) := by decide +kernel
theorem dX3_worthAround_47 : decode cX3_worthAround 47 = .ok (.isub, 1) := by decide +kernel
theorem dX3_worthAround_48 : decode cX3_worthAround 48 = .ok (.iload_n 2, 1) := by decide +kernel
theorem dX3_worthAround_49 : decode cX3_worthAround 49 = .ok (.invokevirtual 99, 3) := by decide +kernel
theorem dX3_worthAround_52 : decode cX3_worthAround 52 = .ok (.istore 8, 2) := by decide +kernel
theorem dX3_worthAround_54 : decode cX3_worthAround 54 = .ok (.iconst 0, 1) := by decide +kernel
theorem dX3_worthAround_55 : decode cX3_worthAround 55 = .ok (.istore 9, 2) := by decide +kernel
theorem dX3_worthAround_57 : decode cX3_worthAround 57 = .ok (.iconst 0, 1) := by decide +kernel
theorem dX3_worthAround_58 : decode cX3_worthAround 58 = .ok (.istore 10, 2) := by decide +kernel
theorem dX3_worthAround_60 : decode cX3_worthAround 60 = .ok (.iload 10, 2) := by decide +kernel
theorem dX3_worthAround_62 : decode cX3_worthAround 62 = .ok (.aload_n 0, 1) := by decide +kernel
theorem dX3_worthAround_63 : decode cX3_worthAround 63 = .ok (.getfield 22, 3) := by decide +kernel
theorem dX3_worthAround_66 : decode cX3_worthAround 66 = .ok (.if_icmp .ge 122, 3) := by decide +kernel
theorem dX3_worthAround_69 : decode cX3_worthAround 69 = .ok (.iload 10, 2) := by decide +kernel
theorem dX3_worthAround_71 : decode cX3_worthAround 71 = .ok (.iload 6, 2) := by decide +kernel
theorem dX3_worthAround_73 : decode cX3_worthAround 73 = .ok (.iand, 1) := by decide +kernel
theorem dX3_worthAround_74 : decode cX3_worthAround 74 = .ok (.ifCond .eq 6, 3) := by decide +kernel
theorem dX3_worthAround_77 : decode cX3_worthAround 77 = .ok (.goto 105, 3) := by decide +kernel
theorem dX3_worthAround_80 : decode cX3_worthAround 80 = .ok (.aload 5, 2) := by decide +kernel
theorem dX3_worthAround_82 : decode cX3_worthAround 82 = .ok (.aload_n 0, 1) := by decide +kernel
theorem dX3_worthAround_83 : decode cX3_worthAround 83 = .ok (.getfield 12, 3) := by decide +kernel
theorem dX3_worthAround_86 : decode cX3_worthAround 86 = .ok (.getfield 60, 3) := by decide +kernel
theorem dX3_worthAround_89 : decode cX3_worthAround 89 = .ok (.iload_n 1, 1) := by decide +kernel
theorem dX3_worthAround_90 : decode cX3_worthAround 90 = .ok (.isub, 1) := by decide +kernel
theorem dX3_worthAround_91 : decode cX3_worthAround 91 = .ok (.aload_n 0, 1) := by decide +kernel
theorem dX3_worthAround_92 : decode cX3_worthAround 92 = .ok (.getfield 22, 3) := by decide +kernel
theorem dX3_worthAround_95 : decode cX3_worthAround 95 = .ok (.iconst 1, 1) := by decide +kernel
theorem dX3_worthAround_96 : decode cX3_worthAround 96 = .ok (.isub, 1) := by decide +kernel
theorem dX3_worthAround_97 : decode cX3_worthAround 97 = .ok (.iload 10, 2) := by decide +kernel
theorem dX3_worthAround_99 : decode cX3_worthAround 99 = .ok (.isub, 1) := by decide +kernel
theorem dX3_worthAround_100 : decode cX3_worthAround 100 = .ok (.iload 7, 2) := by decide +kernel
theorem dX3_worthAround_102 : decode cX3_worthAround 102 = .ok (.invokevirtual 67, 3) := by decide +kernel
theorem dX3_worthAround_105 : decode cX3_worthAround 105 = .ok (.istore 11, 2) := by decide +kernel
theorem dX3_worthAround_107 : decode cX3_worthAround 107 = .ok (.aload_n 0, 1) := by decide +kernel
theorem dX3_worthAround_108 : decode cX3_worthAround 108 = .ok (.iload_n 2, 1) := by decide +kernel
theorem dX3_worthAround_109 : decode cX3_worthAround 109 = .ok (.iload 10, 2) := by decide +kernel
theorem dX3_worthAround_111 : decode cX3_worthAround 111 = .ok (.iload 6, 2) := by decide +kernel
theorem dX3_worthAround_113 : decode cX3_worthAround 113 = .ok (.ior, 1) := by decide +kernel
theorem dX3_worthAround_114 : decode cX3_worthAround 114 = .ok (.iload 8, 2) := by decide +kernel
theorem dX3_worthAround_116 : decode cX3_worthAround 116 = .ok (.invokevirtual 67, 3) := by decide +kernel
theorem dX3_worthAround_119 : decode cX3_worthAround 119 = .ok (.istore 12, 2) := by decide +kernel
theorem dX3_worthAround_121 : decode cX3_worthAround 121 = .ok (.iconst 0, 1) := by decide +kernel
theorem dX3_worthAround_122 : decode cX3_worthAround 122 = .ok (.istore 13, 2) := by decide +kernel
theorem dX3_worthAround_124 : decode cX3_worthAround 124 = .ok (.iload 13, 2) := by decide +kernel
theorem dX3_worthAround_126 : decode cX3_worthAround 126 = .ok (.iload 4, 2) := by decide +kernel
theorem dX3_worthAround_128 : decode cX3_worthAround 128 = .ok (.if_icmp .gt 54, 3) := by decide +kernel
theorem dX3_worthAround_131 : decode cX3_worthAround 131 = .ok (.aload 5, 2) := by decide +kernel
theorem dX3_worthAround_133 : decode cX3_worthAround 133 = .ok (.getfield 18, 3) := by decide +kernel
theorem dX3_worthAround_136 : decode cX3_worthAround 136 = .ok (.iload 11, 2) := by decide +kernel
theorem dX3_worthAround_138 : decode cX3_worthAround 138 = .ok (.aload 5, 2) := by decide +kernel
theorem dX3_worthAround_140 : decode cX3_worthAround 140 = .ok (.iload 13, 2) := by decide +kernel
theorem dX3_worthAround_142 : decode cX3_worthAround 142 = .ok (.invokevirtual 131, 3) := by decide +kernel
theorem dX3_worthAround_145 : decode cX3_worthAround 145 = .ok (.iadd, 1) := by decide +kernel
theorem dX3_worthAround_146 : decode cX3_worthAround 146 = .ok (.iaload, 1) := by decide +kernel
theorem dX3_worthAround_147 : decode cX3_worthAround 147 = .ok (.aload_n 0, 1) := by decide +kernel
theorem dX3_worthAround_148 : decode cX3_worthAround 148 = .ok (.getfield 18, 3) := by decide +kernel
theorem dX3_worthAround_151 : decode cX3_worthAround 151 = .ok (.iload 12, 2) := by decide +kernel
theorem dX3_worthAround_153 : decode cX3_worthAround 153 = .ok (.aload_n 0, 1) := by decide +kernel
theorem dX3_worthAround_154 : decode cX3_worthAround 154 = .ok (.iload 4, 2) := by decide +kernel
theorem dX3_worthAround_156 : decode cX3_worthAround 156 = .ok (.iload 13, 2) := by decide +kernel
theorem dX3_worthAround_158 : decode cX3_worthAround 158 = .ok (.isub, 1) := by decide +kernel
theorem dX3_worthAround_159 : decode cX3_worthAround 159 = .ok (.invokevirtual 131, 3) := by decide +kernel
theorem dX3_worthAround_162 : decode cX3_worthAround 162 = .ok (.iadd, 1) := by decide +kernel
theorem dX3_worthAround_163 : decode cX3_worthAround 163 = .ok (.iaload, 1) := by decide +kernel
theorem dX3_worthAround_164 : decode cX3_worthAround 164 = .ok (.iadd, 1) := by decide +kernel
theorem dX3_worthAround_165 : decode cX3_worthAround 165 = .ok (.istore 14, 2) := by decide +kernel
theorem dX3_worthAround_167 : decode cX3_worthAround 167 = .ok (.iload 9, 2) := by decide +kernel
theorem dX3_worthAround_169 : decode cX3_worthAround 169 = .ok (.iload 14, 2) := by decide +kernel
theorem dX3_worthAround_171 : decode cX3_worthAround 171 = .ok (.invokestatic 102, 3) := by decide +kernel
theorem dX3_worthAround_174 : decode cX3_worthAround 174 = .ok (.istore 9, 2) := by decide +kernel
theorem dX3_worthAround_176 : decode cX3_worthAround 176 = .ok (.iinc 13 1, 3) := by decide +kernel
theorem dX3_worthAround_179 : decode cX3_worthAround 179 = .ok (.goto (-55), 3) := by decide +kernel
theorem dX3_worthAround_182 : decode cX3_worthAround 182 = .ok (.iinc 10 1, 3) := by decide +kernel
theorem dX3_worthAround_185 : decode cX3_worthAround 185 = .ok (.goto (-125), 3) := by decide +kernel
theorem dX3_worthAround_188 : decode cX3_worthAround 188 = .ok (.iload 9, 2) := by decide +kernel
theorem dX3_worthAround_190 : decode cX3_worthAround 190 = .ok (.ireturn, 1) := by decide +kernel
theorem dX4_init_0 : decode cX4_init 0 = .ok (.aload_n 0, 1) := by decide +kernel
theorem dX4_init_1 : decode cX4_init 1 = .ok (.invokespecial 3, 3) := by decide +kernel
theorem dX4_init_4 : decode cX4_init 4 = .ok (.aload_n 0, 1) := by decide +kernel
theorem dX4_init_5 : decode cX4_init 5 = .ok (.iconst 0, 1) := by decide +kernel
theorem dX4_init_6 : decode cX4_init 6 = .ok (.newarray .int, 2) := by decide +kernel
theorem dX4_init_8 : decode cX4_init 8 = .ok (.putfield 9, 3) := by decide +kernel
theorem dX4_init_11 : decode cX4_init 11 = .ok (.aload_n 0, 1) := by decide +kernel
theorem dX4_init_12 : decode cX4_init 12 = .ok (.iconst 0, 1) := by decide +kernel
theorem dX4_init_13 : decode cX4_init 13 = .ok (.putfield 15, 3) := by decide +kernel
theorem dX4_init_16 : decode cX4_init 16 = .ok (.aload_n 0, 1) := by decide +kernel
theorem dX4_init_17 : decode cX4_init 17 = .ok (.iconst 0, 1) := by decide +kernel
theorem dX4_init_18 : decode cX4_init 18 = .ok (.putfield 19, 3) := by decide +kernel
theorem dX4_init_21 : decode cX4_init 21 = .ok (.aload_n 0, 1) := by decide +kernel
theorem dX4_init_22 : decode cX4_init 22 = .ok (.iconst 0, 1) := by decide +kernel
theorem dX4_init_23 : decode cX4_init 23 = .ok (.putfield 22, 3) := by decide +kernel
theorem dX4_init_26 : decode cX4_init 26 = .ok (.aload_n 0, 1) := by decide +kernel
theorem dX4_init_27 : decode cX4_init 27 = .ok (.iconst 0, 1) := by decide +kernel
theorem dX4_init_28 : decode cX4_init 28 = .ok (.putfield 25, 3) := by decide +kernel
theorem dX4_init_31 : decode cX4_init 31 = .ok (.aload_n 0, 1) := by decide +kernel
theorem dX4_init_32 : decode cX4_init 32 = .ok (.iconst (-1), 1) := by decide +kernel
theorem dX4_init_33 : decode cX4_init 33 = .ok (.putfield 28, 3) := by decide +kernel
theorem dX4_init_36 : decode cX4_init 36 = .ok (.return_, 1) := by decide +kernel
theorem dX4_read_0 : decode cX4_read 0 = .ok (.aload_n 0, 1) := by decide +kernel
theorem dX4_read_1 : decode cX4_read 1 = .ok (.aload_n 1, 1) := by decide +kernel
theorem dX4_read_2 : decode cX4_read 2 = .ok (.putfield 9, 3) := by decide +kernel
theorem dX4_read_5 : decode cX4_read 5 = .ok (.aload_n 0, 1) := by decide +kernel
theorem dX4_read_6 : decode cX4_read 6 = .ok (.iload_n 2, 1) := by decide +kernel
theorem dX4_read_7 : decode cX4_read 7 = .ok (.aload_n 1, 1) := by decide +kernel
theorem dX4_read_8 : decode cX4_read 8 = .ok (.arraylength, 1) := by decide +kernel
theorem dX4_read_9 : decode cX4_read 9 = .ok (.invokestatic 31, 3) := by decide +kernel
theorem dX4_read_12 : decode cX4_read 12 = .ok (.putfield 15, 3) := by decide +kernel
theorem dX4_read_15 : decode cX4_read 15 = .ok (.aload_n 0, 1) := by decide +kernel
theorem dX4_read_16 : decode cX4_read 16 = .ok (.iconst 0, 1) := by decide +kernel
theorem dX4_read_17 : decode cX4_read 17 = .ok (.putfield 19, 3) := by decide +kernel
theorem dX4_read_20 : decode cX4_read 20 = .ok (.aload_n 0, 1) := by decide +kernel
theorem dX4_read_21 : decode cX4_read 21 = .ok (.iconst 0, 1) := by decide +kernel
theorem dX4_read_22 : decode cX4_read 22 = .ok (.putfield 22, 3) := by decide +kernel
theorem dX4_read_25 : decode cX4_read 25 = .ok (.aload_n 0, 1) := by decide +kernel
theorem dX4_read_26 : decode cX4_read 26 = .ok (.iconst 0, 1) := by decide +kernel
theorem dX4_read_27 : decode cX4_read 27 = .ok (.putfield 25, 3) := by decide +kernel
theorem dX4_read_30 : decode cX4_read 30 = .ok (.aload_n 0, 1) := by decide +kernel
theorem dX4_read_31 : decode cX4_read 31 = .ok (.iconst (-1), 1) := by decide +kernel
theorem dX4_read_32 : decode cX4_read 32 = .ok (.putfield 28, 3) := by decide +kernel
theorem dX4_read_35 : decode cX4_read 35 = .ok (.aload_n 3, 1) := by decide +kernel
theorem dX4_read_36 : decode cX4_read 36 = .ok (.invokevirtual 37, 3) := by decide +kernel
theorem dX4_read_39 : decode cX4_read 39 = .ok (.iconst 0, 1) := by decide +kernel
theorem dX4_read_40 : decode cX4_read 40 = .ok (.istore 4, 2) := by decide +kernel
theorem dX4_read_42 : decode cX4_read 42 = .ok (.iload 4, 2) := by decide +kernel
theorem dX4_read_44 : decode cX4_read 44 = .ok (.sipush 600, 3) := by decide +kernel
theorem dX4_read_47 : decode cX4_read 47 = .ok (.if_icmp .gt 44, 3) := by decide +kernel
theorem dX4_read_50 : decode cX4_read 50 = .ok (.aload_n 0, 1) := by decide +kernel
theorem dX4_read_51 : decode cX4_read 51 = .ok (.invokevirtual 42, 3) := by decide +kernel
theorem dX4_read_54 : decode cX4_read 54 = .ok (.aload_n 0, 1) := by decide +kernel
theorem dX4_read_55 : decode cX4_read 55 = .ok (.getfield 19, 3) := by decide +kernel
theorem dX4_read_58 : decode cX4_read 58 = .ok (.aload_n 0, 1) := by decide +kernel
theorem dX4_read_59 : decode cX4_read 59 = .ok (.getfield 15, 3) := by decide +kernel
theorem dX4_read_62 : decode cX4_read 62 = .ok (.if_icmp .lt 6, 3) := by decide +kernel
theorem dX4_read_65 : decode cX4_read 65 = .ok (.iload 4, 2) := by decide +kernel
theorem dX4_read_67 : decode cX4_read 67 = .ok (.ireturn, 1) := by decide +kernel
theorem dX4_read_68 : decode cX4_read 68 = .ok (.aload_n 0, 1) := by decide +kernel
theorem dX4_read_69 : decode cX4_read 69 = .ok (.aload_n 3, 1) := by decide +kernel
theorem dX4_read_70 : decode cX4_read 70 = .ok (.invokevirtual 45, 3) := by decide +kernel
theorem dX4_read_73 : decode cX4_read 73 = .ok (.aload_n 0, 1) := by decide +kernel
theorem dX4_read_74 : decode cX4_read 74 = .ok (.getfield 25, 3) := by decide +kernel
theorem dX4_read_77 : decode cX4_read 77 = .ok (.ifCond .eq 8, 3) := by decide +kernel
theorem dX4_read_80 : decode cX4_read 80 = .ok (.aload_n 0, 1) := by decide +kernel
theorem dX4_read_81 : decode cX4_read 81 = .ok (.getfield 25, 3) := by decide +kernel
theorem dX4_read_84 : decode cX4_read 84 = .ok (.ireturn, 1) := by decide +kernel
theorem dX4_read_85 : decode cX4_read 85 = .ok (.iinc 4 1, 3) := by decide +kernel
theorem dX4_read_88 : decode cX4_read 88 = .ok (.goto (-46), 3) := by decide +kernel
theorem dX4_read_91 : decode cX4_read 91 = .ok (.bipush (-2), 2) := by decide +kernel
theorem dX4_read_93 : decode cX4_read 93 = .ok (.ireturn, 1) := by decide +kernel
theorem dX4_readStatement_0 : decode cX4_readStatement 0 = .ok (.aload_n 0, 1) := by decide +kernel
theorem dX4_readStatement_1 : decode cX4_readStatement 1 = .ok (.getfield 19, 3) := by decide +kernel
theorem dX4_readStatement_4 : decode cX4_readStatement 4 = .ok (.istore_n 2, 1) := by decide +kernel
theorem dX4_readStatement_5 : decode cX4_readStatement 5 = .ok (.aload_n 0, 1) := by decide +kernel
theorem dX4_readStatement_6 : decode cX4_readStatement 6 = .ok (.ldc 49, 2) := by decide +kernel
theorem dX4_readStatement_8 : decode cX4_readStatement 8 = .ok (.invokevirtual 51, 3) := by decide +kernel
theorem dX4_readStatement_11 : decode cX4_readStatement 11 = .ok (.ifCond .eq 12, 3) := by decide +kernel
theorem dX4_readStatement_14 : decode cX4_readStatement 14 = .ok (.aload_n 0, 1) := by decide +kernel
theorem dX4_readStatement_15 : decode cX4_readStatement 15 = .ok (.aload_n 1, 1) := by decide +kernel
theorem dX4_readStatement_16 : decode cX4_readStatement 16 = .ok (.iload_n 2, 1) := by decide +kernel
theorem dX4_readStatement_17 : decode cX4_readStatement 17 = .ok (.invokevirtual 55, 3) := by decide +kernel
theorem dX4_readStatement_20 : decode cX4_readStatement 20 = .ok (.goto 67, 3) := by decide +kernel
theorem dX4_readStatement_23 : decode cX4_readStatement 23 = .ok (.aload_n 0, 1) := by decide +kernel
theorem dX4_readStatement_24 : decode cX4_readStatement 24 = .ok (.ldc 59, 2) := by decide +kernel
theorem dX4_readStatement_26 : decode cX4_readStatement 26 = .ok (.invokevirtual 51, 3) := by decide +kernel
theorem dX4_readStatement_29 : decode cX4_readStatement 29 = .ok (.ifCond .eq 12, 3) := by decide +kernel
theorem dX4_readStatement_32 : decode cX4_readStatement 32 = .ok (.aload_n 0, 1) := by decide +kernel
theorem dX4_readStatement_33 : decode cX4_readStatement 33 = .ok (.aload_n 1, 1) := by decide +kernel
theorem dX4_readStatement_34 : decode cX4_readStatement 34 = .ok (.iload_n 2, 1) := by decide +kernel
theorem dX4_readStatement_35 : decode cX4_readStatement 35 = .ok (.invokevirtual 61, 3) := by decide +kernel
theorem dX4_readStatement_38 : decode cX4_readStatement 38 = .ok (.goto 49, 3) := by decide +kernel
theorem dX4_readStatement_41 : decode cX4_readStatement 41 = .ok (.aload_n 0, 1) := by decide +kernel
theorem dX4_readStatement_42 : decode cX4_readStatement 42 = .ok (.ldc 64, 2) := by decide +kernel
theorem dX4_readStatement_44 : decode cX4_readStatement 44 = .ok (.invokevirtual 51, 3) := by decide +kernel
theorem dX4_readStatement_47 : decode cX4_readStatement 47 = .ok (.ifCond .eq 11, 3) := by decide +kernel
theorem dX4_readStatement_50 : decode cX4_readStatement 50 = .ok (.aload_n 0, 1) := by decide +kernel
theorem dX4_readStatement_51 : decode cX4_readStatement 51 = .ok (.aload_n 1, 1) := by decide +kernel
theorem dX4_readStatement_52 : decode cX4_readStatement 52 = .ok (.invokevirtual 66, 3) := by decide +kernel
theorem dX4_readStatement_55 : decode cX4_readStatement 55 = .ok (.goto 32, 3) := by decide +kernel
theorem dX4_readStatement_58 : decode cX4_readStatement 58 = .ok (.aload_n 0, 1) := by decide +kernel
theorem dX4_readStatement_59 : decode cX4_readStatement 59 = .ok (.ldc 69, 2) := by decide +kernel
theorem dX4_readStatement_61 : decode cX4_readStatement 61 = .ok (.invokevirtual 51, 3) := by decide +kernel
theorem dX4_readStatement_64 : decode cX4_readStatement 64 = .ok (.ifCond .eq 16, 3) := by decide +kernel
theorem dX4_readStatement_67 : decode cX4_readStatement 67 = .ok (.aload_n 1, 1) := by decide +kernel
theorem dX4_readStatement_68 : decode cX4_readStatement 68 = .ok (.aload_n 0, 1) := by decide +kernel
theorem dX4_readStatement_69 : decode cX4_readStatement 69 = .ok (.iconst 0, 1) := by decide +kernel
theorem dX4_readStatement_70 : decode cX4_readStatement 70 = .ok (.iconst 4, 1) := by decide +kernel
theorem dX4_readStatement_71 : decode cX4_readStatement 71 = .ok (.invokevirtual 71, 3) := by decide +kernel
theorem dX4_readStatement_74 : decode cX4_readStatement 74 = .ok (.putfield 74, 3) := by decide +kernel
theorem dX4_readStatement_77 : decode cX4_readStatement 77 = .ok (.goto 10, 3) := by decide +kernel
theorem dX4_readStatement_80 : decode cX4_readStatement 80 = .ok (.aload_n 0, 1) := by decide +kernel
theorem dX4_readStatement_81 : decode cX4_readStatement 81 = .ok (.bipush (-2), 2) := by decide +kernel
theorem dX4_readStatement_83 : decode cX4_readStatement 83 = .ok (.iload_n 2, 1) := by decide +kernel
theorem dX4_readStatement_84 : decode cX4_readStatement 84 = .ok (.invokevirtual 76, 3) := by decide +kernel
theorem dX4_readStatement_87 : decode cX4_readStatement 87 = .ok (.aload_n 0, 1) := by decide +kernel
theorem dX4_readStatement_88 : decode cX4_readStatement 88 = .ok (.invokevirtual 80, 3) := by decide +kernel
theorem dX4_readStatement_91 : decode cX4_readStatement 91 = .ok (.return_, 1) := by decide +kernel
theorem dX4_readRow_0 : decode cX4_readRow 0 = .ok (.aload_n 0, 1) := by decide +kernel
theorem dX4_readRow_1 : decode cX4_readRow 1 = .ok (.getfield 22, 3) := by decide +kernel
theorem dX4_readRow_4 : decode cX4_readRow 4 = .ok (.iconst 4, 1) := by decide +kernel
theorem dX4_readRow_5 : decode cX4_readRow 5 = .ok (.if_icmp .lt 11, 3) := by decide +kernel
theorem dX4_readRow_8 : decode cX4_readRow 8 = .ok (.aload_n 0, 1) := by decide +kernel
theorem dX4_readRow_9 : decode cX4_readRow 9 = .ok (.bipush (-4), 2) := by decide +kernel
theorem dX4_readRow_11 : decode cX4_readRow 11 = .ok (.iload_n 2, 1) := by decide +kernel
theorem dX4_readRow_12 : decode cX4_readRow 12 = .ok (.invokevirtual 76, 3) := by decide +kernel
theorem dX4_readRow_15 : decode cX4_readRow 15 = .ok (.return_, 1) := by decide +kernel
theorem dX4_readRow_16 : decode cX4_readRow 16 = .ok (.aload_n 0, 1) := by decide +kernel
theorem dX4_readRow_17 : decode cX4_readRow 17 = .ok (.aload_n 1, 1) := by decide +kernel
theorem dX4_readRow_18 : decode cX4_readRow 18 = .ok (.iconst 0, 1) := by decide +kernel
theorem dX4_readRow_19 : decode cX4_readRow 19 = .ok (.invokevirtual 83, 3) := by decide +kernel
theorem dX4_readRow_22 : decode cX4_readRow 22 = .ok (.iconst 1, 1) := by decide +kernel
theorem dX4_readRow_23 : decode cX4_readRow 23 = .ok (.istore_n 3, 1) := by decide +kernel
theorem dX4_readRow_24 : decode cX4_readRow 24 = .ok (.iload_n 3, 1) := by decide +kernel
theorem dX4_readRow_25 : decode cX4_readRow 25 = .ok (.bipush 12, 2) := by decide +kernel
theorem dX4_readRow_27 : decode cX4_readRow 27 = .ok (.if_icmp .gt 22, 3) := by decide +kernel
theorem dX4_readRow_30 : decode cX4_readRow 30 = .ok (.aload_n 0, 1) := by decide +kernel
theorem dX4_readRow_31 : decode cX4_readRow 31 = .ok (.invokevirtual 86, 3) := by decide +kernel
theorem dX4_readRow_34 : decode cX4_readRow 34 = .ok (.ifCond .eq 15, 3) := by decide +kernel
theorem dX4_readRow_37 : decode cX4_readRow 37 = .ok (.aload_n 0, 1) := by decide +kernel
theorem dX4_readRow_38 : decode cX4_readRow 38 = .ok (.aload_n 1, 1) := by decide +kernel
theorem dX4_readRow_39 : decode cX4_readRow 39 = .ok (.iload_n 3, 1) := by decide +kernel
theorem dX4_readRow_40 : decode cX4_readRow 40 = .ok (.invokevirtual 83, 3) := by decide +kernel
theorem dX4_readRow_43 : decode cX4_readRow 43 = .ok (.iinc 3 1, 3) := by decide +kernel
theorem dX4_readRow_46 : decode cX4_readRow 46 = .ok (.goto (-22), 3) := by decide +kernel
theorem dX4_readRow_49 : decode cX4_readRow 49 = .ok (.aload_n 0, 1) := by decide +kernel
theorem dX4_readRow_50 : decode cX4_readRow 50 = .ok (.dup, 1) := by decide +kernel
theorem dX4_readRow_51 : decode cX4_readRow 51 = .ok (.getfield 22, 3) := by decide +kernel
theorem dX4_readRow_54 : decode cX4_readRow 54 = .ok (.iconst 1, 1) := by decide +kernel
theorem dX4_readRow_55 : decode cX4_readRow 55 = .ok (.iadd, 1) := by decide +kernel
theorem dX4_readRow_56 : decode cX4_readRow 56 = .ok (.putfield 22, 3) := by decide +kernel
theorem dX4_readRow_59 : decode cX4_readRow 59 = .ok (.return_, 1) := by decide +kernel
theorem dX4_readPitch_0 : decode cX4_readPitch 0 = .ok (.aload_n 0, 1) := by decide +kernel
theorem dX4_readPitch_1 : decode cX4_readPitch 1 = .ok (.invokevirtual 42, 3) := by decide +kernel
theorem dX4_readPitch_4 : decode cX4_readPitch 4 = .ok (.aload_n 0, 1) := by decide +kernel
theorem dX4_readPitch_5 : decode cX4_readPitch 5 = .ok (.getfield 19, 3) := by decide +kernel
theorem dX4_readPitch_8 : decode cX4_readPitch 8 = .ok (.istore_n 3, 1) := by decide +kernel
theorem dX4_readPitch_9 : decode cX4_readPitch 9 = .ok (.aload_n 0, 1) := by decide +kernel
theorem dX4_readPitch_10 : decode cX4_readPitch 10 = .ok (.iconst 1, 1) := by decide +kernel
theorem dX4_readPitch_11 : decode cX4_readPitch 11 = .ok (.sipush 999, 3) := by decide +kernel
theorem dX4_readPitch_14 : decode cX4_readPitch 14 = .ok (.invokevirtual 71, 3) := by decide +kernel
theorem dX4_readPitch_17 : decode cX4_readPitch 17 = .ok (.istore 4, 2) := by decide +kernel
theorem dX4_readPitch_19 : decode cX4_readPitch 19 = .ok (.iload_n 2, 1) := by decide +kernel
theorem dX4_readPitch_20 : decode cX4_readPitch 20 = .ok (.bipush 12, 2) := by decide +kernel
theorem dX4_readPitch_22 : decode cX4_readPitch 22 = .ok (.if_icmp .ge 12, 3) := by decide +kernel
theorem dX4_readPitch_25 : decode cX4_readPitch 25 = .ok (.aload_n 1, 1) := by decide +kernel
theorem dX4_readPitch_26 : decode cX4_readPitch 26 = .ok (.getfield 90, 3) := by decide +kernel
theorem dX4_readPitch_29 : decode cX4_readPitch 29 = .ok (.bipush 24, 2) := by decide +kernel
theorem dX4_readPitch_31 : decode cX4_readPitch 31 = .ok (.if_icmp .lt 10, 3) := by decide +kernel
theorem dX4_readPitch_34 : decode cX4_readPitch 34 = .ok (.aload_n 0, 1) := by decide +kernel
theorem dX4_readPitch_35 : decode cX4_readPitch 35 = .ok (.bipush (-4), 2) := by decide +kernel
theorem dX4_readPitch_37 : decode cX4_readPitch 37 = .ok (.iload_n 3, 1) := by decide +kernel
theorem dX4_readPitch_38 : decode cX4_readPitch 38 = .ok (.invokevirtual 76, 3) := by decide +kernel
theorem dX4_readPitch_41 : decode cX4_readPitch 41 = .ok (.aload_n 0, 1) := by decide +kernel
theorem dX4_readPitch_42 : decode cX4_readPitch 42 = .ok (.ldc 93, 2) := by decide +kernel
theorem dX4_readPitch_44 : decode cX4_readPitch 44 = .ok (.invokevirtual 51, 3) := by decide +kernel
theorem dX4_readPitch_47 : decode cX4_readPitch 47 = .ok (.istore 5, 2) := by decide +kernel
theorem dX4_readPitch_49 : decode cX4_readPitch 49 = .ok (.aload_n 0, 1) := by decide +kernel
theorem dX4_readPitch_50 : decode cX4_readPitch 50 = .ok (.getfield 25, 3) := by decide +kernel
theorem dX4_readPitch_53 : decode cX4_readPitch 53 = .ok (.ifCond .ne 15, 3) := by decide +kernel
theorem dX4_readPitch_56 : decode cX4_readPitch 56 = .ok (.aload_n 1, 1) := by decide +kernel
theorem dX4_readPitch_57 : decode cX4_readPitch 57 = .ok (.aload_n 0, 1) := by decide +kernel
theorem dX4_readPitch_58 : decode cX4_readPitch 58 = .ok (.getfield 22, 3) := by decide +kernel
theorem dX4_readPitch_61 : decode cX4_readPitch 61 = .ok (.iload 4, 2) := by decide +kernel
theorem dX4_readPitch_63 : decode cX4_readPitch 63 = .ok (.iload 5, 2) := by decide +kernel
theorem dX4_readPitch_65 : decode cX4_readPitch 65 = .ok (.invokevirtual 95, 3) := by decide +kernel
theorem dX4_readPitch_68 : decode cX4_readPitch 68 = .ok (.return_, 1) := by decide +kernel
theorem dX4_readTrader_0 : decode cX4_readTrader 0 = .ok (.aload_n 1, 1) := by decide +kernel
theorem dX4_readTrader_1 : decode cX4_readTrader 1 = .ok (.getfield 99, 3) := by decide +kernel
theorem dX4_readTrader_4 : decode cX4_readTrader 4 = .ok (.bipush 8, 2) := by decide +kernel
theorem dX4_readTrader_6 : decode cX4_readTrader 6 = .ok (.if_icmp .lt 10, 3) := by decide +kernel
theorem dX4_readTrader_9 : decode cX4_readTrader 9 = .ok (.aload_n 0, 1) := by decide +kernel
theorem dX4_readTrader_10 : decode cX4_readTrader 10 = .ok (.bipush (-4), 2) := by decide +kernel
theorem dX4_readTrader_12 : decode cX4_readTrader 12 = .ok (.iload_n 2, 1) := by decide +kernel
theorem dX4_readTrader_13 : decode cX4_readTrader 13 = .ok (.invokevirtual 76, 3) := by decide +kernel
theorem dX4_readTrader_16 : decode cX4_readTrader 16 = .ok (.aload_n 0, 1) := by decide +kernel
theorem dX4_readTrader_17 : decode cX4_readTrader 17 = .ok (.iconst 0, 1) := by decide +kernel
theorem dX4_readTrader_18 : decode cX4_readTrader 18 = .ok (.bipush 7, 2) := by decide +kernel
theorem dX4_readTrader_20 : decode cX4_readTrader 20 = .ok (.invokevirtual 71, 3) := by decide +kernel
theorem dX4_readTrader_23 : decode cX4_readTrader 23 = .ok (.istore_n 3, 1) := by decide +kernel
theorem dX4_readTrader_24 : decode cX4_readTrader 24 = .ok (.aload_n 0, 1) := by decide +kernel
theorem dX4_readTrader_25 : decode cX4_readTrader 25 = .ok (.ldc 102, 2) := by decide +kernel
theorem dX4_readTrader_27 : decode cX4_readTrader 27 = .ok (.invokevirtual 104, 3) := by decide +kernel
theorem dX4_readTrader_30 : decode cX4_readTrader 30 = .ok (.aload_n 0, 1) := by decide +kernel
theorem dX4_readTrader_31 : decode cX4_readTrader 31 = .ok (.iconst 1, 1) := by decide +kernel
theorem dX4_readTrader_32 : decode cX4_readTrader 32 = .ok (.iconst 3, 1) := by decide +kernel
theorem dX4_readTrader_33 : decode cX4_readTrader 33 = .ok (.invokevirtual 71, 3) := by decide +kernel
theorem dX4_readTrader_36 : decode cX4_readTrader 36 = .ok (.istore 4, 2) := by decide +kernel
theorem dX4_readTrader_38 : decode cX4_readTrader 38 = .ok (.aload_n 0, 1) := by decide +kernel
theorem dX4_readTrader_39 : decode cX4_readTrader 39 = .ok (.ldc 108, 2) := by decide +kernel
theorem dX4_readTrader_41 : decode cX4_readTrader 41 = .ok (.invokevirtual 104, 3) := by decide +kernel
theorem dX4_readTrader_44 : decode cX4_readTrader 44 = .ok (.aload_n 0, 1) := by decide +kernel
theorem dX4_readTrader_45 : decode cX4_readTrader 45 = .ok (.iconst 1, 1) := by decide +kernel
theorem dX4_readTrader_46 : decode cX4_readTrader 46 = .ok (.sipush 9999, 3) := by decide +kernel
theorem dX4_readTrader_49 : decode cX4_readTrader 49 = .ok (.invokevirtual 71, 3) := by decide +kernel
theorem dX4_readTrader_52 : decode cX4_readTrader 52 = .ok (.istore 5, 2) := by decide +kernel
theorem dX4_readTrader_54 : decode cX4_readTrader 54 = .ok (.aload_n 0, 1) := by decide +kernel
theorem dX4_readTrader_55 : decode cX4_readTrader 55 = .ok (.ldc 110, 2) := by decide +kernel
theorem dX4_readTrader_57 : decode cX4_readTrader 57 = .ok (.invokevirtual 51, 3) := by decide +kernel
theorem dX4_readTrader_60 : decode cX4_readTrader 60 = .ok (.istore 6, 2) := by decide +kernel
theorem dX4_readTrader_62 : decode cX4_readTrader 62 = .ok (.aload_n 0, 1) := by decide +kernel
theorem dX4_readTrader_63 : decode cX4_readTrader 63 = .ok (.getfield 25, 3) := by decide +kernel
theorem dX4_readTrader_66 : decode cX4_readTrader 66 = .ok (.ifCond .ne 14, 3) := by decide +kernel
theorem dX4_readTrader_69 : decode cX4_readTrader 69 = .ok (.aload_n 1, 1) := by decide +kernel
theorem dX4_readTrader_70 : decode cX4_readTrader 70 = .ok (.iload_n 3, 1) := by decide +kernel
theorem dX4_readTrader_71 : decode cX4_readTrader 71 = .ok (.iload 4, 2) := by decide +kernel
theorem dX4_readTrader_73 : decode cX4_readTrader 73 = .ok (.iload 5, 2) := by decide +kernel
theorem dX4_readTrader_75 : decode cX4_readTrader 75 = .ok (.iload 6, 2) := by decide +kernel
theorem dX4_readTrader_77 : decode cX4_readTrader 77 = .ok (.invokevirtual 112, 3) := by decide +kernel
theorem dX4_readTrader_80 : decode cX4_readTrader 80 = .ok (.return_, 1) := by decide +kernel
theorem dX4_readClash_0 : decode cX4_readClash 0 = .ok (.aload_n 0, 1) := by decide +kernel
theorem dX4_readClash_1 : decode cX4_readClash 1 = .ok (.iconst 0, 1) := by decide +kernel
theorem dX4_readClash_2 : decode cX4_readClash 2 = .ok (.bipush 7, 2) := by decide +kernel
theorem dX4_readClash_4 : decode cX4_readClash 4 = .ok (.invokevirtual 71, 3) := by decide +kernel
theorem dX4_readClash_7 : decode cX4_readClash 7 = .ok (.istore_n 2, 1) := by decide +kernel
theorem dX4_readClash_8 : decode cX4_readClash 8 = .ok (.aload_n 0, 1) := by decide +kernel
theorem dX4_readClash_9 : decode cX4_readClash 9 = .ok (.iconst 0, 1) := by decide +kernel
theorem dX4_readClash_10 : decode cX4_readClash 10 = .ok (.bipush 7, 2) := by decide +kernel
theorem dX4_readClash_12 : decode cX4_readClash 12 = .ok (.invokevirtual 71, 3) := by decide +kernel
theorem dX4_readClash_15 : decode cX4_readClash 15 = .ok (.istore_n 3, 1) := by decide +kernel
theorem dX4_readClash_16 : decode cX4_readClash 16 = .ok (.aload_n 0, 1) := by decide +kernel
theorem dX4_readClash_17 : decode cX4_readClash 17 = .ok (.getfield 25, 3) := by decide +kernel
theorem dX4_readClash_20 : decode cX4_readClash 20 = .ok (.ifCond .ne 10, 3) := by decide +kernel
theorem dX4_readClash_23 : decode cX4_readClash 23 = .ok (.aload_n 1, 1) := by decide +kernel
theorem dX4_readClash_24 : decode cX4_readClash 24 = .ok (.iload_n 2, 1) := by decide +kernel
theorem dX4_readClash_25 : decode cX4_readClash 25 = .ok (.iload_n 3, 1) := by decide +kernel
theorem dX4_readClash_26 : decode cX4_readClash 26 = .ok (.iconst 1, 1) := by decide +kernel
theorem dX4_readClash_27 : decode cX4_readClash 27 = .ok (.invokevirtual 116, 3) := by decide +kernel
theorem dX4_readClash_30 : decode cX4_readClash 30 = .ok (.return_, 1) := by decide +kernel
theorem dX4_fail_0 : decode cX4_fail 0 = .ok (.aload_n 0, 1) := by decide +kernel
theorem dX4_fail_1 : decode cX4_fail 1 = .ok (.getfield 25, 3) := by decide +kernel
theorem dX4_fail_4 : decode cX4_fail 4 = .ok (.ifCond .ne 13, 3) := by decide +kernel
theorem dX4_fail_7 : decode cX4_fail 7 = .ok (.aload_n 0, 1) := by decide +kernel
theorem dX4_fail_8 : decode cX4_fail 8 = .ok (.iload_n 1, 1) := by decide +kernel
theorem dX4_fail_9 : decode cX4_fail 9 = .ok (.putfield 25, 3) := by decide +kernel
theorem dX4_fail_12 : decode cX4_fail 12 = .ok (.aload_n 0, 1) := by decide +kernel
theorem dX4_fail_13 : decode cX4_fail 13 = .ok (.iload_n 2, 1) := by decide +kernel
theorem dX4_fail_14 : decode cX4_fail 14 = .ok (.putfield 28, 3) := by decide +kernel
theorem dX4_fail_17 : decode cX4_fail 17 = .ok (.return_, 1) := by decide +kernel
theorem dX4_skipSpaces_0 : decode cX4_skipSpaces 0 = .ok (.aload_n 0, 1) := by decide +kernel
theorem dX4_skipSpaces_1 : decode cX4_skipSpaces 1 = .ok (.getfield 19, 3) := by decide +kernel
theorem dX4_skipSpaces_4 : decode cX4_skipSpaces 4 = .ok (.aload_n 0, 1) := by decide +kernel
theorem dX4_skipSpaces_5 : decode cX4_skipSpaces 5 = .ok (.getfield 15, 3) := by decide +kernel
theorem dX4_skipSpaces_8 : decode cX4_skipSpaces 8 = .ok (.if_icmp .ge 30, 3) := by decide +kernel
theorem dX4_skipSpaces_11 : decode cX4_skipSpaces 11 = .ok (.aload_n 0, 1) := by decide +kernel
theorem dX4_skipSpaces_12 : decode cX4_skipSpaces 12 = .ok (.getfield 9, 3) := by decide +kernel
theorem dX4_skipSpaces_15 : decode cX4_skipSpaces 15 = .ok (.aload_n 0, 1) := by decide +kernel
theorem dX4_skipSpaces_16 : decode cX4_skipSpaces 16 = .ok (.getfield 19, 3) := by decide +kernel
theorem dX4_skipSpaces_19 : decode cX4_skipSpaces 19 = .ok (.iaload, 1) := by decide +kernel
theorem dX4_skipSpaces_20 : decode cX4_skipSpaces 20 = .ok (.bipush 32, 2) := by decide +kernel
theorem dX4_skipSpaces_22 : decode cX4_skipSpaces 22 = .ok (.if_icmp .ne 16, 3) := by decide +kernel
theorem dX4_skipSpaces_25 : decode cX4_skipSpaces 25 = .ok (.aload_n 0, 1) := by decide +kernel
theorem dX4_skipSpaces_26 : decode cX4_skipSpaces 26 = .ok (.dup, 1) := by decide +kernel
theorem dX4_skipSpaces_27 : decode cX4_skipSpaces 27 = .ok (.getfield 19, 3) := by decide +kernel
theorem dX4_skipSpaces_30 : decode cX4_skipSpaces 30 = .ok (.iconst 1, 1) := by decide +kernel
theorem dX4_skipSpaces_31 : decode cX4_skipSpaces 31 = .ok (.iadd, 1) := by decide +kernel
theorem dX4_skipSpaces_32 : decode cX4_skipSpaces 32 = .ok (.putfield 19, 3) := by decide +kernel
theorem dX4_skipSpaces_35 : decode cX4_skipSpaces 35 = .ok (.goto (-35), 3) := by decide +kernel
theorem dX4_skipSpaces_38 : decode cX4_skipSpaces 38 = .ok (.return_, 1) := by decide +kernel
theorem dX4_isLetter_0 : decode cX4_isLetter 0 = .ok (.iload_n 1, 1) := by decide +kernel
theorem dX4_isLetter_1 : decode cX4_isLetter 1 = .ok (.aload_n 0, 1) := by decide +kernel
theorem dX4_isLetter_2 : decode cX4_isLetter 2 = .ok (.getfield 15, 3) := by decide +kernel
theorem dX4_isLetter_5 : decode cX4_isLetter 5 = .ok (.if_icmp .ge 29, 3) := by decide +kernel
theorem dX4_isLetter_8 : decode cX4_isLetter 8 = .ok (.aload_n 0, 1) := by decide +kernel
theorem dX4_isLetter_9 : decode cX4_isLetter 9 = .ok (.getfield 9, 3) := by decide +kernel
theorem dX4_isLetter_12 : decode cX4_isLetter 12 = .ok (.iload_n 1, 1) := by decide +kernel
theorem dX4_isLetter_13 : decode cX4_isLetter 13 = .ok (.iaload, 1) := by decide +kernel
theorem dX4_isLetter_14 : decode cX4_isLetter 14 = .ok (.bipush 97, 2) := by decide +kernel
theorem dX4_isLetter_16 : decode cX4_isLetter 16 = .ok (.if_icmp .lt 18, 3) := by decide +kernel
theorem dX4_isLetter_19 : decode cX4_isLetter 19 = .ok (.aload_n 0, 1) := by decide +kernel
theorem dX4_isLetter_20 : decode cX4_isLetter 20 = .ok (.getfield 9, 3) := by decide +kernel
theorem dX4_isLetter_23 : decode cX4_isLetter 23 = .ok (.iload_n 1, 1) := by decide +kernel
theorem dX4_isLetter_24 : decode cX4_isLetter 24 = .ok (.iaload, 1) := by decide +kernel
theorem dX4_isLetter_25 : decode cX4_isLetter 25 = .ok (.bipush 122, 2) := by decide +kernel
theorem dX4_isLetter_27 : decode cX4_isLetter 27 = .ok (.if_icmp .gt 7, 3) := by decide +kernel
theorem dX4_isLetter_30 : decode cX4_isLetter 30 = .ok (.iconst 1, 1) := by decide +kernel
theorem dX4_isLetter_31 : decode cX4_isLetter 31 = .ok (.goto 4, 3) := by decide +kernel
theorem dX4_isLetter_34 : decode cX4_isLetter 34 = .ok (.iconst 0, 1) := by decide +kernel
theorem dX4_isLetter_35 : decode cX4_isLetter 35 = .ok (.ireturn, 1) := by decide +kernel
theorem dX4_isDigit_0 : decode cX4_isDigit 0 = .ok (.iload_n 1, 1) := by decide +kernel
theorem dX4_isDigit_1 : decode cX4_isDigit 1 = .ok (.aload_n 0, 1) := by decide +kernel
theorem dX4_isDigit_2 : decode cX4_isDigit 2 = .ok (.getfield 15, 3) := by decide +kernel
theorem dX4_isDigit_5 : decode cX4_isDigit 5 = .ok (.if_icmp .ge 29, 3) := by decide +kernel
theorem dX4_isDigit_8 : decode cX4_isDigit 8 = .ok (.aload_n 0, 1) := by decide +kernel
theorem dX4_isDigit_9 : decode cX4_isDigit 9 = .ok (.getfield 9, 3) := by decide +kernel
theorem dX4_isDigit_12 : decode cX4_isDigit 12 = .ok (.iload_n 1, 1) := by decide +kernel
theorem dX4_isDigit_13 : decode cX4_isDigit 13 = .ok (.iaload, 1) := by decide +kernel
theorem dX4_isDigit_14 : decode cX4_isDigit 14 = .ok (.bipush 48, 2) := by decide +kernel
theorem dX4_isDigit_16 : decode cX4_isDigit 16 = .ok (.if_icmp .lt 18, 3) := by decide +kernel
theorem dX4_isDigit_19 : decode cX4_isDigit 19 = .ok (.aload_n 0, 1) := by decide +kernel
theorem dX4_isDigit_20 : decode cX4_isDigit 20 = .ok (.getfield 9, 3) := by decide +kernel
theorem dX4_isDigit_23 : decode cX4_isDigit 23 = .ok (.iload_n 1, 1) := by decide +kernel
theorem dX4_isDigit_24 : decode cX4_isDigit 24 = .ok (.iaload, 1) := by decide +kernel
theorem dX4_isDigit_25 : decode cX4_isDigit 25 = .ok (.bipush 57, 2) := by decide +kernel
theorem dX4_isDigit_27 : decode cX4_isDigit 27 = .ok (.if_icmp .gt 7, 3) := by decide +kernel
theorem dX4_isDigit_30 : decode cX4_isDigit 30 = .ok (.iconst 1, 1) := by decide +kernel
theorem dX4_isDigit_31 : decode cX4_isDigit 31 = .ok (.goto 4, 3) := by decide +kernel
theorem dX4_isDigit_34 : decode cX4_isDigit 34 = .ok (.iconst 0, 1) := by decide +kernel
theorem dX4_isDigit_35 : decode cX4_isDigit 35 = .ok (.ireturn, 1) := by decide +kernel
theorem dX4_isAtDigit_0 : decode cX4_isAtDigit 0 = .ok (.aload_n 0, 1) := by decide +kernel
theorem dX4_isAtDigit_1 : decode cX4_isAtDigit 1 = .ok (.invokevirtual 42, 3) := by decide +kernel
theorem dX4_isAtDigit_4 : decode cX4_isAtDigit 4 = .ok (.aload_n 0, 1) := by decide +kernel
theorem dX4_isAtDigit_5 : decode cX4_isAtDigit 5 = .ok (.getfield 25, 3) := by decide +kernel
theorem dX4_isAtDigit_8 : decode cX4_isAtDigit 8 = .ok (.ifCond .ne 18, 3) := by decide +kernel
theorem dX4_isAtDigit_11 : decode cX4_isAtDigit 11 = .ok (.aload_n 0, 1) := by decide +kernel
theorem dX4_isAtDigit_12 : decode cX4_isAtDigit 12 = .ok (.aload_n 0, 1) := by decide +kernel
theorem dX4_isAtDigit_13 : decode cX4_isAtDigit 13 = .ok (.getfield 19, 3) := by decide +kernel
theorem dX4_isAtDigit_16 : decode cX4_isAtDigit 16 = .ok (.invokevirtual 119, 3) := by decide +kernel
theorem dX4_isAtDigit_19 : decode cX4_isAtDigit 19 = .ok (.ifCond .eq 7, 3) := by decide +kernel
theorem dX4_isAtDigit_22 : decode cX4_isAtDigit 22 = .ok (.iconst 1, 1) := by decide +kernel
theorem dX4_isAtDigit_23 : decode cX4_isAtDigit 23 = .ok (.goto 4, 3) := by decide +kernel
theorem dX4_isAtDigit_26 : decode cX4_isAtDigit 26 = .ok (.iconst 0, 1) := by decide +kernel
theorem dX4_isAtDigit_27 : decode cX4_isAtDigit 27 = .ok (.ireturn, 1) := by decide +kernel
theorem dX4_takesWord_0 : decode cX4_takesWord 0 = .ok (.aload_n 0, 1) := by decide +kernel
theorem dX4_takesWord_1 : decode cX4_takesWord 1 = .ok (.invokevirtual 42, 3) := by decide +kernel
theorem dX4_takesWord_4 : decode cX4_takesWord 4 = .ok (.aload_n 1, 1) := by decide +kernel
theorem dX4_takesWord_5 : decode cX4_takesWord 5 = .ok (.invokevirtual 123, 3) := by decide +kernel
theorem dX4_takesWord_8 : decode cX4_takesWord 8 = .ok (.istore_n 2, 1) := by decide +kernel
theorem dX4_takesWord_9 : decode cX4_takesWord 9 = .ok (.aload_n 0, 1) := by decide +kernel
theorem dX4_takesWord_10 : decode cX4_takesWord 10 = .ok (.getfield 25, 3) := by decide +kernel
theorem dX4_takesWord_13 : decode cX4_takesWord 13 = .ok (.ifCond .ne 29, 3) := by decide +kernel
theorem dX4_takesWord_16 : decode cX4_takesWord 16 = .ok (.aload_n 0, 1) := by decide +kernel
theorem dX4_takesWord_17 : decode cX4_takesWord 17 = .ok (.getfield 19, 3) := by decide +kernel
theorem dX4_takesWord_20 : decode cX4_takesWord 20 = .ok (.iload_n 2, 1) := by decide +kernel
theorem dX4_takesWord_21 : decode cX4_takesWord 21 = .ok (.iadd, 1) := by decide +kernel
theorem dX4_takesWord_22 : decode cX4_takesWord 22 = .ok (.aload_n 0, 1) := by decide +kernel
theorem dX4_takesWord_23 : decode cX4_takesWord 23 = .ok (.getfield 15, 3) := by decide +kernel
theorem dX4_takesWord_26 : decode cX4_takesWord 26 = .ok (.if_icmp .gt 16, 3) := by decide +kernel
theorem dX4_takesWord_29 : decode cX4_takesWord 29 = .ok (.aload_n 0, 1) := by decide +kernel
theorem dX4_takesWord_30 : decode cX4_takesWord 30 = .ok (.aload_n 0, 1) := by decide +kernel
theorem dX4_takesWord_31 : decode cX4_takesWord 31 = .ok (.getfield 19, 3) := by decide +kernel
theorem dX4_takesWord_34 : decode cX4_takesWord 34 = .ok (.iload_n 2, 1) := by decide +kernel
theorem dX4_takesWord_35 : decode cX4_takesWord 35 = .ok (.iadd, 1) := by decide +kernel
theorem dX4_takesWord_36 : decode cX4_takesWord 36 = .ok (.invokevirtual 128, 3) := by decide +kernel
theorem dX4_takesWord_39 : decode cX4_takesWord 39 = .ok (.ifCond .eq 5, 3) := by decide +kernel
theorem dX4_takesWord_42 : decode cX4_takesWord 42 = .ok (.iconst 0, 1) := by decide +kernel
theorem dX4_takesWord_43 : decode cX4_takesWord 43 = .ok (.ireturn, 1) := by decide +kernel
theorem dX4_takesWord_44 : decode cX4_takesWord 44 = .ok (.iconst 0, 1) := by decide +kernel
theorem dX4_takesWord_45 : decode cX4_takesWord 45 = .ok (.istore_n 3, 1) := by decide +kernel
theorem dX4_takesWord_46 : decode cX4_takesWord 46 = .ok (.iload_n 3, 1) := by decide +kernel
theorem dX4_takesWord_47 : decode cX4_takesWord 47 = .ok (.iload_n 2, 1) := by decide +kernel
theorem dX4_takesWord_48 : decode cX4_takesWord 48 = .ok (.if_icmp .ge 30, 3) := by decide +kernel
theorem dX4_takesWord_51 : decode cX4_takesWord 51 = .ok (.aload_n 0, 1) := by decide +kernel
theorem dX4_takesWord_52 : decode cX4_takesWord 52 = .ok (.getfield 9, 3) := by decide +kernel
theorem dX4_takesWord_55 : decode cX4_takesWord 55 = .ok (.aload_n 0, 1) := by decide +kernel
theorem dX4_takesWord_56 : decode cX4_takesWord 56 = .ok (.getfield 19, 3) := by decide +kernel
theorem dX4_takesWord_59 : decode cX4_takesWord 59 = .ok (.iload_n 3, 1) := by decide +kernel
theorem dX4_takesWord_60 : decode cX4_takesWord 60 = .ok (.iadd, 1) := by decide +kernel
theorem dX4_takesWord_61 : decode cX4_takesWord 61 = .ok (.iaload, 1) := by decide +kernel
theorem dX4_takesWord_62 : decode cX4_takesWord 62 = .ok (.aload_n 1, 1) := by decide +kernel
theorem dX4_takesWord_63 : decode cX4_takesWord 63 = .ok (.iload_n 3, 1) := by decide +kernel
theorem dX4_takesWord_64 : decode cX4_takesWord 64 = .ok (.invokevirtual 131, 3) := by decide +kernel
theorem dX4_takesWord_67 : decode cX4_takesWord 67 = .ok (.if_icmp .eq 5, 3) := by decide +kernel
theorem dX4_takesWord_70 : decode cX4_takesWord 70 = .ok (.iconst 0, 1) := by decide +kernel
theorem dX4_takesWord_71 : decode cX4_takesWord 71 = .ok (.ireturn, 1) := by decide +kernel
theorem dX4_takesWord_72 : decode cX4_takesWord 72 = .ok (.iinc 3 1, 3) := by decide +kernel
theorem dX4_takesWord_75 : decode cX4_takesWord 75 = .ok (.goto (-29), 3) := by decide +kernel
theorem dX4_takesWord_78 : decode cX4_takesWord 78 = .ok (.aload_n 0, 1) := by decide +kernel
theorem dX4_takesWord_79 : decode cX4_takesWord 79 = .ok (.dup, 1) := by decide +kernel
theorem dX4_takesWord_80 : decode cX4_takesWord 80 = .ok (.getfield 19, 3) := by decide +kernel
theorem dX4_takesWord_83 : decode cX4_takesWord 83 = .ok (.iload_n 2, 1) := by decide +kernel
theorem dX4_takesWord_84 : decode cX4_takesWord 84 = .ok (.iadd, 1) := by decide +kernel
theorem dX4_takesWord_85 : decode cX4_takesWord 85 = .ok (.putfield 19, 3) := by decide +kernel
theorem dX4_takesWord_88 : decode cX4_takesWord 88 = .ok (.iconst 1, 1) := by decide +kernel
theorem dX4_takesWord_89 : decode cX4_takesWord 89 = .ok (.ireturn, 1) := by decide +kernel
theorem dX4_readWord_0 : decode cX4_readWord 0 = .ok (.aload_n 0, 1) := by decide +kernel
theorem dX4_readWord_1 : decode cX4_readWord 1 = .ok (.aload_n 1, 1) := by decide +kernel
theorem dX4_readWord_2 : decode cX4_readWord 2 = .ok (.invokevirtual 51, 3) := by decide +kernel
theorem dX4_readWord_5 : decode cX4_readWord 5 = .ok (.ifCond .ne 13, 3) := by decide +kernel
theorem dX4_readWord_8 : decode cX4_readWord 8 = .ok (.aload_n 0, 1) := by decide +kernel
theorem dX4_readWord_9 : decode cX4_readWord 9 = .ok (.bipush (-2), 2) := by decide +kernel
theorem dX4_readWord_11 : decode cX4_readWord 11 = .ok (.aload_n 0, 1) := by decide +kernel
theorem dX4_readWord_12 : decode cX4_readWord 12 = .ok (.getfield 19, 3) := by decide +kernel
theorem dX4_readWord_15 : decode cX4_readWord 15 = .ok (.invokevirtual 76, 3) := by decide +kernel
theorem dX4_readWord_18 : decode cX4_readWord 18 = .ok (.return_, 1) := by decide +kernel
theorem dX4_readNumber_0 : decode cX4_readNumber 0 = .ok (.aload_n 0, 1) := by decide +kernel
theorem dX4_readNumber_1 : decode cX4_readNumber 1 = .ok (.invokevirtual 86, 3) := by decide +kernel
theorem dX4_readNumber_4 : decode cX4_readNumber 4 = .ok (.ifCond .ne 15, 3) := by decide +kernel
theorem dX4_readNumber_7 : decode cX4_readNumber 7 = .ok (.aload_n 0, 1) := by decide +kernel
theorem dX4_readNumber_8 : decode cX4_readNumber 8 = .ok (.bipush (-2), 2) := by decide +kernel
theorem dX4_readNumber_10 : decode cX4_readNumber 10 = .ok (.aload_n 0, 1) := by decide +kernel
theorem dX4_readNumber_11 : decode cX4_readNumber 11 = .ok (.getfield 19, 3) := by decide +kernel
theorem dX4_readNumber_14 : decode cX4_readNumber 14 = .ok (.invokevirtual 76, 3) := by decide +kernel
theorem dX4_readNumber_17 : decode cX4_readNumber 17 = .ok (.iconst 0, 1) := by decide +kernel
theorem dX4_readNumber_18 : decode cX4_readNumber 18 = .ok (.ireturn, 1) := by decide +kernel
theorem dX4_readNumber_19 : decode cX4_readNumber 19 = .ok (.aload_n 0, 1) := by decide +kernel
theorem dX4_readNumber_20 : decode cX4_readNumber 20 = .ok (.getfield 19, 3) := by decide +kernel
theorem dX4_readNumber_23 : decode cX4_readNumber 23 = .ok (.istore_n 3, 1) := by decide +kernel
theorem dX4_readNumber_24 : decode cX4_readNumber 24 = .ok (.iconst 0, 1) := by decide +kernel
theorem dX4_readNumber_25 : decode cX4_readNumber 25 = .ok (.istore 4, 2) := by decide +kernel
theorem dX4_readNumber_27 : decode cX4_readNumber 27 = .ok (.aload_n 0, 1) := by decide +kernel
theorem dX4_readNumber_28 : decode cX4_readNumber 28 = .ok (.getfield 19, 3) := by decide +kernel
theorem dX4_readNumber_31 : decode cX4_readNumber 31 = .ok (.aload_n 0, 1) := by decide +kernel
theorem dX4_readNumber_32 : decode cX4_readNumber 32 = .ok (.getfield 15, 3) := by decide +kernel
theorem dX4_readNumber_35 : decode cX4_readNumber 35 = .ok (.if_icmp .ge 53, 3) := by decide +kernel
theorem dX4_readNumber_38 : decode cX4_readNumber 38 = .ok (.aload_n 0, 1) := by decide +kernel
theorem dX4_readNumber_39 : decode cX4_readNumber 39 = .ok (.aload_n 0, 1) := by decide +kernel
theorem dX4_readNumber_40 : decode cX4_readNumber 40 = .ok (.getfield 19, 3) := by decide +kernel
theorem dX4_readNumber_43 : decode cX4_readNumber 43 = .ok (.invokevirtual 119, 3) := by decide +kernel
theorem dX4_readNumber_46 : decode cX4_readNumber 46 = .ok (.ifCond .eq 42, 3) := by decide +kernel
theorem dX4_readNumber_49 : decode cX4_readNumber 49 = .ok (.iload 4, 2) := by decide +kernel
theorem dX4_readNumber_51 : decode cX4_readNumber 51 = .ok (.bipush 10, 2) := by decide +kernel
theorem dX4_readNumber_53 : decode cX4_readNumber 53 = .ok (.imul, 1) := by decide +kernel
theorem dX4_readNumber_54 : decode cX4_readNumber 54 = .ok (.aload_n 0, 1) := by decide +kernel
theorem dX4_readNumber_55 : decode cX4_readNumber 55 = .ok (.getfield 9, 3) := by decide +kernel
theorem dX4_readNumber_58 : decode cX4_readNumber 58 = .ok (.aload_n 0, 1) := by decide +kernel
theorem dX4_readNumber_59 : decode cX4_readNumber 59 = .ok (.getfield 19, 3) := by decide +kernel
theorem dX4_readNumber_62 : decode cX4_readNumber 62 = .ok (.iaload, 1) := by decide +kernel
theorem dX4_readNumber_63 : decode cX4_readNumber 63 = .ok (.iadd, 1) := by decide +kernel
theorem dX4_readNumber_64 : decode cX4_readNumber 64 = .ok (.bipush 48, 2) := by decide +kernel
theorem dX4_readNumber_66 : decode cX4_readNumber 66 = .ok (.isub, 1) := by decide +kernel
theorem dX4_readNumber_67 : decode cX4_readNumber 67 = .ok (.sipush 10000, 3) := by decide +kernel
theorem dX4_readNumber_70 : decode cX4_readNumber 70 = .ok (.invokestatic 31, 3) := by decide +kernel
theorem dX4_readNumber_73 : decode cX4_readNumber 73 = .ok (.istore 4, 2) := by decide +kernel
theorem dX4_readNumber_75 : decode cX4_readNumber 75 = .ok (.aload_n 0, 1) := by decide +kernel
theorem dX4_readNumber_76 : decode cX4_readNumber 76 = .ok (.dup, 1) := by decide +kernel
theorem dX4_readNumber_77 : decode cX4_readNumber 77 = .ok (.getfield 19, 3) := by decide +kernel
theorem dX4_readNumber_80 : decode cX4_readNumber 80 = .ok (.iconst 1, 1) := by decide +kernel
theorem dX4_readNumber_81 : decode cX4_readNumber 81 = .ok (.iadd, 1) := by decide +kernel
theorem dX4_readNumber_82 : decode cX4_readNumber 82 = .ok (.putfield 19, 3) := by decide +kernel
theorem dX4_readNumber_85 : decode cX4_readNumber 85 = .ok (.goto (-58), 3) := by decide +kernel
theorem dX4_readNumber_88 : decode cX4_readNumber 88 = .ok (.iload 4, 2) := by decide +kernel
theorem dX4_readNumber_90 : decode cX4_readNumber 90 = .ok (.iload_n 1, 1) := by decide +kernel
theorem dX4_readNumber_91 : decode cX4_readNumber 91 = .ok (.iload_n 2, 1) := by decide +kernel
theorem dX4_readNumber_92 : decode cX4_readNumber 92 = .ok (.invokestatic 135, 3) := by decide +kernel
theorem dX4_readNumber_95 : decode cX4_readNumber 95 = .ok (.ifCond .eq 12, 3) := by decide +kernel
theorem dX4_readNumber_98 : decode cX4_readNumber 98 = .ok (.aload_n 0, 1) := by decide +kernel
theorem dX4_readNumber_99 : decode cX4_readNumber 99 = .ok (.bipush (-3), 2) := by decide +kernel
theorem dX4_readNumber_101 : decode cX4_readNumber 101 = .ok (.iload_n 3, 1) := by decide +kernel
theorem dX4_readNumber_102 : decode cX4_readNumber 102 = .ok (.invokevirtual 76, 3) := by decide +kernel
theorem dX4_readNumber_105 : decode cX4_readNumber 105 = .ok (.iconst 0, 1) := by decide +kernel
theorem dX4_readNumber_106 : decode cX4_readNumber 106 = .ok (.ireturn, 1) := by decide +kernel
theorem dX4_readNumber_107 : decode cX4_readNumber 107 = .ok (.iload 4, 2) := by decide +kernel
theorem dX4_readNumber_109 : decode cX4_readNumber 109 = .ok (.ireturn, 1) := by decide +kernel
theorem dX4_readSemicolon_0 : decode cX4_readSemicolon 0 = .ok (.aload_n 0, 1) := by decide +kernel
theorem dX4_readSemicolon_1 : decode cX4_readSemicolon 1 = .ok (.invokevirtual 42, 3) := by decide +kernel
theorem dX4_readSemicolon_4 : decode cX4_readSemicolon 4 = .ok (.aload_n 0, 1) := by decide +kernel
theorem dX4_readSemicolon_5 : decode cX4_readSemicolon 5 = .ok (.getfield 25, 3) := by decide +kernel
theorem dX4_readSemicolon_8 : decode cX4_readSemicolon 8 = .ok (.ifCond .ne 41, 3) := by decide +kernel
theorem dX4_readSemicolon_11 : decode cX4_readSemicolon 11 = .ok (.aload_n 0, 1) := by decide +kernel
theorem dX4_readSemicolon_12 : decode cX4_readSemicolon 12 = .ok (.getfield 19, 3) := by decide +kernel
theorem dX4_readSemicolon_15 : decode cX4_readSemicolon 15 = .ok (.aload_n 0, 1) := by decide +kernel
theorem dX4_readSemicolon_16 : decode cX4_readSemicolon 16 = .ok (.getfield 15, 3) := by decide +kernel
theorem dX4_readSemicolon_19 : decode cX4_readSemicolon 19 = .ok (.if_icmp .ge 30, 3) := by decide +kernel
theorem dX4_readSemicolon_22 : decode cX4_readSemicolon 22 = .ok (.aload_n 0, 1) := by decide +kernel
theorem dX4_readSemicolon_23 : decode cX4_readSemicolon 23 = .ok (.getfield 9, 3) := by decide +kernel
theorem dX4_readSemicolon_26 : decode cX4_readSemicolon 26 = .ok (.aload_n 0, 1) := by decide +kernel
theorem dX4_readSemicolon_27 : decode cX4_readSemicolon 27 = .ok (.getfield 19, 3) := by decide +kernel
theorem dX4_readSemicolon_30 : decode cX4_readSemicolon 30 = .ok (.iaload, 1) := by decide +kernel
theorem dX4_readSemicolon_31 : decode cX4_readSemicolon 31 = .ok (.bipush 59, 2) := by decide +kernel
theorem dX4_readSemicolon_33 : decode cX4_readSemicolon 33 = .ok (.if_icmp .ne 16, 3) := by decide +kernel
theorem dX4_readSemicolon_36 : decode cX4_readSemicolon 36 = .ok (.aload_n 0, 1) := by decide +kernel
theorem dX4_readSemicolon_37 : decode cX4_readSemicolon 37 = .ok (.dup, 1) := by decide +kernel
theorem dX4_readSemicolon_38 : decode cX4_readSemicolon 38 = .ok (.getfield 19, 3) := by decide +kernel
theorem dX4_readSemicolon_41 : decode cX4_readSemicolon 41 = .ok (.iconst 1, 1) := by decide +kernel
theorem dX4_readSemicolon_42 : decode cX4_readSemicolon 42 = .ok (.iadd, 1) := by decide +kernel
theorem dX4_readSemicolon_43 : decode cX4_readSemicolon 43 = .ok (.putfield 19, 3) := by decide +kernel
theorem dX4_readSemicolon_46 : decode cX4_readSemicolon 46 = .ok (.goto 13, 3) := by decide +kernel
theorem dX4_readSemicolon_49 : decode cX4_readSemicolon 49 = .ok (.aload_n 0, 1) := by decide +kernel
theorem dX4_readSemicolon_50 : decode cX4_readSemicolon 50 = .ok (.bipush (-2), 2) := by decide +kernel
theorem dX4_readSemicolon_52 : decode cX4_readSemicolon 52 = .ok (.aload_n 0, 1) := by decide +kernel
theorem dX4_readSemicolon_53 : decode cX4_readSemicolon 53 = .ok (.getfield 19, 3) := by decide +kernel
theorem dX4_readSemicolon_56 : decode cX4_readSemicolon 56 = .ok (.invokevirtual 76, 3) := by decide +kernel
theorem dX4_readSemicolon_59 : decode cX4_readSemicolon 59 = .ok (.return_, 1) := by decide +kernel
theorem dX5_init_0 : decode cX5_init 0 = .ok (.aload_n 0, 1) := by decide +kernel
theorem dX5_init_1 : decode cX5_init 1 = .ok (.invokespecial 1, 3) := by decide +kernel
theorem dX5_init_4 : decode cX5_init 4 = .ok (.aload_n 0, 1) := by decide +kernel
theorem dX5_init_5 : decode cX5_init 5 = .ok (.sipush 600, 3) := by decide +kernel
theorem dX5_init_8 : decode cX5_init 8 = .ok (.newarray .int, 2) := by decide +kernel
theorem dX5_init_10 : decode cX5_init 10 = .ok (.putfield 9, 3) := by decide +kernel
theorem dX5_init_13 : decode cX5_init 13 = .ok (.aload_n 0, 1) := by decide +kernel
theorem dX5_init_14 : decode cX5_init 14 = .ok (.iconst 0, 1) := by decide +kernel
theorem dX5_init_15 : decode cX5_init 15 = .ok (.putfield 13, 3) := by decide +kernel
theorem dX5_init_18 : decode cX5_init 18 = .ok (.aload_n 0, 1) := by decide +kernel
theorem dX5_init_19 : decode cX5_init 19 = .ok (.iconst (-1), 1) := by decide +kernel
theorem dX5_init_20 : decode cX5_init 20 = .ok (.putfield 17, 3) := by decide +kernel
theorem dX5_init_23 : decode cX5_init 23 = .ok (.aload_n 0, 1) := by decide +kernel
theorem dX5_init_24 : decode cX5_init 24 = .ok (.new 20, 3) := by decide +kernel
theorem dX5_init_27 : decode cX5_init 27 = .ok (.dup, 1) := by decide +kernel
theorem dX5_init_28 : decode cX5_init 28 = .ok (.invokespecial 22, 3) := by decide +kernel
theorem dX5_init_31 : decode cX5_init 31 = .ok (.putfield 23, 3) := by decide +kernel
theorem dX5_init_34 : decode cX5_init 34 = .ok (.aload_n 0, 1) := by decide +kernel
theorem dX5_init_35 : decode cX5_init 35 = .ok (.new 27, 3) := by decide +kernel
theorem dX5_init_38 : decode cX5_init 38 = .ok (.dup, 1) := by decide +kernel
theorem dX5_init_39 : decode cX5_init 39 = .ok (.invokespecial 29, 3) := by decide +kernel
theorem dX5_init_42 : decode cX5_init 42 = .ok (.putfield 30, 3) := by decide +kernel
theorem dX5_init_45 : decode cX5_init 45 = .ok (.aload_n 0, 1) := by decide +kernel
theorem dX5_init_46 : decode cX5_init 46 = .ok (.new 27, 3) := by decide +kernel
theorem dX5_init_49 : decode cX5_init 49 = .ok (.dup, 1) := by decide +kernel
theorem dX5_init_50 : decode cX5_init 50 = .ok (.invokespecial 29, 3) := by decide +kernel
theorem dX5_init_53 : decode cX5_init 53 = .ok (.putfield 34, 3) := by decide +kernel
theorem dX5_init_56 : decode cX5_init 56 = .ok (.aload_n 0, 1) := by decide +kernel
theorem dX5_init_57 : decode cX5_init 57 = .ok (.new 37, 3) := by decide +kernel
theorem dX5_init_60 : decode cX5_init 60 = .ok (.dup, 1) := by decide +kernel
theorem dX5_init_61 : decode cX5_init 61 = .ok (.invokespecial 39, 3) := by decide +kernel
theorem dX5_init_64 : decode cX5_init 64 = .ok (.putfield 40, 3) := by decide +kernel
theorem dX5_init_67 : decode cX5_init 67 = .ok (.aload_n 0, 1) := by decide +kernel
theorem dX5_init_68 : decode cX5_init 68 = .ok (.new 44, 3) := by decide +kernel
theorem dX5_init_71 : decode cX5_init 71 = .ok (.dup, 1) := by decide +kernel
theorem dX5_init_72 : decode cX5_init 72 = .ok (.invokespecial 46, 3) := by decide +kernel
theorem dX5_init_75 : decode cX5_init 75 = .ok (.putfield 47, 3) := by decide +kernel
theorem dX5_init_78 : decode cX5_init 78 = .ok (.aload_n 0, 1) := by decide +kernel
theorem dX5_init_79 : decode cX5_init 79 = .ok (.new 44, 3) := by decide +kernel
theorem dX5_init_82 : decode cX5_init 82 = .ok (.dup, 1) := by decide +kernel
theorem dX5_init_83 : decode cX5_init 83 = .ok (.invokespecial 46, 3) := by decide +kernel
theorem dX5_init_86 : decode cX5_init 86 = .ok (.putfield 51, 3) := by decide +kernel
theorem dX5_init_89 : decode cX5_init 89 = .ok (.aload_n 0, 1) := by decide +kernel
theorem dX5_init_90 : decode cX5_init 90 = .ok (.new 54, 3) := by decide +kernel
theorem dX5_init_93 : decode cX5_init 93 = .ok (.dup, 1) := by decide +kernel
theorem dX5_init_94 : decode cX5_init 94 = .ok (.invokespecial 56, 3) := by decide +kernel
theorem dX5_init_97 : decode cX5_init 97 = .ok (.putfield 57, 3) := by decide +kernel
theorem dX5_init_100 : decode cX5_init 100 = .ok (.aload_n 0, 1) := by decide +kernel
theorem dX5_init_101 : decode cX5_init 101 = .ok (.bipush 8, 2) := by decide +kernel
theorem dX5_init_103 : decode cX5_init 103 = .ok (.newarray .int, 2) := by decide +kernel
theorem dX5_init_105 : decode cX5_init 105 = .ok (.putfield 61, 3) := by decide +kernel
theorem dX5_init_108 : decode cX5_init 108 = .ok (.aload_n 0, 1) := by decide +kernel
theorem dX5_init_109 : decode cX5_init 109 = .ok (.iconst 0, 1) := by decide +kernel
theorem dX5_init_110 : decode cX5_init 110 = .ok (.putfield 64, 3) := by decide +kernel
theorem dX5_init_113 : decode cX5_init 113 = .ok (.return_, 1) := by decide +kernel
theorem dX5_append_0 : decode cX5_append 0 = .ok (.aload_n 0, 1) := by decide +kernel
theorem dX5_append_1 : decode cX5_append 1 = .ok (.getfield 13, 3) := by decide +kernel
theorem dX5_append_4 : decode cX5_append 4 = .ok (.bipush 20, 2) := by decide +kernel
theorem dX5_append_6 : decode cX5_append 6 = .ok (.iadd, 1) := by decide +kernel
theorem dX5_append_7 : decode cX5_append 7 = .ok (.sipush 600, 3) := by decide +kernel
theorem dX5_append_10 : decode cX5_append 10 = .ok (.if_icmp .le 13, 3) := by decide +kernel
theorem dX5_append_13 : decode cX5_append 13 = .ok (.new 68, 3) := by decide +kernel
theorem dX5_append_16 : decode cX5_append 16 = .ok (.dup, 1) := by decide +kernel
theorem dX5_append_17 : decode cX5_append 17 = .ok (.ldc 70, 2) := by decide +kernel
theorem dX5_append_19 : decode cX5_append 19 = .ok (.invokespecial 72, 3) := by decide +kernel
theorem dX5_append_22 : decode cX5_append 22 = .ok (.athrow, 1) := by decide +kernel
theorem dX5_append_23 : decode cX5_append 23 = .ok (.aload_n 0, 1) := by decide +kernel
theorem dX5_append_24 : decode cX5_append 24 = .ok (.iload_n 1, 1) := by decide +kernel
theorem dX5_append_25 : decode cX5_append 25 = .ok (.invokevirtual 75, 3) := by decide +kernel
theorem dX5_append_28 : decode cX5_append 28 = .ok (.aload_n 0, 1) := by decide +kernel
theorem dX5_append_29 : decode cX5_append 29 = .ok (.iload_n 2, 1) := by decide +kernel
theorem dX5_append_30 : decode cX5_append 30 = .ok (.invokevirtual 75, 3) := by decide +kernel
theorem dX5_append_33 : decode cX5_append 33 = .ok (.aload_n 0, 1) := by decide +kernel
theorem dX5_append_34 : decode cX5_append 34 = .ok (.iload_n 3, 1) := by decide +kernel
theorem dX5_append_35 : decode cX5_append 35 = .ok (.invokevirtual 75, 3) := by decide +kernel
theorem dX5_append_38 : decode cX5_append 38 = .ok (.aload_n 0, 1) := by decide +kernel
theorem dX5_append_39 : decode cX5_append 39 = .ok (.iload 4, 2) := by decide +kernel
theorem dX5_append_41 : decode cX5_append 41 = .ok (.invokevirtual 75, 3) := by decide +kernel
theorem dX5_append_44 : decode cX5_append 44 = .ok (.aload_n 0, 1) := by decide +kernel
theorem dX5_append_45 : decode cX5_append 45 = .ok (.iload 5, 2) := by decide +kernel
theorem dX5_append_47 : decode cX5_append 47 = .ok (.invokevirtual 75, 3) := by decide +kernel
theorem dX5_append_50 : decode cX5_append 50 = .ok (.aload_n 0, 1) := by decide +kernel
theorem dX5_append_51 : decode cX5_append 51 = .ok (.getfield 13, 3) := by decide +kernel
theorem dX5_append_54 : decode cX5_append 54 = .ok (.ireturn, 1) := by decide +kernel
theorem dX5_appendFour_0 : decode cX5_appendFour 0 = .ok (.bipush 24, 2) := by decide +kernel
theorem dX5_appendFour_2 : decode cX5_appendFour 2 = .ok (.istore_n 2, 1) := by decide +kernel
theorem dX5_appendFour_3 : decode cX5_appendFour 3 = .ok (.iload_n 2, 1) := by decide +kernel
theorem dX5_appendFour_4 : decode cX5_appendFour 4 = .ok (.ifCond .lt 45, 3) := by decide +kernel
theorem dX5_appendFour_7 : decode cX5_appendFour 7 = .ok (.aload_n 0, 1) := by decide +kernel
theorem dX5_appendFour_8 : decode cX5_appendFour 8 = .ok (.getfield 13, 3) := by decide +kernel
theorem dX5_appendFour_11 : decode cX5_appendFour 11 = .ok (.sipush 600, 3) := by decide +kernel
theorem dX5_appendFour_14 : decode cX5_appendFour 14 = .ok (.if_icmp .ge 35, 3) := by decide +kernel
theorem dX5_appendFour_17 : decode cX5_appendFour 17 = .ok (.aload_n 0, 1) := by decide +kernel
theorem dX5_appendFour_18 : decode cX5_appendFour 18 = .ok (.getfield 9, 3) := by decide +kernel
theorem dX5_appendFour_21 : decode cX5_appendFour 21 = .ok (.aload_n 0, 1) := by decide +kernel
theorem dX5_appendFour_22 : decode cX5_appendFour 22 = .ok (.getfield 13, 3) := by decide +kernel
theorem dX5_appendFour_25 : decode cX5_appendFour 25 = .ok (.iload_n 1, 1) := by decide +kernel
theorem dX5_appendFour_26 : decode cX5_appendFour 26 = .ok (.iload_n 2, 1) := by decide +kernel
theorem dX5_appendFour_27 : decode cX5_appendFour 27 = .ok (.iushr, 1) := by decide +kernel
theorem dX5_appendFour_28 : decode cX5_appendFour 28 = .ok (.sipush 255, 3) := by decide +kernel
theorem dX5_appendFour_31 : decode cX5_appendFour 31 = .ok (.iand, 1) := by decide +kernel
theorem dX5_appendFour_32 : decode cX5_appendFour 32 = .ok (.iastore, 1) := by decide +kernel
theorem dX5_appendFour_33 : decode cX5_appendFour 33 = .ok (.aload_n 0, 1) := by decide +kernel
theorem dX5_appendFour_34 : decode cX5_appendFour 34 = .ok (.dup, 1) := by decide +kernel
theorem dX5_appendFour_35 : decode cX5_appendFour 35 = .ok (.getfield 13, 3) := by decide +kernel
theorem dX5_appendFour_38 : decode cX5_appendFour 38 = .ok (.iconst 1, 1) := by decide +kernel
theorem dX5_appendFour_39 : decode cX5_appendFour 39 = .ok (.iadd, 1) := by decide +kernel
theorem dX5_appendFour_40 : decode cX5_appendFour 40 = .ok (.putfield 13, 3) := by decide +kernel
theorem dX5_appendFour_43 : decode cX5_appendFour 43 = .ok (.iinc 2 (-8), 3) := by decide +kernel
theorem dX5_appendFour_46 : decode cX5_appendFour 46 = .ok (.goto (-43), 3) := by decide +kernel
theorem dX5_appendFour_49 : decode cX5_appendFour 49 = .ok (.return_, 1) := by decide +kernel
theorem dX5_load_0 : decode cX5_load 0 = .ok (.iload_n 1, 1) := by decide +kernel
theorem dX5_load_1 : decode cX5_load 1 = .ok (.ifCond .lt 11, 3) := by decide +kernel
theorem dX5_load_4 : decode cX5_load 4 = .ok (.iload_n 1, 1) := by decide +kernel
theorem dX5_load_5 : decode cX5_load 5 = .ok (.aload_n 0, 1) := by decide +kernel
theorem dX5_load_6 : decode cX5_load 6 = .ok (.getfield 13, 3) := by decide +kernel
theorem dX5_load_9 : decode cX5_load 9 = .ok (.if_icmp .le 13, 3) := by decide +kernel
theorem dX5_load_12 : decode cX5_load 12 = .ok (.new 79, 3) := by decide +kernel
theorem dX5_load_15 : decode cX5_load 15 = .ok (.dup, 1) := by decide +kernel
theorem dX5_load_16 : decode cX5_load 16 = .ok (.ldc 81, 2) := by decide +kernel
theorem dX5_load_18 : decode cX5_load 18 = .ok (.invokespecial 83, 3) := by decide +kernel
theorem dX5_load_21 : decode cX5_load 21 = .ok (.athrow, 1) := by decide +kernel
theorem dX5_load_22 : decode cX5_load 22 = .ok (.aload_n 0, 1) := by decide +kernel
theorem dX5_load_23 : decode cX5_load 23 = .ok (.getfield 23, 3) := by decide +kernel
theorem dX5_load_26 : decode cX5_load 26 = .ok (.aload_n 0, 1) := by decide +kernel
theorem dX5_load_27 : decode cX5_load 27 = .ok (.getfield 9, 3) := by decide +kernel
theorem dX5_load_30 : decode cX5_load 30 = .ok (.iload_n 1, 1) := by decide +kernel
theorem dX5_load_31 : decode cX5_load 31 = .ok (.aload_n 0, 1) := by decide +kernel
theorem dX5_load_32 : decode cX5_load 32 = .ok (.getfield 34, 3) := by decide +kernel
theorem dX5_load_35 : decode cX5_load 35 = .ok (.invokevirtual 84, 3) := by decide +kernel
theorem dX5_load_38 : decode cX5_load 38 = .ok (.istore_n 2, 1) := by decide +kernel
theorem dX5_load_39 : decode cX5_load 39 = .ok (.aload_n 0, 1) := by decide +kernel
theorem dX5_load_40 : decode cX5_load 40 = .ok (.aload_n 0, 1) := by decide +kernel
theorem dX5_load_41 : decode cX5_load 41 = .ok (.getfield 23, 3) := by decide +kernel
theorem dX5_load_44 : decode cX5_load 44 = .ok (.getfield 88, 3) := by decide +kernel
theorem dX5_load_47 : decode cX5_load 47 = .ok (.putfield 17, 3) := by decide +kernel
theorem dX5_load_50 : decode cX5_load 50 = .ok (.aload_n 0, 1) := by decide +kernel
theorem dX5_load_51 : decode cX5_load 51 = .ok (.iconst 0, 1) := by decide +kernel
theorem dX5_load_52 : decode cX5_load 52 = .ok (.putfield 13, 3) := by decide +kernel
theorem dX5_load_55 : decode cX5_load 55 = .ok (.iload_n 2, 1) := by decide +kernel
theorem dX5_load_56 : decode cX5_load 56 = .ok (.ifCond .lt 30, 3) := by decide +kernel
theorem dX5_load_59 : decode cX5_load 59 = .ok (.aload_n 0, 1) := by decide +kernel
theorem dX5_load_60 : decode cX5_load 60 = .ok (.getfield 40, 3) := by decide +kernel
theorem dX5_load_63 : decode cX5_load 63 = .ok (.aload_n 0, 1) := by decide +kernel
theorem dX5_load_64 : decode cX5_load 64 = .ok (.getfield 30, 3) := by decide +kernel
theorem dX5_load_67 : decode cX5_load 67 = .ok (.invokevirtual 89, 3) := by decide +kernel
theorem dX5_load_70 : decode cX5_load 70 = .ok (.aload_n 0, 1) := by decide +kernel
theorem dX5_load_71 : decode cX5_load 71 = .ok (.getfield 30, 3) := by decide +kernel
theorem dX5_load_74 : decode cX5_load 74 = .ok (.aload_n 0, 1) := by decide +kernel
theorem dX5_load_75 : decode cX5_load 75 = .ok (.getfield 34, 3) := by decide +kernel
theorem dX5_load_78 : decode cX5_load 78 = .ok (.invokevirtual 93, 3) := by decide +kernel
theorem dX5_load_81 : decode cX5_load 81 = .ok (.aload_n 0, 1) := by decide +kernel
theorem dX5_load_82 : decode cX5_load 82 = .ok (.iconst 0, 1) := by decide +kernel
theorem dX5_load_83 : decode cX5_load 83 = .ok (.putfield 64, 3) := by decide +kernel
theorem dX5_load_86 : decode cX5_load 86 = .ok (.iload_n 2, 1) := by decide +kernel
theorem dX5_load_87 : decode cX5_load 87 = .ok (.ireturn, 1) := by decide +kernel
theorem dX5_errorPosition_0 : decode cX5_errorPosition 0 = .ok (.aload_n 0, 1) := by decide +kernel
theorem dX5_errorPosition_1 : decode cX5_errorPosition 1 = .ok (.getfield 17, 3) := by decide +kernel
theorem dX5_errorPosition_4 : decode cX5_errorPosition 4 = .ok (.ireturn, 1) := by decide +kernel
theorem dX5_pitchCount_0 : decode cX5_pitchCount 0 = .ok (.aload_n 0, 1) := by decide +kernel
theorem dX5_pitchCount_1 : decode cX5_pitchCount 1 = .ok (.getfield 30, 3) := by decide +kernel
theorem dX5_pitchCount_4 : decode cX5_pitchCount 4 = .ok (.getfield 96, 3) := by decide +kernel
theorem dX5_pitchCount_7 : decode cX5_pitchCount 7 = .ok (.ireturn, 1) := by decide +kernel
theorem dX5_row_0 : decode cX5_row 0 = .ok (.aload_n 0, 1) := by decide +kernel
theorem dX5_row_1 : decode cX5_row 1 = .ok (.iload_n 1, 1) := by decide +kernel
theorem dX5_row_2 : decode cX5_row 2 = .ok (.invokevirtual 99, 3) := by decide +kernel
theorem dX5_row_5 : decode cX5_row 5 = .ok (.aload_n 0, 1) := by decide +kernel
theorem dX5_row_6 : decode cX5_row 6 = .ok (.getfield 30, 3) := by decide +kernel
theorem dX5_row_9 : decode cX5_row 9 = .ok (.getfield 102, 3) := by decide +kernel
theorem dX5_row_12 : decode cX5_row 12 = .ok (.iload_n 1, 1) := by decide +kernel
theorem dX5_row_13 : decode cX5_row 13 = .ok (.iaload, 1) := by decide +kernel
theorem dX5_row_14 : decode cX5_row 14 = .ok (.ireturn, 1) := by decide +kernel
theorem dX5_rent_0 : decode cX5_rent 0 = .ok (.aload_n 0, 1) := by decide +kernel
theorem dX5_rent_1 : decode cX5_rent 1 = .ok (.iload_n 1, 1) := by decide +kernel
theorem dX5_rent_2 : decode cX5_rent 2 = .ok (.invokevirtual 99, 3) := by decide +kernel
theorem dX5_rent_5 : decode cX5_rent 5 = .ok (.aload_n 0, 1) := by decide +kernel
theorem dX5_rent_6 : decode cX5_rent 6 = .ok (.getfield 30, 3) := by decide +kernel
theorem dX5_rent_9 : decode cX5_rent 9 = .ok (.getfield 105, 3) := by decide +kernel
theorem dX5_rent_12 : decode cX5_rent 12 = .ok (.iload_n 1, 1) := by decide +kernel
theorem dX5_rent_13 : decode cX5_rent 13 = .ok (.iaload, 1) := by decide +kernel
theorem dX5_rent_14 : decode cX5_rent 14 = .ok (.ireturn, 1) := by decide +kernel
theorem dX5_isRoofed_0 : decode cX5_isRoofed 0 = .ok (.aload_n 0, 1) := by decide +kernel
theorem dX5_isRoofed_1 : decode cX5_isRoofed 1 = .ok (.iload_n 1, 1) := by decide +kernel
theorem dX5_isRoofed_2 : decode cX5_isRoofed 2 = .ok (.invokevirtual 99, 3) := by decide +kernel
theorem dX5_isRoofed_5 : decode cX5_isRoofed 5 = .ok (.aload_n 0, 1) := by decide +kernel
theorem dX5_isRoofed_6 : decode cX5_isRoofed 6 = .ok (.getfield 30, 3) := by decide +kernel
theorem dX5_isRoofed_9 : decode cX5_isRoofed 9 = .ok (.getfield 108, 3) := by decide +kernel
theorem dX5_isRoofed_12 : decode cX5_isRoofed 12 = .ok (.iload_n 1, 1) := by decide +kernel
theorem dX5_isRoofed_13 : decode cX5_isRoofed 13 = .ok (.baload, 1) := by decide +kernel
theorem dX5_isRoofed_14 : decode cX5_isRoofed 14 = .ok (.ireturn, 1) := by decide +kernel
theorem dX5_setRent_0 : decode cX5_setRent 0 = .ok (.aload_n 0, 1) := by decide +kernel
theorem dX5_setRent_1 : decode cX5_setRent 1 = .ok (.iload_n 1, 1) := by decide +kernel
theorem dX5_setRent_2 : decode cX5_setRent 2 = .ok (.invokevirtual 99, 3) := by decide +kernel
theorem dX5_setRent_5 : decode cX5_setRent 5 = .ok (.iload_n 2, 1) := by decide +kernel
theorem dX5_setRent_6 : decode cX5_setRent 6 = .ok (.iconst 1, 1) := by decide +kernel
theorem dX5_setRent_7 : decode cX5_setRent 7 = .ok (.sipush 999, 3) := by decide +kernel
theorem dX5_setRent_10 : decode cX5_setRent 10 = .ok (.invokestatic 112, 3) := by decide +kernel
theorem dX5_setRent_13 : decode cX5_setRent 13 = .ok (.ifCond .eq 13, 3) := by decide +kernel
theorem dX5_setRent_16 : decode cX5_setRent 16 = .ok (.new 79, 3) := by decide +kernel
theorem dX5_setRent_19 : decode cX5_setRent 19 = .ok (.dup, 1) := by decide +kernel
theorem dX5_setRent_20 : decode cX5_setRent 20 = .ok (.ldc 116, 2) := by decide +kernel
theorem dX5_setRent_22 : decode cX5_setRent 22 = .ok (.invokespecial 83, 3) := by decide +kernel
theorem dX5_setRent_25 : decode cX5_setRent 25 = .ok (.athrow, 1) := by decide +kernel
theorem dX5_setRent_26 : decode cX5_setRent 26 = .ok (.aload_n 0, 1) := by decide +kernel
theorem dX5_setRent_27 : decode cX5_setRent 27 = .ok (.getfield 40, 3) := by decide +kernel
theorem dX5_setRent_30 : decode cX5_setRent 30 = .ok (.aload_n 0, 1) := by decide +kernel
theorem dX5_setRent_31 : decode cX5_setRent 31 = .ok (.getfield 30, 3) := by decide +kernel
theorem dX5_setRent_34 : decode cX5_setRent 34 = .ok (.invokevirtual 89, 3) := by decide +kernel
theorem dX5_setRent_37 : decode cX5_setRent 37 = .ok (.aload_n 0, 1) := by decide +kernel
theorem dX5_setRent_38 : decode cX5_setRent 38 = .ok (.iconst 0, 1) := by decide +kernel
theorem dX5_setRent_39 : decode cX5_setRent 39 = .ok (.putfield 64, 3) := by decide +kernel
theorem dX5_setRent_42 : decode cX5_setRent 42 = .ok (.aload_n 0, 1) := by decide +kernel
theorem dX5_setRent_43 : decode cX5_setRent 43 = .ok (.getfield 30, 3) := by decide +kernel
theorem dX5_setRent_46 : decode cX5_setRent 46 = .ok (.getfield 105, 3) := by decide +kernel
theorem dX5_setRent_49 : decode cX5_setRent 49 = .ok (.iload_n 1, 1) := by decide +kernel
theorem dX5_setRent_50 : decode cX5_setRent 50 = .ok (.iload_n 2, 1) := by decide +kernel
theorem dX5_setRent_51 : decode cX5_setRent 51 = .ok (.iastore, 1) := by decide +kernel
theorem dX5_setRent_52 : decode cX5_setRent 52 = .ok (.aload_n 0, 1) := by decide +kernel
theorem dX5_setRent_53 : decode cX5_setRent 53 = .ok (.getfield 30, 3) := by decide +kernel
theorem dX5_setRent_56 : decode cX5_setRent 56 = .ok (.getfield 118, 3) := by decide +kernel
theorem dX5_setRent_59 : decode cX5_setRent 59 = .ok (.iload_n 1, 1) := by decide +kernel
theorem dX5_setRent_60 : decode cX5_setRent 60 = .ok (.iaload, 1) := by decide +kernel
theorem dX5_setRent_61 : decode cX5_setRent 61 = .ok (.istore_n 3, 1) := by decide +kernel
theorem dX5_setRent_62 : decode cX5_setRent 62 = .ok (.iload_n 3, 1) := by decide +kernel
theorem dX5_setRent_63 : decode cX5_setRent 63 = .ok (.iconst (-1), 1) := by decide +kernel
theorem dX5_setRent_64 : decode cX5_setRent 64 = .ok (.if_icmp .eq 23, 3) := by decide +kernel
theorem dX5_setRent_67 : decode cX5_setRent 67 = .ok (.aload_n 0, 1) := by decide +kernel
theorem dX5_setRent_68 : decode cX5_setRent 68 = .ok (.getfield 30, 3) := by decide +kernel
theorem dX5_setRent_71 : decode cX5_setRent 71 = .ok (.iload_n 3, 1) := by decide +kernel
theorem dX5_setRent_72 : decode cX5_setRent 72 = .ok (.aload_n 0, 1) := by decide +kernel
theorem dX5_setRent_73 : decode cX5_setRent 73 = .ok (.getfield 30, 3) := by decide +kernel
theorem dX5_setRent_76 : decode cX5_setRent 76 = .ok (.getfield 121, 3) := by decide +kernel
theorem dX5_setRent_79 : decode cX5_setRent 79 = .ok (.iload_n 3, 1) := by decide +kernel
theorem dX5_setRent_80 : decode cX5_setRent 80 = .ok (.iaload, 1) := by decide +kernel
theorem dX5_setRent_81 : decode cX5_setRent 81 = .ok (.invokevirtual 124, 3) := by decide +kernel
theorem dX5_setRent_84 : decode cX5_setRent 84 = .ok (.ifCond .eq 5, 3) := by decide +kernel
theorem dX5_setRent_87 : decode cX5_setRent 87 = .ok (.iconst (-1), 1) := by decide +kernel
theorem dX5_setRent_88 : decode cX5_setRent 88 = .ok (.ireturn, 1) := by decide +kernel
theorem dX5_setRent_89 : decode cX5_setRent 89 = .ok (.aload_n 0, 1) := by decide +kernel
theorem dX5_setRent_90 : decode cX5_setRent 90 = .ok (.getfield 30, 3) := by decide +kernel
theorem dX5_setRent_93 : decode cX5_setRent 93 = .ok (.iload_n 3, 1) := by decide +kernel
theorem dX5_setRent_94 : decode cX5_setRent 94 = .ok (.invokevirtual 128, 3) := by decide +kernel
theorem dX5_setRent_97 : decode cX5_setRent 97 = .ok (.iload_n 3, 1) := by decide +kernel
theorem dX5_setRent_98 : decode cX5_setRent 98 = .ok (.ireturn, 1) := by decide +kernel
theorem dX5_traderCount_0 : decode cX5_traderCount 0 = .ok (.aload_n 0, 1) := by decide +kernel
theorem dX5_traderCount_1 : decode cX5_traderCount 1 = .ok (.getfield 30, 3) := by decide +kernel
theorem dX5_traderCount_4 : decode cX5_traderCount 4 = .ok (.getfield 131, 3) := by decide +kernel
theorem dX5_traderCount_7 : decode cX5_traderCount 7 = .ok (.ireturn, 1) := by decide +kernel
theorem dX5_trade_0 : decode cX5_trade 0 = .ok (.aload_n 0, 1) := by decide +kernel
theorem dX5_trade_1 : decode cX5_trade 1 = .ok (.iload_n 1, 1) := by decide +kernel
theorem dX5_trade_2 : decode cX5_trade 2 = .ok (.invokevirtual 134, 3) := by decide +kernel
theorem dX5_trade_5 : decode cX5_trade 5 = .ok (.aload_n 0, 1) := by decide +kernel
theorem dX5_trade_6 : decode cX5_trade 6 = .ok (.getfield 30, 3) := by decide +kernel
theorem dX5_trade_9 : decode cX5_trade 9 = .ok (.getfield 137, 3) := by decide +kernel
theorem dX5_trade_12 : decode cX5_trade 12 = .ok (.iload_n 1, 1) := by decide +kernel
theorem dX5_trade_13 : decode cX5_trade 13 = .ok (.iaload, 1) := by decide +kernel
theorem dX5_trade_14 : decode cX5_trade 14 = .ok (.ireturn, 1) := by decide +kernel
theorem dX5_frontage_0 : decode cX5_frontage 0 = .ok (.aload_n 0, 1) := by decide +kernel
theorem dX5_frontage_1 : decode cX5_frontage 1 = .ok (.iload_n 1, 1) := by decide +kernel
theorem dX5_frontage_2 : decode cX5_frontage 2 = .ok (.invokevirtual 134, 3) := by decide +kernel
theorem dX5_frontage_5 : decode cX5_frontage 5 = .ok (.aload_n 0, 1) := by decide +kernel
theorem dX5_frontage_6 : decode cX5_frontage 6 = .ok (.getfield 30, 3) := by decide +kernel
theorem dX5_frontage_9 : decode cX5_frontage 9 = .ok (.getfield 140, 3) := by decide +kernel
theorem dX5_frontage_12 : decode cX5_frontage 12 = .ok (.iload_n 1, 1) := by decide +kernel
theorem dX5_frontage_13 : decode cX5_frontage 13 = .ok (.iaload, 1) := by decide +kernel
theorem dX5_frontage_14 : decode cX5_frontage 14 = .ok (.ireturn, 1) := by decide +kernel
theorem dX5_addTrader_0 : decode cX5_addTrader 0 = .ok (.iload_n 1, 1) := by decide +kernel
theorem dX5_addTrader_1 : decode cX5_addTrader 1 = .ok (.invokestatic 143, 3) := by decide +kernel
theorem dX5_addTrader_4 : decode cX5_addTrader 4 = .ok (.ifCond .ne 23, 3) := by decide +kernel
theorem dX5_addTrader_7 : decode cX5_addTrader 7 = .ok (.iload_n 2, 1) := by decide +kernel
theorem dX5_addTrader_8 : decode cX5_addTrader 8 = .ok (.iconst 1, 1) := by decide +kernel
theorem dX5_addTrader_9 : decode cX5_addTrader 9 = .ok (.iconst 3, 1) := by decide +kernel
theorem dX5_addTrader_10 : decode cX5_addTrader 10 = .ok (.invokestatic 112, 3) := by decide +kernel
theorem dX5_addTrader_13 : decode cX5_addTrader 13 = .ok (.ifCond .ne 14, 3) := by decide +kernel
theorem dX5_addTrader_16 : decode cX5_addTrader 16 = .ok (.iload_n 3, 1) := by decide +kernel
theorem dX5_addTrader_17 : decode cX5_addTrader 17 = .ok (.iconst 1, 1) := by decide +kernel
theorem dX5_addTrader_18 : decode cX5_addTrader 18 = .ok (.sipush 9999, 3) := by decide +kernel
theorem dX5_addTrader_21 : decode cX5_addTrader 21 = .ok (.invokestatic 112, 3) := by decide +kernel
theorem dX5_addTrader_24 : decode cX5_addTrader 24 = .ok (.ifCond .eq 13, 3) := by decide +kernel
theorem dX5_addTrader_27 : decode cX5_addTrader 27 = .ok (.new 79, 3) := by decide +kernel
theorem dX5_addTrader_30 : decode cX5_addTrader 30 = .ok (.dup, 1) := by decide +kernel
theorem dX5_addTrader_31 : decode cX5_addTrader 31 = .ok (.ldc 147, 2) := by decide +kernel
theorem dX5_addTrader_33 : decode cX5_addTrader 33 = .ok (.invokespecial 83, 3) := by decide +kernel
theorem dX5_addTrader_36 : decode cX5_addTrader 36 = .ok (.athrow, 1) := by decide +kernel
theorem dX5_addTrader_37 : decode cX5_addTrader 37 = .ok (.aload_n 0, 1) := by decide +kernel
theorem dX5_addTrader_38 : decode cX5_addTrader 38 = .ok (.getfield 30, 3) := by decide +kernel
theorem dX5_addTrader_41 : decode cX5_addTrader 41 = .ok (.getfield 131, 3) := by decide +kernel
theorem dX5_addTrader_44 : decode cX5_addTrader 44 = .ok (.bipush 8, 2) := by decide +kernel
theorem dX5_addTrader_46 : decode cX5_addTrader 46 = .ok (.if_icmp .lt 13, 3) := by decide +kernel
theorem dX5_addTrader_49 : decode cX5_addTrader 49 = .ok (.new 68, 3) := by decide +kernel
theorem dX5_addTrader_52 : decode cX5_addTrader 52 = .ok (.dup, 1) := by decide +kernel
theorem dX5_addTrader_53 : decode cX5_addTrader 53 = .ok (.ldc 149, 2) := by decide +kernel
theorem dX5_addTrader_55 : decode cX5_addTrader 55 = .ok (.invokespecial 72, 3) := by decide +kernel
theorem dX5_addTrader_58 : decode cX5_addTrader 58 = .ok (.athrow, 1) := by decide +kernel
theorem dX5_addTrader_59 : decode cX5_addTrader 59 = .ok (.aload_n 0, 1) := by decide +kernel
theorem dX5_addTrader_60 : decode cX5_addTrader 60 = .ok (.getfield 40, 3) := by decide +kernel
theorem dX5_addTrader_63 : decode cX5_addTrader 63 = .ok (.aload_n 0, 1) := by decide +kernel
theorem dX5_addTrader_64 : decode cX5_addTrader 64 = .ok (.getfield 30, 3) := by decide +kernel
theorem dX5_addTrader_67 : decode cX5_addTrader 67 = .ok (.invokevirtual 89, 3) := by decide +kernel
theorem dX5_addTrader_70 : decode cX5_addTrader 70 = .ok (.aload_n 0, 1) := by decide +kernel
theorem dX5_addTrader_71 : decode cX5_addTrader 71 = .ok (.iconst 0, 1) := by decide +kernel
theorem dX5_addTrader_72 : decode cX5_addTrader 72 = .ok (.putfield 64, 3) := by decide +kernel
theorem dX5_addTrader_75 : decode cX5_addTrader 75 = .ok (.aload_n 0, 1) := by decide +kernel
theorem dX5_addTrader_76 : decode cX5_addTrader 76 = .ok (.getfield 30, 3) := by decide +kernel
theorem dX5_addTrader_79 : decode cX5_addTrader 79 = .ok (.iload_n 1, 1) := by decide +kernel
theorem dX5_addTrader_80 : decode cX5_addTrader 80 = .ok (.iload_n 2, 1) := by decide +kernel
theorem dX5_addTrader_81 : decode cX5_addTrader 81 = .ok (.iload_n 3, 1) := by decide +kernel
theorem dX5_addTrader_82 : decode cX5_addTrader 82 = .ok (.iload 4, 2) := by decide +kernel
theorem dX5_addTrader_84 : decode cX5_addTrader 84 = .ok (.invokevirtual 151, 3) := by decide +kernel
theorem dX5_addTrader_87 : decode cX5_addTrader 87 = .ok (.aload_n 0, 1) := by decide +kernel
theorem dX5_addTrader_88 : decode cX5_addTrader 88 = .ok (.getfield 30, 3) := by decide +kernel
theorem dX5_addTrader_91 : decode cX5_addTrader 91 = .ok (.getfield 131, 3) := by decide +kernel
theorem dX5_addTrader_94 : decode cX5_addTrader 94 = .ok (.iconst 1, 1) := by decide +kernel
theorem dX5_addTrader_95 : decode cX5_addTrader 95 = .ok (.isub, 1) := by decide +kernel
theorem dX5_addTrader_96 : decode cX5_addTrader 96 = .ok (.ireturn, 1) := by decide +kernel
theorem dX5_clash_0 : decode cX5_clash 0 = .ok (.iload_n 1, 1) := by decide +kernel
theorem dX5_clash_1 : decode cX5_clash 1 = .ok (.iload_n 2, 1) := by decide +kernel
theorem dX5_clash_2 : decode cX5_clash 2 = .ok (.invokestatic 155, 3) := by decide +kernel
theorem dX5_clash_5 : decode cX5_clash 5 = .ok (.aload_n 0, 1) := by decide +kernel
theorem dX5_clash_6 : decode cX5_clash 6 = .ok (.getfield 30, 3) := by decide +kernel
theorem dX5_clash_9 : decode cX5_clash 9 = .ok (.iload_n 1, 1) := by decide +kernel
theorem dX5_clash_10 : decode cX5_clash 10 = .ok (.iload_n 2, 1) := by decide +kernel
theorem dX5_clash_11 : decode cX5_clash 11 = .ok (.invokevirtual 159, 3) := by decide +kernel
theorem dX5_clash_14 : decode cX5_clash 14 = .ok (.ireturn, 1) := by decide +kernel
theorem dX5_setClash_0 : decode cX5_setClash 0 = .ok (.iload_n 1, 1) := by decide +kernel
theorem dX5_setClash_1 : decode cX5_setClash 1 = .ok (.iload_n 2, 1) := by decide +kernel
theorem dX5_setClash_2 : decode cX5_setClash 2 = .ok (.invokestatic 155, 3) := by decide +kernel
theorem dX5_setClash_5 : decode cX5_setClash 5 = .ok (.iload_n 3, 1) := by decide +kernel
theorem dX5_setClash_6 : decode cX5_setClash 6 = .ok (.ifCond .eq 25, 3) := by decide +kernel
theorem dX5_setClash_9 : decode cX5_setClash 9 = .ok (.aload_n 0, 1) := by decide +kernel
theorem dX5_setClash_10 : decode cX5_setClash 10 = .ok (.getfield 30, 3) := by decide +kernel
theorem dX5_setClash_13 : decode cX5_setClash 13 = .ok (.iload_n 1, 1) := by decide +kernel
theorem dX5_setClash_14 : decode cX5_setClash 14 = .ok (.iload_n 2, 1) := by decide +kernel
theorem dX5_setClash_15 : decode cX5_setClash 15 = .ok (.invokevirtual 162, 3) := by decide +kernel
theorem dX5_setClash_18 : decode cX5_setClash 18 = .ok (.ifCond .eq 13, 3) := by decide +kernel
theorem dX5_setClash_21 : decode cX5_setClash 21 = .ok (.new 68, 3) := by decide +kernel
theorem dX5_setClash_24 : decode cX5_setClash 24 = .ok (.dup, 1) := by decide +kernel
theorem dX5_setClash_25 : decode cX5_setClash 25 = .ok (.ldc 165, 2) := by decide +kernel
theorem dX5_setClash_27 : decode cX5_setClash 27 = .ok (.invokespecial 72, 3) := by decide +kernel
theorem dX5_setClash_30 : decode cX5_setClash 30 = .ok (.athrow, 1) := by decide +kernel
theorem dX5_setClash_31 : decode cX5_setClash 31 = .ok (.aload_n 0, 1) := by decide +kernel
theorem dX5_setClash_32 : decode cX5_setClash 32 = .ok (.getfield 40, 3) := by decide +kernel
theorem dX5_setClash_35 : decode cX5_setClash 35 = .ok (.aload_n 0, 1) := by decide +kernel
theorem dX5_setClash_36 : decode cX5_setClash 36 = .ok (.getfield 30, 3) := by decide +kernel
theorem dX5_setClash_39 : decode cX5_setClash 39 = .ok (.invokevirtual 89, 3) := by decide +kernel
theorem dX5_setClash_42 : decode cX5_setClash 42 = .ok (.aload_n 0, 1) := by decide +kernel
theorem dX5_setClash_43 : decode cX5_setClash 43 = .ok (.iconst 0, 1) := by decide +kernel
theorem dX5_setClash_44 : decode cX5_setClash 44 = .ok (.putfield 64, 3) := by decide +kernel
theorem dX5_setClash_47 : decode cX5_setClash 47 = .ok (.aload_n 0, 1) := by decide +kernel
theorem dX5_setClash_48 : decode cX5_setClash 48 = .ok (.getfield 30, 3) := by decide +kernel
theorem dX5_setClash_51 : decode cX5_setClash 51 = .ok (.iload_n 1, 1) := by decide +kernel
theorem dX5_setClash_52 : decode cX5_setClash 52 = .ok (.iload_n 2, 1) := by decide +kernel
theorem dX5_setClash_53 : decode cX5_setClash 53 = .ok (.iload_n 3, 1) := by decide +kernel
theorem dX5_setClash_54 : decode cX5_setClash 54 = .ok (.invokevirtual 167, 3) := by decide +kernel
theorem dX5_setClash_57 : decode cX5_setClash 57 = .ok (.return_, 1) := by decide +kernel
theorem dX5_setCovers_0 : decode cX5_setCovers 0 = .ok (.iload_n 1, 1) := by decide +kernel
theorem dX5_setCovers_1 : decode cX5_setCovers 1 = .ok (.iconst 0, 1) := by decide +kernel
theorem dX5_setCovers_2 : decode cX5_setCovers 2 = .ok (.iconst 4, 1) := by decide +kernel
theorem dX5_setCovers_3 : decode cX5_setCovers 3 = .ok (.invokestatic 112, 3) := by decide +kernel
theorem dX5_setCovers_6 : decode cX5_setCovers 6 = .ok (.ifCond .eq 13, 3) := by decide +kernel
theorem dX5_setCovers_9 : decode cX5_setCovers 9 = .ok (.new 79, 3) := by decide +kernel
theorem dX5_setCovers_12 : decode cX5_setCovers 12 = .ok (.dup, 1) := by decide +kernel
theorem dX5_setCovers_13 : decode cX5_setCovers 13 = .ok (.ldc 171, 2) := by decide +kernel
theorem dX5_setCovers_15 : decode cX5_setCovers 15 = .ok (.invokespecial 83, 3) := by decide +kernel
theorem dX5_setCovers_18 : decode cX5_setCovers 18 = .ok (.athrow, 1) := by decide +kernel
theorem dX5_setCovers_19 : decode cX5_setCovers 19 = .ok (.aload_n 0, 1) := by decide +kernel
theorem dX5_setCovers_20 : decode cX5_setCovers 20 = .ok (.getfield 30, 3) := by decide +kernel
theorem dX5_setCovers_23 : decode cX5_setCovers 23 = .ok (.getfield 173, 3) := by decide +kernel
theorem dX5_setCovers_26 : decode cX5_setCovers 26 = .ok (.iload_n 1, 1) := by decide +kernel
theorem dX5_setCovers_27 : decode cX5_setCovers 27 = .ok (.if_icmp .le 13, 3) := by decide +kernel
theorem dX5_setCovers_30 : decode cX5_setCovers 30 = .ok (.new 68, 3) := by decide +kernel
theorem dX5_setCovers_33 : decode cX5_setCovers 33 = .ok (.dup, 1) := by decide +kernel
theorem dX5_setCovers_34 : decode cX5_setCovers 34 = .ok (.ldc 176, 2) := by decide +kernel
theorem dX5_setCovers_36 : decode cX5_setCovers 36 = .ok (.invokespecial 72, 3) := by decide +kernel
theorem dX5_setCovers_39 : decode cX5_setCovers 39 = .ok (.athrow, 1) := by decide +kernel
theorem dX5_setCovers_40 : decode cX5_setCovers 40 = .ok (.aload_n 0, 1) := by decide +kernel
theorem dX5_setCovers_41 : decode cX5_setCovers 41 = .ok (.getfield 40, 3) := by decide +kernel
theorem dX5_setCovers_44 : decode cX5_setCovers 44 = .ok (.aload_n 0, 1) := by decide +kernel
theorem dX5_setCovers_45 : decode cX5_setCovers 45 = .ok (.getfield 30, 3) := by decide +kernel
theorem dX5_setCovers_48 : decode cX5_setCovers 48 = .ok (.invokevirtual 89, 3) := by decide +kernel
theorem dX5_setCovers_51 : decode cX5_setCovers 51 = .ok (.aload_n 0, 1) := by decide +kernel
theorem dX5_setCovers_52 : decode cX5_setCovers 52 = .ok (.iconst 0, 1) := by decide +kernel
theorem dX5_setCovers_53 : decode cX5_setCovers 53 = .ok (.putfield 64, 3) := by decide +kernel
theorem dX5_setCovers_56 : decode cX5_setCovers 56 = .ok (.aload_n 0, 1) := by decide +kernel
theorem dX5_setCovers_57 : decode cX5_setCovers 57 = .ok (.getfield 30, 3) := by decide +kernel
theorem dX5_setCovers_60 : decode cX5_setCovers 60 = .ok (.getfield 178, 3) := by decide +kernel
theorem dX5_setCovers_63 : decode cX5_setCovers 63 = .ok (.istore_n 2, 1) := by decide +kernel
theorem dX5_setCovers_64 : decode cX5_setCovers 64 = .ok (.aload_n 0, 1) := by decide +kernel
theorem dX5_setCovers_65 : decode cX5_setCovers 65 = .ok (.getfield 30, 3) := by decide +kernel
theorem dX5_setCovers_68 : decode cX5_setCovers 68 = .ok (.iload_n 1, 1) := by decide +kernel
theorem dX5_setCovers_69 : decode cX5_setCovers 69 = .ok (.putfield 178, 3) := by decide +kernel
theorem dX5_setCovers_72 : decode cX5_setCovers 72 = .ok (.iload_n 2, 1) := by decide +kernel
theorem dX5_setCovers_73 : decode cX5_setCovers 73 = .ok (.ireturn, 1) := by decide +kernel
theorem dX5_traderAt_0 : decode cX5_traderAt 0 = .ok (.aload_n 0, 1) := by decide +kernel
theorem dX5_traderAt_1 : decode cX5_traderAt 1 = .ok (.iload_n 1, 1) := by decide +kernel
theorem dX5_traderAt_2 : decode cX5_traderAt 2 = .ok (.invokevirtual 99, 3) := by decide +kernel
theorem dX5_traderAt_5 : decode cX5_traderAt 5 = .ok (.aload_n 0, 1) := by decide +kernel
theorem dX5_traderAt_6 : decode cX5_traderAt 6 = .ok (.getfield 30, 3) := by decide +kernel
theorem dX5_traderAt_9 : decode cX5_traderAt 9 = .ok (.getfield 118, 3) := by decide +kernel
theorem dX5_traderAt_12 : decode cX5_traderAt 12 = .ok (.iload_n 1, 1) := by decide +kernel
theorem dX5_traderAt_13 : decode cX5_traderAt 13 = .ok (.iaload, 1) := by decide +kernel
theorem dX5_traderAt_14 : decode cX5_traderAt 14 = .ok (.ireturn, 1) := by decide +kernel
theorem dX5_start_0 : decode cX5_start 0 = .ok (.aload_n 0, 1) := by decide +kernel
theorem dX5_start_1 : decode cX5_start 1 = .ok (.iload_n 1, 1) := by decide +kernel
theorem dX5_start_2 : decode cX5_start 2 = .ok (.invokevirtual 134, 3) := by decide +kernel
theorem dX5_start_5 : decode cX5_start 5 = .ok (.aload_n 0, 1) := by decide +kernel
theorem dX5_start_6 : decode cX5_start 6 = .ok (.getfield 30, 3) := by decide +kernel
theorem dX5_start_9 : decode cX5_start 9 = .ok (.getfield 121, 3) := by decide +kernel
theorem dX5_start_12 : decode cX5_start 12 = .ok (.iload_n 1, 1) := by decide +kernel
theorem dX5_start_13 : decode cX5_start 13 = .ok (.iaload, 1) := by decide +kernel
theorem dX5_start_14 : decode cX5_start 14 = .ok (.ireturn, 1) := by decide +kernel
theorem dX5_obstacle_0 : decode cX5_obstacle 0 = .ok (.aload_n 0, 1) := by decide +kernel
theorem dX5_obstacle_1 : decode cX5_obstacle 1 = .ok (.iload_n 1, 1) := by decide +kernel
theorem dX5_obstacle_2 : decode cX5_obstacle 2 = .ok (.invokevirtual 134, 3) := by decide +kernel
theorem dX5_obstacle_5 : decode cX5_obstacle 5 = .ok (.aload_n 0, 1) := by decide +kernel
theorem dX5_obstacle_6 : decode cX5_obstacle 6 = .ok (.iload_n 2, 1) := by decide +kernel
theorem dX5_obstacle_7 : decode cX5_obstacle 7 = .ok (.invokevirtual 99, 3) := by decide +kernel
theorem dX5_obstacle_10 : decode cX5_obstacle 10 = .ok (.aload_n 0, 1) := by decide +kernel
theorem dX5_obstacle_11 : decode cX5_obstacle 11 = .ok (.getfield 30, 3) := by decide +kernel
theorem dX5_obstacle_14 : decode cX5_obstacle 14 = .ok (.iload_n 1, 1) := by decide +kernel
theorem dX5_obstacle_15 : decode cX5_obstacle 15 = .ok (.iload_n 2, 1) := by decide +kernel
theorem dX5_obstacle_16 : decode cX5_obstacle 16 = .ok (.invokevirtual 181, 3) := by decide +kernel
theorem dX5_obstacle_19 : decode cX5_obstacle 19 = .ok (.ireturn, 1) := by decide +kernel
theorem dX5_place_0 : decode cX5_place 0 = .ok (.aload_n 0, 1) := by decide +kernel
theorem dX5_place_1 : decode cX5_place 1 = .ok (.iload_n 1, 1) := by decide +kernel
theorem dX5_place_2 : decode cX5_place 2 = .ok (.invokevirtual 134, 3) := by decide +kernel
theorem dX5_place_5 : decode cX5_place 5 = .ok (.aload_n 0, 1) := by decide +kernel
theorem dX5_place_6 : decode cX5_place 6 = .ok (.iload_n 2, 1) := by decide +kernel
theorem dX5_place_7 : decode cX5_place 7 = .ok (.invokevirtual 99, 3) := by decide +kernel
theorem dX5_place_10 : decode cX5_place 10 = .ok (.aload_n 0, 1) := by decide +kernel
theorem dX5_place_11 : decode cX5_place 11 = .ok (.getfield 30, 3) := by decide +kernel
theorem dX5_place_14 : decode cX5_place 14 = .ok (.iload_n 1, 1) := by decide +kernel
theorem dX5_place_15 : decode cX5_place 15 = .ok (.iload_n 2, 1) := by decide +kernel
theorem dX5_place_16 : decode cX5_place 16 = .ok (.invokevirtual 181, 3) := by decide +kernel
theorem dX5_place_19 : decode cX5_place 19 = .ok (.ifCond .eq 13, 3) := by decide +kernel
theorem dX5_place_22 : decode cX5_place 22 = .ok (.new 68, 3) := by decide +kernel
theorem dX5_place_25 : decode cX5_place 25 = .ok (.dup, 1) := by decide +kernel
theorem dX5_place_26 : decode cX5_place 26 = .ok (.ldc 185, 2) := by decide +kernel
theorem dX5_place_28 : decode cX5_place 28 = .ok (.invokespecial 72, 3) := by decide +kernel
theorem dX5_place_31 : decode cX5_place 31 = .ok (.athrow, 1) := by decide +kernel
theorem dX5_place_32 : decode cX5_place 32 = .ok (.aload_n 0, 1) := by decide +kernel
theorem dX5_place_33 : decode cX5_place 33 = .ok (.getfield 40, 3) := by decide +kernel
theorem dX5_place_36 : decode cX5_place 36 = .ok (.aload_n 0, 1) := by decide +kernel
theorem dX5_place_37 : decode cX5_place 37 = .ok (.getfield 30, 3) := by decide +kernel
theorem dX5_place_40 : decode cX5_place 40 = .ok (.invokevirtual 89, 3) := by decide +kernel
theorem dX5_place_43 : decode cX5_place 43 = .ok (.aload_n 0, 1) := by decide +kernel
theorem dX5_place_44 : decode cX5_place 44 = .ok (.getfield 30, 3) := by decide +kernel
theorem dX5_place_47 : decode cX5_place 47 = .ok (.iload_n 1, 1) := by decide +kernel
theorem dX5_place_48 : decode cX5_place 48 = .ok (.iload_n 2, 1) := by decide +kernel
theorem dX5_place_49 : decode cX5_place 49 = .ok (.invokevirtual 187, 3) := by decide +kernel
theorem dX5_place_52 : decode cX5_place 52 = .ok (.aload_n 0, 1) := by decide +kernel
theorem dX5_place_53 : decode cX5_place 53 = .ok (.getfield 30, 3) := by decide +kernel
theorem dX5_place_56 : decode cX5_place 56 = .ok (.iload_n 1, 1) := by decide +kernel
theorem dX5_place_57 : decode cX5_place 57 = .ok (.iload_n 2, 1) := by decide +kernel
theorem dX5_place_58 : decode cX5_place 58 = .ok (.invokevirtual 190, 3) := by decide +kernel
theorem dX5_place_61 : decode cX5_place 61 = .ok (.ireturn, 1) := by decide +kernel
theorem dX5_remove_0 : decode cX5_remove 0 = .ok (.aload_n 0, 1) := by decide +kernel
theorem dX5_remove_1 : decode cX5_remove 1 = .ok (.iload_n 1, 1) := by decide +kernel
theorem dX5_remove_2 : decode cX5_remove 2 = .ok (.invokevirtual 134, 3) := by decide +kernel
theorem dX5_remove_5 : decode cX5_remove 5 = .ok (.aload_n 0, 1) := by decide +kernel
theorem dX5_remove_6 : decode cX5_remove 6 = .ok (.getfield 30, 3) := by decide +kernel
theorem dX5_remove_9 : decode cX5_remove 9 = .ok (.getfield 121, 3) := by decide +kernel
theorem dX5_remove_12 : decode cX5_remove 12 = .ok (.iload_n 1, 1) := by decide +kernel
theorem dX5_remove_13 : decode cX5_remove 13 = .ok (.iaload, 1) := by decide +kernel
theorem dX5_remove_14 : decode cX5_remove 14 = .ok (.istore_n 2, 1) := by decide +kernel
theorem dX5_remove_15 : decode cX5_remove 15 = .ok (.iload_n 2, 1) := by decide +kernel
theorem dX5_remove_16 : decode cX5_remove 16 = .ok (.iconst (-1), 1) := by decide +kernel
theorem dX5_remove_17 : decode cX5_remove 17 = .ok (.if_icmp .ne 13, 3) := by decide +kernel
theorem dX5_remove_20 : decode cX5_remove 20 = .ok (.new 68, 3) := by decide +kernel
theorem dX5_remove_23 : decode cX5_remove 23 = .ok (.dup, 1) := by decide +kernel
theorem dX5_remove_24 : decode cX5_remove 24 = .ok (.ldc 193, 2) := by decide +kernel
theorem dX5_remove_26 : decode cX5_remove 26 = .ok (.invokespecial 72, 3) := by decide +kernel
theorem dX5_remove_29 : decode cX5_remove 29 = .ok (.athrow, 1) := by decide +kernel
theorem dX5_remove_30 : decode cX5_remove 30 = .ok (.aload_n 0, 1) := by decide +kernel
theorem dX5_remove_31 : decode cX5_remove 31 = .ok (.getfield 40, 3) := by decide +kernel
theorem dX5_remove_34 : decode cX5_remove 34 = .ok (.aload_n 0, 1) := by decide +kernel
theorem dX5_remove_35 : decode cX5_remove 35 = .ok (.getfield 30, 3) := by decide +kernel
theorem dX5_remove_38 : decode cX5_remove 38 = .ok (.invokevirtual 89, 3) := by decide +kernel
theorem dX5_remove_41 : decode cX5_remove 41 = .ok (.aload_n 0, 1) := by decide +kernel
theorem dX5_remove_42 : decode cX5_remove 42 = .ok (.getfield 30, 3) := by decide +kernel
theorem dX5_remove_45 : decode cX5_remove 45 = .ok (.iload_n 1, 1) := by decide +kernel
theorem dX5_remove_46 : decode cX5_remove 46 = .ok (.invokevirtual 128, 3) := by decide +kernel
theorem dX5_remove_49 : decode cX5_remove 49 = .ok (.iload_n 2, 1) := by decide +kernel
theorem dX5_remove_50 : decode cX5_remove 50 = .ok (.ireturn, 1) := by decide +kernel
theorem dX5_swap_0 : decode cX5_swap 0 = .ok (.aload_n 0, 1) := by decide +kernel
theorem dX5_swap_1 : decode cX5_swap 1 = .ok (.iload_n 1, 1) := by decide +kernel
theorem dX5_swap_2 : decode cX5_swap 2 = .ok (.invokevirtual 134, 3) := by decide +kernel
theorem dX5_swap_5 : decode cX5_swap 5 = .ok (.aload_n 0, 1) := by decide +kernel
theorem dX5_swap_6 : decode cX5_swap 6 = .ok (.iload_n 2, 1) := by decide +kernel
theorem dX5_swap_7 : decode cX5_swap 7 = .ok (.invokevirtual 134, 3) := by decide +kernel
theorem dX5_swap_10 : decode cX5_swap 10 = .ok (.iload_n 1, 1) := by decide +kernel
theorem dX5_swap_11 : decode cX5_swap 11 = .ok (.iload_n 2, 1) := by decide +kernel
theorem dX5_swap_12 : decode cX5_swap 12 = .ok (.if_icmp .eq 25, 3) := by decide +kernel
theorem dX5_swap_15 : decode cX5_swap 15 = .ok (.aload_n 0, 1) := by decide +kernel
theorem dX5_swap_16 : decode cX5_swap 16 = .ok (.getfield 30, 3) := by decide +kernel
theorem dX5_swap_19 : decode cX5_swap 19 = .ok (.iload_n 1, 1) := by decide +kernel
theorem dX5_swap_20 : decode cX5_swap 20 = .ok (.invokevirtual 195, 3) := by decide +kernel
theorem dX5_swap_23 : decode cX5_swap 23 = .ok (.ifCond .eq 14, 3) := by decide +kernel
theorem dX5_swap_26 : decode cX5_swap 26 = .ok (.aload_n 0, 1) := by decide +kernel
theorem dX5_swap_27 : decode cX5_swap 27 = .ok (.getfield 30, 3) := by decide +kernel
theorem dX5_swap_30 : decode cX5_swap 30 = .ok (.iload_n 2, 1) := by decide +kernel
theorem dX5_swap_31 : decode cX5_swap 31 = .ok (.invokevirtual 195, 3) := by decide +kernel
theorem dX5_swap_34 : decode cX5_swap 34 = .ok (.ifCond .ne 13, 3) := by decide +kernel
theorem dX5_swap_37 : decode cX5_swap 37 = .ok (.new 68, 3) := by decide +kernel
theorem dX5_swap_40 : decode cX5_swap 40 = .ok (.dup, 1) := by decide +kernel
theorem dX5_swap_41 : decode cX5_swap 41 = .ok (.ldc 198, 2) := by decide +kernel
theorem dX5_swap_43 : decode cX5_swap 43 = .ok (.invokespecial 72, 3) := by decide +kernel
theorem dX5_swap_46 : decode cX5_swap 46 = .ok (.athrow, 1) := by decide +kernel
theorem dX5_swap_47 : decode cX5_swap 47 = .ok (.aload_n 0, 1) := by decide +kernel
theorem dX5_swap_48 : decode cX5_swap 48 = .ok (.iload_n 1, 1) := by decide +kernel
theorem dX5_swap_49 : decode cX5_swap 49 = .ok (.iload_n 2, 1) := by decide +kernel
theorem dX5_swap_50 : decode cX5_swap 50 = .ok (.invokevirtual 200, 3) := by decide +kernel
theorem dX5_swap_53 : decode cX5_swap 53 = .ok (.ifCond .ne 13, 3) := by decide +kernel
theorem dX5_swap_56 : decode cX5_swap 56 = .ok (.new 68, 3) := by decide +kernel
theorem dX5_swap_59 : decode cX5_swap 59 = .ok (.dup, 1) := by decide +kernel
theorem dX5_swap_60 : decode cX5_swap 60 = .ok (.ldc 203, 2) := by decide +kernel
theorem dX5_swap_62 : decode cX5_swap 62 = .ok (.invokespecial 72, 3) := by decide +kernel
theorem dX5_swap_65 : decode cX5_swap 65 = .ok (.athrow, 1) := by decide +kernel
theorem dX5_swap_66 : decode cX5_swap 66 = .ok (.aload_n 0, 1) := by decide +kernel
theorem dX5_swap_67 : decode cX5_swap 67 = .ok (.getfield 40, 3) := by decide +kernel
theorem dX5_swap_70 : decode cX5_swap 70 = .ok (.aload_n 0, 1) := by decide +kernel
theorem dX5_swap_71 : decode cX5_swap 71 = .ok (.getfield 30, 3) := by decide +kernel
theorem dX5_swap_74 : decode cX5_swap 74 = .ok (.invokevirtual 89, 3) := by decide +kernel
theorem dX5_swap_77 : decode cX5_swap 77 = .ok (.aload_n 0, 1) := by decide +kernel
theorem dX5_swap_78 : decode cX5_swap 78 = .ok (.getfield 30, 3) := by decide +kernel
theorem dX5_swap_81 : decode cX5_swap 81 = .ok (.aload_n 0, 1) := by decide +kernel
theorem dX5_swap_82 : decode cX5_swap 82 = .ok (.getfield 34, 3) := by decide +kernel
theorem dX5_swap_85 : decode cX5_swap 85 = .ok (.invokevirtual 93, 3) := by decide +kernel
theorem dX5_swap_88 : decode cX5_swap 88 = .ok (.aload_n 0, 1) := by decide +kernel
theorem dX5_swap_89 : decode cX5_swap 89 = .ok (.getfield 30, 3) := by decide +kernel
theorem dX5_swap_92 : decode cX5_swap 92 = .ok (.invokevirtual 205, 3) := by decide +kernel
theorem dX5_swap_95 : decode cX5_swap 95 = .ok (.ireturn, 1) := by decide +kernel
theorem dX5_draftExchange_0 : decode cX5_draftExchange 0 = .ok (.aload_n 0, 1) := by decide +kernel
theorem dX5_draftExchange_1 : decode cX5_draftExchange 1 = .ok (.getfield 34, 3) := by decide +kernel
theorem dX5_draftExchange_4 : decode cX5_draftExchange 4 = .ok (.aload_n 0, 1) := by decide +kernel
theorem dX5_draftExchange_5 : decode cX5_draftExchange 5 = .ok (.getfield 30, 3) := by decide +kernel
theorem dX5_draftExchange_8 : decode cX5_draftExchange 8 = .ok (.invokevirtual 93, 3) := by decide +kernel
theorem dX5_draftExchange_11 : decode cX5_draftExchange 11 = .ok (.aload_n 0, 1) := by decide +kernel
theorem dX5_draftExchange_12 : decode cX5_draftExchange 12 = .ok (.getfield 34, 3) := by decide +kernel
theorem dX5_draftExchange_15 : decode cX5_draftExchange 15 = .ok (.iload_n 1, 1) := by decide +kernel
theorem dX5_draftExchange_16 : decode cX5_draftExchange 16 = .ok (.invokevirtual 128, 3) := by decide +kernel
theorem dX5_draftExchange_19 : decode cX5_draftExchange 19 = .ok (.aload_n 0, 1) := by decide +kernel
theorem dX5_draftExchange_20 : decode cX5_draftExchange 20 = .ok (.getfield 34, 3) := by decide +kernel
theorem dX5_draftExchange_23 : decode cX5_draftExchange 23 = .ok (.iload_n 2, 1) := by decide +kernel
theorem dX5_draftExchange_24 : decode cX5_draftExchange 24 = .ok (.invokevirtual 128, 3) := by decide +kernel
theorem dX5_draftExchange_27 : decode cX5_draftExchange 27 = .ok (.aload_n 0, 1) := by decide +kernel
theorem dX5_draftExchange_28 : decode cX5_draftExchange 28 = .ok (.getfield 34, 3) := by decide +kernel
theorem dX5_draftExchange_31 : decode cX5_draftExchange 31 = .ok (.iload_n 1, 1) := by decide +kernel
theorem dX5_draftExchange_32 : decode cX5_draftExchange 32 = .ok (.aload_n 0, 1) := by decide +kernel
theorem dX5_draftExchange_33 : decode cX5_draftExchange 33 = .ok (.getfield 30, 3) := by decide +kernel
theorem dX5_draftExchange_36 : decode cX5_draftExchange 36 = .ok (.getfield 121, 3) := by decide +kernel
theorem dX5_draftExchange_39 : decode cX5_draftExchange 39 = .ok (.iload_n 2, 1) := by decide +kernel
theorem dX5_draftExchange_40 : decode cX5_draftExchange 40 = .ok (.iaload, 1) := by decide +kernel
theorem dX5_draftExchange_41 : decode cX5_draftExchange 41 = .ok (.invokevirtual 209, 3) := by decide +kernel
theorem dX5_draftExchange_44 : decode cX5_draftExchange 44 = .ok (.ifCond .eq 27, 3) := by decide +kernel
theorem dX5_draftExchange_47 : decode cX5_draftExchange 47 = .ok (.aload_n 0, 1) := by decide +kernel
theorem dX5_draftExchange_48 : decode cX5_draftExchange 48 = .ok (.getfield 34, 3) := by decide +kernel
theorem dX5_draftExchange_51 : decode cX5_draftExchange 51 = .ok (.iload_n 2, 1) := by decide +kernel
theorem dX5_draftExchange_52 : decode cX5_draftExchange 52 = .ok (.aload_n 0, 1) := by decide +kernel
theorem dX5_draftExchange_53 : decode cX5_draftExchange 53 = .ok (.getfield 30, 3) := by decide +kernel
theorem dX5_draftExchange_56 : decode cX5_draftExchange 56 = .ok (.getfield 121, 3) := by decide +kernel
theorem dX5_draftExchange_59 : decode cX5_draftExchange 59 = .ok (.iload_n 1, 1) := by decide +kernel
theorem dX5_draftExchange_60 : decode cX5_draftExchange 60 = .ok (.iaload, 1) := by decide +kernel
theorem dX5_draftExchange_61 : decode cX5_draftExchange 61 = .ok (.invokevirtual 209, 3) := by decide +kernel
theorem dX5_draftExchange_64 : decode cX5_draftExchange 64 = .ok (.ifCond .eq 7, 3) := by decide +kernel
theorem dX5_draftExchange_67 : decode cX5_draftExchange 67 = .ok (.iconst 1, 1) := by decide +kernel
theorem dX5_draftExchange_68 : decode cX5_draftExchange 68 = .ok (.goto 4, 3) := by decide +kernel
theorem dX5_draftExchange_71 : decode cX5_draftExchange 71 = .ok (.iconst 0, 1) := by decide +kernel
theorem dX5_draftExchange_72 : decode cX5_draftExchange 72 = .ok (.ireturn, 1) := by decide +kernel
theorem dX5_clear_0 : decode cX5_clear 0 = .ok (.aload_n 0, 1) := by decide +kernel
theorem dX5_clear_1 : decode cX5_clear 1 = .ok (.getfield 40, 3) := by decide +kernel
theorem dX5_clear_4 : decode cX5_clear 4 = .ok (.aload_n 0, 1) := by decide +kernel
theorem dX5_clear_5 : decode cX5_clear 5 = .ok (.getfield 30, 3) := by decide +kernel
theorem dX5_clear_8 : decode cX5_clear 8 = .ok (.invokevirtual 89, 3) := by decide +kernel
theorem dX5_clear_11 : decode cX5_clear 11 = .ok (.aload_n 0, 1) := by decide +kernel
theorem dX5_clear_12 : decode cX5_clear 12 = .ok (.getfield 30, 3) := by decide +kernel
theorem dX5_clear_15 : decode cX5_clear 15 = .ok (.invokevirtual 212, 3) := by decide +kernel
theorem dX5_clear_18 : decode cX5_clear 18 = .ok (.istore_n 1, 1) := by decide +kernel
theorem dX5_clear_19 : decode cX5_clear 19 = .ok (.aload_n 0, 1) := by decide +kernel
theorem dX5_clear_20 : decode cX5_clear 20 = .ok (.getfield 30, 3) := by decide +kernel
theorem dX5_clear_23 : decode cX5_clear 23 = .ok (.invokevirtual 215, 3) := by decide +kernel
theorem dX5_clear_26 : decode cX5_clear 26 = .ok (.iload_n 1, 1) := by decide +kernel
theorem dX5_clear_27 : decode cX5_clear 27 = .ok (.ireturn, 1) := by decide +kernel
theorem dX5_income_0 : decode cX5_income 0 = .ok (.aload_n 0, 1) := by decide +kernel
theorem dX5_income_1 : decode cX5_income 1 = .ok (.getfield 30, 3) := by decide +kernel
theorem dX5_income_4 : decode cX5_income 4 = .ok (.invokevirtual 205, 3) := by decide +kernel
theorem dX5_income_7 : decode cX5_income 7 = .ok (.ireturn, 1) := by decide +kernel
theorem dX5_coversUsed_0 : decode cX5_coversUsed 0 = .ok (.aload_n 0, 1) := by decide +kernel
theorem dX5_coversUsed_1 : decode cX5_coversUsed 1 = .ok (.getfield 30, 3) := by decide +kernel
theorem dX5_coversUsed_4 : decode cX5_coversUsed 4 = .ok (.getfield 173, 3) := by decide +kernel
theorem dX5_coversUsed_7 : decode cX5_coversUsed 7 = .ok (.ireturn, 1) := by decide +kernel
theorem dX5_expectedIncome_0 : decode cX5_expectedIncome 0 = .ok (.dload_n 1, 1) := by decide +kernel
theorem dX5_expectedIncome_1 : decode cX5_expectedIncome 1 = .ok (.dconst 0, 1) := by decide +kernel
theorem dX5_expectedIncome_2 : decode cX5_expectedIncome 2 = .ok (.dcmp .l, 1) := by decide +kernel
theorem dX5_expectedIncome_3 : decode cX5_expectedIncome 3 = .ok (.ifCond .lt 9, 3) := by decide +kernel
theorem dX5_expectedIncome_6 : decode cX5_expectedIncome 6 = .ok (.dload_n 1, 1) := by decide +kernel
theorem dX5_expectedIncome_7 : decode cX5_expectedIncome 7 = .ok (.dconst 1, 1) := by decide +kernel
theorem dX5_expectedIncome_8 : decode cX5_expectedIncome 8 = .ok (.dcmp .g, 1) := by decide +kernel
theorem dX5_expectedIncome_9 : decode cX5_expectedIncome 9 = .ok (.ifCond .le 13, 3) := by decide +kernel
theorem dX5_expectedIncome_12 : decode cX5_expectedIncome 12 = .ok (.new 79, 3) := by decide +kernel
theorem dX5_expectedIncome_15 : decode cX5_expectedIncome 15 = .ok (.dup, 1) := by decide +kernel
theorem dX5_expectedIncome_16 : decode cX5_expectedIncome 16 = .ok (.ldc 218, 2) := by decide +kernel
theorem dX5_expectedIncome_18 : decode cX5_expectedIncome 18 = .ok (.invokespecial 83, 3) := by decide +kernel
theorem dX5_expectedIncome_21 : decode cX5_expectedIncome 21 = .ok (.athrow, 1) := by decide +kernel
theorem dX5_expectedIncome_22 : decode cX5_expectedIncome 22 = .ok (.dconst 0, 1) := by decide +kernel
theorem dX5_expectedIncome_23 : decode cX5_expectedIncome 23 = .ok (.dstore_n 3, 1) := by decide +kernel
theorem dX5_expectedIncome_24 : decode cX5_expectedIncome 24 = .ok (.iconst 0, 1) := by decide +kernel
theorem dX5_expectedIncome_25 : decode cX5_expectedIncome 25 = .ok (.istore 5, 2) := by decide +kernel
theorem dX5_expectedIncome_27 : decode cX5_expectedIncome 27 = .ok (.iload 5, 2) := by decide +kernel
theorem dX5_expectedIncome_29 : decode cX5_expectedIncome 29 = .ok (.aload_n 0, 1) := by decide +kernel
theorem dX5_expectedIncome_30 : decode cX5_expectedIncome 30 = .ok (.getfield 30, 3) := by decide +kernel
theorem dX5_expectedIncome_33 : decode cX5_expectedIncome 33 = .ok (.getfield 131, 3) := by decide +kernel
theorem dX5_expectedIncome_36 : decode cX5_expectedIncome 36 = .ok (.if_icmp .ge 80, 3) := by decide +kernel
theorem dX5_expectedIncome_39 : decode cX5_expectedIncome 39 = .ok (.aload_n 0, 1) := by decide +kernel
theorem dX5_expectedIncome_40 : decode cX5_expectedIncome 40 = .ok (.getfield 30, 3) := by decide +kernel
theorem dX5_expectedIncome_43 : decode cX5_expectedIncome 43 = .ok (.iload 5, 2) := by decide +kernel
theorem dX5_expectedIncome_45 : decode cX5_expectedIncome 45 = .ok (.invokevirtual 195, 3) := by decide +kernel
theorem dX5_expectedIncome_48 : decode cX5_expectedIncome 48 = .ok (.ifCond .eq 62, 3) := by decide +kernel
theorem dX5_expectedIncome_51 : decode cX5_expectedIncome 51 = .ok (.aload_n 0, 1) := by decide +kernel
theorem dX5_expectedIncome_52 : decode cX5_expectedIncome 52 = .ok (.getfield 30, 3) := by decide +kernel
theorem dX5_expectedIncome_55 : decode cX5_expectedIncome 55 = .ok (.iload 5, 2) := by decide +kernel
theorem dX5_expectedIncome_57 : decode cX5_expectedIncome 57 = .ok (.aload_n 0, 1) := by decide +kernel
theorem dX5_expectedIncome_58 : decode cX5_expectedIncome 58 = .ok (.getfield 30, 3) := by decide +kernel
theorem dX5_expectedIncome_61 : decode cX5_expectedIncome 61 = .ok (.getfield 121, 3) := by decide +kernel
theorem dX5_expectedIncome_64 : decode cX5_expectedIncome 64 = .ok (.iload 5, 2) := by decide +kernel
theorem dX5_expectedIncome_66 : decode cX5_expectedIncome 66 = .ok (.iaload, 1) := by decide +kernel
theorem dX5_expectedIncome_67 : decode cX5_expectedIncome 67 = .ok (.invokevirtual 190, 3) := by decide +kernel
theorem dX5_expectedIncome_70 : decode cX5_expectedIncome 70 = .ok (.istore 6, 2) := by decide +kernel
theorem dX5_expectedIncome_72 : decode cX5_expectedIncome 72 = .ok (.dload_n 3, 1) := by decide +kernel
theorem dX5_expectedIncome_73 : decode cX5_expectedIncome 73 = .ok (.aload_n 0, 1) := by decide +kernel
theorem dX5_expectedIncome_74 : decode cX5_expectedIncome 74 = .ok (.getfield 30, 3) := by decide +kernel
theorem dX5_expectedIncome_77 : decode cX5_expectedIncome 77 = .ok (.iload 5, 2) := by decide +kernel
theorem dX5_expectedIncome_79 : decode cX5_expectedIncome 79 = .ok (.invokevirtual 220, 3) := by decide +kernel
theorem dX5_expectedIncome_82 : decode cX5_expectedIncome 82 = .ok (.ifCond .eq 9, 3) := by decide +kernel
theorem dX5_expectedIncome_85 : decode cX5_expectedIncome 85 = .ok (.iload 6, 2) := by decide +kernel
theorem dX5_expectedIncome_87 : decode cX5_expectedIncome 87 = .ok (.i2d, 1) := by decide +kernel
theorem dX5_expectedIncome_88 : decode cX5_expectedIncome 88 = .ok (.goto 20, 3) := by decide +kernel
theorem dX5_expectedIncome_91 : decode cX5_expectedIncome 91 = .ok (.iload 6, 2) := by decide +kernel
theorem dX5_expectedIncome_93 : decode cX5_expectedIncome 93 = .ok (.i2d, 1) := by decide +kernel
theorem dX5_expectedIncome_94 : decode cX5_expectedIncome 94 = .ok (.dconst 1, 1) := by decide +kernel
theorem dX5_expectedIncome_95 : decode cX5_expectedIncome 95 = .ok (.dload_n 1, 1) := by decide +kernel
theorem dX5_expectedIncome_96 : decode cX5_expectedIncome 96 = .ok (.dsub, 1) := by decide +kernel
theorem dX5_expectedIncome_97 : decode cX5_expectedIncome 97 = .ok (.dmul, 1) := by decide +kernel
theorem dX5_expectedIncome_98 : decode cX5_expectedIncome 98 = .ok (.iload 6, 2) := by decide +kernel
theorem dX5_expectedIncome_100 : decode cX5_expectedIncome 100 = .ok (.i2d, 1) := by decide +kernel
theorem dX5_expectedIncome_101 : decode cX5_expectedIncome 101 = .ok (.ldc2_w 223, 3) := by decide +kernel
theorem dX5_expectedIncome_104 : decode cX5_expectedIncome 104 = .ok (.dmul, 1) := by decide +kernel
theorem dX5_expectedIncome_105 : decode cX5_expectedIncome 105 = .ok (.dload_n 1, 1) := by decide +kernel
theorem dX5_expectedIncome_106 : decode cX5_expectedIncome 106 = .ok (.dmul, 1) := by decide +kernel
theorem dX5_expectedIncome_107 : decode cX5_expectedIncome 107 = .ok (.dadd, 1) := by decide +kernel
theorem dX5_expectedIncome_108 : decode cX5_expectedIncome 108 = .ok (.dadd, 1) := by decide +kernel
theorem dX5_expectedIncome_109 : decode cX5_expectedIncome 109 = .ok (.dstore_n 3, 1) := by decide +kernel
theorem dX5_expectedIncome_110 : decode cX5_expectedIncome 110 = .ok (.iinc 5 1, 3) := by decide +kernel
theorem dX5_expectedIncome_113 : decode cX5_expectedIncome 113 = .ok (.goto (-86), 3) := by decide +kernel
theorem dX5_expectedIncome_116 : decode cX5_expectedIncome 116 = .ok (.dload_n 3, 1) := by decide +kernel
theorem dX5_expectedIncome_117 : decode cX5_expectedIncome 117 = .ok (.dreturn, 1) := by decide +kernel
theorem dX5_bestIncome_0 : decode cX5_bestIncome 0 = .ok (.aload_n 0, 1) := by decide +kernel
theorem dX5_bestIncome_1 : decode cX5_bestIncome 1 = .ok (.invokevirtual 225, 3) := by decide +kernel
theorem dX5_bestIncome_4 : decode cX5_bestIncome 4 = .ok (.aload_n 0, 1) := by decide +kernel
theorem dX5_bestIncome_5 : decode cX5_bestIncome 5 = .ok (.getfield 47, 3) := by decide +kernel
theorem dX5_bestIncome_8 : decode cX5_bestIncome 8 = .ok (.iconst 0, 1) := by decide +kernel
theorem dX5_bestIncome_9 : decode cX5_bestIncome 9 = .ok (.aload_n 0, 1) := by decide +kernel
theorem dX5_bestIncome_10 : decode cX5_bestIncome 10 = .ok (.getfield 30, 3) := by decide +kernel
theorem dX5_bestIncome_13 : decode cX5_bestIncome 13 = .ok (.getfield 178, 3) := by decide +kernel
theorem dX5_bestIncome_16 : decode cX5_bestIncome 16 = .ok (.invokevirtual 228, 3) := by decide +kernel
theorem dX5_bestIncome_19 : decode cX5_bestIncome 19 = .ok (.ireturn, 1) := by decide +kernel
theorem dX5_preparePlan_0 : decode cX5_preparePlan 0 = .ok (.aload_n 0, 1) := by decide +kernel
theorem dX5_preparePlan_1 : decode cX5_preparePlan 1 = .ok (.getfield 64, 3) := by decide +kernel
theorem dX5_preparePlan_4 : decode cX5_preparePlan 4 = .ok (.ifCond .ne 19, 3) := by decide +kernel
theorem dX5_preparePlan_7 : decode cX5_preparePlan 7 = .ok (.aload_n 0, 1) := by decide +kernel
theorem dX5_preparePlan_8 : decode cX5_preparePlan 8 = .ok (.getfield 47, 3) := by decide +kernel
theorem dX5_preparePlan_11 : decode cX5_preparePlan 11 = .ok (.aload_n 0, 1) := by decide +kernel
theorem dX5_preparePlan_12 : decode cX5_preparePlan 12 = .ok (.getfield 30, 3) := by decide +kernel
theorem dX5_preparePlan_15 : decode cX5_preparePlan 15 = .ok (.invokevirtual 231, 3) := by decide +kernel
theorem dX5_preparePlan_18 : decode cX5_preparePlan 18 = .ok (.aload_n 0, 1) := by decide +kernel
theorem dX5_preparePlan_19 : decode cX5_preparePlan 19 = .ok (.iconst 1, 1) := by decide +kernel
theorem dX5_preparePlan_20 : decode cX5_preparePlan 20 = .ok (.putfield 64, 3) := by decide +kernel
theorem dX5_preparePlan_23 : decode cX5_preparePlan 23 = .ok (.return_, 1) := by decide +kernel
theorem dX5_optimise_0 : decode cX5_optimise 0 = .ok (.aload_n 0, 1) := by decide +kernel
theorem dX5_optimise_1 : decode cX5_optimise 1 = .ok (.invokevirtual 225, 3) := by decide +kernel
theorem dX5_optimise_4 : decode cX5_optimise 4 = .ok (.aload_n 0, 1) := by decide +kernel
theorem dX5_optimise_5 : decode cX5_optimise 5 = .ok (.getfield 40, 3) := by decide +kernel
theorem dX5_optimise_8 : decode cX5_optimise 8 = .ok (.aload_n 0, 1) := by decide +kernel
theorem dX5_optimise_9 : decode cX5_optimise 9 = .ok (.getfield 30, 3) := by decide +kernel
theorem dX5_optimise_12 : decode cX5_optimise 12 = .ok (.invokevirtual 89, 3) := by decide +kernel
theorem dX5_optimise_15 : decode cX5_optimise 15 = .ok (.aload_n 0, 1) := by decide +kernel
theorem dX5_optimise_16 : decode cX5_optimise 16 = .ok (.getfield 30, 3) := by decide +kernel
theorem dX5_optimise_19 : decode cX5_optimise 19 = .ok (.invokevirtual 215, 3) := by decide +kernel
theorem dX5_optimise_22 : decode cX5_optimise 22 = .ok (.aload_n 0, 1) := by decide +kernel
theorem dX5_optimise_23 : decode cX5_optimise 23 = .ok (.getfield 47, 3) := by decide +kernel
theorem dX5_optimise_26 : decode cX5_optimise 26 = .ok (.aload_n 0, 1) := by decide +kernel
theorem dX5_optimise_27 : decode cX5_optimise 27 = .ok (.getfield 30, 3) := by decide +kernel
theorem dX5_optimise_30 : decode cX5_optimise 30 = .ok (.invokevirtual 234, 3) := by decide +kernel
theorem dX5_optimise_33 : decode cX5_optimise 33 = .ok (.aload_n 0, 1) := by decide +kernel
theorem dX5_optimise_34 : decode cX5_optimise 34 = .ok (.getfield 30, 3) := by decide +kernel
theorem dX5_optimise_37 : decode cX5_optimise 37 = .ok (.invokevirtual 212, 3) := by decide +kernel
theorem dX5_optimise_40 : decode cX5_optimise 40 = .ok (.ireturn, 1) := by decide +kernel
theorem dX5_clashCost_0 : decode cX5_clashCost 0 = .ok (.iload_n 1, 1) := by decide +kernel
theorem dX5_clashCost_1 : decode cX5_clashCost 1 = .ok (.iload_n 2, 1) := by decide +kernel
theorem dX5_clashCost_2 : decode cX5_clashCost 2 = .ok (.invokestatic 155, 3) := by decide +kernel
theorem dX5_clashCost_5 : decode cX5_clashCost 5 = .ok (.aload_n 0, 1) := by decide +kernel
theorem dX5_clashCost_6 : decode cX5_clashCost 6 = .ok (.getfield 30, 3) := by decide +kernel
theorem dX5_clashCost_9 : decode cX5_clashCost 9 = .ok (.iload_n 1, 1) := by decide +kernel
theorem dX5_clashCost_10 : decode cX5_clashCost 10 = .ok (.iload_n 2, 1) := by decide +kernel
theorem dX5_clashCost_11 : decode cX5_clashCost 11 = .ok (.invokevirtual 159, 3) := by decide +kernel
theorem dX5_clashCost_14 : decode cX5_clashCost 14 = .ok (.ifCond .ne 5, 3) := by decide +kernel
theorem dX5_clashCost_17 : decode cX5_clashCost 17 = .ok (.iconst 0, 1) := by decide +kernel
theorem dX5_clashCost_18 : decode cX5_clashCost 18 = .ok (.ireturn, 1) := by decide +kernel
theorem dX5_clashCost_19 : decode cX5_clashCost 19 = .ok (.aload_n 0, 1) := by decide +kernel
theorem dX5_clashCost_20 : decode cX5_clashCost 20 = .ok (.invokevirtual 225, 3) := by decide +kernel
theorem dX5_clashCost_23 : decode cX5_clashCost 23 = .ok (.aload_n 0, 1) := by decide +kernel
theorem dX5_clashCost_24 : decode cX5_clashCost 24 = .ok (.getfield 34, 3) := by decide +kernel
theorem dX5_clashCost_27 : decode cX5_clashCost 27 = .ok (.aload_n 0, 1) := by decide +kernel
theorem dX5_clashCost_28 : decode cX5_clashCost 28 = .ok (.getfield 30, 3) := by decide +kernel
theorem dX5_clashCost_31 : decode cX5_clashCost 31 = .ok (.invokevirtual 93, 3) := by decide +kernel
theorem dX5_clashCost_34 : decode cX5_clashCost 34 = .ok (.aload_n 0, 1) := by decide +kernel
theorem dX5_clashCost_35 : decode cX5_clashCost 35 = .ok (.getfield 34, 3) := by decide +kernel
theorem dX5_clashCost_38 : decode cX5_clashCost 38 = .ok (.iload_n 1, 1) := by decide +kernel
theorem dX5_clashCost_39 : decode cX5_clashCost 39 = .ok (.iload_n 2, 1) := by decide +kernel
theorem dX5_clashCost_40 : decode cX5_clashCost 40 = .ok (.iconst 0, 1) := by decide +kernel
theorem dX5_clashCost_41 : decode cX5_clashCost 41 = .ok (.invokevirtual 167, 3) := by decide +kernel
theorem dX5_clashCost_44 : decode cX5_clashCost 44 = .ok (.aload_n 0, 1) := by decide +kernel
theorem dX5_clashCost_45 : decode cX5_clashCost 45 = .ok (.getfield 51, 3) := by decide +kernel
theorem dX5_clashCost_48 : decode cX5_clashCost 48 = .ok (.aload_n 0, 1) := by decide +kernel
theorem dX5_clashCost_49 : decode cX5_clashCost 49 = .ok (.getfield 34, 3) := by decide +kernel
theorem dX5_clashCost_52 : decode cX5_clashCost 52 = .ok (.invokevirtual 231, 3) := by decide +kernel
theorem dX5_clashCost_55 : decode cX5_clashCost 55 = .ok (.aload_n 0, 1) := by decide +kernel
theorem dX5_clashCost_56 : decode cX5_clashCost 56 = .ok (.getfield 51, 3) := by decide +kernel
theorem dX5_clashCost_59 : decode cX5_clashCost 59 = .ok (.iconst 0, 1) := by decide +kernel
theorem dX5_clashCost_60 : decode cX5_clashCost 60 = .ok (.aload_n 0, 1) := by decide +kernel
theorem dX5_clashCost_61 : decode cX5_clashCost 61 = .ok (.getfield 30, 3) := by decide +kernel
theorem dX5_clashCost_64 : decode cX5_clashCost 64 = .ok (.getfield 178, 3) := by decide +kernel
theorem dX5_clashCost_67 : decode cX5_clashCost 67 = .ok (.invokevirtual 228, 3) := by decide +kernel
theorem dX5_clashCost_70 : decode cX5_clashCost 70 = .ok (.aload_n 0, 1) := by decide +kernel
theorem dX5_clashCost_71 : decode cX5_clashCost 71 = .ok (.getfield 47, 3) := by decide +kernel
theorem dX5_clashCost_74 : decode cX5_clashCost 74 = .ok (.iconst 0, 1) := by decide +kernel
theorem dX5_clashCost_75 : decode cX5_clashCost 75 = .ok (.aload_n 0, 1) := by decide +kernel
theorem dX5_clashCost_76 : decode cX5_clashCost 76 = .ok (.getfield 30, 3) := by decide +kernel
theorem dX5_clashCost_79 : decode cX5_clashCost 79 = .ok (.getfield 178, 3) := by decide +kernel
theorem dX5_clashCost_82 : decode cX5_clashCost 82 = .ok (.invokevirtual 228, 3) := by decide +kernel
theorem dX5_clashCost_85 : decode cX5_clashCost 85 = .ok (.isub, 1) := by decide +kernel
theorem dX5_clashCost_86 : decode cX5_clashCost 86 = .ok (.ireturn, 1) := by decide +kernel
theorem dX5_coverValue_0 : decode cX5_coverValue 0 = .ok (.aload_n 0, 1) := by decide +kernel
theorem dX5_coverValue_1 : decode cX5_coverValue 1 = .ok (.invokevirtual 225, 3) := by decide +kernel
theorem dX5_coverValue_4 : decode cX5_coverValue 4 = .ok (.aload_n 0, 1) := by decide +kernel
theorem dX5_coverValue_5 : decode cX5_coverValue 5 = .ok (.getfield 47, 3) := by decide +kernel
theorem dX5_coverValue_8 : decode cX5_coverValue 8 = .ok (.iconst 0, 1) := by decide +kernel
theorem dX5_coverValue_9 : decode cX5_coverValue 9 = .ok (.aload_n 0, 1) := by decide +kernel
theorem dX5_coverValue_10 : decode cX5_coverValue 10 = .ok (.getfield 30, 3) := by decide +kernel
theorem dX5_coverValue_13 : decode cX5_coverValue 13 = .ok (.getfield 178, 3) := by decide +kernel
theorem dX5_coverValue_16 : decode cX5_coverValue 16 = .ok (.iconst 1, 1) := by decide +kernel
theorem dX5_coverValue_17 : decode cX5_coverValue 17 = .ok (.iadd, 1) := by decide +kernel
theorem dX5_coverValue_18 : decode cX5_coverValue 18 = .ok (.invokevirtual 228, 3) := by decide +kernel
theorem dX5_coverValue_21 : decode cX5_coverValue 21 = .ok (.aload_n 0, 1) := by decide +kernel
theorem dX5_coverValue_22 : decode cX5_coverValue 22 = .ok (.getfield 47, 3) := by decide +kernel
theorem dX5_coverValue_25 : decode cX5_coverValue 25 = .ok (.iconst 0, 1) := by decide +kernel
theorem dX5_coverValue_26 : decode cX5_coverValue 26 = .ok (.aload_n 0, 1) := by decide +kernel
theorem dX5_coverValue_27 : decode cX5_coverValue 27 = .ok (.getfield 30, 3) := by decide +kernel
theorem dX5_coverValue_30 : decode cX5_coverValue 30 = .ok (.getfield 178, 3) := by decide +kernel
theorem dX5_coverValue_33 : decode cX5_coverValue 33 = .ok (.invokevirtual 228, 3) := by decide +kernel
theorem dX5_coverValue_36 : decode cX5_coverValue 36 = .ok (.isub, 1) := by decide +kernel
theorem dX5_coverValue_37 : decode cX5_coverValue 37 = .ok (.ireturn, 1) := by decide +kernel
theorem dX5_contribution_0 : decode cX5_contribution 0 = .ok (.aload_n 0, 1) := by decide +kernel
theorem dX5_contribution_1 : decode cX5_contribution 1 = .ok (.iload_n 1, 1) := by decide +kernel
theorem dX5_contribution_2 : decode cX5_contribution 2 = .ok (.invokevirtual 134, 3) := by decide +kernel
theorem dX5_contribution_5 : decode cX5_contribution 5 = .ok (.aload_n 0, 1) := by decide +kernel
theorem dX5_contribution_6 : decode cX5_contribution 6 = .ok (.invokevirtual 225, 3) := by decide +kernel
theorem dX5_contribution_9 : decode cX5_contribution 9 = .ok (.aload_n 0, 1) := by decide +kernel
theorem dX5_contribution_10 : decode cX5_contribution 10 = .ok (.getfield 47, 3) := by decide +kernel
theorem dX5_contribution_13 : decode cX5_contribution 13 = .ok (.iconst 0, 1) := by decide +kernel
theorem dX5_contribution_14 : decode cX5_contribution 14 = .ok (.aload_n 0, 1) := by decide +kernel
theorem dX5_contribution_15 : decode cX5_contribution 15 = .ok (.getfield 30, 3) := by decide +kernel
theorem dX5_contribution_18 : decode cX5_contribution 18 = .ok (.getfield 178, 3) := by decide +kernel
theorem dX5_contribution_21 : decode cX5_contribution 21 = .ok (.invokevirtual 228, 3) := by decide +kernel
theorem dX5_contribution_24 : decode cX5_contribution 24 = .ok (.aload_n 0, 1) := by decide +kernel
theorem dX5_contribution_25 : decode cX5_contribution 25 = .ok (.getfield 47, 3) := by decide +kernel
theorem dX5_contribution_28 : decode cX5_contribution 28 = .ok (.iconst 1, 1) := by decide +kernel
theorem dX5_contribution_29 : decode cX5_contribution 29 = .ok (.iload_n 1, 1) := by decide +kernel
theorem dX5_contribution_30 : decode cX5_contribution 30 = .ok (.ishl, 1) := by decide +kernel
theorem dX5_contribution_31 : decode cX5_contribution 31 = .ok (.aload_n 0, 1) := by decide +kernel
theorem dX5_contribution_32 : decode cX5_contribution 32 = .ok (.getfield 30, 3) := by decide +kernel
theorem dX5_contribution_35 : decode cX5_contribution 35 = .ok (.getfield 178, 3) := by decide +kernel
theorem dX5_contribution_38 : decode cX5_contribution 38 = .ok (.invokevirtual 228, 3) := by decide +kernel
theorem dX5_contribution_41 : decode cX5_contribution 41 = .ok (.isub, 1) := by decide +kernel
theorem dX5_contribution_42 : decode cX5_contribution 42 = .ok (.ireturn, 1) := by decide +kernel
theorem dX5_bestRent_0 : decode cX5_bestRent 0 = .ok (.aload_n 0, 1) := by decide +kernel
theorem dX5_bestRent_1 : decode cX5_bestRent 1 = .ok (.iload_n 1, 1) := by decide +kernel
theorem dX5_bestRent_2 : decode cX5_bestRent 2 = .ok (.invokevirtual 99, 3) := by decide +kernel
theorem dX5_bestRent_5 : decode cX5_bestRent 5 = .ok (.aload_n 0, 1) := by decide +kernel
theorem dX5_bestRent_6 : decode cX5_bestRent 6 = .ok (.invokevirtual 225, 3) := by decide +kernel
theorem dX5_bestRent_9 : decode cX5_bestRent 9 = .ok (.aload_n 0, 1) := by decide +kernel
theorem dX5_bestRent_10 : decode cX5_bestRent 10 = .ok (.getfield 34, 3) := by decide +kernel
theorem dX5_bestRent_13 : decode cX5_bestRent 13 = .ok (.aload_n 0, 1) := by decide +kernel
theorem dX5_bestRent_14 : decode cX5_bestRent 14 = .ok (.getfield 30, 3) := by decide +kernel
theorem dX5_bestRent_17 : decode cX5_bestRent 17 = .ok (.invokevirtual 93, 3) := by decide +kernel
theorem dX5_bestRent_20 : decode cX5_bestRent 20 = .ok (.aload_n 0, 1) := by decide +kernel
theorem dX5_bestRent_21 : decode cX5_bestRent 21 = .ok (.getfield 34, 3) := by decide +kernel
theorem dX5_bestRent_24 : decode cX5_bestRent 24 = .ok (.invokevirtual 237, 3) := by decide +kernel
theorem dX5_bestRent_27 : decode cX5_bestRent 27 = .ok (.aload_n 0, 1) := by decide +kernel
theorem dX5_bestRent_28 : decode cX5_bestRent 28 = .ok (.getfield 51, 3) := by decide +kernel
theorem dX5_bestRent_31 : decode cX5_bestRent 31 = .ok (.aload_n 0, 1) := by decide +kernel
theorem dX5_bestRent_32 : decode cX5_bestRent 32 = .ok (.getfield 34, 3) := by decide +kernel
theorem dX5_bestRent_35 : decode cX5_bestRent 35 = .ok (.invokevirtual 231, 3) := by decide +kernel
theorem dX5_bestRent_38 : decode cX5_bestRent 38 = .ok (.aload_n 0, 1) := by decide +kernel
theorem dX5_bestRent_39 : decode cX5_bestRent 39 = .ok (.getfield 47, 3) := by decide +kernel
theorem dX5_bestRent_42 : decode cX5_bestRent 42 = .ok (.iload_n 1, 1) := by decide +kernel
theorem dX5_bestRent_43 : decode cX5_bestRent 43 = .ok (.aload_n 0, 1) := by decide +kernel
theorem dX5_bestRent_44 : decode cX5_bestRent 44 = .ok (.getfield 51, 3) := by decide +kernel
theorem dX5_bestRent_47 : decode cX5_bestRent 47 = .ok (.invokevirtual 240, 3) := by decide +kernel
theorem dX5_bestRent_50 : decode cX5_bestRent 50 = .ok (.ireturn, 1) := by decide +kernel
theorem dX5_firstCome_0 : decode cX5_firstCome 0 = .ok (.aload_n 0, 1) := by decide +kernel
theorem dX5_firstCome_1 : decode cX5_firstCome 1 = .ok (.lload_n 1, 1) := by decide +kernel
theorem dX5_firstCome_2 : decode cX5_firstCome 2 = .ok (.invokevirtual 244, 3) := by decide +kernel
theorem dX5_firstCome_5 : decode cX5_firstCome 5 = .ok (.istore_n 3, 1) := by decide +kernel
theorem dX5_firstCome_6 : decode cX5_firstCome 6 = .ok (.iload_n 3, 1) := by decide +kernel
theorem dX5_firstCome_7 : decode cX5_firstCome 7 = .ok (.ifCond .ge 13, 3) := by decide +kernel
theorem dX5_firstCome_10 : decode cX5_firstCome 10 = .ok (.new 79, 3) := by decide +kernel
theorem dX5_firstCome_13 : decode cX5_firstCome 13 = .ok (.dup, 1) := by decide +kernel
theorem dX5_firstCome_14 : decode cX5_firstCome 14 = .ok (.ldc 248, 2) := by decide +kernel
theorem dX5_firstCome_16 : decode cX5_firstCome 16 = .ok (.invokespecial 83, 3) := by decide +kernel
theorem dX5_firstCome_19 : decode cX5_firstCome 19 = .ok (.athrow, 1) := by decide +kernel
theorem dX5_firstCome_20 : decode cX5_firstCome 20 = .ok (.aload_n 0, 1) := by decide +kernel
theorem dX5_firstCome_21 : decode cX5_firstCome 21 = .ok (.getfield 34, 3) := by decide +kernel
theorem dX5_firstCome_24 : decode cX5_firstCome 24 = .ok (.aload_n 0, 1) := by decide +kernel
theorem dX5_firstCome_25 : decode cX5_firstCome 25 = .ok (.getfield 30, 3) := by decide +kernel
theorem dX5_firstCome_28 : decode cX5_firstCome 28 = .ok (.invokevirtual 93, 3) := by decide +kernel
theorem dX5_firstCome_31 : decode cX5_firstCome 31 = .ok (.aload_n 0, 1) := by decide +kernel
theorem dX5_firstCome_32 : decode cX5_firstCome 32 = .ok (.getfield 34, 3) := by decide +kernel
theorem dX5_firstCome_35 : decode cX5_firstCome 35 = .ok (.invokevirtual 215, 3) := by decide +kernel
theorem dX5_firstCome_38 : decode cX5_firstCome 38 = .ok (.iload_n 3, 1) := by decide +kernel
theorem dX5_firstCome_39 : decode cX5_firstCome 39 = .ok (.iconst 1, 1) := by decide +kernel
theorem dX5_firstCome_40 : decode cX5_firstCome 40 = .ok (.isub, 1) := by decide +kernel
theorem dX5_firstCome_41 : decode cX5_firstCome 41 = .ok (.istore 4, 2) := by decide +kernel
theorem dX5_firstCome_43 : decode cX5_firstCome 43 = .ok (.iload 4, 2) := by decide +kernel
theorem dX5_firstCome_45 : decode cX5_firstCome 45 = .ok (.ifCond .lt 23, 3) := by decide +kernel
theorem dX5_firstCome_48 : decode cX5_firstCome 48 = .ok (.aload_n 0, 1) := by decide +kernel
theorem dX5_firstCome_49 : decode cX5_firstCome 49 = .ok (.getfield 34, 3) := by decide +kernel
theorem dX5_firstCome_52 : decode cX5_firstCome 52 = .ok (.aload_n 0, 1) := by decide +kernel
theorem dX5_firstCome_53 : decode cX5_firstCome 53 = .ok (.getfield 61, 3) := by decide +kernel
theorem dX5_firstCome_56 : decode cX5_firstCome 56 = .ok (.iload 4, 2) := by decide +kernel
theorem dX5_firstCome_58 : decode cX5_firstCome 58 = .ok (.iaload, 1) := by decide +kernel
theorem dX5_firstCome_59 : decode cX5_firstCome 59 = .ok (.invokevirtual 250, 3) := by decide +kernel
theorem dX5_firstCome_62 : decode cX5_firstCome 62 = .ok (.iinc 4 (-1), 3) := by decide +kernel
theorem dX5_firstCome_65 : decode cX5_firstCome 65 = .ok (.goto (-22), 3) := by decide +kernel
theorem dX5_firstCome_68 : decode cX5_firstCome 68 = .ok (.aload_n 0, 1) := by decide +kernel
theorem dX5_firstCome_69 : decode cX5_firstCome 69 = .ok (.getfield 34, 3) := by decide +kernel
theorem dX5_firstCome_72 : decode cX5_firstCome 72 = .ok (.invokevirtual 205, 3) := by decide +kernel
theorem dX5_firstCome_75 : decode cX5_firstCome 75 = .ok (.ireturn, 1) := by decide +kernel
theorem dX5_readQueue_0 : decode cX5_readQueue 0 = .ok (.lload_n 1, 1) := by decide +kernel
theorem dX5_readQueue_1 : decode cX5_readQueue 1 = .ok (.lconst 0, 1) := by decide +kernel
theorem dX5_readQueue_2 : decode cX5_readQueue 2 = .ok (.lcmp, 1) := by decide +kernel
theorem dX5_readQueue_3 : decode cX5_readQueue 3 = .ok (.ifCond .ge 5, 3) := by decide +kernel
theorem dX5_readQueue_6 : decode cX5_readQueue 6 = .ok (.iconst (-1), 1) := by decide +kernel
theorem dX5_readQueue_7 : decode cX5_readQueue 7 = .ok (.ireturn, 1) := by decide +kernel
theorem dX5_readQueue_8 : decode cX5_readQueue 8 = .ok (.iconst 0, 1) := by decide +kernel
theorem dX5_readQueue_9 : decode cX5_readQueue 9 = .ok (.istore_n 3, 1) := by decide +kernel
theorem dX5_readQueue_10 : decode cX5_readQueue 10 = .ok (.iconst 0, 1) := by decide +kernel
theorem dX5_readQueue_11 : decode cX5_readQueue 11 = .ok (.istore 4, 2) := by decide +kernel
theorem dX5_readQueue_13 : decode cX5_readQueue 13 = .ok (.lload_n 1, 1) := by decide +kernel
theorem dX5_readQueue_14 : decode cX5_readQueue 14 = .ok (.lstore 5, 2) := by decide +kernel
theorem dX5_readQueue_16 : decode cX5_readQueue 16 = .ok (.lload 5, 2) := by decide +kernel
theorem dX5_readQueue_18 : decode cX5_readQueue 18 = .ok (.lconst 0, 1) := by decide +kernel
theorem dX5_readQueue_19 : decode cX5_readQueue 19 = .ok (.lcmp, 1) := by decide +kernel
theorem dX5_readQueue_20 : decode cX5_readQueue 20 = .ok (.ifCond .le 74, 3) := by decide +kernel
theorem dX5_readQueue_23 : decode cX5_readQueue 23 = .ok (.lload 5, 2) := by decide +kernel
theorem dX5_readQueue_25 : decode cX5_readQueue 25 = .ok (.ldc2_w 253, 3) := by decide +kernel
theorem dX5_readQueue_28 : decode cX5_readQueue 28 = .ok (.lrem, 1) := by decide +kernel
theorem dX5_readQueue_29 : decode cX5_readQueue 29 = .ok (.l2i, 1) := by decide +kernel
theorem dX5_readQueue_30 : decode cX5_readQueue 30 = .ok (.iconst 1, 1) := by decide +kernel
theorem dX5_readQueue_31 : decode cX5_readQueue 31 = .ok (.isub, 1) := by decide +kernel
theorem dX5_readQueue_32 : decode cX5_readQueue 32 = .ok (.istore 7, 2) := by decide +kernel
theorem dX5_readQueue_34 : decode cX5_readQueue 34 = .ok (.aload_n 0, 1) := by decide +kernel
theorem dX5_readQueue_35 : decode cX5_readQueue 35 = .ok (.getfield 30, 3) := by decide +kernel
theorem dX5_readQueue_38 : decode cX5_readQueue 38 = .ok (.iload 7, 2) := by decide +kernel
theorem dX5_readQueue_40 : decode cX5_readQueue 40 = .ok (.invokevirtual 255, 3) := by decide +kernel
theorem dX5_readQueue_43 : decode cX5_readQueue 43 = .ok (.ifCond .eq 19, 3) := by decide +kernel
theorem dX5_readQueue_46 : decode cX5_readQueue 46 = .ok (.iload_n 3, 1) := by decide +kernel
theorem dX5_readQueue_47 : decode cX5_readQueue 47 = .ok (.iload 7, 2) := by decide +kernel
theorem dX5_readQueue_49 : decode cX5_readQueue 49 = .ok (.ishr, 1) := by decide +kernel
theorem dX5_readQueue_50 : decode cX5_readQueue 50 = .ok (.iconst 1, 1) := by decide +kernel
theorem dX5_readQueue_51 : decode cX5_readQueue 51 = .ok (.iand, 1) := by decide +kernel
theorem dX5_readQueue_52 : decode cX5_readQueue 52 = .ok (.ifCond .ne 10, 3) := by decide +kernel
theorem dX5_readQueue_55 : decode cX5_readQueue 55 = .ok (.iload 4, 2) := by decide +kernel
theorem dX5_readQueue_57 : decode cX5_readQueue 57 = .ok (.bipush 8, 2) := by decide +kernel
theorem dX5_readQueue_59 : decode cX5_readQueue 59 = .ok (.if_icmp .lt 5, 3) := by decide +kernel
theorem dX5_readQueue_62 : decode cX5_readQueue 62 = .ok (.iconst (-1), 1) := by decide +kernel
theorem dX5_readQueue_63 : decode cX5_readQueue 63 = .ok (.ireturn, 1) := by decide +kernel
theorem dX5_readQueue_64 : decode cX5_readQueue 64 = .ok (.iload_n 3, 1) := by decide +kernel
theorem dX5_readQueue_65 : decode cX5_readQueue 65 = .ok (.iconst 1, 1) := by decide +kernel
theorem dX5_readQueue_66 : decode cX5_readQueue 66 = .ok (.iload 7, 2) := by decide +kernel
theorem dX5_readQueue_68 : decode cX5_readQueue 68 = .ok (.ishl, 1) := by decide +kernel
theorem dX5_readQueue_69 : decode cX5_readQueue 69 = .ok (.ior, 1) := by decide +kernel
theorem dX5_readQueue_70 : decode cX5_readQueue 70 = .ok (.istore_n 3, 1) := by decide +kernel
theorem dX5_readQueue_71 : decode cX5_readQueue 71 = .ok (.aload_n 0, 1) := by decide +kernel
theorem dX5_readQueue_72 : decode cX5_readQueue 72 = .ok (.getfield 61, 3) := by decide +kernel
theorem dX5_readQueue_75 : decode cX5_readQueue 75 = .ok (.iload 4, 2) := by decide +kernel
theorem dX5_readQueue_77 : decode cX5_readQueue 77 = .ok (.iload 7, 2) := by decide +kernel
theorem dX5_readQueue_79 : decode cX5_readQueue 79 = .ok (.iastore, 1) := by decide +kernel
theorem dX5_readQueue_80 : decode cX5_readQueue 80 = .ok (.iinc 4 1, 3) := by decide +kernel
theorem dX5_readQueue_83 : decode cX5_readQueue 83 = .ok (.lload 5, 2) := by decide +kernel
theorem dX5_readQueue_85 : decode cX5_readQueue 85 = .ok (.ldc2_w 253, 3) := by decide +kernel
theorem dX5_readQueue_88 : decode cX5_readQueue 88 = .ok (.ldiv, 1) := by decide +kernel
theorem dX5_readQueue_89 : decode cX5_readQueue 89 = .ok (.lstore 5, 2) := by decide +kernel
theorem dX5_readQueue_91 : decode cX5_readQueue 91 = .ok (.goto (-75), 3) := by decide +kernel
theorem dX5_readQueue_94 : decode cX5_readQueue 94 = .ok (.iload 4, 2) := by decide +kernel
theorem dX5_readQueue_96 : decode cX5_readQueue 96 = .ok (.ireturn, 1) := by decide +kernel
theorem dX5_insertionIncome_0 : decode cX5_insertionIncome 0 = .ok (.aload_n 0, 1) := by decide +kernel
theorem dX5_insertionIncome_1 : decode cX5_insertionIncome 1 = .ok (.iload_n 1, 1) := by decide +kernel
theorem dX5_insertionIncome_2 : decode cX5_insertionIncome 2 = .ok (.iload_n 2, 1) := by decide +kernel
theorem dX5_insertionIncome_3 : decode cX5_insertionIncome 3 = .ok (.invokevirtual 258, 3) := by decide +kernel
theorem dX5_insertionIncome_6 : decode cX5_insertionIncome 6 = .ok (.aload_n 0, 1) := by decide +kernel
theorem dX5_insertionIncome_7 : decode cX5_insertionIncome 7 = .ok (.getfield 57, 3) := by decide +kernel
theorem dX5_insertionIncome_10 : decode cX5_insertionIncome 10 = .ok (.aload_n 0, 1) := by decide +kernel
theorem dX5_insertionIncome_11 : decode cX5_insertionIncome 11 = .ok (.getfield 30, 3) := by decide +kernel
theorem dX5_insertionIncome_14 : decode cX5_insertionIncome 14 = .ok (.iload_n 1, 1) := by decide +kernel
theorem dX5_insertionIncome_15 : decode cX5_insertionIncome 15 = .ok (.iload_n 2, 1) := by decide +kernel
theorem dX5_insertionIncome_16 : decode cX5_insertionIncome 16 = .ok (.invokevirtual 261, 3) := by decide +kernel
theorem dX5_insertionIncome_19 : decode cX5_insertionIncome 19 = .ok (.aload_n 0, 1) := by decide +kernel
theorem dX5_insertionIncome_20 : decode cX5_insertionIncome 20 = .ok (.getfield 57, 3) := by decide +kernel
theorem dX5_insertionIncome_23 : decode cX5_insertionIncome 23 = .ok (.getfield 265, 3) := by decide +kernel
theorem dX5_insertionIncome_26 : decode cX5_insertionIncome 26 = .ok (.ireturn, 1) := by decide +kernel
theorem dX5_insert_0 : decode cX5_insert 0 = .ok (.aload_n 0, 1) := by decide +kernel
theorem dX5_insert_1 : decode cX5_insert 1 = .ok (.iload_n 1, 1) := by decide +kernel
theorem dX5_insert_2 : decode cX5_insert 2 = .ok (.iload_n 2, 1) := by decide +kernel
theorem dX5_insert_3 : decode cX5_insert 3 = .ok (.invokevirtual 258, 3) := by decide +kernel
theorem dX5_insert_6 : decode cX5_insert 6 = .ok (.aload_n 0, 1) := by decide +kernel
theorem dX5_insert_7 : decode cX5_insert 7 = .ok (.getfield 57, 3) := by decide +kernel
theorem dX5_insert_10 : decode cX5_insert 10 = .ok (.aload_n 0, 1) := by decide +kernel
theorem dX5_insert_11 : decode cX5_insert 11 = .ok (.getfield 30, 3) := by decide +kernel
theorem dX5_insert_14 : decode cX5_insert 14 = .ok (.iload_n 1, 1) := by decide +kernel
theorem dX5_insert_15 : decode cX5_insert 15 = .ok (.iload_n 2, 1) := by decide +kernel
theorem dX5_insert_16 : decode cX5_insert 16 = .ok (.invokevirtual 261, 3) := by decide +kernel
theorem dX5_insert_19 : decode cX5_insert 19 = .ok (.aload_n 0, 1) := by decide +kernel
theorem dX5_insert_20 : decode cX5_insert 20 = .ok (.getfield 57, 3) := by decide +kernel
theorem dX5_insert_23 : decode cX5_insert 23 = .ok (.getfield 265, 3) := by decide +kernel
theorem dX5_insert_26 : decode cX5_insert 26 = .ok (.ifCond .ge 14, 3) := by decide +kernel
theorem dX5_insert_29 : decode cX5_insert 29 = .ok (.new 68, 3) := by decide +kernel
theorem dX5_insert_32 : decode cX5_insert 32 = .ok (.dup, 1) := by decide +kernel
theorem dX5_insert_33 : decode cX5_insert 33 = .ok (.ldc_w 268, 3) := by decide +kernel
theorem dX5_insert_36 : decode cX5_insert 36 = .ok (.invokespecial 72, 3) := by decide +kernel
theorem dX5_insert_39 : decode cX5_insert 39 = .ok (.athrow, 1) := by decide +kernel
theorem dX5_insert_40 : decode cX5_insert 40 = .ok (.aload_n 0, 1) := by decide +kernel
theorem dX5_insert_41 : decode cX5_insert 41 = .ok (.getfield 40, 3) := by decide +kernel
theorem dX5_insert_44 : decode cX5_insert 44 = .ok (.aload_n 0, 1) := by decide +kernel
theorem dX5_insert_45 : decode cX5_insert 45 = .ok (.getfield 30, 3) := by decide +kernel
theorem dX5_insert_48 : decode cX5_insert 48 = .ok (.invokevirtual 89, 3) := by decide +kernel
theorem dX5_insert_51 : decode cX5_insert 51 = .ok (.aload_n 0, 1) := by decide +kernel
theorem dX5_insert_52 : decode cX5_insert 52 = .ok (.getfield 30, 3) := by decide +kernel
theorem dX5_insert_55 : decode cX5_insert 55 = .ok (.aload_n 0, 1) := by decide +kernel
theorem dX5_insert_56 : decode cX5_insert 56 = .ok (.getfield 57, 3) := by decide +kernel
theorem dX5_insert_59 : decode cX5_insert 59 = .ok (.getfield 270, 3) := by decide +kernel
theorem dX5_insert_62 : decode cX5_insert 62 = .ok (.invokevirtual 93, 3) := by decide +kernel
theorem dX5_insert_65 : decode cX5_insert 65 = .ok (.aload_n 0, 1) := by decide +kernel
theorem dX5_insert_66 : decode cX5_insert 66 = .ok (.getfield 57, 3) := by decide +kernel
theorem dX5_insert_69 : decode cX5_insert 69 = .ok (.getfield 273, 3) := by decide +kernel
theorem dX5_insert_72 : decode cX5_insert 72 = .ok (.ireturn, 1) := by decide +kernel
theorem dX5_undo_0 : decode cX5_undo 0 = .ok (.aload_n 0, 1) := by decide +kernel
theorem dX5_undo_1 : decode cX5_undo 1 = .ok (.getfield 40, 3) := by decide +kernel
theorem dX5_undo_4 : decode cX5_undo 4 = .ok (.getfield 276, 3) := by decide +kernel
theorem dX5_undo_7 : decode cX5_undo 7 = .ok (.ifCond .ne 14, 3) := by decide +kernel
theorem dX5_undo_10 : decode cX5_undo 10 = .ok (.new 68, 3) := by decide +kernel
theorem dX5_undo_13 : decode cX5_undo 13 = .ok (.dup, 1) := by decide +kernel
theorem dX5_undo_14 : decode cX5_undo 14 = .ok (.ldc_w 279, 3) := by decide +kernel
theorem dX5_undo_17 : decode cX5_undo 17 = .ok (.invokespecial 72, 3) := by decide +kernel
theorem dX5_undo_20 : decode cX5_undo 20 = .ok (.athrow, 1) := by decide +kernel
theorem dX5_undo_21 : decode cX5_undo 21 = .ok (.aload_n 0, 1) := by decide +kernel
theorem dX5_undo_22 : decode cX5_undo 22 = .ok (.getfield 40, 3) := by decide +kernel
theorem dX5_undo_25 : decode cX5_undo 25 = .ok (.aload_n 0, 1) := by decide +kernel
theorem dX5_undo_26 : decode cX5_undo 26 = .ok (.getfield 30, 3) := by decide +kernel
theorem dX5_undo_29 : decode cX5_undo 29 = .ok (.invokevirtual 281, 3) := by decide +kernel
theorem dX5_undo_32 : decode cX5_undo 32 = .ok (.aload_n 0, 1) := by decide +kernel
theorem dX5_undo_33 : decode cX5_undo 33 = .ok (.iconst 0, 1) := by decide +kernel
theorem dX5_undo_34 : decode cX5_undo 34 = .ok (.putfield 64, 3) := by decide +kernel
theorem dX5_undo_37 : decode cX5_undo 37 = .ok (.aload_n 0, 1) := by decide +kernel
theorem dX5_undo_38 : decode cX5_undo 38 = .ok (.getfield 40, 3) := by decide +kernel
theorem dX5_undo_41 : decode cX5_undo 41 = .ok (.getfield 276, 3) := by decide +kernel
theorem dX5_undo_44 : decode cX5_undo 44 = .ok (.ireturn, 1) := by decide +kernel
theorem dX5_requirePitch_0 : decode cX5_requirePitch 0 = .ok (.aload_n 0, 1) := by decide +kernel
theorem dX5_requirePitch_1 : decode cX5_requirePitch 1 = .ok (.getfield 30, 3) := by decide +kernel
theorem dX5_requirePitch_4 : decode cX5_requirePitch 4 = .ok (.iload_n 1, 1) := by decide +kernel
theorem dX5_requirePitch_5 : decode cX5_requirePitch 5 = .ok (.invokevirtual 284, 3) := by decide +kernel
theorem dX5_requirePitch_8 : decode cX5_requirePitch 8 = .ok (.ifCond .ne 14, 3) := by decide +kernel
theorem dX5_requirePitch_11 : decode cX5_requirePitch 11 = .ok (.new 287, 3) := by decide +kernel
theorem dX5_requirePitch_14 : decode cX5_requirePitch 14 = .ok (.dup, 1) := by decide +kernel
theorem dX5_requirePitch_15 : decode cX5_requirePitch 15 = .ok (.ldc_w 289, 3) := by decide +kernel
theorem dX5_requirePitch_18 : decode cX5_requirePitch 18 = .ok (.invokespecial 291, 3) := by decide +kernel
theorem dX5_requirePitch_21 : decode cX5_requirePitch 21 = .ok (.athrow, 1) := by decide +kernel
theorem dX5_requirePitch_22 : decode cX5_requirePitch 22 = .ok (.return_, 1) := by decide +kernel
theorem dX5_requireTrader_0 : decode cX5_requireTrader 0 = .ok (.aload_n 0, 1) := by decide +kernel
theorem dX5_requireTrader_1 : decode cX5_requireTrader 1 = .ok (.getfield 30, 3) := by decide +kernel
theorem dX5_requireTrader_4 : decode cX5_requireTrader 4 = .ok (.iload_n 1, 1) := by decide +kernel
theorem dX5_requireTrader_5 : decode cX5_requireTrader 5 = .ok (.invokevirtual 255, 3) := by decide +kernel
theorem dX5_requireTrader_8 : decode cX5_requireTrader 8 = .ok (.ifCond .ne 14, 3) := by decide +kernel
theorem dX5_requireTrader_11 : decode cX5_requireTrader 11 = .ok (.new 287, 3) := by decide +kernel
theorem dX5_requireTrader_14 : decode cX5_requireTrader 14 = .ok (.dup, 1) := by decide +kernel
theorem dX5_requireTrader_15 : decode cX5_requireTrader 15 = .ok (.ldc_w 292, 3) := by decide +kernel
theorem dX5_requireTrader_18 : decode cX5_requireTrader 18 = .ok (.invokespecial 291, 3) := by decide +kernel
theorem dX5_requireTrader_21 : decode cX5_requireTrader 21 = .ok (.athrow, 1) := by decide +kernel
theorem dX5_requireTrader_22 : decode cX5_requireTrader 22 = .ok (.return_, 1) := by decide +kernel
theorem dX5_requireTrades_0 : decode cX5_requireTrades 0 = .ok (.iload_n 0, 1) := by decide +kernel
theorem dX5_requireTrades_1 : decode cX5_requireTrades 1 = .ok (.invokestatic 143, 3) := by decide +kernel
theorem dX5_requireTrades_4 : decode cX5_requireTrades 4 = .ok (.ifCond .ne 10, 3) := by decide +kernel
theorem dX5_requireTrades_7 : decode cX5_requireTrades 7 = .ok (.iload_n 1, 1) := by decide +kernel
theorem dX5_requireTrades_8 : decode cX5_requireTrades 8 = .ok (.invokestatic 143, 3) := by decide +kernel
theorem dX5_requireTrades_11 : decode cX5_requireTrades 11 = .ok (.ifCond .eq 14, 3) := by decide +kernel
theorem dX5_requireTrades_14 : decode cX5_requireTrades 14 = .ok (.new 79, 3) := by decide +kernel
theorem dX5_requireTrades_17 : decode cX5_requireTrades 17 = .ok (.dup, 1) := by decide +kernel
theorem dX5_requireTrades_18 : decode cX5_requireTrades 18 = .ok (.ldc_w 294, 3) := by decide +kernel
theorem dX5_requireTrades_21 : decode cX5_requireTrades 21 = .ok (.invokespecial 83, 3) := by decide +kernel
theorem dX5_requireTrades_24 : decode cX5_requireTrades 24 = .ok (.athrow, 1) := by decide +kernel
theorem dX5_requireTrades_25 : decode cX5_requireTrades 25 = .ok (.return_, 1) := by decide +kernel
theorem dX5_requireNewcomer_0 : decode cX5_requireNewcomer 0 = .ok (.aload_n 0, 1) := by decide +kernel
theorem dX5_requireNewcomer_1 : decode cX5_requireNewcomer 1 = .ok (.iload_n 1, 1) := by decide +kernel
theorem dX5_requireNewcomer_2 : decode cX5_requireNewcomer 2 = .ok (.invokevirtual 134, 3) := by decide +kernel
theorem dX5_requireNewcomer_5 : decode cX5_requireNewcomer 5 = .ok (.iload_n 2, 1) := by decide +kernel
theorem dX5_requireNewcomer_6 : decode cX5_requireNewcomer 6 = .ok (.iconst 0, 1) := by decide +kernel
theorem dX5_requireNewcomer_7 : decode cX5_requireNewcomer 7 = .ok (.iconst 2, 1) := by decide +kernel
theorem dX5_requireNewcomer_8 : decode cX5_requireNewcomer 8 = .ok (.invokestatic 112, 3) := by decide +kernel
theorem dX5_requireNewcomer_11 : decode cX5_requireNewcomer 11 = .ok (.ifCond .eq 14, 3) := by decide +kernel
theorem dX5_requireNewcomer_14 : decode cX5_requireNewcomer 14 = .ok (.new 79, 3) := by decide +kernel
theorem dX5_requireNewcomer_17 : decode cX5_requireNewcomer 17 = .ok (.dup, 1) := by decide +kernel
theorem dX5_requireNewcomer_18 : decode cX5_requireNewcomer 18 = .ok (.ldc_w 296, 3) := by decide +kernel
theorem dX5_requireNewcomer_21 : decode cX5_requireNewcomer 21 = .ok (.invokespecial 83, 3) := by decide +kernel
theorem dX5_requireNewcomer_24 : decode cX5_requireNewcomer 24 = .ok (.athrow, 1) := by decide +kernel
theorem dX5_requireNewcomer_25 : decode cX5_requireNewcomer 25 = .ok (.aload_n 0, 1) := by decide +kernel
theorem dX5_requireNewcomer_26 : decode cX5_requireNewcomer 26 = .ok (.getfield 30, 3) := by decide +kernel
theorem dX5_requireNewcomer_29 : decode cX5_requireNewcomer 29 = .ok (.iload_n 1, 1) := by decide +kernel
theorem dX5_requireNewcomer_30 : decode cX5_requireNewcomer 30 = .ok (.invokevirtual 195, 3) := by decide +kernel
theorem dX5_requireNewcomer_33 : decode cX5_requireNewcomer 33 = .ok (.ifCond .eq 14, 3) := by decide +kernel
theorem dX5_requireNewcomer_36 : decode cX5_requireNewcomer 36 = .ok (.new 68, 3) := by decide +kernel
theorem dX5_requireNewcomer_39 : decode cX5_requireNewcomer 39 = .ok (.dup, 1) := by decide +kernel
theorem dX5_requireNewcomer_40 : decode cX5_requireNewcomer 40 = .ok (.ldc_w 298, 3) := by decide +kernel
theorem dX5_requireNewcomer_43 : decode cX5_requireNewcomer 43 = .ok (.invokespecial 72, 3) := by decide +kernel
theorem dX5_requireNewcomer_46 : decode cX5_requireNewcomer 46 = .ok (.athrow, 1) := by decide +kernel
theorem dX5_requireNewcomer_47 : decode cX5_requireNewcomer 47 = .ok (.return_, 1) := by decide +kernel
theorem dX5_isNoTrade_0 : decode cX5_isNoTrade 0 = .ok (.iload_n 0, 1) := by decide +kernel
theorem dX5_isNoTrade_1 : decode cX5_isNoTrade 1 = .ok (.iconst 0, 1) := by decide +kernel
theorem dX5_isNoTrade_2 : decode cX5_isNoTrade 2 = .ok (.bipush 7, 2) := by decide +kernel
theorem dX5_isNoTrade_4 : decode cX5_isNoTrade 4 = .ok (.invokestatic 112, 3) := by decide +kernel
theorem dX5_isNoTrade_7 : decode cX5_isNoTrade 7 = .ok (.ireturn, 1) := by decide +kernel
theorem dX5_isOutside_0 : decode cX5_isOutside 0 = .ok (.iload_n 0, 1) := by decide +kernel
theorem dX5_isOutside_1 : decode cX5_isOutside 1 = .ok (.iload_n 1, 1) := by decide +kernel
theorem dX5_isOutside_2 : decode cX5_isOutside 2 = .ok (.if_icmp .lt 8, 3) := by decide +kernel
theorem dX5_isOutside_5 : decode cX5_isOutside 5 = .ok (.iload_n 0, 1) := by decide +kernel
theorem dX5_isOutside_6 : decode cX5_isOutside 6 = .ok (.iload_n 2, 1) := by decide +kernel
theorem dX5_isOutside_7 : decode cX5_isOutside 7 = .ok (.if_icmp .le 7, 3) := by decide +kernel
theorem dX5_isOutside_10 : decode cX5_isOutside 10 = .ok (.iconst 1, 1) := by decide +kernel
theorem dX5_isOutside_11 : decode cX5_isOutside 11 = .ok (.goto 4, 3) := by decide +kernel
theorem dX5_isOutside_14 : decode cX5_isOutside 14 = .ok (.iconst 0, 1) := by decide +kernel
theorem dX5_isOutside_15 : decode cX5_isOutside 15 = .ok (.ireturn, 1) := by decide +kernel
theorem dX6_init_0 : decode cX6_init 0 = .ok (.aload_n 0, 1) := by decide +kernel
theorem dX6_init_1 : decode cX6_init 1 = .ok (.invokespecial 1, 3) := by decide +kernel
theorem dX6_init_4 : decode cX6_init 4 = .ok (.aload_n 0, 1) := by decide +kernel
theorem dX6_init_5 : decode cX6_init 5 = .ok (.sipush 180, 3) := by decide +kernel
theorem dX6_init_8 : decode cX6_init 8 = .ok (.newarray .int, 2) := by decide +kernel
theorem dX6_init_10 : decode cX6_init 10 = .ok (.putfield 7, 3) := by decide +kernel
theorem dX6_init_13 : decode cX6_init 13 = .ok (.aload_n 0, 1) := by decide +kernel
theorem dX6_init_14 : decode cX6_init 14 = .ok (.sipush 180, 3) := by decide +kernel
theorem dX6_init_17 : decode cX6_init 17 = .ok (.newarray .int, 2) := by decide +kernel
theorem dX6_init_19 : decode cX6_init 19 = .ok (.putfield 13, 3) := by decide +kernel
theorem dX6_init_22 : decode cX6_init 22 = .ok (.aload_n 0, 1) := by decide +kernel
theorem dX6_init_23 : decode cX6_init 23 = .ok (.sipush 1080, 3) := by decide +kernel
theorem dX6_init_26 : decode cX6_init 26 = .ok (.newarray .int, 2) := by decide +kernel
theorem dX6_init_28 : decode cX6_init 28 = .ok (.putfield 16, 3) := by decide +kernel
theorem dX6_init_31 : decode cX6_init 31 = .ok (.aload_n 0, 1) := by decide +kernel
theorem dX6_init_32 : decode cX6_init 32 = .ok (.sipush 600, 3) := by decide +kernel
theorem dX6_init_35 : decode cX6_init 35 = .ok (.newarray .int, 2) := by decide +kernel
theorem dX6_init_37 : decode cX6_init 37 = .ok (.putfield 19, 3) := by decide +kernel
theorem dX6_init_40 : decode cX6_init 40 = .ok (.aload_n 0, 1) := by decide +kernel
theorem dX6_init_41 : decode cX6_init 41 = .ok (.iconst (-1), 1) := by decide +kernel
theorem dX6_init_42 : decode cX6_init 42 = .ok (.putfield 22, 3) := by decide +kernel
theorem dX6_init_45 : decode cX6_init 45 = .ok (.aload_n 0, 1) := by decide +kernel
theorem dX6_init_46 : decode cX6_init 46 = .ok (.ldc 26, 2) := by decide +kernel
theorem dX6_init_48 : decode cX6_init 48 = .ok (.newarray .int, 2) := by decide +kernel
theorem dX6_init_50 : decode cX6_init 50 = .ok (.putfield 27, 3) := by decide +kernel
theorem dX6_init_53 : decode cX6_init 53 = .ok (.aload_n 0, 1) := by decide +kernel
theorem dX6_init_54 : decode cX6_init 54 = .ok (.sipush 192, 3) := by decide +kernel
theorem dX6_init_57 : decode cX6_init 57 = .ok (.newarray .int, 2) := by decide +kernel
theorem dX6_init_59 : decode cX6_init 59 = .ok (.putfield 30, 3) := by decide +kernel
theorem dX6_init_62 : decode cX6_init 62 = .ok (.aload_n 0, 1) := by decide +kernel
theorem dX6_init_63 : decode cX6_init 63 = .ok (.sipush 192, 3) := by decide +kernel
theorem dX6_init_66 : decode cX6_init 66 = .ok (.newarray .int, 2) := by decide +kernel
theorem dX6_init_68 : decode cX6_init 68 = .ok (.putfield 33, 3) := by decide +kernel
theorem dX6_init_71 : decode cX6_init 71 = .ok (.aload_n 0, 1) := by decide +kernel
theorem dX6_init_72 : decode cX6_init 72 = .ok (.sipush 192, 3) := by decide +kernel
theorem dX6_init_75 : decode cX6_init 75 = .ok (.newarray .int, 2) := by decide +kernel
theorem dX6_init_77 : decode cX6_init 77 = .ok (.putfield 36, 3) := by decide +kernel
theorem dX6_init_80 : decode cX6_init 80 = .ok (.aload_n 0, 1) := by decide +kernel
theorem dX6_init_81 : decode cX6_init 81 = .ok (.sipush 1000, 3) := by decide +kernel
theorem dX6_init_84 : decode cX6_init 84 = .ok (.newarray .boolean, 2) := by decide +kernel
theorem dX6_init_86 : decode cX6_init 86 = .ok (.putfield 39, 3) := by decide +kernel
theorem dX6_init_89 : decode cX6_init 89 = .ok (.aload_n 0, 1) := by decide +kernel
