/-! ===== BEGIN printed: names, fields, word lists, decode rows ===== -/
def RX0 : String := "Chanceledger$Chain"
def TX0 : u_T := fun k => match k with
  | 0 => ("Chanceledger$Chain", "game", "LChanceledger$Game;", true)
  | 1 => ("Chanceledger$Chain", "equations", "LChanceledger$Equations;", true)
  | _ => ("Chanceledger$Chain", "statesOfA", "I", false)
def tyX0 : Nat → FieldType := fun k => match k with
  | 0 => .object "Chanceledger$Game"
  | 1 => .object "Chanceledger$Equations"
  | _ => .int
abbrev wsX00 : List Cond := u_ws RX0 TX0 3
theorem nmX0 : ∀ a, a < 3 → ∀ b, b < 3 → a ≠ b → (TX0 a).2.1 ≠ (TX0 b).2.1 := by decide +kernel
theorem tyX0_ok : ∀ k, k < 3 → parseFieldDescriptor (TX0 k).2.2.1 = some (tyX0 k) := by decide +kernel
abbrev cX0_init : ByteArray := prog_2_method_1_code
def yX0_init : MethodName := ⟨RX0, "<init>", "(LChanceledger$Game;)V"⟩
abbrev cX0_arrange : ByteArray := prog_2_method_2_code
def yX0_arrange : MethodName := ⟨RX0, "arrange", "()V"⟩
abbrev cX0_evaluate : ByteArray := prog_2_method_3_code
def yX0_evaluate : MethodName := ⟨RX0, "evaluate", "(C[I)V"⟩
abbrev cX0_evaluateFrom : ByteArray := prog_2_method_4_code
def yX0_evaluateFrom : MethodName := ⟨RX0, "evaluateFrom", "(C[II)V"⟩
abbrev cX0_evaluateReach : ByteArray := prog_2_method_5_code
def yX0_evaluateReach : MethodName := ⟨RX0, "evaluateReach", "(I[I)V"⟩
abbrev cX0_solveAll : ByteArray := prog_2_method_6_code
def yX0_solveAll : MethodName := ⟨RX0, "solveAll", "()V"⟩
abbrev cX0_reachEquation : ByteArray := prog_2_method_7_code
def yX0_reachEquation : MethodName := ⟨RX0, "reachEquation", "(III)V"⟩
abbrev cX0_costEquation : ByteArray := prog_2_method_8_code
def yX0_costEquation : MethodName := ⟨RX0, "costEquation", "(IIC)V"⟩
abbrev cX0_step : ByteArray := prog_2_method_9_code
def yX0_step : MethodName := ⟨RX0, "step", "(IIII)V"⟩
abbrev cX0_expected : ByteArray := prog_2_method_10_code
def yX0_expected : MethodName := ⟨RX0, "expected", "(I)J"⟩
abbrev cX0_ahead : ByteArray := prog_2_method_11_code
def yX0_ahead : MethodName := ⟨RX0, "ahead", "(CI)J"⟩
abbrev cX0_isGood : ByteArray := prog_2_method_12_code
def yX0_isGood : MethodName := ⟨RX0, "isGood", "(CII)Z"⟩
abbrev cX0_isNought : ByteArray := prog_2_method_13_code
def yX0_isNought : MethodName := ⟨RX0, "isNought", "(I)Z"⟩
abbrev cX0_toldAbove : ByteArray := prog_2_method_14_code
def yX0_toldAbove : MethodName := ⟨RX0, "toldAbove", "(I)J"⟩
abbrev cX0_toldBelow : ByteArray := prog_2_method_15_code
def yX0_toldBelow : MethodName := ⟨RX0, "toldBelow", "(I)J"⟩
abbrev cX0_copyTo : ByteArray := prog_2_method_16_code
def yX0_copyTo : MethodName := ⟨RX0, "copyTo", "(LChanceledger$Values;)V"⟩
def RX1 : String := "Chanceledger$Equations"
def TX1 : u_T := fun k => match k with
  | 0 => ("Chanceledger$Equations", "size", "I", false)
  | 1 => ("Chanceledger$Equations", "order", "[I", true)
  | 2 => ("Chanceledger$Equations", "grid", "[[J", true)
  | 3 => ("Chanceledger$Equations", "answer", "[J", true)
  | _ => ("Chanceledger$Equations", "divisor", "J", false)
def tyX1 : Nat → FieldType := fun k => match k with
  | 0 => .int
  | 1 => .array .int
  | 2 => .array (.array .long)
  | 3 => .array .long
  | _ => .long
abbrev wsX10 : List Cond := u_ws RX1 TX1 5
theorem nmX1 : ∀ a, a < 5 → ∀ b, b < 5 → a ≠ b → (TX1 a).2.1 ≠ (TX1 b).2.1 := by decide +kernel
theorem tyX1_ok : ∀ k, k < 5 → parseFieldDescriptor (TX1 k).2.2.1 = some (tyX1 k) := by decide +kernel
abbrev cX1_init : ByteArray := prog_3_method_1_code
def yX1_init : MethodName := ⟨RX1, "<init>", "()V"⟩
abbrev cX1_fix : ByteArray := prog_3_method_2_code
def yX1_fix : MethodName := ⟨RX1, "fix", "(IJ)V"⟩
abbrev cX1_reduce : ByteArray := prog_3_method_3_code
def yX1_reduce : MethodName := ⟨RX1, "reduce", "(I)V"⟩
abbrev cX1_settle : ByteArray := prog_3_method_4_code
def yX1_settle : MethodName := ⟨RX1, "settle", "()V"⟩
def RX2 : String := "Chanceledger$Game"
def TX2 : u_T := fun k => match k with
  | 0 => ("Chanceledger$Game", "count", "I", false)
  | 1 => ("Chanceledger$Game", "targets", "I", false)
  | 2 => ("Chanceledger$Game", "discountAbove", "I", false)
  | 3 => ("Chanceledger$Game", "discountBelow", "I", false)
  | 4 => ("Chanceledger$Game", "firstWeight", "I", false)
  | 5 => ("Chanceledger$Game", "secondWeight", "I", false)
  | 6 => ("Chanceledger$Game", "changes", "I", false)
  | 7 => ("Chanceledger$Game", "isOfA", "[Z", true)
  | 8 => ("Chanceledger$Game", "colour", "[I", true)
  | 9 => ("Chanceledger$Game", "choiceCount", "[I", true)
  | 10 => ("Chanceledger$Game", "firstCost", "[I", true)
  | 11 => ("Chanceledger$Game", "secondCost", "[I", true)
  | 12 => ("Chanceledger$Game", "weightSum", "[I", true)
  | 13 => ("Chanceledger$Game", "leads", "[I", true)
  | _ => ("Chanceledger$Game", "weight", "[[I", true)
def tyX2 : Nat → FieldType := fun k => match k with
  | 0 => .int
  | 1 => .int
  | 2 => .int
  | 3 => .int
  | 4 => .int
  | 5 => .int
  | 6 => .int
  | 7 => .array .boolean
  | 8 => .array .int
  | 9 => .array .int
  | 10 => .array .int
  | 11 => .array .int
  | 12 => .array .int
  | 13 => .array .int
  | _ => .array (.array .int)
abbrev wsX20 : List Cond := u_ws RX2 TX2 15
theorem nmX2 : ∀ a, a < 15 → ∀ b, b < 15 → a ≠ b → (TX2 a).2.1 ≠ (TX2 b).2.1 := by decide +kernel
theorem tyX2_ok : ∀ k, k < 15 → parseFieldDescriptor (TX2 k).2.2.1 = some (tyX2 k) := by decide +kernel
abbrev cX2_init : ByteArray := prog_4_method_1_code
def yX2_init : MethodName := ⟨RX2, "<init>", "()V"⟩
abbrev cX2_moveOf : ByteArray := prog_4_method_2_code
def yX2_moveOf : MethodName := ⟨RX2, "moveOf", "(II)I"⟩
abbrev cX2_holds : ByteArray := prog_4_method_3_code
def yX2_holds : MethodName := ⟨RX2, "holds", "(II)Z"⟩
abbrev cX2_hasState : ByteArray := prog_4_method_4_code
def yX2_hasState : MethodName := ⟨RX2, "hasState", "(I)Z"⟩
abbrev cX2_hasChoice : ByteArray := prog_4_method_5_code
def yX2_hasChoice : MethodName := ⟨RX2, "hasChoice", "(II)Z"⟩
abbrev cX2_isTarget : ByteArray := prog_4_method_6_code
def yX2_isTarget : MethodName := ⟨RX2, "isTarget", "(I)Z"⟩
abbrev cX2_everyState : ByteArray := prog_4_method_7_code
def yX2_everyState : MethodName := ⟨RX2, "everyState", "()I"⟩
abbrev cX2_isReady : ByteArray := prog_4_method_8_code
def yX2_isReady : MethodName := ⟨RX2, "isReady", "()Z"⟩
abbrev cX2_costOf : ByteArray := prog_4_method_9_code
def yX2_costOf : MethodName := ⟨RX2, "costOf", "(IC)I"⟩
abbrev cX2_placeState : ByteArray := prog_4_method_10_code
def yX2_placeState : MethodName := ⟨RX2, "placeState", "(ZI)I"⟩
abbrev cX2_placeChoice : ByteArray := prog_4_method_11_code
def yX2_placeChoice : MethodName := ⟨RX2, "placeChoice", "(III)I"⟩
abbrev cX2_placeWeight : ByteArray := prog_4_method_12_code
def yX2_placeWeight : MethodName := ⟨RX2, "placeWeight", "(III)I"⟩
abbrev cX2_mark : ByteArray := prog_4_method_13_code
def yX2_mark : MethodName := ⟨RX2, "mark", "(IZ)Z"⟩
abbrev cX2_changeDiscount : ByteArray := prog_4_method_14_code
def yX2_changeDiscount : MethodName := ⟨RX2, "changeDiscount", "(II)I"⟩
abbrev cX2_changeWeights : ByteArray := prog_4_method_15_code
def yX2_changeWeights : MethodName := ⟨RX2, "changeWeights", "(II)I"⟩
def RX3 : String := "Chanceledger$Graph"
def TX3 : u_T := fun k => match k with
  | 0 => ("Chanceledger$Graph", "game", "LChanceledger$Game;", true)
  | 1 => ("Chanceledger$Graph", "reach", "[I", true)
  | 2 => ("Chanceledger$Graph", "bounds", "[D", true)
  | _ => ("Chanceledger$Graph", "nextBounds", "[D", true)
def tyX3 : Nat → FieldType := fun k => match k with
  | 0 => .object "Chanceledger$Game"
  | 1 => .array .int
  | 2 => .array .double
  | _ => .array .double
abbrev wsX30 : List Cond := u_ws RX3 TX3 4
theorem nmX3 : ∀ a, a < 4 → ∀ b, b < 4 → a ≠ b → (TX3 a).2.1 ≠ (TX3 b).2.1 := by decide +kernel
theorem tyX3_ok : ∀ k, k < 4 → parseFieldDescriptor (TX3 k).2.2.1 = some (tyX3 k) := by decide +kernel
abbrev cX3_init : ByteArray := prog_5_method_1_code
def yX3_init : MethodName := ⟨RX3, "<init>", "(LChanceledger$Game;)V"⟩
abbrev cX3_positive : ByteArray := prog_5_method_2_code
def yX3_positive : MethodName := ⟨RX3, "positive", "()I"⟩
abbrev cX3_sure : ByteArray := prog_5_method_3_code
def yX3_sure : MethodName := ⟨RX3, "sure", "()I"⟩
abbrev cX3_drawnWithin : ByteArray := prog_5_method_4_code
def yX3_drawnWithin : MethodName := ⟨RX3, "drawnWithin", "(I)I"⟩
abbrev cX3_isDrawn : ByteArray := prog_5_method_5_code
def yX3_isDrawn : MethodName := ⟨RX3, "isDrawn", "(III)Z"⟩
abbrev cX3_stayAway : ByteArray := prog_5_method_6_code
def yX3_stayAway : MethodName := ⟨RX3, "stayAway", "([I)V"⟩
abbrev cX3_choiceWithout : ByteArray := prog_5_method_7_code
def yX3_choiceWithout : MethodName := ⟨RX3, "choiceWithout", "(II)I"⟩
abbrev cX3_follow : ByteArray := prog_5_method_8_code
def yX3_follow : MethodName := ⟨RX3, "follow", "([I)V"⟩
abbrev cX3_join : ByteArray := prog_5_method_9_code
def yX3_join : MethodName := ⟨RX3, "join", "()V"⟩
abbrev cX3_mutual : ByteArray := prog_5_method_10_code
def yX3_mutual : MethodName := ⟨RX3, "mutual", "(I)I"⟩
abbrev cX3_closedSet : ByteArray := prog_5_method_11_code
def yX3_closedSet : MethodName := ⟨RX3, "closedSet", "(I)I"⟩
abbrev cX3_endSet : ByteArray := prog_5_method_12_code
def yX3_endSet : MethodName := ⟨RX3, "endSet", "(I)I"⟩
abbrev cX3_leadsWithin : ByteArray := prog_5_method_13_code
def yX3_leadsWithin : MethodName := ⟨RX3, "leadsWithin", "(II)I"⟩
abbrev cX3_boundAfter : ByteArray := prog_5_method_14_code
def yX3_boundAfter : MethodName := ⟨RX3, "boundAfter", "(II)D"⟩
abbrev cX3_nextBound : ByteArray := prog_5_method_15_code
def yX3_nextBound : MethodName := ⟨RX3, "nextBound", "(I)D"⟩
abbrev cX3_boundOfMove : ByteArray := prog_5_method_16_code
def yX3_boundOfMove : MethodName := ⟨RX3, "boundOfMove", "(I)D"⟩
def RX4 : String := "Chanceledger$Improver"
def TX4 : u_T := fun k => match k with
  | 0 => ("Chanceledger$Improver", "game", "LChanceledger$Game;", true)
  | 1 => ("Chanceledger$Improver", "graph", "LChanceledger$Graph;", true)
  | 2 => ("Chanceledger$Improver", "chain", "LChanceledger$Chain;", true)
  | _ => ("Chanceledger$Improver", "pick", "[I", true)
def tyX4 : Nat → FieldType := fun k => match k with
  | 0 => .object "Chanceledger$Game"
  | 1 => .object "Chanceledger$Graph"
  | 2 => .object "Chanceledger$Chain"
  | _ => .array .int
abbrev wsX40 : List Cond := u_ws RX4 TX4 4
theorem nmX4 : ∀ a, a < 4 → ∀ b, b < 4 → a ≠ b → (TX4 a).2.1 ≠ (TX4 b).2.1 := by decide +kernel
theorem tyX4_ok : ∀ k, k < 4 → parseFieldDescriptor (TX4 k).2.2.1 = some (tyX4 k) := by decide +kernel
abbrev cX4_init : ByteArray := prog_6_method_1_code
def yX4_init : MethodName := ⟨RX4, "<init>", "(LChanceledger$Game;LChanceledger$Graph;LChanceledger$Chain;)V"⟩
abbrev cX4_improve : ByteArray := prog_6_method_2_code
def yX4_improve : MethodName := ⟨RX4, "improve", "(C[IZZ)V"⟩
abbrev cX4_respond : ByteArray := prog_6_method_3_code
def yX4_respond : MethodName := ⟨RX4, "respond", "(CZ)V"⟩
abbrev cX4_change : ByteArray := prog_6_method_4_code
def yX4_change : MethodName := ⟨RX4, "change", "(CZ)Z"⟩
def RX5 : String := "Chanceledger$Likeness"
def TX5 : u_T := fun k => match k with
  | 0 => ("Chanceledger$Likeness", "game", "LChanceledger$Game;", true)
  | 1 => ("Chanceledger$Likeness", "lowest", "[I", true)
  | _ => ("Chanceledger$Likeness", "finer", "[I", true)
def tyX5 : Nat → FieldType := fun k => match k with
  | 0 => .object "Chanceledger$Game"
  | 1 => .array .int
  | _ => .array .int
abbrev wsX50 : List Cond := u_ws RX5 TX5 3
theorem nmX5 : ∀ a, a < 3 → ∀ b, b < 3 → a ≠ b → (TX5 a).2.1 ≠ (TX5 b).2.1 := by decide +kernel
theorem tyX5_ok : ∀ k, k < 3 → parseFieldDescriptor (TX5 k).2.2.1 = some (tyX5 k) := by decide +kernel
abbrev cX5_init : ByteArray := prog_7_method_1_code
def yX5_init : MethodName := ⟨RX5, "<init>", "(LChanceledger$Game;)V"⟩
abbrev cX5_sort : ByteArray := prog_7_method_2_code
def yX5_sort : MethodName := ⟨RX5, "sort", "()V"⟩
abbrev cX5_lowestLook : ByteArray := prog_7_method_3_code
def yX5_lowestLook : MethodName := ⟨RX5, "lowestLook", "(I)I"⟩
abbrev cX5_lowestLike : ByteArray := prog_7_method_4_code
def yX5_lowestLike : MethodName := ⟨RX5, "lowestLike", "(I)I"⟩
abbrev cX5_isAnswered : ByteArray := prog_7_method_5_code
def yX5_isAnswered : MethodName := ⟨RX5, "isAnswered", "(II)Z"⟩
abbrev cX5_hasLike : ByteArray := prog_7_method_6_code
def yX5_hasLike : MethodName := ⟨RX5, "hasLike", "(II)Z"⟩
abbrev cX5_isLike : ByteArray := prog_7_method_7_code
def yX5_isLike : MethodName := ⟨RX5, "isLike", "(II)Z"⟩
abbrev cX5_weightInto : ByteArray := prog_7_method_8_code
def yX5_weightInto : MethodName := ⟨RX5, "weightInto", "(II)I"⟩
abbrev cX5_howMany : ByteArray := prog_7_method_9_code
def yX5_howMany : MethodName := ⟨RX5, "howMany", "()I"⟩
def RX6 : String := "Chanceledger$LongRun"
def TX6 : u_T := fun k => match k with
  | 0 => ("Chanceledger$LongRun", "game", "LChanceledger$Game;", true)
  | 1 => ("Chanceledger$LongRun", "graph", "LChanceledger$Graph;", true)
  | 2 => ("Chanceledger$LongRun", "chain", "LChanceledger$Chain;", true)
  | 3 => ("Chanceledger$LongRun", "closed", "[I", true)
  | 4 => ("Chanceledger$LongRun", "costs", "[J", true)
  | _ => ("Chanceledger$LongRun", "means", "LChanceledger$Values;", true)
def tyX6 : Nat → FieldType := fun k => match k with
  | 0 => .object "Chanceledger$Game"
  | 1 => .object "Chanceledger$Graph"
  | 2 => .object "Chanceledger$Chain"
  | 3 => .array .int
  | 4 => .array .long
  | _ => .object "Chanceledger$Values"
abbrev wsX60 : List Cond := u_ws RX6 TX6 6
theorem nmX6 : ∀ a, a < 6 → ∀ b, b < 6 → a ≠ b → (TX6 a).2.1 ≠ (TX6 b).2.1 := by decide +kernel
theorem tyX6_ok : ∀ k, k < 6 → parseFieldDescriptor (TX6 k).2.2.1 = some (tyX6 k) := by decide +kernel
abbrev cX6_init : ByteArray := prog_8_method_1_code
def yX6_init : MethodName := ⟨RX6, "<init>", "(LChanceledger$Game;LChanceledger$Graph;LChanceledger$Chain;)V"⟩
abbrev cX6_findClosed : ByteArray := prog_8_method_2_code
def yX6_findClosed : MethodName := ⟨RX6, "findClosed", "([I)V"⟩
abbrev cX6_findParity : ByteArray := prog_8_method_3_code
def yX6_findParity : MethodName := ⟨RX6, "findParity", "([I)V"⟩
abbrev cX6_leastColour : ByteArray := prog_8_method_4_code
def yX6_leastColour : MethodName := ⟨RX6, "leastColour", "(I)I"⟩
abbrev cX6_findMeans : ByteArray := prog_8_method_5_code
def yX6_findMeans : MethodName := ⟨RX6, "findMeans", "([I)V"⟩
abbrev cX6_isReturn : ByteArray := prog_8_method_6_code
def yX6_isReturn : MethodName := ⟨RX6, "isReturn", "(I)Z"⟩
abbrev cX6_solveReturns : ByteArray := prog_8_method_7_code
def yX6_solveReturns : MethodName := ⟨RX6, "solveReturns", "([IZ)V"⟩
abbrev cX6_findMean : ByteArray := prog_8_method_8_code
def yX6_findMean : MethodName := ⟨RX6, "findMean", "(II)V"⟩
abbrev cX6_spreadMeans : ByteArray := prog_8_method_9_code
def yX6_spreadMeans : MethodName := ⟨RX6, "spreadMeans", "([I)V"⟩
def RX7 : String := "Chanceledger$Sweep"
def TX7 : u_T := fun k => match k with
  | 0 => ("Chanceledger$Sweep", "game", "LChanceledger$Game;", true)
  | 1 => ("Chanceledger$Sweep", "chain", "LChanceledger$Chain;", true)
  | 2 => ("Chanceledger$Sweep", "pick", "[I", true)
  | 3 => ("Chanceledger$Sweep", "least", "LChanceledger$Values;", true)
  | 4 => ("Chanceledger$Sweep", "kept", "[LChanceledger$Values;", true)
  | _ => ("Chanceledger$Sweep", "keptAt", "[I", true)
def tyX7 : Nat → FieldType := fun k => match k with
  | 0 => .object "Chanceledger$Game"
  | 1 => .object "Chanceledger$Chain"
  | 2 => .array .int
  | 3 => .object "Chanceledger$Values"
  | 4 => .array (.object "Chanceledger$Values")
  | _ => .array .int
abbrev wsX70 : List Cond := u_ws RX7 TX7 6
theorem nmX7 : ∀ a, a < 6 → ∀ b, b < 6 → a ≠ b → (TX7 a).2.1 ≠ (TX7 b).2.1 := by decide +kernel
theorem tyX7_ok : ∀ k, k < 6 → parseFieldDescriptor (TX7 k).2.2.1 = some (tyX7 k) := by decide +kernel
abbrev cX7_init : ByteArray := prog_9_method_1_code
def yX7_init : MethodName := ⟨RX7, "<init>", "(LChanceledger$Game;LChanceledger$Chain;)V"⟩
abbrev cX7_valuesFor : ByteArray := prog_9_method_2_code
def yX7_valuesFor : MethodName := ⟨RX7, "valuesFor", "(C)LChanceledger$Values;"⟩
abbrev cX7_sweepAll : ByteArray := prog_9_method_3_code
def yX7_sweepAll : MethodName := ⟨RX7, "sweepAll", "(CLChanceledger$Values;)V"⟩
abbrev cX7_takeLeast : ByteArray := prog_9_method_4_code
def yX7_takeLeast : MethodName := ⟨RX7, "takeLeast", "(Z)V"⟩
abbrev cX7_takeGreatest : ByteArray := prog_9_method_5_code
def yX7_takeGreatest : MethodName := ⟨RX7, "takeGreatest", "(LChanceledger$Values;Z)V"⟩
abbrev cX7_advance : ByteArray := prog_9_method_6_code
def yX7_advance : MethodName := ⟨RX7, "advance", "()I"⟩
def RX8 : String := "Chanceledger$Teller"
def TX8 : u_T := fun k => match k with
  | 0 => ("Chanceledger$Teller", "game", "LChanceledger$Game;", true)
  | 1 => ("Chanceledger$Teller", "chain", "LChanceledger$Chain;", true)
  | 2 => ("Chanceledger$Teller", "improver", "LChanceledger$Improver;", true)
  | _ => ("Chanceledger$Teller", "rank", "[I", true)
def tyX8 : Nat → FieldType := fun k => match k with
  | 0 => .object "Chanceledger$Game"
  | 1 => .object "Chanceledger$Chain"
  | 2 => .object "Chanceledger$Improver"
  | _ => .array .int
abbrev wsX80 : List Cond := u_ws RX8 TX8 4
theorem nmX8 : ∀ a, a < 4 → ∀ b, b < 4 → a ≠ b → (TX8 a).2.1 ≠ (TX8 b).2.1 := by decide +kernel
theorem tyX8_ok : ∀ k, k < 4 → parseFieldDescriptor (TX8 k).2.2.1 = some (tyX8 k) := by decide +kernel
abbrev cX8_init : ByteArray := prog_10_method_1_code
def yX8_init : MethodName := ⟨RX8, "<init>", "(LChanceledger$Game;LChanceledger$Chain;LChanceledger$Improver;)V"⟩
abbrev cX8_tellBest : ByteArray := prog_10_method_2_code
def yX8_tellBest : MethodName := ⟨RX8, "tellBest", "(C[I)I"⟩
abbrev cX8_lowestGood : ByteArray := prog_10_method_3_code
def yX8_lowestGood : MethodName := ⟨RX8, "lowestGood", "(CII)I"⟩
abbrev cX8_lowerThan : ByteArray := prog_10_method_4_code
def yX8_lowerThan : MethodName := ⟨RX8, "lowerThan", "(I)I"⟩
abbrev cX8_rankStates : ByteArray := prog_10_method_5_code
def yX8_rankStates : MethodName := ⟨RX8, "rankStates", "()V"⟩
abbrev cX8_isDrawn : ByteArray := prog_10_method_6_code
def yX8_isDrawn : MethodName := ⟨RX8, "isDrawn", "(II)Z"⟩
def RX9 : String := "Chanceledger$Traces"
def TX9 : u_T := fun k => match k with
  | 0 => ("Chanceledger$Traces", "game", "LChanceledger$Game;", true)
  | 1 => ("Chanceledger$Traces", "weights", "LChanceledger$Values;", true)
  | _ => ("Chanceledger$Traces", "length", "[I", true)
def tyX9 : Nat → FieldType := fun k => match k with
  | 0 => .object "Chanceledger$Game"
  | 1 => .object "Chanceledger$Values"
  | _ => .array .int
abbrev wsX90 : List Cond := u_ws RX9 TX9 3
theorem nmX9 : ∀ a, a < 3 → ∀ b, b < 3 → a ≠ b → (TX9 a).2.1 ≠ (TX9 b).2.1 := by decide +kernel
theorem tyX9_ok : ∀ k, k < 3 → parseFieldDescriptor (TX9 k).2.2.1 = some (tyX9 k) := by decide +kernel
abbrev cX9_init : ByteArray := prog_11_method_1_code
def yX9_init : MethodName := ⟨RX9, "<init>", "(LChanceledger$Game;)V"⟩
abbrev cX9_follow : ByteArray := prog_11_method_2_code
def yX9_follow : MethodName := ⟨RX9, "follow", "([I)V"⟩
abbrev cX9_lengthen : ByteArray := prog_11_method_3_code
def yX9_lengthen : MethodName := ⟨RX9, "lengthen", "(II)V"⟩
abbrev cX9_stateAt : ByteArray := prog_11_method_4_code
def yX9_stateAt : MethodName := ⟨RX9, "stateAt", "(II[I)I"⟩
abbrev cX9_nextOf : ByteArray := prog_11_method_5_code
def yX9_nextOf : MethodName := ⟨RX9, "nextOf", "(II)I"⟩
def RX10 : String := "Chanceledger$Values"
def TX10 : u_T := fun k => match k with
  | 0 => ("Chanceledger$Values", "up", "[J", true)
  | _ => ("Chanceledger$Values", "down", "[J", true)
def tyX10 : Nat → FieldType := fun k => match k with
  | 0 => .array .long
  | _ => .array .long
abbrev wsX100 : List Cond := u_ws RX10 TX10 2
theorem nmX10 : ∀ a, a < 2 → ∀ b, b < 2 → a ≠ b → (TX10 a).2.1 ≠ (TX10 b).2.1 := by decide +kernel
theorem tyX10_ok : ∀ k, k < 2 → parseFieldDescriptor (TX10 k).2.2.1 = some (tyX10 k) := by decide +kernel
abbrev cX10_init : ByteArray := prog_12_method_1_code
def yX10_init : MethodName := ⟨RX10, "<init>", "()V"⟩
abbrev cX10_put : ByteArray := prog_12_method_2_code
def yX10_put : MethodName := ⟨RX10, "put", "(IJJ)V"⟩
def RX11 : String := "Chanceledger"
def TX11 : u_T := fun k => match k with
  | 0 => ("Chanceledger", "game", "LChanceledger$Game;", true)
  | 1 => ("Chanceledger", "toldChoice", "[I", true)
  | 2 => ("Chanceledger", "graph", "LChanceledger$Graph;", true)
  | 3 => ("Chanceledger", "chain", "LChanceledger$Chain;", true)
  | 4 => ("Chanceledger", "longRun", "LChanceledger$LongRun;", true)
  | 5 => ("Chanceledger", "improver", "LChanceledger$Improver;", true)
  | 6 => ("Chanceledger", "sweep", "LChanceledger$Sweep;", true)
  | 7 => ("Chanceledger", "teller", "LChanceledger$Teller;", true)
  | 8 => ("Chanceledger", "likeness", "LChanceledger$Likeness;", true)
  | 9 => ("Chanceledger", "traces", "LChanceledger$Traces;", true)
  | _ => ("Chanceledger", "byStep", "LChanceledger$Values;", true)
def tyX11 : Nat → FieldType := fun k => match k with
  | 0 => .object "Chanceledger$Game"
  | 1 => .array .int
  | 2 => .object "Chanceledger$Graph"
  | 3 => .object "Chanceledger$Chain"
  | 4 => .object "Chanceledger$LongRun"
  | 5 => .object "Chanceledger$Improver"
  | 6 => .object "Chanceledger$Sweep"
  | 7 => .object "Chanceledger$Teller"
  | 8 => .object "Chanceledger$Likeness"
  | 9 => .object "Chanceledger$Traces"
  | _ => .object "Chanceledger$Values"
abbrev wsX110 : List Cond := u_ws RX11 TX11 11
theorem nmX11 : ∀ a, a < 11 → ∀ b, b < 11 → a ≠ b → (TX11 a).2.1 ≠ (TX11 b).2.1 := by decide +kernel
theorem tyX11_ok : ∀ k, k < 11 → parseFieldDescriptor (TX11 k).2.2.1 = some (tyX11 k) := by decide +kernel
abbrev cX11_init : ByteArray := prog_1_method_1_code
def yX11_init : MethodName := ⟨RX11, "<init>", "()V"⟩
abbrev cX11_addState : ByteArray := prog_1_method_2_code
def yX11_addState : MethodName := ⟨RX11, "addState", "(CI)I"⟩
abbrev cX11_addChoice : ByteArray := prog_1_method_3_code
def yX11_addChoice : MethodName := ⟨RX11, "addChoice", "(III)I"⟩
abbrev cX11_addWeight : ByteArray := prog_1_method_4_code
def yX11_addWeight : MethodName := ⟨RX11, "addWeight", "(IIII)I"⟩
abbrev cX11_setTarget : ByteArray := prog_1_method_5_code
def yX11_setTarget : MethodName := ⟨RX11, "setTarget", "(IZ)Z"⟩
abbrev cX11_setDiscount : ByteArray := prog_1_method_6_code
def yX11_setDiscount : MethodName := ⟨RX11, "setDiscount", "(II)I"⟩
abbrev cX11_setWeights : ByteArray := prog_1_method_7_code
def yX11_setWeights : MethodName := ⟨RX11, "setWeights", "(II)I"⟩
abbrev cX11_states : ByteArray := prog_1_method_8_code
def yX11_states : MethodName := ⟨RX11, "states", "()I"⟩
abbrev cX11_choices : ByteArray := prog_1_method_9_code
def yX11_choices : MethodName := ⟨RX11, "choices", "(I)I"⟩
abbrev cX11_chance : ByteArray := prog_1_method_10_code
def yX11_chance : MethodName := ⟨RX11, "chance", "(III)I"⟩
abbrev cX11_isWhole : ByteArray := prog_1_method_11_code
def yX11_isWhole : MethodName := ⟨RX11, "isWhole", "()Z"⟩
abbrev cX11_above : ByteArray := prog_1_method_12_code
def yX11_above : MethodName := ⟨RX11, "above", "(CI)J"⟩
abbrev cX11_below : ByteArray := prog_1_method_13_code
def yX11_below : MethodName := ⟨RX11, "below", "(CI)J"⟩
abbrev cX11_aboveByAll : ByteArray := prog_1_method_14_code
def yX11_aboveByAll : MethodName := ⟨RX11, "aboveByAll", "(CI)J"⟩
abbrev cX11_belowByAll : ByteArray := prog_1_method_15_code
def yX11_belowByAll : MethodName := ⟨RX11, "belowByAll", "(CI)J"⟩
abbrev cX11_valueFloat : ByteArray := prog_1_method_16_code
def yX11_valueFloat : MethodName := ⟨RX11, "valueFloat", "(CI)F"⟩
abbrev cX11_bound : ByteArray := prog_1_method_19_code
def yX11_bound : MethodName := ⟨RX11, "bound", "(II)D"⟩
abbrev cX11_isZero : ByteArray := prog_1_method_20_code
def yX11_isZero : MethodName := ⟨RX11, "isZero", "(I)Z"⟩
abbrev cX11_isOne : ByteArray := prog_1_method_21_code
def yX11_isOne : MethodName := ⟨RX11, "isOne", "(I)Z"⟩
abbrev cX11_solve : ByteArray := prog_1_method_22_code
def yX11_solve : MethodName := ⟨RX11, "solve", "(C)I"⟩
abbrev cX11_tell : ByteArray := prog_1_method_23_code
def yX11_tell : MethodName := ⟨RX11, "tell", "(II)I"⟩
abbrev cX11_told : ByteArray := prog_1_method_24_code
def yX11_told : MethodName := ⟨RX11, "told", "(I)I"⟩
abbrev cX11_chainAbove : ByteArray := prog_1_method_25_code
def yX11_chainAbove : MethodName := ⟨RX11, "chainAbove", "(CI)J"⟩
abbrev cX11_chainBelow : ByteArray := prog_1_method_26_code
def yX11_chainBelow : MethodName := ⟨RX11, "chainBelow", "(CI)J"⟩
abbrev cX11_responseAbove : ByteArray := prog_1_method_27_code
def yX11_responseAbove : MethodName := ⟨RX11, "responseAbove", "(CCI)J"⟩
abbrev cX11_responseBelow : ByteArray := prog_1_method_28_code
def yX11_responseBelow : MethodName := ⟨RX11, "responseBelow", "(CCI)J"⟩
abbrev cX11_closedOf : ByteArray := prog_1_method_29_code
def yX11_closedOf : MethodName := ⟨RX11, "closedOf", "(I)I"⟩
abbrev cX11_endOf : ByteArray := prog_1_method_30_code
def yX11_endOf : MethodName := ⟨RX11, "endOf", "(I)I"⟩
abbrev cX11_classOf : ByteArray := prog_1_method_31_code
def yX11_classOf : MethodName := ⟨RX11, "classOf", "(I)I"⟩
abbrev cX11_classes : ByteArray := prog_1_method_32_code
def yX11_classes : MethodName := ⟨RX11, "classes", "()I"⟩
abbrev cX11_traceLength : ByteArray := prog_1_method_33_code
def yX11_traceLength : MethodName := ⟨RX11, "traceLength", "(I)I"⟩
abbrev cX11_traceAt : ByteArray := prog_1_method_34_code
def yX11_traceAt : MethodName := ⟨RX11, "traceAt", "(II)I"⟩
abbrev cX11_traceAbove : ByteArray := prog_1_method_35_code
def yX11_traceAbove : MethodName := ⟨RX11, "traceAbove", "(I)J"⟩
abbrev cX11_traceBelow : ByteArray := prog_1_method_36_code
def yX11_traceBelow : MethodName := ⟨RX11, "traceBelow", "(I)J"⟩
abbrev cX11_isConsistent : ByteArray := prog_1_method_38_code
def yX11_isConsistent : MethodName := ⟨RX11, "isConsistent", "()Z"⟩
abbrev cX11_agrees : ByteArray := prog_1_method_39_code
def yX11_agrees : MethodName := ⟨RX11, "agrees", "(C)Z"⟩
abbrev cX11_graphAgrees : ByteArray := prog_1_method_40_code
def yX11_graphAgrees : MethodName := ⟨RX11, "graphAgrees", "()Z"⟩
abbrev cX11_findValues : ByteArray := prog_1_method_41_code
def yX11_findValues : MethodName := ⟨RX11, "findValues", "(CI)V"⟩
abbrev cX11_findResponse : ByteArray := prog_1_method_42_code
def yX11_findResponse : MethodName := ⟨RX11, "findResponse", "(CCI)V"⟩
abbrev cX11_followChain : ByteArray := prog_1_method_43_code
def yX11_followChain : MethodName := ⟨RX11, "followChain", "(CI)V"⟩
abbrev cX11_findTrace : ByteArray := prog_1_method_44_code
def yX11_findTrace : MethodName := ⟨RX11, "findTrace", "(I)V"⟩
abbrev cX11_needSolvable : ByteArray := prog_1_method_45_code
def yX11_needSolvable : MethodName := ⟨RX11, "needSolvable", "(CI)V"⟩
abbrev cX11_needWholeFor : ByteArray := prog_1_method_46_code
def yX11_needWholeFor : MethodName := ⟨RX11, "needWholeFor", "(I)V"⟩
abbrev cX11_needWhole : ByteArray := prog_1_method_47_code
def yX11_needWhole : MethodName := ⟨RX11, "needWhole", "()V"⟩
abbrev cX11_needState : ByteArray := prog_1_method_48_code
def yX11_needState : MethodName := ⟨RX11, "needState", "(I)V"⟩
abbrev cX11_needChoice : ByteArray := prog_1_method_49_code
def yX11_needChoice : MethodName := ⟨RX11, "needChoice", "(II)V"⟩
abbrev cX11_needPlayer : ByteArray := prog_1_method_50_code
def yX11_needPlayer : MethodName := ⟨RX11, "needPlayer", "(C)V"⟩
abbrev cX11_needAim : ByteArray := prog_1_method_51_code
def yX11_needAim : MethodName := ⟨RX11, "needAim", "(C)V"⟩
abbrev cX11_lowestOf : ByteArray := prog_1_method_52_code
def yX11_lowestOf : MethodName := ⟨RX11, "lowestOf", "(I)I"⟩
abbrev cX11_commonDivisor : ByteArray := prog_1_method_53_code
def yX11_commonDivisor : MethodName := ⟨RX11, "commonDivisor", "(JJ)J"⟩
abbrev cX11_quotient : ByteArray := prog_1_method_54_code
def yX11_quotient : MethodName := ⟨RX11, "quotient", "(JJ)J"⟩
abbrev cX11_lowestAbove : ByteArray := prog_1_method_55_code
def yX11_lowestAbove : MethodName := ⟨RX11, "lowestAbove", "(JJ)J"⟩
abbrev cX11_lowestBelow : ByteArray := prog_1_method_56_code
def yX11_lowestBelow : MethodName := ⟨RX11, "lowestBelow", "(JJ)J"⟩
abbrev cX11_compareFractions : ByteArray := prog_1_method_57_code
def yX11_compareFractions : MethodName := ⟨RX11, "compareFractions", "(JJJJ)I"⟩
abbrev cX11_floatOf : ByteArray := prog_1_method_58_code
def yX11_floatOf : MethodName := ⟨RX11, "floatOf", "(JJ)F"⟩
def RX12 : String := "ChanceledgerModel"
def TX12 : u_T := fun k => match k with
  | _ => ("", "", "", false)
def tyX12 : Nat → FieldType := fun k => match k with
  | _ => .int
abbrev wsX120 : List Cond := u_ws RX12 TX12 0
theorem nmX12 : ∀ a, a < 0 → ∀ b, b < 0 → a ≠ b → (TX12 a).2.1 ≠ (TX12 b).2.1 := by decide +kernel
theorem tyX12_ok : ∀ k, k < 0 → parseFieldDescriptor (TX12 k).2.2.1 = some (tyX12 k) := by decide +kernel
def RJx145de : String := "java/io/Serializable"
def TJx145de : u_T := fun k => match k with
  | _ => ("", "", "", false)
def tyJx145de : Nat → FieldType := fun k => match k with
  | _ => .int
abbrev wsJx145de0 : List Cond := u_ws RJx145de TJx145de 0
theorem nmJx145de : ∀ a, a < 0 → ∀ b, b < 0 → a ≠ b → (TJx145de a).2.1 ≠ (TJx145de b).2.1 := by decide +kernel
theorem tyJx145de_ok : ∀ k, k < 0 → parseFieldDescriptor (TJx145de k).2.2.1 = some (tyJx145de k) := by decide +kernel
def RJx00060 : String := "java/lang/ArrayIndexOutOfBoundsException"
def TJx00060 : u_T := fun k => match k with
  | 0 => ("java/lang/Throwable", "backtrace", "Ljava/lang/Object;", false)
  | 1 => ("java/lang/Throwable", "detailMessage", "Ljava/lang/String;", false)
  | 2 => ("java/lang/Throwable", "cause", "Ljava/lang/Throwable;", false)
  | 3 => ("java/lang/Throwable", "stackTrace", "[Ljava/lang/StackTraceElement;", false)
  | 4 => ("java/lang/Throwable", "depth", "I", false)
  | _ => ("java/lang/Throwable", "suppressedExceptions", "Ljava/util/List;", false)
def tyJx00060 : Nat → FieldType := fun k => match k with
  | 0 => .object "java/lang/Object"
  | 1 => .object "java/lang/String"
  | 2 => .object "java/lang/Throwable"
  | 3 => .array (.object "java/lang/StackTraceElement")
  | 4 => .int
  | _ => .object "java/util/List"
abbrev wsJx000600 : List Cond := u_ws RJx00060 TJx00060 6
theorem nmJx00060 : ∀ a, a < 6 → ∀ b, b < 6 → a ≠ b → (TJx00060 a).2.1 ≠ (TJx00060 b).2.1 := by decide +kernel
theorem tyJx00060_ok : ∀ k, k < 6 → parseFieldDescriptor (TJx00060 k).2.2.1 = some (tyJx00060 k) := by decide +kernel
abbrev cJx00060_init_a7421 : ByteArray := prog_17_method_2_code
def yJx00060_init_a7421 : MethodName := ⟨RJx00060, "<init>", "(Ljava/lang/String;)V"⟩
def RJx9f9b0 : String := "java/lang/CharSequence"
def TJx9f9b0 : u_T := fun k => match k with
  | _ => ("", "", "", false)
def tyJx9f9b0 : Nat → FieldType := fun k => match k with
  | _ => .int
abbrev wsJx9f9b00 : List Cond := u_ws RJx9f9b0 TJx9f9b0 0
theorem nmJx9f9b0 : ∀ a, a < 0 → ∀ b, b < 0 → a ≠ b → (TJx9f9b0 a).2.1 ≠ (TJx9f9b0 b).2.1 := by decide +kernel
theorem tyJx9f9b0_ok : ∀ k, k < 0 → parseFieldDescriptor (TJx9f9b0 k).2.2.1 = some (tyJx9f9b0 k) := by decide +kernel
def RJxb160c : String := "java/lang/Comparable"
def TJxb160c : u_T := fun k => match k with
  | _ => ("", "", "", false)
def tyJxb160c : Nat → FieldType := fun k => match k with
  | _ => .int
abbrev wsJxb160c0 : List Cond := u_ws RJxb160c TJxb160c 0
theorem nmJxb160c : ∀ a, a < 0 → ∀ b, b < 0 → a ≠ b → (TJxb160c a).2.1 ≠ (TJxb160c b).2.1 := by decide +kernel
theorem tyJxb160c_ok : ∀ k, k < 0 → parseFieldDescriptor (TJxb160c k).2.2.1 = some (tyJxb160c k) := by decide +kernel
def RJ6 : String := "java/lang/Integer"
def TJ6 : u_T := fun k => match k with
  | _ => ("", "", "", false)
def tyJ6 : Nat → FieldType := fun k => match k with
  | _ => .int
abbrev wsJ60 : List Cond := u_ws RJ6 TJ6 0
theorem nmJ6 : ∀ a, a < 0 → ∀ b, b < 0 → a ≠ b → (TJ6 a).2.1 ≠ (TJ6 b).2.1 := by decide +kernel
theorem tyJ6_ok : ∀ k, k < 0 → parseFieldDescriptor (TJ6 k).2.2.1 = some (tyJ6 k) := by decide +kernel
abbrev cJ6_numberOfTrailingZeros_0f7a4 : ByteArray := prog_24_method_48_code
def yJ6_numberOfTrailingZeros_0f7a4 : MethodName := ⟨RJ6, "numberOfTrailingZeros", "(I)I"⟩
def RJ13 : String := "java/lang/Long"
def TJ13 : u_T := fun k => match k with
  | _ => ("", "", "", false)
def tyJ13 : Nat → FieldType := fun k => match k with
  | _ => .int
abbrev wsJ130 : List Cond := u_ws RJ13 TJ13 0
theorem nmJ13 : ∀ a, a < 0 → ∀ b, b < 0 → a ≠ b → (TJ13 a).2.1 ≠ (TJ13 b).2.1 := by decide +kernel
theorem tyJ13_ok : ∀ k, k < 0 → parseFieldDescriptor (TJ13 k).2.2.1 = some (tyJ13 k) := by decide +kernel
abbrev cJ13_compare_74951 : ByteArray := prog_25_method_42_code
def yJ13_compare_74951 : MethodName := ⟨RJ13, "compare", "(JJ)I"⟩
def RJ9 : String := "java/lang/Math"
def TJ9 : u_T := fun k => match k with
  | _ => ("", "", "", false)
def tyJ9 : Nat → FieldType := fun k => match k with
  | _ => .int
abbrev wsJ90 : List Cond := u_ws RJ9 TJ9 0
theorem nmJ9 : ∀ a, a < 0 → ∀ b, b < 0 → a ≠ b → (TJ9 a).2.1 ≠ (TJ9 b).2.1 := by decide +kernel
theorem tyJ9_ok : ∀ k, k < 0 → parseFieldDescriptor (TJ9 k).2.2.1 = some (tyJ9 k) := by decide +kernel
abbrev cJ9_min_7cf53 : ByteArray := prog_26_method_69_code
def yJ9_min_7cf53 : MethodName := ⟨RJ9, "min", "(II)I"⟩
def RJ0 : String := "java/lang/String"
def TJ0 : u_T := fun k => match k with
  | 0 => ("java/lang/String", "value", "[B", true)
  | _ => ("java/lang/String", "coder", "B", true)
def tyJ0 : Nat → FieldType := fun k => match k with
  | 0 => .array .byte
  | _ => .byte
abbrev wsJ00 : List Cond := u_ws RJ0 TJ0 2
theorem nmJ0 : ∀ a, a < 2 → ∀ b, b < 2 → a ≠ b → (TJ0 a).2.1 ≠ (TJ0 b).2.1 := by decide +kernel
theorem tyJ0_ok : ∀ k, k < 2 → parseFieldDescriptor (TJ0 k).2.2.1 = some (tyJ0 k) := by decide +kernel
abbrev cJ0_charAt_5068e : ByteArray := prog_28_method_56_code
def yJ0_charAt_5068e : MethodName := ⟨RJ0, "charAt", "(I)C"⟩
abbrev cJ0_isLatin1_aae02 : ByteArray := prog_28_method_154_code
def yJ0_isLatin1_aae02 : MethodName := ⟨RJ0, "isLatin1", "()Z"⟩
abbrev cJ0_checkIndex_df160 : ByteArray := prog_28_method_155_code
def yJ0_checkIndex_df160 : MethodName := ⟨RJ0, "checkIndex", "(II)V"⟩
def RJ1 : String := "java/lang/StringLatin1"
def TJ1 : u_T := fun k => match k with
  | _ => ("", "", "", false)
def tyJ1 : Nat → FieldType := fun k => match k with
  | _ => .int
abbrev wsJ10 : List Cond := u_ws RJ1 TJ1 0
theorem nmJ1 : ∀ a, a < 0 → ∀ b, b < 0 → a ≠ b → (TJ1 a).2.1 ≠ (TJ1 b).2.1 := by decide +kernel
theorem tyJ1_ok : ∀ k, k < 0 → parseFieldDescriptor (TJ1 k).2.2.1 = some (tyJ1 k) := by decide +kernel
abbrev cJ1_charAt_3b067 : ByteArray := prog_29_method_2_code
def yJ1_charAt_3b067 : MethodName := ⟨RJ1, "charAt", "([BI)C"⟩
def RJ2 : String := "java/lang/StringUTF16"
def TJ2 : u_T := fun k => match k with
  | _ => ("", "", "", false)
def tyJ2 : Nat → FieldType := fun k => match k with
  | _ => .int
abbrev wsJ20 : List Cond := u_ws RJ2 TJ2 0
theorem nmJ2 : ∀ a, a < 0 → ∀ b, b < 0 → a ≠ b → (TJ2 a).2.1 ≠ (TJ2 b).2.1 := by decide +kernel
theorem tyJ2_ok : ∀ k, k < 0 → parseFieldDescriptor (TJ2 k).2.2.1 = some (tyJ2 k) := by decide +kernel
abbrev cJ2_getChar_3b067 : ByteArray := prog_30_method_5_code
def yJ2_getChar_3b067 : MethodName := ⟨RJ2, "getChar", "([BI)C"⟩
abbrev cJ2_length_9d52b : ByteArray := prog_30_method_6_code
def yJ2_length_9d52b : MethodName := ⟨RJ2, "length", "([B)I"⟩
abbrev cJ2_charAt_3b067 : ByteArray := prog_30_method_83_code
def yJ2_charAt_3b067 : MethodName := ⟨RJ2, "charAt", "([BI)C"⟩
abbrev cJ2_checkIndex_2214a : ByteArray := prog_30_method_91_code
def yJ2_checkIndex_2214a : MethodName := ⟨RJ2, "checkIndex", "(I[B)V"⟩
def RJxfd54e : String := "java/lang/constant/Constable"
def TJxfd54e : u_T := fun k => match k with
  | _ => ("", "", "", false)
def tyJxfd54e : Nat → FieldType := fun k => match k with
  | _ => .int
abbrev wsJxfd54e0 : List Cond := u_ws RJxfd54e TJxfd54e 0
theorem nmJxfd54e : ∀ a, a < 0 → ∀ b, b < 0 → a ≠ b → (TJxfd54e a).2.1 ≠ (TJxfd54e b).2.1 := by decide +kernel
theorem tyJxfd54e_ok : ∀ k, k < 0 → parseFieldDescriptor (TJxfd54e k).2.2.1 = some (tyJxfd54e k) := by decide +kernel
def RJx3cf43 : String := "java/lang/constant/ConstantDesc"
def TJx3cf43 : u_T := fun k => match k with
  | _ => ("", "", "", false)
def tyJx3cf43 : Nat → FieldType := fun k => match k with
  | _ => .int
abbrev wsJx3cf430 : List Cond := u_ws RJx3cf43 TJx3cf43 0
theorem nmJx3cf43 : ∀ a, a < 0 → ∀ b, b < 0 → a ≠ b → (TJx3cf43 a).2.1 ≠ (TJx3cf43 b).2.1 := by decide +kernel
theorem tyJx3cf43_ok : ∀ k, k < 0 → parseFieldDescriptor (TJx3cf43 k).2.2.1 = some (tyJx3cf43 k) := by decide +kernel
def RJ3 : String := "jdk/internal/util/Preconditions"
def TJ3 : u_T := fun k => match k with
  | _ => ("", "", "", false)
def tyJ3 : Nat → FieldType := fun k => match k with
  | _ => .int
abbrev wsJ30 : List Cond := u_ws RJ3 TJ3 0
theorem nmJ3 : ∀ a, a < 0 → ∀ b, b < 0 → a ≠ b → (TJ3 a).2.1 ≠ (TJ3 b).2.1 := by decide +kernel
theorem tyJ3_ok : ∀ k, k < 0 → parseFieldDescriptor (TJ3 k).2.2.1 = some (tyJ3 k) := by decide +kernel
abbrev cJ3_checkIndex_8e157 : ByteArray := prog_35_method_11_code
def yJ3_checkIndex_8e157 : MethodName := ⟨RJ3, "checkIndex", "(IILjava/util/function/BiFunction;)I"⟩
def RL : String := "ChanceledgerLaw"
abbrev cL_cell : ByteArray := method_2_code
def yL_cell : MethodName := ⟨RL, "cell", "([II)I"⟩
abbrev cL_pick : ByteArray := method_3_code
def yL_pick : MethodName := ⟨RL, "pick", "([III)I"⟩
abbrev cL_addState : ByteArray := method_4_code
def yL_addState : MethodName := ⟨RL, "addState", "(LChanceledger;CI)I"⟩
abbrev cL_addChoice : ByteArray := method_5_code
def yL_addChoice : MethodName := ⟨RL, "addChoice", "(LChanceledger;III)I"⟩
abbrev cL_addWeight : ByteArray := method_6_code
def yL_addWeight : MethodName := ⟨RL, "addWeight", "(LChanceledger;IIII)I"⟩
abbrev cL_setTarget : ByteArray := method_7_code
def yL_setTarget : MethodName := ⟨RL, "setTarget", "(LChanceledger;IZ)I"⟩
abbrev cL_setDiscount : ByteArray := method_8_code
def yL_setDiscount : MethodName := ⟨RL, "setDiscount", "(LChanceledger;II)I"⟩
abbrev cL_setWeights : ByteArray := method_9_code
def yL_setWeights : MethodName := ⟨RL, "setWeights", "(LChanceledger;II)I"⟩
abbrev cL_choices : ByteArray := method_10_code
def yL_choices : MethodName := ⟨RL, "choices", "(LChanceledger;I)I"⟩
abbrev cL_chance : ByteArray := method_11_code
def yL_chance : MethodName := ⟨RL, "chance", "(LChanceledger;III)I"⟩
abbrev cL_above : ByteArray := method_12_code
def yL_above : MethodName := ⟨RL, "above", "(LChanceledger;CI)J"⟩
abbrev cL_below : ByteArray := method_13_code
def yL_below : MethodName := ⟨RL, "below", "(LChanceledger;CI)J"⟩
abbrev cL_aboveByAll : ByteArray := method_14_code
def yL_aboveByAll : MethodName := ⟨RL, "aboveByAll", "(LChanceledger;CI)J"⟩
abbrev cL_belowByAll : ByteArray := method_15_code
def yL_belowByAll : MethodName := ⟨RL, "belowByAll", "(LChanceledger;CI)J"⟩
abbrev cL_valueFloat : ByteArray := method_16_code
def yL_valueFloat : MethodName := ⟨RL, "valueFloat", "(LChanceledger;CI)F"⟩
abbrev cL_bound : ByteArray := method_17_code
def yL_bound : MethodName := ⟨RL, "bound", "(LChanceledger;II)D"⟩
abbrev cL_isZero : ByteArray := method_18_code
def yL_isZero : MethodName := ⟨RL, "isZero", "(LChanceledger;I)I"⟩
abbrev cL_isOne : ByteArray := method_19_code
def yL_isOne : MethodName := ⟨RL, "isOne", "(LChanceledger;I)I"⟩
abbrev cL_solve : ByteArray := method_20_code
def yL_solve : MethodName := ⟨RL, "solve", "(LChanceledger;C)I"⟩
abbrev cL_tell : ByteArray := method_21_code
def yL_tell : MethodName := ⟨RL, "tell", "(LChanceledger;II)I"⟩
abbrev cL_told : ByteArray := method_22_code
def yL_told : MethodName := ⟨RL, "told", "(LChanceledger;I)I"⟩
abbrev cL_chainAbove : ByteArray := method_23_code
def yL_chainAbove : MethodName := ⟨RL, "chainAbove", "(LChanceledger;CI)J"⟩
abbrev cL_chainBelow : ByteArray := method_24_code
def yL_chainBelow : MethodName := ⟨RL, "chainBelow", "(LChanceledger;CI)J"⟩
abbrev cL_responseAbove : ByteArray := method_25_code
def yL_responseAbove : MethodName := ⟨RL, "responseAbove", "(LChanceledger;CCI)J"⟩
abbrev cL_responseBelow : ByteArray := method_26_code
def yL_responseBelow : MethodName := ⟨RL, "responseBelow", "(LChanceledger;CCI)J"⟩
abbrev cL_closedOf : ByteArray := method_27_code
def yL_closedOf : MethodName := ⟨RL, "closedOf", "(LChanceledger;I)I"⟩
abbrev cL_endOf : ByteArray := method_28_code
def yL_endOf : MethodName := ⟨RL, "endOf", "(LChanceledger;I)I"⟩
abbrev cL_classOf : ByteArray := method_29_code
def yL_classOf : MethodName := ⟨RL, "classOf", "(LChanceledger;I)I"⟩
abbrev cL_classes : ByteArray := method_30_code
def yL_classes : MethodName := ⟨RL, "classes", "(LChanceledger;)I"⟩
abbrev cL_traceLength : ByteArray := method_31_code
def yL_traceLength : MethodName := ⟨RL, "traceLength", "(LChanceledger;I)I"⟩
abbrev cL_traceAt : ByteArray := method_32_code
def yL_traceAt : MethodName := ⟨RL, "traceAt", "(LChanceledger;II)I"⟩
abbrev cL_traceAbove : ByteArray := method_33_code
def yL_traceAbove : MethodName := ⟨RL, "traceAbove", "(LChanceledger;I)J"⟩
abbrev cL_traceBelow : ByteArray := method_34_code
def yL_traceBelow : MethodName := ⟨RL, "traceBelow", "(LChanceledger;I)J"⟩
abbrev cL_law : ByteArray := code
def yL_law : MethodName := ⟨RL, "law", "([I)Z"⟩
abbrev cL_isBest : ByteArray := method_36_code
def yL_isBest : MethodName := ⟨RL, "isBest", "(LChanceledger;CI)Z"⟩
abbrev cL_areBounds : ByteArray := method_37_code
def yL_areBounds : MethodName := ⟨RL, "areBounds", "(LChanceledger;I[Z)Z"⟩
abbrev cL_areClasses : ByteArray := method_38_code
def yL_areClasses : MethodName := ⟨RL, "areClasses", "(LChanceledger;I)Z"⟩
abbrev cL_areClosed : ByteArray := method_39_code
def yL_areClosed : MethodName := ⟨RL, "areClosed", "(LChanceledger;I)Z"⟩
abbrev cL_areTraces : ByteArray := method_40_code
def yL_areTraces : MethodName := ⟨RL, "areTraces", "(LChanceledger;I[Z)Z"⟩
abbrev cL_sum : ByteArray := method_41_code
def yL_sum : MethodName := ⟨RL, "sum", "(LChanceledger;I)J"⟩
abbrev cL_isRefused : ByteArray := method_42_code
def yL_isRefused : MethodName := ⟨RL, "isRefused", "(LChanceledger;I)Z"⟩
abbrev vwCl : List vw_C := [(RJ0, TJ0, 2), (RJx00060, TJx00060, 6), (RX0, TX0, 3), (RX1, TX1, 5), (RX2, TX2, 15), (RX3, TX3, 4), (RX4, TX4, 4), (RX5, TX5, 3), (RX6, TX6, 6), (RX7, TX7, 6), (RX8, TX8, 4), (RX9, TX9, 3), (RX10, TX10, 2), (RX11, TX11, 11)]
