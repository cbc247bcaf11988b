
/-! ===== BEGIN printed: names, fields, word lists, decode rows ===== -/
def RX0 : String := "FairLoops$Graph"
def TX0 : u_T := fun k => match k with
  | 0 => ("FairLoops$Graph", "states", "I", false)
  | 1 => ("FairLoops$Graph", "moves", "I", false)
  | 2 => ("FairLoops$Graph", "ends", "I", false)
  | 3 => ("FairLoops$Graph", "asks", "[I", true)
  | 4 => ("FairLoops$Graph", "isEnd", "[Z", true)
  | 5 => ("FairLoops$Graph", "able", "[I", true)
  | 6 => ("FairLoops$Graph", "from", "[I", true)
  | 7 => ("FairLoops$Graph", "to", "[I", true)
  | 8 => ("FairLoops$Graph", "labelOf", "[I", true)
  | 9 => ("FairLoops$Graph", "out", "[I", true)
  | _ => ("FairLoops$Graph", "start", "[I", true)
def tyX0 : Nat → FieldType := fun k => match k with
  | 0 => .int
  | 1 => .int
  | 2 => .int
  | 3 => .array .int
  | 4 => .array .boolean
  | 5 => .array .int
  | 6 => .array .int
  | 7 => .array .int
  | 8 => .array .int
  | 9 => .array .int
  | _ => .array .int
abbrev wsX00 : List Cond := u_ws RX0 TX0 11
theorem nmX0 : ∀ a, a < 11 → ∀ b, b < 11 → a ≠ b → (TX0 a).2.1 ≠ (TX0 b).2.1 := by decide +kernel
theorem tyX0_ok : ∀ k, k < 11 → parseFieldDescriptor (TX0 k).2.2.1 = some (tyX0 k) := by decide +kernel
abbrev cX0_init : ByteArray := prog_2_method_1_code
def yX0_init : MethodName := ⟨RX0, "<init>", "()V"⟩
abbrev cX0_hasState : ByteArray := prog_2_method_2_code
def yX0_hasState : MethodName := ⟨RX0, "hasState", "(I)Z"⟩
abbrev cX0_addState : ByteArray := prog_2_method_3_code
def yX0_addState : MethodName := ⟨RX0, "addState", "(IZ)I"⟩
abbrev cX0_addMove : ByteArray := prog_2_method_4_code
def yX0_addMove : MethodName := ⟨RX0, "addMove", "(III)I"⟩
abbrev cX0_isStuck : ByteArray := prog_2_method_5_code
def yX0_isStuck : MethodName := ⟨RX0, "isStuck", "(I)Z"⟩
def RX1 : String := "FairLoops$Knots"
def TX1 : u_T := fun k => match k with
  | 0 => ("FairLoops$Knots", "chosen", "[Z", true)
  | 1 => ("FairLoops$Knots", "found", "I", false)
  | 2 => ("FairLoops$Knots", "knotOf", "[I", true)
  | 3 => ("FairLoops$Knots", "order", "[I", true)
  | 4 => ("FairLoops$Knots", "closed", "I", false)
  | 5 => ("FairLoops$Knots", "entered", "[I", true)
  | 6 => ("FairLoops$Knots", "entries", "I", false)
  | 7 => ("FairLoops$Knots", "low", "[I", true)
  | 8 => ("FairLoops$Knots", "nextOut", "[I", true)
  | 9 => ("FairLoops$Knots", "path", "[I", true)
  | 10 => ("FairLoops$Knots", "depth", "I", false)
  | 11 => ("FairLoops$Knots", "open", "[I", true)
  | _ => ("FairLoops$Knots", "opened", "I", false)
def tyX1 : Nat → FieldType := fun k => match k with
  | 0 => .array .boolean
  | 1 => .int
  | 2 => .array .int
  | 3 => .array .int
  | 4 => .int
  | 5 => .array .int
  | 6 => .int
  | 7 => .array .int
  | 8 => .array .int
  | 9 => .array .int
  | 10 => .int
  | 11 => .array .int
  | _ => .int
abbrev wsX10 : List Cond := u_ws RX1 TX1 13
theorem nmX1 : ∀ a, a < 13 → ∀ b, b < 13 → a ≠ b → (TX1 a).2.1 ≠ (TX1 b).2.1 := by decide +kernel
theorem tyX1_ok : ∀ k, k < 13 → parseFieldDescriptor (TX1 k).2.2.1 = some (tyX1 k) := by decide +kernel
abbrev cX1_init : ByteArray := prog_3_method_1_code
def yX1_init : MethodName := ⟨RX1, "<init>", "()V"⟩
abbrev cX1_find : ByteArray := prog_3_method_2_code
def yX1_find : MethodName := ⟨RX1, "find", "(LFairLoops$Graph;)V"⟩
abbrev cX1_walkFrom : ByteArray := prog_3_method_3_code
def yX1_walkFrom : MethodName := ⟨RX1, "walkFrom", "(LFairLoops$Graph;I)V"⟩
abbrev cX1_enter : ByteArray := prog_3_method_4_code
def yX1_enter : MethodName := ⟨RX1, "enter", "(LFairLoops$Graph;I)V"⟩
abbrev cX1_lower : ByteArray := prog_3_method_5_code
def yX1_lower : MethodName := ⟨RX1, "lower", "(II)V"⟩
abbrev cX1_closeKnotBegunBy : ByteArray := prog_3_method_6_code
def yX1_closeKnotBegunBy : MethodName := ⟨RX1, "closeKnotBegunBy", "(I)V"⟩
abbrev cX1_leave : ByteArray := prog_3_method_7_code
def yX1_leave : MethodName := ⟨RX1, "leave", "(I)V"⟩
def RX2 : String := "FairLoops$Reach"
def TX2 : u_T := fun k => match k with
  | 0 => ("FairLoops$Reach", "found", "I", false)
  | 1 => ("FairLoops$Reach", "line", "[I", true)
  | 2 => ("FairLoops$Reach", "far", "[I", true)
  | _ => ("FairLoops$Reach", "lastMove", "[I", true)
def tyX2 : Nat → FieldType := fun k => match k with
  | 0 => .int
  | 1 => .array .int
  | 2 => .array .int
  | _ => .array .int
abbrev wsX20 : List Cond := u_ws RX2 TX2 4
theorem nmX2 : ∀ a, a < 4 → ∀ b, b < 4 → a ≠ b → (TX2 a).2.1 ≠ (TX2 b).2.1 := by decide +kernel
theorem tyX2_ok : ∀ k, k < 4 → parseFieldDescriptor (TX2 k).2.2.1 = some (tyX2 k) := by decide +kernel
abbrev cX2_init : ByteArray := prog_4_method_1_code
def yX2_init : MethodName := ⟨RX2, "<init>", "()V"⟩
abbrev cX2_walk : ByteArray := prog_4_method_2_code
def yX2_walk : MethodName := ⟨RX2, "walk", "(LFairLoops$Graph;)V"⟩
abbrev cX2_join : ByteArray := prog_4_method_3_code
def yX2_join : MethodName := ⟨RX2, "join", "(III)V"⟩
abbrev cX2_moveOnWayTo : ByteArray := prog_4_method_4_code
def yX2_moveOnWayTo : MethodName := ⟨RX2, "moveOnWayTo", "(LFairLoops$Graph;II)I"⟩
def RX3 : String := "FairLoops$Sums"
def TX3 : u_T := fun k => match k with
  | 0 => ("FairLoops$Sums", "size", "[I", true)
  | 1 => ("FairLoops$Sums", "lowest", "[I", true)
  | 2 => ("FairLoops$Sums", "ableInAll", "[I", true)
  | 3 => ("FairLoops$Sums", "inside", "[I", true)
  | _ => ("FairLoops$Sums", "goesRound", "[Z", true)
def tyX3 : Nat → FieldType := fun k => match k with
  | 0 => .array .int
  | 1 => .array .int
  | 2 => .array .int
  | 3 => .array .int
  | _ => .array .boolean
abbrev wsX30 : List Cond := u_ws RX3 TX3 5
theorem nmX3 : ∀ a, a < 5 → ∀ b, b < 5 → a ≠ b → (TX3 a).2.1 ≠ (TX3 b).2.1 := by decide +kernel
theorem tyX3_ok : ∀ k, k < 5 → parseFieldDescriptor (TX3 k).2.2.1 = some (tyX3 k) := by decide +kernel
abbrev cX3_init : ByteArray := prog_5_method_1_code
def yX3_init : MethodName := ⟨RX3, "<init>", "()V"⟩
abbrev cX3_take : ByteArray := prog_5_method_2_code
def yX3_take : MethodName := ⟨RX3, "take", "(LFairLoops$Graph;LFairLoops$Knots;)V"⟩
abbrev cX3_addState : ByteArray := prog_5_method_3_code
def yX3_addState : MethodName := ⟨RX3, "addState", "(III)V"⟩
abbrev cX3_addMove : ByteArray := prog_5_method_4_code
def yX3_addMove : MethodName := ⟨RX3, "addMove", "(II)V"⟩
abbrev cX3_largestSize : ByteArray := prog_5_method_5_code
def yX3_largestSize : MethodName := ⟨RX3, "largestSize", "(I)I"⟩
def RX4 : String := "FairLoops"
def TX4 : u_T := fun k => match k with
  | 0 => ("FairLoops", "graph", "LFairLoops$Graph;", true)
  | 1 => ("FairLoops", "kinds", "[I", true)
  | 2 => ("FairLoops", "reach", "LFairLoops$Reach;", true)
  | 3 => ("FairLoops", "knots", "LFairLoops$Knots;", true)
  | 4 => ("FairLoops", "sums", "LFairLoops$Sums;", true)
  | _ => ("FairLoops", "ranks", "[I", true)
def tyX4 : Nat → FieldType := fun k => match k with
  | 0 => .object "FairLoops$Graph"
  | 1 => .array .int
  | 2 => .object "FairLoops$Reach"
  | 3 => .object "FairLoops$Knots"
  | 4 => .object "FairLoops$Sums"
  | _ => .array .int
abbrev wsX40 : List Cond := u_ws RX4 TX4 6
theorem nmX4 : ∀ a, a < 6 → ∀ b, b < 6 → a ≠ b → (TX4 a).2.1 ≠ (TX4 b).2.1 := by decide +kernel
theorem tyX4_ok : ∀ k, k < 6 → parseFieldDescriptor (TX4 k).2.2.1 = some (tyX4 k) := by decide +kernel
abbrev cX4_init : ByteArray := prog_1_method_1_code
def yX4_init : MethodName := ⟨RX4, "<init>", "()V"⟩
abbrev cX4_state : ByteArray := prog_1_method_2_code
def yX4_state : MethodName := ⟨RX4, "state", "(IZ)I"⟩
abbrev cX4_move : ByteArray := prog_1_method_3_code
def yX4_move : MethodName := ⟨RX4, "move", "(III)I"⟩
abbrev cX4_label : ByteArray := prog_1_method_4_code
def yX4_label : MethodName := ⟨RX4, "label", "(II)I"⟩
abbrev cX4_reached : ByteArray := prog_1_method_5_code
def yX4_reached : MethodName := ⟨RX4, "reached", "()I"⟩
abbrev cX4_live : ByteArray := prog_1_method_6_code
def yX4_live : MethodName := ⟨RX4, "live", "(I)Z"⟩
abbrev cX4_parts : ByteArray := prog_1_method_7_code
def yX4_parts : MethodName := ⟨RX4, "parts", "(I)I"⟩
abbrev cX4_part : ByteArray := prog_1_method_8_code
def yX4_part : MethodName := ⟨RX4, "part", "(III)I"⟩
abbrev cX4_dead : ByteArray := prog_1_method_9_code
def yX4_dead : MethodName := ⟨RX4, "dead", "(II)I"⟩
abbrev cX4_longest : ByteArray := prog_1_method_10_code
def yX4_longest : MethodName := ⟨RX4, "longest", "(I)I"⟩
abbrev cX4_rank : ByteArray := prog_1_method_11_code
def yX4_rank : MethodName := ⟨RX4, "rank", "(II)I"⟩
abbrev cX4_row : ByteArray := prog_1_method_12_code
def yX4_row : MethodName := ⟨RX4, "row", "(II)I"⟩
abbrev cX4_largest : ByteArray := prog_1_method_13_code
def yX4_largest : MethodName := ⟨RX4, "largest", "(I)I"⟩
abbrev cX4_count : ByteArray := prog_1_method_14_code
def yX4_count : MethodName := ⟨RX4, "count", "(I)I"⟩
abbrev cX4_refuseWrongAsk : ByteArray := prog_1_method_15_code
def yX4_refuseWrongAsk : MethodName := ⟨RX4, "refuseWrongAsk", "(I)V"⟩
abbrev cX4_refuseWrongState : ByteArray := prog_1_method_16_code
def yX4_refuseWrongState : MethodName := ⟨RX4, "refuseWrongState", "(I)V"⟩
abbrev cX4_isLabel : ByteArray := prog_1_method_17_code
def yX4_isLabel : MethodName := ⟨RX4, "isLabel", "(I)Z"⟩
abbrev cX4_labelsOfKind : ByteArray := prog_1_method_18_code
def yX4_labelsOfKind : MethodName := ⟨RX4, "labelsOfKind", "(I)I"⟩
abbrev cX4_liveAsks : ByteArray := prog_1_method_19_code
def yX4_liveAsks : MethodName := ⟨RX4, "liveAsks", "()I"⟩
abbrev cX4_alwaysServed : ByteArray := prog_1_method_20_code
def yX4_alwaysServed : MethodName := ⟨RX4, "alwaysServed", "(I)Z"⟩
abbrev cX4_chooseStatesOf : ByteArray := prog_1_method_21_code
def yX4_chooseStatesOf : MethodName := ⟨RX4, "chooseStatesOf", "(I)V"⟩
abbrev cX4_findParts : ByteArray := prog_1_method_22_code
def yX4_findParts : MethodName := ⟨RX4, "findParts", "(I)V"⟩
abbrev cX4_findFairParts : ByteArray := prog_1_method_23_code
def yX4_findFairParts : MethodName := ⟨RX4, "findFairParts", "(I)V"⟩
abbrev cX4_keepFairStates : ByteArray := prog_1_method_24_code
def yX4_keepFairStates : MethodName := ⟨RX4, "keepFairStates", "()V"⟩
abbrev cX4_dropUnfairStates : ByteArray := prog_1_method_25_code
def yX4_dropUnfairStates : MethodName := ⟨RX4, "dropUnfairStates", "(II)Z"⟩
abbrev cX4_isUnfair : ByteArray := prog_1_method_26_code
def yX4_isUnfair : MethodName := ⟨RX4, "isUnfair", "(III)Z"⟩
abbrev cX4_knotByLowestState : ByteArray := prog_1_method_27_code
def yX4_knotByLowestState : MethodName := ⟨RX4, "knotByLowestState", "(I)I"⟩
abbrev cX4_stateOfKnot : ByteArray := prog_1_method_28_code
def yX4_stateOfKnot : MethodName := ⟨RX4, "stateOfKnot", "(II)I"⟩
abbrev cX4_deadEnd : ByteArray := prog_1_method_29_code
def yX4_deadEnd : MethodName := ⟨RX4, "deadEnd", "(I)I"⟩
abbrev cX4_fillRanks : ByteArray := prog_1_method_30_code
def yX4_fillRanks : MethodName := ⟨RX4, "fillRanks", "()I"⟩
abbrev cX4_rankAbove : ByteArray := prog_1_method_31_code
def yX4_rankAbove : MethodName := ⟨RX4, "rankAbove", "(I)I"⟩
def RX5 : String := "FairLoopsModel"
def TX5 : u_T := fun k => match k with
  | 0 => ("FairLoopsModel", "thrown", "I", false)
  | 1 => ("FairLoopsModel", "states", "I", false)
  | 2 => ("FairLoopsModel", "moves", "I", false)
  | 3 => ("FairLoopsModel", "asks", "[I", true)
  | 4 => ("FairLoopsModel", "from", "[I", true)
  | 5 => ("FairLoopsModel", "to", "[I", true)
  | 6 => ("FairLoopsModel", "labelOf", "[I", true)
  | 7 => ("FairLoopsModel", "how", "[I", true)
  | 8 => ("FairLoopsModel", "first", "[I", true)
  | 9 => ("FairLoopsModel", "last", "[I", true)
  | 10 => ("FairLoopsModel", "next", "[I", true)
  | 11 => ("FairLoopsModel", "end", "[Z", true)
  | 12 => ("FairLoopsModel", "known", "Z", false)
  | 13 => ("FairLoopsModel", "come", "I", false)
  | 14 => ("FairLoopsModel", "queue", "[I", true)
  | 15 => ("FairLoopsModel", "by", "[I", true)
  | 16 => ("FairLoopsModel", "row", "[I", true)
  | 17 => ("FairLoopsModel", "isReached", "[Z", true)
  | 18 => ("FairLoopsModel", "lookedAt", "I", false)
  | 19 => ("FairLoopsModel", "alive", "[Z", true)
  | 20 => ("FairLoopsModel", "reach", "[Z", true)
  | 21 => ("FairLoopsModel", "its", "[Z", true)
  | 22 => ("FairLoopsModel", "fairly", "[Z", true)
  | 23 => ("FairLoopsModel", "partOf", "[I", true)
  | 24 => ("FairLoopsModel", "parts", "I", false)
  | 25 => ("FairLoopsModel", "whole", "I", false)
  | _ => ("FairLoopsModel", "longestFrom", "[I", true)
def tyX5 : Nat → FieldType := fun k => match k with
  | 0 => .int
  | 1 => .int
  | 2 => .int
  | 3 => .array .int
  | 4 => .array .int
  | 5 => .array .int
  | 6 => .array .int
  | 7 => .array .int
  | 8 => .array .int
  | 9 => .array .int
  | 10 => .array .int
  | 11 => .array .boolean
  | 12 => .boolean
  | 13 => .int
  | 14 => .array .int
  | 15 => .array .int
  | 16 => .array .int
  | 17 => .array .boolean
  | 18 => .int
  | 19 => .array .boolean
  | 20 => .array .boolean
  | 21 => .array .boolean
  | 22 => .array .boolean
  | 23 => .array .int
  | 24 => .int
  | 25 => .int
  | _ => .array .int
abbrev wsX50 : List Cond := u_ws RX5 TX5 27
theorem nmX5 : ∀ a, a < 27 → ∀ b, b < 27 → a ≠ b → (TX5 a).2.1 ≠ (TX5 b).2.1 := by decide +kernel
theorem tyX5_ok : ∀ k, k < 27 → parseFieldDescriptor (TX5 k).2.2.1 = some (tyX5 k) := by decide +kernel
abbrev cX5_init : ByteArray := prog_7_method_1_code
def yX5_init : MethodName := ⟨RX5, "<init>", "()V"⟩
abbrev cX5_thrown : ByteArray := prog_7_method_2_code
def yX5_thrown : MethodName := ⟨RX5, "thrown", "()I"⟩
abbrev cX5_changed : ByteArray := prog_7_method_3_code
def yX5_changed : MethodName := ⟨RX5, "changed", "()V"⟩
abbrev cX5_state : ByteArray := prog_7_method_4_code
def yX5_state : MethodName := ⟨RX5, "state", "(IZ)I"⟩
abbrev cX5_isState : ByteArray := prog_7_method_5_code
def yX5_isState : MethodName := ⟨RX5, "isState", "(I)Z"⟩
abbrev cX5_move : ByteArray := prog_7_method_6_code
def yX5_move : MethodName := ⟨RX5, "move", "(III)I"⟩
abbrev cX5_label : ByteArray := prog_7_method_7_code
def yX5_label : MethodName := ⟨RX5, "label", "(II)I"⟩
abbrev cX5_walk : ByteArray := prog_7_method_8_code
def yX5_walk : MethodName := ⟨RX5, "walk", "()V"⟩
abbrev cX5_reached : ByteArray := prog_7_method_9_code
def yX5_reached : MethodName := ⟨RX5, "reached", "()I"⟩
abbrev cX5_row : ByteArray := prog_7_method_10_code
def yX5_row : MethodName := ⟨RX5, "row", "(II)I"⟩
abbrev cX5_close : ByteArray := prog_7_method_11_code
def yX5_close : MethodName := ⟨RX5, "close", "()V"⟩
abbrev cX5_spread : ByteArray := prog_7_method_12_code
def yX5_spread : MethodName := ⟨RX5, "spread", "(I)V"⟩
abbrev cX5_together : ByteArray := prog_7_method_13_code
def yX5_together : MethodName := ⟨RX5, "together", "(II)Z"⟩
abbrev cX5_divide : ByteArray := prog_7_method_14_code
def yX5_divide : MethodName := ⟨RX5, "divide", "()I"⟩
abbrev cX5_isAble : ByteArray := prog_7_method_15_code
def yX5_isAble : MethodName := ⟨RX5, "isAble", "(II)Z"⟩
abbrev cX5_isTaken : ByteArray := prog_7_method_16_code
def yX5_isTaken : MethodName := ⟨RX5, "isTaken", "(II)Z"⟩
abbrev cX5_takeAway : ByteArray := prog_7_method_17_code
def yX5_takeAway : MethodName := ⟨RX5, "takeAway", "(II)Z"⟩
abbrev cX5_shrink : ByteArray := prog_7_method_18_code
def yX5_shrink : MethodName := ⟨RX5, "shrink", "(I)Z"⟩
abbrev cX5_look : ByteArray := prog_7_method_19_code
def yX5_look : MethodName := ⟨RX5, "look", "(I)V"⟩
abbrev cX5_isAsk : ByteArray := prog_7_method_20_code
def yX5_isAsk : MethodName := ⟨RX5, "isAsk", "(I)Z"⟩
abbrev cX5_begins : ByteArray := prog_7_method_21_code
def yX5_begins : MethodName := ⟨RX5, "begins", "(I)Z"⟩
abbrev cX5_isDead : ByteArray := prog_7_method_22_code
def yX5_isDead : MethodName := ⟨RX5, "isDead", "(I)Z"⟩
abbrev cX5_isLive : ByteArray := prog_7_method_23_code
def yX5_isLive : MethodName := ⟨RX5, "isLive", "(I)Z"⟩
abbrev cX5_live : ByteArray := prog_7_method_24_code
def yX5_live : MethodName := ⟨RX5, "live", "(I)Z"⟩
abbrev cX5_parts : ByteArray := prog_7_method_25_code
def yX5_parts : MethodName := ⟨RX5, "parts", "(I)I"⟩
abbrev cX5_part : ByteArray := prog_7_method_26_code
def yX5_part : MethodName := ⟨RX5, "part", "(III)I"⟩
abbrev cX5_dead : ByteArray := prog_7_method_27_code
def yX5_dead : MethodName := ⟨RX5, "dead", "(II)I"⟩
abbrev cX5_measure : ByteArray := prog_7_method_28_code
def yX5_measure : MethodName := ⟨RX5, "measure", "(I)Z"⟩
abbrev cX5_longest : ByteArray := prog_7_method_29_code
def yX5_longest : MethodName := ⟨RX5, "longest", "(I)I"⟩
abbrev cX5_rank : ByteArray := prog_7_method_30_code
def yX5_rank : MethodName := ⟨RX5, "rank", "(II)I"⟩
abbrev cX5_largest : ByteArray := prog_7_method_31_code
def yX5_largest : MethodName := ⟨RX5, "largest", "(I)I"⟩
abbrev cX5_count : ByteArray := prog_7_method_32_code
def yX5_count : MethodName := ⟨RX5, "count", "(I)I"⟩
def RJ6 : String := "java/lang/Integer"
def TJ6 : u_T := fun k => match k with
  | _ => ("", "", "", false)
def tyJ6 : Nat → FieldType := fun k => match k with
  | _ => .int
abbrev wsJ60 : List Cond := u_ws RJ6 TJ6 0
theorem nmJ6 : ∀ a, a < 0 → ∀ b, b < 0 → a ≠ b → (TJ6 a).2.1 ≠ (TJ6 b).2.1 := by decide +kernel
theorem tyJ6_ok : ∀ k, k < 0 → parseFieldDescriptor (TJ6 k).2.2.1 = some (tyJ6 k) := by decide +kernel
abbrev cJ6_bitCount_0f7a4 : ByteArray := prog_11_method_49_code
def yJ6_bitCount_0f7a4 : MethodName := ⟨RJ6, "bitCount", "(I)I"⟩
def RJ0 : String := "java/lang/String"
def TJ0 : u_T := fun k => match k with
  | _ => ("", "", "", false)
def tyJ0 : Nat → FieldType := fun k => match k with
  | _ => .int
abbrev wsJ00 : List Cond := u_ws RJ0 TJ0 0
theorem nmJ0 : ∀ a, a < 0 → ∀ b, b < 0 → a ≠ b → (TJ0 a).2.1 ≠ (TJ0 b).2.1 := by decide +kernel
theorem tyJ0_ok : ∀ k, k < 0 → parseFieldDescriptor (TJ0 k).2.2.1 = some (tyJ0 k) := by decide +kernel
def RL : String := "FairLoopsLaw"
abbrev cL_state : ByteArray := method_3_code
def yL_state : MethodName := ⟨RL, "state", "(LFairLoops;IZ[J)I"⟩
abbrev cL_move : ByteArray := method_4_code
def yL_move : MethodName := ⟨RL, "move", "(LFairLoops;III[J)I"⟩
abbrev cL_label : ByteArray := method_5_code
def yL_label : MethodName := ⟨RL, "label", "(LFairLoops;II[J)I"⟩
abbrev cL_live : ByteArray := method_6_code
def yL_live : MethodName := ⟨RL, "live", "(LFairLoops;I[J)I"⟩
abbrev cL_parts : ByteArray := method_7_code
def yL_parts : MethodName := ⟨RL, "parts", "(LFairLoops;I[J)I"⟩
abbrev cL_part : ByteArray := method_8_code
def yL_part : MethodName := ⟨RL, "part", "(LFairLoops;III[J)I"⟩
abbrev cL_dead : ByteArray := method_9_code
def yL_dead : MethodName := ⟨RL, "dead", "(LFairLoops;II[J)I"⟩
abbrev cL_longest : ByteArray := method_10_code
def yL_longest : MethodName := ⟨RL, "longest", "(LFairLoops;I[J)I"⟩
abbrev cL_rank : ByteArray := method_11_code
def yL_rank : MethodName := ⟨RL, "rank", "(LFairLoops;II[J)I"⟩
abbrev cL_row : ByteArray := method_12_code
def yL_row : MethodName := ⟨RL, "row", "(LFairLoops;II[J)I"⟩
abbrev cL_largest : ByteArray := method_13_code
def yL_largest : MethodName := ⟨RL, "largest", "(LFairLoops;I[J)I"⟩
abbrev cL_law : ByteArray := code
def yL_law : MethodName := ⟨RL, "law", "([I)Z"⟩
def wsX0_init : List Cond := .code yX0_init cX0_init 1 none :: ([.methodLink RX0 3 objectInit, .instanceMethod objectInit, .code objectInit ⟨#[0xb1]⟩ 1 none, .arrayClass .int, .fieldLink RX0 9 "FairLoops$Graph" "asks" "[I", .arrayClass .boolean, .fieldLink RX0 15 "FairLoops$Graph" "isEnd" "[Z", .fieldLink RX0 19 "FairLoops$Graph" "able" "[I", .fieldLink RX0 22 "FairLoops$Graph" "from" "[I", .fieldLink RX0 25 "FairLoops$Graph" "to" "[I", .fieldLink RX0 28 "FairLoops$Graph" "labelOf" "[I", .fieldLink RX0 31 "FairLoops$Graph" "out" "[I", .fieldLink RX0 34 "FairLoops$Graph" "start" "[I"] ++ wsX00)
def wsX0_hasState : List Cond := .code yX0_hasState cX0_hasState 2 (some .boolean) :: ([.fieldLink RX0 37 "FairLoops$Graph" "states" "I"] ++ wsX00)
def wsX0_addState : List Cond := .code yX0_addState cX0_addState 4 (some .int) :: ([.fieldLink RX0 37 "FairLoops$Graph" "states" "I", .fieldLink RX0 9 "FairLoops$Graph" "asks" "[I", .fieldLink RX0 15 "FairLoops$Graph" "isEnd" "[Z", .fieldLink RX0 41 "FairLoops$Graph" "ends" "I", .fieldLink RX0 34 "FairLoops$Graph" "start" "[I", .fieldLink RX0 44 "FairLoops$Graph" "moves" "I"] ++ wsX00)
def wsX0_addMove : List Cond := .code yX0_addMove cX0_addMove 6 (some .int) :: ([.fieldLink RX0 44 "FairLoops$Graph" "moves" "I", .fieldLink RX0 22 "FairLoops$Graph" "from" "[I", .fieldLink RX0 25 "FairLoops$Graph" "to" "[I", .fieldLink RX0 28 "FairLoops$Graph" "labelOf" "[I", .fieldLink RX0 19 "FairLoops$Graph" "able" "[I", .fieldLink RX0 34 "FairLoops$Graph" "start" "[I", .fieldLink RX0 31 "FairLoops$Graph" "out" "[I", .fieldLink RX0 37 "FairLoops$Graph" "states" "I"] ++ wsX00)
def wsX0_isStuck : List Cond := .code yX0_isStuck cX0_isStuck 2 (some .boolean) :: ([.fieldLink RX0 15 "FairLoops$Graph" "isEnd" "[Z", .fieldLink RX0 34 "FairLoops$Graph" "start" "[I"] ++ wsX00)
def wsX1_init : List Cond := .code yX1_init cX1_init 1 none :: ([.methodLink RX1 3 objectInit, .instanceMethod objectInit, .code objectInit ⟨#[0xb1]⟩ 1 none, .arrayClass .boolean, .fieldLink RX1 9 "FairLoops$Knots" "chosen" "[Z", .arrayClass .int, .fieldLink RX1 15 "FairLoops$Knots" "knotOf" "[I", .fieldLink RX1 19 "FairLoops$Knots" "order" "[I", .fieldLink RX1 22 "FairLoops$Knots" "entered" "[I", .fieldLink RX1 25 "FairLoops$Knots" "low" "[I", .fieldLink RX1 28 "FairLoops$Knots" "nextOut" "[I", .fieldLink RX1 31 "FairLoops$Knots" "path" "[I", .fieldLink RX1 34 "FairLoops$Knots" "open" "[I"] ++ wsX10)
def wsX1_enter : List Cond := .code yX1_enter cX1_enter 3 none :: ([.fieldLink RX1 44 "FairLoops$Knots" "entries" "I", .fieldLink RX1 22 "FairLoops$Knots" "entered" "[I", .fieldLink RX1 25 "FairLoops$Knots" "low" "[I", .fieldLink RX1 28 "FairLoops$Knots" "nextOut" "[I", .fieldLink RX1 68 "FairLoops$Graph" "start" "[I", .fieldLink RX1 31 "FairLoops$Knots" "path" "[I", .fieldLink RX1 47 "FairLoops$Knots" "depth" "I", .fieldLink RX1 34 "FairLoops$Knots" "open" "[I", .fieldLink RX1 50 "FairLoops$Knots" "opened" "I"] ++ wsX10 ++ wsX00)
def wsX1_closeKnotBegunBy : List Cond := .code yX1_closeKnotBegunBy cX1_closeKnotBegunBy 3 none :: ([.fieldLink RX1 25 "FairLoops$Knots" "low" "[I", .fieldLink RX1 22 "FairLoops$Knots" "entered" "[I", .fieldLink RX1 50 "FairLoops$Knots" "opened" "I", .fieldLink RX1 15 "FairLoops$Knots" "knotOf" "[I", .fieldLink RX1 34 "FairLoops$Knots" "open" "[I", .fieldLink RX1 37 "FairLoops$Knots" "found" "I", .fieldLink RX1 19 "FairLoops$Knots" "order" "[I", .fieldLink RX1 41 "FairLoops$Knots" "closed" "I"] ++ wsX10)
def wsX1_lower : List Cond := .code yX1_lower cX1_lower 3 none :: ([.fieldLink RX1 25 "FairLoops$Knots" "low" "[I"] ++ wsX10)
def wsX1_leave : List Cond := .code yX1_leave cX1_leave 2 none :: ([.fieldLink RX1 47 "FairLoops$Knots" "depth" "I", .fieldLink RX1 31 "FairLoops$Knots" "path" "[I", .fieldLink RX1 25 "FairLoops$Knots" "low" "[I", .methodLink RX1 84 yX1_lower, .instanceMethod yX1_lower, .selects RX1 yX1_lower yX1_lower, .initialized RX1, .code yX1_lower cX1_lower 3 none] ++ wsX10)
def wsX1_walkFrom_r1 : List Cond := [Cond.fieldLink RX1 53 "FairLoops$Graph" "states" "I", Cond.fieldLink RX1 65 "FairLoops$Graph" "moves" "I", Cond.fieldLink RX1 47 "FairLoops$Knots" "depth" "I", Cond.fieldLink RX1 31 "FairLoops$Knots" "path" "[I", Cond.fieldLink RX1 28 "FairLoops$Knots" "nextOut" "[I", Cond.fieldLink RX1 68 "FairLoops$Graph" "start" "[I", Cond.fieldLink RX1 78 "FairLoops$Graph" "to" "[I", Cond.fieldLink RX1 81 "FairLoops$Graph" "out" "[I", Cond.fieldLink RX1 9 "FairLoops$Knots" "chosen" "[Z", Cond.fieldLink RX1 22 "FairLoops$Knots" "entered" "[I", Cond.fieldLink RX1 15 "FairLoops$Knots" "knotOf" "[I", Cond.methodLink RX1 62 yX1_enter, Cond.instanceMethod yX1_enter, Cond.selects RX1 yX1_enter yX1_enter, Cond.initialized RX1, Cond.code yX1_enter cX1_enter 3 none, Cond.fieldLink RX1 44 "FairLoops$Knots" "entries" "I", Cond.fieldLink RX1 25 "FairLoops$Knots" "low" "[I", Cond.fieldLink RX1 34 "FairLoops$Knots" "open" "[I", Cond.fieldLink RX1 50 "FairLoops$Knots" "opened" "I", Cond.methodLink RX1 71 yX1_closeKnotBegunBy, Cond.instanceMethod yX1_closeKnotBegunBy, Cond.selects RX1 yX1_closeKnotBegunBy yX1_closeKnotBegunBy, Cond.code yX1_closeKnotBegunBy cX1_closeKnotBegunBy 3 none]
def wsX1_walkFrom_r2 : List Cond := [Cond.fieldLink RX1 37 "FairLoops$Knots" "found" "I", Cond.fieldLink RX1 19 "FairLoops$Knots" "order" "[I", Cond.fieldLink RX1 41 "FairLoops$Knots" "closed" "I", Cond.methodLink RX1 75 yX1_leave, Cond.instanceMethod yX1_leave, Cond.selects RX1 yX1_leave yX1_leave, Cond.code yX1_leave cX1_leave 2 none, Cond.methodLink RX1 84 yX1_lower, Cond.instanceMethod yX1_lower, Cond.selects RX1 yX1_lower yX1_lower, Cond.code yX1_lower cX1_lower 3 none]
def wsX1_walkFrom : List Cond := .code yX1_walkFrom cX1_walkFrom 7 none :: ((wsX1_walkFrom_r1 ++ wsX1_walkFrom_r2) ++ wsX00 ++ wsX10)
def wsX1_find_r1 : List Cond := [Cond.fieldLink RX1 37 "FairLoops$Knots" "found" "I", Cond.fieldLink RX1 41 "FairLoops$Knots" "closed" "I", Cond.fieldLink RX1 44 "FairLoops$Knots" "entries" "I", Cond.fieldLink RX1 47 "FairLoops$Knots" "depth" "I", Cond.fieldLink RX1 50 "FairLoops$Knots" "opened" "I", Cond.fieldLink RX1 53 "FairLoops$Graph" "states" "I", Cond.fieldLink RX1 22 "FairLoops$Knots" "entered" "[I", Cond.fieldLink RX1 15 "FairLoops$Knots" "knotOf" "[I", Cond.fieldLink RX1 9 "FairLoops$Knots" "chosen" "[Z", Cond.methodLink RX1 58 yX1_walkFrom, Cond.instanceMethod yX1_walkFrom, Cond.selects RX1 yX1_walkFrom yX1_walkFrom, Cond.initialized RX1, Cond.code yX1_walkFrom cX1_walkFrom 7 none, Cond.fieldLink RX1 65 "FairLoops$Graph" "moves" "I", Cond.fieldLink RX1 31 "FairLoops$Knots" "path" "[I", Cond.fieldLink RX1 28 "FairLoops$Knots" "nextOut" "[I", Cond.fieldLink RX1 68 "FairLoops$Graph" "start" "[I", Cond.fieldLink RX1 78 "FairLoops$Graph" "to" "[I", Cond.fieldLink RX1 81 "FairLoops$Graph" "out" "[I", Cond.methodLink RX1 62 yX1_enter, Cond.instanceMethod yX1_enter, Cond.selects RX1 yX1_enter yX1_enter, Cond.code yX1_enter cX1_enter 3 none]
def wsX1_find_r2 : List Cond := [Cond.fieldLink RX1 25 "FairLoops$Knots" "low" "[I", Cond.fieldLink RX1 34 "FairLoops$Knots" "open" "[I", Cond.methodLink RX1 71 yX1_closeKnotBegunBy, Cond.instanceMethod yX1_closeKnotBegunBy, Cond.selects RX1 yX1_closeKnotBegunBy yX1_closeKnotBegunBy, Cond.code yX1_closeKnotBegunBy cX1_closeKnotBegunBy 3 none, Cond.fieldLink RX1 19 "FairLoops$Knots" "order" "[I", Cond.methodLink RX1 75 yX1_leave, Cond.instanceMethod yX1_leave, Cond.selects RX1 yX1_leave yX1_leave, Cond.code yX1_leave cX1_leave 2 none, Cond.methodLink RX1 84 yX1_lower, Cond.instanceMethod yX1_lower, Cond.selects RX1 yX1_lower yX1_lower, Cond.code yX1_lower cX1_lower 3 none]
def wsX1_find : List Cond := .code yX1_find cX1_find 3 none :: ((wsX1_find_r1 ++ wsX1_find_r2) ++ wsX10 ++ wsX00)
def wsX2_init : List Cond := .code yX2_init cX2_init 1 none :: ([.methodLink RX2 3 objectInit, .instanceMethod objectInit, .code objectInit ⟨#[0xb1]⟩ 1 none, .arrayClass .int, .fieldLink RX2 9 "FairLoops$Reach" "line" "[I", .fieldLink RX2 15 "FairLoops$Reach" "far" "[I", .fieldLink RX2 18 "FairLoops$Reach" "lastMove" "[I"] ++ wsX20)
def wsX2_join : List Cond := .code yX2_join cX2_join 4 none :: ([.fieldLink RX2 15 "FairLoops$Reach" "far" "[I", .fieldLink RX2 18 "FairLoops$Reach" "lastMove" "[I", .fieldLink RX2 9 "FairLoops$Reach" "line" "[I", .fieldLink RX2 27 "FairLoops$Reach" "found" "I"] ++ wsX20)
def wsX2_walk : List Cond := .code yX2_walk cX2_walk 6 none :: ([.fieldLink RX2 21 "FairLoops$Graph" "states" "I", .fieldLink RX2 15 "FairLoops$Reach" "far" "[I", .fieldLink RX2 27 "FairLoops$Reach" "found" "I", .fieldLink RX2 9 "FairLoops$Reach" "line" "[I", .fieldLink RX2 34 "FairLoops$Graph" "start" "[I", .fieldLink RX2 37 "FairLoops$Graph" "out" "[I", .fieldLink RX2 40 "FairLoops$Graph" "to" "[I", .methodLink RX2 30 yX2_join, .instanceMethod yX2_join, .selects RX2 yX2_join yX2_join, .initialized RX2, .code yX2_join cX2_join 4 none, .fieldLink RX2 18 "FairLoops$Reach" "lastMove" "[I"] ++ wsX00 ++ wsX20)
def wsX2_moveOnWayTo : List Cond := .code yX2_moveOnWayTo cX2_moveOnWayTo 6 (some .int) :: ([.fieldLink RX2 15 "FairLoops$Reach" "far" "[I", .fieldLink RX2 43 "FairLoops$Graph" "from" "[I", .fieldLink RX2 18 "FairLoops$Reach" "lastMove" "[I"] ++ wsX20 ++ wsX00)
def wsX3_init : List Cond := .code yX3_init cX3_init 1 none :: ([.methodLink RX3 3 objectInit, .instanceMethod objectInit, .code objectInit ⟨#[0xb1]⟩ 1 none, .arrayClass .int, .fieldLink RX3 9 "FairLoops$Sums" "size" "[I", .fieldLink RX3 15 "FairLoops$Sums" "lowest" "[I", .fieldLink RX3 18 "FairLoops$Sums" "ableInAll" "[I", .fieldLink RX3 21 "FairLoops$Sums" "inside" "[I", .arrayClass .boolean, .fieldLink RX3 24 "FairLoops$Sums" "goesRound" "[Z"] ++ wsX30)
def wsX3_addState : List Cond := .code yX3_addState cX3_addState 4 none :: ([.fieldLink RX3 9 "FairLoops$Sums" "size" "[I", .fieldLink RX3 15 "FairLoops$Sums" "lowest" "[I", .fieldLink RX3 18 "FairLoops$Sums" "ableInAll" "[I"] ++ wsX30)
def wsX3_addMove : List Cond := .code yX3_addMove cX3_addMove 3 none :: ([.fieldLink RX3 24 "FairLoops$Sums" "goesRound" "[Z", .fieldLink RX3 21 "FairLoops$Sums" "inside" "[I"] ++ wsX30)
def wsX3_take : List Cond := .code yX3_take cX3_take 6 none :: ([.fieldLink RX3 28 "FairLoops$Knots" "found" "I", .fieldLink RX3 9 "FairLoops$Sums" "size" "[I", .fieldLink RX3 18 "FairLoops$Sums" "ableInAll" "[I", .fieldLink RX3 21 "FairLoops$Sums" "inside" "[I", .fieldLink RX3 24 "FairLoops$Sums" "goesRound" "[Z", .fieldLink RX3 34 "FairLoops$Graph" "states" "I", .fieldLink RX3 39 "FairLoops$Knots" "chosen" "[Z", .fieldLink RX3 42 "FairLoops$Knots" "knotOf" "[I", .fieldLink RX3 45 "FairLoops$Graph" "able" "[I", .fieldLink RX3 52 "FairLoops$Graph" "moves" "I", .fieldLink RX3 55 "FairLoops$Graph" "from" "[I", .fieldLink RX3 58 "FairLoops$Graph" "to" "[I", .fieldLink RX3 61 "FairLoops$Graph" "labelOf" "[I", .methodLink RX3 48 yX3_addState, .instanceMethod yX3_addState, .selects RX3 yX3_addState yX3_addState, .initialized RX3, .code yX3_addState cX3_addState 4 none, .fieldLink RX3 15 "FairLoops$Sums" "lowest" "[I", .methodLink RX3 64 yX3_addMove, .instanceMethod yX3_addMove, .selects RX3 yX3_addMove yX3_addMove, .code yX3_addMove cX3_addMove 3 none] ++ wsX10 ++ wsX30 ++ wsX00)
def wsX3_largestSize : List Cond := .code yX3_largestSize cX3_largestSize 4 (some .int) :: ([.fieldLink RX3 24 "FairLoops$Sums" "goesRound" "[Z", .fieldLink RX3 9 "FairLoops$Sums" "size" "[I"] ++ wsX30)
def wsX4_init_r1 : List Cond := [Cond.methodLink RX4 1 objectInit, Cond.instanceMethod objectInit, Cond.code objectInit ⟨#[0xb1]⟩ 1 none, Cond.classLink RX4 7 RX0, Cond.instantiable RX0 11, Cond.initialized RX0, Cond.fieldLink RX4 10 "FairLoops" "graph" "LFairLoops$Graph;", Cond.arrayClass .int, Cond.fieldLink RX4 16 "FairLoops" "kinds" "[I", Cond.classLink RX4 20 RX2, Cond.instantiable RX2 4, Cond.initialized RX2, Cond.fieldLink RX4 23 "FairLoops" "reach" "LFairLoops$Reach;", Cond.classLink RX4 27 RX1, Cond.instantiable RX1 13, Cond.initialized RX1, Cond.fieldLink RX4 30 "FairLoops" "knots" "LFairLoops$Knots;", Cond.classLink RX4 34 RX3, Cond.instantiable RX3 5, Cond.initialized RX3, Cond.fieldLink RX4 37 "FairLoops" "sums" "LFairLoops$Sums;", Cond.fieldLink RX4 41 "FairLoops" "ranks" "[I", Cond.instanceMethod yX0_init, Cond.code yX0_init cX0_init 1 none]
def wsX4_init_r2 : List Cond := [Cond.methodLink RX0 3 objectInit, Cond.fieldLink RX0 9 "FairLoops$Graph" "asks" "[I", Cond.arrayClass .boolean, Cond.fieldLink RX0 15 "FairLoops$Graph" "isEnd" "[Z", Cond.fieldLink RX0 19 "FairLoops$Graph" "able" "[I", Cond.fieldLink RX0 22 "FairLoops$Graph" "from" "[I", Cond.fieldLink RX0 25 "FairLoops$Graph" "to" "[I", Cond.fieldLink RX0 28 "FairLoops$Graph" "labelOf" "[I", Cond.fieldLink RX0 31 "FairLoops$Graph" "out" "[I", Cond.fieldLink RX0 34 "FairLoops$Graph" "start" "[I", Cond.instanceMethod yX2_init, Cond.code yX2_init cX2_init 1 none, Cond.methodLink RX2 3 objectInit, Cond.fieldLink RX2 9 "FairLoops$Reach" "line" "[I", Cond.fieldLink RX2 15 "FairLoops$Reach" "far" "[I", Cond.fieldLink RX2 18 "FairLoops$Reach" "lastMove" "[I", Cond.instanceMethod yX1_init, Cond.code yX1_init cX1_init 1 none, Cond.methodLink RX1 3 objectInit, Cond.fieldLink RX1 9 "FairLoops$Knots" "chosen" "[Z", Cond.fieldLink RX1 15 "FairLoops$Knots" "knotOf" "[I", Cond.fieldLink RX1 19 "FairLoops$Knots" "order" "[I", Cond.fieldLink RX1 22 "FairLoops$Knots" "entered" "[I", Cond.fieldLink RX1 25 "FairLoops$Knots" "low" "[I"]
def wsX4_init_r3 : List Cond := [Cond.fieldLink RX1 28 "FairLoops$Knots" "nextOut" "[I", Cond.fieldLink RX1 31 "FairLoops$Knots" "path" "[I", Cond.fieldLink RX1 34 "FairLoops$Knots" "open" "[I", Cond.instanceMethod yX3_init, Cond.code yX3_init cX3_init 1 none, Cond.methodLink RX3 3 objectInit, Cond.fieldLink RX3 9 "FairLoops$Sums" "size" "[I", Cond.fieldLink RX3 15 "FairLoops$Sums" "lowest" "[I", Cond.fieldLink RX3 18 "FairLoops$Sums" "ableInAll" "[I", Cond.fieldLink RX3 21 "FairLoops$Sums" "inside" "[I", Cond.fieldLink RX3 24 "FairLoops$Sums" "goesRound" "[Z"]
def wsX4_init : List Cond := .code yX4_init cX4_init 1 none :: ((wsX4_init_r1 ++ (wsX4_init_r2 ++ wsX4_init_r3)) ++ wsX00 ++ wsX40 ++ wsX20 ++ wsX10 ++ wsX30)
def wsX4_state : List Cond := .code yX4_state cX4_state 3 (some .int) :: ([.classLink RX4 44 "java/lang/IllegalArgumentException", .initialized "java/lang/IllegalArgumentException", .classLink RX4 55 "java/lang/UnsupportedOperationException", .initialized "java/lang/UnsupportedOperationException", .fieldLink RX4 10 "FairLoops" "graph" "LFairLoops$Graph;", .fieldLink RX4 51 "FairLoops$Graph" "states" "I", .methodLink RX4 60 yX0_addState, .instanceMethod yX0_addState, .selects RX0 yX0_addState yX0_addState, .initialized RX0, .code yX0_addState cX0_addState 4 (some .int), .fieldLink RX0 37 "FairLoops$Graph" "states" "I", .fieldLink RX0 9 "FairLoops$Graph" "asks" "[I", .fieldLink RX0 15 "FairLoops$Graph" "isEnd" "[Z", .fieldLink RX0 41 "FairLoops$Graph" "ends" "I", .fieldLink RX0 34 "FairLoops$Graph" "start" "[I", .fieldLink RX0 44 "FairLoops$Graph" "moves" "I"] ++ wsX40 ++ wsX00 ++ (vx_atS RX4 48 "java/lang/IllegalArgumentException" ["java/lang/RuntimeException", "java/lang/Exception"]).filter goodWord ++ (vx_atS RX4 59 "java/lang/UnsupportedOperationException" ["java/lang/RuntimeException", "java/lang/Exception"]).filter goodWord)
def wsX4_isLabel : List Cond := .code yX4_isLabel cX4_isLabel 1 (some .boolean) :: ([])
def wsX4_move_r1 : List Cond := [Cond.classLink RX4 44 "java/lang/IllegalArgumentException", Cond.initialized "java/lang/IllegalArgumentException", Cond.classLink RX4 55 "java/lang/UnsupportedOperationException", Cond.initialized "java/lang/UnsupportedOperationException", Cond.fieldLink RX4 10 "FairLoops" "graph" "LFairLoops$Graph;", Cond.fieldLink RX4 75 "FairLoops$Graph" "moves" "I", Cond.methodLink RX4 64 yX0_hasState, Cond.instanceMethod yX0_hasState, Cond.selects RX0 yX0_hasState yX0_hasState, Cond.initialized RX0, Cond.code yX0_hasState cX0_hasState 2 (some .boolean), Cond.fieldLink RX0 37 "FairLoops$Graph" "states" "I", Cond.methodLink RX4 70 yX4_isLabel, Cond.static yX4_isLabel, Cond.initialized RX4, Cond.code yX4_isLabel cX4_isLabel 1 (some .boolean), Cond.methodLink RX4 80 yX0_addMove, Cond.instanceMethod yX0_addMove, Cond.selects RX0 yX0_addMove yX0_addMove, Cond.code yX0_addMove cX0_addMove 6 (some .int), Cond.fieldLink RX0 44 "FairLoops$Graph" "moves" "I", Cond.fieldLink RX0 22 "FairLoops$Graph" "from" "[I", Cond.fieldLink RX0 25 "FairLoops$Graph" "to" "[I", Cond.fieldLink RX0 28 "FairLoops$Graph" "labelOf" "[I"]
def wsX4_move_r2 : List Cond := [Cond.fieldLink RX0 19 "FairLoops$Graph" "able" "[I", Cond.fieldLink RX0 34 "FairLoops$Graph" "start" "[I", Cond.fieldLink RX0 31 "FairLoops$Graph" "out" "[I"]
def wsX4_move : List Cond := .code yX4_move cX4_move 4 (some .int) :: ((wsX4_move_r1 ++ wsX4_move_r2) ++ wsX40 ++ wsX00 ++ (vx_atS RX4 48 "java/lang/IllegalArgumentException" ["java/lang/RuntimeException", "java/lang/Exception"]).filter goodWord ++ (vx_atS RX4 59 "java/lang/UnsupportedOperationException" ["java/lang/RuntimeException", "java/lang/Exception"]).filter goodWord)
def wsX4_label : List Cond := .code yX4_label cX4_label 4 (some .int) :: ([.classLink RX4 84 "java/lang/IndexOutOfBoundsException", .initialized "java/lang/IndexOutOfBoundsException", .classLink RX4 44 "java/lang/IllegalArgumentException", .initialized "java/lang/IllegalArgumentException", .fieldLink RX4 16 "FairLoops" "kinds" "[I", .methodLink RX4 70 yX4_isLabel, .static yX4_isLabel, .initialized RX4, .code yX4_isLabel cX4_isLabel 1 (some .boolean)] ++ wsX40 ++ (vx_atS RX4 86 "java/lang/IndexOutOfBoundsException" ["java/lang/RuntimeException", "java/lang/Exception"]).filter goodWord ++ (vx_atS RX4 48 "java/lang/IllegalArgumentException" ["java/lang/RuntimeException", "java/lang/Exception"]).filter goodWord)
def wsX4_reached : List Cond := .code yX4_reached cX4_reached 1 (some .int) :: ([.fieldLink RX4 23 "FairLoops" "reach" "LFairLoops$Reach;", .fieldLink RX4 10 "FairLoops" "graph" "LFairLoops$Graph;", .fieldLink RX4 93 "FairLoops$Reach" "found" "I", .methodLink RX4 89 yX2_walk, .instanceMethod yX2_walk, .selects RX2 yX2_walk yX2_walk, .initialized RX2, .code yX2_walk cX2_walk 6 none, .fieldLink RX2 21 "FairLoops$Graph" "states" "I", .fieldLink RX2 15 "FairLoops$Reach" "far" "[I", .fieldLink RX2 27 "FairLoops$Reach" "found" "I", .fieldLink RX2 9 "FairLoops$Reach" "line" "[I", .fieldLink RX2 34 "FairLoops$Graph" "start" "[I", .fieldLink RX2 37 "FairLoops$Graph" "out" "[I", .fieldLink RX2 40 "FairLoops$Graph" "to" "[I", .methodLink RX2 30 yX2_join, .instanceMethod yX2_join, .selects RX2 yX2_join yX2_join, .code yX2_join cX2_join 4 none, .fieldLink RX2 18 "FairLoops$Reach" "lastMove" "[I"] ++ wsX40 ++ wsX20 ++ wsX00)
def wsX4_refuseWrongAsk : List Cond := .code yX4_refuseWrongAsk cX4_refuseWrongAsk 1 none :: ([.classLink RX4 44 "java/lang/IllegalArgumentException", .initialized "java/lang/IllegalArgumentException"] ++ (vx_atS RX4 48 "java/lang/IllegalArgumentException" ["java/lang/RuntimeException", "java/lang/Exception"]).filter goodWord)
def wsX4_chooseStatesOf : List Cond := .code yX4_chooseStatesOf cX4_chooseStatesOf 3 none :: ([.fieldLink RX4 23 "FairLoops" "reach" "LFairLoops$Reach;", .fieldLink RX4 10 "FairLoops" "graph" "LFairLoops$Graph;", .fieldLink RX4 51 "FairLoops$Graph" "states" "I", .fieldLink RX4 30 "FairLoops" "knots" "LFairLoops$Knots;", .fieldLink RX4 138 "FairLoops$Knots" "chosen" "[Z", .fieldLink RX4 167 "FairLoops$Reach" "far" "[I", .fieldLink RX4 170 "FairLoops$Graph" "asks" "[I", .methodLink RX4 89 yX2_walk, .instanceMethod yX2_walk, .selects RX2 yX2_walk yX2_walk, .initialized RX2, .code yX2_walk cX2_walk 6 none, .fieldLink RX2 21 "FairLoops$Graph" "states" "I", .fieldLink RX2 15 "FairLoops$Reach" "far" "[I", .fieldLink RX2 27 "FairLoops$Reach" "found" "I", .fieldLink RX2 9 "FairLoops$Reach" "line" "[I", .fieldLink RX2 34 "FairLoops$Graph" "start" "[I", .fieldLink RX2 37 "FairLoops$Graph" "out" "[I", .fieldLink RX2 40 "FairLoops$Graph" "to" "[I", .methodLink RX2 30 yX2_join, .instanceMethod yX2_join, .selects RX2 yX2_join yX2_join, .code yX2_join cX2_join 4 none, .fieldLink RX2 18 "FairLoops$Reach" "lastMove" "[I"] ++ wsX40 ++ wsX00 ++ wsX10 ++ wsX20)
def wsX4_deadEnd : List Cond := .code yX4_deadEnd cX4_deadEnd 4 (some .int) :: ([.fieldLink RX4 10 "FairLoops" "graph" "LFairLoops$Graph;", .fieldLink RX4 51 "FairLoops$Graph" "states" "I", .fieldLink RX4 30 "FairLoops" "knots" "LFairLoops$Knots;", .fieldLink RX4 138 "FairLoops$Knots" "chosen" "[Z", .methodLink RX4 206 yX0_isStuck, .instanceMethod yX0_isStuck, .selects RX0 yX0_isStuck yX0_isStuck, .initialized RX0, .code yX0_isStuck cX0_isStuck 2 (some .boolean), .fieldLink RX0 15 "FairLoops$Graph" "isEnd" "[Z", .fieldLink RX0 34 "FairLoops$Graph" "start" "[I"] ++ wsX40 ++ wsX00 ++ wsX10)
def wsX4_labelsOfKind : List Cond := .code yX4_labelsOfKind cX4_labelsOfKind 4 (some .int) :: ([.fieldLink RX4 16 "FairLoops" "kinds" "[I"] ++ wsX40)
def wsX4_isUnfair : List Cond := .code yX4_isUnfair cX4_isUnfair 6 (some .boolean) :: ([.fieldLink RX4 30 "FairLoops" "knots" "LFairLoops$Knots;", .fieldLink RX4 188 "FairLoops$Knots" "knotOf" "[I", .fieldLink RX4 37 "FairLoops" "sums" "LFairLoops$Sums;", .fieldLink RX4 191 "FairLoops$Sums" "inside" "[I", .fieldLink RX4 194 "FairLoops$Sums" "goesRound" "[Z", .fieldLink RX4 197 "FairLoops$Sums" "ableInAll" "[I", .fieldLink RX4 10 "FairLoops" "graph" "LFairLoops$Graph;", .fieldLink RX4 200 "FairLoops$Graph" "able" "[I"] ++ wsX40 ++ wsX10 ++ wsX30 ++ wsX00)
def wsX4_dropUnfairStates : List Cond := .code yX4_dropUnfairStates cX4_dropUnfairStates 5 (some .boolean) :: ([.fieldLink RX4 10 "FairLoops" "graph" "LFairLoops$Graph;", .fieldLink RX4 51 "FairLoops$Graph" "states" "I", .fieldLink RX4 30 "FairLoops" "knots" "LFairLoops$Knots;", .fieldLink RX4 138 "FairLoops$Knots" "chosen" "[Z", .methodLink RX4 184 yX4_isUnfair, .instanceMethod yX4_isUnfair, .selects RX4 yX4_isUnfair yX4_isUnfair, .initialized RX4, .code yX4_isUnfair cX4_isUnfair 6 (some .boolean), .fieldLink RX4 188 "FairLoops$Knots" "knotOf" "[I", .fieldLink RX4 37 "FairLoops" "sums" "LFairLoops$Sums;", .fieldLink RX4 191 "FairLoops$Sums" "inside" "[I", .fieldLink RX4 194 "FairLoops$Sums" "goesRound" "[Z", .fieldLink RX4 197 "FairLoops$Sums" "ableInAll" "[I", .fieldLink RX4 200 "FairLoops$Graph" "able" "[I"] ++ wsX40 ++ wsX00 ++ wsX10 ++ wsX30)
def wsX4_keepFairStates_r1 : List Cond := [Cond.fieldLink RX4 10 "FairLoops" "graph" "LFairLoops$Graph;", Cond.fieldLink RX4 51 "FairLoops$Graph" "states" "I", Cond.fieldLink RX4 30 "FairLoops" "knots" "LFairLoops$Knots;", Cond.fieldLink RX4 37 "FairLoops" "sums" "LFairLoops$Sums;", Cond.methodLink RX4 151 yX4_labelsOfKind, Cond.instanceMethod yX4_labelsOfKind, Cond.selects RX4 yX4_labelsOfKind yX4_labelsOfKind, Cond.initialized RX4, Cond.code yX4_labelsOfKind cX4_labelsOfKind 4 (some .int), Cond.fieldLink RX4 16 "FairLoops" "kinds" "[I", Cond.methodLink RX4 173 yX1_find, Cond.instanceMethod yX1_find, Cond.selects RX1 yX1_find yX1_find, Cond.initialized RX1, Cond.code yX1_find cX1_find 3 none, Cond.fieldLink RX1 37 "FairLoops$Knots" "found" "I", Cond.fieldLink RX1 41 "FairLoops$Knots" "closed" "I", Cond.fieldLink RX1 44 "FairLoops$Knots" "entries" "I", Cond.fieldLink RX1 47 "FairLoops$Knots" "depth" "I", Cond.fieldLink RX1 50 "FairLoops$Knots" "opened" "I", Cond.fieldLink RX1 53 "FairLoops$Graph" "states" "I", Cond.fieldLink RX1 22 "FairLoops$Knots" "entered" "[I", Cond.fieldLink RX1 15 "FairLoops$Knots" "knotOf" "[I", Cond.fieldLink RX1 9 "FairLoops$Knots" "chosen" "[Z"]
def wsX4_keepFairStates_r2 : List Cond := [Cond.methodLink RX1 58 yX1_walkFrom, Cond.instanceMethod yX1_walkFrom, Cond.selects RX1 yX1_walkFrom yX1_walkFrom, Cond.code yX1_walkFrom cX1_walkFrom 7 none, Cond.fieldLink RX1 65 "FairLoops$Graph" "moves" "I", Cond.fieldLink RX1 31 "FairLoops$Knots" "path" "[I", Cond.fieldLink RX1 28 "FairLoops$Knots" "nextOut" "[I", Cond.fieldLink RX1 68 "FairLoops$Graph" "start" "[I", Cond.fieldLink RX1 78 "FairLoops$Graph" "to" "[I", Cond.fieldLink RX1 81 "FairLoops$Graph" "out" "[I", Cond.methodLink RX1 62 yX1_enter, Cond.instanceMethod yX1_enter, Cond.selects RX1 yX1_enter yX1_enter, Cond.code yX1_enter cX1_enter 3 none, Cond.fieldLink RX1 25 "FairLoops$Knots" "low" "[I", Cond.fieldLink RX1 34 "FairLoops$Knots" "open" "[I", Cond.methodLink RX1 71 yX1_closeKnotBegunBy, Cond.instanceMethod yX1_closeKnotBegunBy, Cond.selects RX1 yX1_closeKnotBegunBy yX1_closeKnotBegunBy, Cond.code yX1_closeKnotBegunBy cX1_closeKnotBegunBy 3 none, Cond.fieldLink RX1 19 "FairLoops$Knots" "order" "[I", Cond.methodLink RX1 75 yX1_leave, Cond.instanceMethod yX1_leave, Cond.selects RX1 yX1_leave yX1_leave]
def wsX4_keepFairStates_r3 : List Cond := [Cond.code yX1_leave cX1_leave 2 none, Cond.methodLink RX1 84 yX1_lower, Cond.instanceMethod yX1_lower, Cond.selects RX1 yX1_lower yX1_lower, Cond.code yX1_lower cX1_lower 3 none, Cond.methodLink RX4 176 yX3_take, Cond.instanceMethod yX3_take, Cond.selects RX3 yX3_take yX3_take, Cond.initialized RX3, Cond.code yX3_take cX3_take 6 none, Cond.fieldLink RX3 28 "FairLoops$Knots" "found" "I", Cond.fieldLink RX3 9 "FairLoops$Sums" "size" "[I", Cond.fieldLink RX3 18 "FairLoops$Sums" "ableInAll" "[I", Cond.fieldLink RX3 21 "FairLoops$Sums" "inside" "[I", Cond.fieldLink RX3 24 "FairLoops$Sums" "goesRound" "[Z", Cond.fieldLink RX3 34 "FairLoops$Graph" "states" "I", Cond.fieldLink RX3 39 "FairLoops$Knots" "chosen" "[Z", Cond.fieldLink RX3 42 "FairLoops$Knots" "knotOf" "[I", Cond.fieldLink RX3 45 "FairLoops$Graph" "able" "[I", Cond.fieldLink RX3 52 "FairLoops$Graph" "moves" "I", Cond.fieldLink RX3 55 "FairLoops$Graph" "from" "[I", Cond.fieldLink RX3 58 "FairLoops$Graph" "to" "[I", Cond.fieldLink RX3 61 "FairLoops$Graph" "labelOf" "[I", Cond.methodLink RX3 48 yX3_addState]
def wsX4_keepFairStates_r4 : List Cond := [Cond.instanceMethod yX3_addState, Cond.selects RX3 yX3_addState yX3_addState, Cond.code yX3_addState cX3_addState 4 none, Cond.fieldLink RX3 15 "FairLoops$Sums" "lowest" "[I", Cond.methodLink RX3 64 yX3_addMove, Cond.instanceMethod yX3_addMove, Cond.selects RX3 yX3_addMove yX3_addMove, Cond.code yX3_addMove cX3_addMove 3 none, Cond.methodLink RX4 180 yX4_dropUnfairStates, Cond.instanceMethod yX4_dropUnfairStates, Cond.selects RX4 yX4_dropUnfairStates yX4_dropUnfairStates, Cond.code yX4_dropUnfairStates cX4_dropUnfairStates 5 (some .boolean), Cond.fieldLink RX4 138 "FairLoops$Knots" "chosen" "[Z", Cond.methodLink RX4 184 yX4_isUnfair, Cond.instanceMethod yX4_isUnfair, Cond.selects RX4 yX4_isUnfair yX4_isUnfair, Cond.code yX4_isUnfair cX4_isUnfair 6 (some .boolean), Cond.fieldLink RX4 188 "FairLoops$Knots" "knotOf" "[I", Cond.fieldLink RX4 191 "FairLoops$Sums" "inside" "[I", Cond.fieldLink RX4 194 "FairLoops$Sums" "goesRound" "[Z", Cond.fieldLink RX4 197 "FairLoops$Sums" "ableInAll" "[I", Cond.fieldLink RX4 200 "FairLoops$Graph" "able" "[I"]
def wsX4_keepFairStates : List Cond := .code yX4_keepFairStates cX4_keepFairStates 5 none :: ((wsX4_keepFairStates_r1 ++ (wsX4_keepFairStates_r2 ++ (wsX4_keepFairStates_r3 ++ wsX4_keepFairStates_r4))) ++ wsX40 ++ wsX00 ++ wsX10 ++ wsX30)
def wsX4_alwaysServed_r1 : List Cond := [Cond.fieldLink RX4 30 "FairLoops" "knots" "LFairLoops$Knots;", Cond.fieldLink RX4 106 "FairLoops$Knots" "found" "I", Cond.methodLink RX4 117 yX4_chooseStatesOf, Cond.instanceMethod yX4_chooseStatesOf, Cond.selects RX4 yX4_chooseStatesOf yX4_chooseStatesOf, Cond.initialized RX4, Cond.code yX4_chooseStatesOf cX4_chooseStatesOf 3 none, Cond.fieldLink RX4 23 "FairLoops" "reach" "LFairLoops$Reach;", Cond.fieldLink RX4 10 "FairLoops" "graph" "LFairLoops$Graph;", Cond.fieldLink RX4 51 "FairLoops$Graph" "states" "I", Cond.fieldLink RX4 138 "FairLoops$Knots" "chosen" "[Z", Cond.fieldLink RX4 167 "FairLoops$Reach" "far" "[I", Cond.fieldLink RX4 170 "FairLoops$Graph" "asks" "[I", Cond.methodLink RX4 89 yX2_walk, Cond.instanceMethod yX2_walk, Cond.selects RX2 yX2_walk yX2_walk, Cond.initialized RX2, Cond.code yX2_walk cX2_walk 6 none, Cond.fieldLink RX2 21 "FairLoops$Graph" "states" "I", Cond.fieldLink RX2 15 "FairLoops$Reach" "far" "[I", Cond.fieldLink RX2 27 "FairLoops$Reach" "found" "I", Cond.fieldLink RX2 9 "FairLoops$Reach" "line" "[I", Cond.fieldLink RX2 34 "FairLoops$Graph" "start" "[I", Cond.fieldLink RX2 37 "FairLoops$Graph" "out" "[I"]
def wsX4_alwaysServed_r2 : List Cond := [Cond.fieldLink RX2 40 "FairLoops$Graph" "to" "[I", Cond.methodLink RX2 30 yX2_join, Cond.instanceMethod yX2_join, Cond.selects RX2 yX2_join yX2_join, Cond.code yX2_join cX2_join 4 none, Cond.fieldLink RX2 18 "FairLoops$Reach" "lastMove" "[I", Cond.methodLink RX4 120 yX4_deadEnd, Cond.instanceMethod yX4_deadEnd, Cond.selects RX4 yX4_deadEnd yX4_deadEnd, Cond.code yX4_deadEnd cX4_deadEnd 4 (some .int), Cond.methodLink RX4 206 yX0_isStuck, Cond.instanceMethod yX0_isStuck, Cond.selects RX0 yX0_isStuck yX0_isStuck, Cond.initialized RX0, Cond.code yX0_isStuck cX0_isStuck 2 (some .boolean), Cond.fieldLink RX0 15 "FairLoops$Graph" "isEnd" "[Z", Cond.fieldLink RX0 34 "FairLoops$Graph" "start" "[I", Cond.methodLink RX4 164 yX4_keepFairStates, Cond.instanceMethod yX4_keepFairStates, Cond.selects RX4 yX4_keepFairStates yX4_keepFairStates, Cond.code yX4_keepFairStates cX4_keepFairStates 5 none, Cond.fieldLink RX4 37 "FairLoops" "sums" "LFairLoops$Sums;", Cond.methodLink RX4 151 yX4_labelsOfKind, Cond.instanceMethod yX4_labelsOfKind]
def wsX4_alwaysServed_r3 : List Cond := [Cond.selects RX4 yX4_labelsOfKind yX4_labelsOfKind, Cond.code yX4_labelsOfKind cX4_labelsOfKind 4 (some .int), Cond.fieldLink RX4 16 "FairLoops" "kinds" "[I", Cond.methodLink RX4 173 yX1_find, Cond.instanceMethod yX1_find, Cond.selects RX1 yX1_find yX1_find, Cond.initialized RX1, Cond.code yX1_find cX1_find 3 none, Cond.fieldLink RX1 37 "FairLoops$Knots" "found" "I", Cond.fieldLink RX1 41 "FairLoops$Knots" "closed" "I", Cond.fieldLink RX1 44 "FairLoops$Knots" "entries" "I", Cond.fieldLink RX1 47 "FairLoops$Knots" "depth" "I", Cond.fieldLink RX1 50 "FairLoops$Knots" "opened" "I", Cond.fieldLink RX1 53 "FairLoops$Graph" "states" "I", Cond.fieldLink RX1 22 "FairLoops$Knots" "entered" "[I", Cond.fieldLink RX1 15 "FairLoops$Knots" "knotOf" "[I", Cond.fieldLink RX1 9 "FairLoops$Knots" "chosen" "[Z", Cond.methodLink RX1 58 yX1_walkFrom, Cond.instanceMethod yX1_walkFrom, Cond.selects RX1 yX1_walkFrom yX1_walkFrom, Cond.code yX1_walkFrom cX1_walkFrom 7 none, Cond.fieldLink RX1 65 "FairLoops$Graph" "moves" "I", Cond.fieldLink RX1 31 "FairLoops$Knots" "path" "[I", Cond.fieldLink RX1 28 "FairLoops$Knots" "nextOut" "[I"]
def wsX4_alwaysServed_r4 : List Cond := [Cond.fieldLink RX1 68 "FairLoops$Graph" "start" "[I", Cond.fieldLink RX1 78 "FairLoops$Graph" "to" "[I", Cond.fieldLink RX1 81 "FairLoops$Graph" "out" "[I", Cond.methodLink RX1 62 yX1_enter, Cond.instanceMethod yX1_enter, Cond.selects RX1 yX1_enter yX1_enter, Cond.code yX1_enter cX1_enter 3 none, Cond.fieldLink RX1 25 "FairLoops$Knots" "low" "[I", Cond.fieldLink RX1 34 "FairLoops$Knots" "open" "[I", Cond.methodLink RX1 71 yX1_closeKnotBegunBy, Cond.instanceMethod yX1_closeKnotBegunBy, Cond.selects RX1 yX1_closeKnotBegunBy yX1_closeKnotBegunBy, Cond.code yX1_closeKnotBegunBy cX1_closeKnotBegunBy 3 none, Cond.fieldLink RX1 19 "FairLoops$Knots" "order" "[I", Cond.methodLink RX1 75 yX1_leave, Cond.instanceMethod yX1_leave, Cond.selects RX1 yX1_leave yX1_leave, Cond.code yX1_leave cX1_leave 2 none, Cond.methodLink RX1 84 yX1_lower, Cond.instanceMethod yX1_lower, Cond.selects RX1 yX1_lower yX1_lower, Cond.code yX1_lower cX1_lower 3 none, Cond.methodLink RX4 176 yX3_take, Cond.instanceMethod yX3_take]
def wsX4_alwaysServed_r5 : List Cond := [Cond.selects RX3 yX3_take yX3_take, Cond.initialized RX3, Cond.code yX3_take cX3_take 6 none, Cond.fieldLink RX3 28 "FairLoops$Knots" "found" "I", Cond.fieldLink RX3 9 "FairLoops$Sums" "size" "[I", Cond.fieldLink RX3 18 "FairLoops$Sums" "ableInAll" "[I", Cond.fieldLink RX3 21 "FairLoops$Sums" "inside" "[I", Cond.fieldLink RX3 24 "FairLoops$Sums" "goesRound" "[Z", Cond.fieldLink RX3 34 "FairLoops$Graph" "states" "I", Cond.fieldLink RX3 39 "FairLoops$Knots" "chosen" "[Z", Cond.fieldLink RX3 42 "FairLoops$Knots" "knotOf" "[I", Cond.fieldLink RX3 45 "FairLoops$Graph" "able" "[I", Cond.fieldLink RX3 52 "FairLoops$Graph" "moves" "I", Cond.fieldLink RX3 55 "FairLoops$Graph" "from" "[I", Cond.fieldLink RX3 58 "FairLoops$Graph" "to" "[I", Cond.fieldLink RX3 61 "FairLoops$Graph" "labelOf" "[I", Cond.methodLink RX3 48 yX3_addState, Cond.instanceMethod yX3_addState, Cond.selects RX3 yX3_addState yX3_addState, Cond.code yX3_addState cX3_addState 4 none, Cond.fieldLink RX3 15 "FairLoops$Sums" "lowest" "[I", Cond.methodLink RX3 64 yX3_addMove, Cond.instanceMethod yX3_addMove, Cond.selects RX3 yX3_addMove yX3_addMove]
def wsX4_alwaysServed_r6 : List Cond := [Cond.code yX3_addMove cX3_addMove 3 none, Cond.methodLink RX4 180 yX4_dropUnfairStates, Cond.instanceMethod yX4_dropUnfairStates, Cond.selects RX4 yX4_dropUnfairStates yX4_dropUnfairStates, Cond.code yX4_dropUnfairStates cX4_dropUnfairStates 5 (some .boolean), Cond.methodLink RX4 184 yX4_isUnfair, Cond.instanceMethod yX4_isUnfair, Cond.selects RX4 yX4_isUnfair yX4_isUnfair, Cond.code yX4_isUnfair cX4_isUnfair 6 (some .boolean), Cond.fieldLink RX4 188 "FairLoops$Knots" "knotOf" "[I", Cond.fieldLink RX4 191 "FairLoops$Sums" "inside" "[I", Cond.fieldLink RX4 194 "FairLoops$Sums" "goesRound" "[Z", Cond.fieldLink RX4 197 "FairLoops$Sums" "ableInAll" "[I", Cond.fieldLink RX4 200 "FairLoops$Graph" "able" "[I"]
def wsX4_alwaysServed : List Cond := .code yX4_alwaysServed cX4_alwaysServed 2 (some .boolean) :: ((wsX4_alwaysServed_r1 ++ (wsX4_alwaysServed_r2 ++ (wsX4_alwaysServed_r3 ++ (wsX4_alwaysServed_r4 ++ (wsX4_alwaysServed_r5 ++ wsX4_alwaysServed_r6))))) ++ wsX40 ++ wsX10 ++ wsX00 ++ wsX20 ++ wsX30)
def wsX4_live_r1 : List Cond := [Cond.methodLink RX4 96 yX4_refuseWrongAsk, Cond.static yX4_refuseWrongAsk, Cond.initialized RX4, Cond.code yX4_refuseWrongAsk cX4_refuseWrongAsk 1 none, Cond.classLink RX4 44 "java/lang/IllegalArgumentException", Cond.initialized "java/lang/IllegalArgumentException", Cond.methodLink RX4 100 yX4_alwaysServed, Cond.instanceMethod yX4_alwaysServed, Cond.selects RX4 yX4_alwaysServed yX4_alwaysServed, Cond.code yX4_alwaysServed cX4_alwaysServed 2 (some .boolean), Cond.fieldLink RX4 30 "FairLoops" "knots" "LFairLoops$Knots;", Cond.fieldLink RX4 106 "FairLoops$Knots" "found" "I", Cond.methodLink RX4 117 yX4_chooseStatesOf, Cond.instanceMethod yX4_chooseStatesOf, Cond.selects RX4 yX4_chooseStatesOf yX4_chooseStatesOf, Cond.code yX4_chooseStatesOf cX4_chooseStatesOf 3 none, Cond.fieldLink RX4 23 "FairLoops" "reach" "LFairLoops$Reach;", Cond.fieldLink RX4 10 "FairLoops" "graph" "LFairLoops$Graph;", Cond.fieldLink RX4 51 "FairLoops$Graph" "states" "I", Cond.fieldLink RX4 138 "FairLoops$Knots" "chosen" "[Z", Cond.fieldLink RX4 167 "FairLoops$Reach" "far" "[I", Cond.fieldLink RX4 170 "FairLoops$Graph" "asks" "[I", Cond.methodLink RX4 89 yX2_walk, Cond.instanceMethod yX2_walk]
def wsX4_live_r2 : List Cond := [Cond.selects RX2 yX2_walk yX2_walk, Cond.initialized RX2, Cond.code yX2_walk cX2_walk 6 none, Cond.fieldLink RX2 21 "FairLoops$Graph" "states" "I", Cond.fieldLink RX2 15 "FairLoops$Reach" "far" "[I", Cond.fieldLink RX2 27 "FairLoops$Reach" "found" "I", Cond.fieldLink RX2 9 "FairLoops$Reach" "line" "[I", Cond.fieldLink RX2 34 "FairLoops$Graph" "start" "[I", Cond.fieldLink RX2 37 "FairLoops$Graph" "out" "[I", Cond.fieldLink RX2 40 "FairLoops$Graph" "to" "[I", Cond.methodLink RX2 30 yX2_join, Cond.instanceMethod yX2_join, Cond.selects RX2 yX2_join yX2_join, Cond.code yX2_join cX2_join 4 none, Cond.fieldLink RX2 18 "FairLoops$Reach" "lastMove" "[I", Cond.methodLink RX4 120 yX4_deadEnd, Cond.instanceMethod yX4_deadEnd, Cond.selects RX4 yX4_deadEnd yX4_deadEnd, Cond.code yX4_deadEnd cX4_deadEnd 4 (some .int), Cond.methodLink RX4 206 yX0_isStuck, Cond.instanceMethod yX0_isStuck, Cond.selects RX0 yX0_isStuck yX0_isStuck, Cond.initialized RX0, Cond.code yX0_isStuck cX0_isStuck 2 (some .boolean)]
def wsX4_live_r3 : List Cond := [Cond.fieldLink RX0 15 "FairLoops$Graph" "isEnd" "[Z", Cond.fieldLink RX0 34 "FairLoops$Graph" "start" "[I", Cond.methodLink RX4 164 yX4_keepFairStates, Cond.instanceMethod yX4_keepFairStates, Cond.selects RX4 yX4_keepFairStates yX4_keepFairStates, Cond.code yX4_keepFairStates cX4_keepFairStates 5 none, Cond.fieldLink RX4 37 "FairLoops" "sums" "LFairLoops$Sums;", Cond.methodLink RX4 151 yX4_labelsOfKind, Cond.instanceMethod yX4_labelsOfKind, Cond.selects RX4 yX4_labelsOfKind yX4_labelsOfKind, Cond.code yX4_labelsOfKind cX4_labelsOfKind 4 (some .int), Cond.fieldLink RX4 16 "FairLoops" "kinds" "[I", Cond.methodLink RX4 173 yX1_find, Cond.instanceMethod yX1_find, Cond.selects RX1 yX1_find yX1_find, Cond.initialized RX1, Cond.code yX1_find cX1_find 3 none, Cond.fieldLink RX1 37 "FairLoops$Knots" "found" "I", Cond.fieldLink RX1 41 "FairLoops$Knots" "closed" "I", Cond.fieldLink RX1 44 "FairLoops$Knots" "entries" "I", Cond.fieldLink RX1 47 "FairLoops$Knots" "depth" "I", Cond.fieldLink RX1 50 "FairLoops$Knots" "opened" "I", Cond.fieldLink RX1 53 "FairLoops$Graph" "states" "I", Cond.fieldLink RX1 22 "FairLoops$Knots" "entered" "[I"]
def wsX4_live_r4 : List Cond := [Cond.fieldLink RX1 15 "FairLoops$Knots" "knotOf" "[I", Cond.fieldLink RX1 9 "FairLoops$Knots" "chosen" "[Z", Cond.methodLink RX1 58 yX1_walkFrom, Cond.instanceMethod yX1_walkFrom, Cond.selects RX1 yX1_walkFrom yX1_walkFrom, Cond.code yX1_walkFrom cX1_walkFrom 7 none, Cond.fieldLink RX1 65 "FairLoops$Graph" "moves" "I", Cond.fieldLink RX1 31 "FairLoops$Knots" "path" "[I", Cond.fieldLink RX1 28 "FairLoops$Knots" "nextOut" "[I", Cond.fieldLink RX1 68 "FairLoops$Graph" "start" "[I", Cond.fieldLink RX1 78 "FairLoops$Graph" "to" "[I", Cond.fieldLink RX1 81 "FairLoops$Graph" "out" "[I", Cond.methodLink RX1 62 yX1_enter, Cond.instanceMethod yX1_enter, Cond.selects RX1 yX1_enter yX1_enter, Cond.code yX1_enter cX1_enter 3 none, Cond.fieldLink RX1 25 "FairLoops$Knots" "low" "[I", Cond.fieldLink RX1 34 "FairLoops$Knots" "open" "[I", Cond.methodLink RX1 71 yX1_closeKnotBegunBy, Cond.instanceMethod yX1_closeKnotBegunBy, Cond.selects RX1 yX1_closeKnotBegunBy yX1_closeKnotBegunBy, Cond.code yX1_closeKnotBegunBy cX1_closeKnotBegunBy 3 none, Cond.fieldLink RX1 19 "FairLoops$Knots" "order" "[I", Cond.methodLink RX1 75 yX1_leave]
def wsX4_live_r5 : List Cond := [Cond.instanceMethod yX1_leave, Cond.selects RX1 yX1_leave yX1_leave, Cond.code yX1_leave cX1_leave 2 none, Cond.methodLink RX1 84 yX1_lower, Cond.instanceMethod yX1_lower, Cond.selects RX1 yX1_lower yX1_lower, Cond.code yX1_lower cX1_lower 3 none, Cond.methodLink RX4 176 yX3_take, Cond.instanceMethod yX3_take, Cond.selects RX3 yX3_take yX3_take, Cond.initialized RX3, Cond.code yX3_take cX3_take 6 none, Cond.fieldLink RX3 28 "FairLoops$Knots" "found" "I", Cond.fieldLink RX3 9 "FairLoops$Sums" "size" "[I", Cond.fieldLink RX3 18 "FairLoops$Sums" "ableInAll" "[I", Cond.fieldLink RX3 21 "FairLoops$Sums" "inside" "[I", Cond.fieldLink RX3 24 "FairLoops$Sums" "goesRound" "[Z", Cond.fieldLink RX3 34 "FairLoops$Graph" "states" "I", Cond.fieldLink RX3 39 "FairLoops$Knots" "chosen" "[Z", Cond.fieldLink RX3 42 "FairLoops$Knots" "knotOf" "[I", Cond.fieldLink RX3 45 "FairLoops$Graph" "able" "[I", Cond.fieldLink RX3 52 "FairLoops$Graph" "moves" "I", Cond.fieldLink RX3 55 "FairLoops$Graph" "from" "[I", Cond.fieldLink RX3 58 "FairLoops$Graph" "to" "[I"]
def wsX4_live_r6 : List Cond := [Cond.fieldLink RX3 61 "FairLoops$Graph" "labelOf" "[I", Cond.methodLink RX3 48 yX3_addState, Cond.instanceMethod yX3_addState, Cond.selects RX3 yX3_addState yX3_addState, Cond.code yX3_addState cX3_addState 4 none, Cond.fieldLink RX3 15 "FairLoops$Sums" "lowest" "[I", Cond.methodLink RX3 64 yX3_addMove, Cond.instanceMethod yX3_addMove, Cond.selects RX3 yX3_addMove yX3_addMove, Cond.code yX3_addMove cX3_addMove 3 none, Cond.methodLink RX4 180 yX4_dropUnfairStates, Cond.instanceMethod yX4_dropUnfairStates, Cond.selects RX4 yX4_dropUnfairStates yX4_dropUnfairStates, Cond.code yX4_dropUnfairStates cX4_dropUnfairStates 5 (some .boolean), Cond.methodLink RX4 184 yX4_isUnfair, Cond.instanceMethod yX4_isUnfair, Cond.selects RX4 yX4_isUnfair yX4_isUnfair, Cond.code yX4_isUnfair cX4_isUnfair 6 (some .boolean), Cond.fieldLink RX4 188 "FairLoops$Knots" "knotOf" "[I", Cond.fieldLink RX4 191 "FairLoops$Sums" "inside" "[I", Cond.fieldLink RX4 194 "FairLoops$Sums" "goesRound" "[Z", Cond.fieldLink RX4 197 "FairLoops$Sums" "ableInAll" "[I", Cond.fieldLink RX4 200 "FairLoops$Graph" "able" "[I"]
def wsX4_live : List Cond := .code yX4_live cX4_live 2 (some .boolean) :: ((wsX4_live_r1 ++ (wsX4_live_r2 ++ (wsX4_live_r3 ++ (wsX4_live_r4 ++ (wsX4_live_r5 ++ wsX4_live_r6))))) ++ wsX40 ++ wsX10 ++ wsX00 ++ wsX20 ++ wsX30 ++ (vx_atS RX4 48 "java/lang/IllegalArgumentException" ["java/lang/RuntimeException", "java/lang/Exception"]).filter goodWord)
def wsX4_findFairParts_r1 : List Cond := [Cond.methodLink RX4 117 yX4_chooseStatesOf, Cond.instanceMethod yX4_chooseStatesOf, Cond.selects RX4 yX4_chooseStatesOf yX4_chooseStatesOf, Cond.initialized RX4, Cond.code yX4_chooseStatesOf cX4_chooseStatesOf 3 none, Cond.fieldLink RX4 23 "FairLoops" "reach" "LFairLoops$Reach;", Cond.fieldLink RX4 10 "FairLoops" "graph" "LFairLoops$Graph;", Cond.fieldLink RX4 51 "FairLoops$Graph" "states" "I", Cond.fieldLink RX4 30 "FairLoops" "knots" "LFairLoops$Knots;", Cond.fieldLink RX4 138 "FairLoops$Knots" "chosen" "[Z", Cond.fieldLink RX4 167 "FairLoops$Reach" "far" "[I", Cond.fieldLink RX4 170 "FairLoops$Graph" "asks" "[I", Cond.methodLink RX4 89 yX2_walk, Cond.instanceMethod yX2_walk, Cond.selects RX2 yX2_walk yX2_walk, Cond.initialized RX2, Cond.code yX2_walk cX2_walk 6 none, Cond.fieldLink RX2 21 "FairLoops$Graph" "states" "I", Cond.fieldLink RX2 15 "FairLoops$Reach" "far" "[I", Cond.fieldLink RX2 27 "FairLoops$Reach" "found" "I", Cond.fieldLink RX2 9 "FairLoops$Reach" "line" "[I", Cond.fieldLink RX2 34 "FairLoops$Graph" "start" "[I", Cond.fieldLink RX2 37 "FairLoops$Graph" "out" "[I", Cond.fieldLink RX2 40 "FairLoops$Graph" "to" "[I"]
def wsX4_findFairParts_r2 : List Cond := [Cond.methodLink RX2 30 yX2_join, Cond.instanceMethod yX2_join, Cond.selects RX2 yX2_join yX2_join, Cond.code yX2_join cX2_join 4 none, Cond.fieldLink RX2 18 "FairLoops$Reach" "lastMove" "[I", Cond.methodLink RX4 164 yX4_keepFairStates, Cond.instanceMethod yX4_keepFairStates, Cond.selects RX4 yX4_keepFairStates yX4_keepFairStates, Cond.code yX4_keepFairStates cX4_keepFairStates 5 none, Cond.fieldLink RX4 37 "FairLoops" "sums" "LFairLoops$Sums;", Cond.methodLink RX4 151 yX4_labelsOfKind, Cond.instanceMethod yX4_labelsOfKind, Cond.selects RX4 yX4_labelsOfKind yX4_labelsOfKind, Cond.code yX4_labelsOfKind cX4_labelsOfKind 4 (some .int), Cond.fieldLink RX4 16 "FairLoops" "kinds" "[I", Cond.methodLink RX4 173 yX1_find, Cond.instanceMethod yX1_find, Cond.selects RX1 yX1_find yX1_find, Cond.initialized RX1, Cond.code yX1_find cX1_find 3 none, Cond.fieldLink RX1 37 "FairLoops$Knots" "found" "I", Cond.fieldLink RX1 41 "FairLoops$Knots" "closed" "I", Cond.fieldLink RX1 44 "FairLoops$Knots" "entries" "I", Cond.fieldLink RX1 47 "FairLoops$Knots" "depth" "I"]
def wsX4_findFairParts_r3 : List Cond := [Cond.fieldLink RX1 50 "FairLoops$Knots" "opened" "I", Cond.fieldLink RX1 53 "FairLoops$Graph" "states" "I", Cond.fieldLink RX1 22 "FairLoops$Knots" "entered" "[I", Cond.fieldLink RX1 15 "FairLoops$Knots" "knotOf" "[I", Cond.fieldLink RX1 9 "FairLoops$Knots" "chosen" "[Z", Cond.methodLink RX1 58 yX1_walkFrom, Cond.instanceMethod yX1_walkFrom, Cond.selects RX1 yX1_walkFrom yX1_walkFrom, Cond.code yX1_walkFrom cX1_walkFrom 7 none, Cond.fieldLink RX1 65 "FairLoops$Graph" "moves" "I", Cond.fieldLink RX1 31 "FairLoops$Knots" "path" "[I", Cond.fieldLink RX1 28 "FairLoops$Knots" "nextOut" "[I", Cond.fieldLink RX1 68 "FairLoops$Graph" "start" "[I", Cond.fieldLink RX1 78 "FairLoops$Graph" "to" "[I", Cond.fieldLink RX1 81 "FairLoops$Graph" "out" "[I", Cond.methodLink RX1 62 yX1_enter, Cond.instanceMethod yX1_enter, Cond.selects RX1 yX1_enter yX1_enter, Cond.code yX1_enter cX1_enter 3 none, Cond.fieldLink RX1 25 "FairLoops$Knots" "low" "[I", Cond.fieldLink RX1 34 "FairLoops$Knots" "open" "[I", Cond.methodLink RX1 71 yX1_closeKnotBegunBy, Cond.instanceMethod yX1_closeKnotBegunBy, Cond.selects RX1 yX1_closeKnotBegunBy yX1_closeKnotBegunBy]
def wsX4_findFairParts_r4 : List Cond := [Cond.code yX1_closeKnotBegunBy cX1_closeKnotBegunBy 3 none, Cond.fieldLink RX1 19 "FairLoops$Knots" "order" "[I", Cond.methodLink RX1 75 yX1_leave, Cond.instanceMethod yX1_leave, Cond.selects RX1 yX1_leave yX1_leave, Cond.code yX1_leave cX1_leave 2 none, Cond.methodLink RX1 84 yX1_lower, Cond.instanceMethod yX1_lower, Cond.selects RX1 yX1_lower yX1_lower, Cond.code yX1_lower cX1_lower 3 none, Cond.methodLink RX4 176 yX3_take, Cond.instanceMethod yX3_take, Cond.selects RX3 yX3_take yX3_take, Cond.initialized RX3, Cond.code yX3_take cX3_take 6 none, Cond.fieldLink RX3 28 "FairLoops$Knots" "found" "I", Cond.fieldLink RX3 9 "FairLoops$Sums" "size" "[I", Cond.fieldLink RX3 18 "FairLoops$Sums" "ableInAll" "[I", Cond.fieldLink RX3 21 "FairLoops$Sums" "inside" "[I", Cond.fieldLink RX3 24 "FairLoops$Sums" "goesRound" "[Z", Cond.fieldLink RX3 34 "FairLoops$Graph" "states" "I", Cond.fieldLink RX3 39 "FairLoops$Knots" "chosen" "[Z", Cond.fieldLink RX3 42 "FairLoops$Knots" "knotOf" "[I", Cond.fieldLink RX3 45 "FairLoops$Graph" "able" "[I"]
def wsX4_findFairParts_r5 : List Cond := [Cond.fieldLink RX3 52 "FairLoops$Graph" "moves" "I", Cond.fieldLink RX3 55 "FairLoops$Graph" "from" "[I", Cond.fieldLink RX3 58 "FairLoops$Graph" "to" "[I", Cond.fieldLink RX3 61 "FairLoops$Graph" "labelOf" "[I", Cond.methodLink RX3 48 yX3_addState, Cond.instanceMethod yX3_addState, Cond.selects RX3 yX3_addState yX3_addState, Cond.code yX3_addState cX3_addState 4 none, Cond.fieldLink RX3 15 "FairLoops$Sums" "lowest" "[I", Cond.methodLink RX3 64 yX3_addMove, Cond.instanceMethod yX3_addMove, Cond.selects RX3 yX3_addMove yX3_addMove, Cond.code yX3_addMove cX3_addMove 3 none, Cond.methodLink RX4 180 yX4_dropUnfairStates, Cond.instanceMethod yX4_dropUnfairStates, Cond.selects RX4 yX4_dropUnfairStates yX4_dropUnfairStates, Cond.code yX4_dropUnfairStates cX4_dropUnfairStates 5 (some .boolean), Cond.methodLink RX4 184 yX4_isUnfair, Cond.instanceMethod yX4_isUnfair, Cond.selects RX4 yX4_isUnfair yX4_isUnfair, Cond.code yX4_isUnfair cX4_isUnfair 6 (some .boolean), Cond.fieldLink RX4 188 "FairLoops$Knots" "knotOf" "[I", Cond.fieldLink RX4 191 "FairLoops$Sums" "inside" "[I", Cond.fieldLink RX4 194 "FairLoops$Sums" "goesRound" "[Z"]
def wsX4_findFairParts_r6 : List Cond := [Cond.fieldLink RX4 197 "FairLoops$Sums" "ableInAll" "[I", Cond.fieldLink RX4 200 "FairLoops$Graph" "able" "[I"]
def wsX4_findFairParts : List Cond := .code yX4_findFairParts cX4_findFairParts 2 none :: ((wsX4_findFairParts_r1 ++ (wsX4_findFairParts_r2 ++ (wsX4_findFairParts_r3 ++ (wsX4_findFairParts_r4 ++ (wsX4_findFairParts_r5 ++ wsX4_findFairParts_r6))))) ++ wsX40 ++ wsX00 ++ wsX10 ++ wsX20 ++ wsX30)
def wsX4_parts_r1 : List Cond := [Cond.fieldLink RX4 30 "FairLoops" "knots" "LFairLoops$Knots;", Cond.fieldLink RX4 106 "FairLoops$Knots" "found" "I", Cond.methodLink RX4 96 yX4_refuseWrongAsk, Cond.static yX4_refuseWrongAsk, Cond.initialized RX4, Cond.code yX4_refuseWrongAsk cX4_refuseWrongAsk 1 none, Cond.classLink RX4 44 "java/lang/IllegalArgumentException", Cond.initialized "java/lang/IllegalArgumentException", Cond.methodLink RX4 103 yX4_findFairParts, Cond.instanceMethod yX4_findFairParts, Cond.selects RX4 yX4_findFairParts yX4_findFairParts, Cond.code yX4_findFairParts cX4_findFairParts 2 none, Cond.methodLink RX4 117 yX4_chooseStatesOf, Cond.instanceMethod yX4_chooseStatesOf, Cond.selects RX4 yX4_chooseStatesOf yX4_chooseStatesOf, Cond.code yX4_chooseStatesOf cX4_chooseStatesOf 3 none, Cond.fieldLink RX4 23 "FairLoops" "reach" "LFairLoops$Reach;", Cond.fieldLink RX4 10 "FairLoops" "graph" "LFairLoops$Graph;", Cond.fieldLink RX4 51 "FairLoops$Graph" "states" "I", Cond.fieldLink RX4 138 "FairLoops$Knots" "chosen" "[Z", Cond.fieldLink RX4 167 "FairLoops$Reach" "far" "[I", Cond.fieldLink RX4 170 "FairLoops$Graph" "asks" "[I", Cond.methodLink RX4 89 yX2_walk, Cond.instanceMethod yX2_walk]
def wsX4_parts_r2 : List Cond := [Cond.selects RX2 yX2_walk yX2_walk, Cond.initialized RX2, Cond.code yX2_walk cX2_walk 6 none, Cond.fieldLink RX2 21 "FairLoops$Graph" "states" "I", Cond.fieldLink RX2 15 "FairLoops$Reach" "far" "[I", Cond.fieldLink RX2 27 "FairLoops$Reach" "found" "I", Cond.fieldLink RX2 9 "FairLoops$Reach" "line" "[I", Cond.fieldLink RX2 34 "FairLoops$Graph" "start" "[I", Cond.fieldLink RX2 37 "FairLoops$Graph" "out" "[I", Cond.fieldLink RX2 40 "FairLoops$Graph" "to" "[I", Cond.methodLink RX2 30 yX2_join, Cond.instanceMethod yX2_join, Cond.selects RX2 yX2_join yX2_join, Cond.code yX2_join cX2_join 4 none, Cond.fieldLink RX2 18 "FairLoops$Reach" "lastMove" "[I", Cond.methodLink RX4 164 yX4_keepFairStates, Cond.instanceMethod yX4_keepFairStates, Cond.selects RX4 yX4_keepFairStates yX4_keepFairStates, Cond.code yX4_keepFairStates cX4_keepFairStates 5 none, Cond.fieldLink RX4 37 "FairLoops" "sums" "LFairLoops$Sums;", Cond.methodLink RX4 151 yX4_labelsOfKind, Cond.instanceMethod yX4_labelsOfKind, Cond.selects RX4 yX4_labelsOfKind yX4_labelsOfKind, Cond.code yX4_labelsOfKind cX4_labelsOfKind 4 (some .int)]
def wsX4_parts_r3 : List Cond := [Cond.fieldLink RX4 16 "FairLoops" "kinds" "[I", Cond.methodLink RX4 173 yX1_find, Cond.instanceMethod yX1_find, Cond.selects RX1 yX1_find yX1_find, Cond.initialized RX1, Cond.code yX1_find cX1_find 3 none, Cond.fieldLink RX1 37 "FairLoops$Knots" "found" "I", Cond.fieldLink RX1 41 "FairLoops$Knots" "closed" "I", Cond.fieldLink RX1 44 "FairLoops$Knots" "entries" "I", Cond.fieldLink RX1 47 "FairLoops$Knots" "depth" "I", Cond.fieldLink RX1 50 "FairLoops$Knots" "opened" "I", Cond.fieldLink RX1 53 "FairLoops$Graph" "states" "I", Cond.fieldLink RX1 22 "FairLoops$Knots" "entered" "[I", Cond.fieldLink RX1 15 "FairLoops$Knots" "knotOf" "[I", Cond.fieldLink RX1 9 "FairLoops$Knots" "chosen" "[Z", Cond.methodLink RX1 58 yX1_walkFrom, Cond.instanceMethod yX1_walkFrom, Cond.selects RX1 yX1_walkFrom yX1_walkFrom, Cond.code yX1_walkFrom cX1_walkFrom 7 none, Cond.fieldLink RX1 65 "FairLoops$Graph" "moves" "I", Cond.fieldLink RX1 31 "FairLoops$Knots" "path" "[I", Cond.fieldLink RX1 28 "FairLoops$Knots" "nextOut" "[I", Cond.fieldLink RX1 68 "FairLoops$Graph" "start" "[I", Cond.fieldLink RX1 78 "FairLoops$Graph" "to" "[I"]
def wsX4_parts_r4 : List Cond := [Cond.fieldLink RX1 81 "FairLoops$Graph" "out" "[I", Cond.methodLink RX1 62 yX1_enter, Cond.instanceMethod yX1_enter, Cond.selects RX1 yX1_enter yX1_enter, Cond.code yX1_enter cX1_enter 3 none, Cond.fieldLink RX1 25 "FairLoops$Knots" "low" "[I", Cond.fieldLink RX1 34 "FairLoops$Knots" "open" "[I", Cond.methodLink RX1 71 yX1_closeKnotBegunBy, Cond.instanceMethod yX1_closeKnotBegunBy, Cond.selects RX1 yX1_closeKnotBegunBy yX1_closeKnotBegunBy, Cond.code yX1_closeKnotBegunBy cX1_closeKnotBegunBy 3 none, Cond.fieldLink RX1 19 "FairLoops$Knots" "order" "[I", Cond.methodLink RX1 75 yX1_leave, Cond.instanceMethod yX1_leave, Cond.selects RX1 yX1_leave yX1_leave, Cond.code yX1_leave cX1_leave 2 none, Cond.methodLink RX1 84 yX1_lower, Cond.instanceMethod yX1_lower, Cond.selects RX1 yX1_lower yX1_lower, Cond.code yX1_lower cX1_lower 3 none, Cond.methodLink RX4 176 yX3_take, Cond.instanceMethod yX3_take, Cond.selects RX3 yX3_take yX3_take, Cond.initialized RX3]
def wsX4_parts_r5 : List Cond := [Cond.code yX3_take cX3_take 6 none, Cond.fieldLink RX3 28 "FairLoops$Knots" "found" "I", Cond.fieldLink RX3 9 "FairLoops$Sums" "size" "[I", Cond.fieldLink RX3 18 "FairLoops$Sums" "ableInAll" "[I", Cond.fieldLink RX3 21 "FairLoops$Sums" "inside" "[I", Cond.fieldLink RX3 24 "FairLoops$Sums" "goesRound" "[Z", Cond.fieldLink RX3 34 "FairLoops$Graph" "states" "I", Cond.fieldLink RX3 39 "FairLoops$Knots" "chosen" "[Z", Cond.fieldLink RX3 42 "FairLoops$Knots" "knotOf" "[I", Cond.fieldLink RX3 45 "FairLoops$Graph" "able" "[I", Cond.fieldLink RX3 52 "FairLoops$Graph" "moves" "I", Cond.fieldLink RX3 55 "FairLoops$Graph" "from" "[I", Cond.fieldLink RX3 58 "FairLoops$Graph" "to" "[I", Cond.fieldLink RX3 61 "FairLoops$Graph" "labelOf" "[I", Cond.methodLink RX3 48 yX3_addState, Cond.instanceMethod yX3_addState, Cond.selects RX3 yX3_addState yX3_addState, Cond.code yX3_addState cX3_addState 4 none, Cond.fieldLink RX3 15 "FairLoops$Sums" "lowest" "[I", Cond.methodLink RX3 64 yX3_addMove, Cond.instanceMethod yX3_addMove, Cond.selects RX3 yX3_addMove yX3_addMove, Cond.code yX3_addMove cX3_addMove 3 none, Cond.methodLink RX4 180 yX4_dropUnfairStates]
def wsX4_parts_r6 : List Cond := [Cond.instanceMethod yX4_dropUnfairStates, Cond.selects RX4 yX4_dropUnfairStates yX4_dropUnfairStates, Cond.code yX4_dropUnfairStates cX4_dropUnfairStates 5 (some .boolean), Cond.methodLink RX4 184 yX4_isUnfair, Cond.instanceMethod yX4_isUnfair, Cond.selects RX4 yX4_isUnfair yX4_isUnfair, Cond.code yX4_isUnfair cX4_isUnfair 6 (some .boolean), Cond.fieldLink RX4 188 "FairLoops$Knots" "knotOf" "[I", Cond.fieldLink RX4 191 "FairLoops$Sums" "inside" "[I", Cond.fieldLink RX4 194 "FairLoops$Sums" "goesRound" "[Z", Cond.fieldLink RX4 197 "FairLoops$Sums" "ableInAll" "[I", Cond.fieldLink RX4 200 "FairLoops$Graph" "able" "[I"]
def wsX4_parts : List Cond := .code yX4_parts cX4_parts 2 (some .int) :: ((wsX4_parts_r1 ++ (wsX4_parts_r2 ++ (wsX4_parts_r3 ++ (wsX4_parts_r4 ++ (wsX4_parts_r5 ++ wsX4_parts_r6))))) ++ wsX40 ++ wsX10 ++ wsX00 ++ wsX20 ++ wsX30 ++ (vx_atS RX4 48 "java/lang/IllegalArgumentException" ["java/lang/RuntimeException", "java/lang/Exception"]).filter goodWord)
def wsX4_knotByLowestState : List Cond := .code yX4_knotByLowestState cX4_knotByLowestState 4 (some .int) :: ([.fieldLink RX4 10 "FairLoops" "graph" "LFairLoops$Graph;", .fieldLink RX4 51 "FairLoops$Graph" "states" "I", .fieldLink RX4 30 "FairLoops" "knots" "LFairLoops$Knots;", .fieldLink RX4 138 "FairLoops$Knots" "chosen" "[Z", .fieldLink RX4 37 "FairLoops" "sums" "LFairLoops$Sums;", .fieldLink RX4 203 "FairLoops$Sums" "lowest" "[I", .fieldLink RX4 188 "FairLoops$Knots" "knotOf" "[I"] ++ wsX40 ++ wsX00 ++ wsX10 ++ wsX30)
def wsX4_stateOfKnot : List Cond := .code yX4_stateOfKnot cX4_stateOfKnot 5 (some .int) :: ([.fieldLink RX4 10 "FairLoops" "graph" "LFairLoops$Graph;", .fieldLink RX4 51 "FairLoops$Graph" "states" "I", .fieldLink RX4 30 "FairLoops" "knots" "LFairLoops$Knots;", .fieldLink RX4 138 "FairLoops$Knots" "chosen" "[Z", .fieldLink RX4 188 "FairLoops$Knots" "knotOf" "[I"] ++ wsX40 ++ wsX00 ++ wsX10)
def wsX4_part_r1 : List Cond := [Cond.classLink RX4 84 "java/lang/IndexOutOfBoundsException", Cond.initialized "java/lang/IndexOutOfBoundsException", Cond.methodLink RX4 96 yX4_refuseWrongAsk, Cond.static yX4_refuseWrongAsk, Cond.initialized RX4, Cond.code yX4_refuseWrongAsk cX4_refuseWrongAsk 1 none, Cond.classLink RX4 44 "java/lang/IllegalArgumentException", Cond.initialized "java/lang/IllegalArgumentException", Cond.methodLink RX4 103 yX4_findFairParts, Cond.instanceMethod yX4_findFairParts, Cond.selects RX4 yX4_findFairParts yX4_findFairParts, Cond.code yX4_findFairParts cX4_findFairParts 2 none, Cond.methodLink RX4 117 yX4_chooseStatesOf, Cond.instanceMethod yX4_chooseStatesOf, Cond.selects RX4 yX4_chooseStatesOf yX4_chooseStatesOf, Cond.code yX4_chooseStatesOf cX4_chooseStatesOf 3 none, Cond.fieldLink RX4 23 "FairLoops" "reach" "LFairLoops$Reach;", Cond.fieldLink RX4 10 "FairLoops" "graph" "LFairLoops$Graph;", Cond.fieldLink RX4 51 "FairLoops$Graph" "states" "I", Cond.fieldLink RX4 30 "FairLoops" "knots" "LFairLoops$Knots;", Cond.fieldLink RX4 138 "FairLoops$Knots" "chosen" "[Z", Cond.fieldLink RX4 167 "FairLoops$Reach" "far" "[I", Cond.fieldLink RX4 170 "FairLoops$Graph" "asks" "[I", Cond.methodLink RX4 89 yX2_walk]
def wsX4_part_r2 : List Cond := [Cond.instanceMethod yX2_walk, Cond.selects RX2 yX2_walk yX2_walk, Cond.initialized RX2, Cond.code yX2_walk cX2_walk 6 none, Cond.fieldLink RX2 21 "FairLoops$Graph" "states" "I", Cond.fieldLink RX2 15 "FairLoops$Reach" "far" "[I", Cond.fieldLink RX2 27 "FairLoops$Reach" "found" "I", Cond.fieldLink RX2 9 "FairLoops$Reach" "line" "[I", Cond.fieldLink RX2 34 "FairLoops$Graph" "start" "[I", Cond.fieldLink RX2 37 "FairLoops$Graph" "out" "[I", Cond.fieldLink RX2 40 "FairLoops$Graph" "to" "[I", Cond.methodLink RX2 30 yX2_join, Cond.instanceMethod yX2_join, Cond.selects RX2 yX2_join yX2_join, Cond.code yX2_join cX2_join 4 none, Cond.fieldLink RX2 18 "FairLoops$Reach" "lastMove" "[I", Cond.methodLink RX4 164 yX4_keepFairStates, Cond.instanceMethod yX4_keepFairStates, Cond.selects RX4 yX4_keepFairStates yX4_keepFairStates, Cond.code yX4_keepFairStates cX4_keepFairStates 5 none, Cond.fieldLink RX4 37 "FairLoops" "sums" "LFairLoops$Sums;", Cond.methodLink RX4 151 yX4_labelsOfKind, Cond.instanceMethod yX4_labelsOfKind, Cond.selects RX4 yX4_labelsOfKind yX4_labelsOfKind]
def wsX4_part_r3 : List Cond := [Cond.code yX4_labelsOfKind cX4_labelsOfKind 4 (some .int), Cond.fieldLink RX4 16 "FairLoops" "kinds" "[I", Cond.methodLink RX4 173 yX1_find, Cond.instanceMethod yX1_find, Cond.selects RX1 yX1_find yX1_find, Cond.initialized RX1, Cond.code yX1_find cX1_find 3 none, Cond.fieldLink RX1 37 "FairLoops$Knots" "found" "I", Cond.fieldLink RX1 41 "FairLoops$Knots" "closed" "I", Cond.fieldLink RX1 44 "FairLoops$Knots" "entries" "I", Cond.fieldLink RX1 47 "FairLoops$Knots" "depth" "I", Cond.fieldLink RX1 50 "FairLoops$Knots" "opened" "I", Cond.fieldLink RX1 53 "FairLoops$Graph" "states" "I", Cond.fieldLink RX1 22 "FairLoops$Knots" "entered" "[I", Cond.fieldLink RX1 15 "FairLoops$Knots" "knotOf" "[I", Cond.fieldLink RX1 9 "FairLoops$Knots" "chosen" "[Z", Cond.methodLink RX1 58 yX1_walkFrom, Cond.instanceMethod yX1_walkFrom, Cond.selects RX1 yX1_walkFrom yX1_walkFrom, Cond.code yX1_walkFrom cX1_walkFrom 7 none, Cond.fieldLink RX1 65 "FairLoops$Graph" "moves" "I", Cond.fieldLink RX1 31 "FairLoops$Knots" "path" "[I", Cond.fieldLink RX1 28 "FairLoops$Knots" "nextOut" "[I", Cond.fieldLink RX1 68 "FairLoops$Graph" "start" "[I"]
def wsX4_part_r4 : List Cond := [Cond.fieldLink RX1 78 "FairLoops$Graph" "to" "[I", Cond.fieldLink RX1 81 "FairLoops$Graph" "out" "[I", Cond.methodLink RX1 62 yX1_enter, Cond.instanceMethod yX1_enter, Cond.selects RX1 yX1_enter yX1_enter, Cond.code yX1_enter cX1_enter 3 none, Cond.fieldLink RX1 25 "FairLoops$Knots" "low" "[I", Cond.fieldLink RX1 34 "FairLoops$Knots" "open" "[I", Cond.methodLink RX1 71 yX1_closeKnotBegunBy, Cond.instanceMethod yX1_closeKnotBegunBy, Cond.selects RX1 yX1_closeKnotBegunBy yX1_closeKnotBegunBy, Cond.code yX1_closeKnotBegunBy cX1_closeKnotBegunBy 3 none, Cond.fieldLink RX1 19 "FairLoops$Knots" "order" "[I", Cond.methodLink RX1 75 yX1_leave, Cond.instanceMethod yX1_leave, Cond.selects RX1 yX1_leave yX1_leave, Cond.code yX1_leave cX1_leave 2 none, Cond.methodLink RX1 84 yX1_lower, Cond.instanceMethod yX1_lower, Cond.selects RX1 yX1_lower yX1_lower, Cond.code yX1_lower cX1_lower 3 none, Cond.methodLink RX4 176 yX3_take, Cond.instanceMethod yX3_take, Cond.selects RX3 yX3_take yX3_take]
def wsX4_part_r5 : List Cond := [Cond.initialized RX3, Cond.code yX3_take cX3_take 6 none, Cond.fieldLink RX3 28 "FairLoops$Knots" "found" "I", Cond.fieldLink RX3 9 "FairLoops$Sums" "size" "[I", Cond.fieldLink RX3 18 "FairLoops$Sums" "ableInAll" "[I", Cond.fieldLink RX3 21 "FairLoops$Sums" "inside" "[I", Cond.fieldLink RX3 24 "FairLoops$Sums" "goesRound" "[Z", Cond.fieldLink RX3 34 "FairLoops$Graph" "states" "I", Cond.fieldLink RX3 39 "FairLoops$Knots" "chosen" "[Z", Cond.fieldLink RX3 42 "FairLoops$Knots" "knotOf" "[I", Cond.fieldLink RX3 45 "FairLoops$Graph" "able" "[I", Cond.fieldLink RX3 52 "FairLoops$Graph" "moves" "I", Cond.fieldLink RX3 55 "FairLoops$Graph" "from" "[I", Cond.fieldLink RX3 58 "FairLoops$Graph" "to" "[I", Cond.fieldLink RX3 61 "FairLoops$Graph" "labelOf" "[I", Cond.methodLink RX3 48 yX3_addState, Cond.instanceMethod yX3_addState, Cond.selects RX3 yX3_addState yX3_addState, Cond.code yX3_addState cX3_addState 4 none, Cond.fieldLink RX3 15 "FairLoops$Sums" "lowest" "[I", Cond.methodLink RX3 64 yX3_addMove, Cond.instanceMethod yX3_addMove, Cond.selects RX3 yX3_addMove yX3_addMove, Cond.code yX3_addMove cX3_addMove 3 none]
def wsX4_part_r6 : List Cond := [Cond.methodLink RX4 180 yX4_dropUnfairStates, Cond.instanceMethod yX4_dropUnfairStates, Cond.selects RX4 yX4_dropUnfairStates yX4_dropUnfairStates, Cond.code yX4_dropUnfairStates cX4_dropUnfairStates 5 (some .boolean), Cond.methodLink RX4 184 yX4_isUnfair, Cond.instanceMethod yX4_isUnfair, Cond.selects RX4 yX4_isUnfair yX4_isUnfair, Cond.code yX4_isUnfair cX4_isUnfair 6 (some .boolean), Cond.fieldLink RX4 188 "FairLoops$Knots" "knotOf" "[I", Cond.fieldLink RX4 191 "FairLoops$Sums" "inside" "[I", Cond.fieldLink RX4 194 "FairLoops$Sums" "goesRound" "[Z", Cond.fieldLink RX4 197 "FairLoops$Sums" "ableInAll" "[I", Cond.fieldLink RX4 200 "FairLoops$Graph" "able" "[I", Cond.methodLink RX4 107 yX4_knotByLowestState, Cond.instanceMethod yX4_knotByLowestState, Cond.selects RX4 yX4_knotByLowestState yX4_knotByLowestState, Cond.code yX4_knotByLowestState cX4_knotByLowestState 4 (some .int), Cond.fieldLink RX4 203 "FairLoops$Sums" "lowest" "[I", Cond.methodLink RX4 111 yX4_stateOfKnot, Cond.instanceMethod yX4_stateOfKnot, Cond.selects RX4 yX4_stateOfKnot yX4_stateOfKnot, Cond.code yX4_stateOfKnot cX4_stateOfKnot 5 (some .int)]
def wsX4_part : List Cond := .code yX4_part cX4_part 6 (some .int) :: ((wsX4_part_r1 ++ (wsX4_part_r2 ++ (wsX4_part_r3 ++ (wsX4_part_r4 ++ (wsX4_part_r5 ++ wsX4_part_r6))))) ++ wsX40 ++ wsX00 ++ wsX10 ++ wsX20 ++ wsX30 ++ (vx_atS RX4 86 "java/lang/IndexOutOfBoundsException" ["java/lang/RuntimeException", "java/lang/Exception"]).filter goodWord ++ (vx_atS RX4 48 "java/lang/IllegalArgumentException" ["java/lang/RuntimeException", "java/lang/Exception"]).filter goodWord)
def wsX4_dead_r1 : List Cond := [Cond.classLink RX4 84 "java/lang/IndexOutOfBoundsException", Cond.initialized "java/lang/IndexOutOfBoundsException", Cond.methodLink RX4 96 yX4_refuseWrongAsk, Cond.static yX4_refuseWrongAsk, Cond.initialized RX4, Cond.code yX4_refuseWrongAsk cX4_refuseWrongAsk 1 none, Cond.classLink RX4 44 "java/lang/IllegalArgumentException", Cond.initialized "java/lang/IllegalArgumentException", Cond.methodLink RX4 117 yX4_chooseStatesOf, Cond.instanceMethod yX4_chooseStatesOf, Cond.selects RX4 yX4_chooseStatesOf yX4_chooseStatesOf, Cond.code yX4_chooseStatesOf cX4_chooseStatesOf 3 none, Cond.fieldLink RX4 23 "FairLoops" "reach" "LFairLoops$Reach;", Cond.fieldLink RX4 10 "FairLoops" "graph" "LFairLoops$Graph;", Cond.fieldLink RX4 51 "FairLoops$Graph" "states" "I", Cond.fieldLink RX4 30 "FairLoops" "knots" "LFairLoops$Knots;", Cond.fieldLink RX4 138 "FairLoops$Knots" "chosen" "[Z", Cond.fieldLink RX4 167 "FairLoops$Reach" "far" "[I", Cond.fieldLink RX4 170 "FairLoops$Graph" "asks" "[I", Cond.methodLink RX4 89 yX2_walk, Cond.instanceMethod yX2_walk, Cond.selects RX2 yX2_walk yX2_walk, Cond.initialized RX2, Cond.code yX2_walk cX2_walk 6 none]
def wsX4_dead_r2 : List Cond := [Cond.fieldLink RX2 21 "FairLoops$Graph" "states" "I", Cond.fieldLink RX2 15 "FairLoops$Reach" "far" "[I", Cond.fieldLink RX2 27 "FairLoops$Reach" "found" "I", Cond.fieldLink RX2 9 "FairLoops$Reach" "line" "[I", Cond.fieldLink RX2 34 "FairLoops$Graph" "start" "[I", Cond.fieldLink RX2 37 "FairLoops$Graph" "out" "[I", Cond.fieldLink RX2 40 "FairLoops$Graph" "to" "[I", Cond.methodLink RX2 30 yX2_join, Cond.instanceMethod yX2_join, Cond.selects RX2 yX2_join yX2_join, Cond.code yX2_join cX2_join 4 none, Cond.fieldLink RX2 18 "FairLoops$Reach" "lastMove" "[I", Cond.methodLink RX4 120 yX4_deadEnd, Cond.instanceMethod yX4_deadEnd, Cond.selects RX4 yX4_deadEnd yX4_deadEnd, Cond.code yX4_deadEnd cX4_deadEnd 4 (some .int), Cond.methodLink RX4 206 yX0_isStuck, Cond.instanceMethod yX0_isStuck, Cond.selects RX0 yX0_isStuck yX0_isStuck, Cond.initialized RX0, Cond.code yX0_isStuck cX0_isStuck 2 (some .boolean), Cond.fieldLink RX0 15 "FairLoops$Graph" "isEnd" "[Z", Cond.fieldLink RX0 34 "FairLoops$Graph" "start" "[I"]
def wsX4_dead : List Cond := .code yX4_dead cX4_dead 4 (some .int) :: ((wsX4_dead_r1 ++ wsX4_dead_r2) ++ wsX40 ++ wsX00 ++ wsX10 ++ wsX20 ++ (vx_atS RX4 86 "java/lang/IndexOutOfBoundsException" ["java/lang/RuntimeException", "java/lang/Exception"]).filter goodWord ++ (vx_atS RX4 48 "java/lang/IllegalArgumentException" ["java/lang/RuntimeException", "java/lang/Exception"]).filter goodWord)
def wsX4_findParts_r1 : List Cond := [Cond.fieldLink RX4 30 "FairLoops" "knots" "LFairLoops$Knots;", Cond.fieldLink RX4 10 "FairLoops" "graph" "LFairLoops$Graph;", Cond.fieldLink RX4 37 "FairLoops" "sums" "LFairLoops$Sums;", Cond.methodLink RX4 117 yX4_chooseStatesOf, Cond.instanceMethod yX4_chooseStatesOf, Cond.selects RX4 yX4_chooseStatesOf yX4_chooseStatesOf, Cond.initialized RX4, Cond.code yX4_chooseStatesOf cX4_chooseStatesOf 3 none, Cond.fieldLink RX4 23 "FairLoops" "reach" "LFairLoops$Reach;", Cond.fieldLink RX4 51 "FairLoops$Graph" "states" "I", Cond.fieldLink RX4 138 "FairLoops$Knots" "chosen" "[Z", Cond.fieldLink RX4 167 "FairLoops$Reach" "far" "[I", Cond.fieldLink RX4 170 "FairLoops$Graph" "asks" "[I", Cond.methodLink RX4 89 yX2_walk, Cond.instanceMethod yX2_walk, Cond.selects RX2 yX2_walk yX2_walk, Cond.initialized RX2, Cond.code yX2_walk cX2_walk 6 none, Cond.fieldLink RX2 21 "FairLoops$Graph" "states" "I", Cond.fieldLink RX2 15 "FairLoops$Reach" "far" "[I", Cond.fieldLink RX2 27 "FairLoops$Reach" "found" "I", Cond.fieldLink RX2 9 "FairLoops$Reach" "line" "[I", Cond.fieldLink RX2 34 "FairLoops$Graph" "start" "[I", Cond.fieldLink RX2 37 "FairLoops$Graph" "out" "[I"]
def wsX4_findParts_r2 : List Cond := [Cond.fieldLink RX2 40 "FairLoops$Graph" "to" "[I", Cond.methodLink RX2 30 yX2_join, Cond.instanceMethod yX2_join, Cond.selects RX2 yX2_join yX2_join, Cond.code yX2_join cX2_join 4 none, Cond.fieldLink RX2 18 "FairLoops$Reach" "lastMove" "[I", Cond.methodLink RX4 173 yX1_find, Cond.instanceMethod yX1_find, Cond.selects RX1 yX1_find yX1_find, Cond.initialized RX1, Cond.code yX1_find cX1_find 3 none, Cond.fieldLink RX1 37 "FairLoops$Knots" "found" "I", Cond.fieldLink RX1 41 "FairLoops$Knots" "closed" "I", Cond.fieldLink RX1 44 "FairLoops$Knots" "entries" "I", Cond.fieldLink RX1 47 "FairLoops$Knots" "depth" "I", Cond.fieldLink RX1 50 "FairLoops$Knots" "opened" "I", Cond.fieldLink RX1 53 "FairLoops$Graph" "states" "I", Cond.fieldLink RX1 22 "FairLoops$Knots" "entered" "[I", Cond.fieldLink RX1 15 "FairLoops$Knots" "knotOf" "[I", Cond.fieldLink RX1 9 "FairLoops$Knots" "chosen" "[Z", Cond.methodLink RX1 58 yX1_walkFrom, Cond.instanceMethod yX1_walkFrom, Cond.selects RX1 yX1_walkFrom yX1_walkFrom, Cond.code yX1_walkFrom cX1_walkFrom 7 none]
def wsX4_findParts_r3 : List Cond := [Cond.fieldLink RX1 65 "FairLoops$Graph" "moves" "I", Cond.fieldLink RX1 31 "FairLoops$Knots" "path" "[I", Cond.fieldLink RX1 28 "FairLoops$Knots" "nextOut" "[I", Cond.fieldLink RX1 68 "FairLoops$Graph" "start" "[I", Cond.fieldLink RX1 78 "FairLoops$Graph" "to" "[I", Cond.fieldLink RX1 81 "FairLoops$Graph" "out" "[I", Cond.methodLink RX1 62 yX1_enter, Cond.instanceMethod yX1_enter, Cond.selects RX1 yX1_enter yX1_enter, Cond.code yX1_enter cX1_enter 3 none, Cond.fieldLink RX1 25 "FairLoops$Knots" "low" "[I", Cond.fieldLink RX1 34 "FairLoops$Knots" "open" "[I", Cond.methodLink RX1 71 yX1_closeKnotBegunBy, Cond.instanceMethod yX1_closeKnotBegunBy, Cond.selects RX1 yX1_closeKnotBegunBy yX1_closeKnotBegunBy, Cond.code yX1_closeKnotBegunBy cX1_closeKnotBegunBy 3 none, Cond.fieldLink RX1 19 "FairLoops$Knots" "order" "[I", Cond.methodLink RX1 75 yX1_leave, Cond.instanceMethod yX1_leave, Cond.selects RX1 yX1_leave yX1_leave, Cond.code yX1_leave cX1_leave 2 none, Cond.methodLink RX1 84 yX1_lower, Cond.instanceMethod yX1_lower, Cond.selects RX1 yX1_lower yX1_lower]
def wsX4_findParts_r4 : List Cond := [Cond.code yX1_lower cX1_lower 3 none, Cond.methodLink RX4 176 yX3_take, Cond.instanceMethod yX3_take, Cond.selects RX3 yX3_take yX3_take, Cond.initialized RX3, Cond.code yX3_take cX3_take 6 none, Cond.fieldLink RX3 28 "FairLoops$Knots" "found" "I", Cond.fieldLink RX3 9 "FairLoops$Sums" "size" "[I", Cond.fieldLink RX3 18 "FairLoops$Sums" "ableInAll" "[I", Cond.fieldLink RX3 21 "FairLoops$Sums" "inside" "[I", Cond.fieldLink RX3 24 "FairLoops$Sums" "goesRound" "[Z", Cond.fieldLink RX3 34 "FairLoops$Graph" "states" "I", Cond.fieldLink RX3 39 "FairLoops$Knots" "chosen" "[Z", Cond.fieldLink RX3 42 "FairLoops$Knots" "knotOf" "[I", Cond.fieldLink RX3 45 "FairLoops$Graph" "able" "[I", Cond.fieldLink RX3 52 "FairLoops$Graph" "moves" "I", Cond.fieldLink RX3 55 "FairLoops$Graph" "from" "[I", Cond.fieldLink RX3 58 "FairLoops$Graph" "to" "[I", Cond.fieldLink RX3 61 "FairLoops$Graph" "labelOf" "[I", Cond.methodLink RX3 48 yX3_addState, Cond.instanceMethod yX3_addState, Cond.selects RX3 yX3_addState yX3_addState, Cond.code yX3_addState cX3_addState 4 none, Cond.fieldLink RX3 15 "FairLoops$Sums" "lowest" "[I"]
def wsX4_findParts_r5 : List Cond := [Cond.methodLink RX3 64 yX3_addMove, Cond.instanceMethod yX3_addMove, Cond.selects RX3 yX3_addMove yX3_addMove, Cond.code yX3_addMove cX3_addMove 3 none]
def wsX4_findParts : List Cond := .code yX4_findParts cX4_findParts 2 none :: ((wsX4_findParts_r1 ++ (wsX4_findParts_r2 ++ (wsX4_findParts_r3 ++ (wsX4_findParts_r4 ++ wsX4_findParts_r5)))) ++ wsX40 ++ wsX00 ++ wsX10 ++ wsX20 ++ wsX30)
def wsX4_rankAbove : List Cond := .code yX4_rankAbove cX4_rankAbove 5 (some .int) :: ([.fieldLink RX4 10 "FairLoops" "graph" "LFairLoops$Graph;", .fieldLink RX4 218 "FairLoops$Graph" "start" "[I", .fieldLink RX4 221 "FairLoops$Graph" "to" "[I", .fieldLink RX4 224 "FairLoops$Graph" "out" "[I", .fieldLink RX4 30 "FairLoops" "knots" "LFairLoops$Knots;", .fieldLink RX4 138 "FairLoops$Knots" "chosen" "[Z", .fieldLink RX4 41 "FairLoops" "ranks" "[I"] ++ wsX40 ++ wsX00 ++ wsX10)
def wsX4_fillRanks : List Cond := .code yX4_fillRanks cX4_fillRanks 4 (some .int) :: ([.fieldLink RX4 30 "FairLoops" "knots" "LFairLoops$Knots;", .fieldLink RX4 209 "FairLoops$Knots" "closed" "I", .fieldLink RX4 212 "FairLoops$Knots" "order" "[I", .fieldLink RX4 41 "FairLoops" "ranks" "[I", .methodLink RX4 215 yX4_rankAbove, .instanceMethod yX4_rankAbove, .selects RX4 yX4_rankAbove yX4_rankAbove, .initialized RX4, .code yX4_rankAbove cX4_rankAbove 5 (some .int), .fieldLink RX4 10 "FairLoops" "graph" "LFairLoops$Graph;", .fieldLink RX4 218 "FairLoops$Graph" "start" "[I", .fieldLink RX4 221 "FairLoops$Graph" "to" "[I", .fieldLink RX4 224 "FairLoops$Graph" "out" "[I", .fieldLink RX4 138 "FairLoops$Knots" "chosen" "[Z"] ++ wsX40 ++ wsX10 ++ wsX00)
def wsX4_longest_r1 : List Cond := [Cond.fieldLink RX4 37 "FairLoops" "sums" "LFairLoops$Sums;", Cond.fieldLink RX4 30 "FairLoops" "knots" "LFairLoops$Knots;", Cond.fieldLink RX4 106 "FairLoops$Knots" "found" "I", Cond.methodLink RX4 96 yX4_refuseWrongAsk, Cond.static yX4_refuseWrongAsk, Cond.initialized RX4, Cond.code yX4_refuseWrongAsk cX4_refuseWrongAsk 1 none, Cond.classLink RX4 44 "java/lang/IllegalArgumentException", Cond.initialized "java/lang/IllegalArgumentException", Cond.methodLink RX4 125 yX4_findParts, Cond.instanceMethod yX4_findParts, Cond.selects RX4 yX4_findParts yX4_findParts, Cond.code yX4_findParts cX4_findParts 2 none, Cond.fieldLink RX4 10 "FairLoops" "graph" "LFairLoops$Graph;", Cond.methodLink RX4 117 yX4_chooseStatesOf, Cond.instanceMethod yX4_chooseStatesOf, Cond.selects RX4 yX4_chooseStatesOf yX4_chooseStatesOf, Cond.code yX4_chooseStatesOf cX4_chooseStatesOf 3 none, Cond.fieldLink RX4 23 "FairLoops" "reach" "LFairLoops$Reach;", Cond.fieldLink RX4 51 "FairLoops$Graph" "states" "I", Cond.fieldLink RX4 138 "FairLoops$Knots" "chosen" "[Z", Cond.fieldLink RX4 167 "FairLoops$Reach" "far" "[I", Cond.fieldLink RX4 170 "FairLoops$Graph" "asks" "[I", Cond.methodLink RX4 89 yX2_walk]
def wsX4_longest_r2 : List Cond := [Cond.instanceMethod yX2_walk, Cond.selects RX2 yX2_walk yX2_walk, Cond.initialized RX2, Cond.code yX2_walk cX2_walk 6 none, Cond.fieldLink RX2 21 "FairLoops$Graph" "states" "I", Cond.fieldLink RX2 15 "FairLoops$Reach" "far" "[I", Cond.fieldLink RX2 27 "FairLoops$Reach" "found" "I", Cond.fieldLink RX2 9 "FairLoops$Reach" "line" "[I", Cond.fieldLink RX2 34 "FairLoops$Graph" "start" "[I", Cond.fieldLink RX2 37 "FairLoops$Graph" "out" "[I", Cond.fieldLink RX2 40 "FairLoops$Graph" "to" "[I", Cond.methodLink RX2 30 yX2_join, Cond.instanceMethod yX2_join, Cond.selects RX2 yX2_join yX2_join, Cond.code yX2_join cX2_join 4 none, Cond.fieldLink RX2 18 "FairLoops$Reach" "lastMove" "[I", Cond.methodLink RX4 173 yX1_find, Cond.instanceMethod yX1_find, Cond.selects RX1 yX1_find yX1_find, Cond.initialized RX1, Cond.code yX1_find cX1_find 3 none, Cond.fieldLink RX1 37 "FairLoops$Knots" "found" "I", Cond.fieldLink RX1 41 "FairLoops$Knots" "closed" "I", Cond.fieldLink RX1 44 "FairLoops$Knots" "entries" "I"]
def wsX4_longest_r3 : List Cond := [Cond.fieldLink RX1 47 "FairLoops$Knots" "depth" "I", Cond.fieldLink RX1 50 "FairLoops$Knots" "opened" "I", Cond.fieldLink RX1 53 "FairLoops$Graph" "states" "I", Cond.fieldLink RX1 22 "FairLoops$Knots" "entered" "[I", Cond.fieldLink RX1 15 "FairLoops$Knots" "knotOf" "[I", Cond.fieldLink RX1 9 "FairLoops$Knots" "chosen" "[Z", Cond.methodLink RX1 58 yX1_walkFrom, Cond.instanceMethod yX1_walkFrom, Cond.selects RX1 yX1_walkFrom yX1_walkFrom, Cond.code yX1_walkFrom cX1_walkFrom 7 none, Cond.fieldLink RX1 65 "FairLoops$Graph" "moves" "I", Cond.fieldLink RX1 31 "FairLoops$Knots" "path" "[I", Cond.fieldLink RX1 28 "FairLoops$Knots" "nextOut" "[I", Cond.fieldLink RX1 68 "FairLoops$Graph" "start" "[I", Cond.fieldLink RX1 78 "FairLoops$Graph" "to" "[I", Cond.fieldLink RX1 81 "FairLoops$Graph" "out" "[I", Cond.methodLink RX1 62 yX1_enter, Cond.instanceMethod yX1_enter, Cond.selects RX1 yX1_enter yX1_enter, Cond.code yX1_enter cX1_enter 3 none, Cond.fieldLink RX1 25 "FairLoops$Knots" "low" "[I", Cond.fieldLink RX1 34 "FairLoops$Knots" "open" "[I", Cond.methodLink RX1 71 yX1_closeKnotBegunBy, Cond.instanceMethod yX1_closeKnotBegunBy]
def wsX4_longest_r4 : List Cond := [Cond.selects RX1 yX1_closeKnotBegunBy yX1_closeKnotBegunBy, Cond.code yX1_closeKnotBegunBy cX1_closeKnotBegunBy 3 none, Cond.fieldLink RX1 19 "FairLoops$Knots" "order" "[I", Cond.methodLink RX1 75 yX1_leave, Cond.instanceMethod yX1_leave, Cond.selects RX1 yX1_leave yX1_leave, Cond.code yX1_leave cX1_leave 2 none, Cond.methodLink RX1 84 yX1_lower, Cond.instanceMethod yX1_lower, Cond.selects RX1 yX1_lower yX1_lower, Cond.code yX1_lower cX1_lower 3 none, Cond.methodLink RX4 176 yX3_take, Cond.instanceMethod yX3_take, Cond.selects RX3 yX3_take yX3_take, Cond.initialized RX3, Cond.code yX3_take cX3_take 6 none, Cond.fieldLink RX3 28 "FairLoops$Knots" "found" "I", Cond.fieldLink RX3 9 "FairLoops$Sums" "size" "[I", Cond.fieldLink RX3 18 "FairLoops$Sums" "ableInAll" "[I", Cond.fieldLink RX3 21 "FairLoops$Sums" "inside" "[I", Cond.fieldLink RX3 24 "FairLoops$Sums" "goesRound" "[Z", Cond.fieldLink RX3 34 "FairLoops$Graph" "states" "I", Cond.fieldLink RX3 39 "FairLoops$Knots" "chosen" "[Z", Cond.fieldLink RX3 42 "FairLoops$Knots" "knotOf" "[I"]
def wsX4_longest_r5 : List Cond := [Cond.fieldLink RX3 45 "FairLoops$Graph" "able" "[I", Cond.fieldLink RX3 52 "FairLoops$Graph" "moves" "I", Cond.fieldLink RX3 55 "FairLoops$Graph" "from" "[I", Cond.fieldLink RX3 58 "FairLoops$Graph" "to" "[I", Cond.fieldLink RX3 61 "FairLoops$Graph" "labelOf" "[I", Cond.methodLink RX3 48 yX3_addState, Cond.instanceMethod yX3_addState, Cond.selects RX3 yX3_addState yX3_addState, Cond.code yX3_addState cX3_addState 4 none, Cond.fieldLink RX3 15 "FairLoops$Sums" "lowest" "[I", Cond.methodLink RX3 64 yX3_addMove, Cond.instanceMethod yX3_addMove, Cond.selects RX3 yX3_addMove yX3_addMove, Cond.code yX3_addMove cX3_addMove 3 none, Cond.methodLink RX4 128 yX3_largestSize, Cond.instanceMethod yX3_largestSize, Cond.selects RX3 yX3_largestSize yX3_largestSize, Cond.code yX3_largestSize cX3_largestSize 4 (some .int), Cond.methodLink RX4 131 yX4_fillRanks, Cond.instanceMethod yX4_fillRanks, Cond.selects RX4 yX4_fillRanks yX4_fillRanks, Cond.code yX4_fillRanks cX4_fillRanks 4 (some .int), Cond.fieldLink RX4 209 "FairLoops$Knots" "closed" "I", Cond.fieldLink RX4 212 "FairLoops$Knots" "order" "[I"]
def wsX4_longest_r6 : List Cond := [Cond.fieldLink RX4 41 "FairLoops" "ranks" "[I", Cond.methodLink RX4 215 yX4_rankAbove, Cond.instanceMethod yX4_rankAbove, Cond.selects RX4 yX4_rankAbove yX4_rankAbove, Cond.code yX4_rankAbove cX4_rankAbove 5 (some .int), Cond.fieldLink RX4 218 "FairLoops$Graph" "start" "[I", Cond.fieldLink RX4 221 "FairLoops$Graph" "to" "[I", Cond.fieldLink RX4 224 "FairLoops$Graph" "out" "[I"]
def wsX4_longest : List Cond := .code yX4_longest cX4_longest 2 (some .int) :: ((wsX4_longest_r1 ++ (wsX4_longest_r2 ++ (wsX4_longest_r3 ++ (wsX4_longest_r4 ++ (wsX4_longest_r5 ++ wsX4_longest_r6))))) ++ wsX40 ++ wsX10 ++ wsX00 ++ wsX20 ++ wsX30 ++ (vx_atS RX4 48 "java/lang/IllegalArgumentException" ["java/lang/RuntimeException", "java/lang/Exception"]).filter goodWord)
def wsX4_refuseWrongState : List Cond := .code yX4_refuseWrongState cX4_refuseWrongState 2 none :: ([.classLink RX4 84 "java/lang/IndexOutOfBoundsException", .initialized "java/lang/IndexOutOfBoundsException", .fieldLink RX4 10 "FairLoops" "graph" "LFairLoops$Graph;", .methodLink RX4 64 yX0_hasState, .instanceMethod yX0_hasState, .selects RX0 yX0_hasState yX0_hasState, .initialized RX0, .code yX0_hasState cX0_hasState 2 (some .boolean), .fieldLink RX0 37 "FairLoops$Graph" "states" "I"] ++ wsX40 ++ wsX00 ++ (vx_atS RX4 86 "java/lang/IndexOutOfBoundsException" ["java/lang/RuntimeException", "java/lang/Exception"]).filter goodWord)
def wsX4_rank_r1 : List Cond := [Cond.fieldLink RX4 30 "FairLoops" "knots" "LFairLoops$Knots;", Cond.fieldLink RX4 138 "FairLoops$Knots" "chosen" "[Z", Cond.fieldLink RX4 37 "FairLoops" "sums" "LFairLoops$Sums;", Cond.fieldLink RX4 106 "FairLoops$Knots" "found" "I", Cond.fieldLink RX4 41 "FairLoops" "ranks" "[I", Cond.methodLink RX4 96 yX4_refuseWrongAsk, Cond.static yX4_refuseWrongAsk, Cond.initialized RX4, Cond.code yX4_refuseWrongAsk cX4_refuseWrongAsk 1 none, Cond.classLink RX4 44 "java/lang/IllegalArgumentException", Cond.initialized "java/lang/IllegalArgumentException", Cond.methodLink RX4 135 yX4_refuseWrongState, Cond.instanceMethod yX4_refuseWrongState, Cond.selects RX4 yX4_refuseWrongState yX4_refuseWrongState, Cond.code yX4_refuseWrongState cX4_refuseWrongState 2 none, Cond.classLink RX4 84 "java/lang/IndexOutOfBoundsException", Cond.initialized "java/lang/IndexOutOfBoundsException", Cond.fieldLink RX4 10 "FairLoops" "graph" "LFairLoops$Graph;", Cond.methodLink RX4 64 yX0_hasState, Cond.instanceMethod yX0_hasState, Cond.selects RX0 yX0_hasState yX0_hasState, Cond.initialized RX0, Cond.code yX0_hasState cX0_hasState 2 (some .boolean), Cond.fieldLink RX0 37 "FairLoops$Graph" "states" "I"]
def wsX4_rank_r2 : List Cond := [Cond.methodLink RX4 125 yX4_findParts, Cond.instanceMethod yX4_findParts, Cond.selects RX4 yX4_findParts yX4_findParts, Cond.code yX4_findParts cX4_findParts 2 none, Cond.methodLink RX4 117 yX4_chooseStatesOf, Cond.instanceMethod yX4_chooseStatesOf, Cond.selects RX4 yX4_chooseStatesOf yX4_chooseStatesOf, Cond.code yX4_chooseStatesOf cX4_chooseStatesOf 3 none, Cond.fieldLink RX4 23 "FairLoops" "reach" "LFairLoops$Reach;", Cond.fieldLink RX4 51 "FairLoops$Graph" "states" "I", Cond.fieldLink RX4 167 "FairLoops$Reach" "far" "[I", Cond.fieldLink RX4 170 "FairLoops$Graph" "asks" "[I", Cond.methodLink RX4 89 yX2_walk, Cond.instanceMethod yX2_walk, Cond.selects RX2 yX2_walk yX2_walk, Cond.initialized RX2, Cond.code yX2_walk cX2_walk 6 none, Cond.fieldLink RX2 21 "FairLoops$Graph" "states" "I", Cond.fieldLink RX2 15 "FairLoops$Reach" "far" "[I", Cond.fieldLink RX2 27 "FairLoops$Reach" "found" "I", Cond.fieldLink RX2 9 "FairLoops$Reach" "line" "[I", Cond.fieldLink RX2 34 "FairLoops$Graph" "start" "[I", Cond.fieldLink RX2 37 "FairLoops$Graph" "out" "[I", Cond.fieldLink RX2 40 "FairLoops$Graph" "to" "[I"]
def wsX4_rank_r3 : List Cond := [Cond.methodLink RX2 30 yX2_join, Cond.instanceMethod yX2_join, Cond.selects RX2 yX2_join yX2_join, Cond.code yX2_join cX2_join 4 none, Cond.fieldLink RX2 18 "FairLoops$Reach" "lastMove" "[I", Cond.methodLink RX4 173 yX1_find, Cond.instanceMethod yX1_find, Cond.selects RX1 yX1_find yX1_find, Cond.initialized RX1, Cond.code yX1_find cX1_find 3 none, Cond.fieldLink RX1 37 "FairLoops$Knots" "found" "I", Cond.fieldLink RX1 41 "FairLoops$Knots" "closed" "I", Cond.fieldLink RX1 44 "FairLoops$Knots" "entries" "I", Cond.fieldLink RX1 47 "FairLoops$Knots" "depth" "I", Cond.fieldLink RX1 50 "FairLoops$Knots" "opened" "I", Cond.fieldLink RX1 53 "FairLoops$Graph" "states" "I", Cond.fieldLink RX1 22 "FairLoops$Knots" "entered" "[I", Cond.fieldLink RX1 15 "FairLoops$Knots" "knotOf" "[I", Cond.fieldLink RX1 9 "FairLoops$Knots" "chosen" "[Z", Cond.methodLink RX1 58 yX1_walkFrom, Cond.instanceMethod yX1_walkFrom, Cond.selects RX1 yX1_walkFrom yX1_walkFrom, Cond.code yX1_walkFrom cX1_walkFrom 7 none, Cond.fieldLink RX1 65 "FairLoops$Graph" "moves" "I"]
def wsX4_rank_r4 : List Cond := [Cond.fieldLink RX1 31 "FairLoops$Knots" "path" "[I", Cond.fieldLink RX1 28 "FairLoops$Knots" "nextOut" "[I", Cond.fieldLink RX1 68 "FairLoops$Graph" "start" "[I", Cond.fieldLink RX1 78 "FairLoops$Graph" "to" "[I", Cond.fieldLink RX1 81 "FairLoops$Graph" "out" "[I", Cond.methodLink RX1 62 yX1_enter, Cond.instanceMethod yX1_enter, Cond.selects RX1 yX1_enter yX1_enter, Cond.code yX1_enter cX1_enter 3 none, Cond.fieldLink RX1 25 "FairLoops$Knots" "low" "[I", Cond.fieldLink RX1 34 "FairLoops$Knots" "open" "[I", Cond.methodLink RX1 71 yX1_closeKnotBegunBy, Cond.instanceMethod yX1_closeKnotBegunBy, Cond.selects RX1 yX1_closeKnotBegunBy yX1_closeKnotBegunBy, Cond.code yX1_closeKnotBegunBy cX1_closeKnotBegunBy 3 none, Cond.fieldLink RX1 19 "FairLoops$Knots" "order" "[I", Cond.methodLink RX1 75 yX1_leave, Cond.instanceMethod yX1_leave, Cond.selects RX1 yX1_leave yX1_leave, Cond.code yX1_leave cX1_leave 2 none, Cond.methodLink RX1 84 yX1_lower, Cond.instanceMethod yX1_lower, Cond.selects RX1 yX1_lower yX1_lower, Cond.code yX1_lower cX1_lower 3 none]
def wsX4_rank_r5 : List Cond := [Cond.methodLink RX4 176 yX3_take, Cond.instanceMethod yX3_take, Cond.selects RX3 yX3_take yX3_take, Cond.initialized RX3, Cond.code yX3_take cX3_take 6 none, Cond.fieldLink RX3 28 "FairLoops$Knots" "found" "I", Cond.fieldLink RX3 9 "FairLoops$Sums" "size" "[I", Cond.fieldLink RX3 18 "FairLoops$Sums" "ableInAll" "[I", Cond.fieldLink RX3 21 "FairLoops$Sums" "inside" "[I", Cond.fieldLink RX3 24 "FairLoops$Sums" "goesRound" "[Z", Cond.fieldLink RX3 34 "FairLoops$Graph" "states" "I", Cond.fieldLink RX3 39 "FairLoops$Knots" "chosen" "[Z", Cond.fieldLink RX3 42 "FairLoops$Knots" "knotOf" "[I", Cond.fieldLink RX3 45 "FairLoops$Graph" "able" "[I", Cond.fieldLink RX3 52 "FairLoops$Graph" "moves" "I", Cond.fieldLink RX3 55 "FairLoops$Graph" "from" "[I", Cond.fieldLink RX3 58 "FairLoops$Graph" "to" "[I", Cond.fieldLink RX3 61 "FairLoops$Graph" "labelOf" "[I", Cond.methodLink RX3 48 yX3_addState, Cond.instanceMethod yX3_addState, Cond.selects RX3 yX3_addState yX3_addState, Cond.code yX3_addState cX3_addState 4 none, Cond.fieldLink RX3 15 "FairLoops$Sums" "lowest" "[I", Cond.methodLink RX3 64 yX3_addMove]
def wsX4_rank_r6 : List Cond := [Cond.instanceMethod yX3_addMove, Cond.selects RX3 yX3_addMove yX3_addMove, Cond.code yX3_addMove cX3_addMove 3 none, Cond.methodLink RX4 128 yX3_largestSize, Cond.instanceMethod yX3_largestSize, Cond.selects RX3 yX3_largestSize yX3_largestSize, Cond.code yX3_largestSize cX3_largestSize 4 (some .int), Cond.methodLink RX4 131 yX4_fillRanks, Cond.instanceMethod yX4_fillRanks, Cond.selects RX4 yX4_fillRanks yX4_fillRanks, Cond.code yX4_fillRanks cX4_fillRanks 4 (some .int), Cond.fieldLink RX4 209 "FairLoops$Knots" "closed" "I", Cond.fieldLink RX4 212 "FairLoops$Knots" "order" "[I", Cond.methodLink RX4 215 yX4_rankAbove, Cond.instanceMethod yX4_rankAbove, Cond.selects RX4 yX4_rankAbove yX4_rankAbove, Cond.code yX4_rankAbove cX4_rankAbove 5 (some .int), Cond.fieldLink RX4 218 "FairLoops$Graph" "start" "[I", Cond.fieldLink RX4 221 "FairLoops$Graph" "to" "[I", Cond.fieldLink RX4 224 "FairLoops$Graph" "out" "[I"]
def wsX4_rank : List Cond := .code yX4_rank cX4_rank 3 (some .int) :: ((wsX4_rank_r1 ++ (wsX4_rank_r2 ++ (wsX4_rank_r3 ++ (wsX4_rank_r4 ++ (wsX4_rank_r5 ++ wsX4_rank_r6))))) ++ wsX40 ++ wsX10 ++ wsX00 ++ wsX20 ++ wsX30 ++ (vx_atS RX4 48 "java/lang/IllegalArgumentException" ["java/lang/RuntimeException", "java/lang/Exception"]).filter goodWord ++ (vx_atS RX4 86 "java/lang/IndexOutOfBoundsException" ["java/lang/RuntimeException", "java/lang/Exception"]).filter goodWord)
def wsX4_row_r1 : List Cond := [Cond.classLink RX4 84 "java/lang/IndexOutOfBoundsException", Cond.initialized "java/lang/IndexOutOfBoundsException", Cond.fieldLink RX4 23 "FairLoops" "reach" "LFairLoops$Reach;", Cond.fieldLink RX4 10 "FairLoops" "graph" "LFairLoops$Graph;", Cond.methodLink RX4 135 yX4_refuseWrongState, Cond.instanceMethod yX4_refuseWrongState, Cond.selects RX4 yX4_refuseWrongState yX4_refuseWrongState, Cond.initialized RX4, Cond.code yX4_refuseWrongState cX4_refuseWrongState 2 none, Cond.methodLink RX4 64 yX0_hasState, Cond.instanceMethod yX0_hasState, Cond.selects RX0 yX0_hasState yX0_hasState, Cond.initialized RX0, Cond.code yX0_hasState cX0_hasState 2 (some .boolean), Cond.fieldLink RX0 37 "FairLoops$Graph" "states" "I", Cond.methodLink RX4 89 yX2_walk, Cond.instanceMethod yX2_walk, Cond.selects RX2 yX2_walk yX2_walk, Cond.initialized RX2, Cond.code yX2_walk cX2_walk 6 none, Cond.fieldLink RX2 21 "FairLoops$Graph" "states" "I", Cond.fieldLink RX2 15 "FairLoops$Reach" "far" "[I", Cond.fieldLink RX2 27 "FairLoops$Reach" "found" "I", Cond.fieldLink RX2 9 "FairLoops$Reach" "line" "[I"]
def wsX4_row_r2 : List Cond := [Cond.fieldLink RX2 34 "FairLoops$Graph" "start" "[I", Cond.fieldLink RX2 37 "FairLoops$Graph" "out" "[I", Cond.fieldLink RX2 40 "FairLoops$Graph" "to" "[I", Cond.methodLink RX2 30 yX2_join, Cond.instanceMethod yX2_join, Cond.selects RX2 yX2_join yX2_join, Cond.code yX2_join cX2_join 4 none, Cond.fieldLink RX2 18 "FairLoops$Reach" "lastMove" "[I", Cond.methodLink RX4 144 yX2_moveOnWayTo, Cond.instanceMethod yX2_moveOnWayTo, Cond.selects RX2 yX2_moveOnWayTo yX2_moveOnWayTo, Cond.code yX2_moveOnWayTo cX2_moveOnWayTo 6 (some .int), Cond.fieldLink RX2 43 "FairLoops$Graph" "from" "[I"]
def wsX4_row : List Cond := .code yX4_row cX4_row 3 (some .int) :: ((wsX4_row_r1 ++ wsX4_row_r2) ++ wsX40 ++ wsX00 ++ wsX20 ++ (vx_atS RX4 86 "java/lang/IndexOutOfBoundsException" ["java/lang/RuntimeException", "java/lang/Exception"]).filter goodWord)
def wsX4_largest_r1 : List Cond := [Cond.fieldLink RX4 37 "FairLoops" "sums" "LFairLoops$Sums;", Cond.fieldLink RX4 30 "FairLoops" "knots" "LFairLoops$Knots;", Cond.fieldLink RX4 106 "FairLoops$Knots" "found" "I", Cond.methodLink RX4 96 yX4_refuseWrongAsk, Cond.static yX4_refuseWrongAsk, Cond.initialized RX4, Cond.code yX4_refuseWrongAsk cX4_refuseWrongAsk 1 none, Cond.classLink RX4 44 "java/lang/IllegalArgumentException", Cond.initialized "java/lang/IllegalArgumentException", Cond.methodLink RX4 125 yX4_findParts, Cond.instanceMethod yX4_findParts, Cond.selects RX4 yX4_findParts yX4_findParts, Cond.code yX4_findParts cX4_findParts 2 none, Cond.fieldLink RX4 10 "FairLoops" "graph" "LFairLoops$Graph;", Cond.methodLink RX4 117 yX4_chooseStatesOf, Cond.instanceMethod yX4_chooseStatesOf, Cond.selects RX4 yX4_chooseStatesOf yX4_chooseStatesOf, Cond.code yX4_chooseStatesOf cX4_chooseStatesOf 3 none, Cond.fieldLink RX4 23 "FairLoops" "reach" "LFairLoops$Reach;", Cond.fieldLink RX4 51 "FairLoops$Graph" "states" "I", Cond.fieldLink RX4 138 "FairLoops$Knots" "chosen" "[Z", Cond.fieldLink RX4 167 "FairLoops$Reach" "far" "[I", Cond.fieldLink RX4 170 "FairLoops$Graph" "asks" "[I", Cond.methodLink RX4 89 yX2_walk]
def wsX4_largest_r2 : List Cond := [Cond.instanceMethod yX2_walk, Cond.selects RX2 yX2_walk yX2_walk, Cond.initialized RX2, Cond.code yX2_walk cX2_walk 6 none, Cond.fieldLink RX2 21 "FairLoops$Graph" "states" "I", Cond.fieldLink RX2 15 "FairLoops$Reach" "far" "[I", Cond.fieldLink RX2 27 "FairLoops$Reach" "found" "I", Cond.fieldLink RX2 9 "FairLoops$Reach" "line" "[I", Cond.fieldLink RX2 34 "FairLoops$Graph" "start" "[I", Cond.fieldLink RX2 37 "FairLoops$Graph" "out" "[I", Cond.fieldLink RX2 40 "FairLoops$Graph" "to" "[I", Cond.methodLink RX2 30 yX2_join, Cond.instanceMethod yX2_join, Cond.selects RX2 yX2_join yX2_join, Cond.code yX2_join cX2_join 4 none, Cond.fieldLink RX2 18 "FairLoops$Reach" "lastMove" "[I", Cond.methodLink RX4 173 yX1_find, Cond.instanceMethod yX1_find, Cond.selects RX1 yX1_find yX1_find, Cond.initialized RX1, Cond.code yX1_find cX1_find 3 none, Cond.fieldLink RX1 37 "FairLoops$Knots" "found" "I", Cond.fieldLink RX1 41 "FairLoops$Knots" "closed" "I", Cond.fieldLink RX1 44 "FairLoops$Knots" "entries" "I"]
def wsX4_largest_r3 : List Cond := [Cond.fieldLink RX1 47 "FairLoops$Knots" "depth" "I", Cond.fieldLink RX1 50 "FairLoops$Knots" "opened" "I", Cond.fieldLink RX1 53 "FairLoops$Graph" "states" "I", Cond.fieldLink RX1 22 "FairLoops$Knots" "entered" "[I", Cond.fieldLink RX1 15 "FairLoops$Knots" "knotOf" "[I", Cond.fieldLink RX1 9 "FairLoops$Knots" "chosen" "[Z", Cond.methodLink RX1 58 yX1_walkFrom, Cond.instanceMethod yX1_walkFrom, Cond.selects RX1 yX1_walkFrom yX1_walkFrom, Cond.code yX1_walkFrom cX1_walkFrom 7 none, Cond.fieldLink RX1 65 "FairLoops$Graph" "moves" "I", Cond.fieldLink RX1 31 "FairLoops$Knots" "path" "[I", Cond.fieldLink RX1 28 "FairLoops$Knots" "nextOut" "[I", Cond.fieldLink RX1 68 "FairLoops$Graph" "start" "[I", Cond.fieldLink RX1 78 "FairLoops$Graph" "to" "[I", Cond.fieldLink RX1 81 "FairLoops$Graph" "out" "[I", Cond.methodLink RX1 62 yX1_enter, Cond.instanceMethod yX1_enter, Cond.selects RX1 yX1_enter yX1_enter, Cond.code yX1_enter cX1_enter 3 none, Cond.fieldLink RX1 25 "FairLoops$Knots" "low" "[I", Cond.fieldLink RX1 34 "FairLoops$Knots" "open" "[I", Cond.methodLink RX1 71 yX1_closeKnotBegunBy, Cond.instanceMethod yX1_closeKnotBegunBy]
def wsX4_largest_r4 : List Cond := [Cond.selects RX1 yX1_closeKnotBegunBy yX1_closeKnotBegunBy, Cond.code yX1_closeKnotBegunBy cX1_closeKnotBegunBy 3 none, Cond.fieldLink RX1 19 "FairLoops$Knots" "order" "[I", Cond.methodLink RX1 75 yX1_leave, Cond.instanceMethod yX1_leave, Cond.selects RX1 yX1_leave yX1_leave, Cond.code yX1_leave cX1_leave 2 none, Cond.methodLink RX1 84 yX1_lower, Cond.instanceMethod yX1_lower, Cond.selects RX1 yX1_lower yX1_lower, Cond.code yX1_lower cX1_lower 3 none, Cond.methodLink RX4 176 yX3_take, Cond.instanceMethod yX3_take, Cond.selects RX3 yX3_take yX3_take, Cond.initialized RX3, Cond.code yX3_take cX3_take 6 none, Cond.fieldLink RX3 28 "FairLoops$Knots" "found" "I", Cond.fieldLink RX3 9 "FairLoops$Sums" "size" "[I", Cond.fieldLink RX3 18 "FairLoops$Sums" "ableInAll" "[I", Cond.fieldLink RX3 21 "FairLoops$Sums" "inside" "[I", Cond.fieldLink RX3 24 "FairLoops$Sums" "goesRound" "[Z", Cond.fieldLink RX3 34 "FairLoops$Graph" "states" "I", Cond.fieldLink RX3 39 "FairLoops$Knots" "chosen" "[Z", Cond.fieldLink RX3 42 "FairLoops$Knots" "knotOf" "[I"]
def wsX4_largest_r5 : List Cond := [Cond.fieldLink RX3 45 "FairLoops$Graph" "able" "[I", Cond.fieldLink RX3 52 "FairLoops$Graph" "moves" "I", Cond.fieldLink RX3 55 "FairLoops$Graph" "from" "[I", Cond.fieldLink RX3 58 "FairLoops$Graph" "to" "[I", Cond.fieldLink RX3 61 "FairLoops$Graph" "labelOf" "[I", Cond.methodLink RX3 48 yX3_addState, Cond.instanceMethod yX3_addState, Cond.selects RX3 yX3_addState yX3_addState, Cond.code yX3_addState cX3_addState 4 none, Cond.fieldLink RX3 15 "FairLoops$Sums" "lowest" "[I", Cond.methodLink RX3 64 yX3_addMove, Cond.instanceMethod yX3_addMove, Cond.selects RX3 yX3_addMove yX3_addMove, Cond.code yX3_addMove cX3_addMove 3 none, Cond.methodLink RX4 128 yX3_largestSize, Cond.instanceMethod yX3_largestSize, Cond.selects RX3 yX3_largestSize yX3_largestSize, Cond.code yX3_largestSize cX3_largestSize 4 (some .int)]
def wsX4_largest : List Cond := .code yX4_largest cX4_largest 2 (some .int) :: ((wsX4_largest_r1 ++ (wsX4_largest_r2 ++ (wsX4_largest_r3 ++ (wsX4_largest_r4 ++ wsX4_largest_r5)))) ++ wsX40 ++ wsX10 ++ wsX00 ++ wsX20 ++ wsX30 ++ (vx_atS RX4 48 "java/lang/IllegalArgumentException" ["java/lang/RuntimeException", "java/lang/Exception"]).filter goodWord)
def wsJ6_bitCount_0f7a4 : List Cond := .code yJ6_bitCount_0f7a4 cJ6_bitCount_0f7a4 1 (some .int) :: ([.constant RJ6 265 (1431655765), .constant RJ6 266 (858993459), .constant RJ6 267 (252645135)])
def wsX4_liveAsks_r1 : List Cond := [Cond.methodLink RX4 100 yX4_alwaysServed, Cond.instanceMethod yX4_alwaysServed, Cond.selects RX4 yX4_alwaysServed yX4_alwaysServed, Cond.initialized RX4, Cond.code yX4_alwaysServed cX4_alwaysServed 2 (some .boolean), Cond.fieldLink RX4 30 "FairLoops" "knots" "LFairLoops$Knots;", Cond.fieldLink RX4 106 "FairLoops$Knots" "found" "I", Cond.methodLink RX4 117 yX4_chooseStatesOf, Cond.instanceMethod yX4_chooseStatesOf, Cond.selects RX4 yX4_chooseStatesOf yX4_chooseStatesOf, Cond.code yX4_chooseStatesOf cX4_chooseStatesOf 3 none, Cond.fieldLink RX4 23 "FairLoops" "reach" "LFairLoops$Reach;", Cond.fieldLink RX4 10 "FairLoops" "graph" "LFairLoops$Graph;", Cond.fieldLink RX4 51 "FairLoops$Graph" "states" "I", Cond.fieldLink RX4 138 "FairLoops$Knots" "chosen" "[Z", Cond.fieldLink RX4 167 "FairLoops$Reach" "far" "[I", Cond.fieldLink RX4 170 "FairLoops$Graph" "asks" "[I", Cond.methodLink RX4 89 yX2_walk, Cond.instanceMethod yX2_walk, Cond.selects RX2 yX2_walk yX2_walk, Cond.initialized RX2, Cond.code yX2_walk cX2_walk 6 none, Cond.fieldLink RX2 21 "FairLoops$Graph" "states" "I", Cond.fieldLink RX2 15 "FairLoops$Reach" "far" "[I"]
def wsX4_liveAsks_r2 : List Cond := [Cond.fieldLink RX2 27 "FairLoops$Reach" "found" "I", Cond.fieldLink RX2 9 "FairLoops$Reach" "line" "[I", Cond.fieldLink RX2 34 "FairLoops$Graph" "start" "[I", Cond.fieldLink RX2 37 "FairLoops$Graph" "out" "[I", Cond.fieldLink RX2 40 "FairLoops$Graph" "to" "[I", Cond.methodLink RX2 30 yX2_join, Cond.instanceMethod yX2_join, Cond.selects RX2 yX2_join yX2_join, Cond.code yX2_join cX2_join 4 none, Cond.fieldLink RX2 18 "FairLoops$Reach" "lastMove" "[I", Cond.methodLink RX4 120 yX4_deadEnd, Cond.instanceMethod yX4_deadEnd, Cond.selects RX4 yX4_deadEnd yX4_deadEnd, Cond.code yX4_deadEnd cX4_deadEnd 4 (some .int), Cond.methodLink RX4 206 yX0_isStuck, Cond.instanceMethod yX0_isStuck, Cond.selects RX0 yX0_isStuck yX0_isStuck, Cond.initialized RX0, Cond.code yX0_isStuck cX0_isStuck 2 (some .boolean), Cond.fieldLink RX0 15 "FairLoops$Graph" "isEnd" "[Z", Cond.fieldLink RX0 34 "FairLoops$Graph" "start" "[I", Cond.methodLink RX4 164 yX4_keepFairStates, Cond.instanceMethod yX4_keepFairStates, Cond.selects RX4 yX4_keepFairStates yX4_keepFairStates]
def wsX4_liveAsks_r3 : List Cond := [Cond.code yX4_keepFairStates cX4_keepFairStates 5 none, Cond.fieldLink RX4 37 "FairLoops" "sums" "LFairLoops$Sums;", Cond.methodLink RX4 151 yX4_labelsOfKind, Cond.instanceMethod yX4_labelsOfKind, Cond.selects RX4 yX4_labelsOfKind yX4_labelsOfKind, Cond.code yX4_labelsOfKind cX4_labelsOfKind 4 (some .int), Cond.fieldLink RX4 16 "FairLoops" "kinds" "[I", Cond.methodLink RX4 173 yX1_find, Cond.instanceMethod yX1_find, Cond.selects RX1 yX1_find yX1_find, Cond.initialized RX1, Cond.code yX1_find cX1_find 3 none, Cond.fieldLink RX1 37 "FairLoops$Knots" "found" "I", Cond.fieldLink RX1 41 "FairLoops$Knots" "closed" "I", Cond.fieldLink RX1 44 "FairLoops$Knots" "entries" "I", Cond.fieldLink RX1 47 "FairLoops$Knots" "depth" "I", Cond.fieldLink RX1 50 "FairLoops$Knots" "opened" "I", Cond.fieldLink RX1 53 "FairLoops$Graph" "states" "I", Cond.fieldLink RX1 22 "FairLoops$Knots" "entered" "[I", Cond.fieldLink RX1 15 "FairLoops$Knots" "knotOf" "[I", Cond.fieldLink RX1 9 "FairLoops$Knots" "chosen" "[Z", Cond.methodLink RX1 58 yX1_walkFrom, Cond.instanceMethod yX1_walkFrom, Cond.selects RX1 yX1_walkFrom yX1_walkFrom]
def wsX4_liveAsks_r4 : List Cond := [Cond.code yX1_walkFrom cX1_walkFrom 7 none, Cond.fieldLink RX1 65 "FairLoops$Graph" "moves" "I", Cond.fieldLink RX1 31 "FairLoops$Knots" "path" "[I", Cond.fieldLink RX1 28 "FairLoops$Knots" "nextOut" "[I", Cond.fieldLink RX1 68 "FairLoops$Graph" "start" "[I", Cond.fieldLink RX1 78 "FairLoops$Graph" "to" "[I", Cond.fieldLink RX1 81 "FairLoops$Graph" "out" "[I", Cond.methodLink RX1 62 yX1_enter, Cond.instanceMethod yX1_enter, Cond.selects RX1 yX1_enter yX1_enter, Cond.code yX1_enter cX1_enter 3 none, Cond.fieldLink RX1 25 "FairLoops$Knots" "low" "[I", Cond.fieldLink RX1 34 "FairLoops$Knots" "open" "[I", Cond.methodLink RX1 71 yX1_closeKnotBegunBy, Cond.instanceMethod yX1_closeKnotBegunBy, Cond.selects RX1 yX1_closeKnotBegunBy yX1_closeKnotBegunBy, Cond.code yX1_closeKnotBegunBy cX1_closeKnotBegunBy 3 none, Cond.fieldLink RX1 19 "FairLoops$Knots" "order" "[I", Cond.methodLink RX1 75 yX1_leave, Cond.instanceMethod yX1_leave, Cond.selects RX1 yX1_leave yX1_leave, Cond.code yX1_leave cX1_leave 2 none, Cond.methodLink RX1 84 yX1_lower, Cond.instanceMethod yX1_lower]
def wsX4_liveAsks_r5 : List Cond := [Cond.selects RX1 yX1_lower yX1_lower, Cond.code yX1_lower cX1_lower 3 none, Cond.methodLink RX4 176 yX3_take, Cond.instanceMethod yX3_take, Cond.selects RX3 yX3_take yX3_take, Cond.initialized RX3, Cond.code yX3_take cX3_take 6 none, Cond.fieldLink RX3 28 "FairLoops$Knots" "found" "I", Cond.fieldLink RX3 9 "FairLoops$Sums" "size" "[I", Cond.fieldLink RX3 18 "FairLoops$Sums" "ableInAll" "[I", Cond.fieldLink RX3 21 "FairLoops$Sums" "inside" "[I", Cond.fieldLink RX3 24 "FairLoops$Sums" "goesRound" "[Z", Cond.fieldLink RX3 34 "FairLoops$Graph" "states" "I", Cond.fieldLink RX3 39 "FairLoops$Knots" "chosen" "[Z", Cond.fieldLink RX3 42 "FairLoops$Knots" "knotOf" "[I", Cond.fieldLink RX3 45 "FairLoops$Graph" "able" "[I", Cond.fieldLink RX3 52 "FairLoops$Graph" "moves" "I", Cond.fieldLink RX3 55 "FairLoops$Graph" "from" "[I", Cond.fieldLink RX3 58 "FairLoops$Graph" "to" "[I", Cond.fieldLink RX3 61 "FairLoops$Graph" "labelOf" "[I", Cond.methodLink RX3 48 yX3_addState, Cond.instanceMethod yX3_addState, Cond.selects RX3 yX3_addState yX3_addState, Cond.code yX3_addState cX3_addState 4 none]
def wsX4_liveAsks_r6 : List Cond := [Cond.fieldLink RX3 15 "FairLoops$Sums" "lowest" "[I", Cond.methodLink RX3 64 yX3_addMove, Cond.instanceMethod yX3_addMove, Cond.selects RX3 yX3_addMove yX3_addMove, Cond.code yX3_addMove cX3_addMove 3 none, Cond.methodLink RX4 180 yX4_dropUnfairStates, Cond.instanceMethod yX4_dropUnfairStates, Cond.selects RX4 yX4_dropUnfairStates yX4_dropUnfairStates, Cond.code yX4_dropUnfairStates cX4_dropUnfairStates 5 (some .boolean), Cond.methodLink RX4 184 yX4_isUnfair, Cond.instanceMethod yX4_isUnfair, Cond.selects RX4 yX4_isUnfair yX4_isUnfair, Cond.code yX4_isUnfair cX4_isUnfair 6 (some .boolean), Cond.fieldLink RX4 188 "FairLoops$Knots" "knotOf" "[I", Cond.fieldLink RX4 191 "FairLoops$Sums" "inside" "[I", Cond.fieldLink RX4 194 "FairLoops$Sums" "goesRound" "[Z", Cond.fieldLink RX4 197 "FairLoops$Sums" "ableInAll" "[I", Cond.fieldLink RX4 200 "FairLoops$Graph" "able" "[I"]
def wsX4_liveAsks : List Cond := .code yX4_liveAsks cX4_liveAsks 3 (some .int) :: ((wsX4_liveAsks_r1 ++ (wsX4_liveAsks_r2 ++ (wsX4_liveAsks_r3 ++ (wsX4_liveAsks_r4 ++ (wsX4_liveAsks_r5 ++ wsX4_liveAsks_r6))))) ++ wsX40 ++ wsX10 ++ wsX00 ++ wsX20 ++ wsX30)
def wsX4_count_r1 : List Cond := [Cond.fieldLink RX4 10 "FairLoops" "graph" "LFairLoops$Graph;", Cond.fieldLink RX4 51 "FairLoops$Graph" "states" "I", Cond.fieldLink RX4 75 "FairLoops$Graph" "moves" "I", Cond.fieldLink RX4 148 "FairLoops$Graph" "ends" "I", Cond.methodLink RX4 151 yX4_labelsOfKind, Cond.instanceMethod yX4_labelsOfKind, Cond.selects RX4 yX4_labelsOfKind yX4_labelsOfKind, Cond.initialized RX4, Cond.code yX4_labelsOfKind cX4_labelsOfKind 4 (some .int), Cond.fieldLink RX4 16 "FairLoops" "kinds" "[I", Cond.methodLink RX4 154 yJ6_bitCount_0f7a4, Cond.static yJ6_bitCount_0f7a4, Cond.initialized RJ6, Cond.code yJ6_bitCount_0f7a4 cJ6_bitCount_0f7a4 1 (some .int), Cond.constant RJ6 265 (1431655765), Cond.constant RJ6 266 (858993459), Cond.constant RJ6 267 (252645135), Cond.methodLink RX4 159 yX4_liveAsks, Cond.instanceMethod yX4_liveAsks, Cond.selects RX4 yX4_liveAsks yX4_liveAsks, Cond.code yX4_liveAsks cX4_liveAsks 3 (some .int), Cond.methodLink RX4 100 yX4_alwaysServed, Cond.instanceMethod yX4_alwaysServed, Cond.selects RX4 yX4_alwaysServed yX4_alwaysServed]
def wsX4_count_r2 : List Cond := [Cond.code yX4_alwaysServed cX4_alwaysServed 2 (some .boolean), Cond.fieldLink RX4 30 "FairLoops" "knots" "LFairLoops$Knots;", Cond.fieldLink RX4 106 "FairLoops$Knots" "found" "I", Cond.methodLink RX4 117 yX4_chooseStatesOf, Cond.instanceMethod yX4_chooseStatesOf, Cond.selects RX4 yX4_chooseStatesOf yX4_chooseStatesOf, Cond.code yX4_chooseStatesOf cX4_chooseStatesOf 3 none, Cond.fieldLink RX4 23 "FairLoops" "reach" "LFairLoops$Reach;", Cond.fieldLink RX4 138 "FairLoops$Knots" "chosen" "[Z", Cond.fieldLink RX4 167 "FairLoops$Reach" "far" "[I", Cond.fieldLink RX4 170 "FairLoops$Graph" "asks" "[I", Cond.methodLink RX4 89 yX2_walk, Cond.instanceMethod yX2_walk, Cond.selects RX2 yX2_walk yX2_walk, Cond.initialized RX2, Cond.code yX2_walk cX2_walk 6 none, Cond.fieldLink RX2 21 "FairLoops$Graph" "states" "I", Cond.fieldLink RX2 15 "FairLoops$Reach" "far" "[I", Cond.fieldLink RX2 27 "FairLoops$Reach" "found" "I", Cond.fieldLink RX2 9 "FairLoops$Reach" "line" "[I", Cond.fieldLink RX2 34 "FairLoops$Graph" "start" "[I", Cond.fieldLink RX2 37 "FairLoops$Graph" "out" "[I", Cond.fieldLink RX2 40 "FairLoops$Graph" "to" "[I", Cond.methodLink RX2 30 yX2_join]
def wsX4_count_r3 : List Cond := [Cond.instanceMethod yX2_join, Cond.selects RX2 yX2_join yX2_join, Cond.code yX2_join cX2_join 4 none, Cond.fieldLink RX2 18 "FairLoops$Reach" "lastMove" "[I", Cond.methodLink RX4 120 yX4_deadEnd, Cond.instanceMethod yX4_deadEnd, Cond.selects RX4 yX4_deadEnd yX4_deadEnd, Cond.code yX4_deadEnd cX4_deadEnd 4 (some .int), Cond.methodLink RX4 206 yX0_isStuck, Cond.instanceMethod yX0_isStuck, Cond.selects RX0 yX0_isStuck yX0_isStuck, Cond.initialized RX0, Cond.code yX0_isStuck cX0_isStuck 2 (some .boolean), Cond.fieldLink RX0 15 "FairLoops$Graph" "isEnd" "[Z", Cond.fieldLink RX0 34 "FairLoops$Graph" "start" "[I", Cond.methodLink RX4 164 yX4_keepFairStates, Cond.instanceMethod yX4_keepFairStates, Cond.selects RX4 yX4_keepFairStates yX4_keepFairStates, Cond.code yX4_keepFairStates cX4_keepFairStates 5 none, Cond.fieldLink RX4 37 "FairLoops" "sums" "LFairLoops$Sums;", Cond.methodLink RX4 173 yX1_find, Cond.instanceMethod yX1_find, Cond.selects RX1 yX1_find yX1_find, Cond.initialized RX1]
def wsX4_count_r4 : List Cond := [Cond.code yX1_find cX1_find 3 none, Cond.fieldLink RX1 37 "FairLoops$Knots" "found" "I", Cond.fieldLink RX1 41 "FairLoops$Knots" "closed" "I", Cond.fieldLink RX1 44 "FairLoops$Knots" "entries" "I", Cond.fieldLink RX1 47 "FairLoops$Knots" "depth" "I", Cond.fieldLink RX1 50 "FairLoops$Knots" "opened" "I", Cond.fieldLink RX1 53 "FairLoops$Graph" "states" "I", Cond.fieldLink RX1 22 "FairLoops$Knots" "entered" "[I", Cond.fieldLink RX1 15 "FairLoops$Knots" "knotOf" "[I", Cond.fieldLink RX1 9 "FairLoops$Knots" "chosen" "[Z", Cond.methodLink RX1 58 yX1_walkFrom, Cond.instanceMethod yX1_walkFrom, Cond.selects RX1 yX1_walkFrom yX1_walkFrom, Cond.code yX1_walkFrom cX1_walkFrom 7 none, Cond.fieldLink RX1 65 "FairLoops$Graph" "moves" "I", Cond.fieldLink RX1 31 "FairLoops$Knots" "path" "[I", Cond.fieldLink RX1 28 "FairLoops$Knots" "nextOut" "[I", Cond.fieldLink RX1 68 "FairLoops$Graph" "start" "[I", Cond.fieldLink RX1 78 "FairLoops$Graph" "to" "[I", Cond.fieldLink RX1 81 "FairLoops$Graph" "out" "[I", Cond.methodLink RX1 62 yX1_enter, Cond.instanceMethod yX1_enter, Cond.selects RX1 yX1_enter yX1_enter, Cond.code yX1_enter cX1_enter 3 none]
def wsX4_count_r5 : List Cond := [Cond.fieldLink RX1 25 "FairLoops$Knots" "low" "[I", Cond.fieldLink RX1 34 "FairLoops$Knots" "open" "[I", Cond.methodLink RX1 71 yX1_closeKnotBegunBy, Cond.instanceMethod yX1_closeKnotBegunBy, Cond.selects RX1 yX1_closeKnotBegunBy yX1_closeKnotBegunBy, Cond.code yX1_closeKnotBegunBy cX1_closeKnotBegunBy 3 none, Cond.fieldLink RX1 19 "FairLoops$Knots" "order" "[I", Cond.methodLink RX1 75 yX1_leave, Cond.instanceMethod yX1_leave, Cond.selects RX1 yX1_leave yX1_leave, Cond.code yX1_leave cX1_leave 2 none, Cond.methodLink RX1 84 yX1_lower, Cond.instanceMethod yX1_lower, Cond.selects RX1 yX1_lower yX1_lower, Cond.code yX1_lower cX1_lower 3 none, Cond.methodLink RX4 176 yX3_take, Cond.instanceMethod yX3_take, Cond.selects RX3 yX3_take yX3_take, Cond.initialized RX3, Cond.code yX3_take cX3_take 6 none, Cond.fieldLink RX3 28 "FairLoops$Knots" "found" "I", Cond.fieldLink RX3 9 "FairLoops$Sums" "size" "[I", Cond.fieldLink RX3 18 "FairLoops$Sums" "ableInAll" "[I", Cond.fieldLink RX3 21 "FairLoops$Sums" "inside" "[I"]
def wsX4_count_r6 : List Cond := [Cond.fieldLink RX3 24 "FairLoops$Sums" "goesRound" "[Z", Cond.fieldLink RX3 34 "FairLoops$Graph" "states" "I", Cond.fieldLink RX3 39 "FairLoops$Knots" "chosen" "[Z", Cond.fieldLink RX3 42 "FairLoops$Knots" "knotOf" "[I", Cond.fieldLink RX3 45 "FairLoops$Graph" "able" "[I", Cond.fieldLink RX3 52 "FairLoops$Graph" "moves" "I", Cond.fieldLink RX3 55 "FairLoops$Graph" "from" "[I", Cond.fieldLink RX3 58 "FairLoops$Graph" "to" "[I", Cond.fieldLink RX3 61 "FairLoops$Graph" "labelOf" "[I", Cond.methodLink RX3 48 yX3_addState, Cond.instanceMethod yX3_addState, Cond.selects RX3 yX3_addState yX3_addState, Cond.code yX3_addState cX3_addState 4 none, Cond.fieldLink RX3 15 "FairLoops$Sums" "lowest" "[I", Cond.methodLink RX3 64 yX3_addMove, Cond.instanceMethod yX3_addMove, Cond.selects RX3 yX3_addMove yX3_addMove, Cond.code yX3_addMove cX3_addMove 3 none, Cond.methodLink RX4 180 yX4_dropUnfairStates, Cond.instanceMethod yX4_dropUnfairStates, Cond.selects RX4 yX4_dropUnfairStates yX4_dropUnfairStates, Cond.code yX4_dropUnfairStates cX4_dropUnfairStates 5 (some .boolean), Cond.methodLink RX4 184 yX4_isUnfair, Cond.instanceMethod yX4_isUnfair]
def wsX4_count_r7 : List Cond := [Cond.selects RX4 yX4_isUnfair yX4_isUnfair, Cond.code yX4_isUnfair cX4_isUnfair 6 (some .boolean), Cond.fieldLink RX4 188 "FairLoops$Knots" "knotOf" "[I", Cond.fieldLink RX4 191 "FairLoops$Sums" "inside" "[I", Cond.fieldLink RX4 194 "FairLoops$Sums" "goesRound" "[Z", Cond.fieldLink RX4 197 "FairLoops$Sums" "ableInAll" "[I", Cond.fieldLink RX4 200 "FairLoops$Graph" "able" "[I"]
def wsX4_count : List Cond := .code yX4_count cX4_count 2 (some .int) :: ((wsX4_count_r1 ++ (wsX4_count_r2 ++ (wsX4_count_r3 ++ (wsX4_count_r4 ++ (wsX4_count_r5 ++ (wsX4_count_r6 ++ wsX4_count_r7)))))) ++ wsX40 ++ wsX00 ++ wsX10 ++ wsX20 ++ wsX30)
def wsX5_init_r1 : List Cond := [Cond.methodLink RX5 1 objectInit, Cond.instanceMethod objectInit, Cond.code objectInit ⟨#[0xb1]⟩ 1 none, Cond.arrayClass .int, Cond.fieldLink RX5 7 "FairLoopsModel" "asks" "[I", Cond.fieldLink RX5 13 "FairLoopsModel" "from" "[I", Cond.fieldLink RX5 16 "FairLoopsModel" "to" "[I", Cond.fieldLink RX5 19 "FairLoopsModel" "labelOf" "[I", Cond.fieldLink RX5 22 "FairLoopsModel" "how" "[I", Cond.fieldLink RX5 25 "FairLoopsModel" "first" "[I", Cond.fieldLink RX5 28 "FairLoopsModel" "last" "[I", Cond.fieldLink RX5 31 "FairLoopsModel" "next" "[I", Cond.arrayClass .boolean, Cond.fieldLink RX5 34 "FairLoopsModel" "end" "[Z", Cond.fieldLink RX5 38 "FairLoopsModel" "queue" "[I", Cond.fieldLink RX5 41 "FairLoopsModel" "by" "[I", Cond.fieldLink RX5 44 "FairLoopsModel" "row" "[I", Cond.fieldLink RX5 47 "FairLoopsModel" "isReached" "[Z", Cond.fieldLink RX5 50 "FairLoopsModel" "lookedAt" "I", Cond.fieldLink RX5 54 "FairLoopsModel" "alive" "[Z", Cond.constant RX5 57 (40000), Cond.fieldLink RX5 58 "FairLoopsModel" "reach" "[Z", Cond.fieldLink RX5 61 "FairLoopsModel" "its" "[Z", Cond.fieldLink RX5 64 "FairLoopsModel" "fairly" "[Z"]
def wsX5_init_r2 : List Cond := [Cond.fieldLink RX5 67 "FairLoopsModel" "partOf" "[I", Cond.fieldLink RX5 70 "FairLoopsModel" "longestFrom" "[I"]
def wsX5_init : List Cond := .code yX5_init cX5_init 1 none :: ((wsX5_init_r1 ++ wsX5_init_r2) ++ wsX50)
def wsX5_thrown : List Cond := .code yX5_thrown cX5_thrown 1 (some .int) :: ([.fieldLink RX5 73 "FairLoopsModel" "thrown" "I"] ++ wsX50)
def wsX5_changed : List Cond := .code yX5_changed cX5_changed 1 none :: ([.fieldLink RX5 76 "FairLoopsModel" "known" "Z", .fieldLink RX5 50 "FairLoopsModel" "lookedAt" "I"] ++ wsX50)
def wsX5_state : List Cond := .code yX5_state cX5_state 3 (some .int) :: ([.fieldLink RX5 80 "FairLoopsModel" "states" "I", .fieldLink RX5 73 "FairLoopsModel" "thrown" "I", .fieldLink RX5 7 "FairLoopsModel" "asks" "[I", .fieldLink RX5 34 "FairLoopsModel" "end" "[Z", .fieldLink RX5 25 "FairLoopsModel" "first" "[I", .fieldLink RX5 28 "FairLoopsModel" "last" "[I", .methodLink RX5 83 yX5_changed, .instanceMethod yX5_changed, .selects RX5 yX5_changed yX5_changed, .initialized RX5, .code yX5_changed cX5_changed 1 none, .fieldLink RX5 76 "FairLoopsModel" "known" "Z", .fieldLink RX5 50 "FairLoopsModel" "lookedAt" "I"] ++ wsX50)
def wsX5_isState : List Cond := .code yX5_isState cX5_isState 2 (some .boolean) :: ([.fieldLink RX5 80 "FairLoopsModel" "states" "I"] ++ wsX50)
def wsX5_move : List Cond := .code yX5_move cX5_move 5 (some .int) :: ([.fieldLink RX5 90 "FairLoopsModel" "moves" "I", .fieldLink RX5 73 "FairLoopsModel" "thrown" "I", .fieldLink RX5 13 "FairLoopsModel" "from" "[I", .fieldLink RX5 16 "FairLoopsModel" "to" "[I", .fieldLink RX5 19 "FairLoopsModel" "labelOf" "[I", .fieldLink RX5 31 "FairLoopsModel" "next" "[I", .fieldLink RX5 25 "FairLoopsModel" "first" "[I", .fieldLink RX5 28 "FairLoopsModel" "last" "[I", .methodLink RX5 86 yX5_isState, .instanceMethod yX5_isState, .selects RX5 yX5_isState yX5_isState, .initialized RX5, .code yX5_isState cX5_isState 2 (some .boolean), .fieldLink RX5 80 "FairLoopsModel" "states" "I", .methodLink RX5 83 yX5_changed, .instanceMethod yX5_changed, .selects RX5 yX5_changed yX5_changed, .code yX5_changed cX5_changed 1 none, .fieldLink RX5 76 "FairLoopsModel" "known" "Z", .fieldLink RX5 50 "FairLoopsModel" "lookedAt" "I"] ++ wsX50)
def wsX5_label : List Cond := .code yX5_label cX5_label 4 (some .int) :: ([.fieldLink RX5 73 "FairLoopsModel" "thrown" "I", .fieldLink RX5 22 "FairLoopsModel" "how" "[I", .methodLink RX5 83 yX5_changed, .instanceMethod yX5_changed, .selects RX5 yX5_changed yX5_changed, .initialized RX5, .code yX5_changed cX5_changed 1 none, .fieldLink RX5 76 "FairLoopsModel" "known" "Z", .fieldLink RX5 50 "FairLoopsModel" "lookedAt" "I"] ++ wsX50)
def wsX5_walk : List Cond := .code yX5_walk cX5_walk 3 none :: ([.fieldLink RX5 76 "FairLoopsModel" "known" "Z", .fieldLink RX5 93 "FairLoopsModel" "come" "I", .fieldLink RX5 80 "FairLoopsModel" "states" "I", .fieldLink RX5 47 "FairLoopsModel" "isReached" "[Z", .fieldLink RX5 41 "FairLoopsModel" "by" "[I", .fieldLink RX5 38 "FairLoopsModel" "queue" "[I", .fieldLink RX5 25 "FairLoopsModel" "first" "[I", .fieldLink RX5 16 "FairLoopsModel" "to" "[I", .fieldLink RX5 31 "FairLoopsModel" "next" "[I"] ++ wsX50)
def wsX5_reached : List Cond := .code yX5_reached cX5_reached 1 (some .int) :: ([.fieldLink RX5 73 "FairLoopsModel" "thrown" "I", .fieldLink RX5 93 "FairLoopsModel" "come" "I", .methodLink RX5 96 yX5_walk, .instanceMethod yX5_walk, .selects RX5 yX5_walk yX5_walk, .initialized RX5, .code yX5_walk cX5_walk 3 none, .fieldLink RX5 76 "FairLoopsModel" "known" "Z", .fieldLink RX5 80 "FairLoopsModel" "states" "I", .fieldLink RX5 47 "FairLoopsModel" "isReached" "[Z", .fieldLink RX5 41 "FairLoopsModel" "by" "[I", .fieldLink RX5 38 "FairLoopsModel" "queue" "[I", .fieldLink RX5 25 "FairLoopsModel" "first" "[I", .fieldLink RX5 16 "FairLoopsModel" "to" "[I", .fieldLink RX5 31 "FairLoopsModel" "next" "[I"] ++ wsX50)
def wsX5_row : List Cond := .code yX5_row cX5_row 5 (some .int) :: ([.fieldLink RX5 73 "FairLoopsModel" "thrown" "I", .fieldLink RX5 47 "FairLoopsModel" "isReached" "[Z", .fieldLink RX5 41 "FairLoopsModel" "by" "[I", .fieldLink RX5 44 "FairLoopsModel" "row" "[I", .fieldLink RX5 13 "FairLoopsModel" "from" "[I", .methodLink RX5 86 yX5_isState, .instanceMethod yX5_isState, .selects RX5 yX5_isState yX5_isState, .initialized RX5, .code yX5_isState cX5_isState 2 (some .boolean), .fieldLink RX5 80 "FairLoopsModel" "states" "I", .methodLink RX5 96 yX5_walk, .instanceMethod yX5_walk, .selects RX5 yX5_walk yX5_walk, .code yX5_walk cX5_walk 3 none, .fieldLink RX5 76 "FairLoopsModel" "known" "Z", .fieldLink RX5 93 "FairLoopsModel" "come" "I", .fieldLink RX5 38 "FairLoopsModel" "queue" "[I", .fieldLink RX5 25 "FairLoopsModel" "first" "[I", .fieldLink RX5 16 "FairLoopsModel" "to" "[I", .fieldLink RX5 31 "FairLoopsModel" "next" "[I"] ++ wsX50)
def wsX5_spread : List Cond := .code yX5_spread cX5_spread 7 none :: ([.fieldLink RX5 38 "FairLoopsModel" "queue" "[I", .fieldLink RX5 25 "FairLoopsModel" "first" "[I", .fieldLink RX5 16 "FairLoopsModel" "to" "[I", .fieldLink RX5 54 "FairLoopsModel" "alive" "[Z", .fieldLink RX5 58 "FairLoopsModel" "reach" "[Z", .fieldLink RX5 31 "FairLoopsModel" "next" "[I"] ++ wsX50)
def wsX5_close : List Cond := .code yX5_close cX5_close 3 none :: ([.fieldLink RX5 80 "FairLoopsModel" "states" "I", .fieldLink RX5 58 "FairLoopsModel" "reach" "[Z", .fieldLink RX5 54 "FairLoopsModel" "alive" "[Z", .methodLink RX5 99 yX5_spread, .instanceMethod yX5_spread, .selects RX5 yX5_spread yX5_spread, .initialized RX5, .code yX5_spread cX5_spread 7 none, .fieldLink RX5 38 "FairLoopsModel" "queue" "[I", .fieldLink RX5 25 "FairLoopsModel" "first" "[I", .fieldLink RX5 16 "FairLoopsModel" "to" "[I", .fieldLink RX5 31 "FairLoopsModel" "next" "[I"] ++ wsX50)
def wsX5_together : List Cond := .code yX5_together cX5_together 3 (some .boolean) :: ([.fieldLink RX5 58 "FairLoopsModel" "reach" "[Z"] ++ wsX50)
def wsX5_divide : List Cond := .code yX5_divide cX5_divide 4 (some .int) :: ([.fieldLink RX5 80 "FairLoopsModel" "states" "I", .fieldLink RX5 67 "FairLoopsModel" "partOf" "[I", .fieldLink RX5 54 "FairLoopsModel" "alive" "[Z", .methodLink RX5 103 yX5_close, .instanceMethod yX5_close, .selects RX5 yX5_close yX5_close, .initialized RX5, .code yX5_close cX5_close 3 none, .fieldLink RX5 58 "FairLoopsModel" "reach" "[Z", .methodLink RX5 99 yX5_spread, .instanceMethod yX5_spread, .selects RX5 yX5_spread yX5_spread, .code yX5_spread cX5_spread 7 none, .fieldLink RX5 38 "FairLoopsModel" "queue" "[I", .fieldLink RX5 25 "FairLoopsModel" "first" "[I", .fieldLink RX5 16 "FairLoopsModel" "to" "[I", .fieldLink RX5 31 "FairLoopsModel" "next" "[I", .methodLink RX5 106 yX5_together, .instanceMethod yX5_together, .selects RX5 yX5_together yX5_together, .code yX5_together cX5_together 3 (some .boolean)] ++ wsX50)
def wsX5_isAble : List Cond := .code yX5_isAble cX5_isAble 5 (some .boolean) :: ([.fieldLink RX5 25 "FairLoopsModel" "first" "[I", .fieldLink RX5 19 "FairLoopsModel" "labelOf" "[I", .fieldLink RX5 31 "FairLoopsModel" "next" "[I"] ++ wsX50)
def wsX5_isTaken : List Cond := .code yX5_isTaken cX5_isTaken 5 (some .boolean) :: ([.fieldLink RX5 90 "FairLoopsModel" "moves" "I", .fieldLink RX5 19 "FairLoopsModel" "labelOf" "[I", .fieldLink RX5 67 "FairLoopsModel" "partOf" "[I", .fieldLink RX5 13 "FairLoopsModel" "from" "[I", .fieldLink RX5 16 "FairLoopsModel" "to" "[I"] ++ wsX50)
def wsX5_takeAway : List Cond := .code yX5_takeAway cX5_takeAway 7 (some .boolean) :: ([.fieldLink RX5 22 "FairLoopsModel" "how" "[I", .fieldLink RX5 80 "FairLoopsModel" "states" "I", .fieldLink RX5 67 "FairLoopsModel" "partOf" "[I", .fieldLink RX5 54 "FairLoopsModel" "alive" "[Z", .methodLink RX5 110 yX5_isTaken, .instanceMethod yX5_isTaken, .selects RX5 yX5_isTaken yX5_isTaken, .initialized RX5, .code yX5_isTaken cX5_isTaken 5 (some .boolean), .fieldLink RX5 90 "FairLoopsModel" "moves" "I", .fieldLink RX5 19 "FairLoopsModel" "labelOf" "[I", .fieldLink RX5 13 "FairLoopsModel" "from" "[I", .fieldLink RX5 16 "FairLoopsModel" "to" "[I", .methodLink RX5 113 yX5_isAble, .instanceMethod yX5_isAble, .selects RX5 yX5_isAble yX5_isAble, .code yX5_isAble cX5_isAble 5 (some .boolean), .fieldLink RX5 25 "FairLoopsModel" "first" "[I", .fieldLink RX5 31 "FairLoopsModel" "next" "[I"] ++ wsX50)
def wsX5_shrink : List Cond := .code yX5_shrink cX5_shrink 6 (some .boolean) :: ([.methodLink RX5 116 yX5_takeAway, .instanceMethod yX5_takeAway, .selects RX5 yX5_takeAway yX5_takeAway, .initialized RX5, .code yX5_takeAway cX5_takeAway 7 (some .boolean), .fieldLink RX5 22 "FairLoopsModel" "how" "[I", .fieldLink RX5 80 "FairLoopsModel" "states" "I", .fieldLink RX5 67 "FairLoopsModel" "partOf" "[I", .fieldLink RX5 54 "FairLoopsModel" "alive" "[Z", .methodLink RX5 110 yX5_isTaken, .instanceMethod yX5_isTaken, .selects RX5 yX5_isTaken yX5_isTaken, .code yX5_isTaken cX5_isTaken 5 (some .boolean), .fieldLink RX5 90 "FairLoopsModel" "moves" "I", .fieldLink RX5 19 "FairLoopsModel" "labelOf" "[I", .fieldLink RX5 13 "FairLoopsModel" "from" "[I", .fieldLink RX5 16 "FairLoopsModel" "to" "[I", .methodLink RX5 113 yX5_isAble, .instanceMethod yX5_isAble, .selects RX5 yX5_isAble yX5_isAble, .code yX5_isAble cX5_isAble 5 (some .boolean), .fieldLink RX5 25 "FairLoopsModel" "first" "[I", .fieldLink RX5 31 "FairLoopsModel" "next" "[I"] ++ wsX50)
def wsX5_look_r1 : List Cond := [Cond.fieldLink RX5 50 "FairLoopsModel" "lookedAt" "I", Cond.fieldLink RX5 80 "FairLoopsModel" "states" "I", Cond.fieldLink RX5 61 "FairLoopsModel" "its" "[Z", Cond.fieldLink RX5 47 "FairLoopsModel" "isReached" "[Z", Cond.fieldLink RX5 7 "FairLoopsModel" "asks" "[I", Cond.fieldLink RX5 54 "FairLoopsModel" "alive" "[Z", Cond.fieldLink RX5 123 "FairLoopsModel" "whole" "I", Cond.fieldLink RX5 67 "FairLoopsModel" "partOf" "[I", Cond.fieldLink RX5 129 "FairLoopsModel" "parts" "I", Cond.fieldLink RX5 76 "FairLoopsModel" "known" "Z", Cond.methodLink RX5 96 yX5_walk, Cond.instanceMethod yX5_walk, Cond.selects RX5 yX5_walk yX5_walk, Cond.initialized RX5, Cond.code yX5_walk cX5_walk 3 none, Cond.fieldLink RX5 93 "FairLoopsModel" "come" "I", Cond.fieldLink RX5 41 "FairLoopsModel" "by" "[I", Cond.fieldLink RX5 38 "FairLoopsModel" "queue" "[I", Cond.fieldLink RX5 25 "FairLoopsModel" "first" "[I", Cond.fieldLink RX5 16 "FairLoopsModel" "to" "[I", Cond.fieldLink RX5 31 "FairLoopsModel" "next" "[I", Cond.methodLink RX5 119 yX5_divide, Cond.instanceMethod yX5_divide, Cond.selects RX5 yX5_divide yX5_divide]
def wsX5_look_r2 : List Cond := [Cond.code yX5_divide cX5_divide 4 (some .int), Cond.methodLink RX5 103 yX5_close, Cond.instanceMethod yX5_close, Cond.selects RX5 yX5_close yX5_close, Cond.code yX5_close cX5_close 3 none, Cond.fieldLink RX5 58 "FairLoopsModel" "reach" "[Z", Cond.methodLink RX5 99 yX5_spread, Cond.instanceMethod yX5_spread, Cond.selects RX5 yX5_spread yX5_spread, Cond.code yX5_spread cX5_spread 7 none, Cond.methodLink RX5 106 yX5_together, Cond.instanceMethod yX5_together, Cond.selects RX5 yX5_together yX5_together, Cond.code yX5_together cX5_together 3 (some .boolean), Cond.methodLink RX5 126 yX5_shrink, Cond.instanceMethod yX5_shrink, Cond.selects RX5 yX5_shrink yX5_shrink, Cond.code yX5_shrink cX5_shrink 6 (some .boolean), Cond.methodLink RX5 116 yX5_takeAway, Cond.instanceMethod yX5_takeAway, Cond.selects RX5 yX5_takeAway yX5_takeAway, Cond.code yX5_takeAway cX5_takeAway 7 (some .boolean), Cond.fieldLink RX5 22 "FairLoopsModel" "how" "[I", Cond.methodLink RX5 110 yX5_isTaken]
def wsX5_look_r3 : List Cond := [Cond.instanceMethod yX5_isTaken, Cond.selects RX5 yX5_isTaken yX5_isTaken, Cond.code yX5_isTaken cX5_isTaken 5 (some .boolean), Cond.fieldLink RX5 90 "FairLoopsModel" "moves" "I", Cond.fieldLink RX5 19 "FairLoopsModel" "labelOf" "[I", Cond.fieldLink RX5 13 "FairLoopsModel" "from" "[I", Cond.methodLink RX5 113 yX5_isAble, Cond.instanceMethod yX5_isAble, Cond.selects RX5 yX5_isAble yX5_isAble, Cond.code yX5_isAble cX5_isAble 5 (some .boolean)]
def wsX5_look : List Cond := .code yX5_look cX5_look 6 none :: ((wsX5_look_r1 ++ (wsX5_look_r2 ++ wsX5_look_r3)) ++ wsX50)
def wsX5_isAsk : List Cond := .code yX5_isAsk cX5_isAsk 2 (some .boolean) :: ([.fieldLink RX5 73 "FairLoopsModel" "thrown" "I"] ++ wsX50)
def wsX5_begins : List Cond := .code yX5_begins cX5_begins 2 (some .boolean) :: ([.fieldLink RX5 25 "FairLoopsModel" "first" "[I"] ++ wsX50)
def wsX5_isDead : List Cond := .code yX5_isDead cX5_isDead 2 (some .boolean) :: ([.fieldLink RX5 61 "FairLoopsModel" "its" "[Z", .fieldLink RX5 34 "FairLoopsModel" "end" "[Z", .methodLink RX5 132 yX5_begins, .instanceMethod yX5_begins, .selects RX5 yX5_begins yX5_begins, .initialized RX5, .code yX5_begins cX5_begins 2 (some .boolean), .fieldLink RX5 25 "FairLoopsModel" "first" "[I"] ++ wsX50)
def wsX5_isLive_r1 : List Cond := [Cond.fieldLink RX5 129 "FairLoopsModel" "parts" "I", Cond.fieldLink RX5 80 "FairLoopsModel" "states" "I", Cond.methodLink RX5 135 yX5_look, Cond.instanceMethod yX5_look, Cond.selects RX5 yX5_look yX5_look, Cond.initialized RX5, Cond.code yX5_look cX5_look 6 none, Cond.fieldLink RX5 50 "FairLoopsModel" "lookedAt" "I", Cond.fieldLink RX5 61 "FairLoopsModel" "its" "[Z", Cond.fieldLink RX5 47 "FairLoopsModel" "isReached" "[Z", Cond.fieldLink RX5 7 "FairLoopsModel" "asks" "[I", Cond.fieldLink RX5 54 "FairLoopsModel" "alive" "[Z", Cond.fieldLink RX5 123 "FairLoopsModel" "whole" "I", Cond.fieldLink RX5 67 "FairLoopsModel" "partOf" "[I", Cond.fieldLink RX5 76 "FairLoopsModel" "known" "Z", Cond.methodLink RX5 96 yX5_walk, Cond.instanceMethod yX5_walk, Cond.selects RX5 yX5_walk yX5_walk, Cond.code yX5_walk cX5_walk 3 none, Cond.fieldLink RX5 93 "FairLoopsModel" "come" "I", Cond.fieldLink RX5 41 "FairLoopsModel" "by" "[I", Cond.fieldLink RX5 38 "FairLoopsModel" "queue" "[I", Cond.fieldLink RX5 25 "FairLoopsModel" "first" "[I", Cond.fieldLink RX5 16 "FairLoopsModel" "to" "[I"]
def wsX5_isLive_r2 : List Cond := [Cond.fieldLink RX5 31 "FairLoopsModel" "next" "[I", Cond.methodLink RX5 119 yX5_divide, Cond.instanceMethod yX5_divide, Cond.selects RX5 yX5_divide yX5_divide, Cond.code yX5_divide cX5_divide 4 (some .int), Cond.methodLink RX5 103 yX5_close, Cond.instanceMethod yX5_close, Cond.selects RX5 yX5_close yX5_close, Cond.code yX5_close cX5_close 3 none, Cond.fieldLink RX5 58 "FairLoopsModel" "reach" "[Z", Cond.methodLink RX5 99 yX5_spread, Cond.instanceMethod yX5_spread, Cond.selects RX5 yX5_spread yX5_spread, Cond.code yX5_spread cX5_spread 7 none, Cond.methodLink RX5 106 yX5_together, Cond.instanceMethod yX5_together, Cond.selects RX5 yX5_together yX5_together, Cond.code yX5_together cX5_together 3 (some .boolean), Cond.methodLink RX5 126 yX5_shrink, Cond.instanceMethod yX5_shrink, Cond.selects RX5 yX5_shrink yX5_shrink, Cond.code yX5_shrink cX5_shrink 6 (some .boolean), Cond.methodLink RX5 116 yX5_takeAway, Cond.instanceMethod yX5_takeAway]
def wsX5_isLive_r3 : List Cond := [Cond.selects RX5 yX5_takeAway yX5_takeAway, Cond.code yX5_takeAway cX5_takeAway 7 (some .boolean), Cond.fieldLink RX5 22 "FairLoopsModel" "how" "[I", Cond.methodLink RX5 110 yX5_isTaken, Cond.instanceMethod yX5_isTaken, Cond.selects RX5 yX5_isTaken yX5_isTaken, Cond.code yX5_isTaken cX5_isTaken 5 (some .boolean), Cond.fieldLink RX5 90 "FairLoopsModel" "moves" "I", Cond.fieldLink RX5 19 "FairLoopsModel" "labelOf" "[I", Cond.fieldLink RX5 13 "FairLoopsModel" "from" "[I", Cond.methodLink RX5 113 yX5_isAble, Cond.instanceMethod yX5_isAble, Cond.selects RX5 yX5_isAble yX5_isAble, Cond.code yX5_isAble cX5_isAble 5 (some .boolean), Cond.methodLink RX5 138 yX5_isDead, Cond.instanceMethod yX5_isDead, Cond.selects RX5 yX5_isDead yX5_isDead, Cond.code yX5_isDead cX5_isDead 2 (some .boolean), Cond.fieldLink RX5 34 "FairLoopsModel" "end" "[Z", Cond.methodLink RX5 132 yX5_begins, Cond.instanceMethod yX5_begins, Cond.selects RX5 yX5_begins yX5_begins, Cond.code yX5_begins cX5_begins 2 (some .boolean)]
def wsX5_isLive : List Cond := .code yX5_isLive cX5_isLive 4 (some .boolean) :: ((wsX5_isLive_r1 ++ (wsX5_isLive_r2 ++ wsX5_isLive_r3)) ++ wsX50)
def wsX5_live_r1 : List Cond := [Cond.methodLink RX5 141 yX5_isAsk, Cond.instanceMethod yX5_isAsk, Cond.selects RX5 yX5_isAsk yX5_isAsk, Cond.initialized RX5, Cond.code yX5_isAsk cX5_isAsk 2 (some .boolean), Cond.fieldLink RX5 73 "FairLoopsModel" "thrown" "I", Cond.methodLink RX5 144 yX5_isLive, Cond.instanceMethod yX5_isLive, Cond.selects RX5 yX5_isLive yX5_isLive, Cond.code yX5_isLive cX5_isLive 4 (some .boolean), Cond.fieldLink RX5 129 "FairLoopsModel" "parts" "I", Cond.fieldLink RX5 80 "FairLoopsModel" "states" "I", Cond.methodLink RX5 135 yX5_look, Cond.instanceMethod yX5_look, Cond.selects RX5 yX5_look yX5_look, Cond.code yX5_look cX5_look 6 none, Cond.fieldLink RX5 50 "FairLoopsModel" "lookedAt" "I", Cond.fieldLink RX5 61 "FairLoopsModel" "its" "[Z", Cond.fieldLink RX5 47 "FairLoopsModel" "isReached" "[Z", Cond.fieldLink RX5 7 "FairLoopsModel" "asks" "[I", Cond.fieldLink RX5 54 "FairLoopsModel" "alive" "[Z", Cond.fieldLink RX5 123 "FairLoopsModel" "whole" "I", Cond.fieldLink RX5 67 "FairLoopsModel" "partOf" "[I", Cond.fieldLink RX5 76 "FairLoopsModel" "known" "Z"]
def wsX5_live_r2 : List Cond := [Cond.methodLink RX5 96 yX5_walk, Cond.instanceMethod yX5_walk, Cond.selects RX5 yX5_walk yX5_walk, Cond.code yX5_walk cX5_walk 3 none, Cond.fieldLink RX5 93 "FairLoopsModel" "come" "I", Cond.fieldLink RX5 41 "FairLoopsModel" "by" "[I", Cond.fieldLink RX5 38 "FairLoopsModel" "queue" "[I", Cond.fieldLink RX5 25 "FairLoopsModel" "first" "[I", Cond.fieldLink RX5 16 "FairLoopsModel" "to" "[I", Cond.fieldLink RX5 31 "FairLoopsModel" "next" "[I", Cond.methodLink RX5 119 yX5_divide, Cond.instanceMethod yX5_divide, Cond.selects RX5 yX5_divide yX5_divide, Cond.code yX5_divide cX5_divide 4 (some .int), Cond.methodLink RX5 103 yX5_close, Cond.instanceMethod yX5_close, Cond.selects RX5 yX5_close yX5_close, Cond.code yX5_close cX5_close 3 none, Cond.fieldLink RX5 58 "FairLoopsModel" "reach" "[Z", Cond.methodLink RX5 99 yX5_spread, Cond.instanceMethod yX5_spread, Cond.selects RX5 yX5_spread yX5_spread, Cond.code yX5_spread cX5_spread 7 none, Cond.methodLink RX5 106 yX5_together]
def wsX5_live_r3 : List Cond := [Cond.instanceMethod yX5_together, Cond.selects RX5 yX5_together yX5_together, Cond.code yX5_together cX5_together 3 (some .boolean), Cond.methodLink RX5 126 yX5_shrink, Cond.instanceMethod yX5_shrink, Cond.selects RX5 yX5_shrink yX5_shrink, Cond.code yX5_shrink cX5_shrink 6 (some .boolean), Cond.methodLink RX5 116 yX5_takeAway, Cond.instanceMethod yX5_takeAway, Cond.selects RX5 yX5_takeAway yX5_takeAway, Cond.code yX5_takeAway cX5_takeAway 7 (some .boolean), Cond.fieldLink RX5 22 "FairLoopsModel" "how" "[I", Cond.methodLink RX5 110 yX5_isTaken, Cond.instanceMethod yX5_isTaken, Cond.selects RX5 yX5_isTaken yX5_isTaken, Cond.code yX5_isTaken cX5_isTaken 5 (some .boolean), Cond.fieldLink RX5 90 "FairLoopsModel" "moves" "I", Cond.fieldLink RX5 19 "FairLoopsModel" "labelOf" "[I", Cond.fieldLink RX5 13 "FairLoopsModel" "from" "[I", Cond.methodLink RX5 113 yX5_isAble, Cond.instanceMethod yX5_isAble, Cond.selects RX5 yX5_isAble yX5_isAble, Cond.code yX5_isAble cX5_isAble 5 (some .boolean), Cond.methodLink RX5 138 yX5_isDead]
def wsX5_live_r4 : List Cond := [Cond.instanceMethod yX5_isDead, Cond.selects RX5 yX5_isDead yX5_isDead, Cond.code yX5_isDead cX5_isDead 2 (some .boolean), Cond.fieldLink RX5 34 "FairLoopsModel" "end" "[Z", Cond.methodLink RX5 132 yX5_begins, Cond.instanceMethod yX5_begins, Cond.selects RX5 yX5_begins yX5_begins, Cond.code yX5_begins cX5_begins 2 (some .boolean)]
def wsX5_live : List Cond := .code yX5_live cX5_live 2 (some .boolean) :: ((wsX5_live_r1 ++ (wsX5_live_r2 ++ (wsX5_live_r3 ++ wsX5_live_r4))) ++ wsX50)
def wsX5_parts_r1 : List Cond := [Cond.fieldLink RX5 129 "FairLoopsModel" "parts" "I", Cond.methodLink RX5 141 yX5_isAsk, Cond.instanceMethod yX5_isAsk, Cond.selects RX5 yX5_isAsk yX5_isAsk, Cond.initialized RX5, Cond.code yX5_isAsk cX5_isAsk 2 (some .boolean), Cond.fieldLink RX5 73 "FairLoopsModel" "thrown" "I", Cond.methodLink RX5 135 yX5_look, Cond.instanceMethod yX5_look, Cond.selects RX5 yX5_look yX5_look, Cond.code yX5_look cX5_look 6 none, Cond.fieldLink RX5 50 "FairLoopsModel" "lookedAt" "I", Cond.fieldLink RX5 80 "FairLoopsModel" "states" "I", Cond.fieldLink RX5 61 "FairLoopsModel" "its" "[Z", Cond.fieldLink RX5 47 "FairLoopsModel" "isReached" "[Z", Cond.fieldLink RX5 7 "FairLoopsModel" "asks" "[I", Cond.fieldLink RX5 54 "FairLoopsModel" "alive" "[Z", Cond.fieldLink RX5 123 "FairLoopsModel" "whole" "I", Cond.fieldLink RX5 67 "FairLoopsModel" "partOf" "[I", Cond.fieldLink RX5 76 "FairLoopsModel" "known" "Z", Cond.methodLink RX5 96 yX5_walk, Cond.instanceMethod yX5_walk, Cond.selects RX5 yX5_walk yX5_walk, Cond.code yX5_walk cX5_walk 3 none]
def wsX5_parts_r2 : List Cond := [Cond.fieldLink RX5 93 "FairLoopsModel" "come" "I", Cond.fieldLink RX5 41 "FairLoopsModel" "by" "[I", Cond.fieldLink RX5 38 "FairLoopsModel" "queue" "[I", Cond.fieldLink RX5 25 "FairLoopsModel" "first" "[I", Cond.fieldLink RX5 16 "FairLoopsModel" "to" "[I", Cond.fieldLink RX5 31 "FairLoopsModel" "next" "[I", Cond.methodLink RX5 119 yX5_divide, Cond.instanceMethod yX5_divide, Cond.selects RX5 yX5_divide yX5_divide, Cond.code yX5_divide cX5_divide 4 (some .int), Cond.methodLink RX5 103 yX5_close, Cond.instanceMethod yX5_close, Cond.selects RX5 yX5_close yX5_close, Cond.code yX5_close cX5_close 3 none, Cond.fieldLink RX5 58 "FairLoopsModel" "reach" "[Z", Cond.methodLink RX5 99 yX5_spread, Cond.instanceMethod yX5_spread, Cond.selects RX5 yX5_spread yX5_spread, Cond.code yX5_spread cX5_spread 7 none, Cond.methodLink RX5 106 yX5_together, Cond.instanceMethod yX5_together, Cond.selects RX5 yX5_together yX5_together, Cond.code yX5_together cX5_together 3 (some .boolean), Cond.methodLink RX5 126 yX5_shrink]
def wsX5_parts_r3 : List Cond := [Cond.instanceMethod yX5_shrink, Cond.selects RX5 yX5_shrink yX5_shrink, Cond.code yX5_shrink cX5_shrink 6 (some .boolean), Cond.methodLink RX5 116 yX5_takeAway, Cond.instanceMethod yX5_takeAway, Cond.selects RX5 yX5_takeAway yX5_takeAway, Cond.code yX5_takeAway cX5_takeAway 7 (some .boolean), Cond.fieldLink RX5 22 "FairLoopsModel" "how" "[I", Cond.methodLink RX5 110 yX5_isTaken, Cond.instanceMethod yX5_isTaken, Cond.selects RX5 yX5_isTaken yX5_isTaken, Cond.code yX5_isTaken cX5_isTaken 5 (some .boolean), Cond.fieldLink RX5 90 "FairLoopsModel" "moves" "I", Cond.fieldLink RX5 19 "FairLoopsModel" "labelOf" "[I", Cond.fieldLink RX5 13 "FairLoopsModel" "from" "[I", Cond.methodLink RX5 113 yX5_isAble, Cond.instanceMethod yX5_isAble, Cond.selects RX5 yX5_isAble yX5_isAble, Cond.code yX5_isAble cX5_isAble 5 (some .boolean)]
def wsX5_parts : List Cond := .code yX5_parts cX5_parts 2 (some .int) :: ((wsX5_parts_r1 ++ (wsX5_parts_r2 ++ wsX5_parts_r3)) ++ wsX50)
def wsX5_part_r1 : List Cond := [Cond.fieldLink RX5 80 "FairLoopsModel" "states" "I", Cond.fieldLink RX5 67 "FairLoopsModel" "partOf" "[I", Cond.fieldLink RX5 73 "FairLoopsModel" "thrown" "I", Cond.methodLink RX5 141 yX5_isAsk, Cond.instanceMethod yX5_isAsk, Cond.selects RX5 yX5_isAsk yX5_isAsk, Cond.initialized RX5, Cond.code yX5_isAsk cX5_isAsk 2 (some .boolean), Cond.methodLink RX5 135 yX5_look, Cond.instanceMethod yX5_look, Cond.selects RX5 yX5_look yX5_look, Cond.code yX5_look cX5_look 6 none, Cond.fieldLink RX5 50 "FairLoopsModel" "lookedAt" "I", Cond.fieldLink RX5 61 "FairLoopsModel" "its" "[Z", Cond.fieldLink RX5 47 "FairLoopsModel" "isReached" "[Z", Cond.fieldLink RX5 7 "FairLoopsModel" "asks" "[I", Cond.fieldLink RX5 54 "FairLoopsModel" "alive" "[Z", Cond.fieldLink RX5 123 "FairLoopsModel" "whole" "I", Cond.fieldLink RX5 129 "FairLoopsModel" "parts" "I", Cond.fieldLink RX5 76 "FairLoopsModel" "known" "Z", Cond.methodLink RX5 96 yX5_walk, Cond.instanceMethod yX5_walk, Cond.selects RX5 yX5_walk yX5_walk, Cond.code yX5_walk cX5_walk 3 none]
def wsX5_part_r2 : List Cond := [Cond.fieldLink RX5 93 "FairLoopsModel" "come" "I", Cond.fieldLink RX5 41 "FairLoopsModel" "by" "[I", Cond.fieldLink RX5 38 "FairLoopsModel" "queue" "[I", Cond.fieldLink RX5 25 "FairLoopsModel" "first" "[I", Cond.fieldLink RX5 16 "FairLoopsModel" "to" "[I", Cond.fieldLink RX5 31 "FairLoopsModel" "next" "[I", Cond.methodLink RX5 119 yX5_divide, Cond.instanceMethod yX5_divide, Cond.selects RX5 yX5_divide yX5_divide, Cond.code yX5_divide cX5_divide 4 (some .int), Cond.methodLink RX5 103 yX5_close, Cond.instanceMethod yX5_close, Cond.selects RX5 yX5_close yX5_close, Cond.code yX5_close cX5_close 3 none, Cond.fieldLink RX5 58 "FairLoopsModel" "reach" "[Z", Cond.methodLink RX5 99 yX5_spread, Cond.instanceMethod yX5_spread, Cond.selects RX5 yX5_spread yX5_spread, Cond.code yX5_spread cX5_spread 7 none, Cond.methodLink RX5 106 yX5_together, Cond.instanceMethod yX5_together, Cond.selects RX5 yX5_together yX5_together, Cond.code yX5_together cX5_together 3 (some .boolean), Cond.methodLink RX5 126 yX5_shrink]
def wsX5_part_r3 : List Cond := [Cond.instanceMethod yX5_shrink, Cond.selects RX5 yX5_shrink yX5_shrink, Cond.code yX5_shrink cX5_shrink 6 (some .boolean), Cond.methodLink RX5 116 yX5_takeAway, Cond.instanceMethod yX5_takeAway, Cond.selects RX5 yX5_takeAway yX5_takeAway, Cond.code yX5_takeAway cX5_takeAway 7 (some .boolean), Cond.fieldLink RX5 22 "FairLoopsModel" "how" "[I", Cond.methodLink RX5 110 yX5_isTaken, Cond.instanceMethod yX5_isTaken, Cond.selects RX5 yX5_isTaken yX5_isTaken, Cond.code yX5_isTaken cX5_isTaken 5 (some .boolean), Cond.fieldLink RX5 90 "FairLoopsModel" "moves" "I", Cond.fieldLink RX5 19 "FairLoopsModel" "labelOf" "[I", Cond.fieldLink RX5 13 "FairLoopsModel" "from" "[I", Cond.methodLink RX5 113 yX5_isAble, Cond.instanceMethod yX5_isAble, Cond.selects RX5 yX5_isAble yX5_isAble, Cond.code yX5_isAble cX5_isAble 5 (some .boolean)]
def wsX5_part : List Cond := .code yX5_part cX5_part 6 (some .int) :: ((wsX5_part_r1 ++ (wsX5_part_r2 ++ wsX5_part_r3)) ++ wsX50)
def wsX5_dead_r1 : List Cond := [Cond.fieldLink RX5 80 "FairLoopsModel" "states" "I", Cond.fieldLink RX5 73 "FairLoopsModel" "thrown" "I", Cond.methodLink RX5 141 yX5_isAsk, Cond.instanceMethod yX5_isAsk, Cond.selects RX5 yX5_isAsk yX5_isAsk, Cond.initialized RX5, Cond.code yX5_isAsk cX5_isAsk 2 (some .boolean), Cond.methodLink RX5 135 yX5_look, Cond.instanceMethod yX5_look, Cond.selects RX5 yX5_look yX5_look, Cond.code yX5_look cX5_look 6 none, Cond.fieldLink RX5 50 "FairLoopsModel" "lookedAt" "I", Cond.fieldLink RX5 61 "FairLoopsModel" "its" "[Z", Cond.fieldLink RX5 47 "FairLoopsModel" "isReached" "[Z", Cond.fieldLink RX5 7 "FairLoopsModel" "asks" "[I", Cond.fieldLink RX5 54 "FairLoopsModel" "alive" "[Z", Cond.fieldLink RX5 123 "FairLoopsModel" "whole" "I", Cond.fieldLink RX5 67 "FairLoopsModel" "partOf" "[I", Cond.fieldLink RX5 129 "FairLoopsModel" "parts" "I", Cond.fieldLink RX5 76 "FairLoopsModel" "known" "Z", Cond.methodLink RX5 96 yX5_walk, Cond.instanceMethod yX5_walk, Cond.selects RX5 yX5_walk yX5_walk, Cond.code yX5_walk cX5_walk 3 none]
def wsX5_dead_r2 : List Cond := [Cond.fieldLink RX5 93 "FairLoopsModel" "come" "I", Cond.fieldLink RX5 41 "FairLoopsModel" "by" "[I", Cond.fieldLink RX5 38 "FairLoopsModel" "queue" "[I", Cond.fieldLink RX5 25 "FairLoopsModel" "first" "[I", Cond.fieldLink RX5 16 "FairLoopsModel" "to" "[I", Cond.fieldLink RX5 31 "FairLoopsModel" "next" "[I", Cond.methodLink RX5 119 yX5_divide, Cond.instanceMethod yX5_divide, Cond.selects RX5 yX5_divide yX5_divide, Cond.code yX5_divide cX5_divide 4 (some .int), Cond.methodLink RX5 103 yX5_close, Cond.instanceMethod yX5_close, Cond.selects RX5 yX5_close yX5_close, Cond.code yX5_close cX5_close 3 none, Cond.fieldLink RX5 58 "FairLoopsModel" "reach" "[Z", Cond.methodLink RX5 99 yX5_spread, Cond.instanceMethod yX5_spread, Cond.selects RX5 yX5_spread yX5_spread, Cond.code yX5_spread cX5_spread 7 none, Cond.methodLink RX5 106 yX5_together, Cond.instanceMethod yX5_together, Cond.selects RX5 yX5_together yX5_together, Cond.code yX5_together cX5_together 3 (some .boolean), Cond.methodLink RX5 126 yX5_shrink]
def wsX5_dead_r3 : List Cond := [Cond.instanceMethod yX5_shrink, Cond.selects RX5 yX5_shrink yX5_shrink, Cond.code yX5_shrink cX5_shrink 6 (some .boolean), Cond.methodLink RX5 116 yX5_takeAway, Cond.instanceMethod yX5_takeAway, Cond.selects RX5 yX5_takeAway yX5_takeAway, Cond.code yX5_takeAway cX5_takeAway 7 (some .boolean), Cond.fieldLink RX5 22 "FairLoopsModel" "how" "[I", Cond.methodLink RX5 110 yX5_isTaken, Cond.instanceMethod yX5_isTaken, Cond.selects RX5 yX5_isTaken yX5_isTaken, Cond.code yX5_isTaken cX5_isTaken 5 (some .boolean), Cond.fieldLink RX5 90 "FairLoopsModel" "moves" "I", Cond.fieldLink RX5 19 "FairLoopsModel" "labelOf" "[I", Cond.fieldLink RX5 13 "FairLoopsModel" "from" "[I", Cond.methodLink RX5 113 yX5_isAble, Cond.instanceMethod yX5_isAble, Cond.selects RX5 yX5_isAble yX5_isAble, Cond.code yX5_isAble cX5_isAble 5 (some .boolean), Cond.methodLink RX5 138 yX5_isDead, Cond.instanceMethod yX5_isDead, Cond.selects RX5 yX5_isDead yX5_isDead, Cond.code yX5_isDead cX5_isDead 2 (some .boolean), Cond.fieldLink RX5 34 "FairLoopsModel" "end" "[Z"]
def wsX5_dead_r4 : List Cond := [Cond.methodLink RX5 132 yX5_begins, Cond.instanceMethod yX5_begins, Cond.selects RX5 yX5_begins yX5_begins, Cond.code yX5_begins cX5_begins 2 (some .boolean)]
def wsX5_dead : List Cond := .code yX5_dead cX5_dead 5 (some .int) :: ((wsX5_dead_r1 ++ (wsX5_dead_r2 ++ (wsX5_dead_r3 ++ wsX5_dead_r4))) ++ wsX50)
def wsX5_measure_r1 : List Cond := [Cond.fieldLink RX5 80 "FairLoopsModel" "states" "I", Cond.fieldLink RX5 70 "FairLoopsModel" "longestFrom" "[I", Cond.fieldLink RX5 61 "FairLoopsModel" "its" "[Z", Cond.fieldLink RX5 123 "FairLoopsModel" "whole" "I", Cond.fieldLink RX5 90 "FairLoopsModel" "moves" "I", Cond.fieldLink RX5 13 "FairLoopsModel" "from" "[I", Cond.fieldLink RX5 16 "FairLoopsModel" "to" "[I", Cond.methodLink RX5 135 yX5_look, Cond.instanceMethod yX5_look, Cond.selects RX5 yX5_look yX5_look, Cond.initialized RX5, Cond.code yX5_look cX5_look 6 none, Cond.fieldLink RX5 50 "FairLoopsModel" "lookedAt" "I", Cond.fieldLink RX5 47 "FairLoopsModel" "isReached" "[Z", Cond.fieldLink RX5 7 "FairLoopsModel" "asks" "[I", Cond.fieldLink RX5 54 "FairLoopsModel" "alive" "[Z", Cond.fieldLink RX5 67 "FairLoopsModel" "partOf" "[I", Cond.fieldLink RX5 129 "FairLoopsModel" "parts" "I", Cond.fieldLink RX5 76 "FairLoopsModel" "known" "Z", Cond.methodLink RX5 96 yX5_walk, Cond.instanceMethod yX5_walk, Cond.selects RX5 yX5_walk yX5_walk, Cond.code yX5_walk cX5_walk 3 none, Cond.fieldLink RX5 93 "FairLoopsModel" "come" "I"]
def wsX5_measure_r2 : List Cond := [Cond.fieldLink RX5 41 "FairLoopsModel" "by" "[I", Cond.fieldLink RX5 38 "FairLoopsModel" "queue" "[I", Cond.fieldLink RX5 25 "FairLoopsModel" "first" "[I", Cond.fieldLink RX5 31 "FairLoopsModel" "next" "[I", Cond.methodLink RX5 119 yX5_divide, Cond.instanceMethod yX5_divide, Cond.selects RX5 yX5_divide yX5_divide, Cond.code yX5_divide cX5_divide 4 (some .int), Cond.methodLink RX5 103 yX5_close, Cond.instanceMethod yX5_close, Cond.selects RX5 yX5_close yX5_close, Cond.code yX5_close cX5_close 3 none, Cond.fieldLink RX5 58 "FairLoopsModel" "reach" "[Z", Cond.methodLink RX5 99 yX5_spread, Cond.instanceMethod yX5_spread, Cond.selects RX5 yX5_spread yX5_spread, Cond.code yX5_spread cX5_spread 7 none, Cond.methodLink RX5 106 yX5_together, Cond.instanceMethod yX5_together, Cond.selects RX5 yX5_together yX5_together, Cond.code yX5_together cX5_together 3 (some .boolean), Cond.methodLink RX5 126 yX5_shrink, Cond.instanceMethod yX5_shrink, Cond.selects RX5 yX5_shrink yX5_shrink]
def wsX5_measure_r3 : List Cond := [Cond.code yX5_shrink cX5_shrink 6 (some .boolean), Cond.methodLink RX5 116 yX5_takeAway, Cond.instanceMethod yX5_takeAway, Cond.selects RX5 yX5_takeAway yX5_takeAway, Cond.code yX5_takeAway cX5_takeAway 7 (some .boolean), Cond.fieldLink RX5 22 "FairLoopsModel" "how" "[I", Cond.methodLink RX5 110 yX5_isTaken, Cond.instanceMethod yX5_isTaken, Cond.selects RX5 yX5_isTaken yX5_isTaken, Cond.code yX5_isTaken cX5_isTaken 5 (some .boolean), Cond.fieldLink RX5 19 "FairLoopsModel" "labelOf" "[I", Cond.methodLink RX5 113 yX5_isAble, Cond.instanceMethod yX5_isAble, Cond.selects RX5 yX5_isAble yX5_isAble, Cond.code yX5_isAble cX5_isAble 5 (some .boolean)]
def wsX5_measure : List Cond := .code yX5_measure cX5_measure 6 (some .boolean) :: ((wsX5_measure_r1 ++ (wsX5_measure_r2 ++ wsX5_measure_r3)) ++ wsX50)
def wsX5_longest_r1 : List Cond := [Cond.fieldLink RX5 80 "FairLoopsModel" "states" "I", Cond.fieldLink RX5 70 "FairLoopsModel" "longestFrom" "[I", Cond.methodLink RX5 141 yX5_isAsk, Cond.instanceMethod yX5_isAsk, Cond.selects RX5 yX5_isAsk yX5_isAsk, Cond.initialized RX5, Cond.code yX5_isAsk cX5_isAsk 2 (some .boolean), Cond.fieldLink RX5 73 "FairLoopsModel" "thrown" "I", Cond.methodLink RX5 147 yX5_measure, Cond.instanceMethod yX5_measure, Cond.selects RX5 yX5_measure yX5_measure, Cond.code yX5_measure cX5_measure 6 (some .boolean), Cond.fieldLink RX5 61 "FairLoopsModel" "its" "[Z", Cond.fieldLink RX5 123 "FairLoopsModel" "whole" "I", Cond.fieldLink RX5 90 "FairLoopsModel" "moves" "I", Cond.fieldLink RX5 13 "FairLoopsModel" "from" "[I", Cond.fieldLink RX5 16 "FairLoopsModel" "to" "[I", Cond.methodLink RX5 135 yX5_look, Cond.instanceMethod yX5_look, Cond.selects RX5 yX5_look yX5_look, Cond.code yX5_look cX5_look 6 none, Cond.fieldLink RX5 50 "FairLoopsModel" "lookedAt" "I", Cond.fieldLink RX5 47 "FairLoopsModel" "isReached" "[Z", Cond.fieldLink RX5 7 "FairLoopsModel" "asks" "[I"]
def wsX5_longest_r2 : List Cond := [Cond.fieldLink RX5 54 "FairLoopsModel" "alive" "[Z", Cond.fieldLink RX5 67 "FairLoopsModel" "partOf" "[I", Cond.fieldLink RX5 129 "FairLoopsModel" "parts" "I", Cond.fieldLink RX5 76 "FairLoopsModel" "known" "Z", Cond.methodLink RX5 96 yX5_walk, Cond.instanceMethod yX5_walk, Cond.selects RX5 yX5_walk yX5_walk, Cond.code yX5_walk cX5_walk 3 none, Cond.fieldLink RX5 93 "FairLoopsModel" "come" "I", Cond.fieldLink RX5 41 "FairLoopsModel" "by" "[I", Cond.fieldLink RX5 38 "FairLoopsModel" "queue" "[I", Cond.fieldLink RX5 25 "FairLoopsModel" "first" "[I", Cond.fieldLink RX5 31 "FairLoopsModel" "next" "[I", Cond.methodLink RX5 119 yX5_divide, Cond.instanceMethod yX5_divide, Cond.selects RX5 yX5_divide yX5_divide, Cond.code yX5_divide cX5_divide 4 (some .int), Cond.methodLink RX5 103 yX5_close, Cond.instanceMethod yX5_close, Cond.selects RX5 yX5_close yX5_close, Cond.code yX5_close cX5_close 3 none, Cond.fieldLink RX5 58 "FairLoopsModel" "reach" "[Z", Cond.methodLink RX5 99 yX5_spread, Cond.instanceMethod yX5_spread]
def wsX5_longest_r3 : List Cond := [Cond.selects RX5 yX5_spread yX5_spread, Cond.code yX5_spread cX5_spread 7 none, Cond.methodLink RX5 106 yX5_together, Cond.instanceMethod yX5_together, Cond.selects RX5 yX5_together yX5_together, Cond.code yX5_together cX5_together 3 (some .boolean), Cond.methodLink RX5 126 yX5_shrink, Cond.instanceMethod yX5_shrink, Cond.selects RX5 yX5_shrink yX5_shrink, Cond.code yX5_shrink cX5_shrink 6 (some .boolean), Cond.methodLink RX5 116 yX5_takeAway, Cond.instanceMethod yX5_takeAway, Cond.selects RX5 yX5_takeAway yX5_takeAway, Cond.code yX5_takeAway cX5_takeAway 7 (some .boolean), Cond.fieldLink RX5 22 "FairLoopsModel" "how" "[I", Cond.methodLink RX5 110 yX5_isTaken, Cond.instanceMethod yX5_isTaken, Cond.selects RX5 yX5_isTaken yX5_isTaken, Cond.code yX5_isTaken cX5_isTaken 5 (some .boolean), Cond.fieldLink RX5 19 "FairLoopsModel" "labelOf" "[I", Cond.methodLink RX5 113 yX5_isAble, Cond.instanceMethod yX5_isAble, Cond.selects RX5 yX5_isAble yX5_isAble, Cond.code yX5_isAble cX5_isAble 5 (some .boolean)]
def wsX5_longest : List Cond := .code yX5_longest cX5_longest 4 (some .int) :: ((wsX5_longest_r1 ++ (wsX5_longest_r2 ++ wsX5_longest_r3)) ++ wsX50)
def wsX5_rank_r1 : List Cond := [Cond.fieldLink RX5 73 "FairLoopsModel" "thrown" "I", Cond.fieldLink RX5 70 "FairLoopsModel" "longestFrom" "[I", Cond.methodLink RX5 141 yX5_isAsk, Cond.instanceMethod yX5_isAsk, Cond.selects RX5 yX5_isAsk yX5_isAsk, Cond.initialized RX5, Cond.code yX5_isAsk cX5_isAsk 2 (some .boolean), Cond.methodLink RX5 86 yX5_isState, Cond.instanceMethod yX5_isState, Cond.selects RX5 yX5_isState yX5_isState, Cond.code yX5_isState cX5_isState 2 (some .boolean), Cond.fieldLink RX5 80 "FairLoopsModel" "states" "I", Cond.methodLink RX5 147 yX5_measure, Cond.instanceMethod yX5_measure, Cond.selects RX5 yX5_measure yX5_measure, Cond.code yX5_measure cX5_measure 6 (some .boolean), Cond.fieldLink RX5 61 "FairLoopsModel" "its" "[Z", Cond.fieldLink RX5 123 "FairLoopsModel" "whole" "I", Cond.fieldLink RX5 90 "FairLoopsModel" "moves" "I", Cond.fieldLink RX5 13 "FairLoopsModel" "from" "[I", Cond.fieldLink RX5 16 "FairLoopsModel" "to" "[I", Cond.methodLink RX5 135 yX5_look, Cond.instanceMethod yX5_look, Cond.selects RX5 yX5_look yX5_look]
def wsX5_rank_r2 : List Cond := [Cond.code yX5_look cX5_look 6 none, Cond.fieldLink RX5 50 "FairLoopsModel" "lookedAt" "I", Cond.fieldLink RX5 47 "FairLoopsModel" "isReached" "[Z", Cond.fieldLink RX5 7 "FairLoopsModel" "asks" "[I", Cond.fieldLink RX5 54 "FairLoopsModel" "alive" "[Z", Cond.fieldLink RX5 67 "FairLoopsModel" "partOf" "[I", Cond.fieldLink RX5 129 "FairLoopsModel" "parts" "I", Cond.fieldLink RX5 76 "FairLoopsModel" "known" "Z", Cond.methodLink RX5 96 yX5_walk, Cond.instanceMethod yX5_walk, Cond.selects RX5 yX5_walk yX5_walk, Cond.code yX5_walk cX5_walk 3 none, Cond.fieldLink RX5 93 "FairLoopsModel" "come" "I", Cond.fieldLink RX5 41 "FairLoopsModel" "by" "[I", Cond.fieldLink RX5 38 "FairLoopsModel" "queue" "[I", Cond.fieldLink RX5 25 "FairLoopsModel" "first" "[I", Cond.fieldLink RX5 31 "FairLoopsModel" "next" "[I", Cond.methodLink RX5 119 yX5_divide, Cond.instanceMethod yX5_divide, Cond.selects RX5 yX5_divide yX5_divide, Cond.code yX5_divide cX5_divide 4 (some .int), Cond.methodLink RX5 103 yX5_close, Cond.instanceMethod yX5_close, Cond.selects RX5 yX5_close yX5_close]
def wsX5_rank_r3 : List Cond := [Cond.code yX5_close cX5_close 3 none, Cond.fieldLink RX5 58 "FairLoopsModel" "reach" "[Z", Cond.methodLink RX5 99 yX5_spread, Cond.instanceMethod yX5_spread, Cond.selects RX5 yX5_spread yX5_spread, Cond.code yX5_spread cX5_spread 7 none, Cond.methodLink RX5 106 yX5_together, Cond.instanceMethod yX5_together, Cond.selects RX5 yX5_together yX5_together, Cond.code yX5_together cX5_together 3 (some .boolean), Cond.methodLink RX5 126 yX5_shrink, Cond.instanceMethod yX5_shrink, Cond.selects RX5 yX5_shrink yX5_shrink, Cond.code yX5_shrink cX5_shrink 6 (some .boolean), Cond.methodLink RX5 116 yX5_takeAway, Cond.instanceMethod yX5_takeAway, Cond.selects RX5 yX5_takeAway yX5_takeAway, Cond.code yX5_takeAway cX5_takeAway 7 (some .boolean), Cond.fieldLink RX5 22 "FairLoopsModel" "how" "[I", Cond.methodLink RX5 110 yX5_isTaken, Cond.instanceMethod yX5_isTaken, Cond.selects RX5 yX5_isTaken yX5_isTaken, Cond.code yX5_isTaken cX5_isTaken 5 (some .boolean), Cond.fieldLink RX5 19 "FairLoopsModel" "labelOf" "[I"]
def wsX5_rank_r4 : List Cond := [Cond.methodLink RX5 113 yX5_isAble, Cond.instanceMethod yX5_isAble, Cond.selects RX5 yX5_isAble yX5_isAble, Cond.code yX5_isAble cX5_isAble 5 (some .boolean)]
def wsX5_rank : List Cond := .code yX5_rank cX5_rank 3 (some .int) :: ((wsX5_rank_r1 ++ (wsX5_rank_r2 ++ (wsX5_rank_r3 ++ wsX5_rank_r4))) ++ wsX50)
def wsX5_largest_r1 : List Cond := [Cond.fieldLink RX5 123 "FairLoopsModel" "whole" "I", Cond.methodLink RX5 141 yX5_isAsk, Cond.instanceMethod yX5_isAsk, Cond.selects RX5 yX5_isAsk yX5_isAsk, Cond.initialized RX5, Cond.code yX5_isAsk cX5_isAsk 2 (some .boolean), Cond.fieldLink RX5 73 "FairLoopsModel" "thrown" "I", Cond.methodLink RX5 135 yX5_look, Cond.instanceMethod yX5_look, Cond.selects RX5 yX5_look yX5_look, Cond.code yX5_look cX5_look 6 none, Cond.fieldLink RX5 50 "FairLoopsModel" "lookedAt" "I", Cond.fieldLink RX5 80 "FairLoopsModel" "states" "I", Cond.fieldLink RX5 61 "FairLoopsModel" "its" "[Z", Cond.fieldLink RX5 47 "FairLoopsModel" "isReached" "[Z", Cond.fieldLink RX5 7 "FairLoopsModel" "asks" "[I", Cond.fieldLink RX5 54 "FairLoopsModel" "alive" "[Z", Cond.fieldLink RX5 67 "FairLoopsModel" "partOf" "[I", Cond.fieldLink RX5 129 "FairLoopsModel" "parts" "I", Cond.fieldLink RX5 76 "FairLoopsModel" "known" "Z", Cond.methodLink RX5 96 yX5_walk, Cond.instanceMethod yX5_walk, Cond.selects RX5 yX5_walk yX5_walk, Cond.code yX5_walk cX5_walk 3 none]
def wsX5_largest_r2 : List Cond := [Cond.fieldLink RX5 93 "FairLoopsModel" "come" "I", Cond.fieldLink RX5 41 "FairLoopsModel" "by" "[I", Cond.fieldLink RX5 38 "FairLoopsModel" "queue" "[I", Cond.fieldLink RX5 25 "FairLoopsModel" "first" "[I", Cond.fieldLink RX5 16 "FairLoopsModel" "to" "[I", Cond.fieldLink RX5 31 "FairLoopsModel" "next" "[I", Cond.methodLink RX5 119 yX5_divide, Cond.instanceMethod yX5_divide, Cond.selects RX5 yX5_divide yX5_divide, Cond.code yX5_divide cX5_divide 4 (some .int), Cond.methodLink RX5 103 yX5_close, Cond.instanceMethod yX5_close, Cond.selects RX5 yX5_close yX5_close, Cond.code yX5_close cX5_close 3 none, Cond.fieldLink RX5 58 "FairLoopsModel" "reach" "[Z", Cond.methodLink RX5 99 yX5_spread, Cond.instanceMethod yX5_spread, Cond.selects RX5 yX5_spread yX5_spread, Cond.code yX5_spread cX5_spread 7 none, Cond.methodLink RX5 106 yX5_together, Cond.instanceMethod yX5_together, Cond.selects RX5 yX5_together yX5_together, Cond.code yX5_together cX5_together 3 (some .boolean), Cond.methodLink RX5 126 yX5_shrink]
def wsX5_largest_r3 : List Cond := [Cond.instanceMethod yX5_shrink, Cond.selects RX5 yX5_shrink yX5_shrink, Cond.code yX5_shrink cX5_shrink 6 (some .boolean), Cond.methodLink RX5 116 yX5_takeAway, Cond.instanceMethod yX5_takeAway, Cond.selects RX5 yX5_takeAway yX5_takeAway, Cond.code yX5_takeAway cX5_takeAway 7 (some .boolean), Cond.fieldLink RX5 22 "FairLoopsModel" "how" "[I", Cond.methodLink RX5 110 yX5_isTaken, Cond.instanceMethod yX5_isTaken, Cond.selects RX5 yX5_isTaken yX5_isTaken, Cond.code yX5_isTaken cX5_isTaken 5 (some .boolean), Cond.fieldLink RX5 90 "FairLoopsModel" "moves" "I", Cond.fieldLink RX5 19 "FairLoopsModel" "labelOf" "[I", Cond.fieldLink RX5 13 "FairLoopsModel" "from" "[I", Cond.methodLink RX5 113 yX5_isAble, Cond.instanceMethod yX5_isAble, Cond.selects RX5 yX5_isAble yX5_isAble, Cond.code yX5_isAble cX5_isAble 5 (some .boolean)]
def wsX5_largest : List Cond := .code yX5_largest cX5_largest 2 (some .int) :: ((wsX5_largest_r1 ++ (wsX5_largest_r2 ++ wsX5_largest_r3)) ++ wsX50)
def wsX5_count_r1 : List Cond := [Cond.fieldLink RX5 73 "FairLoopsModel" "thrown" "I", Cond.fieldLink RX5 80 "FairLoopsModel" "states" "I", Cond.fieldLink RX5 90 "FairLoopsModel" "moves" "I", Cond.fieldLink RX5 34 "FairLoopsModel" "end" "[Z", Cond.fieldLink RX5 22 "FairLoopsModel" "how" "[I", Cond.methodLink RX5 144 yX5_isLive, Cond.instanceMethod yX5_isLive, Cond.selects RX5 yX5_isLive yX5_isLive, Cond.initialized RX5, Cond.code yX5_isLive cX5_isLive 4 (some .boolean), Cond.fieldLink RX5 129 "FairLoopsModel" "parts" "I", Cond.methodLink RX5 135 yX5_look, Cond.instanceMethod yX5_look, Cond.selects RX5 yX5_look yX5_look, Cond.code yX5_look cX5_look 6 none, Cond.fieldLink RX5 50 "FairLoopsModel" "lookedAt" "I", Cond.fieldLink RX5 61 "FairLoopsModel" "its" "[Z", Cond.fieldLink RX5 47 "FairLoopsModel" "isReached" "[Z", Cond.fieldLink RX5 7 "FairLoopsModel" "asks" "[I", Cond.fieldLink RX5 54 "FairLoopsModel" "alive" "[Z", Cond.fieldLink RX5 123 "FairLoopsModel" "whole" "I", Cond.fieldLink RX5 67 "FairLoopsModel" "partOf" "[I", Cond.fieldLink RX5 76 "FairLoopsModel" "known" "Z", Cond.methodLink RX5 96 yX5_walk]
def wsX5_count_r2 : List Cond := [Cond.instanceMethod yX5_walk, Cond.selects RX5 yX5_walk yX5_walk, Cond.code yX5_walk cX5_walk 3 none, Cond.fieldLink RX5 93 "FairLoopsModel" "come" "I", Cond.fieldLink RX5 41 "FairLoopsModel" "by" "[I", Cond.fieldLink RX5 38 "FairLoopsModel" "queue" "[I", Cond.fieldLink RX5 25 "FairLoopsModel" "first" "[I", Cond.fieldLink RX5 16 "FairLoopsModel" "to" "[I", Cond.fieldLink RX5 31 "FairLoopsModel" "next" "[I", Cond.methodLink RX5 119 yX5_divide, Cond.instanceMethod yX5_divide, Cond.selects RX5 yX5_divide yX5_divide, Cond.code yX5_divide cX5_divide 4 (some .int), Cond.methodLink RX5 103 yX5_close, Cond.instanceMethod yX5_close, Cond.selects RX5 yX5_close yX5_close, Cond.code yX5_close cX5_close 3 none, Cond.fieldLink RX5 58 "FairLoopsModel" "reach" "[Z", Cond.methodLink RX5 99 yX5_spread, Cond.instanceMethod yX5_spread, Cond.selects RX5 yX5_spread yX5_spread, Cond.code yX5_spread cX5_spread 7 none, Cond.methodLink RX5 106 yX5_together, Cond.instanceMethod yX5_together]
def wsX5_count_r3 : List Cond := [Cond.selects RX5 yX5_together yX5_together, Cond.code yX5_together cX5_together 3 (some .boolean), Cond.methodLink RX5 126 yX5_shrink, Cond.instanceMethod yX5_shrink, Cond.selects RX5 yX5_shrink yX5_shrink, Cond.code yX5_shrink cX5_shrink 6 (some .boolean), Cond.methodLink RX5 116 yX5_takeAway, Cond.instanceMethod yX5_takeAway, Cond.selects RX5 yX5_takeAway yX5_takeAway, Cond.code yX5_takeAway cX5_takeAway 7 (some .boolean), Cond.methodLink RX5 110 yX5_isTaken, Cond.instanceMethod yX5_isTaken, Cond.selects RX5 yX5_isTaken yX5_isTaken, Cond.code yX5_isTaken cX5_isTaken 5 (some .boolean), Cond.fieldLink RX5 19 "FairLoopsModel" "labelOf" "[I", Cond.fieldLink RX5 13 "FairLoopsModel" "from" "[I", Cond.methodLink RX5 113 yX5_isAble, Cond.instanceMethod yX5_isAble, Cond.selects RX5 yX5_isAble yX5_isAble, Cond.code yX5_isAble cX5_isAble 5 (some .boolean), Cond.methodLink RX5 138 yX5_isDead, Cond.instanceMethod yX5_isDead, Cond.selects RX5 yX5_isDead yX5_isDead, Cond.code yX5_isDead cX5_isDead 2 (some .boolean)]
def wsX5_count_r4 : List Cond := [Cond.methodLink RX5 132 yX5_begins, Cond.instanceMethod yX5_begins, Cond.selects RX5 yX5_begins yX5_begins, Cond.code yX5_begins cX5_begins 2 (some .boolean)]
def wsX5_count : List Cond := .code yX5_count cX5_count 4 (some .int) :: ((wsX5_count_r1 ++ (wsX5_count_r2 ++ (wsX5_count_r3 ++ wsX5_count_r4))) ++ wsX50)
def wsL_state : List Cond := .codeWith yL_state cL_state 5 (some .int) [(0, 10, 13, 13), (0, 10, 17, 15)] :: ([.classLink RL 13 "java/lang/IllegalArgumentException", .classLink RL 15 "java/lang/UnsupportedOperationException", .methodLink RL 7 yX4_state, .instanceMethod yX4_state, .selects RX4 yX4_state yX4_state, .initialized RX4, .code yX4_state cX4_state 3 (some .int), .classLink RX4 44 "java/lang/IllegalArgumentException", .initialized "java/lang/IllegalArgumentException", .classLink RX4 55 "java/lang/UnsupportedOperationException", .initialized "java/lang/UnsupportedOperationException", .fieldLink RX4 10 "FairLoops" "graph" "LFairLoops$Graph;", .fieldLink RX4 51 "FairLoops$Graph" "states" "I", .methodLink RX4 60 yX0_addState, .instanceMethod yX0_addState, .selects RX0 yX0_addState yX0_addState, .initialized RX0, .code yX0_addState cX0_addState 4 (some .int), .fieldLink RX0 37 "FairLoops$Graph" "states" "I", .fieldLink RX0 9 "FairLoops$Graph" "asks" "[I", .fieldLink RX0 15 "FairLoops$Graph" "isEnd" "[Z", .fieldLink RX0 41 "FairLoops$Graph" "ends" "I", .fieldLink RX0 34 "FairLoops$Graph" "start" "[I", .fieldLink RX0 44 "FairLoops$Graph" "moves" "I"] ++ wsX40 ++ wsX00 ++ (vx_atS RX4 48 "java/lang/IllegalArgumentException" ["java/lang/RuntimeException", "java/lang/Exception"]).filter goodWord ++ (vx_atS RX4 59 "java/lang/UnsupportedOperationException" ["java/lang/RuntimeException", "java/lang/Exception"]).filter goodWord)
def wsL_move_r1 : List Cond := [Cond.classLink RL 13 "java/lang/IllegalArgumentException", Cond.classLink RL 15 "java/lang/UnsupportedOperationException", Cond.methodLink RL 17 yX4_move, Cond.instanceMethod yX4_move, Cond.selects RX4 yX4_move yX4_move, Cond.initialized RX4, Cond.code yX4_move cX4_move 4 (some .int), Cond.classLink RX4 44 "java/lang/IllegalArgumentException", Cond.initialized "java/lang/IllegalArgumentException", Cond.classLink RX4 55 "java/lang/UnsupportedOperationException", Cond.initialized "java/lang/UnsupportedOperationException", Cond.fieldLink RX4 10 "FairLoops" "graph" "LFairLoops$Graph;", Cond.fieldLink RX4 75 "FairLoops$Graph" "moves" "I", Cond.methodLink RX4 64 yX0_hasState, Cond.instanceMethod yX0_hasState, Cond.selects RX0 yX0_hasState yX0_hasState, Cond.initialized RX0, Cond.code yX0_hasState cX0_hasState 2 (some .boolean), Cond.fieldLink RX0 37 "FairLoops$Graph" "states" "I", Cond.methodLink RX4 70 yX4_isLabel, Cond.static yX4_isLabel, Cond.code yX4_isLabel cX4_isLabel 1 (some .boolean), Cond.methodLink RX4 80 yX0_addMove, Cond.instanceMethod yX0_addMove]
def wsL_move_r2 : List Cond := [Cond.selects RX0 yX0_addMove yX0_addMove, Cond.code yX0_addMove cX0_addMove 6 (some .int), Cond.fieldLink RX0 44 "FairLoops$Graph" "moves" "I", Cond.fieldLink RX0 22 "FairLoops$Graph" "from" "[I", Cond.fieldLink RX0 25 "FairLoops$Graph" "to" "[I", Cond.fieldLink RX0 28 "FairLoops$Graph" "labelOf" "[I", Cond.fieldLink RX0 19 "FairLoops$Graph" "able" "[I", Cond.fieldLink RX0 34 "FairLoops$Graph" "start" "[I", Cond.fieldLink RX0 31 "FairLoops$Graph" "out" "[I"]
def wsL_move : List Cond := .codeWith yL_move cL_move 6 (some .int) [(0, 12, 15, 13), (0, 12, 19, 15)] :: ((wsL_move_r1 ++ wsL_move_r2) ++ wsX40 ++ wsX00 ++ (vx_atS RX4 48 "java/lang/IllegalArgumentException" ["java/lang/RuntimeException", "java/lang/Exception"]).filter goodWord ++ (vx_atS RX4 59 "java/lang/UnsupportedOperationException" ["java/lang/RuntimeException", "java/lang/Exception"]).filter goodWord)
def wsL_label : List Cond := .codeWith yL_label cL_label 5 (some .int) [(0, 10, 13, 25), (0, 10, 17, 13)] :: ([.classLink RL 25 "java/lang/IndexOutOfBoundsException", .classLink RL 13 "java/lang/IllegalArgumentException", .methodLink RL 21 yX4_label, .instanceMethod yX4_label, .selects RX4 yX4_label yX4_label, .initialized RX4, .code yX4_label cX4_label 4 (some .int), .classLink RX4 84 "java/lang/IndexOutOfBoundsException", .initialized "java/lang/IndexOutOfBoundsException", .classLink RX4 44 "java/lang/IllegalArgumentException", .initialized "java/lang/IllegalArgumentException", .fieldLink RX4 16 "FairLoops" "kinds" "[I", .methodLink RX4 70 yX4_isLabel, .static yX4_isLabel, .code yX4_isLabel cX4_isLabel 1 (some .boolean)] ++ wsX40 ++ (vx_atS RX4 86 "java/lang/IndexOutOfBoundsException" ["java/lang/RuntimeException", "java/lang/Exception"]).filter goodWord ++ (vx_atS RX4 48 "java/lang/IllegalArgumentException" ["java/lang/RuntimeException", "java/lang/Exception"]).filter goodWord)
def wsL_live_r1 : List Cond := [Cond.classLink RL 13 "java/lang/IllegalArgumentException", Cond.methodLink RL 27 yX4_live, Cond.instanceMethod yX4_live, Cond.selects RX4 yX4_live yX4_live, Cond.initialized RX4, Cond.code yX4_live cX4_live 2 (some .boolean), Cond.methodLink RX4 96 yX4_refuseWrongAsk, Cond.static yX4_refuseWrongAsk, Cond.code yX4_refuseWrongAsk cX4_refuseWrongAsk 1 none, Cond.classLink RX4 44 "java/lang/IllegalArgumentException", Cond.initialized "java/lang/IllegalArgumentException", Cond.methodLink RX4 100 yX4_alwaysServed, Cond.instanceMethod yX4_alwaysServed, Cond.selects RX4 yX4_alwaysServed yX4_alwaysServed, Cond.code yX4_alwaysServed cX4_alwaysServed 2 (some .boolean), Cond.fieldLink RX4 30 "FairLoops" "knots" "LFairLoops$Knots;", Cond.fieldLink RX4 106 "FairLoops$Knots" "found" "I", Cond.methodLink RX4 117 yX4_chooseStatesOf, Cond.instanceMethod yX4_chooseStatesOf, Cond.selects RX4 yX4_chooseStatesOf yX4_chooseStatesOf, Cond.code yX4_chooseStatesOf cX4_chooseStatesOf 3 none, Cond.fieldLink RX4 23 "FairLoops" "reach" "LFairLoops$Reach;", Cond.fieldLink RX4 10 "FairLoops" "graph" "LFairLoops$Graph;", Cond.fieldLink RX4 51 "FairLoops$Graph" "states" "I"]
def wsL_live_r2 : List Cond := [Cond.fieldLink RX4 138 "FairLoops$Knots" "chosen" "[Z", Cond.fieldLink RX4 167 "FairLoops$Reach" "far" "[I", Cond.fieldLink RX4 170 "FairLoops$Graph" "asks" "[I", Cond.methodLink RX4 89 yX2_walk, Cond.instanceMethod yX2_walk, Cond.selects RX2 yX2_walk yX2_walk, Cond.initialized RX2, Cond.code yX2_walk cX2_walk 6 none, Cond.fieldLink RX2 21 "FairLoops$Graph" "states" "I", Cond.fieldLink RX2 15 "FairLoops$Reach" "far" "[I", Cond.fieldLink RX2 27 "FairLoops$Reach" "found" "I", Cond.fieldLink RX2 9 "FairLoops$Reach" "line" "[I", Cond.fieldLink RX2 34 "FairLoops$Graph" "start" "[I", Cond.fieldLink RX2 37 "FairLoops$Graph" "out" "[I", Cond.fieldLink RX2 40 "FairLoops$Graph" "to" "[I", Cond.methodLink RX2 30 yX2_join, Cond.instanceMethod yX2_join, Cond.selects RX2 yX2_join yX2_join, Cond.code yX2_join cX2_join 4 none, Cond.fieldLink RX2 18 "FairLoops$Reach" "lastMove" "[I", Cond.methodLink RX4 120 yX4_deadEnd, Cond.instanceMethod yX4_deadEnd, Cond.selects RX4 yX4_deadEnd yX4_deadEnd, Cond.code yX4_deadEnd cX4_deadEnd 4 (some .int)]
def wsL_live_r3 : List Cond := [Cond.methodLink RX4 206 yX0_isStuck, Cond.instanceMethod yX0_isStuck, Cond.selects RX0 yX0_isStuck yX0_isStuck, Cond.initialized RX0, Cond.code yX0_isStuck cX0_isStuck 2 (some .boolean), Cond.fieldLink RX0 15 "FairLoops$Graph" "isEnd" "[Z", Cond.fieldLink RX0 34 "FairLoops$Graph" "start" "[I", Cond.methodLink RX4 164 yX4_keepFairStates, Cond.instanceMethod yX4_keepFairStates, Cond.selects RX4 yX4_keepFairStates yX4_keepFairStates, Cond.code yX4_keepFairStates cX4_keepFairStates 5 none, Cond.fieldLink RX4 37 "FairLoops" "sums" "LFairLoops$Sums;", Cond.methodLink RX4 151 yX4_labelsOfKind, Cond.instanceMethod yX4_labelsOfKind, Cond.selects RX4 yX4_labelsOfKind yX4_labelsOfKind, Cond.code yX4_labelsOfKind cX4_labelsOfKind 4 (some .int), Cond.fieldLink RX4 16 "FairLoops" "kinds" "[I", Cond.methodLink RX4 173 yX1_find, Cond.instanceMethod yX1_find, Cond.selects RX1 yX1_find yX1_find, Cond.initialized RX1, Cond.code yX1_find cX1_find 3 none, Cond.fieldLink RX1 37 "FairLoops$Knots" "found" "I", Cond.fieldLink RX1 41 "FairLoops$Knots" "closed" "I"]
def wsL_live_r4 : List Cond := [Cond.fieldLink RX1 44 "FairLoops$Knots" "entries" "I", Cond.fieldLink RX1 47 "FairLoops$Knots" "depth" "I", Cond.fieldLink RX1 50 "FairLoops$Knots" "opened" "I", Cond.fieldLink RX1 53 "FairLoops$Graph" "states" "I", Cond.fieldLink RX1 22 "FairLoops$Knots" "entered" "[I", Cond.fieldLink RX1 15 "FairLoops$Knots" "knotOf" "[I", Cond.fieldLink RX1 9 "FairLoops$Knots" "chosen" "[Z", Cond.methodLink RX1 58 yX1_walkFrom, Cond.instanceMethod yX1_walkFrom, Cond.selects RX1 yX1_walkFrom yX1_walkFrom, Cond.code yX1_walkFrom cX1_walkFrom 7 none, Cond.fieldLink RX1 65 "FairLoops$Graph" "moves" "I", Cond.fieldLink RX1 31 "FairLoops$Knots" "path" "[I", Cond.fieldLink RX1 28 "FairLoops$Knots" "nextOut" "[I", Cond.fieldLink RX1 68 "FairLoops$Graph" "start" "[I", Cond.fieldLink RX1 78 "FairLoops$Graph" "to" "[I", Cond.fieldLink RX1 81 "FairLoops$Graph" "out" "[I", Cond.methodLink RX1 62 yX1_enter, Cond.instanceMethod yX1_enter, Cond.selects RX1 yX1_enter yX1_enter, Cond.code yX1_enter cX1_enter 3 none, Cond.fieldLink RX1 25 "FairLoops$Knots" "low" "[I", Cond.fieldLink RX1 34 "FairLoops$Knots" "open" "[I", Cond.methodLink RX1 71 yX1_closeKnotBegunBy]
def wsL_live_r5 : List Cond := [Cond.instanceMethod yX1_closeKnotBegunBy, Cond.selects RX1 yX1_closeKnotBegunBy yX1_closeKnotBegunBy, Cond.code yX1_closeKnotBegunBy cX1_closeKnotBegunBy 3 none, Cond.fieldLink RX1 19 "FairLoops$Knots" "order" "[I", Cond.methodLink RX1 75 yX1_leave, Cond.instanceMethod yX1_leave, Cond.selects RX1 yX1_leave yX1_leave, Cond.code yX1_leave cX1_leave 2 none, Cond.methodLink RX1 84 yX1_lower, Cond.instanceMethod yX1_lower, Cond.selects RX1 yX1_lower yX1_lower, Cond.code yX1_lower cX1_lower 3 none, Cond.methodLink RX4 176 yX3_take, Cond.instanceMethod yX3_take, Cond.selects RX3 yX3_take yX3_take, Cond.initialized RX3, Cond.code yX3_take cX3_take 6 none, Cond.fieldLink RX3 28 "FairLoops$Knots" "found" "I", Cond.fieldLink RX3 9 "FairLoops$Sums" "size" "[I", Cond.fieldLink RX3 18 "FairLoops$Sums" "ableInAll" "[I", Cond.fieldLink RX3 21 "FairLoops$Sums" "inside" "[I", Cond.fieldLink RX3 24 "FairLoops$Sums" "goesRound" "[Z", Cond.fieldLink RX3 34 "FairLoops$Graph" "states" "I", Cond.fieldLink RX3 39 "FairLoops$Knots" "chosen" "[Z"]
def wsL_live_r6 : List Cond := [Cond.fieldLink RX3 42 "FairLoops$Knots" "knotOf" "[I", Cond.fieldLink RX3 45 "FairLoops$Graph" "able" "[I", Cond.fieldLink RX3 52 "FairLoops$Graph" "moves" "I", Cond.fieldLink RX3 55 "FairLoops$Graph" "from" "[I", Cond.fieldLink RX3 58 "FairLoops$Graph" "to" "[I", Cond.fieldLink RX3 61 "FairLoops$Graph" "labelOf" "[I", Cond.methodLink RX3 48 yX3_addState, Cond.instanceMethod yX3_addState, Cond.selects RX3 yX3_addState yX3_addState, Cond.code yX3_addState cX3_addState 4 none, Cond.fieldLink RX3 15 "FairLoops$Sums" "lowest" "[I", Cond.methodLink RX3 64 yX3_addMove, Cond.instanceMethod yX3_addMove, Cond.selects RX3 yX3_addMove yX3_addMove, Cond.code yX3_addMove cX3_addMove 3 none, Cond.methodLink RX4 180 yX4_dropUnfairStates, Cond.instanceMethod yX4_dropUnfairStates, Cond.selects RX4 yX4_dropUnfairStates yX4_dropUnfairStates, Cond.code yX4_dropUnfairStates cX4_dropUnfairStates 5 (some .boolean), Cond.methodLink RX4 184 yX4_isUnfair, Cond.instanceMethod yX4_isUnfair, Cond.selects RX4 yX4_isUnfair yX4_isUnfair, Cond.code yX4_isUnfair cX4_isUnfair 6 (some .boolean), Cond.fieldLink RX4 188 "FairLoops$Knots" "knotOf" "[I"]
def wsL_live_r7 : List Cond := [Cond.fieldLink RX4 191 "FairLoops$Sums" "inside" "[I", Cond.fieldLink RX4 194 "FairLoops$Sums" "goesRound" "[Z", Cond.fieldLink RX4 197 "FairLoops$Sums" "ableInAll" "[I", Cond.fieldLink RX4 200 "FairLoops$Graph" "able" "[I"]
def wsL_live : List Cond := .codeWith yL_live cL_live 4 (some .int) [(0, 16, 19, 13)] :: ((wsL_live_r1 ++ (wsL_live_r2 ++ (wsL_live_r3 ++ (wsL_live_r4 ++ (wsL_live_r5 ++ (wsL_live_r6 ++ wsL_live_r7)))))) ++ wsX40 ++ wsX10 ++ wsX00 ++ wsX20 ++ wsX30 ++ (vx_atS RX4 48 "java/lang/IllegalArgumentException" ["java/lang/RuntimeException", "java/lang/Exception"]).filter goodWord)
def wsL_parts_r1 : List Cond := [Cond.classLink RL 13 "java/lang/IllegalArgumentException", Cond.methodLink RL 31 yX4_parts, Cond.instanceMethod yX4_parts, Cond.selects RX4 yX4_parts yX4_parts, Cond.initialized RX4, Cond.code yX4_parts cX4_parts 2 (some .int), Cond.fieldLink RX4 30 "FairLoops" "knots" "LFairLoops$Knots;", Cond.fieldLink RX4 106 "FairLoops$Knots" "found" "I", Cond.methodLink RX4 96 yX4_refuseWrongAsk, Cond.static yX4_refuseWrongAsk, Cond.code yX4_refuseWrongAsk cX4_refuseWrongAsk 1 none, Cond.classLink RX4 44 "java/lang/IllegalArgumentException", Cond.initialized "java/lang/IllegalArgumentException", Cond.methodLink RX4 103 yX4_findFairParts, Cond.instanceMethod yX4_findFairParts, Cond.selects RX4 yX4_findFairParts yX4_findFairParts, Cond.code yX4_findFairParts cX4_findFairParts 2 none, Cond.methodLink RX4 117 yX4_chooseStatesOf, Cond.instanceMethod yX4_chooseStatesOf, Cond.selects RX4 yX4_chooseStatesOf yX4_chooseStatesOf, Cond.code yX4_chooseStatesOf cX4_chooseStatesOf 3 none, Cond.fieldLink RX4 23 "FairLoops" "reach" "LFairLoops$Reach;", Cond.fieldLink RX4 10 "FairLoops" "graph" "LFairLoops$Graph;", Cond.fieldLink RX4 51 "FairLoops$Graph" "states" "I"]
def wsL_parts_r2 : List Cond := [Cond.fieldLink RX4 138 "FairLoops$Knots" "chosen" "[Z", Cond.fieldLink RX4 167 "FairLoops$Reach" "far" "[I", Cond.fieldLink RX4 170 "FairLoops$Graph" "asks" "[I", Cond.methodLink RX4 89 yX2_walk, Cond.instanceMethod yX2_walk, Cond.selects RX2 yX2_walk yX2_walk, Cond.initialized RX2, Cond.code yX2_walk cX2_walk 6 none, Cond.fieldLink RX2 21 "FairLoops$Graph" "states" "I", Cond.fieldLink RX2 15 "FairLoops$Reach" "far" "[I", Cond.fieldLink RX2 27 "FairLoops$Reach" "found" "I", Cond.fieldLink RX2 9 "FairLoops$Reach" "line" "[I", Cond.fieldLink RX2 34 "FairLoops$Graph" "start" "[I", Cond.fieldLink RX2 37 "FairLoops$Graph" "out" "[I", Cond.fieldLink RX2 40 "FairLoops$Graph" "to" "[I", Cond.methodLink RX2 30 yX2_join, Cond.instanceMethod yX2_join, Cond.selects RX2 yX2_join yX2_join, Cond.code yX2_join cX2_join 4 none, Cond.fieldLink RX2 18 "FairLoops$Reach" "lastMove" "[I", Cond.methodLink RX4 164 yX4_keepFairStates, Cond.instanceMethod yX4_keepFairStates, Cond.selects RX4 yX4_keepFairStates yX4_keepFairStates, Cond.code yX4_keepFairStates cX4_keepFairStates 5 none]
def wsL_parts_r3 : List Cond := [Cond.fieldLink RX4 37 "FairLoops" "sums" "LFairLoops$Sums;", Cond.methodLink RX4 151 yX4_labelsOfKind, Cond.instanceMethod yX4_labelsOfKind, Cond.selects RX4 yX4_labelsOfKind yX4_labelsOfKind, Cond.code yX4_labelsOfKind cX4_labelsOfKind 4 (some .int), Cond.fieldLink RX4 16 "FairLoops" "kinds" "[I", Cond.methodLink RX4 173 yX1_find, Cond.instanceMethod yX1_find, Cond.selects RX1 yX1_find yX1_find, Cond.initialized RX1, Cond.code yX1_find cX1_find 3 none, Cond.fieldLink RX1 37 "FairLoops$Knots" "found" "I", Cond.fieldLink RX1 41 "FairLoops$Knots" "closed" "I", Cond.fieldLink RX1 44 "FairLoops$Knots" "entries" "I", Cond.fieldLink RX1 47 "FairLoops$Knots" "depth" "I", Cond.fieldLink RX1 50 "FairLoops$Knots" "opened" "I", Cond.fieldLink RX1 53 "FairLoops$Graph" "states" "I", Cond.fieldLink RX1 22 "FairLoops$Knots" "entered" "[I", Cond.fieldLink RX1 15 "FairLoops$Knots" "knotOf" "[I", Cond.fieldLink RX1 9 "FairLoops$Knots" "chosen" "[Z", Cond.methodLink RX1 58 yX1_walkFrom, Cond.instanceMethod yX1_walkFrom, Cond.selects RX1 yX1_walkFrom yX1_walkFrom, Cond.code yX1_walkFrom cX1_walkFrom 7 none]
def wsL_parts_r4 : List Cond := [Cond.fieldLink RX1 65 "FairLoops$Graph" "moves" "I", Cond.fieldLink RX1 31 "FairLoops$Knots" "path" "[I", Cond.fieldLink RX1 28 "FairLoops$Knots" "nextOut" "[I", Cond.fieldLink RX1 68 "FairLoops$Graph" "start" "[I", Cond.fieldLink RX1 78 "FairLoops$Graph" "to" "[I", Cond.fieldLink RX1 81 "FairLoops$Graph" "out" "[I", Cond.methodLink RX1 62 yX1_enter, Cond.instanceMethod yX1_enter, Cond.selects RX1 yX1_enter yX1_enter, Cond.code yX1_enter cX1_enter 3 none, Cond.fieldLink RX1 25 "FairLoops$Knots" "low" "[I", Cond.fieldLink RX1 34 "FairLoops$Knots" "open" "[I", Cond.methodLink RX1 71 yX1_closeKnotBegunBy, Cond.instanceMethod yX1_closeKnotBegunBy, Cond.selects RX1 yX1_closeKnotBegunBy yX1_closeKnotBegunBy, Cond.code yX1_closeKnotBegunBy cX1_closeKnotBegunBy 3 none, Cond.fieldLink RX1 19 "FairLoops$Knots" "order" "[I", Cond.methodLink RX1 75 yX1_leave, Cond.instanceMethod yX1_leave, Cond.selects RX1 yX1_leave yX1_leave, Cond.code yX1_leave cX1_leave 2 none, Cond.methodLink RX1 84 yX1_lower, Cond.instanceMethod yX1_lower, Cond.selects RX1 yX1_lower yX1_lower]
def wsL_parts_r5 : List Cond := [Cond.code yX1_lower cX1_lower 3 none, Cond.methodLink RX4 176 yX3_take, Cond.instanceMethod yX3_take, Cond.selects RX3 yX3_take yX3_take, Cond.initialized RX3, Cond.code yX3_take cX3_take 6 none, Cond.fieldLink RX3 28 "FairLoops$Knots" "found" "I", Cond.fieldLink RX3 9 "FairLoops$Sums" "size" "[I", Cond.fieldLink RX3 18 "FairLoops$Sums" "ableInAll" "[I", Cond.fieldLink RX3 21 "FairLoops$Sums" "inside" "[I", Cond.fieldLink RX3 24 "FairLoops$Sums" "goesRound" "[Z", Cond.fieldLink RX3 34 "FairLoops$Graph" "states" "I", Cond.fieldLink RX3 39 "FairLoops$Knots" "chosen" "[Z", Cond.fieldLink RX3 42 "FairLoops$Knots" "knotOf" "[I", Cond.fieldLink RX3 45 "FairLoops$Graph" "able" "[I", Cond.fieldLink RX3 52 "FairLoops$Graph" "moves" "I", Cond.fieldLink RX3 55 "FairLoops$Graph" "from" "[I", Cond.fieldLink RX3 58 "FairLoops$Graph" "to" "[I", Cond.fieldLink RX3 61 "FairLoops$Graph" "labelOf" "[I", Cond.methodLink RX3 48 yX3_addState, Cond.instanceMethod yX3_addState, Cond.selects RX3 yX3_addState yX3_addState, Cond.code yX3_addState cX3_addState 4 none, Cond.fieldLink RX3 15 "FairLoops$Sums" "lowest" "[I"]
def wsL_parts_r6 : List Cond := [Cond.methodLink RX3 64 yX3_addMove, Cond.instanceMethod yX3_addMove, Cond.selects RX3 yX3_addMove yX3_addMove, Cond.code yX3_addMove cX3_addMove 3 none, Cond.methodLink RX4 180 yX4_dropUnfairStates, Cond.instanceMethod yX4_dropUnfairStates, Cond.selects RX4 yX4_dropUnfairStates yX4_dropUnfairStates, Cond.code yX4_dropUnfairStates cX4_dropUnfairStates 5 (some .boolean), Cond.methodLink RX4 184 yX4_isUnfair, Cond.instanceMethod yX4_isUnfair, Cond.selects RX4 yX4_isUnfair yX4_isUnfair, Cond.code yX4_isUnfair cX4_isUnfair 6 (some .boolean), Cond.fieldLink RX4 188 "FairLoops$Knots" "knotOf" "[I", Cond.fieldLink RX4 191 "FairLoops$Sums" "inside" "[I", Cond.fieldLink RX4 194 "FairLoops$Sums" "goesRound" "[Z", Cond.fieldLink RX4 197 "FairLoops$Sums" "ableInAll" "[I", Cond.fieldLink RX4 200 "FairLoops$Graph" "able" "[I"]
def wsL_parts : List Cond := .codeWith yL_parts cL_parts 4 (some .int) [(0, 9, 12, 13)] :: ((wsL_parts_r1 ++ (wsL_parts_r2 ++ (wsL_parts_r3 ++ (wsL_parts_r4 ++ (wsL_parts_r5 ++ wsL_parts_r6))))) ++ wsX40 ++ wsX10 ++ wsX00 ++ wsX20 ++ wsX30 ++ (vx_atS RX4 48 "java/lang/IllegalArgumentException" ["java/lang/RuntimeException", "java/lang/Exception"]).filter goodWord)
def wsL_part_r1 : List Cond := [Cond.classLink RL 13 "java/lang/IllegalArgumentException", Cond.classLink RL 25 "java/lang/IndexOutOfBoundsException", Cond.methodLink RL 35 yX4_part, Cond.instanceMethod yX4_part, Cond.selects RX4 yX4_part yX4_part, Cond.initialized RX4, Cond.code yX4_part cX4_part 6 (some .int), Cond.classLink RX4 84 "java/lang/IndexOutOfBoundsException", Cond.initialized "java/lang/IndexOutOfBoundsException", Cond.methodLink RX4 96 yX4_refuseWrongAsk, Cond.static yX4_refuseWrongAsk, Cond.code yX4_refuseWrongAsk cX4_refuseWrongAsk 1 none, Cond.classLink RX4 44 "java/lang/IllegalArgumentException", Cond.initialized "java/lang/IllegalArgumentException", Cond.methodLink RX4 103 yX4_findFairParts, Cond.instanceMethod yX4_findFairParts, Cond.selects RX4 yX4_findFairParts yX4_findFairParts, Cond.code yX4_findFairParts cX4_findFairParts 2 none, Cond.methodLink RX4 117 yX4_chooseStatesOf, Cond.instanceMethod yX4_chooseStatesOf, Cond.selects RX4 yX4_chooseStatesOf yX4_chooseStatesOf, Cond.code yX4_chooseStatesOf cX4_chooseStatesOf 3 none, Cond.fieldLink RX4 23 "FairLoops" "reach" "LFairLoops$Reach;", Cond.fieldLink RX4 10 "FairLoops" "graph" "LFairLoops$Graph;"]
def wsL_part_r2 : List Cond := [Cond.fieldLink RX4 51 "FairLoops$Graph" "states" "I", Cond.fieldLink RX4 30 "FairLoops" "knots" "LFairLoops$Knots;", Cond.fieldLink RX4 138 "FairLoops$Knots" "chosen" "[Z", Cond.fieldLink RX4 167 "FairLoops$Reach" "far" "[I", Cond.fieldLink RX4 170 "FairLoops$Graph" "asks" "[I", Cond.methodLink RX4 89 yX2_walk, Cond.instanceMethod yX2_walk, Cond.selects RX2 yX2_walk yX2_walk, Cond.initialized RX2, Cond.code yX2_walk cX2_walk 6 none, Cond.fieldLink RX2 21 "FairLoops$Graph" "states" "I", Cond.fieldLink RX2 15 "FairLoops$Reach" "far" "[I", Cond.fieldLink RX2 27 "FairLoops$Reach" "found" "I", Cond.fieldLink RX2 9 "FairLoops$Reach" "line" "[I", Cond.fieldLink RX2 34 "FairLoops$Graph" "start" "[I", Cond.fieldLink RX2 37 "FairLoops$Graph" "out" "[I", Cond.fieldLink RX2 40 "FairLoops$Graph" "to" "[I", Cond.methodLink RX2 30 yX2_join, Cond.instanceMethod yX2_join, Cond.selects RX2 yX2_join yX2_join, Cond.code yX2_join cX2_join 4 none, Cond.fieldLink RX2 18 "FairLoops$Reach" "lastMove" "[I", Cond.methodLink RX4 164 yX4_keepFairStates, Cond.instanceMethod yX4_keepFairStates]
def wsL_part_r3 : List Cond := [Cond.selects RX4 yX4_keepFairStates yX4_keepFairStates, Cond.code yX4_keepFairStates cX4_keepFairStates 5 none, Cond.fieldLink RX4 37 "FairLoops" "sums" "LFairLoops$Sums;", Cond.methodLink RX4 151 yX4_labelsOfKind, Cond.instanceMethod yX4_labelsOfKind, Cond.selects RX4 yX4_labelsOfKind yX4_labelsOfKind, Cond.code yX4_labelsOfKind cX4_labelsOfKind 4 (some .int), Cond.fieldLink RX4 16 "FairLoops" "kinds" "[I", Cond.methodLink RX4 173 yX1_find, Cond.instanceMethod yX1_find, Cond.selects RX1 yX1_find yX1_find, Cond.initialized RX1, Cond.code yX1_find cX1_find 3 none, Cond.fieldLink RX1 37 "FairLoops$Knots" "found" "I", Cond.fieldLink RX1 41 "FairLoops$Knots" "closed" "I", Cond.fieldLink RX1 44 "FairLoops$Knots" "entries" "I", Cond.fieldLink RX1 47 "FairLoops$Knots" "depth" "I", Cond.fieldLink RX1 50 "FairLoops$Knots" "opened" "I", Cond.fieldLink RX1 53 "FairLoops$Graph" "states" "I", Cond.fieldLink RX1 22 "FairLoops$Knots" "entered" "[I", Cond.fieldLink RX1 15 "FairLoops$Knots" "knotOf" "[I", Cond.fieldLink RX1 9 "FairLoops$Knots" "chosen" "[Z", Cond.methodLink RX1 58 yX1_walkFrom, Cond.instanceMethod yX1_walkFrom]
def wsL_part_r4 : List Cond := [Cond.selects RX1 yX1_walkFrom yX1_walkFrom, Cond.code yX1_walkFrom cX1_walkFrom 7 none, Cond.fieldLink RX1 65 "FairLoops$Graph" "moves" "I", Cond.fieldLink RX1 31 "FairLoops$Knots" "path" "[I", Cond.fieldLink RX1 28 "FairLoops$Knots" "nextOut" "[I", Cond.fieldLink RX1 68 "FairLoops$Graph" "start" "[I", Cond.fieldLink RX1 78 "FairLoops$Graph" "to" "[I", Cond.fieldLink RX1 81 "FairLoops$Graph" "out" "[I", Cond.methodLink RX1 62 yX1_enter, Cond.instanceMethod yX1_enter, Cond.selects RX1 yX1_enter yX1_enter, Cond.code yX1_enter cX1_enter 3 none, Cond.fieldLink RX1 25 "FairLoops$Knots" "low" "[I", Cond.fieldLink RX1 34 "FairLoops$Knots" "open" "[I", Cond.methodLink RX1 71 yX1_closeKnotBegunBy, Cond.instanceMethod yX1_closeKnotBegunBy, Cond.selects RX1 yX1_closeKnotBegunBy yX1_closeKnotBegunBy, Cond.code yX1_closeKnotBegunBy cX1_closeKnotBegunBy 3 none, Cond.fieldLink RX1 19 "FairLoops$Knots" "order" "[I", Cond.methodLink RX1 75 yX1_leave, Cond.instanceMethod yX1_leave, Cond.selects RX1 yX1_leave yX1_leave, Cond.code yX1_leave cX1_leave 2 none, Cond.methodLink RX1 84 yX1_lower]
def wsL_part_r5 : List Cond := [Cond.instanceMethod yX1_lower, Cond.selects RX1 yX1_lower yX1_lower, Cond.code yX1_lower cX1_lower 3 none, Cond.methodLink RX4 176 yX3_take, Cond.instanceMethod yX3_take, Cond.selects RX3 yX3_take yX3_take, Cond.initialized RX3, Cond.code yX3_take cX3_take 6 none, Cond.fieldLink RX3 28 "FairLoops$Knots" "found" "I", Cond.fieldLink RX3 9 "FairLoops$Sums" "size" "[I", Cond.fieldLink RX3 18 "FairLoops$Sums" "ableInAll" "[I", Cond.fieldLink RX3 21 "FairLoops$Sums" "inside" "[I", Cond.fieldLink RX3 24 "FairLoops$Sums" "goesRound" "[Z", Cond.fieldLink RX3 34 "FairLoops$Graph" "states" "I", Cond.fieldLink RX3 39 "FairLoops$Knots" "chosen" "[Z", Cond.fieldLink RX3 42 "FairLoops$Knots" "knotOf" "[I", Cond.fieldLink RX3 45 "FairLoops$Graph" "able" "[I", Cond.fieldLink RX3 52 "FairLoops$Graph" "moves" "I", Cond.fieldLink RX3 55 "FairLoops$Graph" "from" "[I", Cond.fieldLink RX3 58 "FairLoops$Graph" "to" "[I", Cond.fieldLink RX3 61 "FairLoops$Graph" "labelOf" "[I", Cond.methodLink RX3 48 yX3_addState, Cond.instanceMethod yX3_addState, Cond.selects RX3 yX3_addState yX3_addState]
def wsL_part_r6 : List Cond := [Cond.code yX3_addState cX3_addState 4 none, Cond.fieldLink RX3 15 "FairLoops$Sums" "lowest" "[I", Cond.methodLink RX3 64 yX3_addMove, Cond.instanceMethod yX3_addMove, Cond.selects RX3 yX3_addMove yX3_addMove, Cond.code yX3_addMove cX3_addMove 3 none, Cond.methodLink RX4 180 yX4_dropUnfairStates, Cond.instanceMethod yX4_dropUnfairStates, Cond.selects RX4 yX4_dropUnfairStates yX4_dropUnfairStates, Cond.code yX4_dropUnfairStates cX4_dropUnfairStates 5 (some .boolean), Cond.methodLink RX4 184 yX4_isUnfair, Cond.instanceMethod yX4_isUnfair, Cond.selects RX4 yX4_isUnfair yX4_isUnfair, Cond.code yX4_isUnfair cX4_isUnfair 6 (some .boolean), Cond.fieldLink RX4 188 "FairLoops$Knots" "knotOf" "[I", Cond.fieldLink RX4 191 "FairLoops$Sums" "inside" "[I", Cond.fieldLink RX4 194 "FairLoops$Sums" "goesRound" "[Z", Cond.fieldLink RX4 197 "FairLoops$Sums" "ableInAll" "[I", Cond.fieldLink RX4 200 "FairLoops$Graph" "able" "[I", Cond.methodLink RX4 107 yX4_knotByLowestState, Cond.instanceMethod yX4_knotByLowestState, Cond.selects RX4 yX4_knotByLowestState yX4_knotByLowestState, Cond.code yX4_knotByLowestState cX4_knotByLowestState 4 (some .int), Cond.fieldLink RX4 203 "FairLoops$Sums" "lowest" "[I"]
def wsL_part_r7 : List Cond := [Cond.methodLink RX4 111 yX4_stateOfKnot, Cond.instanceMethod yX4_stateOfKnot, Cond.selects RX4 yX4_stateOfKnot yX4_stateOfKnot, Cond.code yX4_stateOfKnot cX4_stateOfKnot 5 (some .int)]
def wsL_part : List Cond := .codeWith yL_part cL_part 6 (some .int) [(0, 12, 15, 13), (0, 12, 19, 25)] :: ((wsL_part_r1 ++ (wsL_part_r2 ++ (wsL_part_r3 ++ (wsL_part_r4 ++ (wsL_part_r5 ++ (wsL_part_r6 ++ wsL_part_r7)))))) ++ wsX40 ++ wsX00 ++ wsX10 ++ wsX20 ++ wsX30 ++ (vx_atS RX4 86 "java/lang/IndexOutOfBoundsException" ["java/lang/RuntimeException", "java/lang/Exception"]).filter goodWord ++ (vx_atS RX4 48 "java/lang/IllegalArgumentException" ["java/lang/RuntimeException", "java/lang/Exception"]).filter goodWord)
def wsL_dead_r1 : List Cond := [Cond.classLink RL 13 "java/lang/IllegalArgumentException", Cond.classLink RL 25 "java/lang/IndexOutOfBoundsException", Cond.methodLink RL 38 yX4_dead, Cond.instanceMethod yX4_dead, Cond.selects RX4 yX4_dead yX4_dead, Cond.initialized RX4, Cond.code yX4_dead cX4_dead 4 (some .int), Cond.classLink RX4 84 "java/lang/IndexOutOfBoundsException", Cond.initialized "java/lang/IndexOutOfBoundsException", Cond.methodLink RX4 96 yX4_refuseWrongAsk, Cond.static yX4_refuseWrongAsk, Cond.code yX4_refuseWrongAsk cX4_refuseWrongAsk 1 none, Cond.classLink RX4 44 "java/lang/IllegalArgumentException", Cond.initialized "java/lang/IllegalArgumentException", Cond.methodLink RX4 117 yX4_chooseStatesOf, Cond.instanceMethod yX4_chooseStatesOf, Cond.selects RX4 yX4_chooseStatesOf yX4_chooseStatesOf, Cond.code yX4_chooseStatesOf cX4_chooseStatesOf 3 none, Cond.fieldLink RX4 23 "FairLoops" "reach" "LFairLoops$Reach;", Cond.fieldLink RX4 10 "FairLoops" "graph" "LFairLoops$Graph;", Cond.fieldLink RX4 51 "FairLoops$Graph" "states" "I", Cond.fieldLink RX4 30 "FairLoops" "knots" "LFairLoops$Knots;", Cond.fieldLink RX4 138 "FairLoops$Knots" "chosen" "[Z", Cond.fieldLink RX4 167 "FairLoops$Reach" "far" "[I"]
def wsL_dead_r2 : List Cond := [Cond.fieldLink RX4 170 "FairLoops$Graph" "asks" "[I", Cond.methodLink RX4 89 yX2_walk, Cond.instanceMethod yX2_walk, Cond.selects RX2 yX2_walk yX2_walk, Cond.initialized RX2, Cond.code yX2_walk cX2_walk 6 none, Cond.fieldLink RX2 21 "FairLoops$Graph" "states" "I", Cond.fieldLink RX2 15 "FairLoops$Reach" "far" "[I", Cond.fieldLink RX2 27 "FairLoops$Reach" "found" "I", Cond.fieldLink RX2 9 "FairLoops$Reach" "line" "[I", Cond.fieldLink RX2 34 "FairLoops$Graph" "start" "[I", Cond.fieldLink RX2 37 "FairLoops$Graph" "out" "[I", Cond.fieldLink RX2 40 "FairLoops$Graph" "to" "[I", Cond.methodLink RX2 30 yX2_join, Cond.instanceMethod yX2_join, Cond.selects RX2 yX2_join yX2_join, Cond.code yX2_join cX2_join 4 none, Cond.fieldLink RX2 18 "FairLoops$Reach" "lastMove" "[I", Cond.methodLink RX4 120 yX4_deadEnd, Cond.instanceMethod yX4_deadEnd, Cond.selects RX4 yX4_deadEnd yX4_deadEnd, Cond.code yX4_deadEnd cX4_deadEnd 4 (some .int), Cond.methodLink RX4 206 yX0_isStuck, Cond.instanceMethod yX0_isStuck]
def wsL_dead_r3 : List Cond := [Cond.selects RX0 yX0_isStuck yX0_isStuck, Cond.initialized RX0, Cond.code yX0_isStuck cX0_isStuck 2 (some .boolean), Cond.fieldLink RX0 15 "FairLoops$Graph" "isEnd" "[Z", Cond.fieldLink RX0 34 "FairLoops$Graph" "start" "[I"]
def wsL_dead : List Cond := .codeWith yL_dead cL_dead 5 (some .int) [(0, 10, 13, 13), (0, 10, 17, 25)] :: ((wsL_dead_r1 ++ (wsL_dead_r2 ++ wsL_dead_r3)) ++ wsX40 ++ wsX00 ++ wsX10 ++ wsX20 ++ (vx_atS RX4 86 "java/lang/IndexOutOfBoundsException" ["java/lang/RuntimeException", "java/lang/Exception"]).filter goodWord ++ (vx_atS RX4 48 "java/lang/IllegalArgumentException" ["java/lang/RuntimeException", "java/lang/Exception"]).filter goodWord)
def wsL_longest_r1 : List Cond := [Cond.classLink RL 13 "java/lang/IllegalArgumentException", Cond.methodLink RL 41 yX4_longest, Cond.instanceMethod yX4_longest, Cond.selects RX4 yX4_longest yX4_longest, Cond.initialized RX4, Cond.code yX4_longest cX4_longest 2 (some .int), Cond.fieldLink RX4 37 "FairLoops" "sums" "LFairLoops$Sums;", Cond.fieldLink RX4 30 "FairLoops" "knots" "LFairLoops$Knots;", Cond.fieldLink RX4 106 "FairLoops$Knots" "found" "I", Cond.methodLink RX4 96 yX4_refuseWrongAsk, Cond.static yX4_refuseWrongAsk, Cond.code yX4_refuseWrongAsk cX4_refuseWrongAsk 1 none, Cond.classLink RX4 44 "java/lang/IllegalArgumentException", Cond.initialized "java/lang/IllegalArgumentException", Cond.methodLink RX4 125 yX4_findParts, Cond.instanceMethod yX4_findParts, Cond.selects RX4 yX4_findParts yX4_findParts, Cond.code yX4_findParts cX4_findParts 2 none, Cond.fieldLink RX4 10 "FairLoops" "graph" "LFairLoops$Graph;", Cond.methodLink RX4 117 yX4_chooseStatesOf, Cond.instanceMethod yX4_chooseStatesOf, Cond.selects RX4 yX4_chooseStatesOf yX4_chooseStatesOf, Cond.code yX4_chooseStatesOf cX4_chooseStatesOf 3 none, Cond.fieldLink RX4 23 "FairLoops" "reach" "LFairLoops$Reach;"]
def wsL_longest_r2 : List Cond := [Cond.fieldLink RX4 51 "FairLoops$Graph" "states" "I", Cond.fieldLink RX4 138 "FairLoops$Knots" "chosen" "[Z", Cond.fieldLink RX4 167 "FairLoops$Reach" "far" "[I", Cond.fieldLink RX4 170 "FairLoops$Graph" "asks" "[I", Cond.methodLink RX4 89 yX2_walk, Cond.instanceMethod yX2_walk, Cond.selects RX2 yX2_walk yX2_walk, Cond.initialized RX2, Cond.code yX2_walk cX2_walk 6 none, Cond.fieldLink RX2 21 "FairLoops$Graph" "states" "I", Cond.fieldLink RX2 15 "FairLoops$Reach" "far" "[I", Cond.fieldLink RX2 27 "FairLoops$Reach" "found" "I", Cond.fieldLink RX2 9 "FairLoops$Reach" "line" "[I", Cond.fieldLink RX2 34 "FairLoops$Graph" "start" "[I", Cond.fieldLink RX2 37 "FairLoops$Graph" "out" "[I", Cond.fieldLink RX2 40 "FairLoops$Graph" "to" "[I", Cond.methodLink RX2 30 yX2_join, Cond.instanceMethod yX2_join, Cond.selects RX2 yX2_join yX2_join, Cond.code yX2_join cX2_join 4 none, Cond.fieldLink RX2 18 "FairLoops$Reach" "lastMove" "[I", Cond.methodLink RX4 173 yX1_find, Cond.instanceMethod yX1_find, Cond.selects RX1 yX1_find yX1_find]
def wsL_longest_r3 : List Cond := [Cond.initialized RX1, Cond.code yX1_find cX1_find 3 none, Cond.fieldLink RX1 37 "FairLoops$Knots" "found" "I", Cond.fieldLink RX1 41 "FairLoops$Knots" "closed" "I", Cond.fieldLink RX1 44 "FairLoops$Knots" "entries" "I", Cond.fieldLink RX1 47 "FairLoops$Knots" "depth" "I", Cond.fieldLink RX1 50 "FairLoops$Knots" "opened" "I", Cond.fieldLink RX1 53 "FairLoops$Graph" "states" "I", Cond.fieldLink RX1 22 "FairLoops$Knots" "entered" "[I", Cond.fieldLink RX1 15 "FairLoops$Knots" "knotOf" "[I", Cond.fieldLink RX1 9 "FairLoops$Knots" "chosen" "[Z", Cond.methodLink RX1 58 yX1_walkFrom, Cond.instanceMethod yX1_walkFrom, Cond.selects RX1 yX1_walkFrom yX1_walkFrom, Cond.code yX1_walkFrom cX1_walkFrom 7 none, Cond.fieldLink RX1 65 "FairLoops$Graph" "moves" "I", Cond.fieldLink RX1 31 "FairLoops$Knots" "path" "[I", Cond.fieldLink RX1 28 "FairLoops$Knots" "nextOut" "[I", Cond.fieldLink RX1 68 "FairLoops$Graph" "start" "[I", Cond.fieldLink RX1 78 "FairLoops$Graph" "to" "[I", Cond.fieldLink RX1 81 "FairLoops$Graph" "out" "[I", Cond.methodLink RX1 62 yX1_enter, Cond.instanceMethod yX1_enter, Cond.selects RX1 yX1_enter yX1_enter]
def wsL_longest_r4 : List Cond := [Cond.code yX1_enter cX1_enter 3 none, Cond.fieldLink RX1 25 "FairLoops$Knots" "low" "[I", Cond.fieldLink RX1 34 "FairLoops$Knots" "open" "[I", Cond.methodLink RX1 71 yX1_closeKnotBegunBy, Cond.instanceMethod yX1_closeKnotBegunBy, Cond.selects RX1 yX1_closeKnotBegunBy yX1_closeKnotBegunBy, Cond.code yX1_closeKnotBegunBy cX1_closeKnotBegunBy 3 none, Cond.fieldLink RX1 19 "FairLoops$Knots" "order" "[I", Cond.methodLink RX1 75 yX1_leave, Cond.instanceMethod yX1_leave, Cond.selects RX1 yX1_leave yX1_leave, Cond.code yX1_leave cX1_leave 2 none, Cond.methodLink RX1 84 yX1_lower, Cond.instanceMethod yX1_lower, Cond.selects RX1 yX1_lower yX1_lower, Cond.code yX1_lower cX1_lower 3 none, Cond.methodLink RX4 176 yX3_take, Cond.instanceMethod yX3_take, Cond.selects RX3 yX3_take yX3_take, Cond.initialized RX3, Cond.code yX3_take cX3_take 6 none, Cond.fieldLink RX3 28 "FairLoops$Knots" "found" "I", Cond.fieldLink RX3 9 "FairLoops$Sums" "size" "[I", Cond.fieldLink RX3 18 "FairLoops$Sums" "ableInAll" "[I"]
def wsL_longest_r5 : List Cond := [Cond.fieldLink RX3 21 "FairLoops$Sums" "inside" "[I", Cond.fieldLink RX3 24 "FairLoops$Sums" "goesRound" "[Z", Cond.fieldLink RX3 34 "FairLoops$Graph" "states" "I", Cond.fieldLink RX3 39 "FairLoops$Knots" "chosen" "[Z", Cond.fieldLink RX3 42 "FairLoops$Knots" "knotOf" "[I", Cond.fieldLink RX3 45 "FairLoops$Graph" "able" "[I", Cond.fieldLink RX3 52 "FairLoops$Graph" "moves" "I", Cond.fieldLink RX3 55 "FairLoops$Graph" "from" "[I", Cond.fieldLink RX3 58 "FairLoops$Graph" "to" "[I", Cond.fieldLink RX3 61 "FairLoops$Graph" "labelOf" "[I", Cond.methodLink RX3 48 yX3_addState, Cond.instanceMethod yX3_addState, Cond.selects RX3 yX3_addState yX3_addState, Cond.code yX3_addState cX3_addState 4 none, Cond.fieldLink RX3 15 "FairLoops$Sums" "lowest" "[I", Cond.methodLink RX3 64 yX3_addMove, Cond.instanceMethod yX3_addMove, Cond.selects RX3 yX3_addMove yX3_addMove, Cond.code yX3_addMove cX3_addMove 3 none, Cond.methodLink RX4 128 yX3_largestSize, Cond.instanceMethod yX3_largestSize, Cond.selects RX3 yX3_largestSize yX3_largestSize, Cond.code yX3_largestSize cX3_largestSize 4 (some .int), Cond.methodLink RX4 131 yX4_fillRanks]
def wsL_longest_r6 : List Cond := [Cond.instanceMethod yX4_fillRanks, Cond.selects RX4 yX4_fillRanks yX4_fillRanks, Cond.code yX4_fillRanks cX4_fillRanks 4 (some .int), Cond.fieldLink RX4 209 "FairLoops$Knots" "closed" "I", Cond.fieldLink RX4 212 "FairLoops$Knots" "order" "[I", Cond.fieldLink RX4 41 "FairLoops" "ranks" "[I", Cond.methodLink RX4 215 yX4_rankAbove, Cond.instanceMethod yX4_rankAbove, Cond.selects RX4 yX4_rankAbove yX4_rankAbove, Cond.code yX4_rankAbove cX4_rankAbove 5 (some .int), Cond.fieldLink RX4 218 "FairLoops$Graph" "start" "[I", Cond.fieldLink RX4 221 "FairLoops$Graph" "to" "[I", Cond.fieldLink RX4 224 "FairLoops$Graph" "out" "[I"]
def wsL_longest : List Cond := .codeWith yL_longest cL_longest 4 (some .int) [(0, 9, 12, 13)] :: ((wsL_longest_r1 ++ (wsL_longest_r2 ++ (wsL_longest_r3 ++ (wsL_longest_r4 ++ (wsL_longest_r5 ++ wsL_longest_r6))))) ++ wsX40 ++ wsX10 ++ wsX00 ++ wsX20 ++ wsX30 ++ (vx_atS RX4 48 "java/lang/IllegalArgumentException" ["java/lang/RuntimeException", "java/lang/Exception"]).filter goodWord)
def wsL_rank_r1 : List Cond := [Cond.classLink RL 13 "java/lang/IllegalArgumentException", Cond.classLink RL 25 "java/lang/IndexOutOfBoundsException", Cond.methodLink RL 44 yX4_rank, Cond.instanceMethod yX4_rank, Cond.selects RX4 yX4_rank yX4_rank, Cond.initialized RX4, Cond.code yX4_rank cX4_rank 3 (some .int), Cond.fieldLink RX4 30 "FairLoops" "knots" "LFairLoops$Knots;", Cond.fieldLink RX4 138 "FairLoops$Knots" "chosen" "[Z", Cond.fieldLink RX4 37 "FairLoops" "sums" "LFairLoops$Sums;", Cond.fieldLink RX4 106 "FairLoops$Knots" "found" "I", Cond.fieldLink RX4 41 "FairLoops" "ranks" "[I", Cond.methodLink RX4 96 yX4_refuseWrongAsk, Cond.static yX4_refuseWrongAsk, Cond.code yX4_refuseWrongAsk cX4_refuseWrongAsk 1 none, Cond.classLink RX4 44 "java/lang/IllegalArgumentException", Cond.initialized "java/lang/IllegalArgumentException", Cond.methodLink RX4 135 yX4_refuseWrongState, Cond.instanceMethod yX4_refuseWrongState, Cond.selects RX4 yX4_refuseWrongState yX4_refuseWrongState, Cond.code yX4_refuseWrongState cX4_refuseWrongState 2 none, Cond.classLink RX4 84 "java/lang/IndexOutOfBoundsException", Cond.initialized "java/lang/IndexOutOfBoundsException", Cond.fieldLink RX4 10 "FairLoops" "graph" "LFairLoops$Graph;"]
def wsL_rank_r2 : List Cond := [Cond.methodLink RX4 64 yX0_hasState, Cond.instanceMethod yX0_hasState, Cond.selects RX0 yX0_hasState yX0_hasState, Cond.initialized RX0, Cond.code yX0_hasState cX0_hasState 2 (some .boolean), Cond.fieldLink RX0 37 "FairLoops$Graph" "states" "I", Cond.methodLink RX4 125 yX4_findParts, Cond.instanceMethod yX4_findParts, Cond.selects RX4 yX4_findParts yX4_findParts, Cond.code yX4_findParts cX4_findParts 2 none, Cond.methodLink RX4 117 yX4_chooseStatesOf, Cond.instanceMethod yX4_chooseStatesOf, Cond.selects RX4 yX4_chooseStatesOf yX4_chooseStatesOf, Cond.code yX4_chooseStatesOf cX4_chooseStatesOf 3 none, Cond.fieldLink RX4 23 "FairLoops" "reach" "LFairLoops$Reach;", Cond.fieldLink RX4 51 "FairLoops$Graph" "states" "I", Cond.fieldLink RX4 167 "FairLoops$Reach" "far" "[I", Cond.fieldLink RX4 170 "FairLoops$Graph" "asks" "[I", Cond.methodLink RX4 89 yX2_walk, Cond.instanceMethod yX2_walk, Cond.selects RX2 yX2_walk yX2_walk, Cond.initialized RX2, Cond.code yX2_walk cX2_walk 6 none, Cond.fieldLink RX2 21 "FairLoops$Graph" "states" "I"]
def wsL_rank_r3 : List Cond := [Cond.fieldLink RX2 15 "FairLoops$Reach" "far" "[I", Cond.fieldLink RX2 27 "FairLoops$Reach" "found" "I", Cond.fieldLink RX2 9 "FairLoops$Reach" "line" "[I", Cond.fieldLink RX2 34 "FairLoops$Graph" "start" "[I", Cond.fieldLink RX2 37 "FairLoops$Graph" "out" "[I", Cond.fieldLink RX2 40 "FairLoops$Graph" "to" "[I", Cond.methodLink RX2 30 yX2_join, Cond.instanceMethod yX2_join, Cond.selects RX2 yX2_join yX2_join, Cond.code yX2_join cX2_join 4 none, Cond.fieldLink RX2 18 "FairLoops$Reach" "lastMove" "[I", Cond.methodLink RX4 173 yX1_find, Cond.instanceMethod yX1_find, Cond.selects RX1 yX1_find yX1_find, Cond.initialized RX1, Cond.code yX1_find cX1_find 3 none, Cond.fieldLink RX1 37 "FairLoops$Knots" "found" "I", Cond.fieldLink RX1 41 "FairLoops$Knots" "closed" "I", Cond.fieldLink RX1 44 "FairLoops$Knots" "entries" "I", Cond.fieldLink RX1 47 "FairLoops$Knots" "depth" "I", Cond.fieldLink RX1 50 "FairLoops$Knots" "opened" "I", Cond.fieldLink RX1 53 "FairLoops$Graph" "states" "I", Cond.fieldLink RX1 22 "FairLoops$Knots" "entered" "[I", Cond.fieldLink RX1 15 "FairLoops$Knots" "knotOf" "[I"]
def wsL_rank_r4 : List Cond := [Cond.fieldLink RX1 9 "FairLoops$Knots" "chosen" "[Z", Cond.methodLink RX1 58 yX1_walkFrom, Cond.instanceMethod yX1_walkFrom, Cond.selects RX1 yX1_walkFrom yX1_walkFrom, Cond.code yX1_walkFrom cX1_walkFrom 7 none, Cond.fieldLink RX1 65 "FairLoops$Graph" "moves" "I", Cond.fieldLink RX1 31 "FairLoops$Knots" "path" "[I", Cond.fieldLink RX1 28 "FairLoops$Knots" "nextOut" "[I", Cond.fieldLink RX1 68 "FairLoops$Graph" "start" "[I", Cond.fieldLink RX1 78 "FairLoops$Graph" "to" "[I", Cond.fieldLink RX1 81 "FairLoops$Graph" "out" "[I", Cond.methodLink RX1 62 yX1_enter, Cond.instanceMethod yX1_enter, Cond.selects RX1 yX1_enter yX1_enter, Cond.code yX1_enter cX1_enter 3 none, Cond.fieldLink RX1 25 "FairLoops$Knots" "low" "[I", Cond.fieldLink RX1 34 "FairLoops$Knots" "open" "[I", Cond.methodLink RX1 71 yX1_closeKnotBegunBy, Cond.instanceMethod yX1_closeKnotBegunBy, Cond.selects RX1 yX1_closeKnotBegunBy yX1_closeKnotBegunBy, Cond.code yX1_closeKnotBegunBy cX1_closeKnotBegunBy 3 none, Cond.fieldLink RX1 19 "FairLoops$Knots" "order" "[I", Cond.methodLink RX1 75 yX1_leave, Cond.instanceMethod yX1_leave]
def wsL_rank_r5 : List Cond := [Cond.selects RX1 yX1_leave yX1_leave, Cond.code yX1_leave cX1_leave 2 none, Cond.methodLink RX1 84 yX1_lower, Cond.instanceMethod yX1_lower, Cond.selects RX1 yX1_lower yX1_lower, Cond.code yX1_lower cX1_lower 3 none, Cond.methodLink RX4 176 yX3_take, Cond.instanceMethod yX3_take, Cond.selects RX3 yX3_take yX3_take, Cond.initialized RX3, Cond.code yX3_take cX3_take 6 none, Cond.fieldLink RX3 28 "FairLoops$Knots" "found" "I", Cond.fieldLink RX3 9 "FairLoops$Sums" "size" "[I", Cond.fieldLink RX3 18 "FairLoops$Sums" "ableInAll" "[I", Cond.fieldLink RX3 21 "FairLoops$Sums" "inside" "[I", Cond.fieldLink RX3 24 "FairLoops$Sums" "goesRound" "[Z", Cond.fieldLink RX3 34 "FairLoops$Graph" "states" "I", Cond.fieldLink RX3 39 "FairLoops$Knots" "chosen" "[Z", Cond.fieldLink RX3 42 "FairLoops$Knots" "knotOf" "[I", Cond.fieldLink RX3 45 "FairLoops$Graph" "able" "[I", Cond.fieldLink RX3 52 "FairLoops$Graph" "moves" "I", Cond.fieldLink RX3 55 "FairLoops$Graph" "from" "[I", Cond.fieldLink RX3 58 "FairLoops$Graph" "to" "[I", Cond.fieldLink RX3 61 "FairLoops$Graph" "labelOf" "[I"]
def wsL_rank_r6 : List Cond := [Cond.methodLink RX3 48 yX3_addState, Cond.instanceMethod yX3_addState, Cond.selects RX3 yX3_addState yX3_addState, Cond.code yX3_addState cX3_addState 4 none, Cond.fieldLink RX3 15 "FairLoops$Sums" "lowest" "[I", Cond.methodLink RX3 64 yX3_addMove, Cond.instanceMethod yX3_addMove, Cond.selects RX3 yX3_addMove yX3_addMove, Cond.code yX3_addMove cX3_addMove 3 none, Cond.methodLink RX4 128 yX3_largestSize, Cond.instanceMethod yX3_largestSize, Cond.selects RX3 yX3_largestSize yX3_largestSize, Cond.code yX3_largestSize cX3_largestSize 4 (some .int), Cond.methodLink RX4 131 yX4_fillRanks, Cond.instanceMethod yX4_fillRanks, Cond.selects RX4 yX4_fillRanks yX4_fillRanks, Cond.code yX4_fillRanks cX4_fillRanks 4 (some .int), Cond.fieldLink RX4 209 "FairLoops$Knots" "closed" "I", Cond.fieldLink RX4 212 "FairLoops$Knots" "order" "[I", Cond.methodLink RX4 215 yX4_rankAbove, Cond.instanceMethod yX4_rankAbove, Cond.selects RX4 yX4_rankAbove yX4_rankAbove, Cond.code yX4_rankAbove cX4_rankAbove 5 (some .int), Cond.fieldLink RX4 218 "FairLoops$Graph" "start" "[I"]
def wsL_rank_r7 : List Cond := [Cond.fieldLink RX4 221 "FairLoops$Graph" "to" "[I", Cond.fieldLink RX4 224 "FairLoops$Graph" "out" "[I"]
def wsL_rank : List Cond := .codeWith yL_rank cL_rank 5 (some .int) [(0, 10, 13, 13), (0, 10, 17, 25)] :: ((wsL_rank_r1 ++ (wsL_rank_r2 ++ (wsL_rank_r3 ++ (wsL_rank_r4 ++ (wsL_rank_r5 ++ (wsL_rank_r6 ++ wsL_rank_r7)))))) ++ wsX40 ++ wsX10 ++ wsX00 ++ wsX20 ++ wsX30 ++ (vx_atS RX4 48 "java/lang/IllegalArgumentException" ["java/lang/RuntimeException", "java/lang/Exception"]).filter goodWord ++ (vx_atS RX4 86 "java/lang/IndexOutOfBoundsException" ["java/lang/RuntimeException", "java/lang/Exception"]).filter goodWord)
def wsL_row_r1 : List Cond := [Cond.classLink RL 25 "java/lang/IndexOutOfBoundsException", Cond.methodLink RL 47 yX4_row, Cond.instanceMethod yX4_row, Cond.selects RX4 yX4_row yX4_row, Cond.initialized RX4, Cond.code yX4_row cX4_row 3 (some .int), Cond.classLink RX4 84 "java/lang/IndexOutOfBoundsException", Cond.initialized "java/lang/IndexOutOfBoundsException", Cond.fieldLink RX4 23 "FairLoops" "reach" "LFairLoops$Reach;", Cond.fieldLink RX4 10 "FairLoops" "graph" "LFairLoops$Graph;", Cond.methodLink RX4 135 yX4_refuseWrongState, Cond.instanceMethod yX4_refuseWrongState, Cond.selects RX4 yX4_refuseWrongState yX4_refuseWrongState, Cond.code yX4_refuseWrongState cX4_refuseWrongState 2 none, Cond.methodLink RX4 64 yX0_hasState, Cond.instanceMethod yX0_hasState, Cond.selects RX0 yX0_hasState yX0_hasState, Cond.initialized RX0, Cond.code yX0_hasState cX0_hasState 2 (some .boolean), Cond.fieldLink RX0 37 "FairLoops$Graph" "states" "I", Cond.methodLink RX4 89 yX2_walk, Cond.instanceMethod yX2_walk, Cond.selects RX2 yX2_walk yX2_walk, Cond.initialized RX2]
def wsL_row_r2 : List Cond := [Cond.code yX2_walk cX2_walk 6 none, Cond.fieldLink RX2 21 "FairLoops$Graph" "states" "I", Cond.fieldLink RX2 15 "FairLoops$Reach" "far" "[I", Cond.fieldLink RX2 27 "FairLoops$Reach" "found" "I", Cond.fieldLink RX2 9 "FairLoops$Reach" "line" "[I", Cond.fieldLink RX2 34 "FairLoops$Graph" "start" "[I", Cond.fieldLink RX2 37 "FairLoops$Graph" "out" "[I", Cond.fieldLink RX2 40 "FairLoops$Graph" "to" "[I", Cond.methodLink RX2 30 yX2_join, Cond.instanceMethod yX2_join, Cond.selects RX2 yX2_join yX2_join, Cond.code yX2_join cX2_join 4 none, Cond.fieldLink RX2 18 "FairLoops$Reach" "lastMove" "[I", Cond.methodLink RX4 144 yX2_moveOnWayTo, Cond.instanceMethod yX2_moveOnWayTo, Cond.selects RX2 yX2_moveOnWayTo yX2_moveOnWayTo, Cond.code yX2_moveOnWayTo cX2_moveOnWayTo 6 (some .int), Cond.fieldLink RX2 43 "FairLoops$Graph" "from" "[I"]
def wsL_row : List Cond := .codeWith yL_row cL_row 5 (some .int) [(0, 10, 13, 25)] :: ((wsL_row_r1 ++ wsL_row_r2) ++ wsX40 ++ wsX00 ++ wsX20 ++ (vx_atS RX4 86 "java/lang/IndexOutOfBoundsException" ["java/lang/RuntimeException", "java/lang/Exception"]).filter goodWord)
def wsL_largest_r1 : List Cond := [Cond.classLink RL 13 "java/lang/IllegalArgumentException", Cond.methodLink RL 50 yX4_largest, Cond.instanceMethod yX4_largest, Cond.selects RX4 yX4_largest yX4_largest, Cond.initialized RX4, Cond.code yX4_largest cX4_largest 2 (some .int), Cond.fieldLink RX4 37 "FairLoops" "sums" "LFairLoops$Sums;", Cond.fieldLink RX4 30 "FairLoops" "knots" "LFairLoops$Knots;", Cond.fieldLink RX4 106 "FairLoops$Knots" "found" "I", Cond.methodLink RX4 96 yX4_refuseWrongAsk, Cond.static yX4_refuseWrongAsk, Cond.code yX4_refuseWrongAsk cX4_refuseWrongAsk 1 none, Cond.classLink RX4 44 "java/lang/IllegalArgumentException", Cond.initialized "java/lang/IllegalArgumentException", Cond.methodLink RX4 125 yX4_findParts, Cond.instanceMethod yX4_findParts, Cond.selects RX4 yX4_findParts yX4_findParts, Cond.code yX4_findParts cX4_findParts 2 none, Cond.fieldLink RX4 10 "FairLoops" "graph" "LFairLoops$Graph;", Cond.methodLink RX4 117 yX4_chooseStatesOf, Cond.instanceMethod yX4_chooseStatesOf, Cond.selects RX4 yX4_chooseStatesOf yX4_chooseStatesOf, Cond.code yX4_chooseStatesOf cX4_chooseStatesOf 3 none, Cond.fieldLink RX4 23 "FairLoops" "reach" "LFairLoops$Reach;"]
def wsL_largest_r2 : List Cond := [Cond.fieldLink RX4 51 "FairLoops$Graph" "states" "I", Cond.fieldLink RX4 138 "FairLoops$Knots" "chosen" "[Z", Cond.fieldLink RX4 167 "FairLoops$Reach" "far" "[I", Cond.fieldLink RX4 170 "FairLoops$Graph" "asks" "[I", Cond.methodLink RX4 89 yX2_walk, Cond.instanceMethod yX2_walk, Cond.selects RX2 yX2_walk yX2_walk, Cond.initialized RX2, Cond.code yX2_walk cX2_walk 6 none, Cond.fieldLink RX2 21 "FairLoops$Graph" "states" "I", Cond.fieldLink RX2 15 "FairLoops$Reach" "far" "[I", Cond.fieldLink RX2 27 "FairLoops$Reach" "found" "I", Cond.fieldLink RX2 9 "FairLoops$Reach" "line" "[I", Cond.fieldLink RX2 34 "FairLoops$Graph" "start" "[I", Cond.fieldLink RX2 37 "FairLoops$Graph" "out" "[I", Cond.fieldLink RX2 40 "FairLoops$Graph" "to" "[I", Cond.methodLink RX2 30 yX2_join, Cond.instanceMethod yX2_join, Cond.selects RX2 yX2_join yX2_join, Cond.code yX2_join cX2_join 4 none, Cond.fieldLink RX2 18 "FairLoops$Reach" "lastMove" "[I", Cond.methodLink RX4 173 yX1_find, Cond.instanceMethod yX1_find, Cond.selects RX1 yX1_find yX1_find]
def wsL_largest_r3 : List Cond := [Cond.initialized RX1, Cond.code yX1_find cX1_find 3 none, Cond.fieldLink RX1 37 "FairLoops$Knots" "found" "I", Cond.fieldLink RX1 41 "FairLoops$Knots" "closed" "I", Cond.fieldLink RX1 44 "FairLoops$Knots" "entries" "I", Cond.fieldLink RX1 47 "FairLoops$Knots" "depth" "I", Cond.fieldLink RX1 50 "FairLoops$Knots" "opened" "I", Cond.fieldLink RX1 53 "FairLoops$Graph" "states" "I", Cond.fieldLink RX1 22 "FairLoops$Knots" "entered" "[I", Cond.fieldLink RX1 15 "FairLoops$Knots" "knotOf" "[I", Cond.fieldLink RX1 9 "FairLoops$Knots" "chosen" "[Z", Cond.methodLink RX1 58 yX1_walkFrom, Cond.instanceMethod yX1_walkFrom, Cond.selects RX1 yX1_walkFrom yX1_walkFrom, Cond.code yX1_walkFrom cX1_walkFrom 7 none, Cond.fieldLink RX1 65 "FairLoops$Graph" "moves" "I", Cond.fieldLink RX1 31 "FairLoops$Knots" "path" "[I", Cond.fieldLink RX1 28 "FairLoops$Knots" "nextOut" "[I", Cond.fieldLink RX1 68 "FairLoops$Graph" "start" "[I", Cond.fieldLink RX1 78 "FairLoops$Graph" "to" "[I", Cond.fieldLink RX1 81 "FairLoops$Graph" "out" "[I", Cond.methodLink RX1 62 yX1_enter, Cond.instanceMethod yX1_enter, Cond.selects RX1 yX1_enter yX1_enter]
def wsL_largest_r4 : List Cond := [Cond.code yX1_enter cX1_enter 3 none, Cond.fieldLink RX1 25 "FairLoops$Knots" "low" "[I", Cond.fieldLink RX1 34 "FairLoops$Knots" "open" "[I", Cond.methodLink RX1 71 yX1_closeKnotBegunBy, Cond.instanceMethod yX1_closeKnotBegunBy, Cond.selects RX1 yX1_closeKnotBegunBy yX1_closeKnotBegunBy, Cond.code yX1_closeKnotBegunBy cX1_closeKnotBegunBy 3 none, Cond.fieldLink RX1 19 "FairLoops$Knots" "order" "[I", Cond.methodLink RX1 75 yX1_leave, Cond.instanceMethod yX1_leave, Cond.selects RX1 yX1_leave yX1_leave, Cond.code yX1_leave cX1_leave 2 none, Cond.methodLink RX1 84 yX1_lower, Cond.instanceMethod yX1_lower, Cond.selects RX1 yX1_lower yX1_lower, Cond.code yX1_lower cX1_lower 3 none, Cond.methodLink RX4 176 yX3_take, Cond.instanceMethod yX3_take, Cond.selects RX3 yX3_take yX3_take, Cond.initialized RX3, Cond.code yX3_take cX3_take 6 none, Cond.fieldLink RX3 28 "FairLoops$Knots" "found" "I", Cond.fieldLink RX3 9 "FairLoops$Sums" "size" "[I", Cond.fieldLink RX3 18 "FairLoops$Sums" "ableInAll" "[I"]
def wsL_largest_r5 : List Cond := [Cond.fieldLink RX3 21 "FairLoops$Sums" "inside" "[I", Cond.fieldLink RX3 24 "FairLoops$Sums" "goesRound" "[Z", Cond.fieldLink RX3 34 "FairLoops$Graph" "states" "I", Cond.fieldLink RX3 39 "FairLoops$Knots" "chosen" "[Z", Cond.fieldLink RX3 42 "FairLoops$Knots" "knotOf" "[I", Cond.fieldLink RX3 45 "FairLoops$Graph" "able" "[I", Cond.fieldLink RX3 52 "FairLoops$Graph" "moves" "I", Cond.fieldLink RX3 55 "FairLoops$Graph" "from" "[I", Cond.fieldLink RX3 58 "FairLoops$Graph" "to" "[I", Cond.fieldLink RX3 61 "FairLoops$Graph" "labelOf" "[I", Cond.methodLink RX3 48 yX3_addState, Cond.instanceMethod yX3_addState, Cond.selects RX3 yX3_addState yX3_addState, Cond.code yX3_addState cX3_addState 4 none, Cond.fieldLink RX3 15 "FairLoops$Sums" "lowest" "[I", Cond.methodLink RX3 64 yX3_addMove, Cond.instanceMethod yX3_addMove, Cond.selects RX3 yX3_addMove yX3_addMove, Cond.code yX3_addMove cX3_addMove 3 none, Cond.methodLink RX4 128 yX3_largestSize, Cond.instanceMethod yX3_largestSize, Cond.selects RX3 yX3_largestSize yX3_largestSize, Cond.code yX3_largestSize cX3_largestSize 4 (some .int)]
def wsL_largest : List Cond := .codeWith yL_largest cL_largest 4 (some .int) [(0, 9, 12, 13)] :: ((wsL_largest_r1 ++ (wsL_largest_r2 ++ (wsL_largest_r3 ++ (wsL_largest_r4 ++ wsL_largest_r5)))) ++ wsX40 ++ wsX10 ++ wsX00 ++ wsX20 ++ wsX30 ++ (vx_atS RX4 48 "java/lang/IllegalArgumentException" ["java/lang/RuntimeException", "java/lang/Exception"]).filter goodWord)
def wsL_law0_r1 : List Cond := [Cond.classLink RL 8 RX4, Cond.instantiable RX4 6, Cond.initialized RX4, Cond.classLink RL 54 RX5, Cond.instantiable RX5 27, Cond.initialized RX5, Cond.arrayClass .long, Cond.methodLink RL 53 yX4_init, Cond.instanceMethod yX4_init, Cond.code yX4_init cX4_init 1 none, Cond.methodLink RX4 1 objectInit, Cond.instanceMethod objectInit, Cond.code objectInit ⟨#[0xb1]⟩ 1 none, Cond.classLink RX4 7 RX0, Cond.instantiable RX0 11, Cond.initialized RX0, Cond.fieldLink RX4 10 "FairLoops" "graph" "LFairLoops$Graph;", Cond.arrayClass .int, Cond.fieldLink RX4 16 "FairLoops" "kinds" "[I", Cond.classLink RX4 20 RX2, Cond.instantiable RX2 4, Cond.initialized RX2, Cond.fieldLink RX4 23 "FairLoops" "reach" "LFairLoops$Reach;", Cond.classLink RX4 27 RX1]
def wsL_law0_r2 : List Cond := [Cond.instantiable RX1 13, Cond.initialized RX1, Cond.fieldLink RX4 30 "FairLoops" "knots" "LFairLoops$Knots;", Cond.classLink RX4 34 RX3, Cond.instantiable RX3 5, Cond.initialized RX3, Cond.fieldLink RX4 37 "FairLoops" "sums" "LFairLoops$Sums;", Cond.fieldLink RX4 41 "FairLoops" "ranks" "[I", Cond.instanceMethod yX0_init, Cond.code yX0_init cX0_init 1 none, Cond.methodLink RX0 3 objectInit, Cond.fieldLink RX0 9 "FairLoops$Graph" "asks" "[I", Cond.arrayClass .boolean, Cond.fieldLink RX0 15 "FairLoops$Graph" "isEnd" "[Z", Cond.fieldLink RX0 19 "FairLoops$Graph" "able" "[I", Cond.fieldLink RX0 22 "FairLoops$Graph" "from" "[I", Cond.fieldLink RX0 25 "FairLoops$Graph" "to" "[I", Cond.fieldLink RX0 28 "FairLoops$Graph" "labelOf" "[I", Cond.fieldLink RX0 31 "FairLoops$Graph" "out" "[I", Cond.fieldLink RX0 34 "FairLoops$Graph" "start" "[I", Cond.instanceMethod yX2_init, Cond.code yX2_init cX2_init 1 none, Cond.methodLink RX2 3 objectInit, Cond.fieldLink RX2 9 "FairLoops$Reach" "line" "[I"]
def wsL_law0_r3 : List Cond := [Cond.fieldLink RX2 15 "FairLoops$Reach" "far" "[I", Cond.fieldLink RX2 18 "FairLoops$Reach" "lastMove" "[I", Cond.instanceMethod yX1_init, Cond.code yX1_init cX1_init 1 none, Cond.methodLink RX1 3 objectInit, Cond.fieldLink RX1 9 "FairLoops$Knots" "chosen" "[Z", Cond.fieldLink RX1 15 "FairLoops$Knots" "knotOf" "[I", Cond.fieldLink RX1 19 "FairLoops$Knots" "order" "[I", Cond.fieldLink RX1 22 "FairLoops$Knots" "entered" "[I", Cond.fieldLink RX1 25 "FairLoops$Knots" "low" "[I", Cond.fieldLink RX1 28 "FairLoops$Knots" "nextOut" "[I", Cond.fieldLink RX1 31 "FairLoops$Knots" "path" "[I", Cond.fieldLink RX1 34 "FairLoops$Knots" "open" "[I", Cond.instanceMethod yX3_init, Cond.code yX3_init cX3_init 1 none, Cond.methodLink RX3 3 objectInit, Cond.fieldLink RX3 9 "FairLoops$Sums" "size" "[I", Cond.fieldLink RX3 15 "FairLoops$Sums" "lowest" "[I", Cond.fieldLink RX3 18 "FairLoops$Sums" "ableInAll" "[I", Cond.fieldLink RX3 21 "FairLoops$Sums" "inside" "[I", Cond.fieldLink RX3 24 "FairLoops$Sums" "goesRound" "[Z", Cond.methodLink RL 56 yX5_init, Cond.instanceMethod yX5_init, Cond.code yX5_init cX5_init 1 none]
def wsL_law0_r4 : List Cond := [Cond.methodLink RX5 1 objectInit, Cond.fieldLink RX5 7 "FairLoopsModel" "asks" "[I", Cond.fieldLink RX5 13 "FairLoopsModel" "from" "[I", Cond.fieldLink RX5 16 "FairLoopsModel" "to" "[I", Cond.fieldLink RX5 19 "FairLoopsModel" "labelOf" "[I", Cond.fieldLink RX5 22 "FairLoopsModel" "how" "[I", Cond.fieldLink RX5 25 "FairLoopsModel" "first" "[I", Cond.fieldLink RX5 28 "FairLoopsModel" "last" "[I", Cond.fieldLink RX5 31 "FairLoopsModel" "next" "[I", Cond.fieldLink RX5 34 "FairLoopsModel" "end" "[Z", Cond.fieldLink RX5 38 "FairLoopsModel" "queue" "[I", Cond.fieldLink RX5 41 "FairLoopsModel" "by" "[I", Cond.fieldLink RX5 44 "FairLoopsModel" "row" "[I", Cond.fieldLink RX5 47 "FairLoopsModel" "isReached" "[Z", Cond.fieldLink RX5 50 "FairLoopsModel" "lookedAt" "I", Cond.fieldLink RX5 54 "FairLoopsModel" "alive" "[Z", Cond.constant RX5 57 (40000), Cond.fieldLink RX5 58 "FairLoopsModel" "reach" "[Z", Cond.fieldLink RX5 61 "FairLoopsModel" "its" "[Z", Cond.fieldLink RX5 64 "FairLoopsModel" "fairly" "[Z", Cond.fieldLink RX5 67 "FairLoopsModel" "partOf" "[I", Cond.fieldLink RX5 70 "FairLoopsModel" "longestFrom" "[I", Cond.methodLink RL 57 yL_state, Cond.static yL_state]
def wsL_law0_r5 : List Cond := [Cond.initialized RL, Cond.codeWith yL_state cL_state 5 (some .int) [(0, 10, 13, 13), (0, 10, 17, 15)], Cond.classLink RL 13 "java/lang/IllegalArgumentException", Cond.classLink RL 15 "java/lang/UnsupportedOperationException", Cond.methodLink RL 7 yX4_state, Cond.instanceMethod yX4_state, Cond.selects RX4 yX4_state yX4_state, Cond.code yX4_state cX4_state 3 (some .int), Cond.classLink RX4 44 "java/lang/IllegalArgumentException", Cond.initialized "java/lang/IllegalArgumentException", Cond.classLink RX4 55 "java/lang/UnsupportedOperationException", Cond.initialized "java/lang/UnsupportedOperationException", Cond.fieldLink RX4 51 "FairLoops$Graph" "states" "I", Cond.methodLink RX4 60 yX0_addState, Cond.instanceMethod yX0_addState, Cond.selects RX0 yX0_addState yX0_addState, Cond.code yX0_addState cX0_addState 4 (some .int), Cond.fieldLink RX0 37 "FairLoops$Graph" "states" "I", Cond.fieldLink RX0 41 "FairLoops$Graph" "ends" "I", Cond.fieldLink RX0 44 "FairLoops$Graph" "moves" "I", Cond.methodLink RL 62 yX5_state, Cond.instanceMethod yX5_state, Cond.selects RX5 yX5_state yX5_state, Cond.code yX5_state cX5_state 3 (some .int)]
def wsL_law0_r6 : List Cond := [Cond.fieldLink RX5 80 "FairLoopsModel" "states" "I", Cond.fieldLink RX5 73 "FairLoopsModel" "thrown" "I", Cond.methodLink RX5 83 yX5_changed, Cond.instanceMethod yX5_changed, Cond.selects RX5 yX5_changed yX5_changed, Cond.code yX5_changed cX5_changed 1 none, Cond.fieldLink RX5 76 "FairLoopsModel" "known" "Z", Cond.methodLink RL 63 yX5_thrown, Cond.instanceMethod yX5_thrown, Cond.selects RX5 yX5_thrown yX5_thrown, Cond.code yX5_thrown cX5_thrown 1 (some .int), Cond.methodLink RL 67 yL_move, Cond.static yL_move, Cond.codeWith yL_move cL_move 6 (some .int) [(0, 12, 15, 13), (0, 12, 19, 15)], Cond.methodLink RL 17 yX4_move, Cond.instanceMethod yX4_move, Cond.selects RX4 yX4_move yX4_move, Cond.code yX4_move cX4_move 4 (some .int), Cond.fieldLink RX4 75 "FairLoops$Graph" "moves" "I", Cond.methodLink RX4 64 yX0_hasState, Cond.instanceMethod yX0_hasState, Cond.selects RX0 yX0_hasState yX0_hasState, Cond.code yX0_hasState cX0_hasState 2 (some .boolean), Cond.methodLink RX4 70 yX4_isLabel]
def wsL_law0_r7 : List Cond := [Cond.static yX4_isLabel, Cond.code yX4_isLabel cX4_isLabel 1 (some .boolean), Cond.methodLink RX4 80 yX0_addMove, Cond.instanceMethod yX0_addMove, Cond.selects RX0 yX0_addMove yX0_addMove, Cond.code yX0_addMove cX0_addMove 6 (some .int), Cond.methodLink RL 70 yX5_move, Cond.instanceMethod yX5_move, Cond.selects RX5 yX5_move yX5_move, Cond.code yX5_move cX5_move 5 (some .int), Cond.fieldLink RX5 90 "FairLoopsModel" "moves" "I", Cond.methodLink RX5 86 yX5_isState, Cond.instanceMethod yX5_isState, Cond.selects RX5 yX5_isState yX5_isState, Cond.code yX5_isState cX5_isState 2 (some .boolean), Cond.methodLink RL 71 yL_label, Cond.static yL_label, Cond.codeWith yL_label cL_label 5 (some .int) [(0, 10, 13, 25), (0, 10, 17, 13)], Cond.classLink RL 25 "java/lang/IndexOutOfBoundsException", Cond.methodLink RL 21 yX4_label, Cond.instanceMethod yX4_label, Cond.selects RX4 yX4_label yX4_label, Cond.code yX4_label cX4_label 4 (some .int), Cond.classLink RX4 84 "java/lang/IndexOutOfBoundsException"]
def wsL_law0_r8 : List Cond := [Cond.initialized "java/lang/IndexOutOfBoundsException", Cond.methodLink RL 74 yX5_label, Cond.instanceMethod yX5_label, Cond.selects RX5 yX5_label yX5_label, Cond.code yX5_label cX5_label 4 (some .int), Cond.methodLink RL 75 yX4_reached, Cond.instanceMethod yX4_reached, Cond.selects RX4 yX4_reached yX4_reached, Cond.code yX4_reached cX4_reached 1 (some .int), Cond.fieldLink RX4 93 "FairLoops$Reach" "found" "I", Cond.methodLink RX4 89 yX2_walk, Cond.instanceMethod yX2_walk, Cond.selects RX2 yX2_walk yX2_walk, Cond.code yX2_walk cX2_walk 6 none, Cond.fieldLink RX2 21 "FairLoops$Graph" "states" "I", Cond.fieldLink RX2 27 "FairLoops$Reach" "found" "I", Cond.fieldLink RX2 34 "FairLoops$Graph" "start" "[I", Cond.fieldLink RX2 37 "FairLoops$Graph" "out" "[I", Cond.fieldLink RX2 40 "FairLoops$Graph" "to" "[I", Cond.methodLink RX2 30 yX2_join, Cond.instanceMethod yX2_join, Cond.selects RX2 yX2_join yX2_join, Cond.code yX2_join cX2_join 4 none, Cond.methodLink RL 78 yX5_reached]
def wsL_law0_r9 : List Cond := [Cond.instanceMethod yX5_reached, Cond.selects RX5 yX5_reached yX5_reached, Cond.code yX5_reached cX5_reached 1 (some .int), Cond.fieldLink RX5 93 "FairLoopsModel" "come" "I", Cond.methodLink RX5 96 yX5_walk, Cond.instanceMethod yX5_walk, Cond.selects RX5 yX5_walk yX5_walk, Cond.code yX5_walk cX5_walk 3 none, Cond.methodLink RL 79 yL_live, Cond.static yL_live, Cond.codeWith yL_live cL_live 4 (some .int) [(0, 16, 19, 13)], Cond.methodLink RL 27 yX4_live, Cond.instanceMethod yX4_live, Cond.selects RX4 yX4_live yX4_live, Cond.code yX4_live cX4_live 2 (some .boolean), Cond.methodLink RX4 96 yX4_refuseWrongAsk, Cond.static yX4_refuseWrongAsk, Cond.code yX4_refuseWrongAsk cX4_refuseWrongAsk 1 none, Cond.methodLink RX4 100 yX4_alwaysServed, Cond.instanceMethod yX4_alwaysServed, Cond.selects RX4 yX4_alwaysServed yX4_alwaysServed, Cond.code yX4_alwaysServed cX4_alwaysServed 2 (some .boolean), Cond.fieldLink RX4 106 "FairLoops$Knots" "found" "I", Cond.methodLink RX4 117 yX4_chooseStatesOf]
def wsL_law0_r10 : List Cond := [Cond.instanceMethod yX4_chooseStatesOf, Cond.selects RX4 yX4_chooseStatesOf yX4_chooseStatesOf, Cond.code yX4_chooseStatesOf cX4_chooseStatesOf 3 none, Cond.fieldLink RX4 138 "FairLoops$Knots" "chosen" "[Z", Cond.fieldLink RX4 167 "FairLoops$Reach" "far" "[I", Cond.fieldLink RX4 170 "FairLoops$Graph" "asks" "[I", Cond.methodLink RX4 120 yX4_deadEnd, Cond.instanceMethod yX4_deadEnd, Cond.selects RX4 yX4_deadEnd yX4_deadEnd, Cond.code yX4_deadEnd cX4_deadEnd 4 (some .int), Cond.methodLink RX4 206 yX0_isStuck, Cond.instanceMethod yX0_isStuck, Cond.selects RX0 yX0_isStuck yX0_isStuck, Cond.code yX0_isStuck cX0_isStuck 2 (some .boolean), Cond.methodLink RX4 164 yX4_keepFairStates, Cond.instanceMethod yX4_keepFairStates, Cond.selects RX4 yX4_keepFairStates yX4_keepFairStates, Cond.code yX4_keepFairStates cX4_keepFairStates 5 none, Cond.methodLink RX4 151 yX4_labelsOfKind, Cond.instanceMethod yX4_labelsOfKind, Cond.selects RX4 yX4_labelsOfKind yX4_labelsOfKind, Cond.code yX4_labelsOfKind cX4_labelsOfKind 4 (some .int), Cond.methodLink RX4 173 yX1_find, Cond.instanceMethod yX1_find]
def wsL_law0_r11 : List Cond := [Cond.selects RX1 yX1_find yX1_find, Cond.code yX1_find cX1_find 3 none, Cond.fieldLink RX1 37 "FairLoops$Knots" "found" "I", Cond.fieldLink RX1 41 "FairLoops$Knots" "closed" "I", Cond.fieldLink RX1 44 "FairLoops$Knots" "entries" "I", Cond.fieldLink RX1 47 "FairLoops$Knots" "depth" "I", Cond.fieldLink RX1 50 "FairLoops$Knots" "opened" "I", Cond.fieldLink RX1 53 "FairLoops$Graph" "states" "I", Cond.methodLink RX1 58 yX1_walkFrom, Cond.instanceMethod yX1_walkFrom, Cond.selects RX1 yX1_walkFrom yX1_walkFrom, Cond.code yX1_walkFrom cX1_walkFrom 7 none, Cond.fieldLink RX1 65 "FairLoops$Graph" "moves" "I", Cond.fieldLink RX1 68 "FairLoops$Graph" "start" "[I", Cond.fieldLink RX1 78 "FairLoops$Graph" "to" "[I", Cond.fieldLink RX1 81 "FairLoops$Graph" "out" "[I", Cond.methodLink RX1 62 yX1_enter, Cond.instanceMethod yX1_enter, Cond.selects RX1 yX1_enter yX1_enter, Cond.code yX1_enter cX1_enter 3 none, Cond.methodLink RX1 71 yX1_closeKnotBegunBy, Cond.instanceMethod yX1_closeKnotBegunBy, Cond.selects RX1 yX1_closeKnotBegunBy yX1_closeKnotBegunBy, Cond.code yX1_closeKnotBegunBy cX1_closeKnotBegunBy 3 none]
def wsL_law0_r12 : List Cond := [Cond.methodLink RX1 75 yX1_leave, Cond.instanceMethod yX1_leave, Cond.selects RX1 yX1_leave yX1_leave, Cond.code yX1_leave cX1_leave 2 none, Cond.methodLink RX1 84 yX1_lower, Cond.instanceMethod yX1_lower, Cond.selects RX1 yX1_lower yX1_lower, Cond.code yX1_lower cX1_lower 3 none, Cond.methodLink RX4 176 yX3_take, Cond.instanceMethod yX3_take, Cond.selects RX3 yX3_take yX3_take, Cond.code yX3_take cX3_take 6 none, Cond.fieldLink RX3 28 "FairLoops$Knots" "found" "I", Cond.fieldLink RX3 34 "FairLoops$Graph" "states" "I", Cond.fieldLink RX3 39 "FairLoops$Knots" "chosen" "[Z", Cond.fieldLink RX3 42 "FairLoops$Knots" "knotOf" "[I", Cond.fieldLink RX3 45 "FairLoops$Graph" "able" "[I", Cond.fieldLink RX3 52 "FairLoops$Graph" "moves" "I", Cond.fieldLink RX3 55 "FairLoops$Graph" "from" "[I", Cond.fieldLink RX3 58 "FairLoops$Graph" "to" "[I", Cond.fieldLink RX3 61 "FairLoops$Graph" "labelOf" "[I", Cond.methodLink RX3 48 yX3_addState, Cond.instanceMethod yX3_addState, Cond.selects RX3 yX3_addState yX3_addState]
def wsL_law0_r13 : List Cond := [Cond.code yX3_addState cX3_addState 4 none, Cond.methodLink RX3 64 yX3_addMove, Cond.instanceMethod yX3_addMove, Cond.selects RX3 yX3_addMove yX3_addMove, Cond.code yX3_addMove cX3_addMove 3 none, Cond.methodLink RX4 180 yX4_dropUnfairStates, Cond.instanceMethod yX4_dropUnfairStates, Cond.selects RX4 yX4_dropUnfairStates yX4_dropUnfairStates, Cond.code yX4_dropUnfairStates cX4_dropUnfairStates 5 (some .boolean), Cond.methodLink RX4 184 yX4_isUnfair, Cond.instanceMethod yX4_isUnfair, Cond.selects RX4 yX4_isUnfair yX4_isUnfair, Cond.code yX4_isUnfair cX4_isUnfair 6 (some .boolean), Cond.fieldLink RX4 188 "FairLoops$Knots" "knotOf" "[I", Cond.fieldLink RX4 191 "FairLoops$Sums" "inside" "[I", Cond.fieldLink RX4 194 "FairLoops$Sums" "goesRound" "[Z", Cond.fieldLink RX4 197 "FairLoops$Sums" "ableInAll" "[I", Cond.fieldLink RX4 200 "FairLoops$Graph" "able" "[I", Cond.methodLink RL 82 yX5_live, Cond.instanceMethod yX5_live, Cond.selects RX5 yX5_live yX5_live, Cond.code yX5_live cX5_live 2 (some .boolean), Cond.methodLink RX5 141 yX5_isAsk, Cond.instanceMethod yX5_isAsk]
def wsL_law0_r14 : List Cond := [Cond.selects RX5 yX5_isAsk yX5_isAsk, Cond.code yX5_isAsk cX5_isAsk 2 (some .boolean), Cond.methodLink RX5 144 yX5_isLive, Cond.instanceMethod yX5_isLive, Cond.selects RX5 yX5_isLive yX5_isLive, Cond.code yX5_isLive cX5_isLive 4 (some .boolean), Cond.fieldLink RX5 129 "FairLoopsModel" "parts" "I", Cond.methodLink RX5 135 yX5_look, Cond.instanceMethod yX5_look, Cond.selects RX5 yX5_look yX5_look, Cond.code yX5_look cX5_look 6 none, Cond.fieldLink RX5 123 "FairLoopsModel" "whole" "I", Cond.methodLink RX5 119 yX5_divide, Cond.instanceMethod yX5_divide, Cond.selects RX5 yX5_divide yX5_divide, Cond.code yX5_divide cX5_divide 4 (some .int), Cond.methodLink RX5 103 yX5_close, Cond.instanceMethod yX5_close, Cond.selects RX5 yX5_close yX5_close, Cond.code yX5_close cX5_close 3 none, Cond.methodLink RX5 99 yX5_spread, Cond.instanceMethod yX5_spread, Cond.selects RX5 yX5_spread yX5_spread, Cond.code yX5_spread cX5_spread 7 none]
def wsL_law0_r15 : List Cond := [Cond.methodLink RX5 106 yX5_together, Cond.instanceMethod yX5_together, Cond.selects RX5 yX5_together yX5_together, Cond.code yX5_together cX5_together 3 (some .boolean), Cond.methodLink RX5 126 yX5_shrink, Cond.instanceMethod yX5_shrink, Cond.selects RX5 yX5_shrink yX5_shrink, Cond.code yX5_shrink cX5_shrink 6 (some .boolean), Cond.methodLink RX5 116 yX5_takeAway, Cond.instanceMethod yX5_takeAway, Cond.selects RX5 yX5_takeAway yX5_takeAway, Cond.code yX5_takeAway cX5_takeAway 7 (some .boolean), Cond.methodLink RX5 110 yX5_isTaken, Cond.instanceMethod yX5_isTaken, Cond.selects RX5 yX5_isTaken yX5_isTaken, Cond.code yX5_isTaken cX5_isTaken 5 (some .boolean), Cond.methodLink RX5 113 yX5_isAble, Cond.instanceMethod yX5_isAble, Cond.selects RX5 yX5_isAble yX5_isAble, Cond.code yX5_isAble cX5_isAble 5 (some .boolean), Cond.methodLink RX5 138 yX5_isDead, Cond.instanceMethod yX5_isDead, Cond.selects RX5 yX5_isDead yX5_isDead, Cond.code yX5_isDead cX5_isDead 2 (some .boolean)]
def wsL_law0_r16 : List Cond := [Cond.methodLink RX5 132 yX5_begins, Cond.instanceMethod yX5_begins, Cond.selects RX5 yX5_begins yX5_begins, Cond.code yX5_begins cX5_begins 2 (some .boolean), Cond.methodLink RL 83 yL_parts, Cond.static yL_parts, Cond.codeWith yL_parts cL_parts 4 (some .int) [(0, 9, 12, 13)], Cond.methodLink RL 31 yX4_parts, Cond.instanceMethod yX4_parts, Cond.selects RX4 yX4_parts yX4_parts, Cond.code yX4_parts cX4_parts 2 (some .int), Cond.methodLink RX4 103 yX4_findFairParts, Cond.instanceMethod yX4_findFairParts, Cond.selects RX4 yX4_findFairParts yX4_findFairParts, Cond.code yX4_findFairParts cX4_findFairParts 2 none, Cond.methodLink RL 85 yX5_parts, Cond.instanceMethod yX5_parts, Cond.selects RX5 yX5_parts yX5_parts, Cond.code yX5_parts cX5_parts 2 (some .int), Cond.methodLink RL 86 yL_part, Cond.static yL_part, Cond.codeWith yL_part cL_part 6 (some .int) [(0, 12, 15, 13), (0, 12, 19, 25)], Cond.methodLink RL 35 yX4_part, Cond.instanceMethod yX4_part]
def wsL_law0_r17 : List Cond := [Cond.selects RX4 yX4_part yX4_part, Cond.code yX4_part cX4_part 6 (some .int), Cond.methodLink RX4 107 yX4_knotByLowestState, Cond.instanceMethod yX4_knotByLowestState, Cond.selects RX4 yX4_knotByLowestState yX4_knotByLowestState, Cond.code yX4_knotByLowestState cX4_knotByLowestState 4 (some .int), Cond.fieldLink RX4 203 "FairLoops$Sums" "lowest" "[I", Cond.methodLink RX4 111 yX4_stateOfKnot, Cond.instanceMethod yX4_stateOfKnot, Cond.selects RX4 yX4_stateOfKnot yX4_stateOfKnot, Cond.code yX4_stateOfKnot cX4_stateOfKnot 5 (some .int), Cond.methodLink RL 88 yX5_part, Cond.instanceMethod yX5_part, Cond.selects RX5 yX5_part yX5_part, Cond.code yX5_part cX5_part 6 (some .int), Cond.methodLink RL 89 yL_dead, Cond.static yL_dead, Cond.codeWith yL_dead cL_dead 5 (some .int) [(0, 10, 13, 13), (0, 10, 17, 25)], Cond.methodLink RL 38 yX4_dead, Cond.instanceMethod yX4_dead, Cond.selects RX4 yX4_dead yX4_dead, Cond.code yX4_dead cX4_dead 4 (some .int), Cond.methodLink RL 91 yX5_dead, Cond.instanceMethod yX5_dead]
def wsL_law0_r18 : List Cond := [Cond.selects RX5 yX5_dead yX5_dead, Cond.code yX5_dead cX5_dead 5 (some .int), Cond.methodLink RL 92 yL_longest, Cond.static yL_longest, Cond.codeWith yL_longest cL_longest 4 (some .int) [(0, 9, 12, 13)], Cond.methodLink RL 41 yX4_longest, Cond.instanceMethod yX4_longest, Cond.selects RX4 yX4_longest yX4_longest, Cond.code yX4_longest cX4_longest 2 (some .int), Cond.methodLink RX4 125 yX4_findParts, Cond.instanceMethod yX4_findParts, Cond.selects RX4 yX4_findParts yX4_findParts, Cond.code yX4_findParts cX4_findParts 2 none, Cond.methodLink RX4 128 yX3_largestSize, Cond.instanceMethod yX3_largestSize, Cond.selects RX3 yX3_largestSize yX3_largestSize, Cond.code yX3_largestSize cX3_largestSize 4 (some .int), Cond.methodLink RX4 131 yX4_fillRanks, Cond.instanceMethod yX4_fillRanks, Cond.selects RX4 yX4_fillRanks yX4_fillRanks, Cond.code yX4_fillRanks cX4_fillRanks 4 (some .int), Cond.fieldLink RX4 209 "FairLoops$Knots" "closed" "I", Cond.fieldLink RX4 212 "FairLoops$Knots" "order" "[I", Cond.methodLink RX4 215 yX4_rankAbove]
def wsL_law0_r19 : List Cond := [Cond.instanceMethod yX4_rankAbove, Cond.selects RX4 yX4_rankAbove yX4_rankAbove, Cond.code yX4_rankAbove cX4_rankAbove 5 (some .int), Cond.fieldLink RX4 218 "FairLoops$Graph" "start" "[I", Cond.fieldLink RX4 221 "FairLoops$Graph" "to" "[I", Cond.fieldLink RX4 224 "FairLoops$Graph" "out" "[I", Cond.methodLink RL 94 yX5_longest, Cond.instanceMethod yX5_longest, Cond.selects RX5 yX5_longest yX5_longest, Cond.code yX5_longest cX5_longest 4 (some .int), Cond.methodLink RX5 147 yX5_measure, Cond.instanceMethod yX5_measure, Cond.selects RX5 yX5_measure yX5_measure, Cond.code yX5_measure cX5_measure 6 (some .boolean), Cond.methodLink RL 95 yL_rank, Cond.static yL_rank, Cond.codeWith yL_rank cL_rank 5 (some .int) [(0, 10, 13, 13), (0, 10, 17, 25)], Cond.methodLink RL 44 yX4_rank, Cond.instanceMethod yX4_rank, Cond.selects RX4 yX4_rank yX4_rank, Cond.code yX4_rank cX4_rank 3 (some .int), Cond.methodLink RX4 135 yX4_refuseWrongState, Cond.instanceMethod yX4_refuseWrongState, Cond.selects RX4 yX4_refuseWrongState yX4_refuseWrongState]
def wsL_law0_r20 : List Cond := [Cond.code yX4_refuseWrongState cX4_refuseWrongState 2 none, Cond.methodLink RL 97 yX5_rank, Cond.instanceMethod yX5_rank, Cond.selects RX5 yX5_rank yX5_rank, Cond.code yX5_rank cX5_rank 3 (some .int), Cond.methodLink RL 98 yL_row, Cond.static yL_row, Cond.codeWith yL_row cL_row 5 (some .int) [(0, 10, 13, 25)], Cond.methodLink RL 47 yX4_row, Cond.instanceMethod yX4_row, Cond.selects RX4 yX4_row yX4_row, Cond.code yX4_row cX4_row 3 (some .int), Cond.methodLink RX4 144 yX2_moveOnWayTo, Cond.instanceMethod yX2_moveOnWayTo, Cond.selects RX2 yX2_moveOnWayTo yX2_moveOnWayTo, Cond.code yX2_moveOnWayTo cX2_moveOnWayTo 6 (some .int), Cond.fieldLink RX2 43 "FairLoops$Graph" "from" "[I", Cond.methodLink RL 100 yX5_row, Cond.instanceMethod yX5_row, Cond.selects RX5 yX5_row yX5_row, Cond.code yX5_row cX5_row 5 (some .int), Cond.methodLink RL 101 yL_largest, Cond.static yL_largest, Cond.codeWith yL_largest cL_largest 4 (some .int) [(0, 9, 12, 13)]]
def wsL_law0_r21 : List Cond := [Cond.methodLink RL 50 yX4_largest, Cond.instanceMethod yX4_largest, Cond.selects RX4 yX4_largest yX4_largest, Cond.code yX4_largest cX4_largest 2 (some .int), Cond.methodLink RL 103 yX5_largest, Cond.instanceMethod yX5_largest, Cond.selects RX5 yX5_largest yX5_largest, Cond.code yX5_largest cX5_largest 2 (some .int), Cond.methodLink RL 104 yX4_count, Cond.instanceMethod yX4_count, Cond.selects RX4 yX4_count yX4_count, Cond.code yX4_count cX4_count 2 (some .int), Cond.fieldLink RX4 148 "FairLoops$Graph" "ends" "I", Cond.methodLink RX4 154 yJ6_bitCount_0f7a4, Cond.static yJ6_bitCount_0f7a4, Cond.initialized RJ6, Cond.code yJ6_bitCount_0f7a4 cJ6_bitCount_0f7a4 1 (some .int), Cond.constant RJ6 265 (1431655765), Cond.constant RJ6 266 (858993459), Cond.constant RJ6 267 (252645135), Cond.methodLink RX4 159 yX4_liveAsks, Cond.instanceMethod yX4_liveAsks, Cond.selects RX4 yX4_liveAsks yX4_liveAsks, Cond.code yX4_liveAsks cX4_liveAsks 3 (some .int)]
def wsL_law0_r22 : List Cond := [Cond.methodLink RL 107 yX5_count, Cond.instanceMethod yX5_count, Cond.selects RX5 yX5_count yX5_count, Cond.code yX5_count cX5_count 4 (some .int)]
def wsL_law0 : List Cond := (wsL_law0_r1 ++ (wsL_law0_r2 ++ (wsL_law0_r3 ++ (wsL_law0_r4 ++ (wsL_law0_r5 ++ (wsL_law0_r6 ++ (wsL_law0_r7 ++ (wsL_law0_r8 ++ (wsL_law0_r9 ++ (wsL_law0_r10 ++ (wsL_law0_r11 ++ (wsL_law0_r12 ++ (wsL_law0_r13 ++ (wsL_law0_r14 ++ (wsL_law0_r15 ++ (wsL_law0_r16 ++ (wsL_law0_r17 ++ (wsL_law0_r18 ++ (wsL_law0_r19 ++ (wsL_law0_r20 ++ (wsL_law0_r21 ++ wsL_law0_r22))))))))))))))))))))) ++ wsX40 ++ wsX50 ++ wsX00 ++ wsX20 ++ wsX10 ++ wsX30 ++ ([] : List Cond)
def wsL_law : List Cond := wsL_law0 ++ (vx_atS RX4 48 "java/lang/IllegalArgumentException" ["java/lang/RuntimeException", "java/lang/Exception"]).filter goodWord ++ (vx_atS RX4 59 "java/lang/UnsupportedOperationException" ["java/lang/RuntimeException", "java/lang/Exception"]).filter goodWord ++ (vx_atS RX4 86 "java/lang/IndexOutOfBoundsException" ["java/lang/RuntimeException", "java/lang/Exception"]).filter goodWord
set_option maxRecDepth 20000 in
theorem wsL_law_in0 : ∀ w ∈ wsL_law0, w ∈ lw_tbl := fun w h => (goodIn_p wsL_law0 [59, 62, 67, 133, 154, 208, 588, 351, 439, 680, 684, 676, 446, 450, 454, 460, 688, 692, 468, 696, 252, 256, 260, 700, 704, 491, 494, 282, 286, 290, 294, 298, 268, 302, 306, 310, 314, 318, 322, 326, 330, 334, 338, 342, 712, 716, 720, 724, 728, 732, 736, 740, 744, 748, 752, 756, 760, 764, 502, 506, 768, 513, 517, 521, 772, 529, 776, 537, 541, 545, 549, 553, 780, 784, 560, 564, 788, 571, 576, 708, 583, 792, 264, 271, 278, 796] (by decide +kernel) (by decide +kernel) w h).1
theorem wsL_law_x0 : ∀ w ∈ (vx_atS RX4 48 "java/lang/IllegalArgumentException" ["java/lang/RuntimeException", "java/lang/Exception"]).filter goodWord, w ∈ lw_tbl := by decide +kernel
theorem wsL_law_x1 : ∀ w ∈ (vx_atS RX4 59 "java/lang/UnsupportedOperationException" ["java/lang/RuntimeException", "java/lang/Exception"]).filter goodWord, w ∈ lw_tbl := by decide +kernel
theorem wsL_law_x2 : ∀ w ∈ (vx_atS RX4 86 "java/lang/IndexOutOfBoundsException" ["java/lang/RuntimeException", "java/lang/Exception"]).filter goodWord, w ∈ lw_tbl := by decide +kernel
theorem wsL_law_in : ∀ w ∈ wsL_law, w ∈ lw_tbl := fun w h => (List.mem_append.mp h).elim (fun h => (List.mem_append.mp h).elim (fun h => (List.mem_append.mp h).elim (fun h => wsL_law_in0 w h) (fun h => wsL_law_x0 w h)) (fun h => wsL_law_x1 w h)) (fun h => wsL_law_x2 w h)
theorem inlX0 : ∀ w ∈ wsX00, w ∈ wsL_law := fun _ h => List.mem_append_left _ (List.mem_append_left _ (List.mem_append_left _ (List.mem_append_left _ (List.mem_append_left _ (List.mem_append_left _ (List.mem_append_left _ (List.mem_append_right _ h)))))))
theorem inX0 : ∀ w ∈ wsX00, w ∈ lw_tbl := fun w h => wsL_law_in w (inlX0 w h)
theorem inlX1 : ∀ w ∈ wsX10, w ∈ wsL_law := fun _ h => List.mem_append_left _ (List.mem_append_left _ (List.mem_append_left _ (List.mem_append_left _ (List.mem_append_left _ (List.mem_append_right _ h)))))
theorem inX1 : ∀ w ∈ wsX10, w ∈ lw_tbl := fun w h => wsL_law_in w (inlX1 w h)
theorem inlX2 : ∀ w ∈ wsX20, w ∈ wsL_law := fun _ h => List.mem_append_left _ (List.mem_append_left _ (List.mem_append_left _ (List.mem_append_left _ (List.mem_append_left _ (List.mem_append_left _ (List.mem_append_right _ h))))))
theorem inX2 : ∀ w ∈ wsX20, w ∈ lw_tbl := fun w h => wsL_law_in w (inlX2 w h)
theorem inlX3 : ∀ w ∈ wsX30, w ∈ wsL_law := fun _ h => List.mem_append_left _ (List.mem_append_left _ (List.mem_append_left _ (List.mem_append_left _ (List.mem_append_right _ h))))
theorem inX3 : ∀ w ∈ wsX30, w ∈ lw_tbl := fun w h => wsL_law_in w (inlX3 w h)
theorem inlX4 : ∀ w ∈ wsX40, w ∈ wsL_law := fun _ h => List.mem_append_left _ (List.mem_append_left _ (List.mem_append_left _ (List.mem_append_left _ (List.mem_append_left _ (List.mem_append_left _ (List.mem_append_left _ (List.mem_append_left _ (List.mem_append_left _ (List.mem_append_right _ h)))))))))
theorem inX4 : ∀ w ∈ wsX40, w ∈ lw_tbl := fun w h => wsL_law_in w (inlX4 w h)
theorem inlX5 : ∀ w ∈ wsX50, w ∈ wsL_law := fun _ h => List.mem_append_left _ (List.mem_append_left _ (List.mem_append_left _ (List.mem_append_left _ (List.mem_append_left _ (List.mem_append_left _ (List.mem_append_left _ (List.mem_append_left _ (List.mem_append_right _ h))))))))
theorem inX5 : ∀ w ∈ wsX50, w ∈ lw_tbl := fun w h => wsL_law_in w (inlX5 w h)
theorem inJ6 : ∀ w ∈ wsJ60, w ∈ lw_tbl := by decide +kernel
theorem inJ0 : ∀ w ∈ wsJ00, w ∈ lw_tbl := by decide +kernel
theorem dX0_init_0 : decode cX0_init 0 = .ok (.aload_n 0, 1) := by decide +kernel
theorem dX0_init_1 : decode cX0_init 1 = .ok (.invokespecial 3, 3) := by decide +kernel
theorem dX0_init_4 : decode cX0_init 4 = .ok (.aload_n 0, 1) := by decide +kernel
theorem dX0_init_5 : decode cX0_init 5 = .ok (.sipush 200, 3) := by decide +kernel
theorem dX0_init_8 : decode cX0_init 8 = .ok (.newarray .int, 2) := by decide +kernel
theorem dX0_init_10 : decode cX0_init 10 = .ok (.putfield 9, 3) := by decide +kernel
theorem dX0_init_13 : decode cX0_init 13 = .ok (.aload_n 0, 1) := by decide +kernel
theorem dX0_init_14 : decode cX0_init 14 = .ok (.sipush 200, 3) := by decide +kernel
theorem dX0_init_17 : decode cX0_init 17 = .ok (.newarray .boolean, 2) := by decide +kernel
theorem dX0_init_19 : decode cX0_init 19 = .ok (.putfield 15, 3) := by decide +kernel
theorem dX0_init_22 : decode cX0_init 22 = .ok (.aload_n 0, 1) := by decide +kernel
theorem dX0_init_23 : decode cX0_init 23 = .ok (.sipush 200, 3) := by decide +kernel
theorem dX0_init_26 : decode cX0_init 26 = .ok (.newarray .int, 2) := by decide +kernel
theorem dX0_init_28 : decode cX0_init 28 = .ok (.putfield 19, 3) := by decide +kernel
theorem dX0_init_31 : decode cX0_init 31 = .ok (.aload_n 0, 1) := by decide +kernel
theorem dX0_init_32 : decode cX0_init 32 = .ok (.sipush 600, 3) := by decide +kernel
theorem dX0_init_35 : decode cX0_init 35 = .ok (.newarray .int, 2) := by decide +kernel
theorem dX0_init_37 : decode cX0_init 37 = .ok (.putfield 22, 3) := by decide +kernel
theorem dX0_init_40 : decode cX0_init 40 = .ok (.aload_n 0, 1) := by decide +kernel
theorem dX0_init_41 : decode cX0_init 41 = .ok (.sipush 600, 3) := by decide +kernel
theorem dX0_init_44 : decode cX0_init 44 = .ok (.newarray .int, 2) := by decide +kernel
theorem dX0_init_46 : decode cX0_init 46 = .ok (.putfield 25, 3) := by decide +kernel
theorem dX0_init_49 : decode cX0_init 49 = .ok (.aload_n 0, 1) := by decide +kernel
theorem dX0_init_50 : decode cX0_init 50 = .ok (.sipush 600, 3) := by decide +kernel
theorem dX0_init_53 : decode cX0_init 53 = .ok (.newarray .int, 2) := by decide +kernel
theorem dX0_init_55 : decode cX0_init 55 = .ok (.putfield 28, 3) := by decide +kernel
theorem dX0_init_58 : decode cX0_init 58 = .ok (.aload_n 0, 1) := by decide +kernel
theorem dX0_init_59 : decode cX0_init 59 = .ok (.sipush 600, 3) := by decide +kernel
theorem dX0_init_62 : decode cX0_init 62 = .ok (.newarray .int, 2) := by decide +kernel
theorem dX0_init_64 : decode cX0_init 64 = .ok (.putfield 31, 3) := by decide +kernel
theorem dX0_init_67 : decode cX0_init 67 = .ok (.aload_n 0, 1) := by decide +kernel
theorem dX0_init_68 : decode cX0_init 68 = .ok (.sipush 201, 3) := by decide +kernel
theorem dX0_init_71 : decode cX0_init 71 = .ok (.newarray .int, 2) := by decide +kernel
theorem dX0_init_73 : decode cX0_init 73 = .ok (.putfield 34, 3) := by decide +kernel
theorem dX0_init_76 : decode cX0_init 76 = .ok (.return_, 1) := by decide +kernel
theorem dX0_hasState_0 : decode cX0_hasState 0 = .ok (.iload_n 1, 1) := by decide +kernel
theorem dX0_hasState_1 : decode cX0_hasState 1 = .ok (.ifCond .lt 15, 3) := by decide +kernel
theorem dX0_hasState_4 : decode cX0_hasState 4 = .ok (.iload_n 1, 1) := by decide +kernel
theorem dX0_hasState_5 : decode cX0_hasState 5 = .ok (.aload_n 0, 1) := by decide +kernel
theorem dX0_hasState_6 : decode cX0_hasState 6 = .ok (.getfield 37, 3) := by decide +kernel
theorem dX0_hasState_9 : decode cX0_hasState 9 = .ok (.if_icmp .ge 7, 3) := by decide +kernel
theorem dX0_hasState_12 : decode cX0_hasState 12 = .ok (.iconst 1, 1) := by decide +kernel
theorem dX0_hasState_13 : decode cX0_hasState 13 = .ok (.goto 4, 3) := by decide +kernel
theorem dX0_hasState_16 : decode cX0_hasState 16 = .ok (.iconst 0, 1) := by decide +kernel
theorem dX0_hasState_17 : decode cX0_hasState 17 = .ok (.ireturn, 1) := by decide +kernel
theorem dX0_addState_0 : decode cX0_addState 0 = .ok (.aload_n 0, 1) := by decide +kernel
theorem dX0_addState_1 : decode cX0_addState 1 = .ok (.getfield 37, 3) := by decide +kernel
theorem dX0_addState_4 : decode cX0_addState 4 = .ok (.istore_n 3, 1) := by decide +kernel
theorem dX0_addState_5 : decode cX0_addState 5 = .ok (.aload_n 0, 1) := by decide +kernel
theorem dX0_addState_6 : decode cX0_addState 6 = .ok (.getfield 9, 3) := by decide +kernel
theorem dX0_addState_9 : decode cX0_addState 9 = .ok (.iload_n 3, 1) := by decide +kernel
theorem dX0_addState_10 : decode cX0_addState 10 = .ok (.iload_n 1, 1) := by decide +kernel
theorem dX0_addState_11 : decode cX0_addState 11 = .ok (.iastore, 1) := by decide +kernel
theorem dX0_addState_12 : decode cX0_addState 12 = .ok (.aload_n 0, 1) := by decide +kernel
theorem dX0_addState_13 : decode cX0_addState 13 = .ok (.getfield 15, 3) := by decide +kernel
theorem dX0_addState_16 : decode cX0_addState 16 = .ok (.iload_n 3, 1) := by decide +kernel
theorem dX0_addState_17 : decode cX0_addState 17 = .ok (.iload_n 2, 1) := by decide +kernel
theorem dX0_addState_18 : decode cX0_addState 18 = .ok (.bastore, 1) := by decide +kernel
theorem dX0_addState_19 : decode cX0_addState 19 = .ok (.iload_n 2, 1) := by decide +kernel
theorem dX0_addState_20 : decode cX0_addState 20 = .ok (.ifCond .eq 13, 3) := by decide +kernel
theorem dX0_addState_23 : decode cX0_addState 23 = .ok (.aload_n 0, 1) := by decide +kernel
theorem dX0_addState_24 : decode cX0_addState 24 = .ok (.dup, 1) := by decide +kernel
theorem dX0_addState_25 : decode cX0_addState 25 = .ok (.getfield 41, 3) := by decide +kernel
theorem dX0_addState_28 : decode cX0_addState 28 = .ok (.iconst 1, 1) := by decide +kernel
theorem dX0_addState_29 : decode cX0_addState 29 = .ok (.iadd, 1) := by decide +kernel
theorem dX0_addState_30 : decode cX0_addState 30 = .ok (.putfield 41, 3) := by decide +kernel
theorem dX0_addState_33 : decode cX0_addState 33 = .ok (.aload_n 0, 1) := by decide +kernel
theorem dX0_addState_34 : decode cX0_addState 34 = .ok (.dup, 1) := by decide +kernel
theorem dX0_addState_35 : decode cX0_addState 35 = .ok (.getfield 37, 3) := by decide +kernel
theorem dX0_addState_38 : decode cX0_addState 38 = .ok (.iconst 1, 1) := by decide +kernel
theorem dX0_addState_39 : decode cX0_addState 39 = .ok (.iadd, 1) := by decide +kernel
theorem dX0_addState_40 : decode cX0_addState 40 = .ok (.putfield 37, 3) := by decide +kernel
theorem dX0_addState_43 : decode cX0_addState 43 = .ok (.aload_n 0, 1) := by decide +kernel
theorem dX0_addState_44 : decode cX0_addState 44 = .ok (.getfield 34, 3) := by decide +kernel
theorem dX0_addState_47 : decode cX0_addState 47 = .ok (.aload_n 0, 1) := by decide +kernel
theorem dX0_addState_48 : decode cX0_addState 48 = .ok (.getfield 37, 3) := by decide +kernel
theorem dX0_addState_51 : decode cX0_addState 51 = .ok (.aload_n 0, 1) := by decide +kernel
theorem dX0_addState_52 : decode cX0_addState 52 = .ok (.getfield 44, 3) := by decide +kernel
theorem dX0_addState_55 : decode cX0_addState 55 = .ok (.iastore, 1) := by decide +kernel
theorem dX0_addState_56 : decode cX0_addState 56 = .ok (.iload_n 3, 1) := by decide +kernel
theorem dX0_addState_57 : decode cX0_addState 57 = .ok (.ireturn, 1) := by decide +kernel
theorem dX0_addMove_0 : decode cX0_addMove 0 = .ok (.aload_n 0, 1) := by decide +kernel
theorem dX0_addMove_1 : decode cX0_addMove 1 = .ok (.getfield 44, 3) := by decide +kernel
theorem dX0_addMove_4 : decode cX0_addMove 4 = .ok (.istore 4, 2) := by decide +kernel
theorem dX0_addMove_6 : decode cX0_addMove 6 = .ok (.aload_n 0, 1) := by decide +kernel
theorem dX0_addMove_7 : decode cX0_addMove 7 = .ok (.getfield 22, 3) := by decide +kernel
theorem dX0_addMove_10 : decode cX0_addMove 10 = .ok (.iload 4, 2) := by decide +kernel
theorem dX0_addMove_12 : decode cX0_addMove 12 = .ok (.iload_n 1, 1) := by decide +kernel
theorem dX0_addMove_13 : decode cX0_addMove 13 = .ok (.iastore, 1) := by decide +kernel
theorem dX0_addMove_14 : decode cX0_addMove 14 = .ok (.aload_n 0, 1) := by decide +kernel
theorem dX0_addMove_15 : decode cX0_addMove 15 = .ok (.getfield 25, 3) := by decide +kernel
theorem dX0_addMove_18 : decode cX0_addMove 18 = .ok (.iload 4, 2) := by decide +kernel
theorem dX0_addMove_20 : decode cX0_addMove 20 = .ok (.iload_n 2, 1) := by decide +kernel
theorem dX0_addMove_21 : decode cX0_addMove 21 = .ok (.iastore, 1) := by decide +kernel
theorem dX0_addMove_22 : decode cX0_addMove 22 = .ok (.aload_n 0, 1) := by decide +kernel
theorem dX0_addMove_23 : decode cX0_addMove 23 = .ok (.getfield 28, 3) := by decide +kernel
theorem dX0_addMove_26 : decode cX0_addMove 26 = .ok (.iload 4, 2) := by decide +kernel
theorem dX0_addMove_28 : decode cX0_addMove 28 = .ok (.iload_n 3, 1) := by decide +kernel
theorem dX0_addMove_29 : decode cX0_addMove 29 = .ok (.iastore, 1) := by decide +kernel
theorem dX0_addMove_30 : decode cX0_addMove 30 = .ok (.iload_n 3, 1) := by decide +kernel
theorem dX0_addMove_31 : decode cX0_addMove 31 = .ok (.iconst (-1), 1) := by decide +kernel
theorem dX0_addMove_32 : decode cX0_addMove 32 = .ok (.if_icmp .eq 15, 3) := by decide +kernel
theorem dX0_addMove_35 : decode cX0_addMove 35 = .ok (.aload_n 0, 1) := by decide +kernel
theorem dX0_addMove_36 : decode cX0_addMove 36 = .ok (.getfield 19, 3) := by decide +kernel
theorem dX0_addMove_39 : decode cX0_addMove 39 = .ok (.iload_n 1, 1) := by decide +kernel
theorem dX0_addMove_40 : decode cX0_addMove 40 = .ok (.dup2, 1) := by decide +kernel
theorem dX0_addMove_41 : decode cX0_addMove 41 = .ok (.iaload, 1) := by decide +kernel
theorem dX0_addMove_42 : decode cX0_addMove 42 = .ok (.iconst 1, 1) := by decide +kernel
theorem dX0_addMove_43 : decode cX0_addMove 43 = .ok (.iload_n 3, 1) := by decide +kernel
theorem dX0_addMove_44 : decode cX0_addMove 44 = .ok (.ishl, 1) := by decide +kernel
theorem dX0_addMove_45 : decode cX0_addMove 45 = .ok (.ior, 1) := by decide +kernel
theorem dX0_addMove_46 : decode cX0_addMove 46 = .ok (.iastore, 1) := by decide +kernel
theorem dX0_addMove_47 : decode cX0_addMove 47 = .ok (.iload 4, 2) := by decide +kernel
theorem dX0_addMove_49 : decode cX0_addMove 49 = .ok (.istore 5, 2) := by decide +kernel
theorem dX0_addMove_51 : decode cX0_addMove 51 = .ok (.iload 5, 2) := by decide +kernel
theorem dX0_addMove_53 : decode cX0_addMove 53 = .ok (.aload_n 0, 1) := by decide +kernel
theorem dX0_addMove_54 : decode cX0_addMove 54 = .ok (.getfield 34, 3) := by decide +kernel
theorem dX0_addMove_57 : decode cX0_addMove 57 = .ok (.iload_n 1, 1) := by decide +kernel
theorem dX0_addMove_58 : decode cX0_addMove 58 = .ok (.iconst 1, 1) := by decide +kernel
theorem dX0_addMove_59 : decode cX0_addMove 59 = .ok (.iadd, 1) := by decide +kernel
theorem dX0_addMove_60 : decode cX0_addMove 60 = .ok (.iaload, 1) := by decide +kernel
theorem dX0_addMove_61 : decode cX0_addMove 61 = .ok (.if_icmp .le 25, 3) := by decide +kernel
theorem dX0_addMove_64 : decode cX0_addMove 64 = .ok (.aload_n 0, 1) := by decide +kernel
theorem dX0_addMove_65 : decode cX0_addMove 65 = .ok (.getfield 31, 3) := by decide +kernel
theorem dX0_addMove_68 : decode cX0_addMove 68 = .ok (.iload 5, 2) := by decide +kernel
theorem dX0_addMove_70 : decode cX0_addMove 70 = .ok (.aload_n 0, 1) := by decide +kernel
theorem dX0_addMove_71 : decode cX0_addMove 71 = .ok (.getfield 31, 3) := by decide +kernel
theorem dX0_addMove_74 : decode cX0_addMove 74 = .ok (.iload 5, 2) := by decide +kernel
theorem dX0_addMove_76 : decode cX0_addMove 76 = .ok (.iconst 1, 1) := by decide +kernel
theorem dX0_addMove_77 : decode cX0_addMove 77 = .ok (.isub, 1) := by decide +kernel
theorem dX0_addMove_78 : decode cX0_addMove 78 = .ok (.iaload, 1) := by decide +kernel
theorem dX0_addMove_79 : decode cX0_addMove 79 = .ok (.iastore, 1) := by decide +kernel
theorem dX0_addMove_80 : decode cX0_addMove 80 = .ok (.iinc 5 (-1), 3) := by decide +kernel
theorem dX0_addMove_83 : decode cX0_addMove 83 = .ok (.goto (-32), 3) := by decide +kernel
theorem dX0_addMove_86 : decode cX0_addMove 86 = .ok (.aload_n 0, 1) := by decide +kernel
theorem dX0_addMove_87 : decode cX0_addMove 87 = .ok (.getfield 31, 3) := by decide +kernel
theorem dX0_addMove_90 : decode cX0_addMove 90 = .ok (.aload_n 0, 1) := by decide +kernel
theorem dX0_addMove_91 : decode cX0_addMove 91 = .ok (.getfield 34, 3) := by decide +kernel
theorem dX0_addMove_94 : decode cX0_addMove 94 = .ok (.iload_n 1, 1) := by decide +kernel
theorem dX0_addMove_95 : decode cX0_addMove 95 = .ok (.iconst 1, 1) := by decide +kernel
theorem dX0_addMove_96 : decode cX0_addMove 96 = .ok (.iadd, 1) := by decide +kernel
theorem dX0_addMove_97 : decode cX0_addMove 97 = .ok (.iaload, 1) := by decide +kernel
theorem dX0_addMove_98 : decode cX0_addMove 98 = .ok (.iload 4, 2) := by decide +kernel
theorem dX0_addMove_100 : decode cX0_addMove 100 = .ok (.iastore, 1) := by decide +kernel
theorem dX0_addMove_101 : decode cX0_addMove 101 = .ok (.iload_n 1, 1) := by decide +kernel
theorem dX0_addMove_102 : decode cX0_addMove 102 = .ok (.iconst 1, 1) := by decide +kernel
theorem dX0_addMove_103 : decode cX0_addMove 103 = .ok (.iadd, 1) := by decide +kernel
theorem dX0_addMove_104 : decode cX0_addMove 104 = .ok (.istore 5, 2) := by decide +kernel
theorem dX0_addMove_106 : decode cX0_addMove 106 = .ok (.iload 5, 2) := by decide +kernel
theorem dX0_addMove_108 : decode cX0_addMove 108 = .ok (.aload_n 0, 1) := by decide +kernel
theorem dX0_addMove_109 : decode cX0_addMove 109 = .ok (.getfield 37, 3) := by decide +kernel
theorem dX0_addMove_112 : decode cX0_addMove 112 = .ok (.if_icmp .gt 20, 3) := by decide +kernel
theorem dX0_addMove_115 : decode cX0_addMove 115 = .ok (.aload_n 0, 1) := by decide +kernel
theorem dX0_addMove_116 : decode cX0_addMove 116 = .ok (.getfield 34, 3) := by decide +kernel
theorem dX0_addMove_119 : decode cX0_addMove 119 = .ok (.iload 5, 2) := by decide +kernel
theorem dX0_addMove_121 : decode cX0_addMove 121 = .ok (.dup2, 1) := by decide +kernel
theorem dX0_addMove_122 : decode cX0_addMove 122 = .ok (.iaload, 1) := by decide +kernel
theorem dX0_addMove_123 : decode cX0_addMove 123 = .ok (.iconst 1, 1) := by decide +kernel
theorem dX0_addMove_124 : decode cX0_addMove 124 = .ok (.iadd, 1) := by decide +kernel
theorem dX0_addMove_125 : decode cX0_addMove 125 = .ok (.iastore, 1) := by decide +kernel
theorem dX0_addMove_126 : decode cX0_addMove 126 = .ok (.iinc 5 1, 3) := by decide +kernel
theorem dX0_addMove_129 : decode cX0_addMove 129 = .ok (.goto (-23), 3) := by decide +kernel
theorem dX0_addMove_132 : decode cX0_addMove 132 = .ok (.aload_n 0, 1) := by decide +kernel
theorem dX0_addMove_133 : decode cX0_addMove 133 = .ok (.dup, 1) := by decide +kernel
theorem dX0_addMove_134 : decode cX0_addMove 134 = .ok (.getfield 44, 3) := by decide +kernel
theorem dX0_addMove_137 : decode cX0_addMove 137 = .ok (.iconst 1, 1) := by decide +kernel
theorem dX0_addMove_138 : decode cX0_addMove 138 = .ok (.iadd, 1) := by decide +kernel
theorem dX0_addMove_139 : decode cX0_addMove 139 = .ok (.putfield 44, 3) := by decide +kernel
theorem dX0_addMove_142 : decode cX0_addMove 142 = .ok (.iload 4, 2) := by decide +kernel
theorem dX0_addMove_144 : decode cX0_addMove 144 = .ok (.ireturn, 1) := by decide +kernel
theorem dX0_isStuck_0 : decode cX0_isStuck 0 = .ok (.aload_n 0, 1) := by decide +kernel
theorem dX0_isStuck_1 : decode cX0_isStuck 1 = .ok (.getfield 15, 3) := by decide +kernel
theorem dX0_isStuck_4 : decode cX0_isStuck 4 = .ok (.iload_n 1, 1) := by decide +kernel
theorem dX0_isStuck_5 : decode cX0_isStuck 5 = .ok (.baload, 1) := by decide +kernel
theorem dX0_isStuck_6 : decode cX0_isStuck 6 = .ok (.ifCond .ne 24, 3) := by decide +kernel
theorem dX0_isStuck_9 : decode cX0_isStuck 9 = .ok (.aload_n 0, 1) := by decide +kernel
theorem dX0_isStuck_10 : decode cX0_isStuck 10 = .ok (.getfield 34, 3) := by decide +kernel
theorem dX0_isStuck_13 : decode cX0_isStuck 13 = .ok (.iload_n 1, 1) := by decide +kernel
theorem dX0_isStuck_14 : decode cX0_isStuck 14 = .ok (.iaload, 1) := by decide +kernel
theorem dX0_isStuck_15 : decode cX0_isStuck 15 = .ok (.aload_n 0, 1) := by decide +kernel
theorem dX0_isStuck_16 : decode cX0_isStuck 16 = .ok (.getfield 34, 3) := by decide +kernel
theorem dX0_isStuck_19 : decode cX0_isStuck 19 = .ok (.iload_n 1, 1) := by decide +kernel
theorem dX0_isStuck_20 : decode cX0_isStuck 20 = .ok (.iconst 1, 1) := by decide +kernel
theorem dX0_isStuck_21 : decode cX0_isStuck 21 = .ok (.iadd, 1) := by decide +kernel
theorem dX0_isStuck_22 : decode cX0_isStuck 22 = .ok (.iaload, 1) := by decide +kernel
theorem dX0_isStuck_23 : decode cX0_isStuck 23 = .ok (.if_icmp .ne 7, 3) := by decide +kernel
theorem dX0_isStuck_26 : decode cX0_isStuck 26 = .ok (.iconst 1, 1) := by decide +kernel
theorem dX0_isStuck_27 : decode cX0_isStuck 27 = .ok (.goto 4, 3) := by decide +kernel
theorem dX0_isStuck_30 : decode cX0_isStuck 30 = .ok (.iconst 0, 1) := by decide +kernel
theorem dX0_isStuck_31 : decode cX0_isStuck 31 = .ok (.ireturn, 1) := by decide +kernel
theorem dX1_init_0 : decode cX1_init 0 = .ok (.aload_n 0, 1) := by decide +kernel
theorem dX1_init_1 : decode cX1_init 1 = .ok (.invokespecial 3, 3) := by decide +kernel
theorem dX1_init_4 : decode cX1_init 4 = .ok (.aload_n 0, 1) := by decide +kernel
theorem dX1_init_5 : decode cX1_init 5 = .ok (.sipush 200, 3) := by decide +kernel
theorem dX1_init_8 : decode cX1_init 8 = .ok (.newarray .boolean, 2) := by decide +kernel
theorem dX1_init_10 : decode cX1_init 10 = .ok (.putfield 9, 3) := by decide +kernel
theorem dX1_init_13 : decode cX1_init 13 = .ok (.aload_n 0, 1) := by decide +kernel
theorem dX1_init_14 : decode cX1_init 14 = .ok (.sipush 200, 3) := by decide +kernel
theorem dX1_init_17 : decode cX1_init 17 = .ok (.newarray .int, 2) := by decide +kernel
theorem dX1_init_19 : decode cX1_init 19 = .ok (.putfield 15, 3) := by decide +kernel
theorem dX1_init_22 : decode cX1_init 22 = .ok (.aload_n 0, 1) := by decide +kernel
theorem dX1_init_23 : decode cX1_init 23 = .ok (.sipush 200, 3) := by decide +kernel
theorem dX1_init_26 : decode cX1_init 26 = .ok (.newarray .int, 2) := by decide +kernel
theorem dX1_init_28 : decode cX1_init 28 = .ok (.putfield 19, 3) := by decide +kernel
theorem dX1_init_31 : decode cX1_init 31 = .ok (.aload_n 0, 1) := by decide +kernel
theorem dX1_init_32 : decode cX1_init 32 = .ok (.sipush 200, 3) := by decide +kernel
theorem dX1_init_35 : decode cX1_init 35 = .ok (.newarray .int, 2) := by decide +kernel
theorem dX1_init_37 : decode cX1_init 37 = .ok (.putfield 22, 3) := by decide +kernel
theorem dX1_init_40 : decode cX1_init 40 = .ok (.aload_n 0, 1) := by decide +kernel
theorem dX1_init_41 : decode cX1_init 41 = .ok (.sipush 200, 3) := by decide +kernel
theorem dX1_init_44 : decode cX1_init 44 = .ok (.newarray .int, 2) := by decide +kernel
theorem dX1_init_46 : decode cX1_init 46 = .ok (.putfield 25, 3) := by decide +kernel
theorem dX1_init_49 : decode cX1_init 49 = .ok (.aload_n 0, 1) := by decide +kernel
theorem dX1_init_50 : decode cX1_init 50 = .ok (.sipush 200, 3) := by decide +kernel
theorem dX1_init_53 : decode cX1_init 53 = .ok (.newarray .int, 2) := by decide +kernel
theorem dX1_init_55 : decode cX1_init 55 = .ok (.putfield 28, 3) := by decide +kernel
theorem dX1_init_58 : decode cX1_init 58 = .ok (.aload_n 0, 1) := by decide +kernel
theorem dX1_init_59 : decode cX1_init 59 = .ok (.sipush 200, 3) := by decide +kernel
theorem dX1_init_62 : decode cX1_init 62 = .ok (.newarray .int, 2) := by decide +kernel
theorem dX1_init_64 : decode cX1_init 64 = .ok (.putfield 31, 3) := by decide +kernel
theorem dX1_init_67 : decode cX1_init 67 = .ok (.aload_n 0, 1) := by decide +kernel
theorem dX1_init_68 : decode cX1_init 68 = .ok (.sipush 200, 3) := by decide +kernel
theorem dX1_init_71 : decode cX1_init 71 = .ok (.newarray .int, 2) := by decide +kernel
theorem dX1_init_73 : decode cX1_init 73 = .ok (.putfield 34, 3) := by decide +kernel
theorem dX1_init_76 : decode cX1_init 76 = .ok (.return_, 1) := by decide +kernel
set_option maxRecDepth 20000 in
theorem ggX1_find_X1_walkFrom : GoodIn wsX1_find wsX1_walkFrom := goodIn_r _ [14, 6, 15, 4, 16, 17, 18, 19, 20, 9, 7, 8, 21, 22, 23, 13, 24, 3, 25, 26, 5, 27, 28, 29, 30, 1, 31, 2, 32, 33, 34, 35, 36, 37, 38, 39, 53, 54, 55, 56, 57, 58, 59, 60, 61, 62, 63, 40, 41, 42, 43, 44, 45, 46, 47, 48, 49, 50, 51, 52] (by decide +kernel) (by decide +kernel)
set_option maxRecDepth 20000 in
theorem gX1_find_X1_walkFrom : GoodIn wsX1_find (wsV RX1 58 RX1 yX1_walkFrom wsX1_walkFrom) := goodIn_app (goodIn_of _ (by decide +kernel)) ggX1_find_X1_walkFrom
theorem dX1_find_0 : decode cX1_find 0 = .ok (.aload_n 0, 1) := by decide +kernel
theorem dX1_find_1 : decode cX1_find 1 = .ok (.iconst 0, 1) := by decide +kernel
theorem dX1_find_2 : decode cX1_find 2 = .ok (.putfield 37, 3) := by decide +kernel
theorem dX1_find_5 : decode cX1_find 5 = .ok (.aload_n 0, 1) := by decide +kernel
theorem dX1_find_6 : decode cX1_find 6 = .ok (.iconst 0, 1) := by decide +kernel
theorem dX1_find_7 : decode cX1_find 7 = .ok (.putfield 41, 3) := by decide +kernel
theorem dX1_find_10 : decode cX1_find 10 = .ok (.aload_n 0, 1) := by decide +kernel
theorem dX1_find_11 : decode cX1_find 11 = .ok (.iconst 0, 1) := by decide +kernel
theorem dX1_find_12 : decode cX1_find 12 = .ok (.putfield 44, 3) := by decide +kernel
theorem dX1_find_15 : decode cX1_find 15 = .ok (.aload_n 0, 1) := by decide +kernel
theorem dX1_find_16 : decode cX1_find 16 = .ok (.iconst 0, 1) := by decide +kernel
theorem dX1_find_17 : decode cX1_find 17 = .ok (.putfield 47, 3) := by decide +kernel
theorem dX1_find_20 : decode cX1_find 20 = .ok (.aload_n 0, 1) := by decide +kernel
theorem dX1_find_21 : decode cX1_find 21 = .ok (.iconst 0, 1) := by decide +kernel
theorem dX1_find_22 : decode cX1_find 22 = .ok (.putfield 50, 3) := by decide +kernel
theorem dX1_find_25 : decode cX1_find 25 = .ok (.iconst 0, 1) := by decide +kernel
theorem dX1_find_26 : decode cX1_find 26 = .ok (.istore_n 2, 1) := by decide +kernel
theorem dX1_find_27 : decode cX1_find 27 = .ok (.iload_n 2, 1) := by decide +kernel
theorem dX1_find_28 : decode cX1_find 28 = .ok (.aload_n 1, 1) := by decide +kernel
theorem dX1_find_29 : decode cX1_find 29 = .ok (.getfield 53, 3) := by decide +kernel
theorem dX1_find_32 : decode cX1_find 32 = .ok (.if_icmp .ge 23, 3) := by decide +kernel
theorem dX1_find_35 : decode cX1_find 35 = .ok (.aload_n 0, 1) := by decide +kernel
theorem dX1_find_36 : decode cX1_find 36 = .ok (.getfield 22, 3) := by decide +kernel
theorem dX1_find_39 : decode cX1_find 39 = .ok (.iload_n 2, 1) := by decide +kernel
theorem dX1_find_40 : decode cX1_find 40 = .ok (.iconst 0, 1) := by decide +kernel
theorem dX1_find_41 : decode cX1_find 41 = .ok (.iastore, 1) := by decide +kernel
theorem dX1_find_42 : decode cX1_find 42 = .ok (.aload_n 0, 1) := by decide +kernel
theorem dX1_find_43 : decode cX1_find 43 = .ok (.getfield 15, 3) := by decide +kernel
theorem dX1_find_46 : decode cX1_find 46 = .ok (.iload_n 2, 1) := by decide +kernel
theorem dX1_find_47 : decode cX1_find 47 = .ok (.iconst (-1), 1) := by decide +kernel
theorem dX1_find_48 : decode cX1_find 48 = .ok (.iastore, 1) := by decide +kernel
theorem dX1_find_49 : decode cX1_find 49 = .ok (.iinc 2 1, 3) := by decide +kernel
theorem dX1_find_52 : decode cX1_find 52 = .ok (.goto (-25), 3) := by decide +kernel
theorem dX1_find_55 : decode cX1_find 55 = .ok (.iconst 0, 1) := by decide +kernel
theorem dX1_find_56 : decode cX1_find 56 = .ok (.istore_n 2, 1) := by decide +kernel
theorem dX1_find_57 : decode cX1_find 57 = .ok (.iload_n 2, 1) := by decide +kernel
theorem dX1_find_58 : decode cX1_find 58 = .ok (.aload_n 1, 1) := by decide +kernel
theorem dX1_find_59 : decode cX1_find 59 = .ok (.getfield 53, 3) := by decide +kernel
theorem dX1_find_62 : decode cX1_find 62 = .ok (.if_icmp .ge 33, 3) := by decide +kernel
theorem dX1_find_65 : decode cX1_find 65 = .ok (.aload_n 0, 1) := by decide +kernel
theorem dX1_find_66 : decode cX1_find 66 = .ok (.getfield 9, 3) := by decide +kernel
theorem dX1_find_69 : decode cX1_find 69 = .ok (.iload_n 2, 1) := by decide +kernel
theorem dX1_find_70 : decode cX1_find 70 = .ok (.baload, 1) := by decide +kernel
theorem dX1_find_71 : decode cX1_find 71 = .ok (.ifCond .eq 18, 3) := by decide +kernel
theorem dX1_find_74 : decode cX1_find 74 = .ok (.aload_n 0, 1) := by decide +kernel
theorem dX1_find_75 : decode cX1_find 75 = .ok (.getfield 22, 3) := by decide +kernel
theorem dX1_find_78 : decode cX1_find 78 = .ok (.iload_n 2, 1) := by decide +kernel
theorem dX1_find_79 : decode cX1_find 79 = .ok (.iaload, 1) := by decide +kernel
theorem dX1_find_80 : decode cX1_find 80 = .ok (.ifCond .ne 9, 3) := by decide +kernel
theorem dX1_find_83 : decode cX1_find 83 = .ok (.aload_n 0, 1) := by decide +kernel
theorem dX1_find_84 : decode cX1_find 84 = .ok (.aload_n 1, 1) := by decide +kernel
theorem dX1_find_85 : decode cX1_find 85 = .ok (.iload_n 2, 1) := by decide +kernel
theorem dX1_find_86 : decode cX1_find 86 = .ok (.invokevirtual 58, 3) := by decide +kernel
theorem dX1_find_89 : decode cX1_find 89 = .ok (.iinc 2 1, 3) := by decide +kernel
theorem dX1_find_92 : decode cX1_find 92 = .ok (.goto (-35), 3) := by decide +kernel
theorem dX1_find_95 : decode cX1_find 95 = .ok (.return_, 1) := by decide +kernel
set_option maxRecDepth 20000 in
theorem ggX1_walkFrom_X1_enter : GoodIn wsX1_walkFrom wsX1_enter := goodIn_r _ [16, 17, 10, 18, 5, 6, 4, 3, 19, 20, 47, 48, 49, 50, 51, 52, 53, 54, 55, 56, 57, 58, 59, 36, 37, 38, 39, 40, 41, 42, 43, 44, 45, 46] (by decide +kernel) (by decide +kernel)
set_option maxRecDepth 20000 in
theorem gX1_walkFrom_X1_enter : GoodIn wsX1_walkFrom (wsV RX1 62 RX1 yX1_enter wsX1_enter) := goodIn_app (goodIn_of _ (by decide +kernel)) ggX1_walkFrom_X1_enter
set_option maxRecDepth 20000 in
theorem ggX1_walkFrom_X1_closeKnotBegunBy : GoodIn wsX1_walkFrom wsX1_closeKnotBegunBy := goodIn_r _ [24, 18, 10, 20, 11, 19, 25, 26, 27, 47, 48, 49, 50, 51, 52, 53, 54, 55, 56, 57, 58, 59] (by decide +kernel) (by decide +kernel)
set_option maxRecDepth 20000 in
theorem gX1_walkFrom_X1_closeKnotBegunBy : GoodIn wsX1_walkFrom (wsV RX1 71 RX1 yX1_closeKnotBegunBy wsX1_closeKnotBegunBy) := goodIn_app (goodIn_of _ (by decide +kernel)) ggX1_walkFrom_X1_closeKnotBegunBy
set_option maxRecDepth 20000 in
theorem ggX1_walkFrom_X1_leave : GoodIn wsX1_walkFrom wsX1_leave := goodIn_r _ [31, 3, 4, 18, 32, 33, 34, 15, 35, 47, 48, 49, 50, 51, 52, 53, 54, 55, 56, 57, 58, 59] (by decide +kernel) (by decide +kernel)
set_option maxRecDepth 20000 in
theorem gX1_walkFrom_X1_leave : GoodIn wsX1_walkFrom (wsV RX1 75 RX1 yX1_leave wsX1_leave) := goodIn_app (goodIn_of _ (by decide +kernel)) ggX1_walkFrom_X1_leave
set_option maxRecDepth 20000 in
theorem ggX1_walkFrom_X1_lower : GoodIn wsX1_walkFrom wsX1_lower := goodIn_r _ [35, 18, 47, 48, 49, 50, 51, 52, 53, 54, 55, 56, 57, 58, 59] (by decide +kernel) (by decide +kernel)
set_option maxRecDepth 20000 in
theorem gX1_walkFrom_X1_lower : GoodIn wsX1_walkFrom (wsV RX1 84 RX1 yX1_lower wsX1_lower) := goodIn_app (goodIn_of _ (by decide +kernel)) ggX1_walkFrom_X1_lower
theorem dX1_walkFrom_0 : decode cX1_walkFrom 0 = .ok (.aload_n 0, 1) := by decide +kernel
theorem dX1_walkFrom_1 : decode cX1_walkFrom 1 = .ok (.aload_n 1, 1) := by decide +kernel
theorem dX1_walkFrom_2 : decode cX1_walkFrom 2 = .ok (.iload_n 2, 1) := by decide +kernel
theorem dX1_walkFrom_3 : decode cX1_walkFrom 3 = .ok (.invokevirtual 62, 3) := by decide +kernel
theorem dX1_walkFrom_6 : decode cX1_walkFrom 6 = .ok (.aload_n 1, 1) := by decide +kernel
theorem dX1_walkFrom_7 : decode cX1_walkFrom 7 = .ok (.getfield 53, 3) := by decide +kernel
theorem dX1_walkFrom_10 : decode cX1_walkFrom 10 = .ok (.aload_n 1, 1) := by decide +kernel
theorem dX1_walkFrom_11 : decode cX1_walkFrom 11 = .ok (.getfield 65, 3) := by decide +kernel
theorem dX1_walkFrom_14 : decode cX1_walkFrom 14 = .ok (.iadd, 1) := by decide +kernel
theorem dX1_walkFrom_15 : decode cX1_walkFrom 15 = .ok (.istore_n 3, 1) := by decide +kernel
theorem dX1_walkFrom_16 : decode cX1_walkFrom 16 = .ok (.iconst 0, 1) := by decide +kernel
theorem dX1_walkFrom_17 : decode cX1_walkFrom 17 = .ok (.istore 4, 2) := by decide +kernel
theorem dX1_walkFrom_19 : decode cX1_walkFrom 19 = .ok (.iload 4, 2) := by decide +kernel
theorem dX1_walkFrom_21 : decode cX1_walkFrom 21 = .ok (.iload_n 3, 1) := by decide +kernel
theorem dX1_walkFrom_22 : decode cX1_walkFrom 22 = .ok (.if_icmp .ge 157, 3) := by decide +kernel
theorem dX1_walkFrom_25 : decode cX1_walkFrom 25 = .ok (.aload_n 0, 1) := by decide +kernel
theorem dX1_walkFrom_26 : decode cX1_walkFrom 26 = .ok (.getfield 47, 3) := by decide +kernel
theorem dX1_walkFrom_29 : decode cX1_walkFrom 29 = .ok (.ifCond .le 150, 3) := by decide +kernel
theorem dX1_walkFrom_32 : decode cX1_walkFrom 32 = .ok (.aload_n 0, 1) := by decide +kernel
theorem dX1_walkFrom_33 : decode cX1_walkFrom 33 = .ok (.getfield 31, 3) := by decide +kernel
theorem dX1_walkFrom_36 : decode cX1_walkFrom 36 = .ok (.aload_n 0, 1) := by decide +kernel
theorem dX1_walkFrom_37 : decode cX1_walkFrom 37 = .ok (.getfield 47, 3) := by decide +kernel
theorem dX1_walkFrom_40 : decode cX1_walkFrom 40 = .ok (.iconst 1, 1) := by decide +kernel
theorem dX1_walkFrom_41 : decode cX1_walkFrom 41 = .ok (.isub, 1) := by decide +kernel
theorem dX1_walkFrom_42 : decode cX1_walkFrom 42 = .ok (.iaload, 1) := by decide +kernel
theorem dX1_walkFrom_43 : decode cX1_walkFrom 43 = .ok (.istore 5, 2) := by decide +kernel
theorem dX1_walkFrom_45 : decode cX1_walkFrom 45 = .ok (.aload_n 0, 1) := by decide +kernel
theorem dX1_walkFrom_46 : decode cX1_walkFrom 46 = .ok (.getfield 28, 3) := by decide +kernel
theorem dX1_walkFrom_49 : decode cX1_walkFrom 49 = .ok (.iload 5, 2) := by decide +kernel
theorem dX1_walkFrom_51 : decode cX1_walkFrom 51 = .ok (.iaload, 1) := by decide +kernel
theorem dX1_walkFrom_52 : decode cX1_walkFrom 52 = .ok (.aload_n 1, 1) := by decide +kernel
theorem dX1_walkFrom_53 : decode cX1_walkFrom 53 = .ok (.getfield 68, 3) := by decide +kernel
theorem dX1_walkFrom_56 : decode cX1_walkFrom 56 = .ok (.iload 5, 2) := by decide +kernel
theorem dX1_walkFrom_58 : decode cX1_walkFrom 58 = .ok (.iconst 1, 1) := by decide +kernel
theorem dX1_walkFrom_59 : decode cX1_walkFrom 59 = .ok (.iadd, 1) := by decide +kernel
theorem dX1_walkFrom_60 : decode cX1_walkFrom 60 = .ok (.iaload, 1) := by decide +kernel
theorem dX1_walkFrom_61 : decode cX1_walkFrom 61 = .ok (.if_icmp .ne 18, 3) := by decide +kernel
theorem dX1_walkFrom_64 : decode cX1_walkFrom 64 = .ok (.aload_n 0, 1) := by decide +kernel
theorem dX1_walkFrom_65 : decode cX1_walkFrom 65 = .ok (.iload 5, 2) := by decide +kernel
theorem dX1_walkFrom_67 : decode cX1_walkFrom 67 = .ok (.invokevirtual 71, 3) := by decide +kernel
theorem dX1_walkFrom_70 : decode cX1_walkFrom 70 = .ok (.aload_n 0, 1) := by decide +kernel
theorem dX1_walkFrom_71 : decode cX1_walkFrom 71 = .ok (.iload 5, 2) := by decide +kernel
theorem dX1_walkFrom_73 : decode cX1_walkFrom 73 = .ok (.invokevirtual 75, 3) := by decide +kernel
theorem dX1_walkFrom_76 : decode cX1_walkFrom 76 = .ok (.goto 97, 3) := by decide +kernel
theorem dX1_walkFrom_79 : decode cX1_walkFrom 79 = .ok (.aload_n 1, 1) := by decide +kernel
theorem dX1_walkFrom_80 : decode cX1_walkFrom 80 = .ok (.getfield 78, 3) := by decide +kernel
theorem dX1_walkFrom_83 : decode cX1_walkFrom 83 = .ok (.aload_n 1, 1) := by decide +kernel
theorem dX1_walkFrom_84 : decode cX1_walkFrom 84 = .ok (.getfield 81, 3) := by decide +kernel
theorem dX1_walkFrom_87 : decode cX1_walkFrom 87 = .ok (.aload_n 0, 1) := by decide +kernel
theorem dX1_walkFrom_88 : decode cX1_walkFrom 88 = .ok (.getfield 28, 3) := by decide +kernel
theorem dX1_walkFrom_91 : decode cX1_walkFrom 91 = .ok (.iload 5, 2) := by decide +kernel
theorem dX1_walkFrom_93 : decode cX1_walkFrom 93 = .ok (.iaload, 1) := by decide +kernel
theorem dX1_walkFrom_94 : decode cX1_walkFrom 94 = .ok (.iaload, 1) := by decide +kernel
theorem dX1_walkFrom_95 : decode cX1_walkFrom 95 = .ok (.iaload, 1) := by decide +kernel
theorem dX1_walkFrom_96 : decode cX1_walkFrom 96 = .ok (.istore 6, 2) := by decide +kernel
theorem dX1_walkFrom_98 : decode cX1_walkFrom 98 = .ok (.aload_n 0, 1) := by decide +kernel
theorem dX1_walkFrom_99 : decode cX1_walkFrom 99 = .ok (.getfield 28, 3) := by decide +kernel
theorem dX1_walkFrom_102 : decode cX1_walkFrom 102 = .ok (.iload 5, 2) := by decide +kernel
theorem dX1_walkFrom_104 : decode cX1_walkFrom 104 = .ok (.dup2, 1) := by decide +kernel
theorem dX1_walkFrom_105 : decode cX1_walkFrom 105 = .ok (.iaload, 1) := by decide +kernel
theorem dX1_walkFrom_106 : decode cX1_walkFrom 106 = .ok (.iconst 1, 1) := by decide +kernel
theorem dX1_walkFrom_107 : decode cX1_walkFrom 107 = .ok (.iadd, 1) := by decide +kernel
theorem dX1_walkFrom_108 : decode cX1_walkFrom 108 = .ok (.iastore, 1) := by decide +kernel
theorem dX1_walkFrom_109 : decode cX1_walkFrom 109 = .ok (.aload_n 0, 1) := by decide +kernel
theorem dX1_walkFrom_110 : decode cX1_walkFrom 110 = .ok (.getfield 9, 3) := by decide +kernel
theorem dX1_walkFrom_113 : decode cX1_walkFrom 113 = .ok (.iload 6, 2) := by decide +kernel
theorem dX1_walkFrom_115 : decode cX1_walkFrom 115 = .ok (.baload, 1) := by decide +kernel
theorem dX1_walkFrom_116 : decode cX1_walkFrom 116 = .ok (.ifCond .eq 23, 3) := by decide +kernel
theorem dX1_walkFrom_119 : decode cX1_walkFrom 119 = .ok (.aload_n 0, 1) := by decide +kernel
theorem dX1_walkFrom_120 : decode cX1_walkFrom 120 = .ok (.getfield 22, 3) := by decide +kernel
theorem dX1_walkFrom_123 : decode cX1_walkFrom 123 = .ok (.iload 6, 2) := by decide +kernel
theorem dX1_walkFrom_125 : decode cX1_walkFrom 125 = .ok (.iaload, 1) := by decide +kernel
theorem dX1_walkFrom_126 : decode cX1_walkFrom 126 = .ok (.ifCond .ne 13, 3) := by decide +kernel
theorem dX1_walkFrom_129 : decode cX1_walkFrom 129 = .ok (.aload_n 0, 1) := by decide +kernel
theorem dX1_walkFrom_130 : decode cX1_walkFrom 130 = .ok (.aload_n 1, 1) := by decide +kernel
theorem dX1_walkFrom_131 : decode cX1_walkFrom 131 = .ok (.iload 6, 2) := by decide +kernel
theorem dX1_walkFrom_133 : decode cX1_walkFrom 133 = .ok (.invokevirtual 62, 3) := by decide +kernel
theorem dX1_walkFrom_136 : decode cX1_walkFrom 136 = .ok (.goto 37, 3) := by decide +kernel
theorem dX1_walkFrom_139 : decode cX1_walkFrom 139 = .ok (.aload_n 0, 1) := by decide +kernel
theorem dX1_walkFrom_140 : decode cX1_walkFrom 140 = .ok (.getfield 9, 3) := by decide +kernel
theorem dX1_walkFrom_143 : decode cX1_walkFrom 143 = .ok (.iload 6, 2) := by decide +kernel
theorem dX1_walkFrom_145 : decode cX1_walkFrom 145 = .ok (.baload, 1) := by decide +kernel
theorem dX1_walkFrom_146 : decode cX1_walkFrom 146 = .ok (.ifCond .eq 27, 3) := by decide +kernel
theorem dX1_walkFrom_149 : decode cX1_walkFrom 149 = .ok (.aload_n 0, 1) := by decide +kernel
theorem dX1_walkFrom_150 : decode cX1_walkFrom 150 = .ok (.getfield 15, 3) := by decide +kernel
theorem dX1_walkFrom_153 : decode cX1_walkFrom 153 = .ok (.iload 6, 2) := by decide +kernel
theorem dX1_walkFrom_155 : decode cX1_walkFrom 155 = .ok (.iaload, 1) := by decide +kernel
theorem dX1_walkFrom_156 : decode cX1_walkFrom 156 = .ok (.iconst (-1), 1) := by decide +kernel
theorem dX1_walkFrom_157 : decode cX1_walkFrom 157 = .ok (.if_icmp .ne 16, 3) := by decide +kernel
theorem dX1_walkFrom_160 : decode cX1_walkFrom 160 = .ok (.aload_n 0, 1) := by decide +kernel
theorem dX1_walkFrom_161 : decode cX1_walkFrom 161 = .ok (.iload 5, 2) := by decide +kernel
theorem dX1_walkFrom_163 : decode cX1_walkFrom 163 = .ok (.aload_n 0, 1) := by decide +kernel
theorem dX1_walkFrom_164 : decode cX1_walkFrom 164 = .ok (.getfield 22, 3) := by decide +kernel
theorem dX1_walkFrom_167 : decode cX1_walkFrom 167 = .ok (.iload 6, 2) := by decide +kernel
theorem dX1_walkFrom_169 : decode cX1_walkFrom 169 = .ok (.iaload, 1) := by decide +kernel
theorem dX1_walkFrom_170 : decode cX1_walkFrom 170 = .ok (.invokevirtual 84, 3) := by decide +kernel
theorem dX1_walkFrom_173 : decode cX1_walkFrom 173 = .ok (.iinc 4 1, 3) := by decide +kernel
theorem dX1_walkFrom_176 : decode cX1_walkFrom 176 = .ok (.goto (-157), 3) := by decide +kernel
theorem dX1_walkFrom_179 : decode cX1_walkFrom 179 = .ok (.return_, 1) := by decide +kernel
theorem dX1_enter_0 : decode cX1_enter 0 = .ok (.aload_n 0, 1) := by decide +kernel
theorem dX1_enter_1 : decode cX1_enter 1 = .ok (.dup, 1) := by decide +kernel
theorem dX1_enter_2 : decode cX1_enter 2 = .ok (.getfield 44, 3) := by decide +kernel
theorem dX1_enter_5 : decode cX1_enter 5 = .ok (.iconst 1, 1) := by decide +kernel
theorem dX1_enter_6 : decode cX1_enter 6 = .ok (.iadd, 1) := by decide +kernel
theorem dX1_enter_7 : decode cX1_enter 7 = .ok (.putfield 44, 3) := by decide +kernel
theorem dX1_enter_10 : decode cX1_enter 10 = .ok (.aload_n 0, 1) := by decide +kernel
theorem dX1_enter_11 : decode cX1_enter 11 = .ok (.getfield 22, 3) := by decide +kernel
theorem dX1_enter_14 : decode cX1_enter 14 = .ok (.iload_n 2, 1) := by decide +kernel
theorem dX1_enter_15 : decode cX1_enter 15 = .ok (.aload_n 0, 1) := by decide +kernel
theorem dX1_enter_16 : decode cX1_enter 16 = .ok (.getfield 44, 3) := by decide +kernel
theorem dX1_enter_19 : decode cX1_enter 19 = .ok (.iastore, 1) := by decide +kernel
theorem dX1_enter_20 : decode cX1_enter 20 = .ok (.aload_n 0, 1) := by decide +kernel
theorem dX1_enter_21 : decode cX1_enter 21 = .ok (.getfield 25, 3) := by decide +kernel
theorem dX1_enter_24 : decode cX1_enter 24 = .ok (.iload_n 2, 1) := by decide +kernel
theorem dX1_enter_25 : decode cX1_enter 25 = .ok (.aload_n 0, 1) := by decide +kernel
theorem dX1_enter_26 : decode cX1_enter 26 = .ok (.getfield 44, 3) := by decide +kernel
theorem dX1_enter_29 : decode cX1_enter 29 = .ok (.iastore, 1) := by decide +kernel
theorem dX1_enter_30 : decode cX1_enter 30 = .ok (.aload_n 0, 1) := by decide +kernel
theorem dX1_enter_31 : decode cX1_enter 31 = .ok (.getfield 28, 3) := by decide +kernel
theorem dX1_enter_34 : decode cX1_enter 34 = .ok (.iload_n 2, 1) := by decide +kernel
theorem dX1_enter_35 : decode cX1_enter 35 = .ok (.aload_n 1, 1) := by decide +kernel
theorem dX1_enter_36 : decode cX1_enter 36 = .ok (.getfield 68, 3) := by decide +kernel
theorem dX1_enter_39 : decode cX1_enter 39 = .ok (.iload_n 2, 1) := by decide +kernel
theorem dX1_enter_40 : decode cX1_enter 40 = .ok (.iaload, 1) := by decide +kernel
theorem dX1_enter_41 : decode cX1_enter 41 = .ok (.iastore, 1) := by decide +kernel
theorem dX1_enter_42 : decode cX1_enter 42 = .ok (.aload_n 0, 1) := by decide +kernel
theorem dX1_enter_43 : decode cX1_enter 43 = .ok (.getfield 31, 3) := by decide +kernel
theorem dX1_enter_46 : decode cX1_enter 46 = .ok (.aload_n 0, 1) := by decide +kernel
theorem dX1_enter_47 : decode cX1_enter 47 = .ok (.getfield 47, 3) := by decide +kernel
theorem dX1_enter_50 : decode cX1_enter 50 = .ok (.iload_n 2, 1) := by decide +kernel
theorem dX1_enter_51 : decode cX1_enter 51 = .ok (.iastore, 1) := by decide +kernel
theorem dX1_enter_52 : decode cX1_enter 52 = .ok (.aload_n 0, 1) := by decide +kernel
theorem dX1_enter_53 : decode cX1_enter 53 = .ok (.dup, 1) := by decide +kernel
theorem dX1_enter_54 : decode cX1_enter 54 = .ok (.getfield 47, 3) := by decide +kernel
theorem dX1_enter_57 : decode cX1_enter 57 = .ok (.iconst 1, 1) := by decide +kernel
theorem dX1_enter_58 : decode cX1_enter 58 = .ok (.iadd, 1) := by decide +kernel
theorem dX1_enter_59 : decode cX1_enter 59 = .ok (.putfield 47, 3) := by decide +kernel
theorem dX1_enter_62 : decode cX1_enter 62 = .ok (.aload_n 0, 1) := by decide +kernel
theorem dX1_enter_63 : decode cX1_enter 63 = .ok (.getfield 34, 3) := by decide +kernel
theorem dX1_enter_66 : decode cX1_enter 66 = .ok (.aload_n 0, 1) := by decide +kernel
theorem dX1_enter_67 : decode cX1_enter 67 = .ok (.getfield 50, 3) := by decide +kernel
theorem dX1_enter_70 : decode cX1_enter 70 = .ok (.iload_n 2, 1) := by decide +kernel
theorem dX1_enter_71 : decode cX1_enter 71 = .ok (.iastore, 1) := by decide +kernel
theorem dX1_enter_72 : decode cX1_enter 72 = .ok (.aload_n 0, 1) := by decide +kernel
theorem dX1_enter_73 : decode cX1_enter 73 = .ok (.dup, 1) := by decide +kernel
theorem dX1_enter_74 : decode cX1_enter 74 = .ok (.getfield 50, 3) := by decide +kernel
theorem dX1_enter_77 : decode cX1_enter 77 = .ok (.iconst 1, 1) := by decide +kernel
theorem dX1_enter_78 : decode cX1_enter 78 = .ok (.iadd, 1) := by decide +kernel
theorem dX1_enter_79 : decode cX1_enter 79 = .ok (.putfield 50, 3) := by decide +kernel
theorem dX1_enter_82 : decode cX1_enter 82 = .ok (.return_, 1) := by decide +kernel
theorem dX1_lower_0 : decode cX1_lower 0 = .ok (.iload_n 2, 1) := by decide +kernel
theorem dX1_lower_1 : decode cX1_lower 1 = .ok (.aload_n 0, 1) := by decide +kernel
theorem dX1_lower_2 : decode cX1_lower 2 = .ok (.getfield 25, 3) := by decide +kernel
theorem dX1_lower_5 : decode cX1_lower 5 = .ok (.iload_n 1, 1) := by decide +kernel
theorem dX1_lower_6 : decode cX1_lower 6 = .ok (.iaload, 1) := by decide +kernel
theorem dX1_lower_7 : decode cX1_lower 7 = .ok (.if_icmp .ge 10, 3) := by decide +kernel
theorem dX1_lower_10 : decode cX1_lower 10 = .ok (.aload_n 0, 1) := by decide +kernel
theorem dX1_lower_11 : decode cX1_lower 11 = .ok (.getfield 25, 3) := by decide +kernel
theorem dX1_lower_14 : decode cX1_lower 14 = .ok (.iload_n 1, 1) := by decide +kernel
theorem dX1_lower_15 : decode cX1_lower 15 = .ok (.iload_n 2, 1) := by decide +kernel
theorem dX1_lower_16 : decode cX1_lower 16 = .ok (.iastore, 1) := by decide +kernel
theorem dX1_lower_17 : decode cX1_lower 17 = .ok (.return_, 1) := by decide +kernel
theorem dX1_closeKnotBegunBy_0 : decode cX1_closeKnotBegunBy 0 = .ok (.aload_n 0, 1) := by decide +kernel
theorem dX1_closeKnotBegunBy_1 : decode cX1_closeKnotBegunBy 1 = .ok (.getfield 25, 3) := by decide +kernel
theorem dX1_closeKnotBegunBy_4 : decode cX1_closeKnotBegunBy 4 = .ok (.iload_n 1, 1) := by decide +kernel
theorem dX1_closeKnotBegunBy_5 : decode cX1_closeKnotBegunBy 5 = .ok (.iaload, 1) := by decide +kernel
theorem dX1_closeKnotBegunBy_6 : decode cX1_closeKnotBegunBy 6 = .ok (.aload_n 0, 1) := by decide +kernel
theorem dX1_closeKnotBegunBy_7 : decode cX1_closeKnotBegunBy 7 = .ok (.getfield 22, 3) := by decide +kernel
theorem dX1_closeKnotBegunBy_10 : decode cX1_closeKnotBegunBy 10 = .ok (.iload_n 1, 1) := by decide +kernel
theorem dX1_closeKnotBegunBy_11 : decode cX1_closeKnotBegunBy 11 = .ok (.iaload, 1) := by decide +kernel
theorem dX1_closeKnotBegunBy_12 : decode cX1_closeKnotBegunBy 12 = .ok (.if_icmp .eq 4, 3) := by decide +kernel
theorem dX1_closeKnotBegunBy_15 : decode cX1_closeKnotBegunBy 15 = .ok (.return_, 1) := by decide +kernel
theorem dX1_closeKnotBegunBy_16 : decode cX1_closeKnotBegunBy 16 = .ok (.aload_n 0, 1) := by decide +kernel
theorem dX1_closeKnotBegunBy_17 : decode cX1_closeKnotBegunBy 17 = .ok (.getfield 50, 3) := by decide +kernel
theorem dX1_closeKnotBegunBy_20 : decode cX1_closeKnotBegunBy 20 = .ok (.ifCond .le 66, 3) := by decide +kernel
theorem dX1_closeKnotBegunBy_23 : decode cX1_closeKnotBegunBy 23 = .ok (.aload_n 0, 1) := by decide +kernel
theorem dX1_closeKnotBegunBy_24 : decode cX1_closeKnotBegunBy 24 = .ok (.getfield 15, 3) := by decide +kernel
theorem dX1_closeKnotBegunBy_27 : decode cX1_closeKnotBegunBy 27 = .ok (.iload_n 1, 1) := by decide +kernel
theorem dX1_closeKnotBegunBy_28 : decode cX1_closeKnotBegunBy 28 = .ok (.iaload, 1) := by decide +kernel
theorem dX1_closeKnotBegunBy_29 : decode cX1_closeKnotBegunBy 29 = .ok (.iconst (-1), 1) := by decide +kernel
theorem dX1_closeKnotBegunBy_30 : decode cX1_closeKnotBegunBy 30 = .ok (.if_icmp .ne 56, 3) := by decide +kernel
theorem dX1_closeKnotBegunBy_33 : decode cX1_closeKnotBegunBy 33 = .ok (.aload_n 0, 1) := by decide +kernel
theorem dX1_closeKnotBegunBy_34 : decode cX1_closeKnotBegunBy 34 = .ok (.dup, 1) := by decide +kernel
theorem dX1_closeKnotBegunBy_35 : decode cX1_closeKnotBegunBy 35 = .ok (.getfield 50, 3) := by decide +kernel
theorem dX1_closeKnotBegunBy_38 : decode cX1_closeKnotBegunBy 38 = .ok (.iconst 1, 1) := by decide +kernel
theorem dX1_closeKnotBegunBy_39 : decode cX1_closeKnotBegunBy 39 = .ok (.isub, 1) := by decide +kernel
theorem dX1_closeKnotBegunBy_40 : decode cX1_closeKnotBegunBy 40 = .ok (.putfield 50, 3) := by decide +kernel
theorem dX1_closeKnotBegunBy_43 : decode cX1_closeKnotBegunBy 43 = .ok (.aload_n 0, 1) := by decide +kernel
theorem dX1_closeKnotBegunBy_44 : decode cX1_closeKnotBegunBy 44 = .ok (.getfield 34, 3) := by decide +kernel
theorem dX1_closeKnotBegunBy_47 : decode cX1_closeKnotBegunBy 47 = .ok (.aload_n 0, 1) := by decide +kernel
theorem dX1_closeKnotBegunBy_48 : decode cX1_closeKnotBegunBy 48 = .ok (.getfield 50, 3) := by decide +kernel
theorem dX1_closeKnotBegunBy_51 : decode cX1_closeKnotBegunBy 51 = .ok (.iaload, 1) := by decide +kernel
theorem dX1_closeKnotBegunBy_52 : decode cX1_closeKnotBegunBy 52 = .ok (.istore_n 2, 1) := by decide +kernel
theorem dX1_closeKnotBegunBy_53 : decode cX1_closeKnotBegunBy 53 = .ok (.aload_n 0, 1) := by decide +kernel
theorem dX1_closeKnotBegunBy_54 : decode cX1_closeKnotBegunBy 54 = .ok (.getfield 15, 3) := by decide +kernel
theorem dX1_closeKnotBegunBy_57 : decode cX1_closeKnotBegunBy 57 = .ok (.iload_n 2, 1) := by decide +kernel
theorem dX1_closeKnotBegunBy_58 : decode cX1_closeKnotBegunBy 58 = .ok (.aload_n 0, 1) := by decide +kernel
theorem dX1_closeKnotBegunBy_59 : decode cX1_closeKnotBegunBy 59 = .ok (.getfield 37, 3) := by decide +kernel
theorem dX1_closeKnotBegunBy_62 : decode cX1_closeKnotBegunBy 62 = .ok (.iastore, 1) := by decide +kernel
theorem dX1_closeKnotBegunBy_63 : decode cX1_closeKnotBegunBy 63 = .ok (.aload_n 0, 1) := by decide +kernel
theorem dX1_closeKnotBegunBy_64 : decode cX1_closeKnotBegunBy 64 = .ok (.getfield 19, 3) := by decide +kernel
theorem dX1_closeKnotBegunBy_67 : decode cX1_closeKnotBegunBy 67 = .ok (.aload_n 0, 1) := by decide +kernel
theorem dX1_closeKnotBegunBy_68 : decode cX1_closeKnotBegunBy 68 = .ok (.getfield 41, 3) := by decide +kernel
theorem dX1_closeKnotBegunBy_71 : decode cX1_closeKnotBegunBy 71 = .ok (.iload_n 2, 1) := by decide +kernel
theorem dX1_closeKnotBegunBy_72 : decode cX1_closeKnotBegunBy 72 = .ok (.iastore, 1) := by decide +kernel
theorem dX1_closeKnotBegunBy_73 : decode cX1_closeKnotBegunBy 73 = .ok (.aload_n 0, 1) := by decide +kernel
theorem dX1_closeKnotBegunBy_74 : decode cX1_closeKnotBegunBy 74 = .ok (.dup, 1) := by decide +kernel
theorem dX1_closeKnotBegunBy_75 : decode cX1_closeKnotBegunBy 75 = .ok (.getfield 41, 3) := by decide +kernel
theorem dX1_closeKnotBegunBy_78 : decode cX1_closeKnotBegunBy 78 = .ok (.iconst 1, 1) := by decide +kernel
theorem dX1_closeKnotBegunBy_79 : decode cX1_closeKnotBegunBy 79 = .ok (.iadd, 1) := by decide +kernel
theorem dX1_closeKnotBegunBy_80 : decode cX1_closeKnotBegunBy 80 = .ok (.putfield 41, 3) := by decide +kernel
theorem dX1_closeKnotBegunBy_83 : decode cX1_closeKnotBegunBy 83 = .ok (.goto (-67), 3) := by decide +kernel
theorem dX1_closeKnotBegunBy_86 : decode cX1_closeKnotBegunBy 86 = .ok (.aload_n 0, 1) := by decide +kernel
theorem dX1_closeKnotBegunBy_87 : decode cX1_closeKnotBegunBy 87 = .ok (.dup, 1) := by decide +kernel
theorem dX1_closeKnotBegunBy_88 : decode cX1_closeKnotBegunBy 88 = .ok (.getfield 37, 3) := by decide +kernel
theorem dX1_closeKnotBegunBy_91 : decode cX1_closeKnotBegunBy 91 = .ok (.iconst 1, 1) := by decide +kernel
theorem dX1_closeKnotBegunBy_92 : decode cX1_closeKnotBegunBy 92 = .ok (.iadd, 1) := by decide +kernel
theorem dX1_closeKnotBegunBy_93 : decode cX1_closeKnotBegunBy 93 = .ok (.putfield 37, 3) := by decide +kernel
theorem dX1_closeKnotBegunBy_96 : decode cX1_closeKnotBegunBy 96 = .ok (.return_, 1) := by decide +kernel
set_option maxRecDepth 20000 in
theorem ggX1_leave_X1_lower : GoodIn wsX1_leave wsX1_lower := goodIn_r _ [8, 3, 9, 10, 11, 12, 13, 14, 15, 16, 17, 18, 19, 20, 21] (by decide +kernel) (by decide +kernel)
set_option maxRecDepth 20000 in
theorem gX1_leave_X1_lower : GoodIn wsX1_leave (wsV RX1 84 RX1 yX1_lower wsX1_lower) := goodIn_app (goodIn_of _ (by decide +kernel)) ggX1_leave_X1_lower
theorem dX1_leave_0 : decode cX1_leave 0 = .ok (.aload_n 0, 1) := by decide +kernel
theorem dX1_leave_1 : decode cX1_leave 1 = .ok (.dup, 1) := by decide +kernel
theorem dX1_leave_2 : decode cX1_leave 2 = .ok (.getfield 47, 3) := by decide +kernel
theorem dX1_leave_5 : decode cX1_leave 5 = .ok (.iconst 1, 1) := by decide +kernel
theorem dX1_leave_6 : decode cX1_leave 6 = .ok (.isub, 1) := by decide +kernel
theorem dX1_leave_7 : decode cX1_leave 7 = .ok (.putfield 47, 3) := by decide +kernel
theorem dX1_leave_10 : decode cX1_leave 10 = .ok (.aload_n 0, 1) := by decide +kernel
theorem dX1_leave_11 : decode cX1_leave 11 = .ok (.getfield 47, 3) := by decide +kernel
theorem dX1_leave_14 : decode cX1_leave 14 = .ok (.ifCond .le 24, 3) := by decide +kernel
theorem dX1_leave_17 : decode cX1_leave 17 = .ok (.aload_n 0, 1) := by decide +kernel
theorem dX1_leave_18 : decode cX1_leave 18 = .ok (.aload_n 0, 1) := by decide +kernel
theorem dX1_leave_19 : decode cX1_leave 19 = .ok (.getfield 31, 3) := by decide +kernel
theorem dX1_leave_22 : decode cX1_leave 22 = .ok (.aload_n 0, 1) := by decide +kernel
theorem dX1_leave_23 : decode cX1_leave 23 = .ok (.getfield 47, 3) := by decide +kernel
theorem dX1_leave_26 : decode cX1_leave 26 = .ok (.iconst 1, 1) := by decide +kernel
theorem dX1_leave_27 : decode cX1_leave 27 = .ok (.isub, 1) := by decide +kernel
theorem dX1_leave_28 : decode cX1_leave 28 = .ok (.iaload, 1) := by decide +kernel
theorem dX1_leave_29 : decode cX1_leave 29 = .ok (.aload_n 0, 1) := by decide +kernel
theorem dX1_leave_30 : decode cX1_leave 30 = .ok (.getfield 25, 3) := by decide +kernel
theorem dX1_leave_33 : decode cX1_leave 33 = .ok (.iload_n 1, 1) := by decide +kernel
theorem dX1_leave_34 : decode cX1_leave 34 = .ok (.iaload, 1) := by decide +kernel
theorem dX1_leave_35 : decode cX1_leave 35 = .ok (.invokevirtual 84, 3) := by decide +kernel
theorem dX1_leave_38 : decode cX1_leave 38 = .ok (.return_, 1) := by decide +kernel
theorem dX2_init_0 : decode cX2_init 0 = .ok (.aload_n 0, 1) := by decide +kernel
theorem dX2_init_1 : decode cX2_init 1 = .ok (.invokespecial 3, 3) := by decide +kernel
theorem dX2_init_4 : decode cX2_init 4 = .ok (.aload_n 0, 1) := by decide +kernel
theorem dX2_init_5 : decode cX2_init 5 = .ok (.sipush 200, 3) := by decide +kernel
theorem dX2_init_8 : decode cX2_init 8 = .ok (.newarray .int, 2) := by decide +kernel
theorem dX2_init_10 : decode cX2_init 10 = .ok (.putfield 9, 3) := by decide +kernel
theorem dX2_init_13 : decode cX2_init 13 = .ok (.aload_n 0, 1) := by decide +kernel
theorem dX2_init_14 : decode cX2_init 14 = .ok (.sipush 200, 3) := by decide +kernel
theorem dX2_init_17 : decode cX2_init 17 = .ok (.newarray .int, 2) := by decide +kernel
theorem dX2_init_19 : decode cX2_init 19 = .ok (.putfield 15, 3) := by decide +kernel
theorem dX2_init_22 : decode cX2_init 22 = .ok (.aload_n 0, 1) := by decide +kernel
theorem dX2_init_23 : decode cX2_init 23 = .ok (.sipush 200, 3) := by decide +kernel
theorem dX2_init_26 : decode cX2_init 26 = .ok (.newarray .int, 2) := by decide +kernel
theorem dX2_init_28 : decode cX2_init 28 = .ok (.putfield 18, 3) := by decide +kernel
theorem dX2_init_31 : decode cX2_init 31 = .ok (.return_, 1) := by decide +kernel
set_option maxRecDepth 20000 in
theorem ggX2_walk_X2_join : GoodIn wsX2_walk wsX2_join := goodIn_r _ [12, 2, 13, 4, 3, 25, 26, 27, 28] (by decide +kernel) (by decide +kernel)
set_option maxRecDepth 20000 in
theorem gX2_walk_X2_join : GoodIn wsX2_walk (wsV RX2 30 RX2 yX2_join wsX2_join) := goodIn_app (goodIn_of _ (by decide +kernel)) ggX2_walk_X2_join
theorem dX2_walk_0 : decode cX2_walk 0 = .ok (.iconst 0, 1) := by decide +kernel
theorem dX2_walk_1 : decode cX2_walk 1 = .ok (.istore_n 2, 1) := by decide +kernel
theorem dX2_walk_2 : decode cX2_walk 2 = .ok (.iload_n 2, 1) := by decide +kernel
theorem dX2_walk_3 : decode cX2_walk 3 = .ok (.aload_n 1, 1) := by decide +kernel
theorem dX2_walk_4 : decode cX2_walk 4 = .ok (.getfield 21, 3) := by decide +kernel
theorem dX2_walk_7 : decode cX2_walk 7 = .ok (.if_icmp .ge 16, 3) := by decide +kernel
theorem dX2_walk_10 : decode cX2_walk 10 = .ok (.aload_n 0, 1) := by decide +kernel
theorem dX2_walk_11 : decode cX2_walk 11 = .ok (.getfield 15, 3) := by decide +kernel
theorem dX2_walk_14 : decode cX2_walk 14 = .ok (.iload_n 2, 1) := by decide +kernel
theorem dX2_walk_15 : decode cX2_walk 15 = .ok (.iconst (-1), 1) := by decide +kernel
theorem dX2_walk_16 : decode cX2_walk 16 = .ok (.iastore, 1) := by decide +kernel
theorem dX2_walk_17 : decode cX2_walk 17 = .ok (.iinc 2 1, 3) := by decide +kernel
theorem dX2_walk_20 : decode cX2_walk 20 = .ok (.goto (-18), 3) := by decide +kernel
theorem dX2_walk_23 : decode cX2_walk 23 = .ok (.aload_n 0, 1) := by decide +kernel
theorem dX2_walk_24 : decode cX2_walk 24 = .ok (.iconst 0, 1) := by decide +kernel
theorem dX2_walk_25 : decode cX2_walk 25 = .ok (.putfield 27, 3) := by decide +kernel
theorem dX2_walk_28 : decode cX2_walk 28 = .ok (.aload_n 1, 1) := by decide +kernel
theorem dX2_walk_29 : decode cX2_walk 29 = .ok (.getfield 21, 3) := by decide +kernel
theorem dX2_walk_32 : decode cX2_walk 32 = .ok (.ifCond .le 10, 3) := by decide +kernel
theorem dX2_walk_35 : decode cX2_walk 35 = .ok (.aload_n 0, 1) := by decide +kernel
theorem dX2_walk_36 : decode cX2_walk 36 = .ok (.iconst 0, 1) := by decide +kernel
theorem dX2_walk_37 : decode cX2_walk 37 = .ok (.iconst 0, 1) := by decide +kernel
theorem dX2_walk_38 : decode cX2_walk 38 = .ok (.iconst (-1), 1) := by decide +kernel
theorem dX2_walk_39 : decode cX2_walk 39 = .ok (.invokevirtual 30, 3) := by decide +kernel
theorem dX2_walk_42 : decode cX2_walk 42 = .ok (.iconst 0, 1) := by decide +kernel
theorem dX2_walk_43 : decode cX2_walk 43 = .ok (.istore_n 2, 1) := by decide +kernel
theorem dX2_walk_44 : decode cX2_walk 44 = .ok (.iload_n 2, 1) := by decide +kernel
theorem dX2_walk_45 : decode cX2_walk 45 = .ok (.aload_n 0, 1) := by decide +kernel
theorem dX2_walk_46 : decode cX2_walk 46 = .ok (.getfield 27, 3) := by decide +kernel
theorem dX2_walk_49 : decode cX2_walk 49 = .ok (.if_icmp .ge 89, 3) := by decide +kernel
theorem dX2_walk_52 : decode cX2_walk 52 = .ok (.aload_n 0, 1) := by decide +kernel
theorem dX2_walk_53 : decode cX2_walk 53 = .ok (.getfield 9, 3) := by decide +kernel
theorem dX2_walk_56 : decode cX2_walk 56 = .ok (.iload_n 2, 1) := by decide +kernel
theorem dX2_walk_57 : decode cX2_walk 57 = .ok (.iaload, 1) := by decide +kernel
theorem dX2_walk_58 : decode cX2_walk 58 = .ok (.istore_n 3, 1) := by decide +kernel
theorem dX2_walk_59 : decode cX2_walk 59 = .ok (.aload_n 1, 1) := by decide +kernel
theorem dX2_walk_60 : decode cX2_walk 60 = .ok (.getfield 34, 3) := by decide +kernel
theorem dX2_walk_63 : decode cX2_walk 63 = .ok (.iload_n 3, 1) := by decide +kernel
theorem dX2_walk_64 : decode cX2_walk 64 = .ok (.iaload, 1) := by decide +kernel
theorem dX2_walk_65 : decode cX2_walk 65 = .ok (.istore 4, 2) := by decide +kernel
theorem dX2_walk_67 : decode cX2_walk 67 = .ok (.iload 4, 2) := by decide +kernel
theorem dX2_walk_69 : decode cX2_walk 69 = .ok (.aload_n 1, 1) := by decide +kernel
theorem dX2_walk_70 : decode cX2_walk 70 = .ok (.getfield 34, 3) := by decide +kernel
theorem dX2_walk_73 : decode cX2_walk 73 = .ok (.iload_n 3, 1) := by decide +kernel
theorem dX2_walk_74 : decode cX2_walk 74 = .ok (.iconst 1, 1) := by decide +kernel
theorem dX2_walk_75 : decode cX2_walk 75 = .ok (.iadd, 1) := by decide +kernel
theorem dX2_walk_76 : decode cX2_walk 76 = .ok (.iaload, 1) := by decide +kernel
theorem dX2_walk_77 : decode cX2_walk 77 = .ok (.if_icmp .ge 55, 3) := by decide +kernel
theorem dX2_walk_80 : decode cX2_walk 80 = .ok (.aload_n 1, 1) := by decide +kernel
theorem dX2_walk_81 : decode cX2_walk 81 = .ok (.getfield 37, 3) := by decide +kernel
theorem dX2_walk_84 : decode cX2_walk 84 = .ok (.iload 4, 2) := by decide +kernel
theorem dX2_walk_86 : decode cX2_walk 86 = .ok (.iaload, 1) := by decide +kernel
theorem dX2_walk_87 : decode cX2_walk 87 = .ok (.istore 5, 2) := by decide +kernel
theorem dX2_walk_89 : decode cX2_walk 89 = .ok (.aload_n 0, 1) := by decide +kernel
theorem dX2_walk_90 : decode cX2_walk 90 = .ok (.getfield 15, 3) := by decide +kernel
theorem dX2_walk_93 : decode cX2_walk 93 = .ok (.aload_n 1, 1) := by decide +kernel
theorem dX2_walk_94 : decode cX2_walk 94 = .ok (.getfield 40, 3) := by decide +kernel
theorem dX2_walk_97 : decode cX2_walk 97 = .ok (.iload 5, 2) := by decide +kernel
theorem dX2_walk_99 : decode cX2_walk 99 = .ok (.iaload, 1) := by decide +kernel
theorem dX2_walk_100 : decode cX2_walk 100 = .ok (.iaload, 1) := by decide +kernel
theorem dX2_walk_101 : decode cX2_walk 101 = .ok (.iconst (-1), 1) := by decide +kernel
theorem dX2_walk_102 : decode cX2_walk 102 = .ok (.if_icmp .ne 24, 3) := by decide +kernel
theorem dX2_walk_105 : decode cX2_walk 105 = .ok (.aload_n 0, 1) := by decide +kernel
theorem dX2_walk_106 : decode cX2_walk 106 = .ok (.aload_n 1, 1) := by decide +kernel
theorem dX2_walk_107 : decode cX2_walk 107 = .ok (.getfield 40, 3) := by decide +kernel
theorem dX2_walk_110 : decode cX2_walk 110 = .ok (.iload 5, 2) := by decide +kernel
theorem dX2_walk_112 : decode cX2_walk 112 = .ok (.iaload, 1) := by decide +kernel
theorem dX2_walk_113 : decode cX2_walk 113 = .ok (.aload_n 0, 1) := by decide +kernel
theorem dX2_walk_114 : decode cX2_walk 114 = .ok (.getfield 15, 3) := by decide +kernel
theorem dX2_walk_117 : decode cX2_walk 117 = .ok (.iload_n 3, 1) := by decide +kernel
theorem dX2_walk_118 : decode cX2_walk 118 = .ok (.iaload, 1) := by decide +kernel
theorem dX2_walk_119 : decode cX2_walk 119 = .ok (.iconst 1, 1) := by decide +kernel
theorem dX2_walk_120 : decode cX2_walk 120 = .ok (.iadd, 1) := by decide +kernel
theorem dX2_walk_121 : decode cX2_walk 121 = .ok (.iload 5, 2) := by decide +kernel
theorem dX2_walk_123 : decode cX2_walk 123 = .ok (.invokevirtual 30, 3) := by decide +kernel
theorem dX2_walk_126 : decode cX2_walk 126 = .ok (.iinc 4 1, 3) := by decide +kernel
theorem dX2_walk_129 : decode cX2_walk 129 = .ok (.goto (-62), 3) := by decide +kernel
theorem dX2_walk_132 : decode cX2_walk 132 = .ok (.iinc 2 1, 3) := by decide +kernel
theorem dX2_walk_135 : decode cX2_walk 135 = .ok (.goto (-91), 3) := by decide +kernel
theorem dX2_walk_138 : decode cX2_walk 138 = .ok (.return_, 1) := by decide +kernel
theorem dX2_join_0 : decode cX2_join 0 = .ok (.aload_n 0, 1) := by decide +kernel
theorem dX2_join_1 : decode cX2_join 1 = .ok (.getfield 15, 3) := by decide +kernel
theorem dX2_join_4 : decode cX2_join 4 = .ok (.iload_n 1, 1) := by decide +kernel
theorem dX2_join_5 : decode cX2_join 5 = .ok (.iload_n 2, 1) := by decide +kernel
theorem dX2_join_6 : decode cX2_join 6 = .ok (.iastore, 1) := by decide +kernel
theorem dX2_join_7 : decode cX2_join 7 = .ok (.aload_n 0, 1) := by decide +kernel
theorem dX2_join_8 : decode cX2_join 8 = .ok (.getfield 18, 3) := by decide +kernel
theorem dX2_join_11 : decode cX2_join 11 = .ok (.iload_n 1, 1) := by decide +kernel
theorem dX2_join_12 : decode cX2_join 12 = .ok (.iload_n 3, 1) := by decide +kernel
theorem dX2_join_13 : decode cX2_join 13 = .ok (.iastore, 1) := by decide +kernel
theorem dX2_join_14 : decode cX2_join 14 = .ok (.aload_n 0, 1) := by decide +kernel
theorem dX2_join_15 : decode cX2_join 15 = .ok (.getfield 9, 3) := by decide +kernel
theorem dX2_join_18 : decode cX2_join 18 = .ok (.aload_n 0, 1) := by decide +kernel
theorem dX2_join_19 : decode cX2_join 19 = .ok (.getfield 27, 3) := by decide +kernel
theorem dX2_join_22 : decode cX2_join 22 = .ok (.iload_n 1, 1) := by decide +kernel
theorem dX2_join_23 : decode cX2_join 23 = .ok (.iastore, 1) := by decide +kernel
theorem dX2_join_24 : decode cX2_join 24 = .ok (.aload_n 0, 1) := by decide +kernel
theorem dX2_join_25 : decode cX2_join 25 = .ok (.dup, 1) := by decide +kernel
theorem dX2_join_26 : decode cX2_join 26 = .ok (.getfield 27, 3) := by decide +kernel
theorem dX2_join_29 : decode cX2_join 29 = .ok (.iconst 1, 1) := by decide +kernel
theorem dX2_join_30 : decode cX2_join 30 = .ok (.iadd, 1) := by decide +kernel
theorem dX2_join_31 : decode cX2_join 31 = .ok (.putfield 27, 3) := by decide +kernel
theorem dX2_join_34 : decode cX2_join 34 = .ok (.return_, 1) := by decide +kernel
theorem dX2_moveOnWayTo_0 : decode cX2_moveOnWayTo 0 = .ok (.iload_n 3, 1) := by decide +kernel
theorem dX2_moveOnWayTo_1 : decode cX2_moveOnWayTo 1 = .ok (.aload_n 0, 1) := by decide +kernel
theorem dX2_moveOnWayTo_2 : decode cX2_moveOnWayTo 2 = .ok (.getfield 15, 3) := by decide +kernel
theorem dX2_moveOnWayTo_5 : decode cX2_moveOnWayTo 5 = .ok (.iload_n 2, 1) := by decide +kernel
theorem dX2_moveOnWayTo_6 : decode cX2_moveOnWayTo 6 = .ok (.iaload, 1) := by decide +kernel
theorem dX2_moveOnWayTo_7 : decode cX2_moveOnWayTo 7 = .ok (.if_icmp .lt 5, 3) := by decide +kernel
theorem dX2_moveOnWayTo_10 : decode cX2_moveOnWayTo 10 = .ok (.iconst (-1), 1) := by decide +kernel
theorem dX2_moveOnWayTo_11 : decode cX2_moveOnWayTo 11 = .ok (.ireturn, 1) := by decide +kernel
theorem dX2_moveOnWayTo_12 : decode cX2_moveOnWayTo 12 = .ok (.iload_n 2, 1) := by decide +kernel
theorem dX2_moveOnWayTo_13 : decode cX2_moveOnWayTo 13 = .ok (.istore 4, 2) := by decide +kernel
theorem dX2_moveOnWayTo_15 : decode cX2_moveOnWayTo 15 = .ok (.aload_n 0, 1) := by decide +kernel
theorem dX2_moveOnWayTo_16 : decode cX2_moveOnWayTo 16 = .ok (.getfield 15, 3) := by decide +kernel
theorem dX2_moveOnWayTo_19 : decode cX2_moveOnWayTo 19 = .ok (.iload_n 2, 1) := by decide +kernel
theorem dX2_moveOnWayTo_20 : decode cX2_moveOnWayTo 20 = .ok (.iaload, 1) := by decide +kernel
theorem dX2_moveOnWayTo_21 : decode cX2_moveOnWayTo 21 = .ok (.iconst 1, 1) := by decide +kernel
theorem dX2_moveOnWayTo_22 : decode cX2_moveOnWayTo 22 = .ok (.isub, 1) := by decide +kernel
theorem dX2_moveOnWayTo_23 : decode cX2_moveOnWayTo 23 = .ok (.istore 5, 2) := by decide +kernel
theorem dX2_moveOnWayTo_25 : decode cX2_moveOnWayTo 25 = .ok (.iload 5, 2) := by decide +kernel
theorem dX2_moveOnWayTo_27 : decode cX2_moveOnWayTo 27 = .ok (.iload_n 3, 1) := by decide +kernel
theorem dX2_moveOnWayTo_28 : decode cX2_moveOnWayTo 28 = .ok (.if_icmp .le 23, 3) := by decide +kernel
theorem dX2_moveOnWayTo_31 : decode cX2_moveOnWayTo 31 = .ok (.aload_n 1, 1) := by decide +kernel
theorem dX2_moveOnWayTo_32 : decode cX2_moveOnWayTo 32 = .ok (.getfield 43, 3) := by decide +kernel
theorem dX2_moveOnWayTo_35 : decode cX2_moveOnWayTo 35 = .ok (.aload_n 0, 1) := by decide +kernel
theorem dX2_moveOnWayTo_36 : decode cX2_moveOnWayTo 36 = .ok (.getfield 18, 3) := by decide +kernel
theorem dX2_moveOnWayTo_39 : decode cX2_moveOnWayTo 39 = .ok (.iload 4, 2) := by decide +kernel
theorem dX2_moveOnWayTo_41 : decode cX2_moveOnWayTo 41 = .ok (.iaload, 1) := by decide +kernel
theorem dX2_moveOnWayTo_42 : decode cX2_moveOnWayTo 42 = .ok (.iaload, 1) := by decide +kernel
theorem dX2_moveOnWayTo_43 : decode cX2_moveOnWayTo 43 = .ok (.istore 4, 2) := by decide +kernel
theorem dX2_moveOnWayTo_45 : decode cX2_moveOnWayTo 45 = .ok (.iinc 5 (-1), 3) := by decide +kernel
theorem dX2_moveOnWayTo_48 : decode cX2_moveOnWayTo 48 = .ok (.goto (-23), 3) := by decide +kernel
theorem dX2_moveOnWayTo_51 : decode cX2_moveOnWayTo 51 = .ok (.aload_n 0, 1) := by decide +kernel
theorem dX2_moveOnWayTo_52 : decode cX2_moveOnWayTo 52 = .ok (.getfield 18, 3) := by decide +kernel
theorem dX2_moveOnWayTo_55 : decode cX2_moveOnWayTo 55 = .ok (.iload 4, 2) := by decide +kernel
theorem dX2_moveOnWayTo_57 : decode cX2_moveOnWayTo 57 = .ok (.iaload, 1) := by decide +kernel
theorem dX2_moveOnWayTo_58 : decode cX2_moveOnWayTo 58 = .ok (.ireturn, 1) := by decide +kernel
theorem dX3_init_0 : decode cX3_init 0 = .ok (.aload_n 0, 1) := by decide +kernel
theorem dX3_init_1 : decode cX3_init 1 = .ok (.invokespecial 3, 3) := by decide +kernel
theorem dX3_init_4 : decode cX3_init 4 = .ok (.aload_n 0, 1) := by decide +kernel
theorem dX3_init_5 : decode cX3_init 5 = .ok (.sipush 200, 3) := by decide +kernel
theorem dX3_init_8 : decode cX3_init 8 = .ok (.newarray .int, 2) := by decide +kernel
theorem dX3_init_10 : decode cX3_init 10 = .ok (.putfield 9, 3) := by decide +kernel
theorem dX3_init_13 : decode cX3_init 13 = .ok (.aload_n 0, 1) := by decide +kernel
theorem dX3_init_14 : decode cX3_init 14 = .ok (.sipush 200, 3) := by decide +kernel
theorem dX3_init_17 : decode cX3_init 17 = .ok (.newarray .int, 2) := by decide +kernel
theorem dX3_init_19 : decode cX3_init 19 = .ok (.putfield 15, 3) := by decide +kernel
theorem dX3_init_22 : decode cX3_init 22 = .ok (.aload_n 0, 1) := by decide +kernel
theorem dX3_init_23 : decode cX3_init 23 = .ok (.sipush 200, 3) := by decide +kernel
theorem dX3_init_26 : decode cX3_init 26 = .ok (.newarray .int, 2) := by decide +kernel
theorem dX3_init_28 : decode cX3_init 28 = .ok (.putfield 18, 3) := by decide +kernel
theorem dX3_init_31 : decode cX3_init 31 = .ok (.aload_n 0, 1) := by decide +kernel
theorem dX3_init_32 : decode cX3_init 32 = .ok (.sipush 200, 3) := by decide +kernel
theorem dX3_init_35 : decode cX3_init 35 = .ok (.newarray .int, 2) := by decide +kernel
theorem dX3_init_37 : decode cX3_init 37 = .ok (.putfield 21, 3) := by decide +kernel
theorem dX3_init_40 : decode cX3_init 40 = .ok (.aload_n 0, 1) := by decide +kernel
theorem dX3_init_41 : decode cX3_init 41 = .ok (.sipush 200, 3) := by decide +kernel
theorem dX3_init_44 : decode cX3_init 44 = .ok (.newarray .boolean, 2) := by decide +kernel
theorem dX3_init_46 : decode cX3_init 46 = .ok (.putfield 24, 3) := by decide +kernel
theorem dX3_init_49 : decode cX3_init 49 = .ok (.return_, 1) := by decide +kernel
set_option maxRecDepth 20000 in
theorem ggX3_take_X3_addState : GoodIn wsX3_take wsX3_addState := goodIn_r _ [18, 2, 19, 3, 37, 38, 39, 40, 41] (by decide +kernel) (by decide +kernel)
set_option maxRecDepth 20000 in
theorem gX3_take_X3_addState : GoodIn wsX3_take (wsV RX3 48 RX3 yX3_addState wsX3_addState) := goodIn_app (goodIn_of _ (by decide +kernel)) ggX3_take_X3_addState
set_option maxRecDepth 20000 in
theorem ggX3_take_X3_addMove : GoodIn wsX3_take wsX3_addMove := goodIn_r _ [23, 5, 4, 37, 38, 39, 40, 41] (by decide +kernel) (by decide +kernel)
set_option maxRecDepth 20000 in
theorem gX3_take_X3_addMove : GoodIn wsX3_take (wsV RX3 64 RX3 yX3_addMove wsX3_addMove) := goodIn_app (goodIn_of _ (by decide +kernel)) ggX3_take_X3_addMove
theorem dX3_take_0 : decode cX3_take 0 = .ok (.iconst 0, 1) := by decide +kernel
theorem dX3_take_1 : decode cX3_take 1 = .ok (.istore_n 3, 1) := by decide +kernel
theorem dX3_take_2 : decode cX3_take 2 = .ok (.iload_n 3, 1) := by decide +kernel
theorem dX3_take_3 : decode cX3_take 3 = .ok (.aload_n 2, 1) := by decide +kernel
theorem dX3_take_4 : decode cX3_take 4 = .ok (.getfield 28, 3) := by decide +kernel
theorem dX3_take_7 : decode cX3_take 7 = .ok (.if_icmp .ge 37, 3) := by decide +kernel
theorem dX3_take_10 : decode cX3_take 10 = .ok (.aload_n 0, 1) := by decide +kernel
theorem dX3_take_11 : decode cX3_take 11 = .ok (.getfield 9, 3) := by decide +kernel
theorem dX3_take_14 : decode cX3_take 14 = .ok (.iload_n 3, 1) := by decide +kernel
theorem dX3_take_15 : decode cX3_take 15 = .ok (.iconst 0, 1) := by decide +kernel
theorem dX3_take_16 : decode cX3_take 16 = .ok (.iastore, 1) := by decide +kernel
theorem dX3_take_17 : decode cX3_take 17 = .ok (.aload_n 0, 1) := by decide +kernel
theorem dX3_take_18 : decode cX3_take 18 = .ok (.getfield 18, 3) := by decide +kernel
theorem dX3_take_21 : decode cX3_take 21 = .ok (.iload_n 3, 1) := by decide +kernel
theorem dX3_take_22 : decode cX3_take 22 = .ok (.iconst (-1), 1) := by decide +kernel
theorem dX3_take_23 : decode cX3_take 23 = .ok (.iastore, 1) := by decide +kernel
theorem dX3_take_24 : decode cX3_take 24 = .ok (.aload_n 0, 1) := by decide +kernel
theorem dX3_take_25 : decode cX3_take 25 = .ok (.getfield 21, 3) := by decide +kernel
theorem dX3_take_28 : decode cX3_take 28 = .ok (.iload_n 3, 1) := by decide +kernel
theorem dX3_take_29 : decode cX3_take 29 = .ok (.iconst 0, 1) := by decide +kernel
theorem dX3_take_30 : decode cX3_take 30 = .ok (.iastore, 1) := by decide +kernel
theorem dX3_take_31 : decode cX3_take 31 = .ok (.aload_n 0, 1) := by decide +kernel
theorem dX3_take_32 : decode cX3_take 32 = .ok (.getfield 24, 3) := by decide +kernel
theorem dX3_take_35 : decode cX3_take 35 = .ok (.iload_n 3, 1) := by decide +kernel
theorem dX3_take_36 : decode cX3_take 36 = .ok (.iconst 0, 1) := by decide +kernel
theorem dX3_take_37 : decode cX3_take 37 = .ok (.bastore, 1) := by decide +kernel
theorem dX3_take_38 : decode cX3_take 38 = .ok (.iinc 3 1, 3) := by decide +kernel
theorem dX3_take_41 : decode cX3_take 41 = .ok (.goto (-39), 3) := by decide +kernel
theorem dX3_take_44 : decode cX3_take 44 = .ok (.iconst 0, 1) := by decide +kernel
theorem dX3_take_45 : decode cX3_take 45 = .ok (.istore_n 3, 1) := by decide +kernel
theorem dX3_take_46 : decode cX3_take 46 = .ok (.iload_n 3, 1) := by decide +kernel
theorem dX3_take_47 : decode cX3_take 47 = .ok (.aload_n 1, 1) := by decide +kernel
theorem dX3_take_48 : decode cX3_take 48 = .ok (.getfield 34, 3) := by decide +kernel
theorem dX3_take_51 : decode cX3_take 51 = .ok (.if_icmp .ge 35, 3) := by decide +kernel
theorem dX3_take_54 : decode cX3_take 54 = .ok (.aload_n 2, 1) := by decide +kernel
theorem dX3_take_55 : decode cX3_take 55 = .ok (.getfield 39, 3) := by decide +kernel
theorem dX3_take_58 : decode cX3_take 58 = .ok (.iload_n 3, 1) := by decide +kernel
theorem dX3_take_59 : decode cX3_take 59 = .ok (.baload, 1) := by decide +kernel
theorem dX3_take_60 : decode cX3_take 60 = .ok (.ifCond .eq 20, 3) := by decide +kernel
theorem dX3_take_63 : decode cX3_take 63 = .ok (.aload_n 0, 1) := by decide +kernel
theorem dX3_take_64 : decode cX3_take 64 = .ok (.iload_n 3, 1) := by decide +kernel
theorem dX3_take_65 : decode cX3_take 65 = .ok (.aload_n 2, 1) := by decide +kernel
theorem dX3_take_66 : decode cX3_take 66 = .ok (.getfield 42, 3) := by decide +kernel
theorem dX3_take_69 : decode cX3_take 69 = .ok (.iload_n 3, 1) := by decide +kernel
theorem dX3_take_70 : decode cX3_take 70 = .ok (.iaload, 1) := by decide +kernel
theorem dX3_take_71 : decode cX3_take 71 = .ok (.aload_n 1, 1) := by decide +kernel
theorem dX3_take_72 : decode cX3_take 72 = .ok (.getfield 45, 3) := by decide +kernel
theorem dX3_take_75 : decode cX3_take 75 = .ok (.iload_n 3, 1) := by decide +kernel
theorem dX3_take_76 : decode cX3_take 76 = .ok (.iaload, 1) := by decide +kernel
theorem dX3_take_77 : decode cX3_take 77 = .ok (.invokevirtual 48, 3) := by decide +kernel
theorem dX3_take_80 : decode cX3_take 80 = .ok (.iinc 3 1, 3) := by decide +kernel
theorem dX3_take_83 : decode cX3_take 83 = .ok (.goto (-37), 3) := by decide +kernel
theorem dX3_take_86 : decode cX3_take 86 = .ok (.iconst 0, 1) := by decide +kernel
theorem dX3_take_87 : decode cX3_take 87 = .ok (.istore_n 3, 1) := by decide +kernel
theorem dX3_take_88 : decode cX3_take 88 = .ok (.iload_n 3, 1) := by decide +kernel
theorem dX3_take_89 : decode cX3_take 89 = .ok (.aload_n 1, 1) := by decide +kernel
theorem dX3_take_90 : decode cX3_take 90 = .ok (.getfield 52, 3) := by decide +kernel
theorem dX3_take_93 : decode cX3_take 93 = .ok (.if_icmp .ge 79, 3) := by decide +kernel
theorem dX3_take_96 : decode cX3_take 96 = .ok (.aload_n 1, 1) := by decide +kernel
theorem dX3_take_97 : decode cX3_take 97 = .ok (.getfield 55, 3) := by decide +kernel
theorem dX3_take_100 : decode cX3_take 100 = .ok (.iload_n 3, 1) := by decide +kernel
theorem dX3_take_101 : decode cX3_take 101 = .ok (.iaload, 1) := by decide +kernel
theorem dX3_take_102 : decode cX3_take 102 = .ok (.istore 4, 2) := by decide +kernel
theorem dX3_take_104 : decode cX3_take 104 = .ok (.aload_n 1, 1) := by decide +kernel
theorem dX3_take_105 : decode cX3_take 105 = .ok (.getfield 58, 3) := by decide +kernel
theorem dX3_take_108 : decode cX3_take 108 = .ok (.iload_n 3, 1) := by decide +kernel
theorem dX3_take_109 : decode cX3_take 109 = .ok (.iaload, 1) := by decide +kernel
theorem dX3_take_110 : decode cX3_take 110 = .ok (.istore 5, 2) := by decide +kernel
theorem dX3_take_112 : decode cX3_take 112 = .ok (.aload_n 2, 1) := by decide +kernel
theorem dX3_take_113 : decode cX3_take 113 = .ok (.getfield 39, 3) := by decide +kernel
theorem dX3_take_116 : decode cX3_take 116 = .ok (.iload 4, 2) := by decide +kernel
theorem dX3_take_118 : decode cX3_take 118 = .ok (.baload, 1) := by decide +kernel
theorem dX3_take_119 : decode cX3_take 119 = .ok (.ifCond .eq 47, 3) := by decide +kernel
theorem dX3_take_122 : decode cX3_take 122 = .ok (.aload_n 2, 1) := by decide +kernel
theorem dX3_take_123 : decode cX3_take 123 = .ok (.getfield 39, 3) := by decide +kernel
theorem dX3_take_126 : decode cX3_take 126 = .ok (.iload 5, 2) := by decide +kernel
theorem dX3_take_128 : decode cX3_take 128 = .ok (.baload, 1) := by decide +kernel
theorem dX3_take_129 : decode cX3_take 129 = .ok (.ifCond .eq 37, 3) := by decide +kernel
theorem dX3_take_132 : decode cX3_take 132 = .ok (.aload_n 2, 1) := by decide +kernel
theorem dX3_take_133 : decode cX3_take 133 = .ok (.getfield 42, 3) := by decide +kernel
theorem dX3_take_136 : decode cX3_take 136 = .ok (.iload 4, 2) := by decide +kernel
theorem dX3_take_138 : decode cX3_take 138 = .ok (.iaload, 1) := by decide +kernel
theorem dX3_take_139 : decode cX3_take 139 = .ok (.aload_n 2, 1) := by decide +kernel
theorem dX3_take_140 : decode cX3_take 140 = .ok (.getfield 42, 3) := by decide +kernel
theorem dX3_take_143 : decode cX3_take 143 = .ok (.iload 5, 2) := by decide +kernel
theorem dX3_take_145 : decode cX3_take 145 = .ok (.iaload, 1) := by decide +kernel
theorem dX3_take_146 : decode cX3_take 146 = .ok (.if_icmp .ne 20, 3) := by decide +kernel
theorem dX3_take_149 : decode cX3_take 149 = .ok (.aload_n 0, 1) := by decide +kernel
theorem dX3_take_150 : decode cX3_take 150 = .ok (.aload_n 2, 1) := by decide +kernel
theorem dX3_take_151 : decode cX3_take 151 = .ok (.getfield 42, 3) := by decide +kernel
theorem dX3_take_154 : decode cX3_take 154 = .ok (.iload 4, 2) := by decide +kernel
theorem dX3_take_156 : decode cX3_take 156 = .ok (.iaload, 1) := by decide +kernel
theorem dX3_take_157 : decode cX3_take 157 = .ok (.aload_n 1, 1) := by decide +kernel
theorem dX3_take_158 : decode cX3_take 158 = .ok (.getfield 61, 3) := by decide +kernel
theorem dX3_take_161 : decode cX3_take 161 = .ok (.iload_n 3, 1) := by decide +kernel
theorem dX3_take_162 : decode cX3_take 162 = .ok (.iaload, 1) := by decide +kernel
theorem dX3_take_163 : decode cX3_take 163 = .ok (.invokevirtual 64, 3) := by decide +kernel
theorem dX3_take_166 : decode cX3_take 166 = .ok (.iinc 3 1, 3) := by decide +kernel
theorem dX3_take_169 : decode cX3_take 169 = .ok (.goto (-81), 3) := by decide +kernel
theorem dX3_take_172 : decode cX3_take 172 = .ok (.return_, 1) := by decide +kernel
theorem dX3_addState_0 : decode cX3_addState 0 = .ok (.aload_n 0, 1) := by decide +kernel
theorem dX3_addState_1 : decode cX3_addState 1 = .ok (.getfield 9, 3) := by decide +kernel
theorem dX3_addState_4 : decode cX3_addState 4 = .ok (.iload_n 2, 1) := by decide +kernel
theorem dX3_addState_5 : decode cX3_addState 5 = .ok (.iaload, 1) := by decide +kernel
theorem dX3_addState_6 : decode cX3_addState 6 = .ok (.ifCond .ne 10, 3) := by decide +kernel
theorem dX3_addState_9 : decode cX3_addState 9 = .ok (.aload_n 0, 1) := by decide +kernel
theorem dX3_addState_10 : decode cX3_addState 10 = .ok (.getfield 15, 3) := by decide +kernel
theorem dX3_addState_13 : decode cX3_addState 13 = .ok (.iload_n 2, 1) := by decide +kernel
theorem dX3_addState_14 : decode cX3_addState 14 = .ok (.iload_n 1, 1) := by decide +kernel
theorem dX3_addState_15 : decode cX3_addState 15 = .ok (.iastore, 1) := by decide +kernel
theorem dX3_addState_16 : decode cX3_addState 16 = .ok (.aload_n 0, 1) := by decide +kernel
theorem dX3_addState_17 : decode cX3_addState 17 = .ok (.getfield 9, 3) := by decide +kernel
theorem dX3_addState_20 : decode cX3_addState 20 = .ok (.iload_n 2, 1) := by decide +kernel
theorem dX3_addState_21 : decode cX3_addState 21 = .ok (.dup2, 1) := by decide +kernel
theorem dX3_addState_22 : decode cX3_addState 22 = .ok (.iaload, 1) := by decide +kernel
theorem dX3_addState_23 : decode cX3_addState 23 = .ok (.iconst 1, 1) := by decide +kernel
theorem dX3_addState_24 : decode cX3_addState 24 = .ok (.iadd, 1) := by decide +kernel
theorem dX3_addState_25 : decode cX3_addState 25 = .ok (.iastore, 1) := by decide +kernel
theorem dX3_addState_26 : decode cX3_addState 26 = .ok (.aload_n 0, 1) := by decide +kernel
theorem dX3_addState_27 : decode cX3_addState 27 = .ok (.getfield 18, 3) := by decide +kernel
theorem dX3_addState_30 : decode cX3_addState 30 = .ok (.iload_n 2, 1) := by decide +kernel
theorem dX3_addState_31 : decode cX3_addState 31 = .ok (.dup2, 1) := by decide +kernel
theorem dX3_addState_32 : decode cX3_addState 32 = .ok (.iaload, 1) := by decide +kernel
theorem dX3_addState_33 : decode cX3_addState 33 = .ok (.iload_n 3, 1) := by decide +kernel
theorem dX3_addState_34 : decode cX3_addState 34 = .ok (.iand, 1) := by decide +kernel
theorem dX3_addState_35 : decode cX3_addState 35 = .ok (.iastore, 1) := by decide +kernel
theorem dX3_addState_36 : decode cX3_addState 36 = .ok (.return_, 1) := by decide +kernel
theorem dX3_addMove_0 : decode cX3_addMove 0 = .ok (.aload_n 0, 1) := by decide +kernel
theorem dX3_addMove_1 : decode cX3_addMove 1 = .ok (.getfield 24, 3) := by decide +kernel
theorem dX3_addMove_4 : decode cX3_addMove 4 = .ok (.iload_n 1, 1) := by decide +kernel
theorem dX3_addMove_5 : decode cX3_addMove 5 = .ok (.iconst 1, 1) := by decide +kernel
theorem dX3_addMove_6 : decode cX3_addMove 6 = .ok (.bastore, 1) := by decide +kernel
theorem dX3_addMove_7 : decode cX3_addMove 7 = .ok (.iload_n 2, 1) := by decide +kernel
theorem dX3_addMove_8 : decode cX3_addMove 8 = .ok (.iconst (-1), 1) := by decide +kernel
theorem dX3_addMove_9 : decode cX3_addMove 9 = .ok (.if_icmp .eq 15, 3) := by decide +kernel
theorem dX3_addMove_12 : decode cX3_addMove 12 = .ok (.aload_n 0, 1) := by decide +kernel
theorem dX3_addMove_13 : decode cX3_addMove 13 = .ok (.getfield 21, 3) := by decide +kernel
theorem dX3_addMove_16 : decode cX3_addMove 16 = .ok (.iload_n 1, 1) := by decide +kernel
theorem dX3_addMove_17 : decode cX3_addMove 17 = .ok (.dup2, 1) := by decide +kernel
theorem dX3_addMove_18 : decode cX3_addMove 18 = .ok (.iaload, 1) := by decide +kernel
theorem dX3_addMove_19 : decode cX3_addMove 19 = .ok (.iconst 1, 1) := by decide +kernel
theorem dX3_addMove_20 : decode cX3_addMove 20 = .ok (.iload_n 2, 1) := by decide +kernel
theorem dX3_addMove_21 : decode cX3_addMove 21 = .ok (.ishl, 1) := by decide +kernel
theorem dX3_addMove_22 : decode cX3_addMove 22 = .ok (.ior, 1) := by decide +kernel
theorem dX3_addMove_23 : decode cX3_addMove 23 = .ok (.iastore, 1) := by decide +kernel
theorem dX3_addMove_24 : decode cX3_addMove 24 = .ok (.return_, 1) := by decide +kernel
theorem dX3_largestSize_0 : decode cX3_largestSize 0 = .ok (.iconst 0, 1) := by decide +kernel
theorem dX3_largestSize_1 : decode cX3_largestSize 1 = .ok (.istore_n 2, 1) := by decide +kernel
theorem dX3_largestSize_2 : decode cX3_largestSize 2 = .ok (.iconst 0, 1) := by decide +kernel
theorem dX3_largestSize_3 : decode cX3_largestSize 3 = .ok (.istore_n 3, 1) := by decide +kernel
theorem dX3_largestSize_4 : decode cX3_largestSize 4 = .ok (.iload_n 3, 1) := by decide +kernel
theorem dX3_largestSize_5 : decode cX3_largestSize 5 = .ok (.iload_n 1, 1) := by decide +kernel
theorem dX3_largestSize_6 : decode cX3_largestSize 6 = .ok (.if_icmp .ge 35, 3) := by decide +kernel
theorem dX3_largestSize_9 : decode cX3_largestSize 9 = .ok (.aload_n 0, 1) := by decide +kernel
theorem dX3_largestSize_10 : decode cX3_largestSize 10 = .ok (.getfield 24, 3) := by decide +kernel
theorem dX3_largestSize_13 : decode cX3_largestSize 13 = .ok (.iload_n 3, 1) := by decide +kernel
theorem dX3_largestSize_14 : decode cX3_largestSize 14 = .ok (.baload, 1) := by decide +kernel
theorem dX3_largestSize_15 : decode cX3_largestSize 15 = .ok (.ifCond .eq 20, 3) := by decide +kernel
theorem dX3_largestSize_18 : decode cX3_largestSize 18 = .ok (.aload_n 0, 1) := by decide +kernel
theorem dX3_largestSize_19 : decode cX3_largestSize 19 = .ok (.getfield 9, 3) := by decide +kernel
theorem dX3_largestSize_22 : decode cX3_largestSize 22 = .ok (.iload_n 3, 1) := by decide +kernel
theorem dX3_largestSize_23 : decode cX3_largestSize 23 = .ok (.iaload, 1) := by decide +kernel
theorem dX3_largestSize_24 : decode cX3_largestSize 24 = .ok (.iload_n 2, 1) := by decide +kernel
theorem dX3_largestSize_25 : decode cX3_largestSize 25 = .ok (.if_icmp .le 10, 3) := by decide +kernel
theorem dX3_largestSize_28 : decode cX3_largestSize 28 = .ok (.aload_n 0, 1) := by decide +kernel
theorem dX3_largestSize_29 : decode cX3_largestSize 29 = .ok (.getfield 9, 3) := by decide +kernel
theorem dX3_largestSize_32 : decode cX3_largestSize 32 = .ok (.iload_n 3, 1) := by decide +kernel
theorem dX3_largestSize_33 : decode cX3_largestSize 33 = .ok (.iaload, 1) := by decide +kernel
theorem dX3_largestSize_34 : decode cX3_largestSize 34 = .ok (.istore_n 2, 1) := by decide +kernel
theorem dX3_largestSize_35 : decode cX3_largestSize 35 = .ok (.iinc 3 1, 3) := by decide +kernel
theorem dX3_largestSize_38 : decode cX3_largestSize 38 = .ok (.goto (-34), 3) := by decide +kernel
theorem dX3_largestSize_41 : decode cX3_largestSize 41 = .ok (.iload_n 2, 1) := by decide +kernel
theorem dX3_largestSize_42 : decode cX3_largestSize 42 = .ok (.ireturn, 1) := by decide +kernel
set_option maxRecDepth 20000 in
theorem ggX4_init_X0_init : GoodIn wsX4_init wsX0_init := goodIn_r _ [24, 25, 2, 3, 8, 26, 27, 28, 29, 30, 31, 32, 33, 34, 60, 61, 62, 63, 64, 65, 66, 67, 68, 69, 70] (by decide +kernel) (by decide +kernel)
set_option maxRecDepth 20000 in
theorem gX4_init_X0_init_n9 : GoodIn wsX4_init (wsX0_init) := ggX4_init_X0_init
set_option maxRecDepth 20000 in
theorem ggX4_init_X2_init : GoodIn wsX4_init wsX2_init := goodIn_r _ [36, 37, 2, 3, 8, 38, 39, 40, 77, 78, 79, 80] (by decide +kernel) (by decide +kernel)
set_option maxRecDepth 20000 in
theorem gX4_init_X2_init_n22 : GoodIn wsX4_init (wsX2_init) := ggX4_init_X2_init
set_option maxRecDepth 20000 in
theorem ggX4_init_X1_init : GoodIn wsX4_init wsX1_init := goodIn_r _ [42, 43, 2, 3, 27, 44, 8, 45, 46, 47, 48, 49, 50, 51, 81, 82, 83, 84, 85, 86, 87, 88, 89, 90, 91, 92, 93] (by decide +kernel) (by decide +kernel)
set_option maxRecDepth 20000 in
theorem gX4_init_X1_init_n29 : GoodIn wsX4_init (wsX1_init) := ggX4_init_X1_init
set_option maxRecDepth 20000 in
theorem ggX4_init_X3_init : GoodIn wsX4_init wsX3_init := goodIn_r _ [53, 54, 2, 3, 8, 55, 56, 57, 58, 27, 59, 94, 95, 96, 97, 98] (by decide +kernel) (by decide +kernel)
set_option maxRecDepth 20000 in
theorem gX4_init_X3_init_n36 : GoodIn wsX4_init (wsX3_init) := ggX4_init_X3_init
theorem dX4_init_0 : decode cX4_init 0 = .ok (.aload_n 0, 1) := by decide +kernel
theorem dX4_init_1 : decode cX4_init 1 = .ok (.invokespecial 1, 3) := by decide +kernel
theorem dX4_init_4 : decode cX4_init 4 = .ok (.aload_n 0, 1) := by decide +kernel
theorem dX4_init_5 : decode cX4_init 5 = .ok (.new 7, 3) := by decide +kernel
theorem dX4_init_8 : decode cX4_init 8 = .ok (.dup, 1) := by decide +kernel
theorem dX4_init_9 : decode cX4_init 9 = .ok (.invokespecial 9, 3) := by decide +kernel
theorem dX4_init_12 : decode cX4_init 12 = .ok (.putfield 10, 3) := by decide +kernel
theorem dX4_init_15 : decode cX4_init 15 = .ok (.aload_n 0, 1) := by decide +kernel
theorem dX4_init_16 : decode cX4_init 16 = .ok (.bipush 16, 2) := by decide +kernel
theorem dX4_init_18 : decode cX4_init 18 = .ok (.newarray .int, 2) := by decide +kernel
theorem dX4_init_20 : decode cX4_init 20 = .ok (.putfield 16, 3) := by decide +kernel
theorem dX4_init_23 : decode cX4_init 23 = .ok (.aload_n 0, 1) := by decide +kernel
theorem dX4_init_24 : decode cX4_init 24 = .ok (.new 20, 3) := by decide +kernel
theorem dX4_init_27 : decode cX4_init 27 = .ok (.dup, 1) := by decide +kernel
theorem dX4_init_28 : decode cX4_init 28 = .ok (.invokespecial 22, 3) := by decide +kernel
theorem dX4_init_31 : decode cX4_init 31 = .ok (.putfield 23, 3) := by decide +kernel
theorem dX4_init_34 : decode cX4_init 34 = .ok (.aload_n 0, 1) := by decide +kernel
theorem dX4_init_35 : decode cX4_init 35 = .ok (.new 27, 3) := by decide +kernel
theorem dX4_init_38 : decode cX4_init 38 = .ok (.dup, 1) := by decide +kernel
theorem dX4_init_39 : decode cX4_init 39 = .ok (.invokespecial 29, 3) := by decide +kernel
theorem dX4_init_42 : decode cX4_init 42 = .ok (.putfield 30, 3) := by decide +kernel
theorem dX4_init_45 : decode cX4_init 45 = .ok (.aload_n 0, 1) := by decide +kernel
theorem dX4_init_46 : decode cX4_init 46 = .ok (.new 34, 3) := by decide +kernel
theorem dX4_init_49 : decode cX4_init 49 = .ok (.dup, 1) := by decide +kernel
theorem dX4_init_50 : decode cX4_init 50 = .ok (.invokespecial 36, 3) := by decide +kernel
theorem dX4_init_53 : decode cX4_init 53 = .ok (.putfield 37, 3) := by decide +kernel
theorem dX4_init_56 : decode cX4_init 56 = .ok (.aload_n 0, 1) := by decide +kernel
theorem dX4_init_57 : decode cX4_init 57 = .ok (.sipush 200, 3) := by decide +kernel
theorem dX4_init_60 : decode cX4_init 60 = .ok (.newarray .int, 2) := by decide +kernel
theorem dX4_init_62 : decode cX4_init 62 = .ok (.putfield 41, 3) := by decide +kernel
theorem dX4_init_65 : decode cX4_init 65 = .ok (.return_, 1) := by decide +kernel
set_option maxRecDepth 20000 in
theorem ggX4_state_X0_addState : GoodIn wsX4_state wsX0_addState := goodIn_r _ [11, 12, 13, 14, 15, 16, 17, 24, 25, 26, 27, 28, 29, 30, 31, 32, 33, 34] (by decide +kernel) (by decide +kernel)
set_option maxRecDepth 20000 in
theorem gX4_state_X0_addState : GoodIn wsX4_state (wsV RX4 60 RX0 yX0_addState wsX0_addState) := goodIn_app (goodIn_of _ (by decide +kernel)) ggX4_state_X0_addState
theorem dX4_state_0 : decode cX4_state 0 = .ok (.iload_n 1, 1) := by decide +kernel
theorem dX4_state_1 : decode cX4_state 1 = .ok (.ifCond .lt 10, 3) := by decide +kernel
theorem dX4_state_4 : decode cX4_state 4 = .ok (.iload_n 1, 1) := by decide +kernel
theorem dX4_state_5 : decode cX4_state 5 = .ok (.sipush 256, 3) := by decide +kernel
theorem dX4_state_8 : decode cX4_state 8 = .ok (.if_icmp .lt 13, 3) := by decide +kernel
theorem dX4_state_11 : decode cX4_state 11 = .ok (.new 44, 3) := by decide +kernel
theorem dX4_state_14 : decode cX4_state 14 = .ok (.dup, 1) := by decide +kernel
theorem dX4_state_15 : decode cX4_state 15 = .ok (.ldc 46, 2) := by decide +kernel
theorem dX4_state_17 : decode cX4_state 17 = .ok (.invokespecial 48, 3) := by decide +kernel
theorem dX4_state_20 : decode cX4_state 20 = .ok (.athrow, 1) := by decide +kernel
theorem dX4_state_21 : decode cX4_state 21 = .ok (.aload_n 0, 1) := by decide +kernel
theorem dX4_state_22 : decode cX4_state 22 = .ok (.getfield 10, 3) := by decide +kernel
theorem dX4_state_25 : decode cX4_state 25 = .ok (.getfield 51, 3) := by decide +kernel
theorem dX4_state_28 : decode cX4_state 28 = .ok (.sipush 200, 3) := by decide +kernel
theorem dX4_state_31 : decode cX4_state 31 = .ok (.if_icmp .lt 13, 3) := by decide +kernel
theorem dX4_state_34 : decode cX4_state 34 = .ok (.new 55, 3) := by decide +kernel
theorem dX4_state_37 : decode cX4_state 37 = .ok (.dup, 1) := by decide +kernel
theorem dX4_state_38 : decode cX4_state 38 = .ok (.ldc 57, 2) := by decide +kernel
theorem dX4_state_40 : decode cX4_state 40 = .ok (.invokespecial 59, 3) := by decide +kernel
theorem dX4_state_43 : decode cX4_state 43 = .ok (.athrow, 1) := by decide +kernel
theorem dX4_state_44 : decode cX4_state 44 = .ok (.aload_n 0, 1) := by decide +kernel
theorem dX4_state_45 : decode cX4_state 45 = .ok (.getfield 10, 3) := by decide +kernel
theorem dX4_state_48 : decode cX4_state 48 = .ok (.iload_n 1, 1) := by decide +kernel
theorem dX4_state_49 : decode cX4_state 49 = .ok (.iload_n 2, 1) := by decide +kernel
theorem dX4_state_50 : decode cX4_state 50 = .ok (.invokevirtual 60, 3) := by decide +kernel
theorem dX4_state_53 : decode cX4_state 53 = .ok (.ireturn, 1) := by decide +kernel
set_option maxRecDepth 20000 in
theorem ggX4_move_X0_hasState : GoodIn wsX4_move wsX0_hasState := goodIn_r _ [11, 12, 34, 35, 36, 37, 38, 39, 40, 41, 42, 43, 44] (by decide +kernel) (by decide +kernel)
set_option maxRecDepth 20000 in
theorem gX4_move_X0_hasState : GoodIn wsX4_move (wsV RX4 64 RX0 yX0_hasState wsX0_hasState) := goodIn_app (goodIn_of _ (by decide +kernel)) ggX4_move_X0_hasState
set_option maxRecDepth 20000 in
theorem ggX4_move_X4_isLabel : GoodIn wsX4_move wsX4_isLabel := goodIn_r _ [16] (by decide +kernel) (by decide +kernel)
set_option maxRecDepth 20000 in
theorem gX4_move_X4_isLabel : GoodIn wsX4_move (va_wsS RX4 70 yX4_isLabel wsX4_isLabel) := goodIn_app (goodIn_of _ (by decide +kernel)) ggX4_move_X4_isLabel
set_option maxRecDepth 20000 in
theorem ggX4_move_X0_addMove : GoodIn wsX4_move wsX0_addMove := goodIn_r _ [20, 21, 22, 23, 24, 25, 26, 27, 12, 34, 35, 36, 37, 38, 39, 40, 41, 42, 43, 44] (by decide +kernel) (by decide +kernel)
set_option maxRecDepth 20000 in
theorem gX4_move_X0_addMove : GoodIn wsX4_move (wsV RX4 80 RX0 yX0_addMove wsX0_addMove) := goodIn_app (goodIn_of _ (by decide +kernel)) ggX4_move_X0_addMove
theorem dX4_move_0 : decode cX4_move 0 = .ok (.aload_n 0, 1) := by decide +kernel
theorem dX4_move_1 : decode cX4_move 1 = .ok (.getfield 10, 3) := by decide +kernel
theorem dX4_move_4 : decode cX4_move 4 = .ok (.iload_n 1, 1) := by decide +kernel
theorem dX4_move_5 : decode cX4_move 5 = .ok (.invokevirtual 64, 3) := by decide +kernel
theorem dX4_move_8 : decode cX4_move 8 = .ok (.ifCond .eq 14, 3) := by decide +kernel
theorem dX4_move_11 : decode cX4_move 11 = .ok (.aload_n 0, 1) := by decide +kernel
theorem dX4_move_12 : decode cX4_move 12 = .ok (.getfield 10, 3) := by decide +kernel
theorem dX4_move_15 : decode cX4_move 15 = .ok (.iload_n 2, 1) := by decide +kernel
theorem dX4_move_16 : decode cX4_move 16 = .ok (.invokevirtual 64, 3) := by decide +kernel
theorem dX4_move_19 : decode cX4_move 19 = .ok (.ifCond .ne 13, 3) := by decide +kernel
theorem dX4_move_22 : decode cX4_move 22 = .ok (.new 44, 3) := by decide +kernel
theorem dX4_move_25 : decode cX4_move 25 = .ok (.dup, 1) := by decide +kernel
theorem dX4_move_26 : decode cX4_move 26 = .ok (.ldc 68, 2) := by decide +kernel
theorem dX4_move_28 : decode cX4_move 28 = .ok (.invokespecial 48, 3) := by decide +kernel
theorem dX4_move_31 : decode cX4_move 31 = .ok (.athrow, 1) := by decide +kernel
theorem dX4_move_32 : decode cX4_move 32 = .ok (.iload_n 3, 1) := by decide +kernel
theorem dX4_move_33 : decode cX4_move 33 = .ok (.iconst (-1), 1) := by decide +kernel
theorem dX4_move_34 : decode cX4_move 34 = .ok (.if_icmp .eq 20, 3) := by decide +kernel
theorem dX4_move_37 : decode cX4_move 37 = .ok (.iload_n 3, 1) := by decide +kernel
theorem dX4_move_38 : decode cX4_move 38 = .ok (.invokestatic 70, 3) := by decide +kernel
theorem dX4_move_41 : decode cX4_move 41 = .ok (.ifCond .ne 13, 3) := by decide +kernel
theorem dX4_move_44 : decode cX4_move 44 = .ok (.new 44, 3) := by decide +kernel
theorem dX4_move_47 : decode cX4_move 47 = .ok (.dup, 1) := by decide +kernel
theorem dX4_move_48 : decode cX4_move 48 = .ok (.ldc 73, 2) := by decide +kernel
theorem dX4_move_50 : decode cX4_move 50 = .ok (.invokespecial 48, 3) := by decide +kernel
theorem dX4_move_53 : decode cX4_move 53 = .ok (.athrow, 1) := by decide +kernel
theorem dX4_move_54 : decode cX4_move 54 = .ok (.aload_n 0, 1) := by decide +kernel
theorem dX4_move_55 : decode cX4_move 55 = .ok (.getfield 10, 3) := by decide +kernel
theorem dX4_move_58 : decode cX4_move 58 = .ok (.getfield 75, 3) := by decide +kernel
theorem dX4_move_61 : decode cX4_move 61 = .ok (.sipush 600, 3) := by decide +kernel
theorem dX4_move_64 : decode cX4_move 64 = .ok (.if_icmp .lt 13, 3) := by decide +kernel
theorem dX4_move_67 : decode cX4_move 67 = .ok (.new 55, 3) := by decide +kernel
theorem dX4_move_70 : decode cX4_move 70 = .ok (.dup, 1) := by decide +kernel
theorem dX4_move_71 : decode cX4_move 71 = .ok (.ldc 78, 2) := by decide +kernel
theorem dX4_move_73 : decode cX4_move 73 = .ok (.invokespecial 59, 3) := by decide +kernel
theorem dX4_move_76 : decode cX4_move 76 = .ok (.athrow, 1) := by decide +kernel
theorem dX4_move_77 : decode cX4_move 77 = .ok (.aload_n 0, 1) := by decide +kernel
theorem dX4_move_78 : decode cX4_move 78 = .ok (.getfield 10, 3) := by decide +kernel
theorem dX4_move_81 : decode cX4_move 81 = .ok (.iload_n 1, 1) := by decide +kernel
theorem dX4_move_82 : decode cX4_move 82 = .ok (.iload_n 2, 1) := by decide +kernel
theorem dX4_move_83 : decode cX4_move 83 = .ok (.iload_n 3, 1) := by decide +kernel
theorem dX4_move_84 : decode cX4_move 84 = .ok (.invokevirtual 80, 3) := by decide +kernel
theorem dX4_move_87 : decode cX4_move 87 = .ok (.ireturn, 1) := by decide +kernel
set_option maxRecDepth 20000 in
theorem ggX4_label_X4_isLabel : GoodIn wsX4_label wsX4_isLabel := goodIn_r _ [9] (by decide +kernel) (by decide +kernel)
set_option maxRecDepth 20000 in
theorem gX4_label_X4_isLabel : GoodIn wsX4_label (va_wsS RX4 70 yX4_isLabel wsX4_isLabel) := goodIn_app (goodIn_of _ (by decide +kernel)) ggX4_label_X4_isLabel
theorem dX4_label_0 : decode cX4_label 0 = .ok (.iload_n 1, 1) := by decide +kernel
theorem dX4_label_1 : decode cX4_label 1 = .ok (.invokestatic 70, 3) := by decide +kernel
theorem dX4_label_4 : decode cX4_label 4 = .ok (.ifCond .ne 13, 3) := by decide +kernel
theorem dX4_label_7 : decode cX4_label 7 = .ok (.new 84, 3) := by decide +kernel
theorem dX4_label_10 : decode cX4_label 10 = .ok (.dup, 1) := by decide +kernel
theorem dX4_label_11 : decode cX4_label 11 = .ok (.ldc 73, 2) := by decide +kernel
theorem dX4_label_13 : decode cX4_label 13 = .ok (.invokespecial 86, 3) := by decide +kernel
theorem dX4_label_16 : decode cX4_label 16 = .ok (.athrow, 1) := by decide +kernel
theorem dX4_label_17 : decode cX4_label 17 = .ok (.iload_n 2, 1) := by decide +kernel
theorem dX4_label_18 : decode cX4_label 18 = .ok (.ifCond .eq 23, 3) := by decide +kernel
theorem dX4_label_21 : decode cX4_label 21 = .ok (.iload_n 2, 1) := by decide +kernel
theorem dX4_label_22 : decode cX4_label 22 = .ok (.iconst 1, 1) := by decide +kernel
theorem dX4_label_23 : decode cX4_label 23 = .ok (.if_icmp .eq 18, 3) := by decide +kernel
theorem dX4_label_26 : decode cX4_label 26 = .ok (.iload_n 2, 1) := by decide +kernel
theorem dX4_label_27 : decode cX4_label 27 = .ok (.iconst 2, 1) := by decide +kernel
theorem dX4_label_28 : decode cX4_label 28 = .ok (.if_icmp .eq 13, 3) := by decide +kernel
theorem dX4_label_31 : decode cX4_label 31 = .ok (.new 44, 3) := by decide +kernel
theorem dX4_label_34 : decode cX4_label 34 = .ok (.dup, 1) := by decide +kernel
theorem dX4_label_35 : decode cX4_label 35 = .ok (.ldc 87, 2) := by decide +kernel
theorem dX4_label_37 : decode cX4_label 37 = .ok (.invokespecial 48, 3) := by decide +kernel
theorem dX4_label_40 : decode cX4_label 40 = .ok (.athrow, 1) := by decide +kernel
theorem dX4_label_41 : decode cX4_label 41 = .ok (.aload_n 0, 1) := by decide +kernel
theorem dX4_label_42 : decode cX4_label 42 = .ok (.getfield 16, 3) := by decide +kernel
theorem dX4_label_45 : decode cX4_label 45 = .ok (.iload_n 1, 1) := by decide +kernel
theorem dX4_label_46 : decode cX4_label 46 = .ok (.iaload, 1) := by decide +kernel
theorem dX4_label_47 : decode cX4_label 47 = .ok (.istore_n 3, 1) := by decide +kernel
theorem dX4_label_48 : decode cX4_label 48 = .ok (.aload_n 0, 1) := by decide +kernel
theorem dX4_label_49 : decode cX4_label 49 = .ok (.getfield 16, 3) := by decide +kernel
theorem dX4_label_52 : decode cX4_label 52 = .ok (.iload_n 1, 1) := by decide +kernel
theorem dX4_label_53 : decode cX4_label 53 = .ok (.iload_n 2, 1) := by decide +kernel
theorem dX4_label_54 : decode cX4_label 54 = .ok (.iastore, 1) := by decide +kernel
theorem dX4_label_55 : decode cX4_label 55 = .ok (.iload_n 3, 1) := by decide +kernel
theorem dX4_label_56 : decode cX4_label 56 = .ok (.ireturn, 1) := by decide +kernel
set_option maxRecDepth 20000 in
theorem ggX4_reached_X2_walk : GoodIn wsX4_reached wsX2_walk := goodIn_r _ [8, 9, 10, 11, 12, 13, 14, 15, 16, 17, 18, 7, 19, 20, 31, 32, 33, 34, 35, 36, 37, 38, 39, 40, 41, 27, 28, 29, 30] (by decide +kernel) (by decide +kernel)
set_option maxRecDepth 20000 in
theorem gX4_reached_X2_walk : GoodIn wsX4_reached (wsV RX4 89 RX2 yX2_walk wsX2_walk) := goodIn_app (goodIn_of _ (by decide +kernel)) ggX4_reached_X2_walk
theorem dX4_reached_0 : decode cX4_reached 0 = .ok (.aload_n 0, 1) := by decide +kernel
theorem dX4_reached_1 : decode cX4_reached 1 = .ok (.getfield 23, 3) := by decide +kernel
theorem dX4_reached_4 : decode cX4_reached 4 = .ok (.aload_n 0, 1) := by decide +kernel
theorem dX4_reached_5 : decode cX4_reached 5 = .ok (.getfield 10, 3) := by decide +kernel
theorem dX4_reached_8 : decode cX4_reached 8 = .ok (.invokevirtual 89, 3) := by decide +kernel
theorem dX4_reached_11 : decode cX4_reached 11 = .ok (.aload_n 0, 1) := by decide +kernel
theorem dX4_reached_12 : decode cX4_reached 12 = .ok (.getfield 23, 3) := by decide +kernel
theorem dX4_reached_15 : decode cX4_reached 15 = .ok (.getfield 93, 3) := by decide +kernel
theorem dX4_reached_18 : decode cX4_reached 18 = .ok (.ireturn, 1) := by decide +kernel
set_option maxRecDepth 20000 in
theorem ggX4_live_X4_refuseWrongAsk : GoodIn wsX4_live wsX4_refuseWrongAsk := goodIn_ca (goodIn_r _ [4, 5, 6] (by decide +kernel) (by decide +kernel)) (goodIn_sub (fun _ h => List.mem_cons_of_mem _ (List.mem_append_right _ h)) (by decide +kernel))
set_option maxRecDepth 20000 in
theorem gX4_live_X4_refuseWrongAsk : GoodIn wsX4_live (va_wsS RX4 96 yX4_refuseWrongAsk wsX4_refuseWrongAsk) := goodIn_app (goodIn_of _ (by decide +kernel)) ggX4_live_X4_refuseWrongAsk
set_option maxRecDepth 20000 in
theorem ggX4_live_X4_alwaysServed : GoodIn wsX4_live wsX4_alwaysServed := goodIn_r _ [10, 11, 12, 13, 14, 15, 3, 16, 17, 18, 19, 20, 21, 22, 23, 24, 25, 26, 27, 28, 29, 30, 31, 32, 33, 34, 35, 36, 37, 38, 39, 40, 41, 42, 43, 44, 45, 46, 47, 48, 49, 50, 51, 52, 53, 54, 55, 56, 57, 58, 59, 60, 61, 62, 63, 64, 65, 66, 67, 68, 69, 70, 71, 72, 73, 74, 75, 76, 77, 78, 79, 80, 81, 82, 83, 84, 85, 86, 87, 88, 89, 90, 91, 92, 93, 94, 95, 96, 97, 98, 99, 100, 101, 102, 103, 104, 105, 106, 107, 108, 109, 110, 111, 112, 113, 114, 115, 116, 117, 118, 119, 120, 121, 122, 123, 124, 125, 126, 127, 128, 129, 130, 131, 132, 133, 134, 135, 136, 137, 138, 139, 140, 141, 142, 143, 144, 145, 146, 147, 148, 149, 150, 151, 152, 153, 154, 155, 156, 157, 158, 159, 160, 161, 162, 163, 164, 165, 166, 167, 168, 169, 170, 171, 172, 173, 174, 175, 176, 177, 178, 179, 180, 181, 182] (by decide +kernel) (by decide +kernel)
set_option maxRecDepth 20000 in
theorem gX4_live_X4_alwaysServed : GoodIn wsX4_live (wsV RX4 100 RX4 yX4_alwaysServed wsX4_alwaysServed) := goodIn_app (goodIn_of _ (by decide +kernel)) ggX4_live_X4_alwaysServed
theorem dX4_live_0 : decode cX4_live 0 = .ok (.iload_n 1, 1) := by decide +kernel
theorem dX4_live_1 : decode cX4_live 1 = .ok (.invokestatic 96, 3) := by decide +kernel
theorem dX4_live_4 : decode cX4_live 4 = .ok (.aload_n 0, 1) := by decide +kernel
theorem dX4_live_5 : decode cX4_live 5 = .ok (.iload_n 1, 1) := by decide +kernel
theorem dX4_live_6 : decode cX4_live 6 = .ok (.invokevirtual 100, 3) := by decide +kernel
theorem dX4_live_9 : decode cX4_live 9 = .ok (.ireturn, 1) := by decide +kernel
set_option maxRecDepth 20000 in
theorem ggX4_parts_X4_refuseWrongAsk : GoodIn wsX4_parts wsX4_refuseWrongAsk := goodIn_ca (goodIn_r _ [6, 7, 8] (by decide +kernel) (by decide +kernel)) (goodIn_sub (fun _ h => List.mem_cons_of_mem _ (List.mem_append_right _ h)) (by decide +kernel))
set_option maxRecDepth 20000 in
theorem gX4_parts_X4_refuseWrongAsk : GoodIn wsX4_parts (va_wsS RX4 96 yX4_refuseWrongAsk wsX4_refuseWrongAsk) := goodIn_app (goodIn_of _ (by decide +kernel)) ggX4_parts_X4_refuseWrongAsk
set_option maxRecDepth 20000 in
theorem ggX4_parts_X4_findFairParts : GoodIn wsX4_parts wsX4_findFairParts := goodIn_r _ [12, 13, 14, 15, 5, 16, 17, 18, 19, 1, 20, 21, 22, 23, 24, 25, 26, 27, 28, 29, 30, 31, 32, 33, 34, 35, 36, 37, 38, 39, 40, 41, 42, 43, 44, 45, 46, 47, 48, 49, 50, 51, 52, 53, 54, 55, 56, 57, 58, 59, 60, 61, 62, 63, 64, 65, 66, 67, 68, 69, 70, 71, 72, 73, 74, 75, 76, 77, 78, 79, 80, 81, 82, 83, 84, 85, 86, 87, 88, 89, 90, 91, 92, 93, 94, 95, 96, 97, 98, 99, 100, 101, 102, 103, 104, 105, 106, 107, 108, 109, 110, 111, 112, 113, 114, 115, 116, 117, 118, 119, 120, 121, 122, 123, 124, 125, 126, 127, 128, 129, 130, 131, 132, 133, 134, 135, 136, 137, 138, 152, 153, 154, 155, 156, 157, 158, 159, 160, 161, 162, 139, 140, 141, 142, 143, 144, 145, 146, 147, 148, 149, 150, 151, 163, 164, 165, 166, 167, 168, 169, 170, 171] (by decide +kernel) (by decide +kernel)
set_option maxRecDepth 20000 in
theorem gX4_parts_X4_findFairParts : GoodIn wsX4_parts (wsV RX4 103 RX4 yX4_findFairParts wsX4_findFairParts) := goodIn_app (goodIn_of _ (by decide +kernel)) ggX4_parts_X4_findFairParts
theorem dX4_parts_0 : decode cX4_parts 0 = .ok (.iload_n 1, 1) := by decide +kernel
theorem dX4_parts_1 : decode cX4_parts 1 = .ok (.invokestatic 96, 3) := by decide +kernel
theorem dX4_parts_4 : decode cX4_parts 4 = .ok (.aload_n 0, 1) := by decide +kernel
theorem dX4_parts_5 : decode cX4_parts 5 = .ok (.iload_n 1, 1) := by decide +kernel
theorem dX4_parts_6 : decode cX4_parts 6 = .ok (.invokevirtual 103, 3) := by decide +kernel
theorem dX4_parts_9 : decode cX4_parts 9 = .ok (.aload_n 0, 1) := by decide +kernel
theorem dX4_parts_10 : decode cX4_parts 10 = .ok (.getfield 30, 3) := by decide +kernel
theorem dX4_parts_13 : decode cX4_parts 13 = .ok (.getfield 106, 3) := by decide +kernel
theorem dX4_parts_16 : decode cX4_parts 16 = .ok (.ireturn, 1) := by decide +kernel
set_option maxRecDepth 20000 in
theorem ggX4_part_X4_refuseWrongAsk : GoodIn wsX4_part wsX4_refuseWrongAsk := goodIn_ca (goodIn_r _ [6, 7, 8] (by decide +kernel) (by decide +kernel)) (goodIn_sub (fun _ h => List.mem_cons_of_mem _ (List.mem_append_right _ h)) (by decide +kernel))
set_option maxRecDepth 20000 in
theorem gX4_part_X4_refuseWrongAsk : GoodIn wsX4_part (va_wsS RX4 96 yX4_refuseWrongAsk wsX4_refuseWrongAsk) := goodIn_app (goodIn_of _ (by decide +kernel)) ggX4_part_X4_refuseWrongAsk
set_option maxRecDepth 20000 in
theorem ggX4_part_X4_findFairParts : GoodIn wsX4_part wsX4_findFairParts := goodIn_r _ [12, 13, 14, 15, 5, 16, 17, 18, 19, 20, 21, 22, 23, 24, 25, 26, 27, 28, 29, 30, 31, 32, 33, 34, 35, 36, 37, 38, 39, 40, 41, 42, 43, 44, 45, 46, 47, 48, 49, 50, 51, 52, 53, 54, 55, 56, 57, 58, 59, 60, 61, 62, 63, 64, 65, 66, 67, 68, 69, 70, 71, 72, 73, 74, 75, 76, 77, 78, 79, 80, 81, 82, 83, 84, 85, 86, 87, 88, 89, 90, 91, 92, 93, 94, 95, 96, 97, 98, 99, 100, 101, 102, 103, 104, 105, 106, 107, 108, 109, 110, 111, 112, 113, 114, 115, 116, 117, 118, 119, 120, 121, 122, 123, 124, 125, 126, 127, 128, 129, 130, 131, 132, 133, 143, 144, 145, 146, 147, 148, 149, 150, 151, 152, 153, 154, 155, 156, 157, 158, 159, 160, 161, 162, 163, 164, 165, 166, 167, 168, 169, 170, 171, 172, 173, 174, 175, 176, 177, 178, 179, 180, 181] (by decide +kernel) (by decide +kernel)
set_option maxRecDepth 20000 in
theorem gX4_part_X4_findFairParts : GoodIn wsX4_part (wsV RX4 103 RX4 yX4_findFairParts wsX4_findFairParts) := goodIn_app (goodIn_of _ (by decide +kernel)) ggX4_part_X4_findFairParts
set_option maxRecDepth 20000 in
theorem ggX4_part_X4_knotByLowestState : GoodIn wsX4_part wsX4_knotByLowestState := goodIn_r _ [137, 18, 19, 20, 21, 45, 138, 129, 143, 144, 145, 146, 147, 148, 149, 150, 151, 152, 153, 154, 155, 156, 157, 158, 159, 160, 161, 162, 163, 164, 165, 166, 167, 168, 169, 170, 171, 172, 177, 178, 179, 180, 181] (by decide +kernel) (by decide +kernel)
set_option maxRecDepth 20000 in
theorem gX4_part_X4_knotByLowestState : GoodIn wsX4_part (wsV RX4 107 RX4 yX4_knotByLowestState wsX4_knotByLowestState) := goodIn_app (goodIn_of _ (by decide +kernel)) ggX4_part_X4_knotByLowestState
set_option maxRecDepth 20000 in
theorem ggX4_part_X4_stateOfKnot : GoodIn wsX4_part wsX4_stateOfKnot := goodIn_r _ [142, 18, 19, 20, 21, 129, 143, 144, 145, 146, 147, 148, 149, 150, 151, 152, 153, 154, 155, 156, 157, 158, 159, 160, 161, 162, 163, 164, 165, 166, 167, 168, 169, 170, 171, 172] (by decide +kernel) (by decide +kernel)
set_option maxRecDepth 20000 in
theorem gX4_part_X4_stateOfKnot : GoodIn wsX4_part (wsV RX4 111 RX4 yX4_stateOfKnot wsX4_stateOfKnot) := goodIn_app (goodIn_of _ (by decide +kernel)) ggX4_part_X4_stateOfKnot
theorem dX4_part_0 : decode cX4_part 0 = .ok (.iload_n 1, 1) := by decide +kernel
theorem dX4_part_1 : decode cX4_part 1 = .ok (.invokestatic 96, 3) := by decide +kernel
theorem dX4_part_4 : decode cX4_part 4 = .ok (.aload_n 0, 1) := by decide +kernel
theorem dX4_part_5 : decode cX4_part 5 = .ok (.iload_n 1, 1) := by decide +kernel
theorem dX4_part_6 : decode cX4_part 6 = .ok (.invokevirtual 103, 3) := by decide +kernel
theorem dX4_part_9 : decode cX4_part 9 = .ok (.aload_n 0, 1) := by decide +kernel
theorem dX4_part_10 : decode cX4_part 10 = .ok (.iload_n 2, 1) := by decide +kernel
theorem dX4_part_11 : decode cX4_part 11 = .ok (.invokevirtual 107, 3) := by decide +kernel
theorem dX4_part_14 : decode cX4_part 14 = .ok (.istore 4, 2) := by decide +kernel
theorem dX4_part_16 : decode cX4_part 16 = .ok (.iload 4, 2) := by decide +kernel
theorem dX4_part_18 : decode cX4_part 18 = .ok (.iconst (-1), 1) := by decide +kernel
theorem dX4_part_19 : decode cX4_part 19 = .ok (.if_icmp .ne 7, 3) := by decide +kernel
theorem dX4_part_22 : decode cX4_part 22 = .ok (.iconst (-1), 1) := by decide +kernel
theorem dX4_part_23 : decode cX4_part 23 = .ok (.goto 10, 3) := by decide +kernel
theorem dX4_part_26 : decode cX4_part 26 = .ok (.aload_n 0, 1) := by decide +kernel
theorem dX4_part_27 : decode cX4_part 27 = .ok (.iload 4, 2) := by decide +kernel
theorem dX4_part_29 : decode cX4_part 29 = .ok (.iload_n 3, 1) := by decide +kernel
theorem dX4_part_30 : decode cX4_part 30 = .ok (.invokevirtual 111, 3) := by decide +kernel
theorem dX4_part_33 : decode cX4_part 33 = .ok (.istore 5, 2) := by decide +kernel
theorem dX4_part_35 : decode cX4_part 35 = .ok (.iload 5, 2) := by decide +kernel
theorem dX4_part_37 : decode cX4_part 37 = .ok (.iconst (-1), 1) := by decide +kernel
theorem dX4_part_38 : decode cX4_part 38 = .ok (.if_icmp .ne 13, 3) := by decide +kernel
theorem dX4_part_41 : decode cX4_part 41 = .ok (.new 84, 3) := by decide +kernel
theorem dX4_part_44 : decode cX4_part 44 = .ok (.dup, 1) := by decide +kernel
theorem dX4_part_45 : decode cX4_part 45 = .ok (.ldc 115, 2) := by decide +kernel
theorem dX4_part_47 : decode cX4_part 47 = .ok (.invokespecial 86, 3) := by decide +kernel
theorem dX4_part_50 : decode cX4_part 50 = .ok (.athrow, 1) := by decide +kernel
theorem dX4_part_51 : decode cX4_part 51 = .ok (.iload 5, 2) := by decide +kernel
theorem dX4_part_53 : decode cX4_part 53 = .ok (.ireturn, 1) := by decide +kernel
set_option maxRecDepth 20000 in
theorem ggX4_dead_X4_refuseWrongAsk : GoodIn wsX4_dead wsX4_refuseWrongAsk := goodIn_ca (goodIn_r _ [6, 7, 8] (by decide +kernel) (by decide +kernel)) (goodIn_sub (fun _ h => List.mem_cons_of_mem _ (List.mem_append_right _ h)) (by decide +kernel))
set_option maxRecDepth 20000 in
theorem gX4_dead_X4_refuseWrongAsk : GoodIn wsX4_dead (va_wsS RX4 96 yX4_refuseWrongAsk wsX4_refuseWrongAsk) := goodIn_app (goodIn_of _ (by decide +kernel)) ggX4_dead_X4_refuseWrongAsk
set_option maxRecDepth 20000 in
theorem ggX4_dead_X4_chooseStatesOf : GoodIn wsX4_dead wsX4_chooseStatesOf := goodIn_r _ [12, 13, 14, 15, 16, 17, 18, 19, 20, 21, 22, 23, 24, 25, 26, 27, 28, 29, 30, 31, 32, 33, 34, 35, 36, 48, 49, 50, 51, 52, 53, 54, 55, 56, 57, 58, 59, 60, 61, 62, 63, 64, 65, 66, 67, 68, 69, 70, 71, 72, 73, 74, 75, 76, 77, 78, 79, 80, 81] (by decide +kernel) (by decide +kernel)
set_option maxRecDepth 20000 in
theorem gX4_dead_X4_chooseStatesOf : GoodIn wsX4_dead (wsV RX4 117 RX4 yX4_chooseStatesOf wsX4_chooseStatesOf) := goodIn_app (goodIn_of _ (by decide +kernel)) ggX4_dead_X4_chooseStatesOf
set_option maxRecDepth 20000 in
theorem ggX4_dead_X4_deadEnd : GoodIn wsX4_dead wsX4_deadEnd := goodIn_r _ [40, 14, 15, 16, 17, 41, 42, 43, 44, 45, 46, 47, 48, 49, 50, 51, 52, 53, 54, 55, 56, 57, 58, 59, 60, 61, 62, 63, 64, 65, 66, 67, 68, 69, 70, 71, 72, 73, 74, 75, 76, 77] (by decide +kernel) (by decide +kernel)
set_option maxRecDepth 20000 in
theorem gX4_dead_X4_deadEnd : GoodIn wsX4_dead (wsV RX4 120 RX4 yX4_deadEnd wsX4_deadEnd) := goodIn_app (goodIn_of _ (by decide +kernel)) ggX4_dead_X4_deadEnd
theorem dX4_dead_0 : decode cX4_dead 0 = .ok (.iload_n 1, 1) := by decide +kernel
theorem dX4_dead_1 : decode cX4_dead 1 = .ok (.invokestatic 96, 3) := by decide +kernel
theorem dX4_dead_4 : decode cX4_dead 4 = .ok (.aload_n 0, 1) := by decide +kernel
theorem dX4_dead_5 : decode cX4_dead 5 = .ok (.iload_n 1, 1) := by decide +kernel
theorem dX4_dead_6 : decode cX4_dead 6 = .ok (.invokevirtual 117, 3) := by decide +kernel
theorem dX4_dead_9 : decode cX4_dead 9 = .ok (.aload_n 0, 1) := by decide +kernel
theorem dX4_dead_10 : decode cX4_dead 10 = .ok (.iload_n 2, 1) := by decide +kernel
theorem dX4_dead_11 : decode cX4_dead 11 = .ok (.invokevirtual 120, 3) := by decide +kernel
theorem dX4_dead_14 : decode cX4_dead 14 = .ok (.istore_n 3, 1) := by decide +kernel
theorem dX4_dead_15 : decode cX4_dead 15 = .ok (.iload_n 3, 1) := by decide +kernel
theorem dX4_dead_16 : decode cX4_dead 16 = .ok (.iconst (-1), 1) := by decide +kernel
theorem dX4_dead_17 : decode cX4_dead 17 = .ok (.if_icmp .ne 13, 3) := by decide +kernel
theorem dX4_dead_20 : decode cX4_dead 20 = .ok (.new 84, 3) := by decide +kernel
theorem dX4_dead_23 : decode cX4_dead 23 = .ok (.dup, 1) := by decide +kernel
theorem dX4_dead_24 : decode cX4_dead 24 = .ok (.ldc 123, 2) := by decide +kernel
theorem dX4_dead_26 : decode cX4_dead 26 = .ok (.invokespecial 86, 3) := by decide +kernel
theorem dX4_dead_29 : decode cX4_dead 29 = .ok (.athrow, 1) := by decide +kernel
theorem dX4_dead_30 : decode cX4_dead 30 = .ok (.iload_n 3, 1) := by decide +kernel
theorem dX4_dead_31 : decode cX4_dead 31 = .ok (.ireturn, 1) := by decide +kernel
set_option maxRecDepth 20000 in
theorem ggX4_longest_X4_refuseWrongAsk : GoodIn wsX4_longest wsX4_refuseWrongAsk := goodIn_ca (goodIn_r _ [7, 8, 9] (by decide +kernel) (by decide +kernel)) (goodIn_sub (fun _ h => List.mem_cons_of_mem _ (List.mem_append_right _ h)) (by decide +kernel))
set_option maxRecDepth 20000 in
theorem gX4_longest_X4_refuseWrongAsk : GoodIn wsX4_longest (va_wsS RX4 96 yX4_refuseWrongAsk wsX4_refuseWrongAsk) := goodIn_app (goodIn_of _ (by decide +kernel)) ggX4_longest_X4_refuseWrongAsk
set_option maxRecDepth 20000 in
theorem ggX4_longest_X4_findParts : GoodIn wsX4_longest wsX4_findParts := goodIn_r _ [13, 2, 14, 1, 15, 16, 17, 6, 18, 19, 20, 21, 22, 23, 24, 25, 26, 27, 28, 29, 30, 31, 32, 33, 34, 35, 36, 37, 38, 39, 40, 41, 42, 43, 44, 45, 46, 47, 48, 49, 50, 51, 52, 53, 54, 55, 56, 57, 58, 59, 60, 61, 62, 63, 64, 65, 66, 67, 68, 69, 70, 71, 72, 73, 74, 75, 76, 77, 78, 79, 80, 81, 82, 83, 84, 85, 86, 87, 88, 89, 90, 91, 92, 93, 94, 95, 96, 97, 98, 99, 100, 101, 102, 103, 104, 105, 106, 107, 108, 109, 110, 129, 130, 131, 132, 133, 134, 148, 149, 150, 151, 152, 153, 154, 155, 156, 157, 158, 135, 136, 137, 138, 139, 140, 141, 142, 143, 144, 145, 146, 147, 159, 160, 161, 162, 163, 164, 165, 166, 167] (by decide +kernel) (by decide +kernel)
set_option maxRecDepth 20000 in
theorem gX4_longest_X4_findParts : GoodIn wsX4_longest (wsV RX4 125 RX4 yX4_findParts wsX4_findParts) := goodIn_app (goodIn_of _ (by decide +kernel)) ggX4_longest_X4_findParts
set_option maxRecDepth 20000 in
theorem ggX4_longest_X3_largestSize : GoodIn wsX4_longest wsX3_largestSize := goodIn_r _ [114, 93, 90, 163, 164, 165, 166, 167] (by decide +kernel) (by decide +kernel)
set_option maxRecDepth 20000 in
theorem gX4_longest_X3_largestSize : GoodIn wsX4_longest (wsV RX4 128 RX3 yX3_largestSize wsX3_largestSize) := goodIn_app (goodIn_of _ (by decide +kernel)) ggX4_longest_X3_largestSize
set_option maxRecDepth 20000 in
theorem ggX4_longest_X4_fillRanks : GoodIn wsX4_longest wsX4_fillRanks := goodIn_r _ [118, 2, 119, 120, 121, 122, 123, 124, 6, 125, 14, 126, 127, 128, 21, 129, 130, 131, 132, 133, 134, 135, 136, 137, 138, 139, 140, 141, 142, 143, 144, 145, 146, 147, 148, 149, 150, 151, 152, 153, 154, 155, 156, 157, 158] (by decide +kernel) (by decide +kernel)
set_option maxRecDepth 20000 in
theorem gX4_longest_X4_fillRanks : GoodIn wsX4_longest (wsV RX4 131 RX4 yX4_fillRanks wsX4_fillRanks) := goodIn_app (goodIn_of _ (by decide +kernel)) ggX4_longest_X4_fillRanks
theorem dX4_longest_0 : decode cX4_longest 0 = .ok (.iload_n 1, 1) := by decide +kernel
theorem dX4_longest_1 : decode cX4_longest 1 = .ok (.invokestatic 96, 3) := by decide +kernel
theorem dX4_longest_4 : decode cX4_longest 4 = .ok (.aload_n 0, 1) := by decide +kernel
theorem dX4_longest_5 : decode cX4_longest 5 = .ok (.iload_n 1, 1) := by decide +kernel
theorem dX4_longest_6 : decode cX4_longest 6 = .ok (.invokevirtual 125, 3) := by decide +kernel
theorem dX4_longest_9 : decode cX4_longest 9 = .ok (.aload_n 0, 1) := by decide +kernel
theorem dX4_longest_10 : decode cX4_longest 10 = .ok (.getfield 37, 3) := by decide +kernel
theorem dX4_longest_13 : decode cX4_longest 13 = .ok (.aload_n 0, 1) := by decide +kernel
theorem dX4_longest_14 : decode cX4_longest 14 = .ok (.getfield 30, 3) := by decide +kernel
theorem dX4_longest_17 : decode cX4_longest 17 = .ok (.getfield 106, 3) := by decide +kernel
theorem dX4_longest_20 : decode cX4_longest 20 = .ok (.invokevirtual 128, 3) := by decide +kernel
theorem dX4_longest_23 : decode cX4_longest 23 = .ok (.ifCond .le 5, 3) := by decide +kernel
theorem dX4_longest_26 : decode cX4_longest 26 = .ok (.iconst (-1), 1) := by decide +kernel
theorem dX4_longest_27 : decode cX4_longest 27 = .ok (.ireturn, 1) := by decide +kernel
theorem dX4_longest_28 : decode cX4_longest 28 = .ok (.aload_n 0, 1) := by decide +kernel
theorem dX4_longest_29 : decode cX4_longest 29 = .ok (.invokevirtual 131, 3) := by decide +kernel
theorem dX4_longest_32 : decode cX4_longest 32 = .ok (.ireturn, 1) := by decide +kernel
set_option maxRecDepth 20000 in
theorem ggX4_rank_X4_refuseWrongAsk : GoodIn wsX4_rank wsX4_refuseWrongAsk := goodIn_ca (goodIn_r _ [9, 10, 11] (by decide +kernel) (by decide +kernel)) (goodIn_sub (fun _ h => List.mem_cons_of_mem _ (List.mem_append_left _ (List.mem_append_right _ h))) (by decide +kernel))
set_option maxRecDepth 20000 in
theorem gX4_rank_X4_refuseWrongAsk : GoodIn wsX4_rank (va_wsS RX4 96 yX4_refuseWrongAsk wsX4_refuseWrongAsk) := goodIn_app (goodIn_of _ (by decide +kernel)) ggX4_rank_X4_refuseWrongAsk
set_option maxRecDepth 20000 in
theorem ggX4_rank_X4_refuseWrongState : GoodIn wsX4_rank wsX4_refuseWrongState := goodIn_ca (goodIn_r _ [15, 16, 17, 18, 19, 20, 21, 22, 23, 24, 141, 142, 143, 144, 145, 146, 160, 161, 162, 163, 164, 165, 166, 167, 168, 169, 170] (by decide +kernel) (by decide +kernel)) (goodIn_sub (fun _ h => List.mem_cons_of_mem _ (List.mem_append_right _ h)) (by decide +kernel))
set_option maxRecDepth 20000 in
theorem gX4_rank_X4_refuseWrongState : GoodIn wsX4_rank (wsV RX4 135 RX4 yX4_refuseWrongState wsX4_refuseWrongState) := goodIn_app (goodIn_of _ (by decide +kernel)) ggX4_rank_X4_refuseWrongState
set_option maxRecDepth 20000 in
theorem ggX4_rank_X4_findParts : GoodIn wsX4_rank wsX4_findParts := goodIn_r _ [28, 1, 18, 3, 29, 30, 31, 8, 32, 33, 34, 2, 35, 36, 37, 38, 39, 40, 41, 42, 43, 44, 45, 46, 47, 48, 49, 50, 51, 52, 53, 54, 55, 56, 57, 58, 59, 60, 61, 62, 63, 64, 65, 66, 67, 68, 69, 70, 71, 72, 73, 74, 75, 76, 77, 78, 79, 80, 81, 82, 83, 84, 85, 86, 87, 88, 89, 90, 91, 92, 93, 94, 95, 96, 97, 98, 99, 100, 101, 102, 103, 104, 105, 106, 107, 108, 109, 110, 111, 112, 113, 114, 115, 116, 117, 118, 119, 120, 121, 122, 123, 141, 142, 143, 144, 145, 146, 160, 161, 162, 163, 164, 165, 166, 167, 168, 169, 170, 147, 148, 149, 150, 151, 152, 153, 154, 155, 156, 157, 158, 159, 171, 172, 173, 174, 175, 176, 177, 178, 179] (by decide +kernel) (by decide +kernel)
set_option maxRecDepth 20000 in
theorem gX4_rank_X4_findParts : GoodIn wsX4_rank (wsV RX4 125 RX4 yX4_findParts wsX4_findParts) := goodIn_app (goodIn_of _ (by decide +kernel)) ggX4_rank_X4_findParts
set_option maxRecDepth 20000 in
theorem ggX4_rank_X3_largestSize : GoodIn wsX4_rank wsX3_largestSize := goodIn_r _ [127, 106, 103, 175, 176, 177, 178, 179] (by decide +kernel) (by decide +kernel)
set_option maxRecDepth 20000 in
theorem gX4_rank_X3_largestSize : GoodIn wsX4_rank (wsV RX4 128 RX3 yX3_largestSize wsX3_largestSize) := goodIn_app (goodIn_of _ (by decide +kernel)) ggX4_rank_X3_largestSize
set_option maxRecDepth 20000 in
theorem ggX4_rank_X4_fillRanks : GoodIn wsX4_rank wsX4_fillRanks := goodIn_r _ [131, 1, 132, 133, 5, 134, 135, 136, 8, 137, 18, 138, 139, 140, 2, 141, 142, 143, 144, 145, 146, 147, 148, 149, 150, 151, 152, 153, 154, 155, 156, 157, 158, 159, 160, 161, 162, 163, 164, 165, 166, 167, 168, 169, 170] (by decide +kernel) (by decide +kernel)
set_option maxRecDepth 20000 in
theorem gX4_rank_X4_fillRanks : GoodIn wsX4_rank (wsV RX4 131 RX4 yX4_fillRanks wsX4_fillRanks) := goodIn_app (goodIn_of _ (by decide +kernel)) ggX4_rank_X4_fillRanks
theorem dX4_rank_0 : decode cX4_rank 0 = .ok (.iload_n 1, 1) := by decide +kernel
theorem dX4_rank_1 : decode cX4_rank 1 = .ok (.invokestatic 96, 3) := by decide +kernel
theorem dX4_rank_4 : decode cX4_rank 4 = .ok (.aload_n 0, 1) := by decide +kernel
theorem dX4_rank_5 : decode cX4_rank 5 = .ok (.iload_n 2, 1) := by decide +kernel
theorem dX4_rank_6 : decode cX4_rank 6 = .ok (.invokevirtual 135, 3) := by decide +kernel
theorem dX4_rank_9 : decode cX4_rank 9 = .ok (.aload_n 0, 1) := by decide +kernel
theorem dX4_rank_10 : decode cX4_rank 10 = .ok (.iload_n 1, 1) := by decide +kernel
theorem dX4_rank_11 : decode cX4_rank 11 = .ok (.invokevirtual 125, 3) := by decide +kernel
theorem dX4_rank_14 : decode cX4_rank 14 = .ok (.aload_n 0, 1) := by decide +kernel
theorem dX4_rank_15 : decode cX4_rank 15 = .ok (.getfield 30, 3) := by decide +kernel
theorem dX4_rank_18 : decode cX4_rank 18 = .ok (.getfield 138, 3) := by decide +kernel
theorem dX4_rank_21 : decode cX4_rank 21 = .ok (.iload_n 2, 1) := by decide +kernel
theorem dX4_rank_22 : decode cX4_rank 22 = .ok (.baload, 1) := by decide +kernel
theorem dX4_rank_23 : decode cX4_rank 23 = .ok (.ifCond .eq 20, 3) := by decide +kernel
theorem dX4_rank_26 : decode cX4_rank 26 = .ok (.aload_n 0, 1) := by decide +kernel
theorem dX4_rank_27 : decode cX4_rank 27 = .ok (.getfield 37, 3) := by decide +kernel
theorem dX4_rank_30 : decode cX4_rank 30 = .ok (.aload_n 0, 1) := by decide +kernel
theorem dX4_rank_31 : decode cX4_rank 31 = .ok (.getfield 30, 3) := by decide +kernel
theorem dX4_rank_34 : decode cX4_rank 34 = .ok (.getfield 106, 3) := by decide +kernel
theorem dX4_rank_37 : decode cX4_rank 37 = .ok (.invokevirtual 128, 3) := by decide +kernel
theorem dX4_rank_40 : decode cX4_rank 40 = .ok (.ifCond .le 5, 3) := by decide +kernel
theorem dX4_rank_43 : decode cX4_rank 43 = .ok (.iconst (-1), 1) := by decide +kernel
theorem dX4_rank_44 : decode cX4_rank 44 = .ok (.ireturn, 1) := by decide +kernel
theorem dX4_rank_45 : decode cX4_rank 45 = .ok (.aload_n 0, 1) := by decide +kernel
theorem dX4_rank_46 : decode cX4_rank 46 = .ok (.invokevirtual 131, 3) := by decide +kernel
theorem dX4_rank_49 : decode cX4_rank 49 = .ok (.pop, 1) := by decide +kernel
theorem dX4_rank_50 : decode cX4_rank 50 = .ok (.aload_n 0, 1) := by decide +kernel
theorem dX4_rank_51 : decode cX4_rank 51 = .ok (.getfield 41, 3) := by decide +kernel
theorem dX4_rank_54 : decode cX4_rank 54 = .ok (.iload_n 2, 1) := by decide +kernel
theorem dX4_rank_55 : decode cX4_rank 55 = .ok (.iaload, 1) := by decide +kernel
theorem dX4_rank_56 : decode cX4_rank 56 = .ok (.ireturn, 1) := by decide +kernel
set_option maxRecDepth 20000 in
theorem ggX4_row_X4_refuseWrongState : GoodIn wsX4_row wsX4_refuseWrongState := goodIn_ca (goodIn_r _ [9, 1, 2, 4, 10, 11, 12, 13, 14, 15, 38, 39, 40, 41, 42, 43, 44, 45, 46, 47, 48, 49, 50, 51, 52, 53, 54] (by decide +kernel) (by decide +kernel)) (goodIn_sub (fun _ h => List.mem_cons_of_mem _ (List.mem_append_right _ h)) (by decide +kernel))
set_option maxRecDepth 20000 in
theorem gX4_row_X4_refuseWrongState : GoodIn wsX4_row (wsV RX4 135 RX4 yX4_refuseWrongState wsX4_refuseWrongState) := goodIn_app (goodIn_of _ (by decide +kernel)) ggX4_row_X4_refuseWrongState
set_option maxRecDepth 20000 in
theorem ggX4_row_X2_walk : GoodIn wsX4_row wsX2_walk := goodIn_r _ [20, 21, 22, 23, 24, 25, 26, 27, 28, 29, 30, 19, 31, 32, 44, 45, 46, 47, 48, 49, 50, 51, 52, 53, 54, 55, 56, 57, 58] (by decide +kernel) (by decide +kernel)
set_option maxRecDepth 20000 in
theorem gX4_row_X2_walk : GoodIn wsX4_row (wsV RX4 89 RX2 yX2_walk wsX2_walk) := goodIn_app (goodIn_of _ (by decide +kernel)) ggX4_row_X2_walk
set_option maxRecDepth 20000 in
theorem ggX4_row_X2_moveOnWayTo : GoodIn wsX4_row wsX2_moveOnWayTo := goodIn_r _ [36, 22, 37, 32, 55, 56, 57, 58, 44, 45, 46, 47, 48, 49, 50, 51, 52, 53, 54] (by decide +kernel) (by decide +kernel)
set_option maxRecDepth 20000 in
theorem gX4_row_X2_moveOnWayTo : GoodIn wsX4_row (wsV RX4 144 RX2 yX2_moveOnWayTo wsX2_moveOnWayTo) := goodIn_app (goodIn_of _ (by decide +kernel)) ggX4_row_X2_moveOnWayTo
theorem dX4_row_0 : decode cX4_row 0 = .ok (.aload_n 0, 1) := by decide +kernel
theorem dX4_row_1 : decode cX4_row 1 = .ok (.iload_n 1, 1) := by decide +kernel
theorem dX4_row_2 : decode cX4_row 2 = .ok (.invokevirtual 135, 3) := by decide +kernel
theorem dX4_row_5 : decode cX4_row 5 = .ok (.iload_n 2, 1) := by decide +kernel
theorem dX4_row_6 : decode cX4_row 6 = .ok (.ifCond .ge 13, 3) := by decide +kernel
theorem dX4_row_9 : decode cX4_row 9 = .ok (.new 84, 3) := by decide +kernel
theorem dX4_row_12 : decode cX4_row 12 = .ok (.dup, 1) := by decide +kernel
theorem dX4_row_13 : decode cX4_row 13 = .ok (.ldc 142, 2) := by decide +kernel
theorem dX4_row_15 : decode cX4_row 15 = .ok (.invokespecial 86, 3) := by decide +kernel
theorem dX4_row_18 : decode cX4_row 18 = .ok (.athrow, 1) := by decide +kernel
theorem dX4_row_19 : decode cX4_row 19 = .ok (.aload_n 0, 1) := by decide +kernel
theorem dX4_row_20 : decode cX4_row 20 = .ok (.getfield 23, 3) := by decide +kernel
theorem dX4_row_23 : decode cX4_row 23 = .ok (.aload_n 0, 1) := by decide +kernel
theorem dX4_row_24 : decode cX4_row 24 = .ok (.getfield 10, 3) := by decide +kernel
theorem dX4_row_27 : decode cX4_row 27 = .ok (.invokevirtual 89, 3) := by decide +kernel
theorem dX4_row_30 : decode cX4_row 30 = .ok (.aload_n 0, 1) := by decide +kernel
theorem dX4_row_31 : decode cX4_row 31 = .ok (.getfield 23, 3) := by decide +kernel
theorem dX4_row_34 : decode cX4_row 34 = .ok (.aload_n 0, 1) := by decide +kernel
theorem dX4_row_35 : decode cX4_row 35 = .ok (.getfield 10, 3) := by decide +kernel
theorem dX4_row_38 : decode cX4_row 38 = .ok (.iload_n 1, 1) := by decide +kernel
theorem dX4_row_39 : decode cX4_row 39 = .ok (.iload_n 2, 1) := by decide +kernel
theorem dX4_row_40 : decode cX4_row 40 = .ok (.invokevirtual 144, 3) := by decide +kernel
theorem dX4_row_43 : decode cX4_row 43 = .ok (.ireturn, 1) := by decide +kernel
set_option maxRecDepth 20000 in
theorem ggX4_largest_X4_refuseWrongAsk : GoodIn wsX4_largest wsX4_refuseWrongAsk := goodIn_ca (goodIn_r _ [7, 8, 9] (by decide +kernel) (by decide +kernel)) (goodIn_sub (fun _ h => List.mem_cons_of_mem _ (List.mem_append_right _ h)) (by decide +kernel))
set_option maxRecDepth 20000 in
theorem gX4_largest_X4_refuseWrongAsk : GoodIn wsX4_largest (va_wsS RX4 96 yX4_refuseWrongAsk wsX4_refuseWrongAsk) := goodIn_app (goodIn_of _ (by decide +kernel)) ggX4_largest_X4_refuseWrongAsk
set_option maxRecDepth 20000 in
theorem ggX4_largest_X4_findParts : GoodIn wsX4_largest wsX4_findParts := goodIn_r _ [13, 2, 14, 1, 15, 16, 17, 6, 18, 19, 20, 21, 22, 23, 24, 25, 26, 27, 28, 29, 30, 31, 32, 33, 34, 35, 36, 37, 38, 39, 40, 41, 42, 43, 44, 45, 46, 47, 48, 49, 50, 51, 52, 53, 54, 55, 56, 57, 58, 59, 60, 61, 62, 63, 64, 65, 66, 67, 68, 69, 70, 71, 72, 73, 74, 75, 76, 77, 78, 79, 80, 81, 82, 83, 84, 85, 86, 87, 88, 89, 90, 91, 92, 93, 94, 95, 96, 97, 98, 99, 100, 101, 102, 103, 104, 105, 106, 107, 108, 109, 110, 115, 116, 117, 118, 119, 120, 134, 135, 136, 137, 138, 139, 140, 141, 142, 143, 144, 121, 122, 123, 124, 125, 126, 127, 128, 129, 130, 131, 132, 133, 145, 146, 147, 148, 149, 150, 151, 152, 153] (by decide +kernel) (by decide +kernel)
set_option maxRecDepth 20000 in
theorem gX4_largest_X4_findParts : GoodIn wsX4_largest (wsV RX4 125 RX4 yX4_findParts wsX4_findParts) := goodIn_app (goodIn_of _ (by decide +kernel)) ggX4_largest_X4_findParts
set_option maxRecDepth 20000 in
theorem ggX4_largest_X3_largestSize : GoodIn wsX4_largest wsX3_largestSize := goodIn_r _ [114, 93, 90, 149, 150, 151, 152, 153] (by decide +kernel) (by decide +kernel)
set_option maxRecDepth 20000 in
theorem gX4_largest_X3_largestSize : GoodIn wsX4_largest (wsV RX4 128 RX3 yX3_largestSize wsX3_largestSize) := goodIn_app (goodIn_of _ (by decide +kernel)) ggX4_largest_X3_largestSize
theorem dX4_largest_0 : decode cX4_largest 0 = .ok (.iload_n 1, 1) := by decide +kernel
theorem dX4_largest_1 : decode cX4_largest 1 = .ok (.invokestatic 96, 3) := by decide +kernel
theorem dX4_largest_4 : decode cX4_largest 4 = .ok (.aload_n 0, 1) := by decide +kernel
theorem dX4_largest_5 : decode cX4_largest 5 = .ok (.iload_n 1, 1) := by decide +kernel
theorem dX4_largest_6 : decode cX4_largest 6 = .ok (.invokevirtual 125, 3) := by decide +kernel
theorem dX4_largest_9 : decode cX4_largest 9 = .ok (.aload_n 0, 1) := by decide +kernel
theorem dX4_largest_10 : decode cX4_largest 10 = .ok (.getfield 37, 3) := by decide +kernel
theorem dX4_largest_13 : decode cX4_largest 13 = .ok (.aload_n 0, 1) := by decide +kernel
theorem dX4_largest_14 : decode cX4_largest 14 = .ok (.getfield 30, 3) := by decide +kernel
theorem dX4_largest_17 : decode cX4_largest 17 = .ok (.getfield 106, 3) := by decide +kernel
theorem dX4_largest_20 : decode cX4_largest 20 = .ok (.invokevirtual 128, 3) := by decide +kernel
theorem dX4_largest_23 : decode cX4_largest 23 = .ok (.ireturn, 1) := by decide +kernel
set_option maxRecDepth 20000 in
theorem ggX4_count_X4_labelsOfKind : GoodIn wsX4_count wsX4_labelsOfKind := goodIn_r _ [9, 10, 152, 153, 154, 155, 156, 157] (by decide +kernel) (by decide +kernel)
set_option maxRecDepth 20000 in
theorem gX4_count_X4_labelsOfKind : GoodIn wsX4_count (wsV RX4 151 RX4 yX4_labelsOfKind wsX4_labelsOfKind) := goodIn_app (goodIn_of _ (by decide +kernel)) ggX4_count_X4_labelsOfKind
set_option maxRecDepth 20000 in
theorem ggX4_count_J6_bitCount_0f7a4 : GoodIn wsX4_count wsJ6_bitCount_0f7a4 := goodIn_r _ [14, 15, 16, 17] (by decide +kernel) (by decide +kernel)
set_option maxRecDepth 20000 in
theorem gX4_count_J6_bitCount_0f7a4 : GoodIn wsX4_count (va_wsS RX4 154 yJ6_bitCount_0f7a4 wsJ6_bitCount_0f7a4) := goodIn_app (goodIn_of _ (by decide +kernel)) ggX4_count_J6_bitCount_0f7a4
set_option maxRecDepth 20000 in
theorem ggX4_count_X4_liveAsks : GoodIn wsX4_count wsX4_liveAsks := goodIn_r _ [21, 22, 23, 24, 8, 25, 26, 27, 28, 29, 30, 31, 32, 1, 2, 33, 34, 35, 36, 37, 38, 39, 40, 41, 42, 43, 44, 45, 46, 47, 48, 49, 50, 51, 52, 53, 54, 55, 56, 57, 58, 59, 60, 61, 62, 63, 64, 65, 66, 67, 68, 5, 6, 7, 9, 10, 69, 70, 71, 72, 73, 74, 75, 76, 77, 78, 79, 80, 81, 82, 83, 84, 85, 86, 87, 88, 89, 90, 91, 92, 93, 94, 95, 96, 97, 98, 99, 100, 101, 102, 103, 104, 105, 106, 107, 108, 109, 110, 111, 112, 113, 114, 115, 116, 117, 118, 119, 120, 121, 122, 123, 124, 125, 126, 127, 128, 129, 130, 131, 132, 133, 134, 135, 136, 137, 138, 139, 140, 141, 142, 143, 144, 145, 146, 147, 148, 149, 150, 151, 152, 153, 154, 155, 156, 157, 169, 170, 171, 172, 173, 174, 175, 176, 177, 178, 179, 180, 181, 158, 159, 160, 161, 162, 163, 164, 165, 166, 167, 168, 182, 183, 184, 185, 186, 187, 188, 189, 190] (by decide +kernel) (by decide +kernel)
set_option maxRecDepth 20000 in
theorem gX4_count_X4_liveAsks : GoodIn wsX4_count (wsV RX4 159 RX4 yX4_liveAsks wsX4_liveAsks) := goodIn_app (goodIn_of _ (by decide +kernel)) ggX4_count_X4_liveAsks
theorem dX4_count_0 : decode cX4_count 0 = .ok (.iload_n 1, 1) := by decide +kernel
theorem dX4_count_1 : decode cX4_count 1 = .ok (.tableswitch 86 0 5 #[39, 47, 55, 63, 72, 81], 39) := by decide +kernel
theorem dX4_count_40 : decode cX4_count 40 = .ok (.aload_n 0, 1) := by decide +kernel
theorem dX4_count_41 : decode cX4_count 41 = .ok (.getfield 10, 3) := by decide +kernel
theorem dX4_count_44 : decode cX4_count 44 = .ok (.getfield 51, 3) := by decide +kernel
theorem dX4_count_47 : decode cX4_count 47 = .ok (.ireturn, 1) := by decide +kernel
theorem dX4_count_48 : decode cX4_count 48 = .ok (.aload_n 0, 1) := by decide +kernel
theorem dX4_count_49 : decode cX4_count 49 = .ok (.getfield 10, 3) := by decide +kernel
theorem dX4_count_52 : decode cX4_count 52 = .ok (.getfield 75, 3) := by decide +kernel
theorem dX4_count_55 : decode cX4_count 55 = .ok (.ireturn, 1) := by decide +kernel
theorem dX4_count_56 : decode cX4_count 56 = .ok (.aload_n 0, 1) := by decide +kernel
theorem dX4_count_57 : decode cX4_count 57 = .ok (.getfield 10, 3) := by decide +kernel
theorem dX4_count_60 : decode cX4_count 60 = .ok (.getfield 148, 3) := by decide +kernel
theorem dX4_count_63 : decode cX4_count 63 = .ok (.ireturn, 1) := by decide +kernel
theorem dX4_count_64 : decode cX4_count 64 = .ok (.aload_n 0, 1) := by decide +kernel
theorem dX4_count_65 : decode cX4_count 65 = .ok (.iconst 1, 1) := by decide +kernel
theorem dX4_count_66 : decode cX4_count 66 = .ok (.invokevirtual 151, 3) := by decide +kernel
theorem dX4_count_69 : decode cX4_count 69 = .ok (.invokestatic 154, 3) := by decide +kernel
theorem dX4_count_72 : decode cX4_count 72 = .ok (.ireturn, 1) := by decide +kernel
theorem dX4_count_73 : decode cX4_count 73 = .ok (.aload_n 0, 1) := by decide +kernel
theorem dX4_count_74 : decode cX4_count 74 = .ok (.iconst 2, 1) := by decide +kernel
theorem dX4_count_75 : decode cX4_count 75 = .ok (.invokevirtual 151, 3) := by decide +kernel
theorem dX4_count_78 : decode cX4_count 78 = .ok (.invokestatic 154, 3) := by decide +kernel
theorem dX4_count_81 : decode cX4_count 81 = .ok (.ireturn, 1) := by decide +kernel
theorem dX4_count_82 : decode cX4_count 82 = .ok (.aload_n 0, 1) := by decide +kernel
theorem dX4_count_83 : decode cX4_count 83 = .ok (.invokevirtual 159, 3) := by decide +kernel
theorem dX4_count_86 : decode cX4_count 86 = .ok (.ireturn, 1) := by decide +kernel
theorem dX4_count_87 : decode cX4_count 87 = .ok (.iconst (-1), 1) := by decide +kernel
theorem dX4_count_88 : decode cX4_count 88 = .ok (.ireturn, 1) := by decide +kernel
theorem dX4_refuseWrongAsk_0 : decode cX4_refuseWrongAsk 0 = .ok (.iload_n 0, 1) := by decide +kernel
theorem dX4_refuseWrongAsk_1 : decode cX4_refuseWrongAsk 1 = .ok (.ifCond .lt 9, 3) := by decide +kernel
theorem dX4_refuseWrongAsk_4 : decode cX4_refuseWrongAsk 4 = .ok (.iload_n 0, 1) := by decide +kernel
theorem dX4_refuseWrongAsk_5 : decode cX4_refuseWrongAsk 5 = .ok (.bipush 8, 2) := by decide +kernel
theorem dX4_refuseWrongAsk_7 : decode cX4_refuseWrongAsk 7 = .ok (.if_icmp .lt 13, 3) := by decide +kernel
theorem dX4_refuseWrongAsk_10 : decode cX4_refuseWrongAsk 10 = .ok (.new 44, 3) := by decide +kernel
theorem dX4_refuseWrongAsk_13 : decode cX4_refuseWrongAsk 13 = .ok (.dup, 1) := by decide +kernel
theorem dX4_refuseWrongAsk_14 : decode cX4_refuseWrongAsk 14 = .ok (.ldc 162, 2) := by decide +kernel
theorem dX4_refuseWrongAsk_16 : decode cX4_refuseWrongAsk 16 = .ok (.invokespecial 48, 3) := by decide +kernel
theorem dX4_refuseWrongAsk_19 : decode cX4_refuseWrongAsk 19 = .ok (.athrow, 1) := by decide +kernel
theorem dX4_refuseWrongAsk_20 : decode cX4_refuseWrongAsk 20 = .ok (.return_, 1) := by decide +kernel
set_option maxRecDepth 20000 in
theorem ggX4_refuseWrongState_X0_hasState : GoodIn wsX4_refuseWrongState wsX0_hasState := goodIn_r _ [8, 9, 16, 17, 18, 19, 20, 21, 22, 23, 24, 25, 26] (by decide +kernel) (by decide +kernel)
set_option maxRecDepth 20000 in
theorem gX4_refuseWrongState_X0_hasState : GoodIn wsX4_refuseWrongState (wsV RX4 64 RX0 yX0_hasState wsX0_hasState) := goodIn_app (goodIn_of _ (by decide +kernel)) ggX4_refuseWrongState_X0_hasState
theorem dX4_refuseWrongState_0 : decode cX4_refuseWrongState 0 = .ok (.aload_n 0, 1) := by decide +kernel
theorem dX4_refuseWrongState_1 : decode cX4_refuseWrongState 1 = .ok (.getfield 10, 3) := by decide +kernel
theorem dX4_refuseWrongState_4 : decode cX4_refuseWrongState 4 = .ok (.iload_n 1, 1) := by decide +kernel
theorem dX4_refuseWrongState_5 : decode cX4_refuseWrongState 5 = .ok (.invokevirtual 64, 3) := by decide +kernel
theorem dX4_refuseWrongState_8 : decode cX4_refuseWrongState 8 = .ok (.ifCond .ne 13, 3) := by decide +kernel
theorem dX4_refuseWrongState_11 : decode cX4_refuseWrongState 11 = .ok (.new 84, 3) := by decide +kernel
theorem dX4_refuseWrongState_14 : decode cX4_refuseWrongState 14 = .ok (.dup, 1) := by decide +kernel
theorem dX4_refuseWrongState_15 : decode cX4_refuseWrongState 15 = .ok (.ldc 68, 2) := by decide +kernel
theorem dX4_refuseWrongState_17 : decode cX4_refuseWrongState 17 = .ok (.invokespecial 86, 3) := by decide +kernel
theorem dX4_refuseWrongState_20 : decode cX4_refuseWrongState 20 = .ok (.athrow, 1) := by decide +kernel
theorem dX4_refuseWrongState_21 : decode cX4_refuseWrongState 21 = .ok (.return_, 1) := by decide +kernel
theorem dX4_isLabel_0 : decode cX4_isLabel 0 = .ok (.iload_n 0, 1) := by decide +kernel
theorem dX4_isLabel_1 : decode cX4_isLabel 1 = .ok (.ifCond .lt 13, 3) := by decide +kernel
theorem dX4_isLabel_4 : decode cX4_isLabel 4 = .ok (.iload_n 0, 1) := by decide +kernel
theorem dX4_isLabel_5 : decode cX4_isLabel 5 = .ok (.bipush 16, 2) := by decide +kernel
theorem dX4_isLabel_7 : decode cX4_isLabel 7 = .ok (.if_icmp .ge 7, 3) := by decide +kernel
theorem dX4_isLabel_10 : decode cX4_isLabel 10 = .ok (.iconst 1, 1) := by decide +kernel
theorem dX4_isLabel_11 : decode cX4_isLabel 11 = .ok (.goto 4, 3) := by decide +kernel
theorem dX4_isLabel_14 : decode cX4_isLabel 14 = .ok (.iconst 0, 1) := by decide +kernel
theorem dX4_isLabel_15 : decode cX4_isLabel 15 = .ok (.ireturn, 1) := by decide +kernel
theorem dX4_labelsOfKind_0 : decode cX4_labelsOfKind 0 = .ok (.iconst 0, 1) := by decide +kernel
theorem dX4_labelsOfKind_1 : decode cX4_labelsOfKind 1 = .ok (.istore_n 2, 1) := by decide +kernel
theorem dX4_labelsOfKind_2 : decode cX4_labelsOfKind 2 = .ok (.iconst 0, 1) := by decide +kernel
theorem dX4_labelsOfKind_3 : decode cX4_labelsOfKind 3 = .ok (.istore_n 3, 1) := by decide +kernel
theorem dX4_labelsOfKind_4 : decode cX4_labelsOfKind 4 = .ok (.iload_n 3, 1) := by decide +kernel
theorem dX4_labelsOfKind_5 : decode cX4_labelsOfKind 5 = .ok (.bipush 16, 2) := by decide +kernel
theorem dX4_labelsOfKind_7 : decode cX4_labelsOfKind 7 = .ok (.if_icmp .ge 25, 3) := by decide +kernel
theorem dX4_labelsOfKind_10 : decode cX4_labelsOfKind 10 = .ok (.aload_n 0, 1) := by decide +kernel
theorem dX4_labelsOfKind_11 : decode cX4_labelsOfKind 11 = .ok (.getfield 16, 3) := by decide +kernel
theorem dX4_labelsOfKind_14 : decode cX4_labelsOfKind 14 = .ok (.iload_n 3, 1) := by decide +kernel
theorem dX4_labelsOfKind_15 : decode cX4_labelsOfKind 15 = .ok (.iaload, 1) := by decide +kernel
theorem dX4_labelsOfKind_16 : decode cX4_labelsOfKind 16 = .ok (.iload_n 1, 1) := by decide +kernel
theorem dX4_labelsOfKind_17 : decode cX4_labelsOfKind 17 = .ok (.if_icmp .ne 9, 3) := by decide +kernel
theorem dX4_labelsOfKind_20 : decode cX4_labelsOfKind 20 = .ok (.iload_n 2, 1) := by decide +kernel
theorem dX4_labelsOfKind_21 : decode cX4_labelsOfKind 21 = .ok (.iconst 1, 1) := by decide +kernel
theorem dX4_labelsOfKind_22 : decode cX4_labelsOfKind 22 = .ok (.iload_n 3, 1) := by decide +kernel
theorem dX4_labelsOfKind_23 : decode cX4_labelsOfKind 23 = .ok (.ishl, 1) := by decide +kernel
theorem dX4_labelsOfKind_24 : decode cX4_labelsOfKind 24 = .ok (.ior, 1) := by decide +kernel
theorem dX4_labelsOfKind_25 : decode cX4_labelsOfKind 25 = .ok (.istore_n 2, 1) := by decide +kernel
theorem dX4_labelsOfKind_26 : decode cX4_labelsOfKind 26 = .ok (.iinc 3 1, 3) := by decide +kernel
theorem dX4_labelsOfKind_29 : decode cX4_labelsOfKind 29 = .ok (.goto (-25), 3) := by decide +kernel
theorem dX4_labelsOfKind_32 : decode cX4_labelsOfKind 32 = .ok (.iload_n 2, 1) := by decide +kernel
theorem dX4_labelsOfKind_33 : decode cX4_labelsOfKind 33 = .ok (.ireturn, 1) := by decide +kernel
set_option maxRecDepth 20000 in
theorem ggX4_liveAsks_X4_alwaysServed : GoodIn wsX4_liveAsks wsX4_alwaysServed := goodIn_r _ [5, 6, 7, 8, 9, 10, 4, 11, 12, 13, 14, 15, 16, 17, 18, 19, 20, 21, 22, 23, 24, 25, 26, 27, 28, 29, 30, 31, 32, 33, 34, 35, 36, 37, 38, 39, 40, 41, 42, 43, 44, 45, 46, 47, 48, 49, 50, 51, 52, 53, 54, 55, 56, 57, 58, 59, 60, 61, 62, 63, 64, 65, 66, 67, 68, 69, 70, 71, 72, 73, 74, 75, 76, 77, 78, 79, 80, 81, 82, 83, 84, 85, 86, 87, 88, 89, 90, 91, 92, 93, 94, 95, 96, 97, 98, 99, 100, 101, 102, 103, 104, 105, 106, 107, 108, 109, 110, 111, 112, 113, 114, 115, 116, 117, 118, 119, 120, 121, 122, 123, 124, 125, 126, 127, 128, 129, 130, 131, 132, 133, 134, 135, 136, 137, 138, 139, 140, 141, 142, 143, 144, 145, 146, 147, 148, 149, 150, 151, 152, 153, 154, 155, 156, 157, 158, 159, 160, 161, 162, 163, 164, 165, 166, 167, 168, 169, 170, 171, 172, 173, 174, 175, 176, 177] (by decide +kernel) (by decide +kernel)
set_option maxRecDepth 20000 in
theorem gX4_liveAsks_X4_alwaysServed : GoodIn wsX4_liveAsks (wsV RX4 100 RX4 yX4_alwaysServed wsX4_alwaysServed) := goodIn_app (goodIn_of _ (by decide +kernel)) ggX4_liveAsks_X4_alwaysServed
theorem dX4_liveAsks_0 : decode cX4_liveAsks 0 = .ok (.iconst 0, 1) := by decide +kernel
theorem dX4_liveAsks_1 : decode cX4_liveAsks 1 = .ok (.istore_n 1, 1) := by decide +kernel
theorem dX4_liveAsks_2 : decode cX4_liveAsks 2 = .ok (.iconst 0, 1) := by decide +kernel
theorem dX4_liveAsks_3 : decode cX4_liveAsks 3 = .ok (.istore_n 2, 1) := by decide +kernel
theorem dX4_liveAsks_4 : decode cX4_liveAsks 4 = .ok (.iload_n 2, 1) := by decide +kernel
theorem dX4_liveAsks_5 : decode cX4_liveAsks 5 = .ok (.bipush 8, 2) := by decide +kernel
theorem dX4_liveAsks_7 : decode cX4_liveAsks 7 = .ok (.if_icmp .ge 20, 3) := by decide +kernel
theorem dX4_liveAsks_10 : decode cX4_liveAsks 10 = .ok (.aload_n 0, 1) := by decide +kernel
theorem dX4_liveAsks_11 : decode cX4_liveAsks 11 = .ok (.iload_n 2, 1) := by decide +kernel
theorem dX4_liveAsks_12 : decode cX4_liveAsks 12 = .ok (.invokevirtual 100, 3) := by decide +kernel
theorem dX4_liveAsks_15 : decode cX4_liveAsks 15 = .ok (.ifCond .eq 6, 3) := by decide +kernel
theorem dX4_liveAsks_18 : decode cX4_liveAsks 18 = .ok (.iinc 1 1, 3) := by decide +kernel
theorem dX4_liveAsks_21 : decode cX4_liveAsks 21 = .ok (.iinc 2 1, 3) := by decide +kernel
theorem dX4_liveAsks_24 : decode cX4_liveAsks 24 = .ok (.goto (-20), 3) := by decide +kernel
theorem dX4_liveAsks_27 : decode cX4_liveAsks 27 = .ok (.iload_n 1, 1) := by decide +kernel
theorem dX4_liveAsks_28 : decode cX4_liveAsks 28 = .ok (.ireturn, 1) := by decide +kernel
set_option maxRecDepth 20000 in
theorem ggX4_alwaysServed_X4_chooseStatesOf : GoodIn wsX4_alwaysServed wsX4_chooseStatesOf := goodIn_r _ [7, 8, 9, 10, 1, 11, 12, 13, 14, 15, 16, 17, 18, 19, 20, 21, 22, 23, 24, 25, 26, 27, 28, 29, 30, 135, 136, 137, 138, 139, 140, 154, 155, 156, 157, 158, 159, 160, 161, 162, 163, 164, 141, 142, 143, 144, 145, 146, 147, 148, 149, 150, 151, 152, 153, 165, 166, 167, 168] (by decide +kernel) (by decide +kernel)
set_option maxRecDepth 20000 in
theorem gX4_alwaysServed_X4_chooseStatesOf : GoodIn wsX4_alwaysServed (wsV RX4 117 RX4 yX4_chooseStatesOf wsX4_chooseStatesOf) := goodIn_app (goodIn_of _ (by decide +kernel)) ggX4_alwaysServed_X4_chooseStatesOf
set_option maxRecDepth 20000 in
theorem ggX4_alwaysServed_X4_deadEnd : GoodIn wsX4_alwaysServed wsX4_deadEnd := goodIn_r _ [34, 9, 10, 1, 11, 35, 36, 37, 38, 39, 40, 41, 135, 136, 137, 138, 139, 140, 154, 155, 156, 157, 158, 159, 160, 161, 162, 163, 164, 141, 142, 143, 144, 145, 146, 147, 148, 149, 150, 151, 152, 153] (by decide +kernel) (by decide +kernel)
set_option maxRecDepth 20000 in
theorem gX4_alwaysServed_X4_deadEnd : GoodIn wsX4_alwaysServed (wsV RX4 120 RX4 yX4_deadEnd wsX4_deadEnd) := goodIn_app (goodIn_of _ (by decide +kernel)) ggX4_alwaysServed_X4_deadEnd
set_option maxRecDepth 20000 in
theorem ggX4_alwaysServed_X4_keepFairStates : GoodIn wsX4_alwaysServed wsX4_keepFairStates := goodIn_r _ [45, 9, 10, 1, 46, 47, 48, 49, 6, 50, 51, 52, 53, 54, 55, 56, 57, 58, 59, 60, 61, 62, 63, 64, 65, 66, 67, 68, 69, 70, 71, 72, 73, 74, 75, 76, 77, 78, 79, 80, 81, 82, 83, 84, 85, 86, 87, 88, 89, 90, 91, 92, 93, 94, 95, 96, 97, 98, 99, 100, 101, 102, 103, 104, 105, 106, 107, 108, 109, 110, 111, 112, 113, 114, 115, 116, 117, 118, 119, 120, 121, 122, 123, 124, 125, 11, 126, 127, 128, 129, 130, 131, 132, 133, 134, 135, 136, 137, 138, 139, 140, 154, 155, 156, 157, 158, 159, 160, 161, 162, 163, 164, 141, 142, 143, 144, 145, 146, 147, 148, 149, 150, 151, 152, 153, 169, 170, 171, 172, 173] (by decide +kernel) (by decide +kernel)
set_option maxRecDepth 20000 in
theorem gX4_alwaysServed_X4_keepFairStates : GoodIn wsX4_alwaysServed (wsV RX4 164 RX4 yX4_keepFairStates wsX4_keepFairStates) := goodIn_app (goodIn_of _ (by decide +kernel)) ggX4_alwaysServed_X4_keepFairStates
theorem dX4_alwaysServed_0 : decode cX4_alwaysServed 0 = .ok (.aload_n 0, 1) := by decide +kernel
theorem dX4_alwaysServed_1 : decode cX4_alwaysServed 1 = .ok (.iload_n 1, 1) := by decide +kernel
theorem dX4_alwaysServed_2 : decode cX4_alwaysServed 2 = .ok (.invokevirtual 117, 3) := by decide +kernel
theorem dX4_alwaysServed_5 : decode cX4_alwaysServed 5 = .ok (.aload_n 0, 1) := by decide +kernel
theorem dX4_alwaysServed_6 : decode cX4_alwaysServed 6 = .ok (.iconst 0, 1) := by decide +kernel
theorem dX4_alwaysServed_7 : decode cX4_alwaysServed 7 = .ok (.invokevirtual 120, 3) := by decide +kernel
theorem dX4_alwaysServed_10 : decode cX4_alwaysServed 10 = .ok (.iconst (-1), 1) := by decide +kernel
theorem dX4_alwaysServed_11 : decode cX4_alwaysServed 11 = .ok (.if_icmp .eq 5, 3) := by decide +kernel
theorem dX4_alwaysServed_14 : decode cX4_alwaysServed 14 = .ok (.iconst 0, 1) := by decide +kernel
theorem dX4_alwaysServed_15 : decode cX4_alwaysServed 15 = .ok (.ireturn, 1) := by decide +kernel
theorem dX4_alwaysServed_16 : decode cX4_alwaysServed 16 = .ok (.aload_n 0, 1) := by decide +kernel
theorem dX4_alwaysServed_17 : decode cX4_alwaysServed 17 = .ok (.invokevirtual 164, 3) := by decide +kernel
theorem dX4_alwaysServed_20 : decode cX4_alwaysServed 20 = .ok (.aload_n 0, 1) := by decide +kernel
theorem dX4_alwaysServed_21 : decode cX4_alwaysServed 21 = .ok (.getfield 30, 3) := by decide +kernel
theorem dX4_alwaysServed_24 : decode cX4_alwaysServed 24 = .ok (.getfield 106, 3) := by decide +kernel
theorem dX4_alwaysServed_27 : decode cX4_alwaysServed 27 = .ok (.ifCond .ne 7, 3) := by decide +kernel
theorem dX4_alwaysServed_30 : decode cX4_alwaysServed 30 = .ok (.iconst 1, 1) := by decide +kernel
theorem dX4_alwaysServed_31 : decode cX4_alwaysServed 31 = .ok (.goto 4, 3) := by decide +kernel
theorem dX4_alwaysServed_34 : decode cX4_alwaysServed 34 = .ok (.iconst 0, 1) := by decide +kernel
theorem dX4_alwaysServed_35 : decode cX4_alwaysServed 35 = .ok (.ireturn, 1) := by decide +kernel
set_option maxRecDepth 20000 in
theorem ggX4_chooseStatesOf_X2_walk : GoodIn wsX4_chooseStatesOf wsX2_walk := goodIn_r _ [12, 13, 14, 15, 16, 17, 18, 19, 20, 21, 22, 11, 23, 24, 31, 32, 33, 34, 35, 36, 37, 38, 39, 40, 41, 55, 56, 57, 58] (by decide +kernel) (by decide +kernel)
set_option maxRecDepth 20000 in
theorem gX4_chooseStatesOf_X2_walk : GoodIn wsX4_chooseStatesOf (wsV RX4 89 RX2 yX2_walk wsX2_walk) := goodIn_app (goodIn_of _ (by decide +kernel)) ggX4_chooseStatesOf_X2_walk
theorem dX4_chooseStatesOf_0 : decode cX4_chooseStatesOf 0 = .ok (.aload_n 0, 1) := by decide +kernel
theorem dX4_chooseStatesOf_1 : decode cX4_chooseStatesOf 1 = .ok (.getfield 23, 3) := by decide +kernel
theorem dX4_chooseStatesOf_4 : decode cX4_chooseStatesOf 4 = .ok (.aload_n 0, 1) := by decide +kernel
theorem dX4_chooseStatesOf_5 : decode cX4_chooseStatesOf 5 = .ok (.getfield 10, 3) := by decide +kernel
theorem dX4_chooseStatesOf_8 : decode cX4_chooseStatesOf 8 = .ok (.invokevirtual 89, 3) := by decide +kernel
theorem dX4_chooseStatesOf_11 : decode cX4_chooseStatesOf 11 = .ok (.iconst 0, 1) := by decide +kernel
theorem dX4_chooseStatesOf_12 : decode cX4_chooseStatesOf 12 = .ok (.istore_n 2, 1) := by decide +kernel
theorem dX4_chooseStatesOf_13 : decode cX4_chooseStatesOf 13 = .ok (.iload_n 2, 1) := by decide +kernel
theorem dX4_chooseStatesOf_14 : decode cX4_chooseStatesOf 14 = .ok (.aload_n 0, 1) := by decide +kernel
theorem dX4_chooseStatesOf_15 : decode cX4_chooseStatesOf 15 = .ok (.getfield 10, 3) := by decide +kernel
theorem dX4_chooseStatesOf_18 : decode cX4_chooseStatesOf 18 = .ok (.getfield 51, 3) := by decide +kernel
theorem dX4_chooseStatesOf_21 : decode cX4_chooseStatesOf 21 = .ok (.if_icmp .ge 53, 3) := by decide +kernel
theorem dX4_chooseStatesOf_24 : decode cX4_chooseStatesOf 24 = .ok (.aload_n 0, 1) := by decide +kernel
theorem dX4_chooseStatesOf_25 : decode cX4_chooseStatesOf 25 = .ok (.getfield 30, 3) := by decide +kernel
theorem dX4_chooseStatesOf_28 : decode cX4_chooseStatesOf 28 = .ok (.getfield 138, 3) := by decide +kernel
theorem dX4_chooseStatesOf_31 : decode cX4_chooseStatesOf 31 = .ok (.iload_n 2, 1) := by decide +kernel
theorem dX4_chooseStatesOf_32 : decode cX4_chooseStatesOf 32 = .ok (.aload_n 0, 1) := by decide +kernel
theorem dX4_chooseStatesOf_33 : decode cX4_chooseStatesOf 33 = .ok (.getfield 23, 3) := by decide +kernel
theorem dX4_chooseStatesOf_36 : decode cX4_chooseStatesOf 36 = .ok (.getfield 167, 3) := by decide +kernel
theorem dX4_chooseStatesOf_39 : decode cX4_chooseStatesOf 39 = .ok (.iload_n 2, 1) := by decide +kernel
theorem dX4_chooseStatesOf_40 : decode cX4_chooseStatesOf 40 = .ok (.iaload, 1) := by decide +kernel
theorem dX4_chooseStatesOf_41 : decode cX4_chooseStatesOf 41 = .ok (.iconst (-1), 1) := by decide +kernel
theorem dX4_chooseStatesOf_42 : decode cX4_chooseStatesOf 42 = .ok (.if_icmp .eq 24, 3) := by decide +kernel
theorem dX4_chooseStatesOf_45 : decode cX4_chooseStatesOf 45 = .ok (.aload_n 0, 1) := by decide +kernel
theorem dX4_chooseStatesOf_46 : decode cX4_chooseStatesOf 46 = .ok (.getfield 10, 3) := by decide +kernel
theorem dX4_chooseStatesOf_49 : decode cX4_chooseStatesOf 49 = .ok (.getfield 170, 3) := by decide +kernel
theorem dX4_chooseStatesOf_52 : decode cX4_chooseStatesOf 52 = .ok (.iload_n 2, 1) := by decide +kernel
theorem dX4_chooseStatesOf_53 : decode cX4_chooseStatesOf 53 = .ok (.iaload, 1) := by decide +kernel
theorem dX4_chooseStatesOf_54 : decode cX4_chooseStatesOf 54 = .ok (.iload_n 1, 1) := by decide +kernel
theorem dX4_chooseStatesOf_55 : decode cX4_chooseStatesOf 55 = .ok (.ishr, 1) := by decide +kernel
theorem dX4_chooseStatesOf_56 : decode cX4_chooseStatesOf 56 = .ok (.iconst 1, 1) := by decide +kernel
theorem dX4_chooseStatesOf_57 : decode cX4_chooseStatesOf 57 = .ok (.iand, 1) := by decide +kernel
theorem dX4_chooseStatesOf_58 : decode cX4_chooseStatesOf 58 = .ok (.iconst 1, 1) := by decide +kernel
theorem dX4_chooseStatesOf_59 : decode cX4_chooseStatesOf 59 = .ok (.if_icmp .ne 7, 3) := by decide +kernel
theorem dX4_chooseStatesOf_62 : decode cX4_chooseStatesOf 62 = .ok (.iconst 1, 1) := by decide +kernel
theorem dX4_chooseStatesOf_63 : decode cX4_chooseStatesOf 63 = .ok (.goto 4, 3) := by decide +kernel
theorem dX4_chooseStatesOf_66 : decode cX4_chooseStatesOf 66 = .ok (.iconst 0, 1) := by decide +kernel
theorem dX4_chooseStatesOf_67 : decode cX4_chooseStatesOf 67 = .ok (.bastore, 1) := by decide +kernel
theorem dX4_chooseStatesOf_68 : decode cX4_chooseStatesOf 68 = .ok (.iinc 2 1, 3) := by decide +kernel
theorem dX4_chooseStatesOf_71 : decode cX4_chooseStatesOf 71 = .ok (.goto (-58), 3) := by decide +kernel
theorem dX4_chooseStatesOf_74 : decode cX4_chooseStatesOf 74 = .ok (.return_, 1) := by decide +kernel
set_option maxRecDepth 20000 in
theorem ggX4_findParts_X4_chooseStatesOf : GoodIn wsX4_findParts wsX4_chooseStatesOf := goodIn_r _ [8, 9, 2, 10, 1, 11, 12, 13, 14, 15, 16, 17, 18, 19, 20, 21, 22, 23, 24, 25, 26, 27, 28, 29, 30, 101, 102, 103, 104, 105, 106, 107, 108, 109, 110, 111, 112, 113, 114, 115, 116, 117, 118, 119, 120, 121, 122, 123, 124, 125, 126, 127, 128, 129, 130, 131, 132, 133, 134] (by decide +kernel) (by decide +kernel)
set_option maxRecDepth 20000 in
theorem gX4_findParts_X4_chooseStatesOf : GoodIn wsX4_findParts (wsV RX4 117 RX4 yX4_chooseStatesOf wsX4_chooseStatesOf) := goodIn_app (goodIn_of _ (by decide +kernel)) ggX4_findParts_X4_chooseStatesOf
set_option maxRecDepth 20000 in
theorem ggX4_findParts_X1_find : GoodIn wsX4_findParts wsX1_find := goodIn_r _ [35, 36, 37, 38, 39, 40, 41, 42, 43, 44, 45, 46, 47, 34, 48, 49, 50, 51, 52, 53, 54, 55, 56, 57, 58, 59, 60, 61, 62, 63, 64, 65, 66, 67, 68, 69, 70, 71, 72, 73, 118, 119, 120, 121, 122, 123, 124, 125, 126, 127, 128, 129, 130, 107, 108, 109, 110, 111, 112, 113, 114, 115, 116, 117] (by decide +kernel) (by decide +kernel)
set_option maxRecDepth 20000 in
theorem gX4_findParts_X1_find : GoodIn wsX4_findParts (wsV RX4 173 RX1 yX1_find wsX1_find) := goodIn_app (goodIn_of _ (by decide +kernel)) ggX4_findParts_X1_find
set_option maxRecDepth 20000 in
theorem ggX4_findParts_X3_take : GoodIn wsX4_findParts wsX3_take := goodIn_r _ [78, 79, 80, 81, 82, 83, 84, 85, 86, 87, 88, 89, 90, 91, 92, 93, 94, 77, 95, 96, 97, 98, 99, 100, 118, 119, 120, 121, 122, 123, 124, 125, 126, 127, 128, 129, 130, 135, 136, 137, 138, 139, 107, 108, 109, 110, 111, 112, 113, 114, 115, 116, 117] (by decide +kernel) (by decide +kernel)
set_option maxRecDepth 20000 in
theorem gX4_findParts_X3_take : GoodIn wsX4_findParts (wsV RX4 176 RX3 yX3_take wsX3_take) := goodIn_app (goodIn_of _ (by decide +kernel)) ggX4_findParts_X3_take
theorem dX4_findParts_0 : decode cX4_findParts 0 = .ok (.aload_n 0, 1) := by decide +kernel
theorem dX4_findParts_1 : decode cX4_findParts 1 = .ok (.iload_n 1, 1) := by decide +kernel
theorem dX4_findParts_2 : decode cX4_findParts 2 = .ok (.invokevirtual 117, 3) := by decide +kernel
theorem dX4_findParts_5 : decode cX4_findParts 5 = .ok (.aload_n 0, 1) := by decide +kernel
theorem dX4_findParts_6 : decode cX4_findParts 6 = .ok (.getfield 30, 3) := by decide +kernel
theorem dX4_findParts_9 : decode cX4_findParts 9 = .ok (.aload_n 0, 1) := by decide +kernel
theorem dX4_findParts_10 : decode cX4_findParts 10 = .ok (.getfield 10, 3) := by decide +kernel
theorem dX4_findParts_13 : decode cX4_findParts 13 = .ok (.invokevirtual 173, 3) := by decide +kernel
theorem dX4_findParts_16 : decode cX4_findParts 16 = .ok (.aload_n 0, 1) := by decide +kernel
theorem dX4_findParts_17 : decode cX4_findParts 17 = .ok (.getfield 37, 3) := by decide +kernel
theorem dX4_findParts_20 : decode cX4_findParts 20 = .ok (.aload_n 0, 1) := by decide +kernel
theorem dX4_findParts_21 : decode cX4_findParts 21 = .ok (.getfield 10, 3) := by decide +kernel
theorem dX4_findParts_24 : decode cX4_findParts 24 = .ok (.aload_n 0, 1) := by decide +kernel
theorem dX4_findParts_25 : decode cX4_findParts 25 = .ok (.getfield 30, 3) := by decide +kernel
theorem dX4_findParts_28 : decode cX4_findParts 28 = .ok (.invokevirtual 176, 3) := by decide +kernel
theorem dX4_findParts_31 : decode cX4_findParts 31 = .ok (.return_, 1) := by decide +kernel
set_option maxRecDepth 20000 in
theorem ggX4_findFairParts_X4_chooseStatesOf : GoodIn wsX4_findFairParts wsX4_chooseStatesOf := goodIn_r _ [5, 6, 7, 8, 9, 10, 11, 12, 13, 14, 15, 16, 17, 18, 19, 20, 21, 22, 23, 24, 25, 26, 27, 28, 29, 123, 124, 125, 126, 127, 128, 129, 130, 131, 132, 133, 134, 135, 136, 137, 138, 139, 140, 141, 142, 143, 144, 145, 146, 147, 148, 149, 150, 151, 152, 153, 154, 155, 156] (by decide +kernel) (by decide +kernel)
set_option maxRecDepth 20000 in
theorem gX4_findFairParts_X4_chooseStatesOf : GoodIn wsX4_findFairParts (wsV RX4 117 RX4 yX4_chooseStatesOf wsX4_chooseStatesOf) := goodIn_app (goodIn_of _ (by decide +kernel)) ggX4_findFairParts_X4_chooseStatesOf
set_option maxRecDepth 20000 in
theorem ggX4_findFairParts_X4_keepFairStates : GoodIn wsX4_findFairParts wsX4_keepFairStates := goodIn_r _ [33, 7, 8, 9, 34, 35, 36, 37, 4, 38, 39, 40, 41, 42, 43, 44, 45, 46, 47, 48, 49, 50, 51, 52, 53, 54, 55, 56, 57, 58, 59, 60, 61, 62, 63, 64, 65, 66, 67, 68, 69, 70, 71, 72, 73, 74, 75, 76, 77, 78, 79, 80, 81, 82, 83, 84, 85, 86, 87, 88, 89, 90, 91, 92, 93, 94, 95, 96, 97, 98, 99, 100, 101, 102, 103, 104, 105, 106, 107, 108, 109, 110, 111, 112, 113, 10, 114, 115, 116, 117, 118, 119, 120, 121, 122, 123, 124, 125, 126, 127, 128, 129, 130, 131, 132, 133, 134, 135, 136, 137, 138, 139, 140, 141, 142, 143, 144, 145, 146, 147, 148, 149, 150, 151, 152, 157, 158, 159, 160, 161] (by decide +kernel) (by decide +kernel)
set_option maxRecDepth 20000 in
theorem gX4_findFairParts_X4_keepFairStates : GoodIn wsX4_findFairParts (wsV RX4 164 RX4 yX4_keepFairStates wsX4_keepFairStates) := goodIn_app (goodIn_of _ (by decide +kernel)) ggX4_findFairParts_X4_keepFairStates
theorem dX4_findFairParts_0 : decode cX4_findFairParts 0 = .ok (.aload_n 0, 1) := by decide +kernel
theorem dX4_findFairParts_1 : decode cX4_findFairParts 1 = .ok (.iload_n 1, 1) := by decide +kernel
theorem dX4_findFairParts_2 : decode cX4_findFairParts 2 = .ok (.invokevirtual 117, 3) := by decide +kernel
theorem dX4_findFairParts_5 : decode cX4_findFairParts 5 = .ok (.aload_n 0, 1) := by decide +kernel
theorem dX4_findFairParts_6 : decode cX4_findFairParts 6 = .ok (.invokevirtual 164, 3) := by decide +kernel
theorem dX4_findFairParts_9 : decode cX4_findFairParts 9 = .ok (.return_, 1) := by decide +kernel
set_option maxRecDepth 20000 in
theorem ggX4_keepFairStates_X4_labelsOfKind : GoodIn wsX4_keepFairStates wsX4_labelsOfKind := goodIn_r _ [9, 10, 95, 96, 97, 98, 99, 100] (by decide +kernel) (by decide +kernel)
set_option maxRecDepth 20000 in
theorem gX4_keepFairStates_X4_labelsOfKind : GoodIn wsX4_keepFairStates (wsV RX4 151 RX4 yX4_labelsOfKind wsX4_labelsOfKind) := goodIn_app (goodIn_of _ (by decide +kernel)) ggX4_keepFairStates_X4_labelsOfKind
set_option maxRecDepth 20000 in
theorem ggX4_keepFairStates_X1_find : GoodIn wsX4_keepFairStates wsX1_find := goodIn_r _ [15, 16, 17, 18, 19, 20, 21, 22, 23, 24, 25, 26, 27, 14, 28, 29, 30, 31, 32, 33, 34, 35, 36, 37, 38, 39, 40, 41, 42, 43, 44, 45, 46, 47, 48, 49, 50, 51, 52, 53, 112, 113, 114, 115, 116, 117, 118, 119, 120, 121, 122, 123, 124, 101, 102, 103, 104, 105, 106, 107, 108, 109, 110, 111] (by decide +kernel) (by decide +kernel)
set_option maxRecDepth 20000 in
theorem gX4_keepFairStates_X1_find : GoodIn wsX4_keepFairStates (wsV RX4 173 RX1 yX1_find wsX1_find) := goodIn_app (goodIn_of _ (by decide +kernel)) ggX4_keepFairStates_X1_find
set_option maxRecDepth 20000 in
theorem ggX4_keepFairStates_X3_take : GoodIn wsX4_keepFairStates wsX3_take := goodIn_r _ [58, 59, 60, 61, 62, 63, 64, 65, 66, 67, 68, 69, 70, 71, 72, 73, 74, 57, 75, 76, 77, 78, 79, 80, 112, 113, 114, 115, 116, 117, 118, 119, 120, 121, 122, 123, 124, 125, 126, 127, 128, 129, 101, 102, 103, 104, 105, 106, 107, 108, 109, 110, 111] (by decide +kernel) (by decide +kernel)
set_option maxRecDepth 20000 in
theorem gX4_keepFairStates_X3_take : GoodIn wsX4_keepFairStates (wsV RX4 176 RX3 yX3_take wsX3_take) := goodIn_app (goodIn_of _ (by decide +kernel)) ggX4_keepFairStates_X3_take
set_option maxRecDepth 20000 in
theorem ggX4_keepFairStates_X4_dropUnfairStates : GoodIn wsX4_keepFairStates wsX4_dropUnfairStates := goodIn_r _ [84, 1, 2, 3, 85, 86, 87, 88, 8, 89, 90, 4, 91, 92, 93, 94, 95, 96, 97, 98, 99, 100, 101, 102, 103, 104, 105, 106, 107, 108, 109, 110, 111, 112, 113, 114, 115, 116, 117, 118, 119, 120, 121, 122, 123, 124, 125, 126, 127, 128, 129] (by decide +kernel) (by decide +kernel)
set_option maxRecDepth 20000 in
theorem gX4_keepFairStates_X4_dropUnfairStates : GoodIn wsX4_keepFairStates (wsV RX4 180 RX4 yX4_dropUnfairStates wsX4_dropUnfairStates) := goodIn_app (goodIn_of _ (by decide +kernel)) ggX4_keepFairStates_X4_dropUnfairStates
theorem dX4_keepFairStates_0 : decode cX4_keepFairStates 0 = .ok (.aload_n 0, 1) := by decide +kernel
theorem dX4_keepFairStates_1 : decode cX4_keepFairStates 1 = .ok (.iconst 1, 1) := by decide +kernel
theorem dX4_keepFairStates_2 : decode cX4_keepFairStates 2 = .ok (.invokevirtual 151, 3) := by decide +kernel
theorem dX4_keepFairStates_5 : decode cX4_keepFairStates 5 = .ok (.istore_n 1, 1) := by decide +kernel
theorem dX4_keepFairStates_6 : decode cX4_keepFairStates 6 = .ok (.aload_n 0, 1) := by decide +kernel
theorem dX4_keepFairStates_7 : decode cX4_keepFairStates 7 = .ok (.iconst 2, 1) := by decide +kernel
theorem dX4_keepFairStates_8 : decode cX4_keepFairStates 8 = .ok (.invokevirtual 151, 3) := by decide +kernel
theorem dX4_keepFairStates_11 : decode cX4_keepFairStates 11 = .ok (.istore_n 2, 1) := by decide +kernel
theorem dX4_keepFairStates_12 : decode cX4_keepFairStates 12 = .ok (.iconst 1, 1) := by decide +kernel
theorem dX4_keepFairStates_13 : decode cX4_keepFairStates 13 = .ok (.istore_n 3, 1) := by decide +kernel
theorem dX4_keepFairStates_14 : decode cX4_keepFairStates 14 = .ok (.iconst 0, 1) := by decide +kernel
theorem dX4_keepFairStates_15 : decode cX4_keepFairStates 15 = .ok (.istore 4, 2) := by decide +kernel
theorem dX4_keepFairStates_17 : decode cX4_keepFairStates 17 = .ok (.iload 4, 2) := by decide +kernel
theorem dX4_keepFairStates_19 : decode cX4_keepFairStates 19 = .ok (.aload_n 0, 1) := by decide +kernel
theorem dX4_keepFairStates_20 : decode cX4_keepFairStates 20 = .ok (.getfield 10, 3) := by decide +kernel
theorem dX4_keepFairStates_23 : decode cX4_keepFairStates 23 = .ok (.getfield 51, 3) := by decide +kernel
theorem dX4_keepFairStates_26 : decode cX4_keepFairStates 26 = .ok (.if_icmp .gt 46, 3) := by decide +kernel
theorem dX4_keepFairStates_29 : decode cX4_keepFairStates 29 = .ok (.iload_n 3, 1) := by decide +kernel
theorem dX4_keepFairStates_30 : decode cX4_keepFairStates 30 = .ok (.ifCond .eq 42, 3) := by decide +kernel
theorem dX4_keepFairStates_33 : decode cX4_keepFairStates 33 = .ok (.aload_n 0, 1) := by decide +kernel
theorem dX4_keepFairStates_34 : decode cX4_keepFairStates 34 = .ok (.getfield 30, 3) := by decide +kernel
theorem dX4_keepFairStates_37 : decode cX4_keepFairStates 37 = .ok (.aload_n 0, 1) := by decide +kernel
theorem dX4_keepFairStates_38 : decode cX4_keepFairStates 38 = .ok (.getfield 10, 3) := by decide +kernel
theorem dX4_keepFairStates_41 : decode cX4_keepFairStates 41 = .ok (.invokevirtual 173, 3) := by decide +kernel
theorem dX4_keepFairStates_44 : decode cX4_keepFairStates 44 = .ok (.aload_n 0, 1) := by decide +kernel
theorem dX4_keepFairStates_45 : decode cX4_keepFairStates 45 = .ok (.getfield 37, 3) := by decide +kernel
theorem dX4_keepFairStates_48 : decode cX4_keepFairStates 48 = .ok (.aload_n 0, 1) := by decide +kernel
theorem dX4_keepFairStates_49 : decode cX4_keepFairStates 49 = .ok (.getfield 10, 3) := by decide +kernel
theorem dX4_keepFairStates_52 : decode cX4_keepFairStates 52 = .ok (.aload_n 0, 1) := by decide +kernel
theorem dX4_keepFairStates_53 : decode cX4_keepFairStates 53 = .ok (.getfield 30, 3) := by decide +kernel
theorem dX4_keepFairStates_56 : decode cX4_keepFairStates 56 = .ok (.invokevirtual 176, 3) := by decide +kernel
theorem dX4_keepFairStates_59 : decode cX4_keepFairStates 59 = .ok (.aload_n 0, 1) := by decide +kernel
theorem dX4_keepFairStates_60 : decode cX4_keepFairStates 60 = .ok (.iload_n 1, 1) := by decide +kernel
theorem dX4_keepFairStates_61 : decode cX4_keepFairStates 61 = .ok (.iload_n 2, 1) := by decide +kernel
theorem dX4_keepFairStates_62 : decode cX4_keepFairStates 62 = .ok (.invokevirtual 180, 3) := by decide +kernel
theorem dX4_keepFairStates_65 : decode cX4_keepFairStates 65 = .ok (.istore_n 3, 1) := by decide +kernel
theorem dX4_keepFairStates_66 : decode cX4_keepFairStates 66 = .ok (.iinc 4 1, 3) := by decide +kernel
theorem dX4_keepFairStates_69 : decode cX4_keepFairStates 69 = .ok (.goto (-52), 3) := by decide +kernel
theorem dX4_keepFairStates_72 : decode cX4_keepFairStates 72 = .ok (.return_, 1) := by decide +kernel
set_option maxRecDepth 20000 in
theorem ggX4_dropUnfairStates_X4_isUnfair : GoodIn wsX4_dropUnfairStates wsX4_isUnfair := goodIn_r _ [9, 3, 10, 11, 12, 13, 14, 1, 15, 16, 17, 18, 19, 20, 21, 33, 34, 35, 36, 37, 38, 39, 40, 41, 42, 43, 44, 45, 46, 47, 48, 49, 50, 22, 23, 24, 25, 26, 27, 28, 29, 30, 31, 32] (by decide +kernel) (by decide +kernel)
set_option maxRecDepth 20000 in
theorem gX4_dropUnfairStates_X4_isUnfair : GoodIn wsX4_dropUnfairStates (wsV RX4 184 RX4 yX4_isUnfair wsX4_isUnfair) := goodIn_app (goodIn_of _ (by decide +kernel)) ggX4_dropUnfairStates_X4_isUnfair
theorem dX4_dropUnfairStates_0 : decode cX4_dropUnfairStates 0 = .ok (.iconst 0, 1) := by decide +kernel
theorem dX4_dropUnfairStates_1 : decode cX4_dropUnfairStates 1 = .ok (.istore_n 3, 1) := by decide +kernel
theorem dX4_dropUnfairStates_2 : decode cX4_dropUnfairStates 2 = .ok (.iconst 0, 1) := by decide +kernel
theorem dX4_dropUnfairStates_3 : decode cX4_dropUnfairStates 3 = .ok (.istore 4, 2) := by decide +kernel
theorem dX4_dropUnfairStates_5 : decode cX4_dropUnfairStates 5 = .ok (.iload 4, 2) := by decide +kernel
theorem dX4_dropUnfairStates_7 : decode cX4_dropUnfairStates 7 = .ok (.aload_n 0, 1) := by decide +kernel
theorem dX4_dropUnfairStates_8 : decode cX4_dropUnfairStates 8 = .ok (.getfield 10, 3) := by decide +kernel
theorem dX4_dropUnfairStates_11 : decode cX4_dropUnfairStates 11 = .ok (.getfield 51, 3) := by decide +kernel
theorem dX4_dropUnfairStates_14 : decode cX4_dropUnfairStates 14 = .ok (.if_icmp .ge 46, 3) := by decide +kernel
theorem dX4_dropUnfairStates_17 : decode cX4_dropUnfairStates 17 = .ok (.aload_n 0, 1) := by decide +kernel
theorem dX4_dropUnfairStates_18 : decode cX4_dropUnfairStates 18 = .ok (.getfield 30, 3) := by decide +kernel
theorem dX4_dropUnfairStates_21 : decode cX4_dropUnfairStates 21 = .ok (.getfield 138, 3) := by decide +kernel
theorem dX4_dropUnfairStates_24 : decode cX4_dropUnfairStates 24 = .ok (.iload 4, 2) := by decide +kernel
theorem dX4_dropUnfairStates_26 : decode cX4_dropUnfairStates 26 = .ok (.baload, 1) := by decide +kernel
theorem dX4_dropUnfairStates_27 : decode cX4_dropUnfairStates 27 = .ok (.ifCond .eq 27, 3) := by decide +kernel
theorem dX4_dropUnfairStates_30 : decode cX4_dropUnfairStates 30 = .ok (.aload_n 0, 1) := by decide +kernel
theorem dX4_dropUnfairStates_31 : decode cX4_dropUnfairStates 31 = .ok (.iload 4, 2) := by decide +kernel
theorem dX4_dropUnfairStates_33 : decode cX4_dropUnfairStates 33 = .ok (.iload_n 1, 1) := by decide +kernel
theorem dX4_dropUnfairStates_34 : decode cX4_dropUnfairStates 34 = .ok (.iload_n 2, 1) := by decide +kernel
theorem dX4_dropUnfairStates_35 : decode cX4_dropUnfairStates 35 = .ok (.invokevirtual 184, 3) := by decide +kernel
theorem dX4_dropUnfairStates_38 : decode cX4_dropUnfairStates 38 = .ok (.ifCond .eq 16, 3) := by decide +kernel
theorem dX4_dropUnfairStates_41 : decode cX4_dropUnfairStates 41 = .ok (.aload_n 0, 1) := by decide +kernel
theorem dX4_dropUnfairStates_42 : decode cX4_dropUnfairStates 42 = .ok (.getfield 30, 3) := by decide +kernel
theorem dX4_dropUnfairStates_45 : decode cX4_dropUnfairStates 45 = .ok (.getfield 138, 3) := by decide +kernel
theorem dX4_dropUnfairStates_48 : decode cX4_dropUnfairStates 48 = .ok (.iload 4, 2) := by decide +kernel
theorem dX4_dropUnfairStates_50 : decode cX4_dropUnfairStates 50 = .ok (.iconst 0, 1) := by decide +kernel
theorem dX4_dropUnfairStates_51 : decode cX4_dropUnfairStates 51 = .ok (.bastore, 1) := by decide +kernel
theorem dX4_dropUnfairStates_52 : decode cX4_dropUnfairStates 52 = .ok (.iconst 1, 1) := by decide +kernel
theorem dX4_dropUnfairStates_53 : decode cX4_dropUnfairStates 53 = .ok (.istore_n 3, 1) := by decide +kernel
theorem dX4_dropUnfairStates_54 : decode cX4_dropUnfairStates 54 = .ok (.iinc 4 1, 3) := by decide +kernel
theorem dX4_dropUnfairStates_57 : decode cX4_dropUnfairStates 57 = .ok (.goto (-52), 3) := by decide +kernel
theorem dX4_dropUnfairStates_60 : decode cX4_dropUnfairStates 60 = .ok (.iload_n 3, 1) := by decide +kernel
theorem dX4_dropUnfairStates_61 : decode cX4_dropUnfairStates 61 = .ok (.ireturn, 1) := by decide +kernel
theorem dX4_isUnfair_0 : decode cX4_isUnfair 0 = .ok (.aload_n 0, 1) := by decide +kernel
theorem dX4_isUnfair_1 : decode cX4_isUnfair 1 = .ok (.getfield 30, 3) := by decide +kernel
theorem dX4_isUnfair_4 : decode cX4_isUnfair 4 = .ok (.getfield 188, 3) := by decide +kernel
theorem dX4_isUnfair_7 : decode cX4_isUnfair 7 = .ok (.iload_n 1, 1) := by decide +kernel
theorem dX4_isUnfair_8 : decode cX4_isUnfair 8 = .ok (.iaload, 1) := by decide +kernel
theorem dX4_isUnfair_9 : decode cX4_isUnfair 9 = .ok (.istore 4, 2) := by decide +kernel
theorem dX4_isUnfair_11 : decode cX4_isUnfair 11 = .ok (.aload_n 0, 1) := by decide +kernel
theorem dX4_isUnfair_12 : decode cX4_isUnfair 12 = .ok (.getfield 37, 3) := by decide +kernel
theorem dX4_isUnfair_15 : decode cX4_isUnfair 15 = .ok (.getfield 191, 3) := by decide +kernel
theorem dX4_isUnfair_18 : decode cX4_isUnfair 18 = .ok (.iload 4, 2) := by decide +kernel
theorem dX4_isUnfair_20 : decode cX4_isUnfair 20 = .ok (.iaload, 1) := by decide +kernel
theorem dX4_isUnfair_21 : decode cX4_isUnfair 21 = .ok (.iconst (-1), 1) := by decide +kernel
theorem dX4_isUnfair_22 : decode cX4_isUnfair 22 = .ok (.ixor, 1) := by decide +kernel
theorem dX4_isUnfair_23 : decode cX4_isUnfair 23 = .ok (.istore 5, 2) := by decide +kernel
theorem dX4_isUnfair_25 : decode cX4_isUnfair 25 = .ok (.aload_n 0, 1) := by decide +kernel
theorem dX4_isUnfair_26 : decode cX4_isUnfair 26 = .ok (.getfield 37, 3) := by decide +kernel
theorem dX4_isUnfair_29 : decode cX4_isUnfair 29 = .ok (.getfield 194, 3) := by decide +kernel
theorem dX4_isUnfair_32 : decode cX4_isUnfair 32 = .ok (.iload 4, 2) := by decide +kernel
theorem dX4_isUnfair_34 : decode cX4_isUnfair 34 = .ok (.baload, 1) := by decide +kernel
theorem dX4_isUnfair_35 : decode cX4_isUnfair 35 = .ok (.ifCond .eq 38, 3) := by decide +kernel
theorem dX4_isUnfair_38 : decode cX4_isUnfair 38 = .ok (.iload_n 2, 1) := by decide +kernel
theorem dX4_isUnfair_39 : decode cX4_isUnfair 39 = .ok (.aload_n 0, 1) := by decide +kernel
theorem dX4_isUnfair_40 : decode cX4_isUnfair 40 = .ok (.getfield 37, 3) := by decide +kernel
theorem dX4_isUnfair_43 : decode cX4_isUnfair 43 = .ok (.getfield 197, 3) := by decide +kernel
theorem dX4_isUnfair_46 : decode cX4_isUnfair 46 = .ok (.iload 4, 2) := by decide +kernel
theorem dX4_isUnfair_48 : decode cX4_isUnfair 48 = .ok (.iaload, 1) := by decide +kernel
theorem dX4_isUnfair_49 : decode cX4_isUnfair 49 = .ok (.iand, 1) := by decide +kernel
theorem dX4_isUnfair_50 : decode cX4_isUnfair 50 = .ok (.iload 5, 2) := by decide +kernel
theorem dX4_isUnfair_52 : decode cX4_isUnfair 52 = .ok (.iand, 1) := by decide +kernel
theorem dX4_isUnfair_53 : decode cX4_isUnfair 53 = .ok (.ifCond .ne 20, 3) := by decide +kernel
theorem dX4_isUnfair_56 : decode cX4_isUnfair 56 = .ok (.iload_n 3, 1) := by decide +kernel
theorem dX4_isUnfair_57 : decode cX4_isUnfair 57 = .ok (.aload_n 0, 1) := by decide +kernel
theorem dX4_isUnfair_58 : decode cX4_isUnfair 58 = .ok (.getfield 10, 3) := by decide +kernel
theorem dX4_isUnfair_61 : decode cX4_isUnfair 61 = .ok (.getfield 200, 3) := by decide +kernel
theorem dX4_isUnfair_64 : decode cX4_isUnfair 64 = .ok (.iload_n 1, 1) := by decide +kernel
theorem dX4_isUnfair_65 : decode cX4_isUnfair 65 = .ok (.iaload, 1) := by decide +kernel
theorem dX4_isUnfair_66 : decode cX4_isUnfair 66 = .ok (.iand, 1) := by decide +kernel
theorem dX4_isUnfair_67 : decode cX4_isUnfair 67 = .ok (.iload 5, 2) := by decide +kernel
theorem dX4_isUnfair_69 : decode cX4_isUnfair 69 = .ok (.iand, 1) := by decide +kernel
theorem dX4_isUnfair_70 : decode cX4_isUnfair 70 = .ok (.ifCond .eq 7, 3) := by decide +kernel
theorem dX4_isUnfair_73 : decode cX4_isUnfair 73 = .ok (.iconst 1, 1) := by decide +kernel
theorem dX4_isUnfair_74 : decode cX4_isUnfair 74 = .ok (.goto 4, 3) := by decide +kernel
theorem dX4_isUnfair_77 : decode cX4_isUnfair 77 = .ok (.iconst 0, 1) := by decide +kernel
theorem dX4_isUnfair_78 : decode cX4_isUnfair 78 = .ok (.ireturn, 1) := by decide +kernel
theorem dX4_knotByLowestState_0 : decode cX4_knotByLowestState 0 = .ok (.iconst 0, 1) := by decide +kernel
theorem dX4_knotByLowestState_1 : decode cX4_knotByLowestState 1 = .ok (.istore_n 2, 1) := by decide +kernel
theorem dX4_knotByLowestState_2 : decode cX4_knotByLowestState 2 = .ok (.iconst 0, 1) := by decide +kernel
theorem dX4_knotByLowestState_3 : decode cX4_knotByLowestState 3 = .ok (.istore_n 3, 1) := by decide +kernel
theorem dX4_knotByLowestState_4 : decode cX4_knotByLowestState 4 = .ok (.iload_n 3, 1) := by decide +kernel
theorem dX4_knotByLowestState_5 : decode cX4_knotByLowestState 5 = .ok (.aload_n 0, 1) := by decide +kernel
theorem dX4_knotByLowestState_6 : decode cX4_knotByLowestState 6 = .ok (.getfield 10, 3) := by decide +kernel
theorem dX4_knotByLowestState_9 : decode cX4_knotByLowestState 9 = .ok (.getfield 51, 3) := by decide +kernel
theorem dX4_knotByLowestState_12 : decode cX4_knotByLowestState 12 = .ok (.if_icmp .ge 60, 3) := by decide +kernel
theorem dX4_knotByLowestState_15 : decode cX4_knotByLowestState 15 = .ok (.aload_n 0, 1) := by decide +kernel
theorem dX4_knotByLowestState_16 : decode cX4_knotByLowestState 16 = .ok (.getfield 30, 3) := by decide +kernel
theorem dX4_knotByLowestState_19 : decode cX4_knotByLowestState 19 = .ok (.getfield 138, 3) := by decide +kernel
theorem dX4_knotByLowestState_22 : decode cX4_knotByLowestState 22 = .ok (.iload_n 3, 1) := by decide +kernel
theorem dX4_knotByLowestState_23 : decode cX4_knotByLowestState 23 = .ok (.baload, 1) := by decide +kernel
theorem dX4_knotByLowestState_24 : decode cX4_knotByLowestState 24 = .ok (.ifCond .eq 42, 3) := by decide +kernel
theorem dX4_knotByLowestState_27 : decode cX4_knotByLowestState 27 = .ok (.aload_n 0, 1) := by decide +kernel
theorem dX4_knotByLowestState_28 : decode cX4_knotByLowestState 28 = .ok (.getfield 37, 3) := by decide +kernel
theorem dX4_knotByLowestState_31 : decode cX4_knotByLowestState 31 = .ok (.getfield 203, 3) := by decide +kernel
theorem dX4_knotByLowestState_34 : decode cX4_knotByLowestState 34 = .ok (.aload_n 0, 1) := by decide +kernel
theorem dX4_knotByLowestState_35 : decode cX4_knotByLowestState 35 = .ok (.getfield 30, 3) := by decide +kernel
theorem dX4_knotByLowestState_38 : decode cX4_knotByLowestState 38 = .ok (.getfield 188, 3) := by decide +kernel
theorem dX4_knotByLowestState_41 : decode cX4_knotByLowestState 41 = .ok (.iload_n 3, 1) := by decide +kernel
theorem dX4_knotByLowestState_42 : decode cX4_knotByLowestState 42 = .ok (.iaload, 1) := by decide +kernel
theorem dX4_knotByLowestState_43 : decode cX4_knotByLowestState 43 = .ok (.iaload, 1) := by decide +kernel
theorem dX4_knotByLowestState_44 : decode cX4_knotByLowestState 44 = .ok (.iload_n 3, 1) := by decide +kernel
theorem dX4_knotByLowestState_45 : decode cX4_knotByLowestState 45 = .ok (.if_icmp .ne 21, 3) := by decide +kernel
theorem dX4_knotByLowestState_48 : decode cX4_knotByLowestState 48 = .ok (.iload_n 2, 1) := by decide +kernel
theorem dX4_knotByLowestState_49 : decode cX4_knotByLowestState 49 = .ok (.iload_n 1, 1) := by decide +kernel
theorem dX4_knotByLowestState_50 : decode cX4_knotByLowestState 50 = .ok (.if_icmp .ne 13, 3) := by decide +kernel
theorem dX4_knotByLowestState_53 : decode cX4_knotByLowestState 53 = .ok (.aload_n 0, 1) := by decide +kernel
theorem dX4_knotByLowestState_54 : decode cX4_knotByLowestState 54 = .ok (.getfield 30, 3) := by decide +kernel
theorem dX4_knotByLowestState_57 : decode cX4_knotByLowestState 57 = .ok (.getfield 188, 3) := by decide +kernel
theorem dX4_knotByLowestState_60 : decode cX4_knotByLowestState 60 = .ok (.iload_n 3, 1) := by decide +kernel
theorem dX4_knotByLowestState_61 : decode cX4_knotByLowestState 61 = .ok (.iaload, 1) := by decide +kernel
theorem dX4_knotByLowestState_62 : decode cX4_knotByLowestState 62 = .ok (.ireturn, 1) := by decide +kernel
theorem dX4_knotByLowestState_63 : decode cX4_knotByLowestState 63 = .ok (.iinc 2 1, 3) := by decide +kernel
theorem dX4_knotByLowestState_66 : decode cX4_knotByLowestState 66 = .ok (.iinc 3 1, 3) := by decide +kernel
theorem dX4_knotByLowestState_69 : decode cX4_knotByLowestState 69 = .ok (.goto (-65), 3) := by decide +kernel
theorem dX4_knotByLowestState_72 : decode cX4_knotByLowestState 72 = .ok (.iconst (-1), 1) := by decide +kernel
theorem dX4_knotByLowestState_73 : decode cX4_knotByLowestState 73 = .ok (.ireturn, 1) := by decide +kernel
theorem dX4_stateOfKnot_0 : decode cX4_stateOfKnot 0 = .ok (.iconst 0, 1) := by decide +kernel
theorem dX4_stateOfKnot_1 : decode cX4_stateOfKnot 1 = .ok (.istore_n 3, 1) := by decide +kernel
theorem dX4_stateOfKnot_2 : decode cX4_stateOfKnot 2 = .ok (.iconst 0, 1) := by decide +kernel
theorem dX4_stateOfKnot_3 : decode cX4_stateOfKnot 3 = .ok (.istore 4, 2) := by decide +kernel
theorem dX4_stateOfKnot_5 : decode cX4_stateOfKnot 5 = .ok (.iload 4, 2) := by decide +kernel
theorem dX4_stateOfKnot_7 : decode cX4_stateOfKnot 7 = .ok (.aload_n 0, 1) := by decide +kernel
theorem dX4_stateOfKnot_8 : decode cX4_stateOfKnot 8 = .ok (.getfield 10, 3) := by decide +kernel
theorem dX4_stateOfKnot_11 : decode cX4_stateOfKnot 11 = .ok (.getfield 51, 3) := by decide +kernel
theorem dX4_stateOfKnot_14 : decode cX4_stateOfKnot 14 = .ok (.if_icmp .ge 47, 3) := by decide +kernel
theorem dX4_stateOfKnot_17 : decode cX4_stateOfKnot 17 = .ok (.aload_n 0, 1) := by decide +kernel
theorem dX4_stateOfKnot_18 : decode cX4_stateOfKnot 18 = .ok (.getfield 30, 3) := by decide +kernel
theorem dX4_stateOfKnot_21 : decode cX4_stateOfKnot 21 = .ok (.getfield 138, 3) := by decide +kernel
theorem dX4_stateOfKnot_24 : decode cX4_stateOfKnot 24 = .ok (.iload 4, 2) := by decide +kernel
theorem dX4_stateOfKnot_26 : decode cX4_stateOfKnot 26 = .ok (.baload, 1) := by decide +kernel
theorem dX4_stateOfKnot_27 : decode cX4_stateOfKnot 27 = .ok (.ifCond .eq 28, 3) := by decide +kernel
theorem dX4_stateOfKnot_30 : decode cX4_stateOfKnot 30 = .ok (.aload_n 0, 1) := by decide +kernel
theorem dX4_stateOfKnot_31 : decode cX4_stateOfKnot 31 = .ok (.getfield 30, 3) := by decide +kernel
theorem dX4_stateOfKnot_34 : decode cX4_stateOfKnot 34 = .ok (.getfield 188, 3) := by decide +kernel
theorem dX4_stateOfKnot_37 : decode cX4_stateOfKnot 37 = .ok (.iload 4, 2) := by decide +kernel
theorem dX4_stateOfKnot_39 : decode cX4_stateOfKnot 39 = .ok (.iaload, 1) := by decide +kernel
theorem dX4_stateOfKnot_40 : decode cX4_stateOfKnot 40 = .ok (.iload_n 1, 1) := by decide +kernel
theorem dX4_stateOfKnot_41 : decode cX4_stateOfKnot 41 = .ok (.if_icmp .ne 14, 3) := by decide +kernel
theorem dX4_stateOfKnot_44 : decode cX4_stateOfKnot 44 = .ok (.iload_n 3, 1) := by decide +kernel
theorem dX4_stateOfKnot_45 : decode cX4_stateOfKnot 45 = .ok (.iload_n 2, 1) := by decide +kernel
theorem dX4_stateOfKnot_46 : decode cX4_stateOfKnot 46 = .ok (.if_icmp .ne 6, 3) := by decide +kernel
theorem dX4_stateOfKnot_49 : decode cX4_stateOfKnot 49 = .ok (.iload 4, 2) := by decide +kernel
theorem dX4_stateOfKnot_51 : decode cX4_stateOfKnot 51 = .ok (.ireturn, 1) := by decide +kernel
theorem dX4_stateOfKnot_52 : decode cX4_stateOfKnot 52 = .ok (.iinc 3 1, 3) := by decide +kernel
theorem dX4_stateOfKnot_55 : decode cX4_stateOfKnot 55 = .ok (.iinc 4 1, 3) := by decide +kernel
theorem dX4_stateOfKnot_58 : decode cX4_stateOfKnot 58 = .ok (.goto (-53), 3) := by decide +kernel
theorem dX4_stateOfKnot_61 : decode cX4_stateOfKnot 61 = .ok (.iconst (-1), 1) := by decide +kernel
theorem dX4_stateOfKnot_62 : decode cX4_stateOfKnot 62 = .ok (.ireturn, 1) := by decide +kernel
set_option maxRecDepth 20000 in
theorem ggX4_deadEnd_X0_isStuck : GoodIn wsX4_deadEnd wsX0_isStuck := goodIn_r _ [9, 10, 11, 18, 19, 20, 21, 22, 23, 24, 25, 26, 27, 28] (by decide +kernel) (by decide +kernel)
set_option maxRecDepth 20000 in
theorem gX4_deadEnd_X0_isStuck : GoodIn wsX4_deadEnd (wsV RX4 206 RX0 yX0_isStuck wsX0_isStuck) := goodIn_app (goodIn_of _ (by decide +kernel)) ggX4_deadEnd_X0_isStuck
theorem dX4_deadEnd_0 : decode cX4_deadEnd 0 = .ok (.iconst 0, 1) := by decide +kernel
theorem dX4_deadEnd_1 : decode cX4_deadEnd 1 = .ok (.istore_n 2, 1) := by decide +kernel
theorem dX4_deadEnd_2 : decode cX4_deadEnd 2 = .ok (.iconst 0, 1) := by decide +kernel
theorem dX4_deadEnd_3 : decode cX4_deadEnd 3 = .ok (.istore_n 3, 1) := by decide +kernel
theorem dX4_deadEnd_4 : decode cX4_deadEnd 4 = .ok (.iload_n 3, 1) := by decide +kernel
theorem dX4_deadEnd_5 : decode cX4_deadEnd 5 = .ok (.aload_n 0, 1) := by decide +kernel
theorem dX4_deadEnd_6 : decode cX4_deadEnd 6 = .ok (.getfield 10, 3) := by decide +kernel
theorem dX4_deadEnd_9 : decode cX4_deadEnd 9 = .ok (.getfield 51, 3) := by decide +kernel
theorem dX4_deadEnd_12 : decode cX4_deadEnd 12 = .ok (.if_icmp .ge 42, 3) := by decide +kernel
theorem dX4_deadEnd_15 : decode cX4_deadEnd 15 = .ok (.aload_n 0, 1) := by decide +kernel
theorem dX4_deadEnd_16 : decode cX4_deadEnd 16 = .ok (.getfield 30, 3) := by decide +kernel
theorem dX4_deadEnd_19 : decode cX4_deadEnd 19 = .ok (.getfield 138, 3) := by decide +kernel
theorem dX4_deadEnd_22 : decode cX4_deadEnd 22 = .ok (.iload_n 3, 1) := by decide +kernel
theorem dX4_deadEnd_23 : decode cX4_deadEnd 23 = .ok (.baload, 1) := by decide +kernel
theorem dX4_deadEnd_24 : decode cX4_deadEnd 24 = .ok (.ifCond .eq 24, 3) := by decide +kernel
theorem dX4_deadEnd_27 : decode cX4_deadEnd 27 = .ok (.aload_n 0, 1) := by decide +kernel
theorem dX4_deadEnd_28 : decode cX4_deadEnd 28 = .ok (.getfield 10, 3) := by decide +kernel
theorem dX4_deadEnd_31 : decode cX4_deadEnd 31 = .ok (.iload_n 3, 1) := by decide +kernel
theorem dX4_deadEnd_32 : decode cX4_deadEnd 32 = .ok (.invokevirtual 206, 3) := by decide +kernel
theorem dX4_deadEnd_35 : decode cX4_deadEnd 35 = .ok (.ifCond .eq 13, 3) := by decide +kernel
theorem dX4_deadEnd_38 : decode cX4_deadEnd 38 = .ok (.iload_n 2, 1) := by decide +kernel
theorem dX4_deadEnd_39 : decode cX4_deadEnd 39 = .ok (.iload_n 1, 1) := by decide +kernel
theorem dX4_deadEnd_40 : decode cX4_deadEnd 40 = .ok (.if_icmp .ne 5, 3) := by decide +kernel
theorem dX4_deadEnd_43 : decode cX4_deadEnd 43 = .ok (.iload_n 3, 1) := by decide +kernel
theorem dX4_deadEnd_44 : decode cX4_deadEnd 44 = .ok (.ireturn, 1) := by decide +kernel
theorem dX4_deadEnd_45 : decode cX4_deadEnd 45 = .ok (.iinc 2 1, 3) := by decide +kernel
theorem dX4_deadEnd_48 : decode cX4_deadEnd 48 = .ok (.iinc 3 1, 3) := by decide +kernel
theorem dX4_deadEnd_51 : decode cX4_deadEnd 51 = .ok (.goto (-47), 3) := by decide +kernel
theorem dX4_deadEnd_54 : decode cX4_deadEnd 54 = .ok (.iconst (-1), 1) := by decide +kernel
theorem dX4_deadEnd_55 : decode cX4_deadEnd 55 = .ok (.ireturn, 1) := by decide +kernel
set_option maxRecDepth 20000 in
theorem ggX4_fillRanks_X4_rankAbove : GoodIn wsX4_fillRanks wsX4_rankAbove := goodIn_r _ [9, 10, 11, 12, 13, 1, 14, 4, 15, 16, 17, 18, 19, 20, 34, 35, 36, 37, 38, 39, 40, 41, 42, 43, 44, 21, 22, 23, 24, 25, 26, 27, 28, 29, 30, 31, 32, 33] (by decide +kernel) (by decide +kernel)
set_option maxRecDepth 20000 in
theorem gX4_fillRanks_X4_rankAbove : GoodIn wsX4_fillRanks (wsV RX4 215 RX4 yX4_rankAbove wsX4_rankAbove) := goodIn_app (goodIn_of _ (by decide +kernel)) ggX4_fillRanks_X4_rankAbove
theorem dX4_fillRanks_0 : decode cX4_fillRanks 0 = .ok (.iconst 0, 1) := by decide +kernel
theorem dX4_fillRanks_1 : decode cX4_fillRanks 1 = .ok (.istore_n 1, 1) := by decide +kernel
theorem dX4_fillRanks_2 : decode cX4_fillRanks 2 = .ok (.iconst 0, 1) := by decide +kernel
theorem dX4_fillRanks_3 : decode cX4_fillRanks 3 = .ok (.istore_n 2, 1) := by decide +kernel
theorem dX4_fillRanks_4 : decode cX4_fillRanks 4 = .ok (.iload_n 2, 1) := by decide +kernel
theorem dX4_fillRanks_5 : decode cX4_fillRanks 5 = .ok (.aload_n 0, 1) := by decide +kernel
theorem dX4_fillRanks_6 : decode cX4_fillRanks 6 = .ok (.getfield 30, 3) := by decide +kernel
theorem dX4_fillRanks_9 : decode cX4_fillRanks 9 = .ok (.getfield 209, 3) := by decide +kernel
theorem dX4_fillRanks_12 : decode cX4_fillRanks 12 = .ok (.if_icmp .ge 47, 3) := by decide +kernel
theorem dX4_fillRanks_15 : decode cX4_fillRanks 15 = .ok (.aload_n 0, 1) := by decide +kernel
theorem dX4_fillRanks_16 : decode cX4_fillRanks 16 = .ok (.getfield 30, 3) := by decide +kernel
theorem dX4_fillRanks_19 : decode cX4_fillRanks 19 = .ok (.getfield 212, 3) := by decide +kernel
theorem dX4_fillRanks_22 : decode cX4_fillRanks 22 = .ok (.iload_n 2, 1) := by decide +kernel
theorem dX4_fillRanks_23 : decode cX4_fillRanks 23 = .ok (.iaload, 1) := by decide +kernel
theorem dX4_fillRanks_24 : decode cX4_fillRanks 24 = .ok (.istore_n 3, 1) := by decide +kernel
theorem dX4_fillRanks_25 : decode cX4_fillRanks 25 = .ok (.aload_n 0, 1) := by decide +kernel
theorem dX4_fillRanks_26 : decode cX4_fillRanks 26 = .ok (.getfield 41, 3) := by decide +kernel
theorem dX4_fillRanks_29 : decode cX4_fillRanks 29 = .ok (.iload_n 3, 1) := by decide +kernel
theorem dX4_fillRanks_30 : decode cX4_fillRanks 30 = .ok (.aload_n 0, 1) := by decide +kernel
theorem dX4_fillRanks_31 : decode cX4_fillRanks 31 = .ok (.iload_n 3, 1) := by decide +kernel
theorem dX4_fillRanks_32 : decode cX4_fillRanks 32 = .ok (.invokevirtual 215, 3) := by decide +kernel
theorem dX4_fillRanks_35 : decode cX4_fillRanks 35 = .ok (.iastore, 1) := by decide +kernel
theorem dX4_fillRanks_36 : decode cX4_fillRanks 36 = .ok (.aload_n 0, 1) := by decide +kernel
theorem dX4_fillRanks_37 : decode cX4_fillRanks 37 = .ok (.getfield 41, 3) := by decide +kernel
theorem dX4_fillRanks_40 : decode cX4_fillRanks 40 = .ok (.iload_n 3, 1) := by decide +kernel
theorem dX4_fillRanks_41 : decode cX4_fillRanks 41 = .ok (.iaload, 1) := by decide +kernel
theorem dX4_fillRanks_42 : decode cX4_fillRanks 42 = .ok (.iload_n 1, 1) := by decide +kernel
theorem dX4_fillRanks_43 : decode cX4_fillRanks 43 = .ok (.if_icmp .le 10, 3) := by decide +kernel
theorem dX4_fillRanks_46 : decode cX4_fillRanks 46 = .ok (.aload_n 0, 1) := by decide +kernel
theorem dX4_fillRanks_47 : decode cX4_fillRanks 47 = .ok (.getfield 41, 3) := by decide +kernel
theorem dX4_fillRanks_50 : decode cX4_fillRanks 50 = .ok (.iload_n 3, 1) := by decide +kernel
theorem dX4_fillRanks_51 : decode cX4_fillRanks 51 = .ok (.iaload, 1) := by decide +kernel
theorem dX4_fillRanks_52 : decode cX4_fillRanks 52 = .ok (.istore_n 1, 1) := by decide +kernel
theorem dX4_fillRanks_53 : decode cX4_fillRanks 53 = .ok (.iinc 2 1, 3) := by decide +kernel
theorem dX4_fillRanks_56 : decode cX4_fillRanks 56 = .ok (.goto (-52), 3) := by decide +kernel
theorem dX4_fillRanks_59 : decode cX4_fillRanks 59 = .ok (.iload_n 1, 1) := by decide +kernel
theorem dX4_fillRanks_60 : decode cX4_fillRanks 60 = .ok (.ireturn, 1) := by decide +kernel
theorem dX4_rankAbove_0 : decode cX4_rankAbove 0 = .ok (.iconst 0, 1) := by decide +kernel
theorem dX4_rankAbove_1 : decode cX4_rankAbove 1 = .ok (.istore_n 2, 1) := by decide +kernel
theorem dX4_rankAbove_2 : decode cX4_rankAbove 2 = .ok (.aload_n 0, 1) := by decide +kernel
theorem dX4_rankAbove_3 : decode cX4_rankAbove 3 = .ok (.getfield 10, 3) := by decide +kernel
theorem dX4_rankAbove_6 : decode cX4_rankAbove 6 = .ok (.getfield 218, 3) := by decide +kernel
theorem dX4_rankAbove_9 : decode cX4_rankAbove 9 = .ok (.iload_n 1, 1) := by decide +kernel
theorem dX4_rankAbove_10 : decode cX4_rankAbove 10 = .ok (.iaload, 1) := by decide +kernel
theorem dX4_rankAbove_11 : decode cX4_rankAbove 11 = .ok (.istore_n 3, 1) := by decide +kernel
theorem dX4_rankAbove_12 : decode cX4_rankAbove 12 = .ok (.iload_n 3, 1) := by decide +kernel
theorem dX4_rankAbove_13 : decode cX4_rankAbove 13 = .ok (.aload_n 0, 1) := by decide +kernel
theorem dX4_rankAbove_14 : decode cX4_rankAbove 14 = .ok (.getfield 10, 3) := by decide +kernel
theorem dX4_rankAbove_17 : decode cX4_rankAbove 17 = .ok (.getfield 218, 3) := by decide +kernel
theorem dX4_rankAbove_20 : decode cX4_rankAbove 20 = .ok (.iload_n 1, 1) := by decide +kernel
theorem dX4_rankAbove_21 : decode cX4_rankAbove 21 = .ok (.iconst 1, 1) := by decide +kernel
theorem dX4_rankAbove_22 : decode cX4_rankAbove 22 = .ok (.iadd, 1) := by decide +kernel
theorem dX4_rankAbove_23 : decode cX4_rankAbove 23 = .ok (.iaload, 1) := by decide +kernel
theorem dX4_rankAbove_24 : decode cX4_rankAbove 24 = .ok (.if_icmp .ge 62, 3) := by decide +kernel
theorem dX4_rankAbove_27 : decode cX4_rankAbove 27 = .ok (.aload_n 0, 1) := by decide +kernel
theorem dX4_rankAbove_28 : decode cX4_rankAbove 28 = .ok (.getfield 10, 3) := by decide +kernel
theorem dX4_rankAbove_31 : decode cX4_rankAbove 31 = .ok (.getfield 221, 3) := by decide +kernel
theorem dX4_rankAbove_34 : decode cX4_rankAbove 34 = .ok (.aload_n 0, 1) := by decide +kernel
theorem dX4_rankAbove_35 : decode cX4_rankAbove 35 = .ok (.getfield 10, 3) := by decide +kernel
theorem dX4_rankAbove_38 : decode cX4_rankAbove 38 = .ok (.getfield 224, 3) := by decide +kernel
theorem dX4_rankAbove_41 : decode cX4_rankAbove 41 = .ok (.iload_n 3, 1) := by decide +kernel
theorem dX4_rankAbove_42 : decode cX4_rankAbove 42 = .ok (.iaload, 1) := by decide +kernel
theorem dX4_rankAbove_43 : decode cX4_rankAbove 43 = .ok (.iaload, 1) := by decide +kernel
theorem dX4_rankAbove_44 : decode cX4_rankAbove 44 = .ok (.istore 4, 2) := by decide +kernel
theorem dX4_rankAbove_46 : decode cX4_rankAbove 46 = .ok (.aload_n 0, 1) := by decide +kernel
theorem dX4_rankAbove_47 : decode cX4_rankAbove 47 = .ok (.getfield 30, 3) := by decide +kernel
theorem dX4_rankAbove_50 : decode cX4_rankAbove 50 = .ok (.getfield 138, 3) := by decide +kernel
theorem dX4_rankAbove_53 : decode cX4_rankAbove 53 = .ok (.iload 4, 2) := by decide +kernel
theorem dX4_rankAbove_55 : decode cX4_rankAbove 55 = .ok (.baload, 1) := by decide +kernel
theorem dX4_rankAbove_56 : decode cX4_rankAbove 56 = .ok (.ifCond .eq 24, 3) := by decide +kernel
theorem dX4_rankAbove_59 : decode cX4_rankAbove 59 = .ok (.aload_n 0, 1) := by decide +kernel
theorem dX4_rankAbove_60 : decode cX4_rankAbove 60 = .ok (.getfield 41, 3) := by decide +kernel
theorem dX4_rankAbove_63 : decode cX4_rankAbove 63 = .ok (.iload 4, 2) := by decide +kernel
theorem dX4_rankAbove_65 : decode cX4_rankAbove 65 = .ok (.iaload, 1) := by decide +kernel
theorem dX4_rankAbove_66 : decode cX4_rankAbove 66 = .ok (.iload_n 2, 1) := by decide +kernel
theorem dX4_rankAbove_67 : decode cX4_rankAbove 67 = .ok (.if_icmp .lt 13, 3) := by decide +kernel
theorem dX4_rankAbove_70 : decode cX4_rankAbove 70 = .ok (.aload_n 0, 1) := by decide +kernel
theorem dX4_rankAbove_71 : decode cX4_rankAbove 71 = .ok (.getfield 41, 3) := by decide +kernel
theorem dX4_rankAbove_74 : decode cX4_rankAbove 74 = .ok (.iload 4, 2) := by decide +kernel
theorem dX4_rankAbove_76 : decode cX4_rankAbove 76 = .ok (.iaload, 1) := by decide +kernel
theorem dX4_rankAbove_77 : decode cX4_rankAbove 77 = .ok (.iconst 1, 1) := by decide +kernel
theorem dX4_rankAbove_78 : decode cX4_rankAbove 78 = .ok (.iadd, 1) := by decide +kernel
theorem dX4_rankAbove_79 : decode cX4_rankAbove 79 = .ok (.istore_n 2, 1) := by decide +kernel
theorem dX4_rankAbove_80 : decode cX4_rankAbove 80 = .ok (.iinc 3 1, 3) := by decide +kernel
theorem dX4_rankAbove_83 : decode cX4_rankAbove 83 = .ok (.goto (-71), 3) := by decide +kernel
theorem dX4_rankAbove_86 : decode cX4_rankAbove 86 = .ok (.iload_n 2, 1) := by decide +kernel
theorem dX4_rankAbove_87 : decode cX4_rankAbove 87 = .ok (.ireturn, 1) := by decide +kernel
theorem dX5_init_0 : decode cX5_init 0 = .ok (.aload_n 0, 1) := by decide +kernel
theorem dX5_init_1 : decode cX5_init 1 = .ok (.invokespecial 1, 3) := by decide +kernel
theorem dX5_init_4 : decode cX5_init 4 = .ok (.aload_n 0, 1) := by decide +kernel
theorem dX5_init_5 : decode cX5_init 5 = .ok (.sipush 200, 3) := by decide +kernel
theorem dX5_init_8 : decode cX5_init 8 = .ok (.newarray .int, 2) := by decide +kernel
theorem dX5_init_10 : decode cX5_init 10 = .ok (.putfield 7, 3) := by decide +kernel
theorem dX5_init_13 : decode cX5_init 13 = .ok (.aload_n 0, 1) := by decide +kernel
theorem dX5_init_14 : decode cX5_init 14 = .ok (.sipush 600, 3) := by decide +kernel
theorem dX5_init_17 : decode cX5_init 17 = .ok (.newarray .int, 2) := by decide +kernel
theorem dX5_init_19 : decode cX5_init 19 = .ok (.putfield 13, 3) := by decide +kernel
theorem dX5_init_22 : decode cX5_init 22 = .ok (.aload_n 0, 1) := by decide +kernel
theorem dX5_init_23 : decode cX5_init 23 = .ok (.sipush 600, 3) := by decide +kernel
theorem dX5_init_26 : decode cX5_init 26 = .ok (.newarray .int, 2) := by decide +kernel
theorem dX5_init_28 : decode cX5_init 28 = .ok (.putfield 16, 3) := by decide +kernel
theorem dX5_init_31 : decode cX5_init 31 = .ok (.aload_n 0, 1) := by decide +kernel
theorem dX5_init_32 : decode cX5_init 32 = .ok (.sipush 600, 3) := by decide +kernel
theorem dX5_init_35 : decode cX5_init 35 = .ok (.newarray .int, 2) := by decide +kernel
theorem dX5_init_37 : decode cX5_init 37 = .ok (.putfield 19, 3) := by decide +kernel
theorem dX5_init_40 : decode cX5_init 40 = .ok (.aload_n 0, 1) := by decide +kernel
theorem dX5_init_41 : decode cX5_init 41 = .ok (.bipush 16, 2) := by decide +kernel
theorem dX5_init_43 : decode cX5_init 43 = .ok (.newarray .int, 2) := by decide +kernel
theorem dX5_init_45 : decode cX5_init 45 = .ok (.putfield 22, 3) := by decide +kernel
theorem dX5_init_48 : decode cX5_init 48 = .ok (.aload_n 0, 1) := by decide +kernel
theorem dX5_init_49 : decode cX5_init 49 = .ok (.sipush 200, 3) := by decide +kernel
theorem dX5_init_52 : decode cX5_init 52 = .ok (.newarray .int, 2) := by decide +kernel
theorem dX5_init_54 : decode cX5_init 54 = .ok (.putfield 25, 3) := by decide +kernel
theorem dX5_init_57 : decode cX5_init 57 = .ok (.aload_n 0, 1) := by decide +kernel
theorem dX5_init_58 : decode cX5_init 58 = .ok (.sipush 200, 3) := by decide +kernel
theorem dX5_init_61 : decode cX5_init 61 = .ok (.newarray .int, 2) := by decide +kernel
theorem dX5_init_63 : decode cX5_init 63 = .ok (.putfield 28, 3) := by decide +kernel
theorem dX5_init_66 : decode cX5_init 66 = .ok (.aload_n 0, 1) := by decide +kernel
theorem dX5_init_67 : decode cX5_init 67 = .ok (.sipush 600, 3) := by decide +kernel
theorem dX5_init_70 : decode cX5_init 70 = .ok (.newarray .int, 2) := by decide +kernel
theorem dX5_init_72 : decode cX5_init 72 = .ok (.putfield 31, 3) := by decide +kernel
theorem dX5_init_75 : decode cX5_init 75 = .ok (.aload_n 0, 1) := by decide +kernel
theorem dX5_init_76 : decode cX5_init 76 = .ok (.sipush 200, 3) := by decide +kernel
theorem dX5_init_79 : decode cX5_init 79 = .ok (.newarray .boolean, 2) := by decide +kernel
theorem dX5_init_81 : decode cX5_init 81 = .ok (.putfield 34, 3) := by decide +kernel
theorem dX5_init_84 : decode cX5_init 84 = .ok (.aload_n 0, 1) := by decide +kernel
theorem dX5_init_85 : decode cX5_init 85 = .ok (.sipush 200, 3) := by decide +kernel
theorem dX5_init_88 : decode cX5_init 88 = .ok (.newarray .int, 2) := by decide +kernel
theorem dX5_init_90 : decode cX5_init 90 = .ok (.putfield 38, 3) := by decide +kernel
theorem dX5_init_93 : decode cX5_init 93 = .ok (.aload_n 0, 1) := by decide +kernel
theorem dX5_init_94 : decode cX5_init 94 = .ok (.sipush 200, 3) := by decide +kernel
theorem dX5_init_97 : decode cX5_init 97 = .ok (.newarray .int, 2) := by decide +kernel
theorem dX5_init_99 : decode cX5_init 99 = .ok (.putfield 41, 3) := by decide +kernel
theorem dX5_init_102 : decode cX5_init 102 = .ok (.aload_n 0, 1) := by decide +kernel
theorem dX5_init_103 : decode cX5_init 103 = .ok (.sipush 200, 3) := by decide +kernel
theorem dX5_init_106 : decode cX5_init 106 = .ok (.newarray .int, 2) := by decide +kernel
theorem dX5_init_108 : decode cX5_init 108 = .ok (.putfield 44, 3) := by decide +kernel
theorem dX5_init_111 : decode cX5_init 111 = .ok (.aload_n 0, 1) := by decide +kernel
theorem dX5_init_112 : decode cX5_init 112 = .ok (.sipush 200, 3) := by decide +kernel
theorem dX5_init_115 : decode cX5_init 115 = .ok (.newarray .boolean, 2) := by decide +kernel
theorem dX5_init_117 : decode cX5_init 117 = .ok (.putfield 47, 3) := by decide +kernel
theorem dX5_init_120 : decode cX5_init 120 = .ok (.aload_n 0, 1) := by decide +kernel
theorem dX5_init_121 : decode cX5_init 121 = .ok (.iconst (-1), 1) := by decide +kernel
theorem dX5_init_122 : decode cX5_init 122 = .ok (.putfield 50, 3) := by decide +kernel
theorem dX5_init_125 : decode cX5_init 125 = .ok (.aload_n 0, 1) := by decide +kernel
theorem dX5_init_126 : decode cX5_init 126 = .ok (.sipush 200, 3) := by decide +kernel
theorem dX5_init_129 : decode cX5_init 129 = .ok (.newarray .boolean, 2) := by decide +kernel
theorem dX5_init_131 : decode cX5_init 131 = .ok (.putfield 54, 3) := by decide +kernel
theorem dX5_init_134 : decode cX5_init 134 = .ok (.aload_n 0, 1) := by decide +kernel
theorem dX5_init_135 : decode cX5_init 135 = .ok (.ldc 57, 2) := by decide +kernel
theorem dX5_init_137 : decode cX5_init 137 = .ok (.newarray .boolean, 2) := by decide +kernel
theorem dX5_init_139 : decode cX5_init 139 = .ok (.putfield 58, 3) := by decide +kernel
theorem dX5_init_142 : decode cX5_init 142 = .ok (.aload_n 0, 1) := by decide +kernel
theorem dX5_init_143 : decode cX5_init 143 = .ok (.sipush 200, 3) := by decide +kernel
theorem dX5_init_146 : decode cX5_init 146 = .ok (.newarray .boolean, 2) := by decide +kernel
theorem dX5_init_148 : decode cX5_init 148 = .ok (.putfield 61, 3) := by decide +kernel
theorem dX5_init_151 : decode cX5_init 151 = .ok (.aload_n 0, 1) := by decide +kernel
theorem dX5_init_152 : decode cX5_init 152 = .ok (.sipush 200, 3) := by decide +kernel
theorem dX5_init_155 : decode cX5_init 155 = .ok (.newarray .boolean, 2) := by decide +kernel
theorem dX5_init_157 : decode cX5_init 157 = .ok (.putfield 64, 3) := by decide +kernel
theorem dX5_init_160 : decode cX5_init 160 = .ok (.aload_n 0, 1) := by decide +kernel
theorem dX5_init_161 : decode cX5_init 161 = .ok (.sipush 200, 3) := by decide +kernel
theorem dX5_init_164 : decode cX5_init 164 = .ok (.newarray .int, 2) := by decide +kernel
theorem dX5_init_166 : decode cX5_init 166 = .ok (.putfield 67, 3) := by decide +kernel
theorem dX5_init_169 : decode cX5_init 169 = .ok (.aload_n 0, 1) := by decide +kernel
theorem dX5_init_170 : decode cX5_init 170 = .ok (.sipush 200, 3) := by decide +kernel
theorem dX5_init_173 : decode cX5_init 173 = .ok (.newarray .int, 2) := by decide +kernel
theorem dX5_init_175 : decode cX5_init 175 = .ok (.putfield 70, 3) := by decide +kernel
theorem dX5_init_178 : decode cX5_init 178 = .ok (.return_, 1) := by decide +kernel
theorem dX5_thrown_0 : decode cX5_thrown 0 = .ok (.aload_n 0, 1) := by decide +kernel
theorem dX5_thrown_1 : decode cX5_thrown 1 = .ok (.getfield 73, 3) := by decide +kernel
theorem dX5_thrown_4 : decode cX5_thrown 4 = .ok (.ireturn, 1) := by decide +kernel
theorem dX5_changed_0 : decode cX5_changed 0 = .ok (.aload_n 0, 1) := by decide +kernel
theorem dX5_changed_1 : decode cX5_changed 1 = .ok (.iconst 0, 1) := by decide +kernel
theorem dX5_changed_2 : decode cX5_changed 2 = .ok (.putfield 76, 3) := by decide +kernel
theorem dX5_changed_5 : decode cX5_changed 5 = .ok (.aload_n 0, 1) := by decide +kernel
theorem dX5_changed_6 : decode cX5_changed 6 = .ok (.iconst (-1), 1) := by decide +kernel
theorem dX5_changed_7 : decode cX5_changed 7 = .ok (.putfield 50, 3) := by decide +kernel
theorem dX5_changed_10 : decode cX5_changed 10 = .ok (.return_, 1) := by decide +kernel
set_option maxRecDepth 20000 in
theorem ggX5_state_X5_changed : GoodIn wsX5_state wsX5_changed := goodIn_r _ [11, 12, 13, 14, 15, 16, 17, 18, 19, 20, 21, 22, 23, 24, 25, 26, 27, 28, 29, 30, 31, 32, 33, 34, 35, 36, 37, 38, 39, 40] (by decide +kernel) (by decide +kernel)
set_option maxRecDepth 20000 in
theorem gX5_state_X5_changed : GoodIn wsX5_state (wsV RX5 83 RX5 yX5_changed wsX5_changed) := goodIn_app (goodIn_of _ (by decide +kernel)) ggX5_state_X5_changed
theorem dX5_state_0 : decode cX5_state 0 = .ok (.aload_n 0, 1) := by decide +kernel
theorem dX5_state_1 : decode cX5_state 1 = .ok (.iload_n 1, 1) := by decide +kernel
theorem dX5_state_2 : decode cX5_state 2 = .ok (.ifCond .lt 10, 3) := by decide +kernel
theorem dX5_state_5 : decode cX5_state 5 = .ok (.iload_n 1, 1) := by decide +kernel
theorem dX5_state_6 : decode cX5_state 6 = .ok (.sipush 255, 3) := by decide +kernel
theorem dX5_state_9 : decode cX5_state 9 = .ok (.if_icmp .le 7, 3) := by decide +kernel
theorem dX5_state_12 : decode cX5_state 12 = .ok (.iconst 1, 1) := by decide +kernel
theorem dX5_state_13 : decode cX5_state 13 = .ok (.goto 18, 3) := by decide +kernel
theorem dX5_state_16 : decode cX5_state 16 = .ok (.aload_n 0, 1) := by decide +kernel
theorem dX5_state_17 : decode cX5_state 17 = .ok (.getfield 80, 3) := by decide +kernel
theorem dX5_state_20 : decode cX5_state 20 = .ok (.sipush 200, 3) := by decide +kernel
theorem dX5_state_23 : decode cX5_state 23 = .ok (.if_icmp .ne 7, 3) := by decide +kernel
theorem dX5_state_26 : decode cX5_state 26 = .ok (.iconst 2, 1) := by decide +kernel
theorem dX5_state_27 : decode cX5_state 27 = .ok (.goto 4, 3) := by decide +kernel
theorem dX5_state_30 : decode cX5_state 30 = .ok (.iconst 0, 1) := by decide +kernel
theorem dX5_state_31 : decode cX5_state 31 = .ok (.putfield 73, 3) := by decide +kernel
theorem dX5_state_34 : decode cX5_state 34 = .ok (.aload_n 0, 1) := by decide +kernel
theorem dX5_state_35 : decode cX5_state 35 = .ok (.getfield 73, 3) := by decide +kernel
theorem dX5_state_38 : decode cX5_state 38 = .ok (.ifCond .le 5, 3) := by decide +kernel
theorem dX5_state_41 : decode cX5_state 41 = .ok (.iconst 0, 1) := by decide +kernel
theorem dX5_state_42 : decode cX5_state 42 = .ok (.ireturn, 1) := by decide +kernel
theorem dX5_state_43 : decode cX5_state 43 = .ok (.aload_n 0, 1) := by decide +kernel
theorem dX5_state_44 : decode cX5_state 44 = .ok (.getfield 7, 3) := by decide +kernel
theorem dX5_state_47 : decode cX5_state 47 = .ok (.aload_n 0, 1) := by decide +kernel
theorem dX5_state_48 : decode cX5_state 48 = .ok (.getfield 80, 3) := by decide +kernel
theorem dX5_state_51 : decode cX5_state 51 = .ok (.iload_n 1, 1) := by decide +kernel
theorem dX5_state_52 : decode cX5_state 52 = .ok (.iastore, 1) := by decide +kernel
theorem dX5_state_53 : decode cX5_state 53 = .ok (.aload_n 0, 1) := by decide +kernel
theorem dX5_state_54 : decode cX5_state 54 = .ok (.getfield 34, 3) := by decide +kernel
theorem dX5_state_57 : decode cX5_state 57 = .ok (.aload_n 0, 1) := by decide +kernel
theorem dX5_state_58 : decode cX5_state 58 = .ok (.getfield 80, 3) := by decide +kernel
theorem dX5_state_61 : decode cX5_state 61 = .ok (.iload_n 2, 1) := by decide +kernel
theorem dX5_state_62 : decode cX5_state 62 = .ok (.bastore, 1) := by decide +kernel
theorem dX5_state_63 : decode cX5_state 63 = .ok (.aload_n 0, 1) := by decide +kernel
theorem dX5_state_64 : decode cX5_state 64 = .ok (.getfield 25, 3) := by decide +kernel
theorem dX5_state_67 : decode cX5_state 67 = .ok (.aload_n 0, 1) := by decide +kernel
theorem dX5_state_68 : decode cX5_state 68 = .ok (.getfield 80, 3) := by decide +kernel
theorem dX5_state_71 : decode cX5_state 71 = .ok (.iconst (-1), 1) := by decide +kernel
theorem dX5_state_72 : decode cX5_state 72 = .ok (.iastore, 1) := by decide +kernel
theorem dX5_state_73 : decode cX5_state 73 = .ok (.aload_n 0, 1) := by decide +kernel
theorem dX5_state_74 : decode cX5_state 74 = .ok (.getfield 28, 3) := by decide +kernel
theorem dX5_state_77 : decode cX5_state 77 = .ok (.aload_n 0, 1) := by decide +kernel
theorem dX5_state_78 : decode cX5_state 78 = .ok (.getfield 80, 3) := by decide +kernel
theorem dX5_state_81 : decode cX5_state 81 = .ok (.iconst (-1), 1) := by decide +kernel
theorem dX5_state_82 : decode cX5_state 82 = .ok (.iastore, 1) := by decide +kernel
theorem dX5_state_83 : decode cX5_state 83 = .ok (.aload_n 0, 1) := by decide +kernel
theorem dX5_state_84 : decode cX5_state 84 = .ok (.dup, 1) := by decide +kernel
theorem dX5_state_85 : decode cX5_state 85 = .ok (.getfield 80, 3) := by decide +kernel
theorem dX5_state_88 : decode cX5_state 88 = .ok (.iconst 1, 1) := by decide +kernel
theorem dX5_state_89 : decode cX5_state 89 = .ok (.iadd, 1) := by decide +kernel
theorem dX5_state_90 : decode cX5_state 90 = .ok (.putfield 80, 3) := by decide +kernel
theorem dX5_state_93 : decode cX5_state 93 = .ok (.aload_n 0, 1) := by decide +kernel
theorem dX5_state_94 : decode cX5_state 94 = .ok (.invokevirtual 83, 3) := by decide +kernel
theorem dX5_state_97 : decode cX5_state 97 = .ok (.aload_n 0, 1) := by decide +kernel
theorem dX5_state_98 : decode cX5_state 98 = .ok (.getfield 80, 3) := by decide +kernel
theorem dX5_state_101 : decode cX5_state 101 = .ok (.iconst 1, 1) := by decide +kernel
theorem dX5_state_102 : decode cX5_state 102 = .ok (.isub, 1) := by decide +kernel
theorem dX5_state_103 : decode cX5_state 103 = .ok (.ireturn, 1) := by decide +kernel
theorem dX5_isState_0 : decode cX5_isState 0 = .ok (.iload_n 1, 1) := by decide +kernel
theorem dX5_isState_1 : decode cX5_isState 1 = .ok (.ifCond .lt 15, 3) := by decide +kernel
theorem dX5_isState_4 : decode cX5_isState 4 = .ok (.iload_n 1, 1) := by decide +kernel
theorem dX5_isState_5 : decode cX5_isState 5 = .ok (.aload_n 0, 1) := by decide +kernel
theorem dX5_isState_6 : decode cX5_isState 6 = .ok (.getfield 80, 3) := by decide +kernel
theorem dX5_isState_9 : decode cX5_isState 9 = .ok (.if_icmp .ge 7, 3) := by decide +kernel
theorem dX5_isState_12 : decode cX5_isState 12 = .ok (.iconst 1, 1) := by decide +kernel
theorem dX5_isState_13 : decode cX5_isState 13 = .ok (.goto 4, 3) := by decide +kernel
theorem dX5_isState_16 : decode cX5_isState 16 = .ok (.iconst 0, 1) := by decide +kernel
theorem dX5_isState_17 : decode cX5_isState 17 = .ok (.ireturn, 1) := by decide +kernel
set_option maxRecDepth 20000 in
theorem ggX5_move_X5_isState : GoodIn wsX5_move wsX5_isState := goodIn_r _ [13, 14, 21, 22, 23, 24, 25, 26, 27, 28, 29, 30, 31, 32, 33, 34, 35, 36, 37, 38, 39, 40, 41, 42, 43, 44, 45, 46, 47] (by decide +kernel) (by decide +kernel)
set_option maxRecDepth 20000 in
theorem gX5_move_X5_isState : GoodIn wsX5_move (wsV RX5 86 RX5 yX5_isState wsX5_isState) := goodIn_app (goodIn_of _ (by decide +kernel)) ggX5_move_X5_isState
set_option maxRecDepth 20000 in
theorem ggX5_move_X5_changed : GoodIn wsX5_move wsX5_changed := goodIn_r _ [18, 19, 20, 21, 22, 23, 24, 25, 26, 27, 28, 29, 30, 31, 32, 33, 34, 35, 36, 37, 38, 39, 40, 41, 42, 43, 44, 45, 46, 47] (by decide +kernel) (by decide +kernel)
set_option maxRecDepth 20000 in
theorem gX5_move_X5_changed : GoodIn wsX5_move (wsV RX5 83 RX5 yX5_changed wsX5_changed) := goodIn_app (goodIn_of _ (by decide +kernel)) ggX5_move_X5_changed
theorem dX5_move_0 : decode cX5_move 0 = .ok (.aload_n 0, 1) := by decide +kernel
theorem dX5_move_1 : decode cX5_move 1 = .ok (.iload_n 1, 1) := by decide +kernel
theorem dX5_move_2 : decode cX5_move 2 = .ok (.invokevirtual 86, 3) := by decide +kernel
theorem dX5_move_5 : decode cX5_move 5 = .ok (.ifCond .eq 26, 3) := by decide +kernel
theorem dX5_move_8 : decode cX5_move 8 = .ok (.aload_n 0, 1) := by decide +kernel
theorem dX5_move_9 : decode cX5_move 9 = .ok (.iload_n 2, 1) := by decide +kernel
theorem dX5_move_10 : decode cX5_move 10 = .ok (.invokevirtual 86, 3) := by decide +kernel
theorem dX5_move_13 : decode cX5_move 13 = .ok (.ifCond .eq 18, 3) := by decide +kernel
theorem dX5_move_16 : decode cX5_move 16 = .ok (.iload_n 3, 1) := by decide +kernel
theorem dX5_move_17 : decode cX5_move 17 = .ok (.iconst (-1), 1) := by decide +kernel
theorem dX5_move_18 : decode cX5_move 18 = .ok (.if_icmp .lt 13, 3) := by decide +kernel
theorem dX5_move_21 : decode cX5_move 21 = .ok (.iload_n 3, 1) := by decide +kernel
theorem dX5_move_22 : decode cX5_move 22 = .ok (.bipush 16, 2) := by decide +kernel
theorem dX5_move_24 : decode cX5_move 24 = .ok (.if_icmp .ge 7, 3) := by decide +kernel
theorem dX5_move_27 : decode cX5_move 27 = .ok (.iconst 1, 1) := by decide +kernel
theorem dX5_move_28 : decode cX5_move 28 = .ok (.goto 4, 3) := by decide +kernel
theorem dX5_move_31 : decode cX5_move 31 = .ok (.iconst 0, 1) := by decide +kernel
theorem dX5_move_32 : decode cX5_move 32 = .ok (.istore 4, 2) := by decide +kernel
theorem dX5_move_34 : decode cX5_move 34 = .ok (.aload_n 0, 1) := by decide +kernel
theorem dX5_move_35 : decode cX5_move 35 = .ok (.iload 4, 2) := by decide +kernel
theorem dX5_move_37 : decode cX5_move 37 = .ok (.ifCond .ne 7, 3) := by decide +kernel
theorem dX5_move_40 : decode cX5_move 40 = .ok (.iconst 1, 1) := by decide +kernel
theorem dX5_move_41 : decode cX5_move 41 = .ok (.goto 18, 3) := by decide +kernel
theorem dX5_move_44 : decode cX5_move 44 = .ok (.aload_n 0, 1) := by decide +kernel
theorem dX5_move_45 : decode cX5_move 45 = .ok (.getfield 90, 3) := by decide +kernel
theorem dX5_move_48 : decode cX5_move 48 = .ok (.sipush 600, 3) := by decide +kernel
theorem dX5_move_51 : decode cX5_move 51 = .ok (.if_icmp .ne 7, 3) := by decide +kernel
theorem dX5_move_54 : decode cX5_move 54 = .ok (.iconst 2, 1) := by decide +kernel
theorem dX5_move_55 : decode cX5_move 55 = .ok (.goto 4, 3) := by decide +kernel
theorem dX5_move_58 : decode cX5_move 58 = .ok (.iconst 0, 1) := by decide +kernel
theorem dX5_move_59 : decode cX5_move 59 = .ok (.putfield 73, 3) := by decide +kernel
theorem dX5_move_62 : decode cX5_move 62 = .ok (.aload_n 0, 1) := by decide +kernel
theorem dX5_move_63 : decode cX5_move 63 = .ok (.getfield 73, 3) := by decide +kernel
theorem dX5_move_66 : decode cX5_move 66 = .ok (.ifCond .le 5, 3) := by decide +kernel
theorem dX5_move_69 : decode cX5_move 69 = .ok (.iconst 0, 1) := by decide +kernel
theorem dX5_move_70 : decode cX5_move 70 = .ok (.ireturn, 1) := by decide +kernel
theorem dX5_move_71 : decode cX5_move 71 = .ok (.aload_n 0, 1) := by decide +kernel
theorem dX5_move_72 : decode cX5_move 72 = .ok (.getfield 13, 3) := by decide +kernel
theorem dX5_move_75 : decode cX5_move 75 = .ok (.aload_n 0, 1) := by decide +kernel
theorem dX5_move_76 : decode cX5_move 76 = .ok (.getfield 90, 3) := by decide +kernel
theorem dX5_move_79 : decode cX5_move 79 = .ok (.iload_n 1, 1) := by decide +kernel
theorem dX5_move_80 : decode cX5_move 80 = .ok (.iastore, 1) := by decide +kernel
theorem dX5_move_81 : decode cX5_move 81 = .ok (.aload_n 0, 1) := by decide +kernel
theorem dX5_move_82 : decode cX5_move 82 = .ok (.getfield 16, 3) := by decide +kernel
theorem dX5_move_85 : decode cX5_move 85 = .ok (.aload_n 0, 1) := by decide +kernel
theorem dX5_move_86 : decode cX5_move 86 = .ok (.getfield 90, 3) := by decide +kernel
theorem dX5_move_89 : decode cX5_move 89 = .ok (.iload_n 2, 1) := by decide +kernel
theorem dX5_move_90 : decode cX5_move 90 = .ok (.iastore, 1) := by decide +kernel
theorem dX5_move_91 : decode cX5_move 91 = .ok (.aload_n 0, 1) := by decide +kernel
theorem dX5_move_92 : decode cX5_move 92 = .ok (.getfield 19, 3) := by decide +kernel
theorem dX5_move_95 : decode cX5_move 95 = .ok (.aload_n 0, 1) := by decide +kernel
theorem dX5_move_96 : decode cX5_move 96 = .ok (.getfield 90, 3) := by decide +kernel
theorem dX5_move_99 : decode cX5_move 99 = .ok (.iload_n 3, 1) := by decide +kernel
theorem dX5_move_100 : decode cX5_move 100 = .ok (.iastore, 1) := by decide +kernel
theorem dX5_move_101 : decode cX5_move 101 = .ok (.aload_n 0, 1) := by decide +kernel
theorem dX5_move_102 : decode cX5_move 102 = .ok (.getfield 31, 3) := by decide +kernel
theorem dX5_move_105 : decode cX5_move 105 = .ok (.aload_n 0, 1) := by decide +kernel
theorem dX5_move_106 : decode cX5_move 106 = .ok (.getfield 90, 3) := by decide +kernel
theorem dX5_move_109 : decode cX5_move 109 = .ok (.iconst (-1), 1) := by decide +kernel
theorem dX5_move_110 : decode cX5_move 110 = .ok (.iastore, 1) := by decide +kernel
theorem dX5_move_111 : decode cX5_move 111 = .ok (.aload_n 0, 1) := by decide +kernel
theorem dX5_move_112 : decode cX5_move 112 = .ok (.getfield 25, 3) := by decide +kernel
theorem dX5_move_115 : decode cX5_move 115 = .ok (.iload_n 1, 1) := by decide +kernel
theorem dX5_move_116 : decode cX5_move 116 = .ok (.iaload, 1) := by decide +kernel
theorem dX5_move_117 : decode cX5_move 117 = .ok (.iconst (-1), 1) := by decide +kernel
theorem dX5_move_118 : decode cX5_move 118 = .ok (.if_icmp .ne 16, 3) := by decide +kernel
theorem dX5_move_121 : decode cX5_move 121 = .ok (.aload_n 0, 1) := by decide +kernel
theorem dX5_move_122 : decode cX5_move 122 = .ok (.getfield 25, 3) := by decide +kernel
theorem dX5_move_125 : decode cX5_move 125 = .ok (.iload_n 1, 1) := by decide +kernel
theorem dX5_move_126 : decode cX5_move 126 = .ok (.aload_n 0, 1) := by decide +kernel
theorem dX5_move_127 : decode cX5_move 127 = .ok (.getfield 90, 3) := by decide +kernel
theorem dX5_move_130 : decode cX5_move 130 = .ok (.iastore, 1) := by decide +kernel
theorem dX5_move_131 : decode cX5_move 131 = .ok (.goto 18, 3) := by decide +kernel
theorem dX5_move_134 : decode cX5_move 134 = .ok (.aload_n 0, 1) := by decide +kernel
theorem dX5_move_135 : decode cX5_move 135 = .ok (.getfield 31, 3) := by decide +kernel
theorem dX5_move_138 : decode cX5_move 138 = .ok (.aload_n 0, 1) := by decide +kernel
theorem dX5_move_139 : decode cX5_move 139 = .ok (.getfield 28, 3) := by decide +kernel
theorem dX5_move_142 : decode cX5_move 142 = .ok (.iload_n 1, 1) := by decide +kernel
theorem dX5_move_143 : decode cX5_move 143 = .ok (.iaload, 1) := by decide +kernel
theorem dX5_move_144 : decode cX5_move 144 = .ok (.aload_n 0, 1) := by decide +kernel
theorem dX5_move_145 : decode cX5_move 145 = .ok (.getfield 90, 3) := by decide +kernel
theorem dX5_move_148 : decode cX5_move 148 = .ok (.iastore, 1) := by decide +kernel
theorem dX5_move_149 : decode cX5_move 149 = .ok (.aload_n 0, 1) := by decide +kernel
theorem dX5_move_150 : decode cX5_move 150 = .ok (.getfield 28, 3) := by decide +kernel
theorem dX5_move_153 : decode cX5_move 153 = .ok (.iload_n 1, 1) := by decide +kernel
theorem dX5_move_154 : decode cX5_move 154 = .ok (.aload_n 0, 1) := by decide +kernel
theorem dX5_move_155 : decode cX5_move 155 = .ok (.getfield 90, 3) := by decide +kernel
theorem dX5_move_158 : decode cX5_move 158 = .ok (.iastore, 1) := by decide +kernel
theorem dX5_move_159 : decode cX5_move 159 = .ok (.aload_n 0, 1) := by decide +kernel
theorem dX5_move_160 : decode cX5_move 160 = .ok (.dup, 1) := by decide +kernel
theorem dX5_move_161 : decode cX5_move 161 = .ok (.getfield 90, 3) := by decide +kernel
theorem dX5_move_164 : decode cX5_move 164 = .ok (.iconst 1, 1) := by decide +kernel
theorem dX5_move_165 : decode cX5_move 165 = .ok (.iadd, 1) := by decide +kernel
theorem dX5_move_166 : decode cX5_move 166 = .ok (.putfield 90, 3) := by decide +kernel
theorem dX5_move_169 : decode cX5_move 169 = .ok (.aload_n 0, 1) := by decide +kernel
theorem dX5_move_170 : decode cX5_move 170 = .ok (.invokevirtual 83, 3) := by decide +kernel
theorem dX5_move_173 : decode cX5_move 173 = .ok (.aload_n 0, 1) := by decide +kernel
theorem dX5_move_174 : decode cX5_move 174 = .ok (.getfield 90, 3) := by decide +kernel
theorem dX5_move_177 : decode cX5_move 177 = .ok (.iconst 1, 1) := by decide +kernel
theorem dX5_move_178 : decode cX5_move 178 = .ok (.isub, 1) := by decide +kernel
theorem dX5_move_179 : decode cX5_move 179 = .ok (.ireturn, 1) := by decide +kernel
set_option maxRecDepth 20000 in
theorem ggX5_label_X5_changed : GoodIn wsX5_label wsX5_changed := goodIn_r _ [7, 8, 9, 10, 11, 12, 13, 14, 15, 16, 17, 18, 19, 20, 21, 22, 23, 24, 25, 26, 27, 28, 29, 30, 31, 32, 33, 34, 35, 36] (by decide +kernel) (by decide +kernel)
set_option maxRecDepth 20000 in
theorem gX5_label_X5_changed : GoodIn wsX5_label (wsV RX5 83 RX5 yX5_changed wsX5_changed) := goodIn_app (goodIn_of _ (by decide +kernel)) ggX5_label_X5_changed
theorem dX5_label_0 : decode cX5_label 0 = .ok (.aload_n 0, 1) := by decide +kernel
theorem dX5_label_1 : decode cX5_label 1 = .ok (.iload_n 1, 1) := by decide +kernel
theorem dX5_label_2 : decode cX5_label 2 = .ok (.ifCond .lt 9, 3) := by decide +kernel
theorem dX5_label_5 : decode cX5_label 5 = .ok (.iload_n 1, 1) := by decide +kernel
theorem dX5_label_6 : decode cX5_label 6 = .ok (.bipush 16, 2) := by decide +kernel
theorem dX5_label_8 : decode cX5_label 8 = .ok (.if_icmp .lt 7, 3) := by decide +kernel
theorem dX5_label_11 : decode cX5_label 11 = .ok (.iconst 1, 1) := by decide +kernel
theorem dX5_label_12 : decode cX5_label 12 = .ok (.goto 17, 3) := by decide +kernel
theorem dX5_label_15 : decode cX5_label 15 = .ok (.iload_n 2, 1) := by decide +kernel
theorem dX5_label_16 : decode cX5_label 16 = .ok (.ifCond .lt 8, 3) := by decide +kernel
theorem dX5_label_19 : decode cX5_label 19 = .ok (.iload_n 2, 1) := by decide +kernel
theorem dX5_label_20 : decode cX5_label 20 = .ok (.iconst 2, 1) := by decide +kernel
theorem dX5_label_21 : decode cX5_label 21 = .ok (.if_icmp .le 7, 3) := by decide +kernel
theorem dX5_label_24 : decode cX5_label 24 = .ok (.iconst 2, 1) := by decide +kernel
theorem dX5_label_25 : decode cX5_label 25 = .ok (.goto 4, 3) := by decide +kernel
theorem dX5_label_28 : decode cX5_label 28 = .ok (.iconst 0, 1) := by decide +kernel
theorem dX5_label_29 : decode cX5_label 29 = .ok (.putfield 73, 3) := by decide +kernel
theorem dX5_label_32 : decode cX5_label 32 = .ok (.aload_n 0, 1) := by decide +kernel
theorem dX5_label_33 : decode cX5_label 33 = .ok (.getfield 73, 3) := by decide +kernel
theorem dX5_label_36 : decode cX5_label 36 = .ok (.ifCond .le 5, 3) := by decide +kernel
theorem dX5_label_39 : decode cX5_label 39 = .ok (.iconst 0, 1) := by decide +kernel
theorem dX5_label_40 : decode cX5_label 40 = .ok (.ireturn, 1) := by decide +kernel
theorem dX5_label_41 : decode cX5_label 41 = .ok (.aload_n 0, 1) := by decide +kernel
theorem dX5_label_42 : decode cX5_label 42 = .ok (.getfield 22, 3) := by decide +kernel
theorem dX5_label_45 : decode cX5_label 45 = .ok (.iload_n 1, 1) := by decide +kernel
theorem dX5_label_46 : decode cX5_label 46 = .ok (.iaload, 1) := by decide +kernel
theorem dX5_label_47 : decode cX5_label 47 = .ok (.istore_n 3, 1) := by decide +kernel
theorem dX5_label_48 : decode cX5_label 48 = .ok (.aload_n 0, 1) := by decide +kernel
theorem dX5_label_49 : decode cX5_label 49 = .ok (.getfield 22, 3) := by decide +kernel
theorem dX5_label_52 : decode cX5_label 52 = .ok (.iload_n 1, 1) := by decide +kernel
theorem dX5_label_53 : decode cX5_label 53 = .ok (.iload_n 2, 1) := by decide +kernel
theorem dX5_label_54 : decode cX5_label 54 = .ok (.iastore, 1) := by decide +kernel
theorem dX5_label_55 : decode cX5_label 55 = .ok (.aload_n 0, 1) := by decide +kernel
theorem dX5_label_56 : decode cX5_label 56 = .ok (.invokevirtual 83, 3) := by decide +kernel
theorem dX5_label_59 : decode cX5_label 59 = .ok (.iload_n 3, 1) := by decide +kernel
theorem dX5_label_60 : decode cX5_label 60 = .ok (.ireturn, 1) := by decide +kernel
theorem dX5_walk_0 : decode cX5_walk 0 = .ok (.aload_n 0, 1) := by decide +kernel
theorem dX5_walk_1 : decode cX5_walk 1 = .ok (.getfield 76, 3) := by decide +kernel
theorem dX5_walk_4 : decode cX5_walk 4 = .ok (.ifCond .eq 4, 3) := by decide +kernel
theorem dX5_walk_7 : decode cX5_walk 7 = .ok (.return_, 1) := by decide +kernel
theorem dX5_walk_8 : decode cX5_walk 8 = .ok (.aload_n 0, 1) := by decide +kernel
theorem dX5_walk_9 : decode cX5_walk 9 = .ok (.iconst 1, 1) := by decide +kernel
theorem dX5_walk_10 : decode cX5_walk 10 = .ok (.putfield 76, 3) := by decide +kernel
theorem dX5_walk_13 : decode cX5_walk 13 = .ok (.aload_n 0, 1) := by decide +kernel
theorem dX5_walk_14 : decode cX5_walk 14 = .ok (.iconst 0, 1) := by decide +kernel
theorem dX5_walk_15 : decode cX5_walk 15 = .ok (.putfield 93, 3) := by decide +kernel
theorem dX5_walk_18 : decode cX5_walk 18 = .ok (.iconst 0, 1) := by decide +kernel
theorem dX5_walk_19 : decode cX5_walk 19 = .ok (.istore_n 1, 1) := by decide +kernel
theorem dX5_walk_20 : decode cX5_walk 20 = .ok (.iload_n 1, 1) := by decide +kernel
theorem dX5_walk_21 : decode cX5_walk 21 = .ok (.aload_n 0, 1) := by decide +kernel
theorem dX5_walk_22 : decode cX5_walk 22 = .ok (.getfield 80, 3) := by decide +kernel
theorem dX5_walk_25 : decode cX5_walk 25 = .ok (.if_icmp .ge 16, 3) := by decide +kernel
theorem dX5_walk_28 : decode cX5_walk 28 = .ok (.aload_n 0, 1) := by decide +kernel
theorem dX5_walk_29 : decode cX5_walk 29 = .ok (.getfield 47, 3) := by decide +kernel
theorem dX5_walk_32 : decode cX5_walk 32 = .ok (.iload_n 1, 1) := by decide +kernel
theorem dX5_walk_33 : decode cX5_walk 33 = .ok (.iconst 0, 1) := by decide +kernel
theorem dX5_walk_34 : decode cX5_walk 34 = .ok (.bastore, 1) := by decide +kernel
theorem dX5_walk_35 : decode cX5_walk 35 = .ok (.iinc 1 1, 3) := by decide +kernel
theorem dX5_walk_38 : decode cX5_walk 38 = .ok (.goto (-18), 3) := by decide +kernel
theorem dX5_walk_41 : decode cX5_walk 41 = .ok (.aload_n 0, 1) := by decide +kernel
theorem dX5_walk_42 : decode cX5_walk 42 = .ok (.getfield 80, 3) := by decide +kernel
theorem dX5_walk_45 : decode cX5_walk 45 = .ok (.ifCond .ne 4, 3) := by decide +kernel
theorem dX5_walk_48 : decode cX5_walk 48 = .ok (.return_, 1) := by decide +kernel
theorem dX5_walk_49 : decode cX5_walk 49 = .ok (.aload_n 0, 1) := by decide +kernel
theorem dX5_walk_50 : decode cX5_walk 50 = .ok (.getfield 47, 3) := by decide +kernel
theorem dX5_walk_53 : decode cX5_walk 53 = .ok (.iconst 0, 1) := by decide +kernel
theorem dX5_walk_54 : decode cX5_walk 54 = .ok (.iconst 1, 1) := by decide +kernel
theorem dX5_walk_55 : decode cX5_walk 55 = .ok (.bastore, 1) := by decide +kernel
theorem dX5_walk_56 : decode cX5_walk 56 = .ok (.aload_n 0, 1) := by decide +kernel
theorem dX5_walk_57 : decode cX5_walk 57 = .ok (.getfield 41, 3) := by decide +kernel
theorem dX5_walk_60 : decode cX5_walk 60 = .ok (.iconst 0, 1) := by decide +kernel
theorem dX5_walk_61 : decode cX5_walk 61 = .ok (.iconst (-1), 1) := by decide +kernel
theorem dX5_walk_62 : decode cX5_walk 62 = .ok (.iastore, 1) := by decide +kernel
theorem dX5_walk_63 : decode cX5_walk 63 = .ok (.aload_n 0, 1) := by decide +kernel
theorem dX5_walk_64 : decode cX5_walk 64 = .ok (.getfield 38, 3) := by decide +kernel
theorem dX5_walk_67 : decode cX5_walk 67 = .ok (.iconst 0, 1) := by decide +kernel
theorem dX5_walk_68 : decode cX5_walk 68 = .ok (.iconst 0, 1) := by decide +kernel
theorem dX5_walk_69 : decode cX5_walk 69 = .ok (.iastore, 1) := by decide +kernel
theorem dX5_walk_70 : decode cX5_walk 70 = .ok (.aload_n 0, 1) := by decide +kernel
theorem dX5_walk_71 : decode cX5_walk 71 = .ok (.iconst 1, 1) := by decide +kernel
theorem dX5_walk_72 : decode cX5_walk 72 = .ok (.putfield 93, 3) := by decide +kernel
theorem dX5_walk_75 : decode cX5_walk 75 = .ok (.iconst 0, 1) := by decide +kernel
theorem dX5_walk_76 : decode cX5_walk 76 = .ok (.istore_n 1, 1) := by decide +kernel
theorem dX5_walk_77 : decode cX5_walk 77 = .ok (.iload_n 1, 1) := by decide +kernel
theorem dX5_walk_78 : decode cX5_walk 78 = .ok (.aload_n 0, 1) := by decide +kernel
theorem dX5_walk_79 : decode cX5_walk 79 = .ok (.getfield 93, 3) := by decide +kernel
theorem dX5_walk_82 : decode cX5_walk 82 = .ok (.if_icmp .ge 99, 3) := by decide +kernel
theorem dX5_walk_85 : decode cX5_walk 85 = .ok (.aload_n 0, 1) := by decide +kernel
theorem dX5_walk_86 : decode cX5_walk 86 = .ok (.getfield 25, 3) := by decide +kernel
theorem dX5_walk_89 : decode cX5_walk 89 = .ok (.aload_n 0, 1) := by decide +kernel
theorem dX5_walk_90 : decode cX5_walk 90 = .ok (.getfield 38, 3) := by decide +kernel
theorem dX5_walk_93 : decode cX5_walk 93 = .ok (.iload_n 1, 1) := by decide +kernel
theorem dX5_walk_94 : decode cX5_walk 94 = .ok (.iaload, 1) := by decide +kernel
theorem dX5_walk_95 : decode cX5_walk 95 = .ok (.iaload, 1) := by decide +kernel
theorem dX5_walk_96 : decode cX5_walk 96 = .ok (.istore_n 2, 1) := by decide +kernel
theorem dX5_walk_97 : decode cX5_walk 97 = .ok (.iload_n 2, 1) := by decide +kernel
theorem dX5_walk_98 : decode cX5_walk 98 = .ok (.iconst (-1), 1) := by decide +kernel
theorem dX5_walk_99 : decode cX5_walk 99 = .ok (.if_icmp .eq 76, 3) := by decide +kernel
theorem dX5_walk_102 : decode cX5_walk 102 = .ok (.aload_n 0, 1) := by decide +kernel
theorem dX5_walk_103 : decode cX5_walk 103 = .ok (.getfield 47, 3) := by decide +kernel
theorem dX5_walk_106 : decode cX5_walk 106 = .ok (.aload_n 0, 1) := by decide +kernel
theorem dX5_walk_107 : decode cX5_walk 107 = .ok (.getfield 16, 3) := by decide +kernel
theorem dX5_walk_110 : decode cX5_walk 110 = .ok (.iload_n 2, 1) := by decide +kernel
theorem dX5_walk_111 : decode cX5_walk 111 = .ok (.iaload, 1) := by decide +kernel
theorem dX5_walk_112 : decode cX5_walk 112 = .ok (.baload, 1) := by decide +kernel
theorem dX5_walk_113 : decode cX5_walk 113 = .ok (.ifCond .ne 52, 3) := by decide +kernel
theorem dX5_walk_116 : decode cX5_walk 116 = .ok (.aload_n 0, 1) := by decide +kernel
theorem dX5_walk_117 : decode cX5_walk 117 = .ok (.getfield 47, 3) := by decide +kernel
theorem dX5_walk_120 : decode cX5_walk 120 = .ok (.aload_n 0, 1) := by decide +kernel
theorem dX5_walk_121 : decode cX5_walk 121 = .ok (.getfield 16, 3) := by decide +kernel
theorem dX5_walk_124 : decode cX5_walk 124 = .ok (.iload_n 2, 1) := by decide +kernel
theorem dX5_walk_125 : decode cX5_walk 125 = .ok (.iaload, 1) := by decide +kernel
theorem dX5_walk_126 : decode cX5_walk 126 = .ok (.iconst 1, 1) := by decide +kernel
theorem dX5_walk_127 : decode cX5_walk 127 = .ok (.bastore, 1) := by decide +kernel
theorem dX5_walk_128 : decode cX5_walk 128 = .ok (.aload_n 0, 1) := by decide +kernel
theorem dX5_walk_129 : decode cX5_walk 129 = .ok (.getfield 41, 3) := by decide +kernel
theorem dX5_walk_132 : decode cX5_walk 132 = .ok (.aload_n 0, 1) := by decide +kernel
theorem dX5_walk_133 : decode cX5_walk 133 = .ok (.getfield 16, 3) := by decide +kernel
theorem dX5_walk_136 : decode cX5_walk 136 = .ok (.iload_n 2, 1) := by decide +kernel
theorem dX5_walk_137 : decode cX5_walk 137 = .ok (.iaload, 1) := by decide +kernel
theorem dX5_walk_138 : decode cX5_walk 138 = .ok (.iload_n 2, 1) := by decide +kernel
theorem dX5_walk_139 : decode cX5_walk 139 = .ok (.iastore, 1) := by decide +kernel
theorem dX5_walk_140 : decode cX5_walk 140 = .ok (.aload_n 0, 1) := by decide +kernel
theorem dX5_walk_141 : decode cX5_walk 141 = .ok (.getfield 38, 3) := by decide +kernel
theorem dX5_walk_144 : decode cX5_walk 144 = .ok (.aload_n 0, 1) := by decide +kernel
theorem dX5_walk_145 : decode cX5_walk 145 = .ok (.getfield 93, 3) := by decide +kernel
theorem dX5_walk_148 : decode cX5_walk 148 = .ok (.aload_n 0, 1) := by decide +kernel
theorem dX5_walk_149 : decode cX5_walk 149 = .ok (.getfield 16, 3) := by decide +kernel
theorem dX5_walk_152 : decode cX5_walk 152 = .ok (.iload_n 2, 1) := by decide +kernel
theorem dX5_walk_153 : decode cX5_walk 153 = .ok (.iaload, 1) := by decide +kernel
theorem dX5_walk_154 : decode cX5_walk 154 = .ok (.iastore, 1) := by decide +kernel
theorem dX5_walk_155 : decode cX5_walk 155 = .ok (.aload_n 0, 1) := by decide +kernel
theorem dX5_walk_156 : decode cX5_walk 156 = .ok (.dup, 1) := by decide +kernel
theorem dX5_walk_157 : decode cX5_walk 157 = .ok (.getfield 93, 3) := by decide +kernel
theorem dX5_walk_160 : decode cX5_walk 160 = .ok (.iconst 1, 1) := by decide +kernel
theorem dX5_walk_161 : decode cX5_walk 161 = .ok (.iadd, 1) := by decide +kernel
theorem dX5_walk_162 : decode cX5_walk 162 = .ok (.putfield 93, 3) := by decide +kernel
theorem dX5_walk_165 : decode cX5_walk 165 = .ok (.aload_n 0, 1) := by decide +kernel
theorem dX5_walk_166 : decode cX5_walk 166 = .ok (.getfield 31, 3) := by decide +kernel
theorem dX5_walk_169 : decode cX5_walk 169 = .ok (.iload_n 2, 1) := by decide +kernel
theorem dX5_walk_170 : decode cX5_walk 170 = .ok (.iaload, 1) := by decide +kernel
theorem dX5_walk_171 : decode cX5_walk 171 = .ok (.istore_n 2, 1) := by decide +kernel
theorem dX5_walk_172 : decode cX5_walk 172 = .ok (.goto (-75), 3) := by decide +kernel
theorem dX5_walk_175 : decode cX5_walk 175 = .ok (.iinc 1 1, 3) := by decide +kernel
theorem dX5_walk_178 : decode cX5_walk 178 = .ok (.goto (-101), 3) := by decide +kernel
theorem dX5_walk_181 : decode cX5_walk 181 = .ok (.return_, 1) := by decide +kernel
set_option maxRecDepth 20000 in
theorem ggX5_reached_X5_walk : GoodIn wsX5_reached wsX5_walk := goodIn_r _ [7, 8, 2, 9, 10, 11, 12, 13, 14, 15, 16, 17, 18, 19, 20, 21, 22, 23, 24, 25, 26, 27, 28, 29, 30, 31, 32, 33, 34, 35, 36, 37, 38, 39, 40, 41, 42] (by decide +kernel) (by decide +kernel)
set_option maxRecDepth 20000 in
theorem gX5_reached_X5_walk : GoodIn wsX5_reached (wsV RX5 96 RX5 yX5_walk wsX5_walk) := goodIn_app (goodIn_of _ (by decide +kernel)) ggX5_reached_X5_walk
theorem dX5_reached_0 : decode cX5_reached 0 = .ok (.aload_n 0, 1) := by decide +kernel
theorem dX5_reached_1 : decode cX5_reached 1 = .ok (.iconst 0, 1) := by decide +kernel
theorem dX5_reached_2 : decode cX5_reached 2 = .ok (.putfield 73, 3) := by decide +kernel
theorem dX5_reached_5 : decode cX5_reached 5 = .ok (.aload_n 0, 1) := by decide +kernel
theorem dX5_reached_6 : decode cX5_reached 6 = .ok (.invokevirtual 96, 3) := by decide +kernel
theorem dX5_reached_9 : decode cX5_reached 9 = .ok (.aload_n 0, 1) := by decide +kernel
theorem dX5_reached_10 : decode cX5_reached 10 = .ok (.getfield 93, 3) := by decide +kernel
theorem dX5_reached_13 : decode cX5_reached 13 = .ok (.ireturn, 1) := by decide +kernel
set_option maxRecDepth 20000 in
theorem ggX5_row_X5_isState : GoodIn wsX5_row wsX5_isState := goodIn_r _ [10, 11, 22, 23, 24, 25, 26, 27, 28, 29, 30, 31, 32, 33, 34, 35, 36, 37, 38, 39, 40, 41, 42, 43, 44, 45, 46, 47, 48] (by decide +kernel) (by decide +kernel)
set_option maxRecDepth 20000 in
theorem gX5_row_X5_isState : GoodIn wsX5_row (wsV RX5 86 RX5 yX5_isState wsX5_isState) := goodIn_app (goodIn_of _ (by decide +kernel)) ggX5_row_X5_isState
set_option maxRecDepth 20000 in
theorem ggX5_row_X5_walk : GoodIn wsX5_row wsX5_walk := goodIn_r _ [15, 16, 17, 11, 2, 3, 18, 19, 20, 21, 22, 23, 24, 25, 26, 27, 28, 29, 30, 31, 32, 33, 34, 35, 36, 37, 38, 39, 40, 41, 42, 43, 44, 45, 46, 47, 48] (by decide +kernel) (by decide +kernel)
set_option maxRecDepth 20000 in
theorem gX5_row_X5_walk : GoodIn wsX5_row (wsV RX5 96 RX5 yX5_walk wsX5_walk) := goodIn_app (goodIn_of _ (by decide +kernel)) ggX5_row_X5_walk
theorem dX5_row_0 : decode cX5_row 0 = .ok (.aload_n 0, 1) := by decide +kernel
theorem dX5_row_1 : decode cX5_row 1 = .ok (.aload_n 0, 1) := by decide +kernel
theorem dX5_row_2 : decode cX5_row 2 = .ok (.iload_n 1, 1) := by decide +kernel
theorem dX5_row_3 : decode cX5_row 3 = .ok (.invokevirtual 86, 3) := by decide +kernel
theorem dX5_row_6 : decode cX5_row 6 = .ok (.ifCond .eq 7, 3) := by decide +kernel
theorem dX5_row_9 : decode cX5_row 9 = .ok (.iload_n 2, 1) := by decide +kernel
theorem dX5_row_10 : decode cX5_row 10 = .ok (.ifCond .ge 7, 3) := by decide +kernel
theorem dX5_row_13 : decode cX5_row 13 = .ok (.iconst 1, 1) := by decide +kernel
theorem dX5_row_14 : decode cX5_row 14 = .ok (.goto 4, 3) := by decide +kernel
theorem dX5_row_17 : decode cX5_row 17 = .ok (.iconst 0, 1) := by decide +kernel
theorem dX5_row_18 : decode cX5_row 18 = .ok (.putfield 73, 3) := by decide +kernel
theorem dX5_row_21 : decode cX5_row 21 = .ok (.aload_n 0, 1) := by decide +kernel
theorem dX5_row_22 : decode cX5_row 22 = .ok (.getfield 73, 3) := by decide +kernel
theorem dX5_row_25 : decode cX5_row 25 = .ok (.ifCond .le 5, 3) := by decide +kernel
theorem dX5_row_28 : decode cX5_row 28 = .ok (.iconst 0, 1) := by decide +kernel
theorem dX5_row_29 : decode cX5_row 29 = .ok (.ireturn, 1) := by decide +kernel
theorem dX5_row_30 : decode cX5_row 30 = .ok (.aload_n 0, 1) := by decide +kernel
theorem dX5_row_31 : decode cX5_row 31 = .ok (.invokevirtual 96, 3) := by decide +kernel
theorem dX5_row_34 : decode cX5_row 34 = .ok (.aload_n 0, 1) := by decide +kernel
theorem dX5_row_35 : decode cX5_row 35 = .ok (.getfield 47, 3) := by decide +kernel
theorem dX5_row_38 : decode cX5_row 38 = .ok (.iload_n 1, 1) := by decide +kernel
theorem dX5_row_39 : decode cX5_row 39 = .ok (.baload, 1) := by decide +kernel
theorem dX5_row_40 : decode cX5_row 40 = .ok (.ifCond .ne 5, 3) := by decide +kernel
theorem dX5_row_43 : decode cX5_row 43 = .ok (.iconst (-1), 1) := by decide +kernel
theorem dX5_row_44 : decode cX5_row 44 = .ok (.ireturn, 1) := by decide +kernel
theorem dX5_row_45 : decode cX5_row 45 = .ok (.iconst 0, 1) := by decide +kernel
theorem dX5_row_46 : decode cX5_row 46 = .ok (.istore_n 3, 1) := by decide +kernel
theorem dX5_row_47 : decode cX5_row 47 = .ok (.iload_n 1, 1) := by decide +kernel
theorem dX5_row_48 : decode cX5_row 48 = .ok (.istore 4, 2) := by decide +kernel
theorem dX5_row_50 : decode cX5_row 50 = .ok (.aload_n 0, 1) := by decide +kernel
theorem dX5_row_51 : decode cX5_row 51 = .ok (.getfield 41, 3) := by decide +kernel
theorem dX5_row_54 : decode cX5_row 54 = .ok (.iload 4, 2) := by decide +kernel
theorem dX5_row_56 : decode cX5_row 56 = .ok (.iaload, 1) := by decide +kernel
theorem dX5_row_57 : decode cX5_row 57 = .ok (.iconst (-1), 1) := by decide +kernel
theorem dX5_row_58 : decode cX5_row 58 = .ok (.if_icmp .eq 36, 3) := by decide +kernel
theorem dX5_row_61 : decode cX5_row 61 = .ok (.aload_n 0, 1) := by decide +kernel
theorem dX5_row_62 : decode cX5_row 62 = .ok (.getfield 44, 3) := by decide +kernel
theorem dX5_row_65 : decode cX5_row 65 = .ok (.iload_n 3, 1) := by decide +kernel
theorem dX5_row_66 : decode cX5_row 66 = .ok (.aload_n 0, 1) := by decide +kernel
theorem dX5_row_67 : decode cX5_row 67 = .ok (.getfield 41, 3) := by decide +kernel
theorem dX5_row_70 : decode cX5_row 70 = .ok (.iload 4, 2) := by decide +kernel
theorem dX5_row_72 : decode cX5_row 72 = .ok (.iaload, 1) := by decide +kernel
theorem dX5_row_73 : decode cX5_row 73 = .ok (.iastore, 1) := by decide +kernel
theorem dX5_row_74 : decode cX5_row 74 = .ok (.iinc 3 1, 3) := by decide +kernel
theorem dX5_row_77 : decode cX5_row 77 = .ok (.aload_n 0, 1) := by decide +kernel
theorem dX5_row_78 : decode cX5_row 78 = .ok (.getfield 13, 3) := by decide +kernel
theorem dX5_row_81 : decode cX5_row 81 = .ok (.aload_n 0, 1) := by decide +kernel
theorem dX5_row_82 : decode cX5_row 82 = .ok (.getfield 41, 3) := by decide +kernel
theorem dX5_row_85 : decode cX5_row 85 = .ok (.iload 4, 2) := by decide +kernel
theorem dX5_row_87 : decode cX5_row 87 = .ok (.iaload, 1) := by decide +kernel
theorem dX5_row_88 : decode cX5_row 88 = .ok (.iaload, 1) := by decide +kernel
theorem dX5_row_89 : decode cX5_row 89 = .ok (.istore 4, 2) := by decide +kernel
theorem dX5_row_91 : decode cX5_row 91 = .ok (.goto (-41), 3) := by decide +kernel
theorem dX5_row_94 : decode cX5_row 94 = .ok (.iload_n 2, 1) := by decide +kernel
theorem dX5_row_95 : decode cX5_row 95 = .ok (.iload_n 3, 1) := by decide +kernel
theorem dX5_row_96 : decode cX5_row 96 = .ok (.if_icmp .ge 16, 3) := by decide +kernel
theorem dX5_row_99 : decode cX5_row 99 = .ok (.aload_n 0, 1) := by decide +kernel
theorem dX5_row_100 : decode cX5_row 100 = .ok (.getfield 44, 3) := by decide +kernel
theorem dX5_row_103 : decode cX5_row 103 = .ok (.iload_n 3, 1) := by decide +kernel
theorem dX5_row_104 : decode cX5_row 104 = .ok (.iconst 1, 1) := by decide +kernel
theorem dX5_row_105 : decode cX5_row 105 = .ok (.isub, 1) := by decide +kernel
theorem dX5_row_106 : decode cX5_row 106 = .ok (.iload_n 2, 1) := by decide +kernel
theorem dX5_row_107 : decode cX5_row 107 = .ok (.isub, 1) := by decide +kernel
theorem dX5_row_108 : decode cX5_row 108 = .ok (.iaload, 1) := by decide +kernel
theorem dX5_row_109 : decode cX5_row 109 = .ok (.goto 4, 3) := by decide +kernel
theorem dX5_row_112 : decode cX5_row 112 = .ok (.iconst (-1), 1) := by decide +kernel
theorem dX5_row_113 : decode cX5_row 113 = .ok (.ireturn, 1) := by decide +kernel
set_option maxRecDepth 20000 in
theorem ggX5_close_X5_spread : GoodIn wsX5_close wsX5_spread := goodIn_r _ [8, 9, 10, 11, 3, 2, 12, 13, 14, 15, 16, 17, 18, 19, 20, 21, 22, 23, 24, 25, 26, 27, 28, 29, 30, 31, 32, 33, 34, 35, 36, 37, 38, 39] (by decide +kernel) (by decide +kernel)
set_option maxRecDepth 20000 in
theorem gX5_close_X5_spread : GoodIn wsX5_close (wsV RX5 99 RX5 yX5_spread wsX5_spread) := goodIn_app (goodIn_of _ (by decide +kernel)) ggX5_close_X5_spread
theorem dX5_close_0 : decode cX5_close 0 = .ok (.iconst 0, 1) := by decide +kernel
theorem dX5_close_1 : decode cX5_close 1 = .ok (.istore_n 1, 1) := by decide +kernel
theorem dX5_close_2 : decode cX5_close 2 = .ok (.iload_n 1, 1) := by decide +kernel
theorem dX5_close_3 : decode cX5_close 3 = .ok (.aload_n 0, 1) := by decide +kernel
theorem dX5_close_4 : decode cX5_close 4 = .ok (.getfield 80, 3) := by decide +kernel
theorem dX5_close_7 : decode cX5_close 7 = .ok (.if_icmp .ge 52, 3) := by decide +kernel
theorem dX5_close_10 : decode cX5_close 10 = .ok (.iconst 0, 1) := by decide +kernel
theorem dX5_close_11 : decode cX5_close 11 = .ok (.istore_n 2, 1) := by decide +kernel
theorem dX5_close_12 : decode cX5_close 12 = .ok (.iload_n 2, 1) := by decide +kernel
theorem dX5_close_13 : decode cX5_close 13 = .ok (.aload_n 0, 1) := by decide +kernel
theorem dX5_close_14 : decode cX5_close 14 = .ok (.getfield 80, 3) := by decide +kernel
theorem dX5_close_17 : decode cX5_close 17 = .ok (.if_icmp .ge 22, 3) := by decide +kernel
theorem dX5_close_20 : decode cX5_close 20 = .ok (.aload_n 0, 1) := by decide +kernel
theorem dX5_close_21 : decode cX5_close 21 = .ok (.getfield 58, 3) := by decide +kernel
theorem dX5_close_24 : decode cX5_close 24 = .ok (.sipush 200, 3) := by decide +kernel
theorem dX5_close_27 : decode cX5_close 27 = .ok (.iload_n 1, 1) := by decide +kernel
theorem dX5_close_28 : decode cX5_close 28 = .ok (.imul, 1) := by decide +kernel
theorem dX5_close_29 : decode cX5_close 29 = .ok (.iload_n 2, 1) := by decide +kernel
theorem dX5_close_30 : decode cX5_close 30 = .ok (.iadd, 1) := by decide +kernel
theorem dX5_close_31 : decode cX5_close 31 = .ok (.iconst 0, 1) := by decide +kernel
theorem dX5_close_32 : decode cX5_close 32 = .ok (.bastore, 1) := by decide +kernel
theorem dX5_close_33 : decode cX5_close 33 = .ok (.iinc 2 1, 3) := by decide +kernel
theorem dX5_close_36 : decode cX5_close 36 = .ok (.goto (-24), 3) := by decide +kernel
theorem dX5_close_39 : decode cX5_close 39 = .ok (.aload_n 0, 1) := by decide +kernel
theorem dX5_close_40 : decode cX5_close 40 = .ok (.getfield 54, 3) := by decide +kernel
theorem dX5_close_43 : decode cX5_close 43 = .ok (.iload_n 1, 1) := by decide +kernel
theorem dX5_close_44 : decode cX5_close 44 = .ok (.baload, 1) := by decide +kernel
theorem dX5_close_45 : decode cX5_close 45 = .ok (.ifCond .eq 8, 3) := by decide +kernel
theorem dX5_close_48 : decode cX5_close 48 = .ok (.aload_n 0, 1) := by decide +kernel
theorem dX5_close_49 : decode cX5_close 49 = .ok (.iload_n 1, 1) := by decide +kernel
theorem dX5_close_50 : decode cX5_close 50 = .ok (.invokevirtual 99, 3) := by decide +kernel
theorem dX5_close_53 : decode cX5_close 53 = .ok (.iinc 1 1, 3) := by decide +kernel
theorem dX5_close_56 : decode cX5_close 56 = .ok (.goto (-54), 3) := by decide +kernel
theorem dX5_close_59 : decode cX5_close 59 = .ok (.return_, 1) := by decide +kernel
theorem dX5_spread_0 : decode cX5_spread 0 = .ok (.iconst 0, 1) := by decide +kernel
theorem dX5_spread_1 : decode cX5_spread 1 = .ok (.istore_n 2, 1) := by decide +kernel
theorem dX5_spread_2 : decode cX5_spread 2 = .ok (.iconst (-1), 1) := by decide +kernel
theorem dX5_spread_3 : decode cX5_spread 3 = .ok (.istore_n 3, 1) := by decide +kernel
theorem dX5_spread_4 : decode cX5_spread 4 = .ok (.iload_n 3, 1) := by decide +kernel
theorem dX5_spread_5 : decode cX5_spread 5 = .ok (.iload_n 2, 1) := by decide +kernel
theorem dX5_spread_6 : decode cX5_spread 6 = .ok (.if_icmp .ge 118, 3) := by decide +kernel
theorem dX5_spread_9 : decode cX5_spread 9 = .ok (.iload_n 3, 1) := by decide +kernel
theorem dX5_spread_10 : decode cX5_spread 10 = .ok (.ifCond .ge 7, 3) := by decide +kernel
theorem dX5_spread_13 : decode cX5_spread 13 = .ok (.iload_n 1, 1) := by decide +kernel
theorem dX5_spread_14 : decode cX5_spread 14 = .ok (.goto 9, 3) := by decide +kernel
theorem dX5_spread_17 : decode cX5_spread 17 = .ok (.aload_n 0, 1) := by decide +kernel
theorem dX5_spread_18 : decode cX5_spread 18 = .ok (.getfield 38, 3) := by decide +kernel
theorem dX5_spread_21 : decode cX5_spread 21 = .ok (.iload_n 3, 1) := by decide +kernel
theorem dX5_spread_22 : decode cX5_spread 22 = .ok (.iaload, 1) := by decide +kernel
theorem dX5_spread_23 : decode cX5_spread 23 = .ok (.istore 4, 2) := by decide +kernel
theorem dX5_spread_25 : decode cX5_spread 25 = .ok (.aload_n 0, 1) := by decide +kernel
theorem dX5_spread_26 : decode cX5_spread 26 = .ok (.getfield 25, 3) := by decide +kernel
theorem dX5_spread_29 : decode cX5_spread 29 = .ok (.iload 4, 2) := by decide +kernel
theorem dX5_spread_31 : decode cX5_spread 31 = .ok (.iaload, 1) := by decide +kernel
theorem dX5_spread_32 : decode cX5_spread 32 = .ok (.istore 5, 2) := by decide +kernel
theorem dX5_spread_34 : decode cX5_spread 34 = .ok (.iload 5, 2) := by decide +kernel
theorem dX5_spread_36 : decode cX5_spread 36 = .ok (.iconst (-1), 1) := by decide +kernel
theorem dX5_spread_37 : decode cX5_spread 37 = .ok (.if_icmp .eq 75, 3) := by decide +kernel
theorem dX5_spread_40 : decode cX5_spread 40 = .ok (.aload_n 0, 1) := by decide +kernel
theorem dX5_spread_41 : decode cX5_spread 41 = .ok (.getfield 16, 3) := by decide +kernel
theorem dX5_spread_44 : decode cX5_spread 44 = .ok (.iload 5, 2) := by decide +kernel
theorem dX5_spread_46 : decode cX5_spread 46 = .ok (.iaload, 1) := by decide +kernel
theorem dX5_spread_47 : decode cX5_spread 47 = .ok (.istore 6, 2) := by decide +kernel
theorem dX5_spread_49 : decode cX5_spread 49 = .ok (.aload_n 0, 1) := by decide +kernel
theorem dX5_spread_50 : decode cX5_spread 50 = .ok (.getfield 54, 3) := by decide +kernel
theorem dX5_spread_53 : decode cX5_spread 53 = .ok (.iload 6, 2) := by decide +kernel
theorem dX5_spread_55 : decode cX5_spread 55 = .ok (.baload, 1) := by decide +kernel
theorem dX5_spread_56 : decode cX5_spread 56 = .ok (.ifCond .eq 44, 3) := by decide +kernel
theorem dX5_spread_59 : decode cX5_spread 59 = .ok (.aload_n 0, 1) := by decide +kernel
theorem dX5_spread_60 : decode cX5_spread 60 = .ok (.getfield 58, 3) := by decide +kernel
theorem dX5_spread_63 : decode cX5_spread 63 = .ok (.sipush 200, 3) := by decide +kernel
theorem dX5_spread_66 : decode cX5_spread 66 = .ok (.iload_n 1, 1) := by decide +kernel
theorem dX5_spread_67 : decode cX5_spread 67 = .ok (.imul, 1) := by decide +kernel
theorem dX5_spread_68 : decode cX5_spread 68 = .ok (.iload 6, 2) := by decide +kernel
theorem dX5_spread_70 : decode cX5_spread 70 = .ok (.iadd, 1) := by decide +kernel
theorem dX5_spread_71 : decode cX5_spread 71 = .ok (.baload, 1) := by decide +kernel
theorem dX5_spread_72 : decode cX5_spread 72 = .ok (.ifCond .ne 28, 3) := by decide +kernel
theorem dX5_spread_75 : decode cX5_spread 75 = .ok (.aload_n 0, 1) := by decide +kernel
theorem dX5_spread_76 : decode cX5_spread 76 = .ok (.getfield 58, 3) := by decide +kernel
theorem dX5_spread_79 : decode cX5_spread 79 = .ok (.sipush 200, 3) := by decide +kernel
theorem dX5_spread_82 : decode cX5_spread 82 = .ok (.iload_n 1, 1) := by decide +kernel
theorem dX5_spread_83 : decode cX5_spread 83 = .ok (.imul, 1) := by decide +kernel
theorem dX5_spread_84 : decode cX5_spread 84 = .ok (.iload 6, 2) := by decide +kernel
theorem dX5_spread_86 : decode cX5_spread 86 = .ok (.iadd, 1) := by decide +kernel
theorem dX5_spread_87 : decode cX5_spread 87 = .ok (.iconst 1, 1) := by decide +kernel
theorem dX5_spread_88 : decode cX5_spread 88 = .ok (.bastore, 1) := by decide +kernel
theorem dX5_spread_89 : decode cX5_spread 89 = .ok (.aload_n 0, 1) := by decide +kernel
theorem dX5_spread_90 : decode cX5_spread 90 = .ok (.getfield 38, 3) := by decide +kernel
theorem dX5_spread_93 : decode cX5_spread 93 = .ok (.iload_n 2, 1) := by decide +kernel
theorem dX5_spread_94 : decode cX5_spread 94 = .ok (.iload 6, 2) := by decide +kernel
theorem dX5_spread_96 : decode cX5_spread 96 = .ok (.iastore, 1) := by decide +kernel
theorem dX5_spread_97 : decode cX5_spread 97 = .ok (.iinc 2 1, 3) := by decide +kernel
theorem dX5_spread_100 : decode cX5_spread 100 = .ok (.aload_n 0, 1) := by decide +kernel
theorem dX5_spread_101 : decode cX5_spread 101 = .ok (.getfield 31, 3) := by decide +kernel
theorem dX5_spread_104 : decode cX5_spread 104 = .ok (.iload 5, 2) := by decide +kernel
theorem dX5_spread_106 : decode cX5_spread 106 = .ok (.iaload, 1) := by decide +kernel
theorem dX5_spread_107 : decode cX5_spread 107 = .ok (.istore 5, 2) := by decide +kernel
theorem dX5_spread_109 : decode cX5_spread 109 = .ok (.goto (-75), 3) := by decide +kernel
theorem dX5_spread_112 : decode cX5_spread 112 = .ok (.iinc 3 1, 3) := by decide +kernel
theorem dX5_spread_115 : decode cX5_spread 115 = .ok (.iload_n 3, 1) := by decide +kernel
theorem dX5_spread_116 : decode cX5_spread 116 = .ok (.iload_n 2, 1) := by decide +kernel
theorem dX5_spread_117 : decode cX5_spread 117 = .ok (.if_icmp .ne 4, 3) := by decide +kernel
theorem dX5_spread_120 : decode cX5_spread 120 = .ok (.return_, 1) := by decide +kernel
theorem dX5_spread_121 : decode cX5_spread 121 = .ok (.goto (-117), 3) := by decide +kernel
theorem dX5_spread_124 : decode cX5_spread 124 = .ok (.return_, 1) := by decide +kernel
theorem dX5_together_0 : decode cX5_together 0 = .ok (.aload_n 0, 1) := by decide +kernel
theorem dX5_together_1 : decode cX5_together 1 = .ok (.getfield 58, 3) := by decide +kernel
theorem dX5_together_4 : decode cX5_together 4 = .ok (.sipush 200, 3) := by decide +kernel
theorem dX5_together_7 : decode cX5_together 7 = .ok (.iload_n 1, 1) := by decide +kernel
theorem dX5_together_8 : decode cX5_together 8 = .ok (.imul, 1) := by decide +kernel
theorem dX5_together_9 : decode cX5_together 9 = .ok (.iload_n 2, 1) := by decide +kernel
theorem dX5_together_10 : decode cX5_together 10 = .ok (.iadd, 1) := by decide +kernel
theorem dX5_together_11 : decode cX5_together 11 = .ok (.baload, 1) := by decide +kernel
theorem dX5_together_12 : decode cX5_together 12 = .ok (.ifCond .eq 22, 3) := by decide +kernel
theorem dX5_together_15 : decode cX5_together 15 = .ok (.aload_n 0, 1) := by decide +kernel
theorem dX5_together_16 : decode cX5_together 16 = .ok (.getfield 58, 3) := by decide +kernel
theorem dX5_together_19 : decode cX5_together 19 = .ok (.sipush 200, 3) := by decide +kernel
theorem dX5_together_22 : decode cX5_together 22 = .ok (.iload_n 2, 1) := by decide +kernel
theorem dX5_together_23 : decode cX5_together 23 = .ok (.imul, 1) := by decide +kernel
theorem dX5_together_24 : decode cX5_together 24 = .ok (.iload_n 1, 1) := by decide +kernel
theorem dX5_together_25 : decode cX5_together 25 = .ok (.iadd, 1) := by decide +kernel
theorem dX5_together_26 : decode cX5_together 26 = .ok (.baload, 1) := by decide +kernel
theorem dX5_together_27 : decode cX5_together 27 = .ok (.ifCond .eq 7, 3) := by decide +kernel
theorem dX5_together_30 : decode cX5_together 30 = .ok (.iconst 1, 1) := by decide +kernel
theorem dX5_together_31 : decode cX5_together 31 = .ok (.goto 4, 3) := by decide +kernel
theorem dX5_together_34 : decode cX5_together 34 = .ok (.iconst 0, 1) := by decide +kernel
theorem dX5_together_35 : decode cX5_together 35 = .ok (.ireturn, 1) := by decide +kernel
set_option maxRecDepth 20000 in
theorem ggX5_divide_X5_close : GoodIn wsX5_divide wsX5_close := goodIn_r _ [8, 1, 9, 3, 10, 11, 12, 7, 13, 14, 15, 16, 17, 22, 23, 24, 25, 26, 27, 28, 29, 30, 31, 32, 33, 34, 35, 36, 37, 38, 39, 40, 41, 42, 43, 44, 45, 46, 47, 48] (by decide +kernel) (by decide +kernel)
set_option maxRecDepth 20000 in
theorem gX5_divide_X5_close : GoodIn wsX5_divide (wsV RX5 103 RX5 yX5_close wsX5_close) := goodIn_app (goodIn_of _ (by decide +kernel)) ggX5_divide_X5_close
set_option maxRecDepth 20000 in
theorem ggX5_divide_X5_together : GoodIn wsX5_divide wsX5_together := goodIn_r _ [21, 9, 22, 23, 24, 25, 26, 27, 28, 29, 30, 31, 32, 33, 34, 35, 36, 37, 38, 39, 40, 41, 42, 43, 44, 45, 46, 47, 48] (by decide +kernel) (by decide +kernel)
set_option maxRecDepth 20000 in
theorem gX5_divide_X5_together : GoodIn wsX5_divide (wsV RX5 106 RX5 yX5_together wsX5_together) := goodIn_app (goodIn_of _ (by decide +kernel)) ggX5_divide_X5_together
theorem dX5_divide_0 : decode cX5_divide 0 = .ok (.aload_n 0, 1) := by decide +kernel
theorem dX5_divide_1 : decode cX5_divide 1 = .ok (.invokevirtual 103, 3) := by decide +kernel
theorem dX5_divide_4 : decode cX5_divide 4 = .ok (.iconst 0, 1) := by decide +kernel
theorem dX5_divide_5 : decode cX5_divide 5 = .ok (.istore_n 1, 1) := by decide +kernel
theorem dX5_divide_6 : decode cX5_divide 6 = .ok (.iconst 0, 1) := by decide +kernel
theorem dX5_divide_7 : decode cX5_divide 7 = .ok (.istore_n 2, 1) := by decide +kernel
theorem dX5_divide_8 : decode cX5_divide 8 = .ok (.iload_n 2, 1) := by decide +kernel
theorem dX5_divide_9 : decode cX5_divide 9 = .ok (.aload_n 0, 1) := by decide +kernel
theorem dX5_divide_10 : decode cX5_divide 10 = .ok (.getfield 80, 3) := by decide +kernel
theorem dX5_divide_13 : decode cX5_divide 13 = .ok (.if_icmp .ge 115, 3) := by decide +kernel
theorem dX5_divide_16 : decode cX5_divide 16 = .ok (.aload_n 0, 1) := by decide +kernel
theorem dX5_divide_17 : decode cX5_divide 17 = .ok (.getfield 67, 3) := by decide +kernel
theorem dX5_divide_20 : decode cX5_divide 20 = .ok (.iload_n 2, 1) := by decide +kernel
theorem dX5_divide_21 : decode cX5_divide 21 = .ok (.iconst (-1), 1) := by decide +kernel
theorem dX5_divide_22 : decode cX5_divide 22 = .ok (.iastore, 1) := by decide +kernel
theorem dX5_divide_23 : decode cX5_divide 23 = .ok (.aload_n 0, 1) := by decide +kernel
theorem dX5_divide_24 : decode cX5_divide 24 = .ok (.getfield 54, 3) := by decide +kernel
theorem dX5_divide_27 : decode cX5_divide 27 = .ok (.iload_n 2, 1) := by decide +kernel
theorem dX5_divide_28 : decode cX5_divide 28 = .ok (.baload, 1) := by decide +kernel
theorem dX5_divide_29 : decode cX5_divide 29 = .ok (.ifCond .eq 93, 3) := by decide +kernel
theorem dX5_divide_32 : decode cX5_divide 32 = .ok (.aload_n 0, 1) := by decide +kernel
theorem dX5_divide_33 : decode cX5_divide 33 = .ok (.iload_n 2, 1) := by decide +kernel
theorem dX5_divide_34 : decode cX5_divide 34 = .ok (.iload_n 2, 1) := by decide +kernel
theorem dX5_divide_35 : decode cX5_divide 35 = .ok (.invokevirtual 106, 3) := by decide +kernel
theorem dX5_divide_38 : decode cX5_divide 38 = .ok (.ifCond .ne 6, 3) := by decide +kernel
theorem dX5_divide_41 : decode cX5_divide 41 = .ok (.goto 81, 3) := by decide +kernel
theorem dX5_divide_44 : decode cX5_divide 44 = .ok (.iconst 0, 1) := by decide +kernel
theorem dX5_divide_45 : decode cX5_divide 45 = .ok (.istore_n 3, 1) := by decide +kernel
theorem dX5_divide_46 : decode cX5_divide 46 = .ok (.iload_n 3, 1) := by decide +kernel
theorem dX5_divide_47 : decode cX5_divide 47 = .ok (.iload_n 2, 1) := by decide +kernel
theorem dX5_divide_48 : decode cX5_divide 48 = .ok (.if_icmp .ge 54, 3) := by decide +kernel
theorem dX5_divide_51 : decode cX5_divide 51 = .ok (.aload_n 0, 1) := by decide +kernel
theorem dX5_divide_52 : decode cX5_divide 52 = .ok (.getfield 67, 3) := by decide +kernel
theorem dX5_divide_55 : decode cX5_divide 55 = .ok (.iload_n 2, 1) := by decide +kernel
theorem dX5_divide_56 : decode cX5_divide 56 = .ok (.iaload, 1) := by decide +kernel
theorem dX5_divide_57 : decode cX5_divide 57 = .ok (.iconst (-1), 1) := by decide +kernel
theorem dX5_divide_58 : decode cX5_divide 58 = .ok (.if_icmp .ne 44, 3) := by decide +kernel
theorem dX5_divide_61 : decode cX5_divide 61 = .ok (.aload_n 0, 1) := by decide +kernel
theorem dX5_divide_62 : decode cX5_divide 62 = .ok (.getfield 67, 3) := by decide +kernel
theorem dX5_divide_65 : decode cX5_divide 65 = .ok (.iload_n 2, 1) := by decide +kernel
theorem dX5_divide_66 : decode cX5_divide 66 = .ok (.aload_n 0, 1) := by decide +kernel
theorem dX5_divide_67 : decode cX5_divide 67 = .ok (.getfield 67, 3) := by decide +kernel
theorem dX5_divide_70 : decode cX5_divide 70 = .ok (.iload_n 3, 1) := by decide +kernel
theorem dX5_divide_71 : decode cX5_divide 71 = .ok (.iaload, 1) := by decide +kernel
theorem dX5_divide_72 : decode cX5_divide 72 = .ok (.iconst (-1), 1) := by decide +kernel
theorem dX5_divide_73 : decode cX5_divide 73 = .ok (.if_icmp .eq 21, 3) := by decide +kernel
theorem dX5_divide_76 : decode cX5_divide 76 = .ok (.aload_n 0, 1) := by decide +kernel
theorem dX5_divide_77 : decode cX5_divide 77 = .ok (.iload_n 2, 1) := by decide +kernel
theorem dX5_divide_78 : decode cX5_divide 78 = .ok (.iload_n 3, 1) := by decide +kernel
theorem dX5_divide_79 : decode cX5_divide 79 = .ok (.invokevirtual 106, 3) := by decide +kernel
theorem dX5_divide_82 : decode cX5_divide 82 = .ok (.ifCond .eq 12, 3) := by decide +kernel
theorem dX5_divide_85 : decode cX5_divide 85 = .ok (.aload_n 0, 1) := by decide +kernel
theorem dX5_divide_86 : decode cX5_divide 86 = .ok (.getfield 67, 3) := by decide +kernel
theorem dX5_divide_89 : decode cX5_divide 89 = .ok (.iload_n 3, 1) := by decide +kernel
theorem dX5_divide_90 : decode cX5_divide 90 = .ok (.iaload, 1) := by decide +kernel
theorem dX5_divide_91 : decode cX5_divide 91 = .ok (.goto 4, 3) := by decide +kernel
theorem dX5_divide_94 : decode cX5_divide 94 = .ok (.iconst (-1), 1) := by decide +kernel
theorem dX5_divide_95 : decode cX5_divide 95 = .ok (.iastore, 1) := by decide +kernel
theorem dX5_divide_96 : decode cX5_divide 96 = .ok (.iinc 3 1, 3) := by decide +kernel
theorem dX5_divide_99 : decode cX5_divide 99 = .ok (.goto (-53), 3) := by decide +kernel
theorem dX5_divide_102 : decode cX5_divide 102 = .ok (.aload_n 0, 1) := by decide +kernel
theorem dX5_divide_103 : decode cX5_divide 103 = .ok (.getfield 67, 3) := by decide +kernel
theorem dX5_divide_106 : decode cX5_divide 106 = .ok (.iload_n 2, 1) := by decide +kernel
theorem dX5_divide_107 : decode cX5_divide 107 = .ok (.iaload, 1) := by decide +kernel
theorem dX5_divide_108 : decode cX5_divide 108 = .ok (.iconst (-1), 1) := by decide +kernel
theorem dX5_divide_109 : decode cX5_divide 109 = .ok (.if_icmp .ne 13, 3) := by decide +kernel
theorem dX5_divide_112 : decode cX5_divide 112 = .ok (.aload_n 0, 1) := by decide +kernel
theorem dX5_divide_113 : decode cX5_divide 113 = .ok (.getfield 67, 3) := by decide +kernel
theorem dX5_divide_116 : decode cX5_divide 116 = .ok (.iload_n 2, 1) := by decide +kernel
theorem dX5_divide_117 : decode cX5_divide 117 = .ok (.iload_n 1, 1) := by decide +kernel
theorem dX5_divide_118 : decode cX5_divide 118 = .ok (.iastore, 1) := by decide +kernel
theorem dX5_divide_119 : decode cX5_divide 119 = .ok (.iinc 1 1, 3) := by decide +kernel
theorem dX5_divide_122 : decode cX5_divide 122 = .ok (.iinc 2 1, 3) := by decide +kernel
theorem dX5_divide_125 : decode cX5_divide 125 = .ok (.goto (-117), 3) := by decide +kernel
theorem dX5_divide_128 : decode cX5_divide 128 = .ok (.iconst 0, 1) := by decide +kernel
theorem dX5_divide_129 : decode cX5_divide 129 = .ok (.istore_n 2, 1) := by decide +kernel
theorem dX5_divide_130 : decode cX5_divide 130 = .ok (.iload_n 2, 1) := by decide +kernel
theorem dX5_divide_131 : decode cX5_divide 131 = .ok (.aload_n 0, 1) := by decide +kernel
theorem dX5_divide_132 : decode cX5_divide 132 = .ok (.getfield 80, 3) := by decide +kernel
theorem dX5_divide_135 : decode cX5_divide 135 = .ok (.if_icmp .ge 30, 3) := by decide +kernel
theorem dX5_divide_138 : decode cX5_divide 138 = .ok (.aload_n 0, 1) := by decide +kernel
theorem dX5_divide_139 : decode cX5_divide 139 = .ok (.getfield 54, 3) := by decide +kernel
theorem dX5_divide_142 : decode cX5_divide 142 = .ok (.iload_n 2, 1) := by decide +kernel
theorem dX5_divide_143 : decode cX5_divide 143 = .ok (.aload_n 0, 1) := by decide +kernel
theorem dX5_divide_144 : decode cX5_divide 144 = .ok (.getfield 67, 3) := by decide +kernel
theorem dX5_divide_147 : decode cX5_divide 147 = .ok (.iload_n 2, 1) := by decide +kernel
theorem dX5_divide_148 : decode cX5_divide 148 = .ok (.iaload, 1) := by decide +kernel
theorem dX5_divide_149 : decode cX5_divide 149 = .ok (.iconst (-1), 1) := by decide +kernel
theorem dX5_divide_150 : decode cX5_divide 150 = .ok (.if_icmp .eq 7, 3) := by decide +kernel
theorem dX5_divide_153 : decode cX5_divide 153 = .ok (.iconst 1, 1) := by decide +kernel
theorem dX5_divide_154 : decode cX5_divide 154 = .ok (.goto 4, 3) := by decide +kernel
theorem dX5_divide_157 : decode cX5_divide 157 = .ok (.iconst 0, 1) := by decide +kernel
theorem dX5_divide_158 : decode cX5_divide 158 = .ok (.bastore, 1) := by decide +kernel
theorem dX5_divide_159 : decode cX5_divide 159 = .ok (.iinc 2 1, 3) := by decide +kernel
theorem dX5_divide_162 : decode cX5_divide 162 = .ok (.goto (-32), 3) := by decide +kernel
theorem dX5_divide_165 : decode cX5_divide 165 = .ok (.iload_n 1, 1) := by decide +kernel
theorem dX5_divide_166 : decode cX5_divide 166 = .ok (.ireturn, 1) := by decide +kernel
theorem dX5_isAble_0 : decode cX5_isAble 0 = .ok (.iconst 0, 1) := by decide +kernel
theorem dX5_isAble_1 : decode cX5_isAble 1 = .ok (.istore_n 3, 1) := by decide +kernel
theorem dX5_isAble_2 : decode cX5_isAble 2 = .ok (.aload_n 0, 1) := by decide +kernel
theorem dX5_isAble_3 : decode cX5_isAble 3 = .ok (.getfield 25, 3) := by decide +kernel
theorem dX5_isAble_6 : decode cX5_isAble 6 = .ok (.iload_n 2, 1) := by decide +kernel
theorem dX5_isAble_7 : decode cX5_isAble 7 = .ok (.iaload, 1) := by decide +kernel
theorem dX5_isAble_8 : decode cX5_isAble 8 = .ok (.istore 4, 2) := by decide +kernel
theorem dX5_isAble_10 : decode cX5_isAble 10 = .ok (.iload 4, 2) := by decide +kernel
theorem dX5_isAble_12 : decode cX5_isAble 12 = .ok (.iconst (-1), 1) := by decide +kernel
theorem dX5_isAble_13 : decode cX5_isAble 13 = .ok (.if_icmp .eq 36, 3) := by decide +kernel
theorem dX5_isAble_16 : decode cX5_isAble 16 = .ok (.iload_n 3, 1) := by decide +kernel
theorem dX5_isAble_17 : decode cX5_isAble 17 = .ok (.ifCond .ne 14, 3) := by decide +kernel
theorem dX5_isAble_20 : decode cX5_isAble 20 = .ok (.aload_n 0, 1) := by decide +kernel
theorem dX5_isAble_21 : decode cX5_isAble 21 = .ok (.getfield 19, 3) := by decide +kernel
theorem dX5_isAble_24 : decode cX5_isAble 24 = .ok (.iload 4, 2) := by decide +kernel
theorem dX5_isAble_26 : decode cX5_isAble 26 = .ok (.iaload, 1) := by decide +kernel
theorem dX5_isAble_27 : decode cX5_isAble 27 = .ok (.iload_n 1, 1) := by decide +kernel
theorem dX5_isAble_28 : decode cX5_isAble 28 = .ok (.if_icmp .ne 7, 3) := by decide +kernel
theorem dX5_isAble_31 : decode cX5_isAble 31 = .ok (.iconst 1, 1) := by decide +kernel
theorem dX5_isAble_32 : decode cX5_isAble 32 = .ok (.goto 4, 3) := by decide +kernel
theorem dX5_isAble_35 : decode cX5_isAble 35 = .ok (.iconst 0, 1) := by decide +kernel
theorem dX5_isAble_36 : decode cX5_isAble 36 = .ok (.istore_n 3, 1) := by decide +kernel
theorem dX5_isAble_37 : decode cX5_isAble 37 = .ok (.aload_n 0, 1) := by decide +kernel
theorem dX5_isAble_38 : decode cX5_isAble 38 = .ok (.getfield 31, 3) := by decide +kernel
theorem dX5_isAble_41 : decode cX5_isAble 41 = .ok (.iload 4, 2) := by decide +kernel
theorem dX5_isAble_43 : decode cX5_isAble 43 = .ok (.iaload, 1) := by decide +kernel
theorem dX5_isAble_44 : decode cX5_isAble 44 = .ok (.istore 4, 2) := by decide +kernel
theorem dX5_isAble_46 : decode cX5_isAble 46 = .ok (.goto (-36), 3) := by decide +kernel
theorem dX5_isAble_49 : decode cX5_isAble 49 = .ok (.iload_n 3, 1) := by decide +kernel
theorem dX5_isAble_50 : decode cX5_isAble 50 = .ok (.ireturn, 1) := by decide +kernel
theorem dX5_isTaken_0 : decode cX5_isTaken 0 = .ok (.iconst 0, 1) := by decide +kernel
theorem dX5_isTaken_1 : decode cX5_isTaken 1 = .ok (.istore_n 3, 1) := by decide +kernel
theorem dX5_isTaken_2 : decode cX5_isTaken 2 = .ok (.iconst 0, 1) := by decide +kernel
theorem dX5_isTaken_3 : decode cX5_isTaken 3 = .ok (.istore 4, 2) := by decide +kernel
theorem dX5_isTaken_5 : decode cX5_isTaken 5 = .ok (.iload 4, 2) := by decide +kernel
theorem dX5_isTaken_7 : decode cX5_isTaken 7 = .ok (.aload_n 0, 1) := by decide +kernel
theorem dX5_isTaken_8 : decode cX5_isTaken 8 = .ok (.getfield 90, 3) := by decide +kernel
theorem dX5_isTaken_11 : decode cX5_isTaken 11 = .ok (.if_icmp .ge 62, 3) := by decide +kernel
theorem dX5_isTaken_14 : decode cX5_isTaken 14 = .ok (.iload_n 3, 1) := by decide +kernel
theorem dX5_isTaken_15 : decode cX5_isTaken 15 = .ok (.ifCond .ne 46, 3) := by decide +kernel
theorem dX5_isTaken_18 : decode cX5_isTaken 18 = .ok (.aload_n 0, 1) := by decide +kernel
theorem dX5_isTaken_19 : decode cX5_isTaken 19 = .ok (.getfield 19, 3) := by decide +kernel
theorem dX5_isTaken_22 : decode cX5_isTaken 22 = .ok (.iload 4, 2) := by decide +kernel
theorem dX5_isTaken_24 : decode cX5_isTaken 24 = .ok (.iaload, 1) := by decide +kernel
theorem dX5_isTaken_25 : decode cX5_isTaken 25 = .ok (.iload_n 1, 1) := by decide +kernel
theorem dX5_isTaken_26 : decode cX5_isTaken 26 = .ok (.if_icmp .ne 39, 3) := by decide +kernel
theorem dX5_isTaken_29 : decode cX5_isTaken 29 = .ok (.aload_n 0, 1) := by decide +kernel
theorem dX5_isTaken_30 : decode cX5_isTaken 30 = .ok (.getfield 67, 3) := by decide +kernel
theorem dX5_isTaken_33 : decode cX5_isTaken 33 = .ok (.aload_n 0, 1) := by decide +kernel
theorem dX5_isTaken_34 : decode cX5_isTaken 34 = .ok (.getfield 13, 3) := by decide +kernel
theorem dX5_isTaken_37 : decode cX5_isTaken 37 = .ok (.iload 4, 2) := by decide +kernel
theorem dX5_isTaken_39 : decode cX5_isTaken 39 = .ok (.iaload, 1) := by decide +kernel
theorem dX5_isTaken_40 : decode cX5_isTaken 40 = .ok (.iaload, 1) := by decide +kernel
theorem dX5_isTaken_41 : decode cX5_isTaken 41 = .ok (.iload_n 2, 1) := by decide +kernel
theorem dX5_isTaken_42 : decode cX5_isTaken 42 = .ok (.if_icmp .ne 23, 3) := by decide +kernel
theorem dX5_isTaken_45 : decode cX5_isTaken 45 = .ok (.aload_n 0, 1) := by decide +kernel
theorem dX5_isTaken_46 : decode cX5_isTaken 46 = .ok (.getfield 67, 3) := by decide +kernel
theorem dX5_isTaken_49 : decode cX5_isTaken 49 = .ok (.aload_n 0, 1) := by decide +kernel
theorem dX5_isTaken_50 : decode cX5_isTaken 50 = .ok (.getfield 16, 3) := by decide +kernel
theorem dX5_isTaken_53 : decode cX5_isTaken 53 = .ok (.iload 4, 2) := by decide +kernel
theorem dX5_isTaken_55 : decode cX5_isTaken 55 = .ok (.iaload, 1) := by decide +kernel
theorem dX5_isTaken_56 : decode cX5_isTaken 56 = .ok (.iaload, 1) := by decide +kernel
theorem dX5_isTaken_57 : decode cX5_isTaken 57 = .ok (.iload_n 2, 1) := by decide +kernel
theorem dX5_isTaken_58 : decode cX5_isTaken 58 = .ok (.if_icmp .ne 7, 3) := by decide +kernel
theorem dX5_isTaken_61 : decode cX5_isTaken 61 = .ok (.iconst 1, 1) := by decide +kernel
theorem dX5_isTaken_62 : decode cX5_isTaken 62 = .ok (.goto 4, 3) := by decide +kernel
theorem dX5_isTaken_65 : decode cX5_isTaken 65 = .ok (.iconst 0, 1) := by decide +kernel
theorem dX5_isTaken_66 : decode cX5_isTaken 66 = .ok (.istore_n 3, 1) := by decide +kernel
theorem dX5_isTaken_67 : decode cX5_isTaken 67 = .ok (.iinc 4 1, 3) := by decide +kernel
theorem dX5_isTaken_70 : decode cX5_isTaken 70 = .ok (.goto (-65), 3) := by decide +kernel
theorem dX5_isTaken_73 : decode cX5_isTaken 73 = .ok (.iload_n 3, 1) := by decide +kernel
theorem dX5_isTaken_74 : decode cX5_isTaken 74 = .ok (.ireturn, 1) := by decide +kernel
set_option maxRecDepth 20000 in
theorem ggX5_takeAway_X5_isTaken : GoodIn wsX5_takeAway wsX5_isTaken := goodIn_r _ [9, 10, 11, 3, 12, 13, 20, 21, 22, 23, 24, 25, 26, 27, 28, 29, 30, 31, 32, 33, 34, 35, 36, 37, 38, 39, 40, 41, 42, 43, 44, 45, 46] (by decide +kernel) (by decide +kernel)
set_option maxRecDepth 20000 in
theorem gX5_takeAway_X5_isTaken : GoodIn wsX5_takeAway (wsV RX5 110 RX5 yX5_isTaken wsX5_isTaken) := goodIn_app (goodIn_of _ (by decide +kernel)) ggX5_takeAway_X5_isTaken
set_option maxRecDepth 20000 in
theorem ggX5_takeAway_X5_isAble : GoodIn wsX5_takeAway wsX5_isAble := goodIn_r _ [17, 18, 11, 19, 20, 21, 22, 23, 24, 25, 26, 27, 28, 29, 30, 31, 32, 33, 34, 35, 36, 37, 38, 39, 40, 41, 42, 43, 44, 45, 46] (by decide +kernel) (by decide +kernel)
set_option maxRecDepth 20000 in
theorem gX5_takeAway_X5_isAble : GoodIn wsX5_takeAway (wsV RX5 113 RX5 yX5_isAble wsX5_isAble) := goodIn_app (goodIn_of _ (by decide +kernel)) ggX5_takeAway_X5_isAble
theorem dX5_takeAway_0 : decode cX5_takeAway 0 = .ok (.aload_n 0, 1) := by decide +kernel
theorem dX5_takeAway_1 : decode cX5_takeAway 1 = .ok (.getfield 22, 3) := by decide +kernel
theorem dX5_takeAway_4 : decode cX5_takeAway 4 = .ok (.iload_n 1, 1) := by decide +kernel
theorem dX5_takeAway_5 : decode cX5_takeAway 5 = .ok (.iaload, 1) := by decide +kernel
theorem dX5_takeAway_6 : decode cX5_takeAway 6 = .ok (.ifCond .eq 12, 3) := by decide +kernel
theorem dX5_takeAway_9 : decode cX5_takeAway 9 = .ok (.aload_n 0, 1) := by decide +kernel
theorem dX5_takeAway_10 : decode cX5_takeAway 10 = .ok (.iload_n 1, 1) := by decide +kernel
theorem dX5_takeAway_11 : decode cX5_takeAway 11 = .ok (.iload_n 2, 1) := by decide +kernel
theorem dX5_takeAway_12 : decode cX5_takeAway 12 = .ok (.invokevirtual 110, 3) := by decide +kernel
theorem dX5_takeAway_15 : decode cX5_takeAway 15 = .ok (.ifCond .eq 5, 3) := by decide +kernel
theorem dX5_takeAway_18 : decode cX5_takeAway 18 = .ok (.iconst 0, 1) := by decide +kernel
theorem dX5_takeAway_19 : decode cX5_takeAway 19 = .ok (.ireturn, 1) := by decide +kernel
theorem dX5_takeAway_20 : decode cX5_takeAway 20 = .ok (.iconst 1, 1) := by decide +kernel
theorem dX5_takeAway_21 : decode cX5_takeAway 21 = .ok (.istore_n 3, 1) := by decide +kernel
theorem dX5_takeAway_22 : decode cX5_takeAway 22 = .ok (.iconst 0, 1) := by decide +kernel
theorem dX5_takeAway_23 : decode cX5_takeAway 23 = .ok (.istore 4, 2) := by decide +kernel
theorem dX5_takeAway_25 : decode cX5_takeAway 25 = .ok (.iconst 0, 1) := by decide +kernel
theorem dX5_takeAway_26 : decode cX5_takeAway 26 = .ok (.istore 5, 2) := by decide +kernel
theorem dX5_takeAway_28 : decode cX5_takeAway 28 = .ok (.iload 5, 2) := by decide +kernel
theorem dX5_takeAway_30 : decode cX5_takeAway 30 = .ok (.aload_n 0, 1) := by decide +kernel
theorem dX5_takeAway_31 : decode cX5_takeAway 31 = .ok (.getfield 80, 3) := by decide +kernel
theorem dX5_takeAway_34 : decode cX5_takeAway 34 = .ok (.if_icmp .ge 61, 3) := by decide +kernel
theorem dX5_takeAway_37 : decode cX5_takeAway 37 = .ok (.aload_n 0, 1) := by decide +kernel
theorem dX5_takeAway_38 : decode cX5_takeAway 38 = .ok (.getfield 67, 3) := by decide +kernel
theorem dX5_takeAway_41 : decode cX5_takeAway 41 = .ok (.iload 5, 2) := by decide +kernel
theorem dX5_takeAway_43 : decode cX5_takeAway 43 = .ok (.iaload, 1) := by decide +kernel
theorem dX5_takeAway_44 : decode cX5_takeAway 44 = .ok (.iload_n 2, 1) := by decide +kernel
theorem dX5_takeAway_45 : decode cX5_takeAway 45 = .ok (.if_icmp .ne 44, 3) := by decide +kernel
theorem dX5_takeAway_48 : decode cX5_takeAway 48 = .ok (.aload_n 0, 1) := by decide +kernel
theorem dX5_takeAway_49 : decode cX5_takeAway 49 = .ok (.iload_n 1, 1) := by decide +kernel
theorem dX5_takeAway_50 : decode cX5_takeAway 50 = .ok (.iload 5, 2) := by decide +kernel
theorem dX5_takeAway_52 : decode cX5_takeAway 52 = .ok (.invokevirtual 113, 3) := by decide +kernel
theorem dX5_takeAway_55 : decode cX5_takeAway 55 = .ok (.istore 6, 2) := by decide +kernel
theorem dX5_takeAway_57 : decode cX5_takeAway 57 = .ok (.iload_n 3, 1) := by decide +kernel
theorem dX5_takeAway_58 : decode cX5_takeAway 58 = .ok (.ifCond .eq 12, 3) := by decide +kernel
theorem dX5_takeAway_61 : decode cX5_takeAway 61 = .ok (.iload 6, 2) := by decide +kernel
theorem dX5_takeAway_63 : decode cX5_takeAway 63 = .ok (.ifCond .eq 7, 3) := by decide +kernel
theorem dX5_takeAway_66 : decode cX5_takeAway 66 = .ok (.iconst 1, 1) := by decide +kernel
theorem dX5_takeAway_67 : decode cX5_takeAway 67 = .ok (.goto 4, 3) := by decide +kernel
theorem dX5_takeAway_70 : decode cX5_takeAway 70 = .ok (.iconst 0, 1) := by decide +kernel
theorem dX5_takeAway_71 : decode cX5_takeAway 71 = .ok (.istore_n 3, 1) := by decide +kernel
theorem dX5_takeAway_72 : decode cX5_takeAway 72 = .ok (.iload 4, 2) := by decide +kernel
theorem dX5_takeAway_74 : decode cX5_takeAway 74 = .ok (.ifCond .ne 8, 3) := by decide +kernel
theorem dX5_takeAway_77 : decode cX5_takeAway 77 = .ok (.iload 6, 2) := by decide +kernel
theorem dX5_takeAway_79 : decode cX5_takeAway 79 = .ok (.ifCond .eq 7, 3) := by decide +kernel
theorem dX5_takeAway_82 : decode cX5_takeAway 82 = .ok (.iconst 1, 1) := by decide +kernel
theorem dX5_takeAway_83 : decode cX5_takeAway 83 = .ok (.goto 4, 3) := by decide +kernel
theorem dX5_takeAway_86 : decode cX5_takeAway 86 = .ok (.iconst 0, 1) := by decide +kernel
theorem dX5_takeAway_87 : decode cX5_takeAway 87 = .ok (.istore 4, 2) := by decide +kernel
theorem dX5_takeAway_89 : decode cX5_takeAway 89 = .ok (.iinc 5 1, 3) := by decide +kernel
theorem dX5_takeAway_92 : decode cX5_takeAway 92 = .ok (.goto (-64), 3) := by decide +kernel
theorem dX5_takeAway_95 : decode cX5_takeAway 95 = .ok (.aload_n 0, 1) := by decide +kernel
theorem dX5_takeAway_96 : decode cX5_takeAway 96 = .ok (.getfield 22, 3) := by decide +kernel
theorem dX5_takeAway_99 : decode cX5_takeAway 99 = .ok (.iload_n 1, 1) := by decide +kernel
theorem dX5_takeAway_100 : decode cX5_takeAway 100 = .ok (.iaload, 1) := by decide +kernel
theorem dX5_takeAway_101 : decode cX5_takeAway 101 = .ok (.iconst 1, 1) := by decide +kernel
theorem dX5_takeAway_102 : decode cX5_takeAway 102 = .ok (.if_icmp .ne 10, 3) := by decide +kernel
theorem dX5_takeAway_105 : decode cX5_takeAway 105 = .ok (.iload_n 3, 1) := by decide +kernel
theorem dX5_takeAway_106 : decode cX5_takeAway 106 = .ok (.ifCond .ne 13, 3) := by decide +kernel
theorem dX5_takeAway_109 : decode cX5_takeAway 109 = .ok (.goto 8, 3) := by decide +kernel
theorem dX5_takeAway_112 : decode cX5_takeAway 112 = .ok (.iload 4, 2) := by decide +kernel
theorem dX5_takeAway_114 : decode cX5_takeAway 114 = .ok (.ifCond .ne 5, 3) := by decide +kernel
theorem dX5_takeAway_117 : decode cX5_takeAway 117 = .ok (.iconst 0, 1) := by decide +kernel
theorem dX5_takeAway_118 : decode cX5_takeAway 118 = .ok (.ireturn, 1) := by decide +kernel
theorem dX5_takeAway_119 : decode cX5_takeAway 119 = .ok (.iconst 0, 1) := by decide +kernel
theorem dX5_takeAway_120 : decode cX5_takeAway 120 = .ok (.istore 5, 2) := by decide +kernel
theorem dX5_takeAway_122 : decode cX5_takeAway 122 = .ok (.iload 5, 2) := by decide +kernel
theorem dX5_takeAway_124 : decode cX5_takeAway 124 = .ok (.aload_n 0, 1) := by decide +kernel
theorem dX5_takeAway_125 : decode cX5_takeAway 125 = .ok (.getfield 80, 3) := by decide +kernel
theorem dX5_takeAway_128 : decode cX5_takeAway 128 = .ok (.if_icmp .ge 52, 3) := by decide +kernel
theorem dX5_takeAway_131 : decode cX5_takeAway 131 = .ok (.aload_n 0, 1) := by decide +kernel
theorem dX5_takeAway_132 : decode cX5_takeAway 132 = .ok (.getfield 54, 3) := by decide +kernel
theorem dX5_takeAway_135 : decode cX5_takeAway 135 = .ok (.iload 5, 2) := by decide +kernel
theorem dX5_takeAway_137 : decode cX5_takeAway 137 = .ok (.aload_n 0, 1) := by decide +kernel
theorem dX5_takeAway_138 : decode cX5_takeAway 138 = .ok (.getfield 54, 3) := by decide +kernel
theorem dX5_takeAway_141 : decode cX5_takeAway 141 = .ok (.iload 5, 2) := by decide +kernel
theorem dX5_takeAway_143 : decode cX5_takeAway 143 = .ok (.baload, 1) := by decide +kernel
theorem dX5_takeAway_144 : decode cX5_takeAway 144 = .ok (.ifCond .eq 28, 3) := by decide +kernel
theorem dX5_takeAway_147 : decode cX5_takeAway 147 = .ok (.aload_n 0, 1) := by decide +kernel
theorem dX5_takeAway_148 : decode cX5_takeAway 148 = .ok (.getfield 67, 3) := by decide +kernel
theorem dX5_takeAway_151 : decode cX5_takeAway 151 = .ok (.iload 5, 2) := by decide +kernel
theorem dX5_takeAway_153 : decode cX5_takeAway 153 = .ok (.iaload, 1) := by decide +kernel
theorem dX5_takeAway_154 : decode cX5_takeAway 154 = .ok (.iload_n 2, 1) := by decide +kernel
theorem dX5_takeAway_155 : decode cX5_takeAway 155 = .ok (.if_icmp .ne 13, 3) := by decide +kernel
theorem dX5_takeAway_158 : decode cX5_takeAway 158 = .ok (.aload_n 0, 1) := by decide +kernel
theorem dX5_takeAway_159 : decode cX5_takeAway 159 = .ok (.iload_n 1, 1) := by decide +kernel
theorem dX5_takeAway_160 : decode cX5_takeAway 160 = .ok (.iload 5, 2) := by decide +kernel
theorem dX5_takeAway_162 : decode cX5_takeAway 162 = .ok (.invokevirtual 113, 3) := by decide +kernel
theorem dX5_takeAway_165 : decode cX5_takeAway 165 = .ok (.ifCond .ne 7, 3) := by decide +kernel
theorem dX5_takeAway_168 : decode cX5_takeAway 168 = .ok (.iconst 1, 1) := by decide +kernel
theorem dX5_takeAway_169 : decode cX5_takeAway 169 = .ok (.goto 4, 3) := by decide +kernel
theorem dX5_takeAway_172 : decode cX5_takeAway 172 = .ok (.iconst 0, 1) := by decide +kernel
theorem dX5_takeAway_173 : decode cX5_takeAway 173 = .ok (.bastore, 1) := by decide +kernel
theorem dX5_takeAway_174 : decode cX5_takeAway 174 = .ok (.iinc 5 1, 3) := by decide +kernel
theorem dX5_takeAway_177 : decode cX5_takeAway 177 = .ok (.goto (-55), 3) := by decide +kernel
theorem dX5_takeAway_180 : decode cX5_takeAway 180 = .ok (.iconst 1, 1) := by decide +kernel
theorem dX5_takeAway_181 : decode cX5_takeAway 181 = .ok (.ireturn, 1) := by decide +kernel
set_option maxRecDepth 20000 in
theorem ggX5_shrink_X5_takeAway : GoodIn wsX5_shrink wsX5_takeAway := goodIn_r _ [5, 6, 7, 8, 9, 10, 11, 12, 4, 13, 14, 15, 16, 17, 18, 19, 20, 21, 22, 23, 24, 25, 26, 27, 28, 29, 30, 31, 32, 33, 34, 35, 36, 37, 38, 39, 40, 41, 42, 43, 44, 45, 46, 47, 48, 49, 50] (by decide +kernel) (by decide +kernel)
set_option maxRecDepth 20000 in
theorem gX5_shrink_X5_takeAway : GoodIn wsX5_shrink (wsV RX5 116 RX5 yX5_takeAway wsX5_takeAway) := goodIn_app (goodIn_of _ (by decide +kernel)) ggX5_shrink_X5_takeAway
theorem dX5_shrink_0 : decode cX5_shrink 0 = .ok (.iconst 0, 1) := by decide +kernel
theorem dX5_shrink_1 : decode cX5_shrink 1 = .ok (.istore_n 2, 1) := by decide +kernel
theorem dX5_shrink_2 : decode cX5_shrink 2 = .ok (.iconst 0, 1) := by decide +kernel
theorem dX5_shrink_3 : decode cX5_shrink 3 = .ok (.istore_n 3, 1) := by decide +kernel
theorem dX5_shrink_4 : decode cX5_shrink 4 = .ok (.iload_n 3, 1) := by decide +kernel
theorem dX5_shrink_5 : decode cX5_shrink 5 = .ok (.iload_n 1, 1) := by decide +kernel
theorem dX5_shrink_6 : decode cX5_shrink 6 = .ok (.if_icmp .ge 57, 3) := by decide +kernel
theorem dX5_shrink_9 : decode cX5_shrink 9 = .ok (.iconst 0, 1) := by decide +kernel
theorem dX5_shrink_10 : decode cX5_shrink 10 = .ok (.istore 4, 2) := by decide +kernel
theorem dX5_shrink_12 : decode cX5_shrink 12 = .ok (.iconst 0, 1) := by decide +kernel
theorem dX5_shrink_13 : decode cX5_shrink 13 = .ok (.istore 5, 2) := by decide +kernel
theorem dX5_shrink_15 : decode cX5_shrink 15 = .ok (.iload 5, 2) := by decide +kernel
theorem dX5_shrink_17 : decode cX5_shrink 17 = .ok (.bipush 16, 2) := by decide +kernel
theorem dX5_shrink_19 : decode cX5_shrink 19 = .ok (.if_icmp .ge 23, 3) := by decide +kernel
theorem dX5_shrink_22 : decode cX5_shrink 22 = .ok (.iload 4, 2) := by decide +kernel
theorem dX5_shrink_24 : decode cX5_shrink 24 = .ok (.ifCond .ne 18, 3) := by decide +kernel
theorem dX5_shrink_27 : decode cX5_shrink 27 = .ok (.aload_n 0, 1) := by decide +kernel
theorem dX5_shrink_28 : decode cX5_shrink 28 = .ok (.iload 5, 2) := by decide +kernel
theorem dX5_shrink_30 : decode cX5_shrink 30 = .ok (.iload_n 3, 1) := by decide +kernel
theorem dX5_shrink_31 : decode cX5_shrink 31 = .ok (.invokevirtual 116, 3) := by decide +kernel
theorem dX5_shrink_34 : decode cX5_shrink 34 = .ok (.istore 4, 2) := by decide +kernel
theorem dX5_shrink_36 : decode cX5_shrink 36 = .ok (.iinc 5 1, 3) := by decide +kernel
theorem dX5_shrink_39 : decode cX5_shrink 39 = .ok (.goto (-24), 3) := by decide +kernel
theorem dX5_shrink_42 : decode cX5_shrink 42 = .ok (.iload_n 2, 1) := by decide +kernel
theorem dX5_shrink_43 : decode cX5_shrink 43 = .ok (.ifCond .ne 8, 3) := by decide +kernel
theorem dX5_shrink_46 : decode cX5_shrink 46 = .ok (.iload 4, 2) := by decide +kernel
theorem dX5_shrink_48 : decode cX5_shrink 48 = .ok (.ifCond .eq 7, 3) := by decide +kernel
theorem dX5_shrink_51 : decode cX5_shrink 51 = .ok (.iconst 1, 1) := by decide +kernel
theorem dX5_shrink_52 : decode cX5_shrink 52 = .ok (.goto 4, 3) := by decide +kernel
theorem dX5_shrink_55 : decode cX5_shrink 55 = .ok (.iconst 0, 1) := by decide +kernel
theorem dX5_shrink_56 : decode cX5_shrink 56 = .ok (.istore_n 2, 1) := by decide +kernel
theorem dX5_shrink_57 : decode cX5_shrink 57 = .ok (.iinc 3 1, 3) := by decide +kernel
theorem dX5_shrink_60 : decode cX5_shrink 60 = .ok (.goto (-56), 3) := by decide +kernel
theorem dX5_shrink_63 : decode cX5_shrink 63 = .ok (.iload_n 2, 1) := by decide +kernel
theorem dX5_shrink_64 : decode cX5_shrink 64 = .ok (.ireturn, 1) := by decide +kernel
set_option maxRecDepth 20000 in
theorem ggX5_look_X5_walk : GoodIn wsX5_look wsX5_walk := goodIn_r _ [15, 10, 16, 2, 4, 17, 18, 19, 20, 21, 59, 60, 61, 62, 63, 64, 65, 66, 67, 68, 69, 70, 71, 72, 73, 74, 75, 76, 77, 78, 79, 80, 81, 82, 83, 84, 85] (by decide +kernel) (by decide +kernel)
set_option maxRecDepth 20000 in
theorem gX5_look_X5_walk : GoodIn wsX5_look (wsV RX5 96 RX5 yX5_walk wsX5_walk) := goodIn_app (goodIn_of _ (by decide +kernel)) ggX5_look_X5_walk
set_option maxRecDepth 20000 in
theorem ggX5_look_X5_divide : GoodIn wsX5_look wsX5_divide := goodIn_r _ [25, 2, 8, 6, 26, 27, 28, 14, 29, 30, 31, 32, 33, 34, 18, 19, 20, 21, 35, 36, 37, 38, 59, 60, 61, 62, 63, 64, 65, 66, 67, 68, 69, 70, 71, 72, 73, 74, 75, 76, 77, 78, 79, 80, 81, 82, 83, 84, 85] (by decide +kernel) (by decide +kernel)
set_option maxRecDepth 20000 in
theorem gX5_look_X5_divide : GoodIn wsX5_look (wsV RX5 119 RX5 yX5_divide wsX5_divide) := goodIn_app (goodIn_of _ (by decide +kernel)) ggX5_look_X5_divide
set_option maxRecDepth 20000 in
theorem ggX5_look_X5_shrink : GoodIn wsX5_look wsX5_shrink := goodIn_r _ [42, 43, 44, 45, 14, 46, 47, 2, 8, 6, 48, 49, 50, 51, 52, 53, 54, 20, 55, 56, 57, 58, 19, 21, 59, 60, 61, 62, 63, 64, 65, 66, 67, 68, 69, 70, 71, 72, 73, 74, 75, 76, 77, 78, 79, 80, 81, 82, 83, 84, 85] (by decide +kernel) (by decide +kernel)
set_option maxRecDepth 20000 in
theorem gX5_look_X5_shrink : GoodIn wsX5_look (wsV RX5 126 RX5 yX5_shrink wsX5_shrink) := goodIn_app (goodIn_of _ (by decide +kernel)) ggX5_look_X5_shrink
theorem dX5_look_0 : decode cX5_look 0 = .ok (.aload_n 0, 1) := by decide +kernel
theorem dX5_look_1 : decode cX5_look 1 = .ok (.getfield 50, 3) := by decide +kernel
theorem dX5_look_4 : decode cX5_look 4 = .ok (.iload_n 1, 1) := by decide +kernel
theorem dX5_look_5 : decode cX5_look 5 = .ok (.if_icmp .ne 4, 3) := by decide +kernel
theorem dX5_look_8 : decode cX5_look 8 = .ok (.return_, 1) := by decide +kernel
theorem dX5_look_9 : decode cX5_look 9 = .ok (.aload_n 0, 1) := by decide +kernel
theorem dX5_look_10 : decode cX5_look 10 = .ok (.invokevirtual 96, 3) := by decide +kernel
theorem dX5_look_13 : decode cX5_look 13 = .ok (.iconst 0, 1) := by decide +kernel
theorem dX5_look_14 : decode cX5_look 14 = .ok (.istore_n 2, 1) := by decide +kernel
theorem dX5_look_15 : decode cX5_look 15 = .ok (.iload_n 2, 1) := by decide +kernel
theorem dX5_look_16 : decode cX5_look 16 = .ok (.aload_n 0, 1) := by decide +kernel
theorem dX5_look_17 : decode cX5_look 17 = .ok (.getfield 80, 3) := by decide +kernel
theorem dX5_look_20 : decode cX5_look 20 = .ok (.if_icmp .ge 55, 3) := by decide +kernel
theorem dX5_look_23 : decode cX5_look 23 = .ok (.aload_n 0, 1) := by decide +kernel
theorem dX5_look_24 : decode cX5_look 24 = .ok (.getfield 61, 3) := by decide +kernel
theorem dX5_look_27 : decode cX5_look 27 = .ok (.iload_n 2, 1) := by decide +kernel
theorem dX5_look_28 : decode cX5_look 28 = .ok (.aload_n 0, 1) := by decide +kernel
theorem dX5_look_29 : decode cX5_look 29 = .ok (.getfield 47, 3) := by decide +kernel
theorem dX5_look_32 : decode cX5_look 32 = .ok (.iload_n 2, 1) := by decide +kernel
theorem dX5_look_33 : decode cX5_look 33 = .ok (.baload, 1) := by decide +kernel
theorem dX5_look_34 : decode cX5_look 34 = .ok (.ifCond .eq 21, 3) := by decide +kernel
theorem dX5_look_37 : decode cX5_look 37 = .ok (.aload_n 0, 1) := by decide +kernel
theorem dX5_look_38 : decode cX5_look 38 = .ok (.getfield 7, 3) := by decide +kernel
theorem dX5_look_41 : decode cX5_look 41 = .ok (.iload_n 2, 1) := by decide +kernel
theorem dX5_look_42 : decode cX5_look 42 = .ok (.iaload, 1) := by decide +kernel
theorem dX5_look_43 : decode cX5_look 43 = .ok (.iload_n 1, 1) := by decide +kernel
theorem dX5_look_44 : decode cX5_look 44 = .ok (.ishr, 1) := by decide +kernel
theorem dX5_look_45 : decode cX5_look 45 = .ok (.iconst 1, 1) := by decide +kernel
theorem dX5_look_46 : decode cX5_look 46 = .ok (.iand, 1) := by decide +kernel
theorem dX5_look_47 : decode cX5_look 47 = .ok (.iconst 1, 1) := by decide +kernel
theorem dX5_look_48 : decode cX5_look 48 = .ok (.if_icmp .ne 7, 3) := by decide +kernel
theorem dX5_look_51 : decode cX5_look 51 = .ok (.iconst 1, 1) := by decide +kernel
theorem dX5_look_52 : decode cX5_look 52 = .ok (.goto 4, 3) := by decide +kernel
theorem dX5_look_55 : decode cX5_look 55 = .ok (.iconst 0, 1) := by decide +kernel
theorem dX5_look_56 : decode cX5_look 56 = .ok (.bastore, 1) := by decide +kernel
theorem dX5_look_57 : decode cX5_look 57 = .ok (.aload_n 0, 1) := by decide +kernel
theorem dX5_look_58 : decode cX5_look 58 = .ok (.getfield 54, 3) := by decide +kernel
theorem dX5_look_61 : decode cX5_look 61 = .ok (.iload_n 2, 1) := by decide +kernel
theorem dX5_look_62 : decode cX5_look 62 = .ok (.aload_n 0, 1) := by decide +kernel
theorem dX5_look_63 : decode cX5_look 63 = .ok (.getfield 61, 3) := by decide +kernel
theorem dX5_look_66 : decode cX5_look 66 = .ok (.iload_n 2, 1) := by decide +kernel
theorem dX5_look_67 : decode cX5_look 67 = .ok (.baload, 1) := by decide +kernel
theorem dX5_look_68 : decode cX5_look 68 = .ok (.bastore, 1) := by decide +kernel
theorem dX5_look_69 : decode cX5_look 69 = .ok (.iinc 2 1, 3) := by decide +kernel
theorem dX5_look_72 : decode cX5_look 72 = .ok (.goto (-57), 3) := by decide +kernel
theorem dX5_look_75 : decode cX5_look 75 = .ok (.aload_n 0, 1) := by decide +kernel
theorem dX5_look_76 : decode cX5_look 76 = .ok (.invokevirtual 119, 3) := by decide +kernel
theorem dX5_look_79 : decode cX5_look 79 = .ok (.istore_n 2, 1) := by decide +kernel
theorem dX5_look_80 : decode cX5_look 80 = .ok (.aload_n 0, 1) := by decide +kernel
theorem dX5_look_81 : decode cX5_look 81 = .ok (.iconst 0, 1) := by decide +kernel
theorem dX5_look_82 : decode cX5_look 82 = .ok (.putfield 123, 3) := by decide +kernel
theorem dX5_look_85 : decode cX5_look 85 = .ok (.iconst 0, 1) := by decide +kernel
theorem dX5_look_86 : decode cX5_look 86 = .ok (.istore_n 3, 1) := by decide +kernel
theorem dX5_look_87 : decode cX5_look 87 = .ok (.iload_n 3, 1) := by decide +kernel
theorem dX5_look_88 : decode cX5_look 88 = .ok (.iload_n 2, 1) := by decide +kernel
theorem dX5_look_89 : decode cX5_look 89 = .ok (.if_icmp .ge 73, 3) := by decide +kernel
theorem dX5_look_92 : decode cX5_look 92 = .ok (.iconst 0, 1) := by decide +kernel
theorem dX5_look_93 : decode cX5_look 93 = .ok (.istore 4, 2) := by decide +kernel
theorem dX5_look_95 : decode cX5_look 95 = .ok (.iconst 0, 1) := by decide +kernel
theorem dX5_look_96 : decode cX5_look 96 = .ok (.istore 5, 2) := by decide +kernel
theorem dX5_look_98 : decode cX5_look 98 = .ok (.iload 5, 2) := by decide +kernel
theorem dX5_look_100 : decode cX5_look 100 = .ok (.aload_n 0, 1) := by decide +kernel
theorem dX5_look_101 : decode cX5_look 101 = .ok (.getfield 80, 3) := by decide +kernel
theorem dX5_look_104 : decode cX5_look 104 = .ok (.if_icmp .ge 30, 3) := by decide +kernel
theorem dX5_look_107 : decode cX5_look 107 = .ok (.iload 4, 2) := by decide +kernel
theorem dX5_look_109 : decode cX5_look 109 = .ok (.aload_n 0, 1) := by decide +kernel
theorem dX5_look_110 : decode cX5_look 110 = .ok (.getfield 67, 3) := by decide +kernel
theorem dX5_look_113 : decode cX5_look 113 = .ok (.iload 5, 2) := by decide +kernel
theorem dX5_look_115 : decode cX5_look 115 = .ok (.iaload, 1) := by decide +kernel
theorem dX5_look_116 : decode cX5_look 116 = .ok (.iload_n 3, 1) := by decide +kernel
theorem dX5_look_117 : decode cX5_look 117 = .ok (.if_icmp .ne 7, 3) := by decide +kernel
theorem dX5_look_120 : decode cX5_look 120 = .ok (.iconst 1, 1) := by decide +kernel
theorem dX5_look_121 : decode cX5_look 121 = .ok (.goto 4, 3) := by decide +kernel
theorem dX5_look_124 : decode cX5_look 124 = .ok (.iconst 0, 1) := by decide +kernel
theorem dX5_look_125 : decode cX5_look 125 = .ok (.iadd, 1) := by decide +kernel
theorem dX5_look_126 : decode cX5_look 126 = .ok (.istore 4, 2) := by decide +kernel
theorem dX5_look_128 : decode cX5_look 128 = .ok (.iinc 5 1, 3) := by decide +kernel
theorem dX5_look_131 : decode cX5_look 131 = .ok (.goto (-33), 3) := by decide +kernel
theorem dX5_look_134 : decode cX5_look 134 = .ok (.aload_n 0, 1) := by decide +kernel
theorem dX5_look_135 : decode cX5_look 135 = .ok (.iload 4, 2) := by decide +kernel
theorem dX5_look_137 : decode cX5_look 137 = .ok (.aload_n 0, 1) := by decide +kernel
theorem dX5_look_138 : decode cX5_look 138 = .ok (.getfield 123, 3) := by decide +kernel
theorem dX5_look_141 : decode cX5_look 141 = .ok (.if_icmp .le 8, 3) := by decide +kernel
theorem dX5_look_144 : decode cX5_look 144 = .ok (.iload 4, 2) := by decide +kernel
theorem dX5_look_146 : decode cX5_look 146 = .ok (.goto 7, 3) := by decide +kernel
theorem dX5_look_149 : decode cX5_look 149 = .ok (.aload_n 0, 1) := by decide +kernel
theorem dX5_look_150 : decode cX5_look 150 = .ok (.getfield 123, 3) := by decide +kernel
theorem dX5_look_153 : decode cX5_look 153 = .ok (.putfield 123, 3) := by decide +kernel
theorem dX5_look_156 : decode cX5_look 156 = .ok (.iinc 3 1, 3) := by decide +kernel
theorem dX5_look_159 : decode cX5_look 159 = .ok (.goto (-72), 3) := by decide +kernel
theorem dX5_look_162 : decode cX5_look 162 = .ok (.aload_n 0, 1) := by decide +kernel
theorem dX5_look_163 : decode cX5_look 163 = .ok (.iload_n 2, 1) := by decide +kernel
theorem dX5_look_164 : decode cX5_look 164 = .ok (.invokevirtual 126, 3) := by decide +kernel
theorem dX5_look_167 : decode cX5_look 167 = .ok (.ifCond .eq 11, 3) := by decide +kernel
theorem dX5_look_170 : decode cX5_look 170 = .ok (.aload_n 0, 1) := by decide +kernel
theorem dX5_look_171 : decode cX5_look 171 = .ok (.invokevirtual 119, 3) := by decide +kernel
theorem dX5_look_174 : decode cX5_look 174 = .ok (.istore_n 2, 1) := by decide +kernel
theorem dX5_look_175 : decode cX5_look 175 = .ok (.goto (-13), 3) := by decide +kernel
theorem dX5_look_178 : decode cX5_look 178 = .ok (.aload_n 0, 1) := by decide +kernel
theorem dX5_look_179 : decode cX5_look 179 = .ok (.iload_n 2, 1) := by decide +kernel
theorem dX5_look_180 : decode cX5_look 180 = .ok (.putfield 129, 3) := by decide +kernel
theorem dX5_look_183 : decode cX5_look 183 = .ok (.aload_n 0, 1) := by decide +kernel
theorem dX5_look_184 : decode cX5_look 184 = .ok (.iload_n 1, 1) := by decide +kernel
theorem dX5_look_185 : decode cX5_look 185 = .ok (.putfield 50, 3) := by decide +kernel
theorem dX5_look_188 : decode cX5_look 188 = .ok (.aload_n 0, 1) := by decide +kernel
theorem dX5_look_189 : decode cX5_look 189 = .ok (.iconst 0, 1) := by decide +kernel
theorem dX5_look_190 : decode cX5_look 190 = .ok (.putfield 76, 3) := by decide +kernel
theorem dX5_look_193 : decode cX5_look 193 = .ok (.return_, 1) := by decide +kernel
theorem dX5_isAsk_0 : decode cX5_isAsk 0 = .ok (.aload_n 0, 1) := by decide +kernel
theorem dX5_isAsk_1 : decode cX5_isAsk 1 = .ok (.iload_n 1, 1) := by decide +kernel
theorem dX5_isAsk_2 : decode cX5_isAsk 2 = .ok (.ifCond .lt 9, 3) := by decide +kernel
theorem dX5_isAsk_5 : decode cX5_isAsk 5 = .ok (.iload_n 1, 1) := by decide +kernel
theorem dX5_isAsk_6 : decode cX5_isAsk 6 = .ok (.bipush 7, 2) := by decide +kernel
theorem dX5_isAsk_8 : decode cX5_isAsk 8 = .ok (.if_icmp .le 7, 3) := by decide +kernel
theorem dX5_isAsk_11 : decode cX5_isAsk 11 = .ok (.iconst 1, 1) := by decide +kernel
theorem dX5_isAsk_12 : decode cX5_isAsk 12 = .ok (.goto 4, 3) := by decide +kernel
theorem dX5_isAsk_15 : decode cX5_isAsk 15 = .ok (.iconst 0, 1) := by decide +kernel
theorem dX5_isAsk_16 : decode cX5_isAsk 16 = .ok (.putfield 73, 3) := by decide +kernel
theorem dX5_isAsk_19 : decode cX5_isAsk 19 = .ok (.aload_n 0, 1) := by decide +kernel
theorem dX5_isAsk_20 : decode cX5_isAsk 20 = .ok (.getfield 73, 3) := by decide +kernel
theorem dX5_isAsk_23 : decode cX5_isAsk 23 = .ok (.ifCond .ne 7, 3) := by decide +kernel
theorem dX5_isAsk_26 : decode cX5_isAsk 26 = .ok (.iconst 1, 1) := by decide +kernel
theorem dX5_isAsk_27 : decode cX5_isAsk 27 = .ok (.goto 4, 3) := by decide +kernel
theorem dX5_isAsk_30 : decode cX5_isAsk 30 = .ok (.iconst 0, 1) := by decide +kernel
theorem dX5_isAsk_31 : decode cX5_isAsk 31 = .ok (.ireturn, 1) := by decide +kernel
theorem dX5_begins_0 : decode cX5_begins 0 = .ok (.aload_n 0, 1) := by decide +kernel
theorem dX5_begins_1 : decode cX5_begins 1 = .ok (.getfield 25, 3) := by decide +kernel
theorem dX5_begins_4 : decode cX5_begins 4 = .ok (.iload_n 1, 1) := by decide +kernel
theorem dX5_begins_5 : decode cX5_begins 5 = .ok (.iaload, 1) := by decide +kernel
theorem dX5_begins_6 : decode cX5_begins 6 = .ok (.iconst (-1), 1) := by decide +kernel
theorem dX5_begins_7 : decode cX5_begins 7 = .ok (.if_icmp .eq 7, 3) := by decide +kernel
theorem dX5_begins_10 : decode cX5_begins 10 = .ok (.iconst 1, 1) := by decide +kernel
theorem dX5_begins_11 : decode cX5_begins 11 = .ok (.goto 4, 3) := by decide +kernel
theorem dX5_begins_14 : decode cX5_begins 14 = .ok (.iconst 0, 1) := by decide +kernel
theorem dX5_begins_15 : decode cX5_begins 15 = .ok (.ireturn, 1) := by decide +kernel
set_option maxRecDepth 20000 in
theorem ggX5_isDead_X5_begins : GoodIn wsX5_isDead wsX5_begins := goodIn_r _ [7, 8, 9, 10, 11, 12, 13, 14, 15, 16, 17, 18, 19, 20, 21, 22, 23, 24, 25, 26, 27, 28, 29, 30, 31, 32, 33, 34, 35] (by decide +kernel) (by decide +kernel)
set_option maxRecDepth 20000 in
theorem gX5_isDead_X5_begins : GoodIn wsX5_isDead (wsV RX5 132 RX5 yX5_begins wsX5_begins) := goodIn_app (goodIn_of _ (by decide +kernel)) ggX5_isDead_X5_begins
theorem dX5_isDead_0 : decode cX5_isDead 0 = .ok (.aload_n 0, 1) := by decide +kernel
theorem dX5_isDead_1 : decode cX5_isDead 1 = .ok (.getfield 61, 3) := by decide +kernel
theorem dX5_isDead_4 : decode cX5_isDead 4 = .ok (.iload_n 1, 1) := by decide +kernel
theorem dX5_isDead_5 : decode cX5_isDead 5 = .ok (.baload, 1) := by decide +kernel
theorem dX5_isDead_6 : decode cX5_isDead 6 = .ok (.ifCond .eq 24, 3) := by decide +kernel
theorem dX5_isDead_9 : decode cX5_isDead 9 = .ok (.aload_n 0, 1) := by decide +kernel
theorem dX5_isDead_10 : decode cX5_isDead 10 = .ok (.getfield 34, 3) := by decide +kernel
theorem dX5_isDead_13 : decode cX5_isDead 13 = .ok (.iload_n 1, 1) := by decide +kernel
theorem dX5_isDead_14 : decode cX5_isDead 14 = .ok (.baload, 1) := by decide +kernel
theorem dX5_isDead_15 : decode cX5_isDead 15 = .ok (.ifCond .ne 15, 3) := by decide +kernel
theorem dX5_isDead_18 : decode cX5_isDead 18 = .ok (.aload_n 0, 1) := by decide +kernel
theorem dX5_isDead_19 : decode cX5_isDead 19 = .ok (.iload_n 1, 1) := by decide +kernel
theorem dX5_isDead_20 : decode cX5_isDead 20 = .ok (.invokevirtual 132, 3) := by decide +kernel
theorem dX5_isDead_23 : decode cX5_isDead 23 = .ok (.ifCond .ne 7, 3) := by decide +kernel
theorem dX5_isDead_26 : decode cX5_isDead 26 = .ok (.iconst 1, 1) := by decide +kernel
theorem dX5_isDead_27 : decode cX5_isDead 27 = .ok (.goto 4, 3) := by decide +kernel
theorem dX5_isDead_30 : decode cX5_isDead 30 = .ok (.iconst 0, 1) := by decide +kernel
theorem dX5_isDead_31 : decode cX5_isDead 31 = .ok (.ireturn, 1) := by decide +kernel
set_option maxRecDepth 20000 in
theorem ggX5_isLive_X5_look : GoodIn wsX5_isLive wsX5_look := goodIn_r _ [7, 8, 2, 9, 10, 11, 12, 13, 14, 1, 15, 16, 17, 18, 6, 19, 20, 21, 22, 23, 24, 25, 26, 27, 28, 29, 30, 31, 32, 33, 34, 35, 36, 37, 38, 39, 40, 41, 42, 43, 44, 45, 46, 47, 48, 49, 50, 51, 52, 53, 54, 55, 56, 57, 58, 59, 60, 61, 62, 72, 73, 74, 75, 76, 77, 78, 79, 80, 81, 82, 83, 84, 85, 86, 87, 88, 89, 90, 91, 92, 93, 94, 95, 96, 97, 98] (by decide +kernel) (by decide +kernel)
set_option maxRecDepth 20000 in
theorem gX5_isLive_X5_look : GoodIn wsX5_isLive (wsV RX5 135 RX5 yX5_look wsX5_look) := goodIn_app (goodIn_of _ (by decide +kernel)) ggX5_isLive_X5_look
set_option maxRecDepth 20000 in
theorem ggX5_isLive_X5_isDead : GoodIn wsX5_isLive wsX5_isDead := goodIn_r _ [66, 9, 67, 68, 69, 70, 6, 71, 23, 72, 73, 74, 75, 76, 77, 78, 79, 80, 81, 82, 83, 84, 85, 86, 87, 88, 89, 90, 91, 92, 93, 94, 95, 96, 97, 98] (by decide +kernel) (by decide +kernel)
set_option maxRecDepth 20000 in
theorem gX5_isLive_X5_isDead : GoodIn wsX5_isLive (wsV RX5 138 RX5 yX5_isDead wsX5_isDead) := goodIn_app (goodIn_of _ (by decide +kernel)) ggX5_isLive_X5_isDead
theorem dX5_isLive_0 : decode cX5_isLive 0 = .ok (.aload_n 0, 1) := by decide +kernel
theorem dX5_isLive_1 : decode cX5_isLive 1 = .ok (.iload_n 1, 1) := by decide +kernel
theorem dX5_isLive_2 : decode cX5_isLive 2 = .ok (.invokevirtual 135, 3) := by decide +kernel
theorem dX5_isLive_5 : decode cX5_isLive 5 = .ok (.aload_n 0, 1) := by decide +kernel
theorem dX5_isLive_6 : decode cX5_isLive 6 = .ok (.getfield 129, 3) := by decide +kernel
theorem dX5_isLive_9 : decode cX5_isLive 9 = .ok (.ifCond .ne 7, 3) := by decide +kernel
theorem dX5_isLive_12 : decode cX5_isLive 12 = .ok (.iconst 1, 1) := by decide +kernel
theorem dX5_isLive_13 : decode cX5_isLive 13 = .ok (.goto 4, 3) := by decide +kernel
theorem dX5_isLive_16 : decode cX5_isLive 16 = .ok (.iconst 0, 1) := by decide +kernel
theorem dX5_isLive_17 : decode cX5_isLive 17 = .ok (.istore_n 2, 1) := by decide +kernel
theorem dX5_isLive_18 : decode cX5_isLive 18 = .ok (.iconst 0, 1) := by decide +kernel
theorem dX5_isLive_19 : decode cX5_isLive 19 = .ok (.istore_n 3, 1) := by decide +kernel
theorem dX5_isLive_20 : decode cX5_isLive 20 = .ok (.iload_n 3, 1) := by decide +kernel
theorem dX5_isLive_21 : decode cX5_isLive 21 = .ok (.aload_n 0, 1) := by decide +kernel
theorem dX5_isLive_22 : decode cX5_isLive 22 = .ok (.getfield 80, 3) := by decide +kernel
theorem dX5_isLive_25 : decode cX5_isLive 25 = .ok (.if_icmp .ge 27, 3) := by decide +kernel
theorem dX5_isLive_28 : decode cX5_isLive 28 = .ok (.iload_n 2, 1) := by decide +kernel
theorem dX5_isLive_29 : decode cX5_isLive 29 = .ok (.ifCond .eq 23, 3) := by decide +kernel
theorem dX5_isLive_32 : decode cX5_isLive 32 = .ok (.aload_n 0, 1) := by decide +kernel
theorem dX5_isLive_33 : decode cX5_isLive 33 = .ok (.iload_n 3, 1) := by decide +kernel
theorem dX5_isLive_34 : decode cX5_isLive 34 = .ok (.invokevirtual 138, 3) := by decide +kernel
theorem dX5_isLive_37 : decode cX5_isLive 37 = .ok (.ifCond .ne 7, 3) := by decide +kernel
theorem dX5_isLive_40 : decode cX5_isLive 40 = .ok (.iconst 1, 1) := by decide +kernel
theorem dX5_isLive_41 : decode cX5_isLive 41 = .ok (.goto 4, 3) := by decide +kernel
theorem dX5_isLive_44 : decode cX5_isLive 44 = .ok (.iconst 0, 1) := by decide +kernel
theorem dX5_isLive_45 : decode cX5_isLive 45 = .ok (.istore_n 2, 1) := by decide +kernel
theorem dX5_isLive_46 : decode cX5_isLive 46 = .ok (.iinc 3 1, 3) := by decide +kernel
theorem dX5_isLive_49 : decode cX5_isLive 49 = .ok (.goto (-29), 3) := by decide +kernel
theorem dX5_isLive_52 : decode cX5_isLive 52 = .ok (.iload_n 2, 1) := by decide +kernel
theorem dX5_isLive_53 : decode cX5_isLive 53 = .ok (.ireturn, 1) := by decide +kernel
set_option maxRecDepth 20000 in
theorem ggX5_live_X5_isAsk : GoodIn wsX5_live wsX5_isAsk := goodIn_r _ [5, 6, 81, 82, 83, 84, 85, 86, 87, 88, 89, 90, 91, 92, 93, 94, 95, 96, 97, 98, 99, 100, 101, 102, 103, 104, 105, 106, 107] (by decide +kernel) (by decide +kernel)
set_option maxRecDepth 20000 in
theorem gX5_live_X5_isAsk : GoodIn wsX5_live (wsV RX5 141 RX5 yX5_isAsk wsX5_isAsk) := goodIn_app (goodIn_of _ (by decide +kernel)) ggX5_live_X5_isAsk
set_option maxRecDepth 20000 in
theorem ggX5_live_X5_isLive : GoodIn wsX5_live wsX5_isLive := goodIn_r _ [10, 11, 12, 13, 14, 15, 4, 16, 17, 18, 19, 20, 21, 22, 23, 24, 25, 26, 27, 28, 29, 30, 31, 32, 33, 34, 35, 36, 37, 38, 39, 40, 41, 42, 43, 44, 45, 46, 47, 48, 49, 50, 51, 52, 53, 54, 55, 56, 57, 58, 59, 60, 61, 62, 63, 64, 65, 66, 67, 68, 69, 70, 71, 72, 73, 74, 75, 76, 77, 78, 79, 80, 81, 82, 83, 84, 85, 86, 87, 88, 89, 90, 91, 92, 93, 94, 95, 96, 97, 98, 99, 100, 101, 102, 103, 104, 105, 106, 107] (by decide +kernel) (by decide +kernel)
set_option maxRecDepth 20000 in
theorem gX5_live_X5_isLive : GoodIn wsX5_live (wsV RX5 144 RX5 yX5_isLive wsX5_isLive) := goodIn_app (goodIn_of _ (by decide +kernel)) ggX5_live_X5_isLive
theorem dX5_live_0 : decode cX5_live 0 = .ok (.aload_n 0, 1) := by decide +kernel
theorem dX5_live_1 : decode cX5_live 1 = .ok (.iload_n 1, 1) := by decide +kernel
theorem dX5_live_2 : decode cX5_live 2 = .ok (.invokevirtual 141, 3) := by decide +kernel
theorem dX5_live_5 : decode cX5_live 5 = .ok (.ifCond .eq 15, 3) := by decide +kernel
theorem dX5_live_8 : decode cX5_live 8 = .ok (.aload_n 0, 1) := by decide +kernel
theorem dX5_live_9 : decode cX5_live 9 = .ok (.iload_n 1, 1) := by decide +kernel
theorem dX5_live_10 : decode cX5_live 10 = .ok (.invokevirtual 144, 3) := by decide +kernel
theorem dX5_live_13 : decode cX5_live 13 = .ok (.ifCond .eq 7, 3) := by decide +kernel
theorem dX5_live_16 : decode cX5_live 16 = .ok (.iconst 1, 1) := by decide +kernel
theorem dX5_live_17 : decode cX5_live 17 = .ok (.goto 4, 3) := by decide +kernel
theorem dX5_live_20 : decode cX5_live 20 = .ok (.iconst 0, 1) := by decide +kernel
theorem dX5_live_21 : decode cX5_live 21 = .ok (.ireturn, 1) := by decide +kernel
set_option maxRecDepth 20000 in
theorem ggX5_parts_X5_isAsk : GoodIn wsX5_parts wsX5_isAsk := goodIn_r _ [6, 7, 68, 69, 70, 71, 72, 73, 74, 75, 76, 77, 78, 79, 80, 81, 82, 83, 84, 85, 86, 87, 88, 89, 90, 91, 92, 93, 94] (by decide +kernel) (by decide +kernel)
set_option maxRecDepth 20000 in
theorem gX5_parts_X5_isAsk : GoodIn wsX5_parts (wsV RX5 141 RX5 yX5_isAsk wsX5_isAsk) := goodIn_app (goodIn_of _ (by decide +kernel)) ggX5_parts_X5_isAsk
set_option maxRecDepth 20000 in
theorem ggX5_parts_X5_look : GoodIn wsX5_parts wsX5_look := goodIn_r _ [11, 12, 13, 14, 15, 16, 17, 18, 19, 1, 20, 21, 22, 23, 5, 24, 25, 26, 27, 28, 29, 30, 31, 32, 33, 34, 35, 36, 37, 38, 39, 40, 41, 42, 43, 44, 45, 46, 47, 48, 49, 50, 51, 52, 53, 54, 55, 56, 57, 58, 59, 60, 61, 62, 63, 64, 65, 66, 67, 68, 69, 70, 71, 72, 73, 74, 75, 76, 77, 78, 79, 80, 81, 82, 83, 84, 85, 86, 87, 88, 89, 90, 91, 92, 93, 94] (by decide +kernel) (by decide +kernel)
set_option maxRecDepth 20000 in
theorem gX5_parts_X5_look : GoodIn wsX5_parts (wsV RX5 135 RX5 yX5_look wsX5_look) := goodIn_app (goodIn_of _ (by decide +kernel)) ggX5_parts_X5_look
theorem dX5_parts_0 : decode cX5_parts 0 = .ok (.aload_n 0, 1) := by decide +kernel
theorem dX5_parts_1 : decode cX5_parts 1 = .ok (.iload_n 1, 1) := by decide +kernel
theorem dX5_parts_2 : decode cX5_parts 2 = .ok (.invokevirtual 141, 3) := by decide +kernel
theorem dX5_parts_5 : decode cX5_parts 5 = .ok (.ifCond .ne 5, 3) := by decide +kernel
theorem dX5_parts_8 : decode cX5_parts 8 = .ok (.iconst 0, 1) := by decide +kernel
theorem dX5_parts_9 : decode cX5_parts 9 = .ok (.ireturn, 1) := by decide +kernel
theorem dX5_parts_10 : decode cX5_parts 10 = .ok (.aload_n 0, 1) := by decide +kernel
theorem dX5_parts_11 : decode cX5_parts 11 = .ok (.iload_n 1, 1) := by decide +kernel
theorem dX5_parts_12 : decode cX5_parts 12 = .ok (.invokevirtual 135, 3) := by decide +kernel
theorem dX5_parts_15 : decode cX5_parts 15 = .ok (.aload_n 0, 1) := by decide +kernel
theorem dX5_parts_16 : decode cX5_parts 16 = .ok (.getfield 129, 3) := by decide +kernel
theorem dX5_parts_19 : decode cX5_parts 19 = .ok (.ireturn, 1) := by decide +kernel
set_option maxRecDepth 20000 in
theorem ggX5_part_X5_isAsk : GoodIn wsX5_part wsX5_isAsk := goodIn_r _ [8, 3, 68, 69, 70, 71, 72, 73, 74, 75, 76, 77, 78, 79, 80, 81, 82, 83, 84, 85, 86, 87, 88, 89, 90, 91, 92, 93, 94] (by decide +kernel) (by decide +kernel)
set_option maxRecDepth 20000 in
theorem gX5_part_X5_isAsk : GoodIn wsX5_part (wsV RX5 141 RX5 yX5_isAsk wsX5_isAsk) := goodIn_app (goodIn_of _ (by decide +kernel)) ggX5_part_X5_isAsk
set_option maxRecDepth 20000 in
theorem ggX5_part_X5_look : GoodIn wsX5_part wsX5_look := goodIn_r _ [12, 13, 1, 14, 15, 16, 17, 18, 2, 19, 20, 21, 22, 23, 7, 24, 25, 26, 27, 28, 29, 30, 31, 32, 33, 34, 35, 36, 37, 38, 39, 40, 41, 42, 43, 44, 45, 46, 47, 48, 49, 50, 51, 52, 53, 54, 55, 56, 57, 58, 59, 60, 61, 62, 63, 64, 65, 66, 67, 68, 69, 70, 71, 72, 73, 74, 75, 76, 77, 78, 79, 80, 81, 82, 83, 84, 85, 86, 87, 88, 89, 90, 91, 92, 93, 94] (by decide +kernel) (by decide +kernel)
set_option maxRecDepth 20000 in
theorem gX5_part_X5_look : GoodIn wsX5_part (wsV RX5 135 RX5 yX5_look wsX5_look) := goodIn_app (goodIn_of _ (by decide +kernel)) ggX5_part_X5_look
theorem dX5_part_0 : decode cX5_part 0 = .ok (.aload_n 0, 1) := by decide +kernel
theorem dX5_part_1 : decode cX5_part 1 = .ok (.iload_n 1, 1) := by decide +kernel
theorem dX5_part_2 : decode cX5_part 2 = .ok (.invokevirtual 141, 3) := by decide +kernel
theorem dX5_part_5 : decode cX5_part 5 = .ok (.ifCond .ne 5, 3) := by decide +kernel
theorem dX5_part_8 : decode cX5_part 8 = .ok (.iconst 0, 1) := by decide +kernel
theorem dX5_part_9 : decode cX5_part 9 = .ok (.ireturn, 1) := by decide +kernel
theorem dX5_part_10 : decode cX5_part 10 = .ok (.aload_n 0, 1) := by decide +kernel
theorem dX5_part_11 : decode cX5_part 11 = .ok (.iload_n 1, 1) := by decide +kernel
theorem dX5_part_12 : decode cX5_part 12 = .ok (.invokevirtual 135, 3) := by decide +kernel
theorem dX5_part_15 : decode cX5_part 15 = .ok (.iconst 0, 1) := by decide +kernel
theorem dX5_part_16 : decode cX5_part 16 = .ok (.istore 4, 2) := by decide +kernel
theorem dX5_part_18 : decode cX5_part 18 = .ok (.iconst 0, 1) := by decide +kernel
theorem dX5_part_19 : decode cX5_part 19 = .ok (.istore 5, 2) := by decide +kernel
theorem dX5_part_21 : decode cX5_part 21 = .ok (.iload 5, 2) := by decide +kernel
theorem dX5_part_23 : decode cX5_part 23 = .ok (.aload_n 0, 1) := by decide +kernel
theorem dX5_part_24 : decode cX5_part 24 = .ok (.getfield 80, 3) := by decide +kernel
theorem dX5_part_27 : decode cX5_part 27 = .ok (.if_icmp .ge 40, 3) := by decide +kernel
theorem dX5_part_30 : decode cX5_part 30 = .ok (.iload_n 2, 1) := by decide +kernel
theorem dX5_part_31 : decode cX5_part 31 = .ok (.ifCond .lt 36, 3) := by decide +kernel
theorem dX5_part_34 : decode cX5_part 34 = .ok (.iload_n 3, 1) := by decide +kernel
theorem dX5_part_35 : decode cX5_part 35 = .ok (.ifCond .lt 32, 3) := by decide +kernel
theorem dX5_part_38 : decode cX5_part 38 = .ok (.aload_n 0, 1) := by decide +kernel
theorem dX5_part_39 : decode cX5_part 39 = .ok (.getfield 67, 3) := by decide +kernel
theorem dX5_part_42 : decode cX5_part 42 = .ok (.iload 5, 2) := by decide +kernel
theorem dX5_part_44 : decode cX5_part 44 = .ok (.iaload, 1) := by decide +kernel
theorem dX5_part_45 : decode cX5_part 45 = .ok (.iload_n 2, 1) := by decide +kernel
theorem dX5_part_46 : decode cX5_part 46 = .ok (.if_icmp .ne 15, 3) := by decide +kernel
theorem dX5_part_49 : decode cX5_part 49 = .ok (.iload 4, 2) := by decide +kernel
theorem dX5_part_51 : decode cX5_part 51 = .ok (.iload_n 3, 1) := by decide +kernel
theorem dX5_part_52 : decode cX5_part 52 = .ok (.if_icmp .ne 6, 3) := by decide +kernel
theorem dX5_part_55 : decode cX5_part 55 = .ok (.iload 5, 2) := by decide +kernel
theorem dX5_part_57 : decode cX5_part 57 = .ok (.ireturn, 1) := by decide +kernel
theorem dX5_part_58 : decode cX5_part 58 = .ok (.iinc 4 1, 3) := by decide +kernel
theorem dX5_part_61 : decode cX5_part 61 = .ok (.iinc 5 1, 3) := by decide +kernel
theorem dX5_part_64 : decode cX5_part 64 = .ok (.goto (-43), 3) := by decide +kernel
theorem dX5_part_67 : decode cX5_part 67 = .ok (.aload_n 0, 1) := by decide +kernel
theorem dX5_part_68 : decode cX5_part 68 = .ok (.iconst 2, 1) := by decide +kernel
theorem dX5_part_69 : decode cX5_part 69 = .ok (.putfield 73, 3) := by decide +kernel
theorem dX5_part_72 : decode cX5_part 72 = .ok (.iconst 0, 1) := by decide +kernel
theorem dX5_part_73 : decode cX5_part 73 = .ok (.ireturn, 1) := by decide +kernel
set_option maxRecDepth 20000 in
theorem ggX5_dead_X5_isAsk : GoodIn wsX5_dead wsX5_isAsk := goodIn_r _ [7, 2, 77, 78, 79, 80, 81, 82, 83, 84, 85, 86, 87, 88, 89, 90, 91, 92, 93, 94, 95, 96, 97, 98, 99, 100, 101, 102, 103] (by decide +kernel) (by decide +kernel)
set_option maxRecDepth 20000 in
theorem gX5_dead_X5_isAsk : GoodIn wsX5_dead (wsV RX5 141 RX5 yX5_isAsk wsX5_isAsk) := goodIn_app (goodIn_of _ (by decide +kernel)) ggX5_dead_X5_isAsk
set_option maxRecDepth 20000 in
theorem ggX5_dead_X5_look : GoodIn wsX5_dead wsX5_look := goodIn_r _ [11, 12, 1, 13, 14, 15, 16, 17, 18, 19, 20, 21, 22, 23, 6, 24, 25, 26, 27, 28, 29, 30, 31, 32, 33, 34, 35, 36, 37, 38, 39, 40, 41, 42, 43, 44, 45, 46, 47, 48, 49, 50, 51, 52, 53, 54, 55, 56, 57, 58, 59, 60, 61, 62, 63, 64, 65, 66, 67, 77, 78, 79, 80, 81, 82, 83, 84, 85, 86, 87, 88, 89, 90, 91, 92, 93, 94, 95, 96, 97, 98, 99, 100, 101, 102, 103] (by decide +kernel) (by decide +kernel)
set_option maxRecDepth 20000 in
theorem gX5_dead_X5_look : GoodIn wsX5_dead (wsV RX5 135 RX5 yX5_look wsX5_look) := goodIn_app (goodIn_of _ (by decide +kernel)) ggX5_dead_X5_look
set_option maxRecDepth 20000 in
theorem ggX5_dead_X5_isDead : GoodIn wsX5_dead wsX5_isDead := goodIn_r _ [71, 13, 72, 73, 74, 75, 6, 76, 28, 77, 78, 79, 80, 81, 82, 83, 84, 85, 86, 87, 88, 89, 90, 91, 92, 93, 94, 95, 96, 97, 98, 99, 100, 101, 102, 103] (by decide +kernel) (by decide +kernel)
set_option maxRecDepth 20000 in
theorem gX5_dead_X5_isDead : GoodIn wsX5_dead (wsV RX5 138 RX5 yX5_isDead wsX5_isDead) := goodIn_app (goodIn_of _ (by decide +kernel)) ggX5_dead_X5_isDead
theorem dX5_dead_0 : decode cX5_dead 0 = .ok (.aload_n 0, 1) := by decide +kernel
theorem dX5_dead_1 : decode cX5_dead 1 = .ok (.iload_n 1, 1) := by decide +kernel
theorem dX5_dead_2 : decode cX5_dead 2 = .ok (.invokevirtual 141, 3) := by decide +kernel
theorem dX5_dead_5 : decode cX5_dead 5 = .ok (.ifCond .ne 5, 3) := by decide +kernel
theorem dX5_dead_8 : decode cX5_dead 8 = .ok (.iconst 0, 1) := by decide +kernel
theorem dX5_dead_9 : decode cX5_dead 9 = .ok (.ireturn, 1) := by decide +kernel
theorem dX5_dead_10 : decode cX5_dead 10 = .ok (.aload_n 0, 1) := by decide +kernel
theorem dX5_dead_11 : decode cX5_dead 11 = .ok (.iload_n 1, 1) := by decide +kernel
theorem dX5_dead_12 : decode cX5_dead 12 = .ok (.invokevirtual 135, 3) := by decide +kernel
theorem dX5_dead_15 : decode cX5_dead 15 = .ok (.iconst 0, 1) := by decide +kernel
theorem dX5_dead_16 : decode cX5_dead 16 = .ok (.istore_n 3, 1) := by decide +kernel
theorem dX5_dead_17 : decode cX5_dead 17 = .ok (.iconst 0, 1) := by decide +kernel
theorem dX5_dead_18 : decode cX5_dead 18 = .ok (.istore 4, 2) := by decide +kernel
theorem dX5_dead_20 : decode cX5_dead 20 = .ok (.iload 4, 2) := by decide +kernel
theorem dX5_dead_22 : decode cX5_dead 22 = .ok (.aload_n 0, 1) := by decide +kernel
theorem dX5_dead_23 : decode cX5_dead 23 = .ok (.getfield 80, 3) := by decide +kernel
theorem dX5_dead_26 : decode cX5_dead 26 = .ok (.if_icmp .ge 33, 3) := by decide +kernel
theorem dX5_dead_29 : decode cX5_dead 29 = .ok (.iload_n 2, 1) := by decide +kernel
theorem dX5_dead_30 : decode cX5_dead 30 = .ok (.ifCond .lt 29, 3) := by decide +kernel
theorem dX5_dead_33 : decode cX5_dead 33 = .ok (.aload_n 0, 1) := by decide +kernel
theorem dX5_dead_34 : decode cX5_dead 34 = .ok (.iload 4, 2) := by decide +kernel
theorem dX5_dead_36 : decode cX5_dead 36 = .ok (.invokevirtual 138, 3) := by decide +kernel
theorem dX5_dead_39 : decode cX5_dead 39 = .ok (.ifCond .eq 14, 3) := by decide +kernel
theorem dX5_dead_42 : decode cX5_dead 42 = .ok (.iload_n 3, 1) := by decide +kernel
theorem dX5_dead_43 : decode cX5_dead 43 = .ok (.iload_n 2, 1) := by decide +kernel
theorem dX5_dead_44 : decode cX5_dead 44 = .ok (.if_icmp .ne 6, 3) := by decide +kernel
theorem dX5_dead_47 : decode cX5_dead 47 = .ok (.iload 4, 2) := by decide +kernel
theorem dX5_dead_49 : decode cX5_dead 49 = .ok (.ireturn, 1) := by decide +kernel
theorem dX5_dead_50 : decode cX5_dead 50 = .ok (.iinc 3 1, 3) := by decide +kernel
theorem dX5_dead_53 : decode cX5_dead 53 = .ok (.iinc 4 1, 3) := by decide +kernel
theorem dX5_dead_56 : decode cX5_dead 56 = .ok (.goto (-36), 3) := by decide +kernel
theorem dX5_dead_59 : decode cX5_dead 59 = .ok (.aload_n 0, 1) := by decide +kernel
theorem dX5_dead_60 : decode cX5_dead 60 = .ok (.iconst 2, 1) := by decide +kernel
theorem dX5_dead_61 : decode cX5_dead 61 = .ok (.putfield 73, 3) := by decide +kernel
theorem dX5_dead_64 : decode cX5_dead 64 = .ok (.iconst 0, 1) := by decide +kernel
theorem dX5_dead_65 : decode cX5_dead 65 = .ok (.ireturn, 1) := by decide +kernel
set_option maxRecDepth 20000 in
theorem ggX5_measure_X5_look : GoodIn wsX5_measure wsX5_look := goodIn_r _ [12, 13, 1, 3, 14, 15, 16, 4, 17, 18, 19, 20, 21, 22, 11, 23, 24, 25, 26, 27, 7, 28, 29, 30, 31, 32, 33, 34, 35, 36, 37, 38, 39, 40, 41, 42, 43, 44, 45, 46, 47, 48, 49, 50, 51, 52, 53, 54, 55, 56, 57, 58, 5, 59, 6, 60, 61, 62, 63, 64, 65, 66, 67, 68, 69, 70, 71, 72, 73, 74, 75, 76, 77, 78, 79, 80, 81, 82, 83, 84, 85, 86, 87, 88, 89, 90] (by decide +kernel) (by decide +kernel)
set_option maxRecDepth 20000 in
theorem gX5_measure_X5_look : GoodIn wsX5_measure (wsV RX5 135 RX5 yX5_look wsX5_look) := goodIn_app (goodIn_of _ (by decide +kernel)) ggX5_measure_X5_look
theorem dX5_measure_0 : decode cX5_measure 0 = .ok (.aload_n 0, 1) := by decide +kernel
theorem dX5_measure_1 : decode cX5_measure 1 = .ok (.iload_n 1, 1) := by decide +kernel
theorem dX5_measure_2 : decode cX5_measure 2 = .ok (.invokevirtual 135, 3) := by decide +kernel
theorem dX5_measure_5 : decode cX5_measure 5 = .ok (.iconst 0, 1) := by decide +kernel
theorem dX5_measure_6 : decode cX5_measure 6 = .ok (.istore_n 2, 1) := by decide +kernel
theorem dX5_measure_7 : decode cX5_measure 7 = .ok (.iload_n 2, 1) := by decide +kernel
theorem dX5_measure_8 : decode cX5_measure 8 = .ok (.aload_n 0, 1) := by decide +kernel
theorem dX5_measure_9 : decode cX5_measure 9 = .ok (.getfield 80, 3) := by decide +kernel
theorem dX5_measure_12 : decode cX5_measure 12 = .ok (.if_icmp .ge 29, 3) := by decide +kernel
theorem dX5_measure_15 : decode cX5_measure 15 = .ok (.aload_n 0, 1) := by decide +kernel
theorem dX5_measure_16 : decode cX5_measure 16 = .ok (.getfield 70, 3) := by decide +kernel
theorem dX5_measure_19 : decode cX5_measure 19 = .ok (.iload_n 2, 1) := by decide +kernel
theorem dX5_measure_20 : decode cX5_measure 20 = .ok (.aload_n 0, 1) := by decide +kernel
theorem dX5_measure_21 : decode cX5_measure 21 = .ok (.getfield 61, 3) := by decide +kernel
theorem dX5_measure_24 : decode cX5_measure 24 = .ok (.iload_n 2, 1) := by decide +kernel
theorem dX5_measure_25 : decode cX5_measure 25 = .ok (.baload, 1) := by decide +kernel
theorem dX5_measure_26 : decode cX5_measure 26 = .ok (.ifCond .eq 7, 3) := by decide +kernel
theorem dX5_measure_29 : decode cX5_measure 29 = .ok (.iconst 0, 1) := by decide +kernel
theorem dX5_measure_30 : decode cX5_measure 30 = .ok (.goto 4, 3) := by decide +kernel
theorem dX5_measure_33 : decode cX5_measure 33 = .ok (.iconst (-1), 1) := by decide +kernel
theorem dX5_measure_34 : decode cX5_measure 34 = .ok (.iastore, 1) := by decide +kernel
theorem dX5_measure_35 : decode cX5_measure 35 = .ok (.iinc 2 1, 3) := by decide +kernel
theorem dX5_measure_38 : decode cX5_measure 38 = .ok (.goto (-31), 3) := by decide +kernel
theorem dX5_measure_41 : decode cX5_measure 41 = .ok (.aload_n 0, 1) := by decide +kernel
theorem dX5_measure_42 : decode cX5_measure 42 = .ok (.getfield 123, 3) := by decide +kernel
theorem dX5_measure_45 : decode cX5_measure 45 = .ok (.ifCond .le 5, 3) := by decide +kernel
theorem dX5_measure_48 : decode cX5_measure 48 = .ok (.iconst 0, 1) := by decide +kernel
theorem dX5_measure_49 : decode cX5_measure 49 = .ok (.ireturn, 1) := by decide +kernel
theorem dX5_measure_50 : decode cX5_measure 50 = .ok (.iconst 1, 1) := by decide +kernel
theorem dX5_measure_51 : decode cX5_measure 51 = .ok (.istore_n 2, 1) := by decide +kernel
theorem dX5_measure_52 : decode cX5_measure 52 = .ok (.iload_n 2, 1) := by decide +kernel
theorem dX5_measure_53 : decode cX5_measure 53 = .ok (.ifCond .eq 95, 3) := by decide +kernel
theorem dX5_measure_56 : decode cX5_measure 56 = .ok (.iconst 0, 1) := by decide +kernel
theorem dX5_measure_57 : decode cX5_measure 57 = .ok (.istore_n 2, 1) := by decide +kernel
theorem dX5_measure_58 : decode cX5_measure 58 = .ok (.iconst 0, 1) := by decide +kernel
theorem dX5_measure_59 : decode cX5_measure 59 = .ok (.istore_n 3, 1) := by decide +kernel
theorem dX5_measure_60 : decode cX5_measure 60 = .ok (.iload_n 3, 1) := by decide +kernel
theorem dX5_measure_61 : decode cX5_measure 61 = .ok (.aload_n 0, 1) := by decide +kernel
theorem dX5_measure_62 : decode cX5_measure 62 = .ok (.getfield 90, 3) := by decide +kernel
theorem dX5_measure_65 : decode cX5_measure 65 = .ok (.if_icmp .ge 80, 3) := by decide +kernel
theorem dX5_measure_68 : decode cX5_measure 68 = .ok (.aload_n 0, 1) := by decide +kernel
theorem dX5_measure_69 : decode cX5_measure 69 = .ok (.getfield 13, 3) := by decide +kernel
theorem dX5_measure_72 : decode cX5_measure 72 = .ok (.iload_n 3, 1) := by decide +kernel
theorem dX5_measure_73 : decode cX5_measure 73 = .ok (.iaload, 1) := by decide +kernel
theorem dX5_measure_74 : decode cX5_measure 74 = .ok (.istore 4, 2) := by decide +kernel
theorem dX5_measure_76 : decode cX5_measure 76 = .ok (.aload_n 0, 1) := by decide +kernel
theorem dX5_measure_77 : decode cX5_measure 77 = .ok (.getfield 16, 3) := by decide +kernel
theorem dX5_measure_80 : decode cX5_measure 80 = .ok (.iload_n 3, 1) := by decide +kernel
theorem dX5_measure_81 : decode cX5_measure 81 = .ok (.iaload, 1) := by decide +kernel
theorem dX5_measure_82 : decode cX5_measure 82 = .ok (.istore 5, 2) := by decide +kernel
theorem dX5_measure_84 : decode cX5_measure 84 = .ok (.aload_n 0, 1) := by decide +kernel
theorem dX5_measure_85 : decode cX5_measure 85 = .ok (.getfield 61, 3) := by decide +kernel
theorem dX5_measure_88 : decode cX5_measure 88 = .ok (.iload 4, 2) := by decide +kernel
theorem dX5_measure_90 : decode cX5_measure 90 = .ok (.baload, 1) := by decide +kernel
theorem dX5_measure_91 : decode cX5_measure 91 = .ok (.ifCond .eq 48, 3) := by decide +kernel
theorem dX5_measure_94 : decode cX5_measure 94 = .ok (.aload_n 0, 1) := by decide +kernel
theorem dX5_measure_95 : decode cX5_measure 95 = .ok (.getfield 61, 3) := by decide +kernel
theorem dX5_measure_98 : decode cX5_measure 98 = .ok (.iload 5, 2) := by decide +kernel
theorem dX5_measure_100 : decode cX5_measure 100 = .ok (.baload, 1) := by decide +kernel
theorem dX5_measure_101 : decode cX5_measure 101 = .ok (.ifCond .eq 38, 3) := by decide +kernel
theorem dX5_measure_104 : decode cX5_measure 104 = .ok (.aload_n 0, 1) := by decide +kernel
theorem dX5_measure_105 : decode cX5_measure 105 = .ok (.getfield 70, 3) := by decide +kernel
theorem dX5_measure_108 : decode cX5_measure 108 = .ok (.iload 4, 2) := by decide +kernel
theorem dX5_measure_110 : decode cX5_measure 110 = .ok (.iaload, 1) := by decide +kernel
theorem dX5_measure_111 : decode cX5_measure 111 = .ok (.aload_n 0, 1) := by decide +kernel
theorem dX5_measure_112 : decode cX5_measure 112 = .ok (.getfield 70, 3) := by decide +kernel
theorem dX5_measure_115 : decode cX5_measure 115 = .ok (.iload 5, 2) := by decide +kernel
theorem dX5_measure_117 : decode cX5_measure 117 = .ok (.iaload, 1) := by decide +kernel
theorem dX5_measure_118 : decode cX5_measure 118 = .ok (.if_icmp .gt 21, 3) := by decide +kernel
theorem dX5_measure_121 : decode cX5_measure 121 = .ok (.aload_n 0, 1) := by decide +kernel
theorem dX5_measure_122 : decode cX5_measure 122 = .ok (.getfield 70, 3) := by decide +kernel
theorem dX5_measure_125 : decode cX5_measure 125 = .ok (.iload 4, 2) := by decide +kernel
theorem dX5_measure_127 : decode cX5_measure 127 = .ok (.aload_n 0, 1) := by decide +kernel
theorem dX5_measure_128 : decode cX5_measure 128 = .ok (.getfield 70, 3) := by decide +kernel
theorem dX5_measure_131 : decode cX5_measure 131 = .ok (.iload 5, 2) := by decide +kernel
theorem dX5_measure_133 : decode cX5_measure 133 = .ok (.iaload, 1) := by decide +kernel
theorem dX5_measure_134 : decode cX5_measure 134 = .ok (.iconst 1, 1) := by decide +kernel
theorem dX5_measure_135 : decode cX5_measure 135 = .ok (.iadd, 1) := by decide +kernel
theorem dX5_measure_136 : decode cX5_measure 136 = .ok (.iastore, 1) := by decide +kernel
theorem dX5_measure_137 : decode cX5_measure 137 = .ok (.iconst 1, 1) := by decide +kernel
theorem dX5_measure_138 : decode cX5_measure 138 = .ok (.istore_n 2, 1) := by decide +kernel
theorem dX5_measure_139 : decode cX5_measure 139 = .ok (.iinc 3 1, 3) := by decide +kernel
theorem dX5_measure_142 : decode cX5_measure 142 = .ok (.goto (-82), 3) := by decide +kernel
theorem dX5_measure_145 : decode cX5_measure 145 = .ok (.goto (-93), 3) := by decide +kernel
theorem dX5_measure_148 : decode cX5_measure 148 = .ok (.iconst 1, 1) := by decide +kernel
theorem dX5_measure_149 : decode cX5_measure 149 = .ok (.ireturn, 1) := by decide +kernel
set_option maxRecDepth 20000 in
theorem ggX5_longest_X5_isAsk : GoodIn wsX5_longest wsX5_isAsk := goodIn_r _ [7, 8, 73, 74, 75, 76, 77, 78, 79, 80, 81, 82, 83, 84, 85, 86, 87, 88, 89, 90, 91, 92, 93, 94, 95, 96, 97, 98, 99] (by decide +kernel) (by decide +kernel)
set_option maxRecDepth 20000 in
theorem gX5_longest_X5_isAsk : GoodIn wsX5_longest (wsV RX5 141 RX5 yX5_isAsk wsX5_isAsk) := goodIn_app (goodIn_of _ (by decide +kernel)) ggX5_longest_X5_isAsk
set_option maxRecDepth 20000 in
theorem ggX5_longest_X5_measure : GoodIn wsX5_longest wsX5_measure := goodIn_r _ [12, 1, 2, 13, 14, 15, 16, 17, 18, 19, 20, 6, 21, 22, 23, 24, 25, 26, 27, 28, 29, 30, 31, 32, 33, 34, 35, 36, 37, 38, 39, 40, 41, 42, 43, 44, 45, 46, 47, 48, 49, 50, 51, 52, 53, 54, 55, 56, 57, 58, 59, 60, 61, 62, 63, 64, 65, 66, 67, 68, 69, 70, 71, 72, 73, 74, 75, 76, 77, 78, 79, 80, 81, 82, 83, 84, 85, 86, 87, 88, 89, 90, 91, 92, 93, 94, 95, 96, 97, 98, 99] (by decide +kernel) (by decide +kernel)
set_option maxRecDepth 20000 in
theorem gX5_longest_X5_measure : GoodIn wsX5_longest (wsV RX5 147 RX5 yX5_measure wsX5_measure) := goodIn_app (goodIn_of _ (by decide +kernel)) ggX5_longest_X5_measure
theorem dX5_longest_0 : decode cX5_longest 0 = .ok (.aload_n 0, 1) := by decide +kernel
theorem dX5_longest_1 : decode cX5_longest 1 = .ok (.iload_n 1, 1) := by decide +kernel
theorem dX5_longest_2 : decode cX5_longest 2 = .ok (.invokevirtual 141, 3) := by decide +kernel
theorem dX5_longest_5 : decode cX5_longest 5 = .ok (.ifCond .ne 5, 3) := by decide +kernel
theorem dX5_longest_8 : decode cX5_longest 8 = .ok (.iconst 0, 1) := by decide +kernel
theorem dX5_longest_9 : decode cX5_longest 9 = .ok (.ireturn, 1) := by decide +kernel
theorem dX5_longest_10 : decode cX5_longest 10 = .ok (.aload_n 0, 1) := by decide +kernel
theorem dX5_longest_11 : decode cX5_longest 11 = .ok (.iload_n 1, 1) := by decide +kernel
theorem dX5_longest_12 : decode cX5_longest 12 = .ok (.invokevirtual 147, 3) := by decide +kernel
theorem dX5_longest_15 : decode cX5_longest 15 = .ok (.ifCond .ne 5, 3) := by decide +kernel
theorem dX5_longest_18 : decode cX5_longest 18 = .ok (.iconst (-1), 1) := by decide +kernel
theorem dX5_longest_19 : decode cX5_longest 19 = .ok (.ireturn, 1) := by decide +kernel
theorem dX5_longest_20 : decode cX5_longest 20 = .ok (.iconst 0, 1) := by decide +kernel
theorem dX5_longest_21 : decode cX5_longest 21 = .ok (.istore_n 2, 1) := by decide +kernel
theorem dX5_longest_22 : decode cX5_longest 22 = .ok (.iconst 0, 1) := by decide +kernel
theorem dX5_longest_23 : decode cX5_longest 23 = .ok (.istore_n 3, 1) := by decide +kernel
theorem dX5_longest_24 : decode cX5_longest 24 = .ok (.iload_n 3, 1) := by decide +kernel
theorem dX5_longest_25 : decode cX5_longest 25 = .ok (.aload_n 0, 1) := by decide +kernel
theorem dX5_longest_26 : decode cX5_longest 26 = .ok (.getfield 80, 3) := by decide +kernel
theorem dX5_longest_29 : decode cX5_longest 29 = .ok (.if_icmp .ge 30, 3) := by decide +kernel
theorem dX5_longest_32 : decode cX5_longest 32 = .ok (.aload_n 0, 1) := by decide +kernel
theorem dX5_longest_33 : decode cX5_longest 33 = .ok (.getfield 70, 3) := by decide +kernel
theorem dX5_longest_36 : decode cX5_longest 36 = .ok (.iload_n 3, 1) := by decide +kernel
theorem dX5_longest_37 : decode cX5_longest 37 = .ok (.iaload, 1) := by decide +kernel
theorem dX5_longest_38 : decode cX5_longest 38 = .ok (.iload_n 2, 1) := by decide +kernel
theorem dX5_longest_39 : decode cX5_longest 39 = .ok (.if_icmp .le 12, 3) := by decide +kernel
theorem dX5_longest_42 : decode cX5_longest 42 = .ok (.aload_n 0, 1) := by decide +kernel
theorem dX5_longest_43 : decode cX5_longest 43 = .ok (.getfield 70, 3) := by decide +kernel
theorem dX5_longest_46 : decode cX5_longest 46 = .ok (.iload_n 3, 1) := by decide +kernel
theorem dX5_longest_47 : decode cX5_longest 47 = .ok (.iaload, 1) := by decide +kernel
theorem dX5_longest_48 : decode cX5_longest 48 = .ok (.goto 4, 3) := by decide +kernel
theorem dX5_longest_51 : decode cX5_longest 51 = .ok (.iload_n 2, 1) := by decide +kernel
theorem dX5_longest_52 : decode cX5_longest 52 = .ok (.istore_n 2, 1) := by decide +kernel
theorem dX5_longest_53 : decode cX5_longest 53 = .ok (.iinc 3 1, 3) := by decide +kernel
theorem dX5_longest_56 : decode cX5_longest 56 = .ok (.goto (-32), 3) := by decide +kernel
theorem dX5_longest_59 : decode cX5_longest 59 = .ok (.iload_n 2, 1) := by decide +kernel
theorem dX5_longest_60 : decode cX5_longest 60 = .ok (.ireturn, 1) := by decide +kernel
set_option maxRecDepth 20000 in
theorem ggX5_rank_X5_isAsk : GoodIn wsX5_rank wsX5_isAsk := goodIn_r _ [7, 1, 77, 78, 79, 80, 81, 82, 83, 84, 85, 86, 87, 88, 89, 90, 91, 92, 93, 94, 95, 96, 97, 98, 99, 100, 101, 102, 103] (by decide +kernel) (by decide +kernel)
set_option maxRecDepth 20000 in
theorem gX5_rank_X5_isAsk : GoodIn wsX5_rank (wsV RX5 141 RX5 yX5_isAsk wsX5_isAsk) := goodIn_app (goodIn_of _ (by decide +kernel)) ggX5_rank_X5_isAsk
set_option maxRecDepth 20000 in
theorem ggX5_rank_X5_isState : GoodIn wsX5_rank wsX5_isState := goodIn_r _ [11, 12, 77, 78, 79, 80, 81, 82, 83, 84, 85, 86, 87, 88, 89, 90, 91, 92, 93, 94, 95, 96, 97, 98, 99, 100, 101, 102, 103] (by decide +kernel) (by decide +kernel)
set_option maxRecDepth 20000 in
theorem gX5_rank_X5_isState : GoodIn wsX5_rank (wsV RX5 86 RX5 yX5_isState wsX5_isState) := goodIn_app (goodIn_of _ (by decide +kernel)) ggX5_rank_X5_isState
set_option maxRecDepth 20000 in
theorem ggX5_rank_X5_measure : GoodIn wsX5_rank wsX5_measure := goodIn_r _ [16, 12, 2, 17, 18, 19, 20, 21, 22, 23, 24, 6, 25, 26, 27, 28, 29, 30, 31, 32, 33, 34, 35, 36, 37, 38, 39, 40, 41, 42, 43, 44, 45, 46, 47, 48, 49, 50, 51, 52, 53, 54, 55, 56, 57, 58, 59, 60, 61, 62, 63, 64, 65, 66, 67, 68, 69, 70, 71, 72, 73, 74, 75, 76, 77, 78, 79, 80, 81, 82, 83, 84, 85, 86, 87, 88, 89, 90, 91, 92, 93, 94, 95, 96, 97, 98, 99, 100, 101, 102, 103] (by decide +kernel) (by decide +kernel)
set_option maxRecDepth 20000 in
theorem gX5_rank_X5_measure : GoodIn wsX5_rank (wsV RX5 147 RX5 yX5_measure wsX5_measure) := goodIn_app (goodIn_of _ (by decide +kernel)) ggX5_rank_X5_measure
theorem dX5_rank_0 : decode cX5_rank 0 = .ok (.aload_n 0, 1) := by decide +kernel
theorem dX5_rank_1 : decode cX5_rank 1 = .ok (.iload_n 1, 1) := by decide +kernel
theorem dX5_rank_2 : decode cX5_rank 2 = .ok (.invokevirtual 141, 3) := by decide +kernel
theorem dX5_rank_5 : decode cX5_rank 5 = .ok (.ifCond .ne 5, 3) := by decide +kernel
theorem dX5_rank_8 : decode cX5_rank 8 = .ok (.iconst 0, 1) := by decide +kernel
theorem dX5_rank_9 : decode cX5_rank 9 = .ok (.ireturn, 1) := by decide +kernel
theorem dX5_rank_10 : decode cX5_rank 10 = .ok (.aload_n 0, 1) := by decide +kernel
theorem dX5_rank_11 : decode cX5_rank 11 = .ok (.iload_n 2, 1) := by decide +kernel
theorem dX5_rank_12 : decode cX5_rank 12 = .ok (.invokevirtual 86, 3) := by decide +kernel
theorem dX5_rank_15 : decode cX5_rank 15 = .ok (.ifCond .ne 10, 3) := by decide +kernel
theorem dX5_rank_18 : decode cX5_rank 18 = .ok (.aload_n 0, 1) := by decide +kernel
theorem dX5_rank_19 : decode cX5_rank 19 = .ok (.iconst 2, 1) := by decide +kernel
theorem dX5_rank_20 : decode cX5_rank 20 = .ok (.putfield 73, 3) := by decide +kernel
theorem dX5_rank_23 : decode cX5_rank 23 = .ok (.iconst 0, 1) := by decide +kernel
theorem dX5_rank_24 : decode cX5_rank 24 = .ok (.ireturn, 1) := by decide +kernel
theorem dX5_rank_25 : decode cX5_rank 25 = .ok (.aload_n 0, 1) := by decide +kernel
theorem dX5_rank_26 : decode cX5_rank 26 = .ok (.iload_n 1, 1) := by decide +kernel
theorem dX5_rank_27 : decode cX5_rank 27 = .ok (.invokevirtual 147, 3) := by decide +kernel
theorem dX5_rank_30 : decode cX5_rank 30 = .ok (.ifCond .eq 12, 3) := by decide +kernel
theorem dX5_rank_33 : decode cX5_rank 33 = .ok (.aload_n 0, 1) := by decide +kernel
theorem dX5_rank_34 : decode cX5_rank 34 = .ok (.getfield 70, 3) := by decide +kernel
theorem dX5_rank_37 : decode cX5_rank 37 = .ok (.iload_n 2, 1) := by decide +kernel
theorem dX5_rank_38 : decode cX5_rank 38 = .ok (.iaload, 1) := by decide +kernel
theorem dX5_rank_39 : decode cX5_rank 39 = .ok (.goto 4, 3) := by decide +kernel
theorem dX5_rank_42 : decode cX5_rank 42 = .ok (.iconst (-1), 1) := by decide +kernel
theorem dX5_rank_43 : decode cX5_rank 43 = .ok (.ireturn, 1) := by decide +kernel
set_option maxRecDepth 20000 in
theorem ggX5_largest_X5_isAsk : GoodIn wsX5_largest wsX5_isAsk := goodIn_r _ [6, 7, 68, 69, 70, 71, 72, 73, 74, 75, 76, 77, 78, 79, 80, 81, 82, 83, 84, 85, 86, 87, 88, 89, 90, 91, 92, 93, 94] (by decide +kernel) (by decide +kernel)
set_option maxRecDepth 20000 in
theorem gX5_largest_X5_isAsk : GoodIn wsX5_largest (wsV RX5 141 RX5 yX5_isAsk wsX5_isAsk) := goodIn_app (goodIn_of _ (by decide +kernel)) ggX5_largest_X5_isAsk
set_option maxRecDepth 20000 in
theorem ggX5_largest_X5_look : GoodIn wsX5_largest wsX5_look := goodIn_r _ [11, 12, 13, 14, 15, 16, 17, 1, 18, 19, 20, 21, 22, 23, 5, 24, 25, 26, 27, 28, 29, 30, 31, 32, 33, 34, 35, 36, 37, 38, 39, 40, 41, 42, 43, 44, 45, 46, 47, 48, 49, 50, 51, 52, 53, 54, 55, 56, 57, 58, 59, 60, 61, 62, 63, 64, 65, 66, 67, 68, 69, 70, 71, 72, 73, 74, 75, 76, 77, 78, 79, 80, 81, 82, 83, 84, 85, 86, 87, 88, 89, 90, 91, 92, 93, 94] (by decide +kernel) (by decide +kernel)
set_option maxRecDepth 20000 in
theorem gX5_largest_X5_look : GoodIn wsX5_largest (wsV RX5 135 RX5 yX5_look wsX5_look) := goodIn_app (goodIn_of _ (by decide +kernel)) ggX5_largest_X5_look
theorem dX5_largest_0 : decode cX5_largest 0 = .ok (.aload_n 0, 1) := by decide +kernel
theorem dX5_largest_1 : decode cX5_largest 1 = .ok (.iload_n 1, 1) := by decide +kernel
theorem dX5_largest_2 : decode cX5_largest 2 = .ok (.invokevirtual 141, 3) := by decide +kernel
theorem dX5_largest_5 : decode cX5_largest 5 = .ok (.ifCond .ne 5, 3) := by decide +kernel
theorem dX5_largest_8 : decode cX5_largest 8 = .ok (.iconst 0, 1) := by decide +kernel
theorem dX5_largest_9 : decode cX5_largest 9 = .ok (.ireturn, 1) := by decide +kernel
theorem dX5_largest_10 : decode cX5_largest 10 = .ok (.aload_n 0, 1) := by decide +kernel
theorem dX5_largest_11 : decode cX5_largest 11 = .ok (.iload_n 1, 1) := by decide +kernel
theorem dX5_largest_12 : decode cX5_largest 12 = .ok (.invokevirtual 135, 3) := by decide +kernel
theorem dX5_largest_15 : decode cX5_largest 15 = .ok (.aload_n 0, 1) := by decide +kernel
theorem dX5_largest_16 : decode cX5_largest 16 = .ok (.getfield 123, 3) := by decide +kernel
theorem dX5_largest_19 : decode cX5_largest 19 = .ok (.ireturn, 1) := by decide +kernel
set_option maxRecDepth 20000 in
theorem ggX5_count_X5_isLive : GoodIn wsX5_count wsX5_isLive := goodIn_r _ [10, 11, 2, 12, 13, 14, 9, 15, 16, 17, 18, 19, 20, 21, 22, 23, 24, 25, 26, 27, 28, 29, 30, 31, 32, 33, 34, 35, 36, 37, 38, 39, 40, 41, 42, 43, 44, 45, 46, 47, 48, 49, 50, 51, 52, 53, 54, 55, 56, 57, 58, 5, 59, 60, 61, 62, 3, 63, 64, 65, 66, 67, 68, 69, 70, 71, 72, 4, 73, 74, 75, 76, 77, 78, 79, 80, 81, 82, 83, 84, 85, 86, 87, 88, 89, 90, 91, 92, 93, 94, 95, 96, 97, 98, 99, 100, 101, 102, 103] (by decide +kernel) (by decide +kernel)
set_option maxRecDepth 20000 in
theorem gX5_count_X5_isLive : GoodIn wsX5_count (wsV RX5 144 RX5 yX5_isLive wsX5_isLive) := goodIn_app (goodIn_of _ (by decide +kernel)) ggX5_count_X5_isLive
theorem dX5_count_0 : decode cX5_count 0 = .ok (.aload_n 0, 1) := by decide +kernel
theorem dX5_count_1 : decode cX5_count 1 = .ok (.iconst 0, 1) := by decide +kernel
theorem dX5_count_2 : decode cX5_count 2 = .ok (.putfield 73, 3) := by decide +kernel
theorem dX5_count_5 : decode cX5_count 5 = .ok (.iconst 0, 1) := by decide +kernel
theorem dX5_count_6 : decode cX5_count 6 = .ok (.istore_n 2, 1) := by decide +kernel
theorem dX5_count_7 : decode cX5_count 7 = .ok (.iload_n 1, 1) := by decide +kernel
theorem dX5_count_8 : decode cX5_count 8 = .ok (.tableswitch 153 0 5 #[40, 45, 50, 85, 85, 121], 40) := by decide +kernel
theorem dX5_count_48 : decode cX5_count 48 = .ok (.aload_n 0, 1) := by decide +kernel
theorem dX5_count_49 : decode cX5_count 49 = .ok (.getfield 80, 3) := by decide +kernel
theorem dX5_count_52 : decode cX5_count 52 = .ok (.ireturn, 1) := by decide +kernel
theorem dX5_count_53 : decode cX5_count 53 = .ok (.aload_n 0, 1) := by decide +kernel
theorem dX5_count_54 : decode cX5_count 54 = .ok (.getfield 90, 3) := by decide +kernel
theorem dX5_count_57 : decode cX5_count 57 = .ok (.ireturn, 1) := by decide +kernel
theorem dX5_count_58 : decode cX5_count 58 = .ok (.iconst 0, 1) := by decide +kernel
theorem dX5_count_59 : decode cX5_count 59 = .ok (.istore_n 3, 1) := by decide +kernel
theorem dX5_count_60 : decode cX5_count 60 = .ok (.iload_n 3, 1) := by decide +kernel
theorem dX5_count_61 : decode cX5_count 61 = .ok (.aload_n 0, 1) := by decide +kernel
theorem dX5_count_62 : decode cX5_count 62 = .ok (.getfield 80, 3) := by decide +kernel
theorem dX5_count_65 : decode cX5_count 65 = .ok (.if_icmp .ge 26, 3) := by decide +kernel
theorem dX5_count_68 : decode cX5_count 68 = .ok (.iload_n 2, 1) := by decide +kernel
theorem dX5_count_69 : decode cX5_count 69 = .ok (.aload_n 0, 1) := by decide +kernel
theorem dX5_count_70 : decode cX5_count 70 = .ok (.getfield 34, 3) := by decide +kernel
theorem dX5_count_73 : decode cX5_count 73 = .ok (.iload_n 3, 1) := by decide +kernel
theorem dX5_count_74 : decode cX5_count 74 = .ok (.baload, 1) := by decide +kernel
theorem dX5_count_75 : decode cX5_count 75 = .ok (.ifCond .eq 7, 3) := by decide +kernel
theorem dX5_count_78 : decode cX5_count 78 = .ok (.iconst 1, 1) := by decide +kernel
theorem dX5_count_79 : decode cX5_count 79 = .ok (.goto 4, 3) := by decide +kernel
theorem dX5_count_82 : decode cX5_count 82 = .ok (.iconst 0, 1) := by decide +kernel
theorem dX5_count_83 : decode cX5_count 83 = .ok (.iadd, 1) := by decide +kernel
theorem dX5_count_84 : decode cX5_count 84 = .ok (.istore_n 2, 1) := by decide +kernel
theorem dX5_count_85 : decode cX5_count 85 = .ok (.iinc 3 1, 3) := by decide +kernel
theorem dX5_count_88 : decode cX5_count 88 = .ok (.goto (-28), 3) := by decide +kernel
theorem dX5_count_91 : decode cX5_count 91 = .ok (.iload_n 2, 1) := by decide +kernel
theorem dX5_count_92 : decode cX5_count 92 = .ok (.ireturn, 1) := by decide +kernel
theorem dX5_count_93 : decode cX5_count 93 = .ok (.iconst 0, 1) := by decide +kernel
theorem dX5_count_94 : decode cX5_count 94 = .ok (.istore_n 3, 1) := by decide +kernel
theorem dX5_count_95 : decode cX5_count 95 = .ok (.iload_n 3, 1) := by decide +kernel
theorem dX5_count_96 : decode cX5_count 96 = .ok (.bipush 16, 2) := by decide +kernel
theorem dX5_count_98 : decode cX5_count 98 = .ok (.if_icmp .ge 29, 3) := by decide +kernel
theorem dX5_count_101 : decode cX5_count 101 = .ok (.iload_n 2, 1) := by decide +kernel
theorem dX5_count_102 : decode cX5_count 102 = .ok (.aload_n 0, 1) := by decide +kernel
theorem dX5_count_103 : decode cX5_count 103 = .ok (.getfield 22, 3) := by decide +kernel
theorem dX5_count_106 : decode cX5_count 106 = .ok (.iload_n 3, 1) := by decide +kernel
theorem dX5_count_107 : decode cX5_count 107 = .ok (.iaload, 1) := by decide +kernel
theorem dX5_count_108 : decode cX5_count 108 = .ok (.iload_n 1, 1) := by decide +kernel
theorem dX5_count_109 : decode cX5_count 109 = .ok (.iconst 2, 1) := by decide +kernel
theorem dX5_count_110 : decode cX5_count 110 = .ok (.isub, 1) := by decide +kernel
theorem dX5_count_111 : decode cX5_count 111 = .ok (.if_icmp .ne 7, 3) := by decide +kernel
theorem dX5_count_114 : decode cX5_count 114 = .ok (.iconst 1, 1) := by decide +kernel
theorem dX5_count_115 : decode cX5_count 115 = .ok (.goto 4, 3) := by decide +kernel
theorem dX5_count_118 : decode cX5_count 118 = .ok (.iconst 0, 1) := by decide +kernel
theorem dX5_count_119 : decode cX5_count 119 = .ok (.iadd, 1) := by decide +kernel
theorem dX5_count_120 : decode cX5_count 120 = .ok (.istore_n 2, 1) := by decide +kernel
theorem dX5_count_121 : decode cX5_count 121 = .ok (.iinc 3 1, 3) := by decide +kernel
theorem dX5_count_124 : decode cX5_count 124 = .ok (.goto (-29), 3) := by decide +kernel
theorem dX5_count_127 : decode cX5_count 127 = .ok (.iload_n 2, 1) := by decide +kernel
theorem dX5_count_128 : decode cX5_count 128 = .ok (.ireturn, 1) := by decide +kernel
theorem dX5_count_129 : decode cX5_count 129 = .ok (.iconst 0, 1) := by decide +kernel
theorem dX5_count_130 : decode cX5_count 130 = .ok (.istore_n 3, 1) := by decide +kernel
theorem dX5_count_131 : decode cX5_count 131 = .ok (.iload_n 3, 1) := by decide +kernel
theorem dX5_count_132 : decode cX5_count 132 = .ok (.bipush 8, 2) := by decide +kernel
theorem dX5_count_134 : decode cX5_count 134 = .ok (.if_icmp .ge 25, 3) := by decide +kernel
theorem dX5_count_137 : decode cX5_count 137 = .ok (.iload_n 2, 1) := by decide +kernel
theorem dX5_count_138 : decode cX5_count 138 = .ok (.aload_n 0, 1) := by decide +kernel
theorem dX5_count_139 : decode cX5_count 139 = .ok (.iload_n 3, 1) := by decide +kernel
theorem dX5_count_140 : decode cX5_count 140 = .ok (.invokevirtual 144, 3) := by decide +kernel
theorem dX5_count_143 : decode cX5_count 143 = .ok (.ifCond .eq 7, 3) := by decide +kernel
theorem dX5_count_146 : decode cX5_count 146 = .ok (.iconst 1, 1) := by decide +kernel
theorem dX5_count_147 : decode cX5_count 147 = .ok (.goto 4, 3) := by decide +kernel
theorem dX5_count_150 : decode cX5_count 150 = .ok (.iconst 0, 1) := by decide +kernel
theorem dX5_count_151 : decode cX5_count 151 = .ok (.iadd, 1) := by decide +kernel
theorem dX5_count_152 : decode cX5_count 152 = .ok (.istore_n 2, 1) := by decide +kernel
theorem dX5_count_153 : decode cX5_count 153 = .ok (.iinc 3 1, 3) := by decide +kernel
theorem dX5_count_156 : decode cX5_count 156 = .ok (.goto (-25), 3) := by decide +kernel
theorem dX5_count_159 : decode cX5_count 159 = .ok (.iload_n 2, 1) := by decide +kernel
theorem dX5_count_160 : decode cX5_count 160 = .ok (.ireturn, 1) := by decide +kernel
theorem dX5_count_161 : decode cX5_count 161 = .ok (.iconst (-1), 1) := by decide +kernel
theorem dX5_count_162 : decode cX5_count 162 = .ok (.ireturn, 1) := by decide +kernel
theorem dJ6_bitCount_0f7a4_0 : decode cJ6_bitCount_0f7a4 0 = .ok (.iload_n 0, 1) := by decide +kernel
theorem dJ6_bitCount_0f7a4_1 : decode cJ6_bitCount_0f7a4 1 = .ok (.iload_n 0, 1) := by decide +kernel
theorem dJ6_bitCount_0f7a4_2 : decode cJ6_bitCount_0f7a4 2 = .ok (.iconst 1, 1) := by decide +kernel
theorem dJ6_bitCount_0f7a4_3 : decode cJ6_bitCount_0f7a4 3 = .ok (.iushr, 1) := by decide +kernel
theorem dJ6_bitCount_0f7a4_4 : decode cJ6_bitCount_0f7a4 4 = .ok (.ldc_w 265, 3) := by decide +kernel
theorem dJ6_bitCount_0f7a4_7 : decode cJ6_bitCount_0f7a4 7 = .ok (.iand, 1) := by decide +kernel
theorem dJ6_bitCount_0f7a4_8 : decode cJ6_bitCount_0f7a4 8 = .ok (.isub, 1) := by decide +kernel
theorem dJ6_bitCount_0f7a4_9 : decode cJ6_bitCount_0f7a4 9 = .ok (.istore_n 0, 1) := by decide +kernel
theorem dJ6_bitCount_0f7a4_10 : decode cJ6_bitCount_0f7a4 10 = .ok (.iload_n 0, 1) := by decide +kernel
theorem dJ6_bitCount_0f7a4_11 : decode cJ6_bitCount_0f7a4 11 = .ok (.ldc_w 266, 3) := by decide +kernel
theorem dJ6_bitCount_0f7a4_14 : decode cJ6_bitCount_0f7a4 14 = .ok (.iand, 1) := by decide +kernel
theorem dJ6_bitCount_0f7a4_15 : decode cJ6_bitCount_0f7a4 15 = .ok (.iload_n 0, 1) := by decide +kernel
theorem dJ6_bitCount_0f7a4_16 : decode cJ6_bitCount_0f7a4 16 = .ok (.iconst 2, 1) := by decide +kernel
theorem dJ6_bitCount_0f7a4_17 : decode cJ6_bitCount_0f7a4 17 = .ok (.iushr, 1) := by decide +kernel
theorem dJ6_bitCount_0f7a4_18 : decode cJ6_bitCount_0f7a4 18 = .ok (.ldc_w 266, 3) := by decide +kernel
theorem dJ6_bitCount_0f7a4_21 : decode cJ6_bitCount_0f7a4 21 = .ok (.iand, 1) := by decide +kernel
theorem dJ6_bitCount_0f7a4_22 : decode cJ6_bitCount_0f7a4 22 = .ok (.iadd, 1) := by decide +kernel
theorem dJ6_bitCount_0f7a4_23 : decode cJ6_bitCount_0f7a4 23 = .ok (.istore_n 0, 1) := by decide +kernel
theorem dJ6_bitCount_0f7a4_24 : decode cJ6_bitCount_0f7a4 24 = .ok (.iload_n 0, 1) := by decide +kernel
theorem dJ6_bitCount_0f7a4_25 : decode cJ6_bitCount_0f7a4 25 = .ok (.iload_n 0, 1) := by decide +kernel
theorem dJ6_bitCount_0f7a4_26 : decode cJ6_bitCount_0f7a4 26 = .ok (.iconst 4, 1) := by decide +kernel
theorem dJ6_bitCount_0f7a4_27 : decode cJ6_bitCount_0f7a4 27 = .ok (.iushr, 1) := by decide +kernel
theorem dJ6_bitCount_0f7a4_28 : decode cJ6_bitCount_0f7a4 28 = .ok (.iadd, 1) := by decide +kernel
theorem dJ6_bitCount_0f7a4_29 : decode cJ6_bitCount_0f7a4 29 = .ok (.ldc_w 267, 3) := by decide +kernel
theorem dJ6_bitCount_0f7a4_32 : decode cJ6_bitCount_0f7a4 32 = .ok (.iand, 1) := by decide +kernel
theorem dJ6_bitCount_0f7a4_33 : decode cJ6_bitCount_0f7a4 33 = .ok (.istore_n 0, 1) := by decide +kernel
theorem dJ6_bitCount_0f7a4_34 : decode cJ6_bitCount_0f7a4 34 = .ok (.iload_n 0, 1) := by decide +kernel
theorem dJ6_bitCount_0f7a4_35 : decode cJ6_bitCount_0f7a4 35 = .ok (.iload_n 0, 1) := by decide +kernel
theorem dJ6_bitCount_0f7a4_36 : decode cJ6_bitCount_0f7a4 36 = .ok (.bipush 8, 2) := by decide +kernel
theorem dJ6_bitCount_0f7a4_38 : decode cJ6_bitCount_0f7a4 38 = .ok (.iushr, 1) := by decide +kernel
theorem dJ6_bitCount_0f7a4_39 : decode cJ6_bitCount_0f7a4 39 = .ok (.iadd, 1) := by decide +kernel
theorem dJ6_bitCount_0f7a4_40 : decode cJ6_bitCount_0f7a4 40 = .ok (.istore_n 0, 1) := by decide +kernel
theorem dJ6_bitCount_0f7a4_41 : decode cJ6_bitCount_0f7a4 41 = .ok (.iload_n 0, 1) := by decide +kernel
theorem dJ6_bitCount_0f7a4_42 : decode cJ6_bitCount_0f7a4 42 = .ok (.iload_n 0, 1) := by decide +kernel
theorem dJ6_bitCount_0f7a4_43 : decode cJ6_bitCount_0f7a4 43 = .ok (.bipush 16, 2) := by decide +kernel
theorem dJ6_bitCount_0f7a4_45 : decode cJ6_bitCount_0f7a4 45 = .ok (.iushr, 1) := by decide +kernel
theorem dJ6_bitCount_0f7a4_46 : decode cJ6_bitCount_0f7a4 46 = .ok (.iadd, 1) := by decide +kernel
theorem dJ6_bitCount_0f7a4_47 : decode cJ6_bitCount_0f7a4 47 = .ok (.istore_n 0, 1) := by decide +kernel
theorem dJ6_bitCount_0f7a4_48 : decode cJ6_bitCount_0f7a4 48 = .ok (.iload_n 0, 1) := by decide +kernel
theorem dJ6_bitCount_0f7a4_49 : decode cJ6_bitCount_0f7a4 49 = .ok (.bipush 63, 2) := by decide +kernel
theorem dJ6_bitCount_0f7a4_51 : decode cJ6_bitCount_0f7a4 51 = .ok (.iand, 1) := by decide +kernel
theorem dJ6_bitCount_0f7a4_52 : decode cJ6_bitCount_0f7a4 52 = .ok (.ireturn, 1) := by decide +kernel
set_option maxRecDepth 20000 in
theorem ggL_state_X4_state : GoodIn wsL_state wsX4_state := goodIn_ca (goodIn_ca (goodIn_r _ [7, 8, 9, 10, 11, 12, 13, 14, 15, 16, 17, 18, 19, 20, 21, 22, 23, 24, 25, 26, 27, 28, 29, 30, 31, 32, 33, 34, 35, 36, 37, 38, 39, 40, 41] (by decide +kernel) (by decide +kernel)) (goodIn_sub (fun _ h => List.mem_cons_of_mem _ (List.mem_append_left _ (List.mem_append_right _ h))) (by decide +kernel))) (goodIn_sub (fun _ h => List.mem_cons_of_mem _ (List.mem_append_right _ h)) (by decide +kernel))
set_option maxRecDepth 20000 in
theorem gL_state_X4_state : GoodIn wsL_state (wsV RL 7 RX4 yX4_state wsX4_state) := goodIn_app (goodIn_of _ (by decide +kernel)) ggL_state_X4_state
theorem dL_state_0 : decode cL_state 0 = .ok (.aload_n 3, 1) := by decide +kernel
theorem dL_state_1 : decode cL_state 1 = .ok (.iconst 0, 1) := by decide +kernel
theorem dL_state_2 : decode cL_state 2 = .ok (.aload_n 0, 1) := by decide +kernel
theorem dL_state_3 : decode cL_state 3 = .ok (.iload_n 1, 1) := by decide +kernel
theorem dL_state_4 : decode cL_state 4 = .ok (.iload_n 2, 1) := by decide +kernel
theorem dL_state_5 : decode cL_state 5 = .ok (.invokevirtual 7, 3) := by decide +kernel
theorem dL_state_8 : decode cL_state 8 = .ok (.i2l, 1) := by decide +kernel
theorem dL_state_9 : decode cL_state 9 = .ok (.lastore, 1) := by decide +kernel
theorem dL_state_10 : decode cL_state 10 = .ok (.goto 11, 3) := by decide +kernel
theorem dL_state_13 : decode cL_state 13 = .ok (.astore 4, 2) := by decide +kernel
theorem dL_state_15 : decode cL_state 15 = .ok (.iconst 1, 1) := by decide +kernel
theorem dL_state_16 : decode cL_state 16 = .ok (.ireturn, 1) := by decide +kernel
theorem dL_state_17 : decode cL_state 17 = .ok (.astore 4, 2) := by decide +kernel
theorem dL_state_19 : decode cL_state 19 = .ok (.iconst 2, 1) := by decide +kernel
theorem dL_state_20 : decode cL_state 20 = .ok (.ireturn, 1) := by decide +kernel
theorem dL_state_21 : decode cL_state 21 = .ok (.iconst 0, 1) := by decide +kernel
theorem dL_state_22 : decode cL_state 22 = .ok (.ireturn, 1) := by decide +kernel
set_option maxRecDepth 20000 in
theorem ggL_move_X4_move : GoodIn wsL_move wsX4_move := goodIn_ca (goodIn_ca (goodIn_r _ [7, 8, 9, 10, 11, 12, 13, 14, 15, 16, 17, 18, 19, 20, 21, 6, 22, 23, 24, 25, 26, 27, 28, 29, 30, 31, 32, 33, 34, 35, 36, 37, 38, 39, 40, 41, 42, 43, 44, 45, 46, 47, 48, 49, 50] (by decide +kernel) (by decide +kernel)) (goodIn_sub (fun _ h => List.mem_cons_of_mem _ (List.mem_append_left _ (List.mem_append_right _ h))) (by decide +kernel))) (goodIn_sub (fun _ h => List.mem_cons_of_mem _ (List.mem_append_right _ h)) (by decide +kernel))
set_option maxRecDepth 20000 in
theorem gL_move_X4_move : GoodIn wsL_move (wsV RL 17 RX4 yX4_move wsX4_move) := goodIn_app (goodIn_of _ (by decide +kernel)) ggL_move_X4_move
theorem dL_move_0 : decode cL_move 0 = .ok (.aload 4, 2) := by decide +kernel
theorem dL_move_2 : decode cL_move 2 = .ok (.iconst 0, 1) := by decide +kernel
theorem dL_move_3 : decode cL_move 3 = .ok (.aload_n 0, 1) := by decide +kernel
theorem dL_move_4 : decode cL_move 4 = .ok (.iload_n 1, 1) := by decide +kernel
theorem dL_move_5 : decode cL_move 5 = .ok (.iload_n 2, 1) := by decide +kernel
theorem dL_move_6 : decode cL_move 6 = .ok (.iload_n 3, 1) := by decide +kernel
theorem dL_move_7 : decode cL_move 7 = .ok (.invokevirtual 17, 3) := by decide +kernel
theorem dL_move_10 : decode cL_move 10 = .ok (.i2l, 1) := by decide +kernel
theorem dL_move_11 : decode cL_move 11 = .ok (.lastore, 1) := by decide +kernel
theorem dL_move_12 : decode cL_move 12 = .ok (.goto 11, 3) := by decide +kernel
theorem dL_move_15 : decode cL_move 15 = .ok (.astore 5, 2) := by decide +kernel
theorem dL_move_17 : decode cL_move 17 = .ok (.iconst 1, 1) := by decide +kernel
theorem dL_move_18 : decode cL_move 18 = .ok (.ireturn, 1) := by decide +kernel
theorem dL_move_19 : decode cL_move 19 = .ok (.astore 5, 2) := by decide +kernel
theorem dL_move_21 : decode cL_move 21 = .ok (.iconst 2, 1) := by decide +kernel
theorem dL_move_22 : decode cL_move 22 = .ok (.ireturn, 1) := by decide +kernel
theorem dL_move_23 : decode cL_move 23 = .ok (.iconst 0, 1) := by decide +kernel
theorem dL_move_24 : decode cL_move 24 = .ok (.ireturn, 1) := by decide +kernel
set_option maxRecDepth 20000 in
theorem ggL_label_X4_label : GoodIn wsL_label wsX4_label := goodIn_ca (goodIn_ca (goodIn_r _ [7, 8, 9, 10, 11, 12, 13, 14, 6, 15, 16, 17, 18, 19, 20, 21] (by decide +kernel) (by decide +kernel)) (goodIn_sub (fun _ h => List.mem_cons_of_mem _ (List.mem_append_left _ (List.mem_append_right _ h))) (by decide +kernel))) (goodIn_sub (fun _ h => List.mem_cons_of_mem _ (List.mem_append_right _ h)) (by decide +kernel))
set_option maxRecDepth 20000 in
theorem gL_label_X4_label : GoodIn wsL_label (wsV RL 21 RX4 yX4_label wsX4_label) := goodIn_app (goodIn_of _ (by decide +kernel)) ggL_label_X4_label
theorem dL_label_0 : decode cL_label 0 = .ok (.aload_n 3, 1) := by decide +kernel
theorem dL_label_1 : decode cL_label 1 = .ok (.iconst 0, 1) := by decide +kernel
theorem dL_label_2 : decode cL_label 2 = .ok (.aload_n 0, 1) := by decide +kernel
theorem dL_label_3 : decode cL_label 3 = .ok (.iload_n 1, 1) := by decide +kernel
theorem dL_label_4 : decode cL_label 4 = .ok (.iload_n 2, 1) := by decide +kernel
theorem dL_label_5 : decode cL_label 5 = .ok (.invokevirtual 21, 3) := by decide +kernel
theorem dL_label_8 : decode cL_label 8 = .ok (.i2l, 1) := by decide +kernel
theorem dL_label_9 : decode cL_label 9 = .ok (.lastore, 1) := by decide +kernel
theorem dL_label_10 : decode cL_label 10 = .ok (.goto 11, 3) := by decide +kernel
theorem dL_label_13 : decode cL_label 13 = .ok (.astore 4, 2) := by decide +kernel
theorem dL_label_15 : decode cL_label 15 = .ok (.iconst 1, 1) := by decide +kernel
theorem dL_label_16 : decode cL_label 16 = .ok (.ireturn, 1) := by decide +kernel
theorem dL_label_17 : decode cL_label 17 = .ok (.astore 4, 2) := by decide +kernel
theorem dL_label_19 : decode cL_label 19 = .ok (.iconst 2, 1) := by decide +kernel
theorem dL_label_20 : decode cL_label 20 = .ok (.ireturn, 1) := by decide +kernel
theorem dL_label_21 : decode cL_label 21 = .ok (.iconst 0, 1) := by decide +kernel
theorem dL_label_22 : decode cL_label 22 = .ok (.ireturn, 1) := by decide +kernel
set_option maxRecDepth 20000 in
theorem ggL_live_X4_live : GoodIn wsL_live wsX4_live := goodIn_ca (goodIn_r _ [6, 7, 8, 5, 9, 10, 11, 12, 13, 14, 15, 16, 17, 18, 19, 20, 21, 22, 23, 24, 25, 26, 27, 28, 29, 30, 31, 32, 33, 34, 35, 36, 37, 38, 39, 40, 41, 42, 43, 44, 45, 46, 47, 48, 49, 50, 51, 52, 53, 54, 55, 56, 57, 58, 59, 60, 61, 62, 63, 64, 65, 66, 67, 68, 69, 70, 71, 72, 73, 74, 75, 76, 77, 78, 79, 80, 81, 82, 83, 84, 85, 86, 87, 88, 89, 90, 91, 92, 93, 94, 95, 96, 97, 98, 99, 100, 101, 102, 103, 104, 105, 106, 107, 108, 109, 110, 111, 112, 113, 114, 115, 116, 117, 118, 119, 120, 121, 122, 123, 124, 125, 126, 127, 128, 129, 130, 131, 132, 133, 134, 135, 136, 137, 138, 139, 140, 141, 142, 143, 144, 145, 146, 147, 148, 149, 150, 151, 152, 153, 154, 155, 156, 157, 158, 159, 160, 161, 162, 163, 164, 165, 166, 167, 168, 169, 170, 171, 172, 173, 174, 175, 176, 177, 178, 179, 180, 181, 182, 183, 184, 185, 186, 187] (by decide +kernel) (by decide +kernel)) (goodIn_sub (fun _ h => List.mem_cons_of_mem _ (List.mem_append_right _ h)) (by decide +kernel))
set_option maxRecDepth 20000 in
theorem gL_live_X4_live : GoodIn wsL_live (wsV RL 27 RX4 yX4_live wsX4_live) := goodIn_app (goodIn_of _ (by decide +kernel)) ggL_live_X4_live
theorem dL_live_0 : decode cL_live 0 = .ok (.aload_n 2, 1) := by decide +kernel
theorem dL_live_1 : decode cL_live 1 = .ok (.iconst 0, 1) := by decide +kernel
theorem dL_live_2 : decode cL_live 2 = .ok (.aload_n 0, 1) := by decide +kernel
theorem dL_live_3 : decode cL_live 3 = .ok (.iload_n 1, 1) := by decide +kernel
theorem dL_live_4 : decode cL_live 4 = .ok (.invokevirtual 27, 3) := by decide +kernel
theorem dL_live_7 : decode cL_live 7 = .ok (.ifCond .eq 7, 3) := by decide +kernel
theorem dL_live_10 : decode cL_live 10 = .ok (.lconst 1, 1) := by decide +kernel
theorem dL_live_11 : decode cL_live 11 = .ok (.goto 4, 3) := by decide +kernel
theorem dL_live_14 : decode cL_live 14 = .ok (.lconst 0, 1) := by decide +kernel
theorem dL_live_15 : decode cL_live 15 = .ok (.lastore, 1) := by decide +kernel
theorem dL_live_16 : decode cL_live 16 = .ok (.goto 6, 3) := by decide +kernel
theorem dL_live_19 : decode cL_live 19 = .ok (.astore_n 3, 1) := by decide +kernel
theorem dL_live_20 : decode cL_live 20 = .ok (.iconst 1, 1) := by decide +kernel
theorem dL_live_21 : decode cL_live 21 = .ok (.ireturn, 1) := by decide +kernel
theorem dL_live_22 : decode cL_live 22 = .ok (.iconst 0, 1) := by decide +kernel
theorem dL_live_23 : decode cL_live 23 = .ok (.ireturn, 1) := by decide +kernel
set_option maxRecDepth 20000 in
theorem ggL_parts_X4_parts : GoodIn wsL_parts wsX4_parts := goodIn_ca (goodIn_r _ [6, 7, 8, 9, 10, 5, 11, 12, 13, 14, 15, 16, 17, 18, 19, 20, 21, 22, 23, 24, 25, 26, 27, 28, 29, 30, 31, 32, 33, 34, 35, 36, 37, 38, 39, 40, 41, 42, 43, 44, 45, 46, 47, 48, 49, 50, 51, 52, 53, 54, 55, 56, 57, 58, 59, 60, 61, 62, 63, 64, 65, 66, 67, 68, 69, 70, 71, 72, 73, 74, 75, 76, 77, 78, 79, 80, 81, 82, 83, 84, 85, 86, 87, 88, 89, 90, 91, 92, 93, 94, 95, 96, 97, 98, 99, 100, 101, 102, 103, 104, 105, 106, 107, 108, 109, 110, 111, 112, 113, 114, 115, 116, 117, 118, 119, 120, 121, 122, 123, 124, 125, 126, 127, 128, 129, 130, 131, 132, 133, 134, 135, 136, 137, 138, 139, 140, 141, 142, 143, 144, 145, 146, 147, 148, 149, 150, 151, 152, 153, 154, 155, 156, 157, 158, 159, 160, 161, 162, 163, 164, 165, 166, 167, 168, 169, 170, 171, 172, 173, 174, 175, 176] (by decide +kernel) (by decide +kernel)) (goodIn_sub (fun _ h => List.mem_cons_of_mem _ (List.mem_append_right _ h)) (by decide +kernel))
set_option maxRecDepth 20000 in
theorem gL_parts_X4_parts : GoodIn wsL_parts (wsV RL 31 RX4 yX4_parts wsX4_parts) := goodIn_app (goodIn_of _ (by decide +kernel)) ggL_parts_X4_parts
theorem dL_parts_0 : decode cL_parts 0 = .ok (.aload_n 2, 1) := by decide +kernel
theorem dL_parts_1 : decode cL_parts 1 = .ok (.iconst 0, 1) := by decide +kernel
theorem dL_parts_2 : decode cL_parts 2 = .ok (.aload_n 0, 1) := by decide +kernel
theorem dL_parts_3 : decode cL_parts 3 = .ok (.iload_n 1, 1) := by decide +kernel
theorem dL_parts_4 : decode cL_parts 4 = .ok (.invokevirtual 31, 3) := by decide +kernel
theorem dL_parts_7 : decode cL_parts 7 = .ok (.i2l, 1) := by decide +kernel
theorem dL_parts_8 : decode cL_parts 8 = .ok (.lastore, 1) := by decide +kernel
theorem dL_parts_9 : decode cL_parts 9 = .ok (.goto 6, 3) := by decide +kernel
theorem dL_parts_12 : decode cL_parts 12 = .ok (.astore_n 3, 1) := by decide +kernel
theorem dL_parts_13 : decode cL_parts 13 = .ok (.iconst 1, 1) := by decide +kernel
theorem dL_parts_14 : decode cL_parts 14 = .ok (.ireturn, 1) := by decide +kernel
theorem dL_parts_15 : decode cL_parts 15 = .ok (.iconst 0, 1) := by decide +kernel
theorem dL_parts_16 : decode cL_parts 16 = .ok (.ireturn, 1) := by decide +kernel
set_option maxRecDepth 20000 in
theorem ggL_part_X4_part : GoodIn wsL_part wsX4_part := goodIn_ca (goodIn_ca (goodIn_r _ [7, 8, 9, 10, 11, 6, 12, 13, 14, 15, 16, 17, 18, 19, 20, 21, 22, 23, 24, 25, 26, 27, 28, 29, 30, 31, 32, 33, 34, 35, 36, 37, 38, 39, 40, 41, 42, 43, 44, 45, 46, 47, 48, 49, 50, 51, 52, 53, 54, 55, 56, 57, 58, 59, 60, 61, 62, 63, 64, 65, 66, 67, 68, 69, 70, 71, 72, 73, 74, 75, 76, 77, 78, 79, 80, 81, 82, 83, 84, 85, 86, 87, 88, 89, 90, 91, 92, 93, 94, 95, 96, 97, 98, 99, 100, 101, 102, 103, 104, 105, 106, 107, 108, 109, 110, 111, 112, 113, 114, 115, 116, 117, 118, 119, 120, 121, 122, 123, 124, 125, 126, 127, 128, 129, 130, 131, 132, 133, 134, 135, 136, 137, 138, 139, 140, 141, 142, 143, 144, 145, 146, 147, 148, 149, 150, 151, 152, 153, 154, 155, 156, 157, 158, 159, 160, 161, 162, 163, 164, 165, 166, 167, 168, 169, 170, 171, 172, 173, 174, 175, 176, 177, 178, 179, 180, 181, 182, 183, 184, 185, 186, 187] (by decide +kernel) (by decide +kernel)) (goodIn_sub (fun _ h => List.mem_cons_of_mem _ (List.mem_append_left _ (List.mem_append_right _ h))) (by decide +kernel))) (goodIn_sub (fun _ h => List.mem_cons_of_mem _ (List.mem_append_right _ h)) (by decide +kernel))
set_option maxRecDepth 20000 in
theorem gL_part_X4_part : GoodIn wsL_part (wsV RL 35 RX4 yX4_part wsX4_part) := goodIn_app (goodIn_of _ (by decide +kernel)) ggL_part_X4_part
theorem dL_part_0 : decode cL_part 0 = .ok (.aload 4, 2) := by decide +kernel
theorem dL_part_2 : decode cL_part 2 = .ok (.iconst 0, 1) := by decide +kernel
theorem dL_part_3 : decode cL_part 3 = .ok (.aload_n 0, 1) := by decide +kernel
theorem dL_part_4 : decode cL_part 4 = .ok (.iload_n 1, 1) := by decide +kernel
theorem dL_part_5 : decode cL_part 5 = .ok (.iload_n 2, 1) := by decide +kernel
theorem dL_part_6 : decode cL_part 6 = .ok (.iload_n 3, 1) := by decide +kernel
theorem dL_part_7 : decode cL_part 7 = .ok (.invokevirtual 35, 3) := by decide +kernel
theorem dL_part_10 : decode cL_part 10 = .ok (.i2l, 1) := by decide +kernel
theorem dL_part_11 : decode cL_part 11 = .ok (.lastore, 1) := by decide +kernel
theorem dL_part_12 : decode cL_part 12 = .ok (.goto 11, 3) := by decide +kernel
theorem dL_part_15 : decode cL_part 15 = .ok (.astore 5, 2) := by decide +kernel
theorem dL_part_17 : decode cL_part 17 = .ok (.iconst 1, 1) := by decide +kernel
theorem dL_part_18 : decode cL_part 18 = .ok (.ireturn, 1) := by decide +kernel
theorem dL_part_19 : decode cL_part 19 = .ok (.astore 5, 2) := by decide +kernel
theorem dL_part_21 : decode cL_part 21 = .ok (.iconst 2, 1) := by decide +kernel
theorem dL_part_22 : decode cL_part 22 = .ok (.ireturn, 1) := by decide +kernel
theorem dL_part_23 : decode cL_part 23 = .ok (.iconst 0, 1) := by decide +kernel
theorem dL_part_24 : decode cL_part 24 = .ok (.ireturn, 1) := by decide +kernel
set_option maxRecDepth 20000 in
theorem ggL_dead_X4_dead : GoodIn wsL_dead wsX4_dead := goodIn_ca (goodIn_ca (goodIn_r _ [7, 8, 9, 10, 11, 6, 12, 13, 14, 15, 16, 17, 18, 19, 20, 21, 22, 23, 24, 25, 26, 27, 28, 29, 30, 31, 32, 33, 34, 35, 36, 37, 38, 39, 40, 41, 42, 43, 44, 45, 46, 47, 48, 49, 50, 51, 52, 53, 54, 55, 56, 57, 58, 59, 60, 61, 62, 63, 64, 65, 66, 67, 68, 69, 70, 71, 72, 73, 74, 75, 76, 77, 78, 79, 80, 81, 82, 83, 84, 85, 86, 87] (by decide +kernel) (by decide +kernel)) (goodIn_sub (fun _ h => List.mem_cons_of_mem _ (List.mem_append_left _ (List.mem_append_right _ h))) (by decide +kernel))) (goodIn_sub (fun _ h => List.mem_cons_of_mem _ (List.mem_append_right _ h)) (by decide +kernel))
set_option maxRecDepth 20000 in
theorem gL_dead_X4_dead : GoodIn wsL_dead (wsV RL 38 RX4 yX4_dead wsX4_dead) := goodIn_app (goodIn_of _ (by decide +kernel)) ggL_dead_X4_dead
theorem dL_dead_0 : decode cL_dead 0 = .ok (.aload_n 3, 1) := by decide +kernel
theorem dL_dead_1 : decode cL_dead 1 = .ok (.iconst 0, 1) := by decide +kernel
theorem dL_dead_2 : decode cL_dead 2 = .ok (.aload_n 0, 1) := by decide +kernel
theorem dL_dead_3 : decode cL_dead 3 = .ok (.iload_n 1, 1) := by decide +kernel
theorem dL_dead_4 : decode cL_dead 4 = .ok (.iload_n 2, 1) := by decide +kernel
theorem dL_dead_5 : decode cL_dead 5 = .ok (.invokevirtual 38, 3) := by decide +kernel
theorem dL_dead_8 : decode cL_dead 8 = .ok (.i2l, 1) := by decide +kernel
theorem dL_dead_9 : decode cL_dead 9 = .ok (.lastore, 1) := by decide +kernel
theorem dL_dead_10 : decode cL_dead 10 = .ok (.goto 11, 3) := by decide +kernel
theorem dL_dead_13 : decode cL_dead 13 = .ok (.astore 4, 2) := by decide +kernel
theorem dL_dead_15 : decode cL_dead 15 = .ok (.iconst 1, 1) := by decide +kernel
theorem dL_dead_16 : decode cL_dead 16 = .ok (.ireturn, 1) := by decide +kernel
theorem dL_dead_17 : decode cL_dead 17 = .ok (.astore 4, 2) := by decide +kernel
theorem dL_dead_19 : decode cL_dead 19 = .ok (.iconst 2, 1) := by decide +kernel
theorem dL_dead_20 : decode cL_dead 20 = .ok (.ireturn, 1) := by decide +kernel
theorem dL_dead_21 : decode cL_dead 21 = .ok (.iconst 0, 1) := by decide +kernel
theorem dL_dead_22 : decode cL_dead 22 = .ok (.ireturn, 1) := by decide +kernel
set_option maxRecDepth 20000 in
theorem ggL_longest_X4_longest : GoodIn wsL_longest wsX4_longest := goodIn_ca (goodIn_r _ [6, 7, 8, 9, 10, 11, 5, 12, 13, 14, 15, 16, 17, 18, 19, 20, 21, 22, 23, 24, 25, 26, 27, 28, 29, 30, 31, 32, 33, 34, 35, 36, 37, 38, 39, 40, 41, 42, 43, 44, 45, 46, 47, 48, 49, 50, 51, 52, 53, 54, 55, 56, 57, 58, 59, 60, 61, 62, 63, 64, 65, 66, 67, 68, 69, 70, 71, 72, 73, 74, 75, 76, 77, 78, 79, 80, 81, 82, 83, 84, 85, 86, 87, 88, 89, 90, 91, 92, 93, 94, 95, 96, 97, 98, 99, 100, 101, 102, 103, 104, 105, 106, 107, 108, 109, 110, 111, 112, 113, 114, 115, 116, 117, 118, 119, 120, 121, 122, 123, 124, 125, 126, 127, 128, 129, 130, 131, 132, 133, 134, 135, 136, 137, 138, 139, 140, 141, 142, 143, 144, 145, 146, 147, 148, 149, 150, 151, 152, 153, 154, 155, 156, 157, 158, 159, 160, 161, 162, 163, 164, 165, 166, 167, 168, 169, 170, 171, 172] (by decide +kernel) (by decide +kernel)) (goodIn_sub (fun _ h => List.mem_cons_of_mem _ (List.mem_append_right _ h)) (by decide +kernel))
set_option maxRecDepth 20000 in
theorem gL_longest_X4_longest : GoodIn wsL_longest (wsV RL 41 RX4 yX4_longest wsX4_longest) := goodIn_app (goodIn_of _ (by decide +kernel)) ggL_longest_X4_longest
theorem dL_longest_0 : decode cL_longest 0 = .ok (.aload_n 2, 1) := by decide +kernel
theorem dL_longest_1 : decode cL_longest 1 = .ok (.iconst 0, 1) := by decide +kernel
theorem dL_longest_2 : decode cL_longest 2 = .ok (.aload_n 0, 1) := by decide +kernel
theorem dL_longest_3 : decode cL_longest 3 = .ok (.iload_n 1, 1) := by decide +kernel
theorem dL_longest_4 : decode cL_longest 4 = .ok (.invokevirtual 41, 3) := by decide +kernel
theorem dL_longest_7 : decode cL_longest 7 = .ok (.i2l, 1) := by decide +kernel
theorem dL_longest_8 : decode cL_longest 8 = .ok (.lastore, 1) := by decide +kernel
theorem dL_longest_9 : decode cL_longest 9 = .ok (.goto 6, 3) := by decide +kernel
theorem dL_longest_12 : decode cL_longest 12 = .ok (.astore_n 3, 1) := by decide +kernel
theorem dL_longest_13 : decode cL_longest 13 = .ok (.iconst 1, 1) := by decide +kernel
theorem dL_longest_14 : decode cL_longest 14 = .ok (.ireturn, 1) := by decide +kernel
theorem dL_longest_15 : decode cL_longest 15 = .ok (.iconst 0, 1) := by decide +kernel
theorem dL_longest_16 : decode cL_longest 16 = .ok (.ireturn, 1) := by decide +kernel
set_option maxRecDepth 20000 in
theorem ggL_rank_X4_rank : GoodIn wsL_rank wsX4_rank := goodIn_ca (goodIn_ca (goodIn_r _ [7, 8, 9, 10, 11, 12, 13, 14, 6, 15, 16, 17, 18, 19, 20, 21, 22, 23, 24, 25, 26, 27, 28, 29, 30, 31, 32, 33, 34, 35, 36, 37, 38, 39, 40, 41, 42, 43, 44, 45, 46, 47, 48, 49, 50, 51, 52, 53, 54, 55, 56, 57, 58, 59, 60, 61, 62, 63, 64, 65, 66, 67, 68, 69, 70, 71, 72, 73, 74, 75, 76, 77, 78, 79, 80, 81, 82, 83, 84, 85, 86, 87, 88, 89, 90, 91, 92, 93, 94, 95, 96, 97, 98, 99, 100, 101, 102, 103, 104, 105, 106, 107, 108, 109, 110, 111, 112, 113, 114, 115, 116, 117, 118, 119, 120, 121, 122, 123, 124, 125, 126, 127, 128, 129, 130, 131, 132, 133, 134, 135, 136, 137, 138, 139, 140, 141, 142, 143, 144, 145, 146, 147, 148, 149, 150, 151, 152, 153, 154, 155, 156, 157, 158, 159, 160, 161, 162, 163, 164, 165, 166, 167, 168, 169, 170, 171, 172, 173, 174, 175, 176, 177, 178, 179, 180, 181, 182, 183, 184, 185] (by decide +kernel) (by decide +kernel)) (goodIn_sub (fun _ h => List.mem_cons_of_mem _ (List.mem_append_left _ (List.mem_append_right _ h))) (by decide +kernel))) (goodIn_sub (fun _ h => List.mem_cons_of_mem _ (List.mem_append_right _ h)) (by decide +kernel))
set_option maxRecDepth 20000 in
theorem gL_rank_X4_rank : GoodIn wsL_rank (wsV RL 44 RX4 yX4_rank wsX4_rank) := goodIn_app (goodIn_of _ (by decide +kernel)) ggL_rank_X4_rank
theorem dL_rank_0 : decode cL_rank 0 = .ok (.aload_n 3, 1) := by decide +kernel
theorem dL_rank_1 : decode cL_rank 1 = .ok (.iconst 0, 1) := by decide +kernel
theorem dL_rank_2 : decode cL_rank 2 = .ok (.aload_n 0, 1) := by decide +kernel
theorem dL_rank_3 : decode cL_rank 3 = .ok (.iload_n 1, 1) := by decide +kernel
theorem dL_rank_4 : decode cL_rank 4 = .ok (.iload_n 2, 1) := by decide +kernel
theorem dL_rank_5 : decode cL_rank 5 = .ok (.invokevirtual 44, 3) := by decide +kernel
theorem dL_rank_8 : decode cL_rank 8 = .ok (.i2l, 1) := by decide +kernel
theorem dL_rank_9 : decode cL_rank 9 = .ok (.lastore, 1) := by decide +kernel
theorem dL_rank_10 : decode cL_rank 10 = .ok (.goto 11, 3) := by decide +kernel
theorem dL_rank_13 : decode cL_rank 13 = .ok (.astore 4, 2) := by decide +kernel
theorem dL_rank_15 : decode cL_rank 15 = .ok (.iconst 1, 1) := by decide +kernel
theorem dL_rank_16 : decode cL_rank 16 = .ok (.ireturn, 1) := by decide +kernel
theorem dL_rank_17 : decode cL_rank 17 = .ok (.astore 4, 2) := by decide +kernel
theorem dL_rank_19 : decode cL_rank 19 = .ok (.iconst 2, 1) := by decide +kernel
theorem dL_rank_20 : decode cL_rank 20 = .ok (.ireturn, 1) := by decide +kernel
theorem dL_rank_21 : decode cL_rank 21 = .ok (.iconst 0, 1) := by decide +kernel
theorem dL_rank_22 : decode cL_rank 22 = .ok (.ireturn, 1) := by decide +kernel
set_option maxRecDepth 20000 in
theorem ggL_row_X4_row : GoodIn wsL_row wsX4_row := goodIn_ca (goodIn_r _ [6, 7, 8, 9, 10, 11, 12, 13, 5, 14, 15, 16, 17, 18, 19, 20, 21, 22, 23, 24, 25, 26, 27, 28, 29, 30, 31, 32, 33, 34, 35, 36, 37, 38, 39, 40, 41, 42, 43, 44, 45, 46, 47, 48, 49, 50, 51, 52, 53, 54, 55, 56, 57, 58, 59, 60, 61, 62, 63] (by decide +kernel) (by decide +kernel)) (goodIn_sub (fun _ h => List.mem_cons_of_mem _ (List.mem_append_right _ h)) (by decide +kernel))
set_option maxRecDepth 20000 in
theorem gL_row_X4_row : GoodIn wsL_row (wsV RL 47 RX4 yX4_row wsX4_row) := goodIn_app (goodIn_of _ (by decide +kernel)) ggL_row_X4_row
theorem dL_row_0 : decode cL_row 0 = .ok (.aload_n 3, 1) := by decide +kernel
theorem dL_row_1 : decode cL_row 1 = .ok (.iconst 0, 1) := by decide +kernel
theorem dL_row_2 : decode cL_row 2 = .ok (.aload_n 0, 1) := by decide +kernel
theorem dL_row_3 : decode cL_row 3 = .ok (.iload_n 1, 1) := by decide +kernel
theorem dL_row_4 : decode cL_row 4 = .ok (.iload_n 2, 1) := by decide +kernel
theorem dL_row_5 : decode cL_row 5 = .ok (.invokevirtual 47, 3) := by decide +kernel
theorem dL_row_8 : decode cL_row 8 = .ok (.i2l, 1) := by decide +kernel
theorem dL_row_9 : decode cL_row 9 = .ok (.lastore, 1) := by decide +kernel
theorem dL_row_10 : decode cL_row 10 = .ok (.goto 7, 3) := by decide +kernel
theorem dL_row_13 : decode cL_row 13 = .ok (.astore 4, 2) := by decide +kernel
theorem dL_row_15 : decode cL_row 15 = .ok (.iconst 1, 1) := by decide +kernel
theorem dL_row_16 : decode cL_row 16 = .ok (.ireturn, 1) := by decide +kernel
theorem dL_row_17 : decode cL_row 17 = .ok (.iconst 0, 1) := by decide +kernel
theorem dL_row_18 : decode cL_row 18 = .ok (.ireturn, 1) := by decide +kernel
set_option maxRecDepth 20000 in
theorem ggL_largest_X4_largest : GoodIn wsL_largest wsX4_largest := goodIn_ca (goodIn_r _ [6, 7, 8, 9, 10, 11, 5, 12, 13, 14, 15, 16, 17, 18, 19, 20, 21, 22, 23, 24, 25, 26, 27, 28, 29, 30, 31, 32, 33, 34, 35, 36, 37, 38, 39, 40, 41, 42, 43, 44, 45, 46, 47, 48, 49, 50, 51, 52, 53, 54, 55, 56, 57, 58, 59, 60, 61, 62, 63, 64, 65, 66, 67, 68, 69, 70, 71, 72, 73, 74, 75, 76, 77, 78, 79, 80, 81, 82, 83, 84, 85, 86, 87, 88, 89, 90, 91, 92, 93, 94, 95, 96, 97, 98, 99, 100, 101, 102, 103, 104, 105, 106, 107, 108, 109, 110, 111, 112, 113, 114, 115, 116, 117, 118, 119, 120, 121, 122, 123, 124, 125, 126, 127, 128, 129, 130, 131, 132, 133, 134, 135, 136, 137, 138, 139, 140, 141, 142, 143, 144, 145, 146, 147, 148, 149, 150, 151, 152, 153, 154, 155, 156, 157, 158] (by decide +kernel) (by decide +kernel)) (goodIn_sub (fun _ h => List.mem_cons_of_mem _ (List.mem_append_right _ h)) (by decide +kernel))
set_option maxRecDepth 20000 in
theorem gL_largest_X4_largest : GoodIn wsL_largest (wsV RL 50 RX4 yX4_largest wsX4_largest) := goodIn_app (goodIn_of _ (by decide +kernel)) ggL_largest_X4_largest
theorem dL_largest_0 : decode cL_largest 0 = .ok (.aload_n 2, 1) := by decide +kernel
theorem dL_largest_1 : decode cL_largest 1 = .ok (.iconst 0, 1) := by decide +kernel
theorem dL_largest_2 : decode cL_largest 2 = .ok (.aload_n 0, 1) := by decide +kernel
theorem dL_largest_3 : decode cL_largest 3 = .ok (.iload_n 1, 1) := by decide +kernel
theorem dL_largest_4 : decode cL_largest 4 = .ok (.invokevirtual 50, 3) := by decide +kernel
theorem dL_largest_7 : decode cL_largest 7 = .ok (.i2l, 1) := by decide +kernel
theorem dL_largest_8 : decode cL_largest 8 = .ok (.lastore, 1) := by decide +kernel
theorem dL_largest_9 : decode cL_largest 9 = .ok (.goto 6, 3) := by decide +kernel
theorem dL_largest_12 : decode cL_largest 12 = .ok (.astore_n 3, 1) := by decide +kernel
theorem dL_largest_13 : decode cL_largest 13 = .ok (.iconst 1, 1) := by decide +kernel
theorem dL_largest_14 : decode cL_largest 14 = .ok (.ireturn, 1) := by decide +kernel
theorem dL_largest_15 : decode cL_largest 15 = .ok (.iconst 0, 1) := by decide +kernel
theorem dL_largest_16 : decode cL_largest 16 = .ok (.ireturn, 1) := by decide +kernel
set_option maxRecDepth 20000 in
theorem ggL_law_X4_init : GoodIn wsL_law wsX4_init := goodIn_r _ [9, 10, 11, 12, 13, 14, 15, 16, 17, 18, 19, 20, 21, 22, 23, 24, 25, 26, 27, 28, 29, 30, 31, 32, 33, 34, 35, 36, 37, 38, 39, 40, 41, 42, 43, 44, 45, 46, 47, 48, 49, 50, 51, 52, 53, 54, 55, 56, 57, 58, 59, 60, 61, 62, 63, 64, 65, 66, 67, 68, 541, 542, 543, 544, 545, 546, 547, 548, 549, 550, 551, 508, 509, 510, 511, 512, 513, 552, 553, 554, 555, 556, 557, 558, 559, 560, 561, 562, 563, 564, 565, 566, 567, 568, 569, 570, 571, 572, 573] (by decide +kernel) (by decide +kernel)
set_option maxRecDepth 20000 in
theorem gL_law_X4_init : GoodIn wsL_law (wsX4_init) := ggL_law_X4_init
set_option maxRecDepth 20000 in
theorem ggL_law_X5_init : GoodIn wsL_law wsX5_init := goodIn_r _ [71, 72, 11, 12, 17, 73, 74, 75, 76, 77, 78, 79, 80, 36, 81, 82, 83, 84, 85, 86, 87, 88, 89, 90, 91, 92, 93, 514, 515, 516, 517, 518, 519, 520, 521, 522, 523, 524, 525, 526, 527, 528, 529, 530, 531, 532, 533, 534, 535, 536, 537, 538, 539, 540] (by decide +kernel) (by decide +kernel)
set_option maxRecDepth 20000 in
theorem gL_law_X5_init : GoodIn wsL_law (wsX5_init) := ggL_law_X5_init
set_option maxRecDepth 20000 in
theorem ggL_law_L_state : GoodIn wsL_law wsL_state := goodIn_ca (goodIn_ca (goodIn_r _ [97, 98, 99, 100, 101, 102, 2, 103, 104, 105, 106, 107, 16, 108, 109, 110, 111, 15, 112, 113, 35, 37, 114, 43, 115, 508, 509, 510, 511, 512, 513, 541, 542, 543, 544, 545, 546, 547, 548, 549, 550, 551] (by decide +kernel) (by decide +kernel)) (goodIn_sub (fun _ h => List.mem_append_left _ (List.mem_append_left _ (List.mem_append_right _ h))) (by decide +kernel))) (goodIn_sub (fun _ h => List.mem_append_left _ (List.mem_append_right _ h)) (by decide +kernel))
set_option maxRecDepth 20000 in
theorem gL_law_L_state : GoodIn wsL_law (va_wsS RL 57 yL_state wsL_state) := goodIn_app (goodIn_of _ (by decide +kernel)) ggL_law_L_state
set_option maxRecDepth 20000 in
theorem ggL_law_X5_state : GoodIn wsL_law wsX5_state := goodIn_r _ [119, 120, 121, 73, 81, 78, 79, 122, 123, 124, 5, 125, 126, 86, 514, 515, 516, 517, 518, 519, 520, 521, 522, 523, 524, 525, 526, 527, 528, 529, 530, 531, 532, 533, 534, 535, 536, 537, 538, 539, 540] (by decide +kernel) (by decide +kernel)
set_option maxRecDepth 20000 in
theorem gL_law_X5_state : GoodIn wsL_law (wsV RL 62 RX5 yX5_state wsX5_state) := goodIn_app (goodIn_of _ (by decide +kernel)) ggL_law_X5_state
set_option maxRecDepth 20000 in
theorem ggL_law_X5_thrown : GoodIn wsL_law wsX5_thrown := goodIn_r _ [130, 121, 514, 515, 516, 517, 518, 519, 520, 521, 522, 523, 524, 525, 526, 527, 528, 529, 530, 531, 532, 533, 534, 535, 536, 537, 538, 539, 540] (by decide +kernel) (by decide +kernel)
set_option maxRecDepth 20000 in
theorem gL_law_X5_thrown : GoodIn wsL_law (wsV RL 63 RX5 yX5_thrown wsX5_thrown) := goodIn_app (goodIn_of _ (by decide +kernel)) ggL_law_X5_thrown
set_option maxRecDepth 20000 in
theorem ggL_law_L_move : GoodIn wsL_law wsL_move := goodIn_ca (goodIn_ca (goodIn_r _ [133, 98, 99, 134, 135, 136, 2, 137, 104, 105, 106, 107, 16, 138, 139, 140, 141, 15, 142, 113, 143, 144, 145, 146, 147, 148, 149, 115, 39, 40, 41, 38, 43, 42, 508, 509, 510, 511, 512, 513, 541, 542, 543, 544, 545, 546, 547, 548, 549, 550, 551] (by decide +kernel) (by decide +kernel)) (goodIn_sub (fun _ h => List.mem_append_left _ (List.mem_append_left _ (List.mem_append_right _ h))) (by decide +kernel))) (goodIn_sub (fun _ h => List.mem_append_left _ (List.mem_append_right _ h)) (by decide +kernel))
set_option maxRecDepth 20000 in
theorem gL_law_L_move : GoodIn wsL_law (va_wsS RL 67 yL_move wsL_move) := goodIn_app (goodIn_of _ (by decide +kernel)) ggL_law_L_move
set_option maxRecDepth 20000 in
theorem ggL_law_X5_move : GoodIn wsL_law wsX5_move := goodIn_r _ [153, 154, 121, 74, 75, 76, 80, 78, 79, 155, 156, 157, 5, 158, 120, 122, 123, 124, 125, 126, 86, 514, 515, 516, 517, 518, 519, 520, 521, 522, 523, 524, 525, 526, 527, 528, 529, 530, 531, 532, 533, 534, 535, 536, 537, 538, 539, 540] (by decide +kernel) (by decide +kernel)
set_option maxRecDepth 20000 in
theorem gL_law_X5_move : GoodIn wsL_law (wsV RL 70 RX5 yX5_move wsX5_move) := goodIn_app (goodIn_of _ (by decide +kernel)) ggL_law_X5_move
set_option maxRecDepth 20000 in
theorem ggL_law_L_label : GoodIn wsL_law wsL_label := goodIn_ca (goodIn_ca (goodIn_r _ [161, 162, 98, 163, 164, 165, 2, 166, 167, 168, 104, 105, 18, 143, 144, 145, 508, 509, 510, 511, 512, 513] (by decide +kernel) (by decide +kernel)) (goodIn_sub (fun _ h => List.mem_append_right _ h) (by decide +kernel))) (goodIn_sub (fun _ h => List.mem_append_left _ (List.mem_append_left _ (List.mem_append_right _ h))) (by decide +kernel))
set_option maxRecDepth 20000 in
theorem gL_law_L_label : GoodIn wsL_law (va_wsS RL 71 yL_label wsL_label) := goodIn_app (goodIn_of _ (by decide +kernel)) ggL_law_L_label
set_option maxRecDepth 20000 in
theorem ggL_law_X5_label : GoodIn wsL_law wsX5_label := goodIn_r _ [172, 121, 77, 122, 123, 124, 5, 125, 126, 86, 514, 515, 516, 517, 518, 519, 520, 521, 522, 523, 524, 525, 526, 527, 528, 529, 530, 531, 532, 533, 534, 535, 536, 537, 538, 539, 540] (by decide +kernel) (by decide +kernel)
set_option maxRecDepth 20000 in
theorem gL_law_X5_label : GoodIn wsL_law (wsV RL 74 RX5 yX5_label wsX5_label) := goodIn_app (goodIn_of _ (by decide +kernel)) ggL_law_X5_label
set_option maxRecDepth 20000 in
theorem ggL_law_X4_reached : GoodIn wsL_law wsX4_reached := goodIn_r _ [176, 22, 16, 177, 178, 179, 180, 21, 181, 182, 48, 183, 47, 184, 185, 186, 187, 188, 189, 190, 49, 508, 509, 510, 511, 512, 513, 552, 553, 554, 555, 541, 542, 543, 544, 545, 546, 547, 548, 549, 550, 551] (by decide +kernel) (by decide +kernel)
set_option maxRecDepth 20000 in
theorem gL_law_X4_reached : GoodIn wsL_law (wsV RL 75 RX4 yX4_reached wsX4_reached) := goodIn_app (goodIn_of _ (by decide +kernel)) ggL_law_X4_reached
set_option maxRecDepth 20000 in
theorem ggL_law_X5_reached : GoodIn wsL_law wsX5_reached := goodIn_r _ [194, 121, 195, 196, 197, 198, 5, 199, 126, 120, 85, 83, 82, 78, 75, 80, 514, 515, 516, 517, 518, 519, 520, 521, 522, 523, 524, 525, 526, 527, 528, 529, 530, 531, 532, 533, 534, 535, 536, 537, 538, 539, 540] (by decide +kernel) (by decide +kernel)
set_option maxRecDepth 20000 in
theorem gL_law_X5_reached : GoodIn wsL_law (wsV RL 78 RX5 yX5_reached wsX5_reached) := goodIn_app (goodIn_of _ (by decide +kernel)) ggL_law_X5_reached
set_option maxRecDepth 20000 in
theorem ggL_law_L_live : GoodIn wsL_law wsL_live := goodIn_ca (goodIn_r _ [202, 98, 203, 204, 205, 2, 206, 207, 208, 209, 104, 105, 210, 211, 212, 213, 26, 214, 215, 216, 217, 218, 22, 16, 108, 219, 220, 221, 178, 179, 180, 21, 181, 182, 48, 183, 47, 184, 185, 186, 187, 188, 189, 190, 49, 222, 223, 224, 225, 226, 227, 228, 15, 229, 37, 43, 230, 231, 232, 233, 30, 234, 235, 236, 237, 18, 238, 239, 240, 25, 241, 242, 243, 244, 245, 246, 247, 56, 54, 53, 248, 249, 250, 251, 252, 59, 58, 253, 254, 255, 256, 257, 258, 259, 57, 60, 260, 261, 262, 263, 55, 264, 265, 266, 267, 268, 269, 270, 271, 272, 273, 274, 29, 275, 276, 64, 66, 67, 68, 277, 278, 279, 280, 281, 282, 283, 284, 285, 286, 287, 288, 65, 289, 290, 291, 292, 293, 294, 295, 296, 297, 298, 299, 300, 301, 302, 303, 304, 305, 508, 509, 510, 511, 512, 513, 556, 557, 558, 559, 560, 561, 562, 563, 564, 565, 566, 567, 568, 541, 542, 543, 544, 545, 546, 547, 548, 549, 550, 551, 552, 553, 554, 555, 569, 570, 571, 572, 573] (by decide +kernel) (by decide +kernel)) (goodIn_sub (fun _ h => List.mem_append_left _ (List.mem_append_left _ (List.mem_append_right _ h))) (by decide +kernel))
set_option maxRecDepth 20000 in
theorem gL_law_L_live : GoodIn wsL_law (va_wsS RL 79 yL_live wsL_live) := goodIn_app (goodIn_of _ (by decide +kernel)) ggL_law_L_live
set_option maxRecDepth 20000 in
theorem ggL_law_X5_live : GoodIn wsL_law wsX5_live := goodIn_r _ [309, 310, 311, 312, 5, 313, 121, 314, 315, 316, 317, 318, 120, 319, 320, 321, 322, 86, 90, 85, 73, 87, 323, 92, 126, 196, 197, 198, 199, 195, 83, 82, 78, 75, 80, 324, 325, 326, 327, 328, 329, 330, 331, 89, 332, 333, 334, 335, 336, 337, 338, 339, 340, 341, 342, 343, 344, 345, 346, 347, 77, 348, 349, 350, 351, 154, 76, 74, 352, 353, 354, 355, 356, 357, 358, 359, 81, 360, 361, 362, 363, 514, 515, 516, 517, 518, 519, 520, 521, 522, 523, 524, 525, 526, 527, 528, 529, 530, 531, 532, 533, 534, 535, 536, 537, 538, 539, 540] (by decide +kernel) (by decide +kernel)
set_option maxRecDepth 20000 in
theorem gL_law_X5_live : GoodIn wsL_law (wsV RL 82 RX5 yX5_live wsX5_live) := goodIn_app (goodIn_of _ (by decide +kernel)) ggL_law_X5_live
set_option maxRecDepth 20000 in
theorem ggL_law_L_parts : GoodIn wsL_law wsL_parts := goodIn_ca (goodIn_r _ [366, 98, 367, 368, 369, 2, 370, 26, 214, 207, 208, 209, 104, 105, 371, 372, 373, 374, 215, 216, 217, 218, 22, 16, 108, 219, 220, 221, 178, 179, 180, 21, 181, 182, 48, 183, 47, 184, 185, 186, 187, 188, 189, 190, 49, 230, 231, 232, 233, 30, 234, 235, 236, 237, 18, 238, 239, 240, 25, 241, 242, 243, 244, 245, 246, 247, 56, 54, 53, 248, 249, 250, 251, 252, 59, 58, 253, 254, 255, 256, 257, 258, 259, 57, 60, 260, 261, 262, 263, 55, 264, 265, 266, 267, 268, 269, 270, 271, 272, 273, 274, 29, 275, 276, 64, 66, 67, 68, 277, 278, 279, 280, 281, 282, 283, 284, 285, 286, 287, 288, 65, 289, 290, 291, 292, 293, 294, 295, 296, 297, 298, 299, 300, 301, 302, 303, 304, 305, 508, 509, 510, 511, 512, 513, 556, 557, 558, 559, 560, 561, 562, 563, 564, 565, 566, 567, 568, 541, 542, 543, 544, 545, 546, 547, 548, 549, 550, 551, 552, 553, 554, 555, 569, 570, 571, 572, 573] (by decide +kernel) (by decide +kernel)) (goodIn_sub (fun _ h => List.mem_append_left _ (List.mem_append_left _ (List.mem_append_right _ h))) (by decide +kernel))
set_option maxRecDepth 20000 in
theorem gL_law_L_parts : GoodIn wsL_law (va_wsS RL 83 yL_parts wsL_parts) := goodIn_app (goodIn_of _ (by decide +kernel)) ggL_law_L_parts
set_option maxRecDepth 20000 in
theorem ggL_law_X5_parts : GoodIn wsL_law wsX5_parts := goodIn_r _ [378, 318, 310, 311, 312, 5, 313, 121, 319, 320, 321, 322, 86, 120, 90, 85, 73, 87, 323, 92, 126, 196, 197, 198, 199, 195, 83, 82, 78, 75, 80, 324, 325, 326, 327, 328, 329, 330, 331, 89, 332, 333, 334, 335, 336, 337, 338, 339, 340, 341, 342, 343, 344, 345, 346, 347, 77, 348, 349, 350, 351, 154, 76, 74, 352, 353, 354, 355, 514, 515, 516, 517, 518, 519, 520, 521, 522, 523, 524, 525, 526, 527, 528, 529, 530, 531, 532, 533, 534, 535, 536, 537, 538, 539, 540] (by decide +kernel) (by decide +kernel)
set_option maxRecDepth 20000 in
theorem gL_law_X5_parts : GoodIn wsL_law (wsV RL 85 RX5 yX5_parts wsX5_parts) := goodIn_app (goodIn_of _ (by decide +kernel)) ggL_law_X5_parts
set_option maxRecDepth 20000 in
theorem ggL_law_L_part : GoodIn wsL_law wsL_part := goodIn_ca (goodIn_ca (goodIn_r _ [381, 98, 162, 382, 383, 384, 2, 385, 167, 168, 207, 208, 209, 104, 105, 371, 372, 373, 374, 215, 216, 217, 218, 22, 16, 108, 26, 219, 220, 221, 178, 179, 180, 21, 181, 182, 48, 183, 47, 184, 185, 186, 187, 188, 189, 190, 49, 230, 231, 232, 233, 30, 234, 235, 236, 237, 18, 238, 239, 240, 25, 241, 242, 243, 244, 245, 246, 247, 56, 54, 53, 248, 249, 250, 251, 252, 59, 58, 253, 254, 255, 256, 257, 258, 259, 57, 60, 260, 261, 262, 263, 55, 264, 265, 266, 267, 268, 269, 270, 271, 272, 273, 274, 29, 275, 276, 64, 66, 67, 68, 277, 278, 279, 280, 281, 282, 283, 284, 285, 286, 287, 288, 65, 289, 290, 291, 292, 293, 294, 295, 296, 297, 298, 299, 300, 301, 302, 303, 304, 305, 386, 387, 388, 389, 390, 391, 392, 393, 394, 508, 509, 510, 511, 512, 513, 541, 542, 543, 544, 545, 546, 547, 548, 549, 550, 551, 556, 557, 558, 559, 560, 561, 562, 563, 564, 565, 566, 567, 568, 552, 553, 554, 555, 569, 570, 571, 572, 573] (by decide +kernel) (by decide +kernel)) (goodIn_sub (fun _ h => List.mem_append_right _ h) (by decide +kernel))) (goodIn_sub (fun _ h => List.mem_append_left _ (List.mem_append_left _ (List.mem_append_right _ h))) (by decide +kernel))
set_option maxRecDepth 20000 in
theorem gL_law_L_part : GoodIn wsL_law (va_wsS RL 86 yL_part wsL_part) := goodIn_app (goodIn_of _ (by decide +kernel)) ggL_law_L_part
set_option maxRecDepth 20000 in
theorem ggL_law_X5_part : GoodIn wsL_law wsX5_part := goodIn_r _ [398, 120, 92, 121, 310, 311, 312, 5, 313, 319, 320, 321, 322, 86, 90, 85, 73, 87, 323, 318, 126, 196, 197, 198, 199, 195, 83, 82, 78, 75, 80, 324, 325, 326, 327, 328, 329, 330, 331, 89, 332, 333, 334, 335, 336, 337, 338, 339, 340, 341, 342, 343, 344, 345, 346, 347, 77, 348, 349, 350, 351, 154, 76, 74, 352, 353, 354, 355, 514, 515, 516, 517, 518, 519, 520, 521, 522, 523, 524, 525, 526, 527, 528, 529, 530, 531, 532, 533, 534, 535, 536, 537, 538, 539, 540] (by decide +kernel) (by decide +kernel)
set_option maxRecDepth 20000 in
theorem gL_law_X5_part : GoodIn wsL_law (wsV RL 88 RX5 yX5_part wsX5_part) := goodIn_app (goodIn_of _ (by decide +kernel)) ggL_law_X5_part
set_option maxRecDepth 20000 in
theorem ggL_law_L_dead : GoodIn wsL_law wsL_dead := goodIn_ca (goodIn_ca (goodIn_r _ [401, 98, 162, 402, 403, 404, 2, 405, 167, 168, 207, 208, 209, 104, 105, 215, 216, 217, 218, 22, 16, 108, 26, 219, 220, 221, 178, 179, 180, 21, 181, 182, 48, 183, 47, 184, 185, 186, 187, 188, 189, 190, 49, 222, 223, 224, 225, 226, 227, 228, 15, 229, 37, 43, 508, 509, 510, 511, 512, 513, 541, 542, 543, 544, 545, 546, 547, 548, 549, 550, 551, 556, 557, 558, 559, 560, 561, 562, 563, 564, 565, 566, 567, 568, 552, 553, 554, 555] (by decide +kernel) (by decide +kernel)) (goodIn_sub (fun _ h => List.mem_append_right _ h) (by decide +kernel))) (goodIn_sub (fun _ h => List.mem_append_left _ (List.mem_append_left _ (List.mem_append_right _ h))) (by decide +kernel))
set_option maxRecDepth 20000 in
theorem gL_law_L_dead : GoodIn wsL_law (va_wsS RL 89 yL_dead wsL_dead) := goodIn_app (goodIn_of _ (by decide +kernel)) ggL_law_L_dead
set_option maxRecDepth 20000 in
theorem ggL_law_X5_dead : GoodIn wsL_law wsX5_dead := goodIn_r _ [409, 120, 121, 310, 311, 312, 5, 313, 319, 320, 321, 322, 86, 90, 85, 73, 87, 323, 92, 318, 126, 196, 197, 198, 199, 195, 83, 82, 78, 75, 80, 324, 325, 326, 327, 328, 329, 330, 331, 89, 332, 333, 334, 335, 336, 337, 338, 339, 340, 341, 342, 343, 344, 345, 346, 347, 77, 348, 349, 350, 351, 154, 76, 74, 352, 353, 354, 355, 356, 357, 358, 359, 81, 360, 361, 362, 363, 514, 515, 516, 517, 518, 519, 520, 521, 522, 523, 524, 525, 526, 527, 528, 529, 530, 531, 532, 533, 534, 535, 536, 537, 538, 539, 540] (by decide +kernel) (by decide +kernel)
set_option maxRecDepth 20000 in
theorem gL_law_X5_dead : GoodIn wsL_law (wsV RL 91 RX5 yX5_dead wsX5_dead) := goodIn_app (goodIn_of _ (by decide +kernel)) ggL_law_X5_dead
set_option maxRecDepth 20000 in
theorem ggL_law_L_longest : GoodIn wsL_law wsL_longest := goodIn_ca (goodIn_r _ [412, 98, 413, 414, 415, 2, 416, 30, 26, 214, 207, 208, 209, 104, 105, 417, 418, 419, 420, 16, 215, 216, 217, 218, 22, 108, 219, 220, 221, 178, 179, 180, 21, 181, 182, 48, 183, 47, 184, 185, 186, 187, 188, 189, 190, 49, 238, 239, 240, 25, 241, 242, 243, 244, 245, 246, 247, 56, 54, 53, 248, 249, 250, 251, 252, 59, 58, 253, 254, 255, 256, 257, 258, 259, 57, 60, 260, 261, 262, 263, 55, 264, 265, 266, 267, 268, 269, 270, 271, 272, 273, 274, 29, 275, 276, 64, 66, 67, 68, 277, 278, 279, 280, 281, 282, 283, 284, 285, 286, 287, 288, 65, 289, 290, 291, 292, 421, 422, 423, 424, 425, 426, 427, 428, 429, 430, 31, 431, 432, 433, 434, 435, 436, 437, 508, 509, 510, 511, 512, 513, 556, 557, 558, 559, 560, 561, 562, 563, 564, 565, 566, 567, 568, 541, 542, 543, 544, 545, 546, 547, 548, 549, 550, 551, 552, 553, 554, 555, 569, 570, 571, 572, 573] (by decide +kernel) (by decide +kernel)) (goodIn_sub (fun _ h => List.mem_append_left _ (List.mem_append_left _ (List.mem_append_right _ h))) (by decide +kernel))
set_option maxRecDepth 20000 in
theorem gL_law_L_longest : GoodIn wsL_law (va_wsS RL 92 yL_longest wsL_longest) := goodIn_app (goodIn_of _ (by decide +kernel)) ggL_law_L_longest
set_option maxRecDepth 20000 in
theorem ggL_law_X5_longest : GoodIn wsL_law wsX5_longest := goodIn_r _ [441, 120, 93, 310, 311, 312, 5, 313, 121, 442, 443, 444, 445, 90, 323, 154, 74, 75, 319, 320, 321, 322, 86, 85, 73, 87, 92, 318, 126, 196, 197, 198, 199, 195, 83, 82, 78, 80, 324, 325, 326, 327, 328, 329, 330, 331, 89, 332, 333, 334, 335, 336, 337, 338, 339, 340, 341, 342, 343, 344, 345, 346, 347, 77, 348, 349, 350, 351, 76, 352, 353, 354, 355, 514, 515, 516, 517, 518, 519, 520, 521, 522, 523, 524, 525, 526, 527, 528, 529, 530, 531, 532, 533, 534, 535, 536, 537, 538, 539, 540] (by decide +kernel) (by decide +kernel)
set_option maxRecDepth 20000 in
theorem gL_law_X5_longest : GoodIn wsL_law (wsV RL 94 RX5 yX5_longest wsX5_longest) := goodIn_app (goodIn_of _ (by decide +kernel)) ggL_law_X5_longest
set_option maxRecDepth 20000 in
theorem ggL_law_L_rank : GoodIn wsL_law wsL_rank := goodIn_ca (goodIn_ca (goodIn_r _ [448, 98, 162, 449, 450, 451, 2, 452, 26, 219, 30, 214, 31, 207, 208, 209, 104, 105, 453, 454, 455, 456, 167, 168, 16, 139, 140, 141, 15, 142, 113, 417, 418, 419, 420, 215, 216, 217, 218, 22, 108, 220, 221, 178, 179, 180, 21, 181, 182, 48, 183, 47, 184, 185, 186, 187, 188, 189, 190, 49, 238, 239, 240, 25, 241, 242, 243, 244, 245, 246, 247, 56, 54, 53, 248, 249, 250, 251, 252, 59, 58, 253, 254, 255, 256, 257, 258, 259, 57, 60, 260, 261, 262, 263, 55, 264, 265, 266, 267, 268, 269, 270, 271, 272, 273, 274, 29, 275, 276, 64, 66, 67, 68, 277, 278, 279, 280, 281, 282, 283, 284, 285, 286, 287, 288, 65, 289, 290, 291, 292, 421, 422, 423, 424, 425, 426, 427, 428, 429, 430, 431, 432, 433, 434, 435, 436, 437, 508, 509, 510, 511, 512, 513, 556, 557, 558, 559, 560, 561, 562, 563, 564, 565, 566, 567, 568, 541, 542, 543, 544, 545, 546, 547, 548, 549, 550, 551, 552, 553, 554, 555, 569, 570, 571, 572, 573] (by decide +kernel) (by decide +kernel)) (goodIn_sub (fun _ h => List.mem_append_left _ (List.mem_append_left _ (List.mem_append_right _ h))) (by decide +kernel))) (goodIn_sub (fun _ h => List.mem_append_right _ h) (by decide +kernel))
set_option maxRecDepth 20000 in
theorem gL_law_L_rank : GoodIn wsL_law (va_wsS RL 95 yL_rank wsL_rank) := goodIn_app (goodIn_of _ (by decide +kernel)) ggL_law_L_rank
set_option maxRecDepth 20000 in
theorem ggL_law_X5_rank : GoodIn wsL_law wsX5_rank := goodIn_r _ [460, 121, 93, 310, 311, 312, 5, 313, 155, 156, 157, 158, 120, 442, 443, 444, 445, 90, 323, 154, 74, 75, 319, 320, 321, 322, 86, 85, 73, 87, 92, 318, 126, 196, 197, 198, 199, 195, 83, 82, 78, 80, 324, 325, 326, 327, 328, 329, 330, 331, 89, 332, 333, 334, 335, 336, 337, 338, 339, 340, 341, 342, 343, 344, 345, 346, 347, 77, 348, 349, 350, 351, 76, 352, 353, 354, 355, 514, 515, 516, 517, 518, 519, 520, 521, 522, 523, 524, 525, 526, 527, 528, 529, 530, 531, 532, 533, 534, 535, 536, 537, 538, 539, 540] (by decide +kernel) (by decide +kernel)
set_option maxRecDepth 20000 in
theorem gL_law_X5_rank : GoodIn wsL_law (wsV RL 97 RX5 yX5_rank wsX5_rank) := goodIn_app (goodIn_of _ (by decide +kernel)) ggL_law_X5_rank
set_option maxRecDepth 20000 in
theorem ggL_law_L_row : GoodIn wsL_law wsL_row := goodIn_ca (goodIn_r _ [463, 162, 464, 465, 466, 2, 467, 167, 168, 22, 16, 453, 454, 455, 456, 139, 140, 141, 15, 142, 113, 178, 179, 180, 21, 181, 182, 48, 183, 47, 184, 185, 186, 187, 188, 189, 190, 49, 468, 469, 470, 471, 472, 508, 509, 510, 511, 512, 513, 541, 542, 543, 544, 545, 546, 547, 548, 549, 550, 551, 552, 553, 554, 555] (by decide +kernel) (by decide +kernel)) (goodIn_sub (fun _ h => List.mem_append_right _ h) (by decide +kernel))
set_option maxRecDepth 20000 in
theorem gL_law_L_row : GoodIn wsL_law (va_wsS RL 98 yL_row wsL_row) := goodIn_app (goodIn_of _ (by decide +kernel)) ggL_law_L_row
set_option maxRecDepth 20000 in
theorem ggL_law_X5_row : GoodIn wsL_law wsX5_row := goodIn_r _ [476, 121, 85, 83, 84, 74, 155, 156, 157, 5, 158, 120, 196, 197, 198, 199, 126, 195, 82, 78, 75, 80, 514, 515, 516, 517, 518, 519, 520, 521, 522, 523, 524, 525, 526, 527, 528, 529, 530, 531, 532, 533, 534, 535, 536, 537, 538, 539, 540] (by decide +kernel) (by decide +kernel)
set_option maxRecDepth 20000 in
theorem gL_law_X5_row : GoodIn wsL_law (wsV RL 100 RX5 yX5_row wsX5_row) := goodIn_app (goodIn_of _ (by decide +kernel)) ggL_law_X5_row
set_option maxRecDepth 20000 in
theorem ggL_law_L_largest : GoodIn wsL_law wsL_largest := goodIn_ca (goodIn_r _ [479, 98, 480, 481, 482, 2, 483, 30, 26, 214, 207, 208, 209, 104, 105, 417, 418, 419, 420, 16, 215, 216, 217, 218, 22, 108, 219, 220, 221, 178, 179, 180, 21, 181, 182, 48, 183, 47, 184, 185, 186, 187, 188, 189, 190, 49, 238, 239, 240, 25, 241, 242, 243, 244, 245, 246, 247, 56, 54, 53, 248, 249, 250, 251, 252, 59, 58, 253, 254, 255, 256, 257, 258, 259, 57, 60, 260, 261, 262, 263, 55, 264, 265, 266, 267, 268, 269, 270, 271, 272, 273, 274, 29, 275, 276, 64, 66, 67, 68, 277, 278, 279, 280, 281, 282, 283, 284, 285, 286, 287, 288, 65, 289, 290, 291, 292, 421, 422, 423, 424, 508, 509, 510, 511, 512, 513, 556, 557, 558, 559, 560, 561, 562, 563, 564, 565, 566, 567, 568, 541, 542, 543, 544, 545, 546, 547, 548, 549, 550, 551, 552, 553, 554, 555, 569, 570, 571, 572, 573] (by decide +kernel) (by decide +kernel)) (goodIn_sub (fun _ h => List.mem_append_left _ (List.mem_append_left _ (List.mem_append_right _ h))) (by decide +kernel))
set_option maxRecDepth 20000 in
theorem gL_law_L_largest : GoodIn wsL_law (va_wsS RL 101 yL_largest wsL_largest) := goodIn_app (goodIn_of _ (by decide +kernel)) ggL_law_L_largest
set_option maxRecDepth 20000 in
theorem ggL_law_X5_largest : GoodIn wsL_law wsX5_largest := goodIn_r _ [487, 323, 310, 311, 312, 5, 313, 121, 319, 320, 321, 322, 86, 120, 90, 85, 73, 87, 92, 318, 126, 196, 197, 198, 199, 195, 83, 82, 78, 75, 80, 324, 325, 326, 327, 328, 329, 330, 331, 89, 332, 333, 334, 335, 336, 337, 338, 339, 340, 341, 342, 343, 344, 345, 346, 347, 77, 348, 349, 350, 351, 154, 76, 74, 352, 353, 354, 355, 514, 515, 516, 517, 518, 519, 520, 521, 522, 523, 524, 525, 526, 527, 528, 529, 530, 531, 532, 533, 534, 535, 536, 537, 538, 539, 540] (by decide +kernel) (by decide +kernel)
set_option maxRecDepth 20000 in
theorem gL_law_X5_largest : GoodIn wsL_law (wsV RL 103 RX5 yX5_largest wsX5_largest) := goodIn_app (goodIn_of _ (by decide +kernel)) ggL_law_X5_largest
set_option maxRecDepth 20000 in
theorem ggL_law_X4_count : GoodIn wsL_law wsX4_count := goodIn_r _ [491, 16, 108, 138, 492, 234, 235, 236, 2, 237, 18, 493, 494, 495, 496, 497, 498, 499, 500, 501, 502, 503, 210, 211, 212, 213, 26, 214, 215, 216, 217, 218, 22, 219, 220, 221, 178, 179, 180, 21, 181, 182, 48, 183, 47, 184, 185, 186, 187, 188, 189, 190, 49, 222, 223, 224, 225, 226, 227, 228, 15, 229, 37, 43, 230, 231, 232, 233, 30, 238, 239, 240, 25, 241, 242, 243, 244, 245, 246, 247, 56, 54, 53, 248, 249, 250, 251, 252, 59, 58, 253, 254, 255, 256, 257, 258, 259, 57, 60, 260, 261, 262, 263, 55, 264, 265, 266, 267, 268, 269, 270, 271, 272, 273, 274, 29, 275, 276, 64, 66, 67, 68, 277, 278, 279, 280, 281, 282, 283, 284, 285, 286, 287, 288, 65, 289, 290, 291, 292, 293, 294, 295, 296, 297, 298, 299, 300, 301, 302, 303, 304, 305, 508, 509, 510, 511, 512, 513, 541, 542, 543, 544, 545, 546, 547, 548, 549, 550, 551, 556, 557, 558, 559, 560, 561, 562, 563, 564, 565, 566, 567, 568, 552, 553, 554, 555, 569, 570, 571, 572, 573] (by decide +kernel) (by decide +kernel)
set_option maxRecDepth 20000 in
theorem gL_law_X4_count : GoodIn wsL_law (wsV RL 104 RX4 yX4_count wsX4_count) := goodIn_app (goodIn_of _ (by decide +kernel)) ggL_law_X4_count
set_option maxRecDepth 20000 in
theorem ggL_law_X5_count : GoodIn wsL_law wsX5_count := goodIn_r _ [507, 121, 120, 154, 81, 77, 314, 315, 316, 5, 317, 318, 319, 320, 321, 322, 86, 90, 85, 73, 87, 323, 92, 126, 196, 197, 198, 199, 195, 83, 82, 78, 75, 80, 324, 325, 326, 327, 328, 329, 330, 331, 89, 332, 333, 334, 335, 336, 337, 338, 339, 340, 341, 342, 343, 344, 345, 346, 347, 348, 349, 350, 351, 76, 74, 352, 353, 354, 355, 356, 357, 358, 359, 360, 361, 362, 363, 514, 515, 516, 517, 518, 519, 520, 521, 522, 523, 524, 525, 526, 527, 528, 529, 530, 531, 532, 533, 534, 535, 536, 537, 538, 539, 540] (by decide +kernel) (by decide +kernel)
set_option maxRecDepth 20000 in
theorem gL_law_X5_count : GoodIn wsL_law (wsV RL 107 RX5 yX5_count wsX5_count) := goodIn_app (goodIn_of _ (by decide +kernel)) ggL_law_X5_count
theorem dL_law_0 : decode cL_law 0 = .ok (.new 8, 3) := by decide +kernel
theorem dL_law_3 : decode cL_law 3 = .ok (.dup, 1) := by decide +kernel
theorem dL_law_4 : decode cL_law 4 = .ok (.invokespecial 53, 3) := by decide +kernel
theorem dL_law_7 : decode cL_law 7 = .ok (.astore_n 1, 1) := by decide +kernel
theorem dL_law_8 : decode cL_law 8 = .ok (.new 54, 3) := by decide +kernel
theorem dL_law_11 : decode cL_law 11 = .ok (.dup, 1) := by decide +kernel
theorem dL_law_12 : decode cL_law 12 = .ok (.invokespecial 56, 3) := by decide +kernel
theorem dL_law_15 : decode cL_law 15 = .ok (.astore_n 2, 1) := by decide +kernel
theorem dL_law_16 : decode cL_law 16 = .ok (.iconst 1, 1) := by decide +kernel
theorem dL_law_17 : decode cL_law 17 = .ok (.newarray .long, 2) := by decide +kernel
theorem dL_law_19 : decode cL_law 19 = .ok (.astore_n 3, 1) := by decide +kernel
theorem dL_law_20 : decode cL_law 20 = .ok (.iconst 0, 1) := by decide +kernel
theorem dL_law_21 : decode cL_law 21 = .ok (.istore 4, 2) := by decide +kernel
theorem dL_law_23 : decode cL_law 23 = .ok (.iload 4, 2) := by decide +kernel
theorem dL_law_25 : decode cL_law 25 = .ok (.aload_n 0, 1) := by decide +kernel
theorem dL_law_26 : decode cL_law 26 = .ok (.arraylength, 1) := by decide +kernel
theorem dL_law_27 : decode cL_law 27 = .ok (.iconst 4, 1) := by decide +kernel
theorem dL_law_28 : decode cL_law 28 = .ok (.isub, 1) := by decide +kernel
theorem dL_law_29 : decode cL_law 29 = .ok (.if_icmp .gt 866, 3) := by decide +kernel
theorem dL_law_32 : decode cL_law 32 = .ok (.aload_n 0, 1) := by decide +kernel
theorem dL_law_33 : decode cL_law 33 = .ok (.iload 4, 2) := by decide +kernel
theorem dL_law_35 : decode cL_law 35 = .ok (.iaload, 1) := by decide +kernel
theorem dL_law_36 : decode cL_law 36 = .ok (.bipush 15, 2) := by decide +kernel
theorem dL_law_38 : decode cL_law 38 = .ok (.iand, 1) := by decide +kernel
theorem dL_law_39 : decode cL_law 39 = .ok (.tableswitch 850 0 12 #[65, 149, 229, 297, 310, 373, 429, 509, 577, 633, 701, 769, 825], 65) := by decide +kernel
theorem dL_law_104 : decode cL_law 104 = .ok (.aload_n 1, 1) := by decide +kernel
theorem dL_law_105 : decode cL_law 105 = .ok (.aload_n 0, 1) := by decide +kernel
theorem dL_law_106 : decode cL_law 106 = .ok (.iload 4, 2) := by decide +kernel
theorem dL_law_108 : decode cL_law 108 = .ok (.iconst 1, 1) := by decide +kernel
theorem dL_law_109 : decode cL_law 109 = .ok (.iadd, 1) := by decide +kernel
theorem dL_law_110 : decode cL_law 110 = .ok (.iaload, 1) := by decide +kernel
theorem dL_law_111 : decode cL_law 111 = .ok (.aload_n 0, 1) := by decide +kernel
theorem dL_law_112 : decode cL_law 112 = .ok (.iload 4, 2) := by decide +kernel
theorem dL_law_114 : decode cL_law 114 = .ok (.iconst 2, 1) := by decide +kernel
theorem dL_law_115 : decode cL_law 115 = .ok (.iadd, 1) := by decide +kernel
theorem dL_law_116 : decode cL_law 116 = .ok (.iaload, 1) := by decide +kernel
theorem dL_law_117 : decode cL_law 117 = .ok (.ifCond .eq 7, 3) := by decide +kernel
theorem dL_law_120 : decode cL_law 120 = .ok (.iconst 1, 1) := by decide +kernel
theorem dL_law_121 : decode cL_law 121 = .ok (.goto 4, 3) := by decide +kernel
theorem dL_law_124 : decode cL_law 124 = .ok (.iconst 0, 1) := by decide +kernel
theorem dL_law_125 : decode cL_law 125 = .ok (.aload_n 3, 1) := by decide +kernel
theorem dL_law_126 : decode cL_law 126 = .ok (.invokestatic 57, 3) := by decide +kernel
theorem dL_law_129 : decode cL_law 129 = .ok (.istore 5, 2) := by decide +kernel
theorem dL_law_131 : decode cL_law 131 = .ok (.aload_n 2, 1) := by decide +kernel
theorem dL_law_132 : decode cL_law 132 = .ok (.aload_n 0, 1) := by decide +kernel
theorem dL_law_133 : decode cL_law 133 = .ok (.iload 4, 2) := by decide +kernel
theorem dL_law_135 : decode cL_law 135 = .ok (.iconst 1, 1) := by decide +kernel
theorem dL_law_136 : decode cL_law 136 = .ok (.iadd, 1) := by decide +kernel
theorem dL_law_137 : decode cL_law 137 = .ok (.iaload, 1) := by decide +kernel
theorem dL_law_138 : decode cL_law 138 = .ok (.aload_n 0, 1) := by decide +kernel
theorem dL_law_139 : decode cL_law 139 = .ok (.iload 4, 2) := by decide +kernel
theorem dL_law_141 : decode cL_law 141 = .ok (.iconst 2, 1) := by decide +kernel
theorem dL_law_142 : decode cL_law 142 = .ok (.iadd, 1) := by decide +kernel
theorem dL_law_143 : decode cL_law 143 = .ok (.iaload, 1) := by decide +kernel
theorem dL_law_144 : decode cL_law 144 = .ok (.ifCond .eq 7, 3) := by decide +kernel
theorem dL_law_147 : decode cL_law 147 = .ok (.iconst 1, 1) := by decide +kernel
theorem dL_law_148 : decode cL_law 148 = .ok (.goto 4, 3) := by decide +kernel
theorem dL_law_151 : decode cL_law 151 = .ok (.iconst 0, 1) := by decide +kernel
theorem dL_law_152 : decode cL_law 152 = .ok (.invokevirtual 62, 3) := by decide +kernel
theorem dL_law_155 : decode cL_law 155 = .ok (.istore 6, 2) := by decide +kernel
theorem dL_law_157 : decode cL_law 157 = .ok (.aload_n 2, 1) := by decide +kernel
theorem dL_law_158 : decode cL_law 158 = .ok (.invokevirtual 63, 3) := by decide +kernel
theorem dL_law_161 : decode cL_law 161 = .ok (.iload 5, 2) := by decide +kernel
theorem dL_law_163 : decode cL_law 163 = .ok (.if_icmp .eq 5, 3) := by decide +kernel
theorem dL_law_166 : decode cL_law 166 = .ok (.iconst 0, 1) := by decide +kernel
theorem dL_law_167 : decode cL_law 167 = .ok (.ireturn, 1) := by decide +kernel
theorem dL_law_168 : decode cL_law 168 = .ok (.iload 5, 2) := by decide +kernel
theorem dL_law_170 : decode cL_law 170 = .ok (.ifCond .ne 15, 3) := by decide +kernel
theorem dL_law_173 : decode cL_law 173 = .ok (.aload_n 3, 1) := by decide +kernel
theorem dL_law_174 : decode cL_law 174 = .ok (.iconst 0, 1) := by decide +kernel
theorem dL_law_175 : decode cL_law 175 = .ok (.laload, 1) := by decide +kernel
theorem dL_law_176 : decode cL_law 176 = .ok (.iload 6, 2) := by decide +kernel
theorem dL_law_178 : decode cL_law 178 = .ok (.i2l, 1) := by decide +kernel
theorem dL_law_179 : decode cL_law 179 = .ok (.lcmp, 1) := by decide +kernel
theorem dL_law_180 : decode cL_law 180 = .ok (.ifCond .eq 5, 3) := by decide +kernel
theorem dL_law_183 : decode cL_law 183 = .ok (.iconst 0, 1) := by decide +kernel
theorem dL_law_184 : decode cL_law 184 = .ok (.ireturn, 1) := by decide +kernel
theorem dL_law_185 : decode cL_law 185 = .ok (.goto 704, 3) := by decide +kernel
theorem dL_law_188 : decode cL_law 188 = .ok (.aload_n 1, 1) := by decide +kernel
theorem dL_law_189 : decode cL_law 189 = .ok (.aload_n 0, 1) := by decide +kernel
theorem dL_law_190 : decode cL_law 190 = .ok (.iload 4, 2) := by decide +kernel
theorem dL_law_192 : decode cL_law 192 = .ok (.iconst 1, 1) := by decide +kernel
theorem dL_law_193 : decode cL_law 193 = .ok (.iadd, 1) := by decide +kernel
theorem dL_law_194 : decode cL_law 194 = .ok (.iaload, 1) := by decide +kernel
theorem dL_law_195 : decode cL_law 195 = .ok (.aload_n 0, 1) := by decide +kernel
theorem dL_law_196 : decode cL_law 196 = .ok (.iload 4, 2) := by decide +kernel
theorem dL_law_198 : decode cL_law 198 = .ok (.iconst 2, 1) := by decide +kernel
theorem dL_law_199 : decode cL_law 199 = .ok (.iadd, 1) := by decide +kernel
theorem dL_law_200 : decode cL_law 200 = .ok (.iaload, 1) := by decide +kernel
theorem dL_law_201 : decode cL_law 201 = .ok (.aload_n 0, 1) := by decide +kernel
theorem dL_law_202 : decode cL_law 202 = .ok (.iload 4, 2) := by decide +kernel
theorem dL_law_204 : decode cL_law 204 = .ok (.iconst 3, 1) := by decide +kernel
theorem dL_law_205 : decode cL_law 205 = .ok (.iadd, 1) := by decide +kernel
theorem dL_law_206 : decode cL_law 206 = .ok (.iaload, 1) := by decide +kernel
theorem dL_law_207 : decode cL_law 207 = .ok (.aload_n 3, 1) := by decide +kernel
theorem dL_law_208 : decode cL_law 208 = .ok (.invokestatic 67, 3) := by decide +kernel
theorem dL_law_211 : decode cL_law 211 = .ok (.istore 5, 2) := by decide +kernel
theorem dL_law_213 : decode cL_law 213 = .ok (.aload_n 2, 1) := by decide +kernel
theorem dL_law_214 : decode cL_law 214 = .ok (.aload_n 0, 1) := by decide +kernel
theorem dL_law_215 : decode cL_law 215 = .ok (.iload 4, 2) := by decide +kernel
theorem dL_law_217 : decode cL_law 217 = .ok (.iconst 1, 1) := by decide +kernel
theorem dL_law_218 : decode cL_law 218 = .ok (.iadd, 1) := by decide +kernel
theorem dL_law_219 : decode cL_law 219 = .ok (.iaload, 1) := by decide +kernel
theorem dL_law_220 : decode cL_law 220 = .ok (.aload_n 0, 1) := by decide +kernel
theorem dL_law_221 : decode cL_law 221 = .ok (.iload 4, 2) := by decide +kernel
theorem dL_law_223 : decode cL_law 223 = .ok (.iconst 2, 1) := by decide +kernel
theorem dL_law_224 : decode cL_law 224 = .ok (.iadd, 1) := by decide +kernel
theorem dL_law_225 : decode cL_law 225 = .ok (.iaload, 1) := by decide +kernel
theorem dL_law_226 : decode cL_law 226 = .ok (.aload_n 0, 1) := by decide +kernel
theorem dL_law_227 : decode cL_law 227 = .ok (.iload 4, 2) := by decide +kernel
theorem dL_law_229 : decode cL_law 229 = .ok (.iconst 3, 1) := by decide +kernel
theorem dL_law_230 : decode cL_law 230 = .ok (.iadd, 1) := by decide +kernel
theorem dL_law_231 : decode cL_law 231 = .ok (.iaload, 1) := by decide +kernel
theorem dL_law_232 : decode cL_law 232 = .ok (.invokevirtual 70, 3) := by decide +kernel
theorem dL_law_235 : decode cL_law 235 = .ok (.istore 6, 2) := by decide +kernel
theorem dL_law_237 : decode cL_law 237 = .ok (.aload_n 2, 1) := by decide +kernel
theorem dL_law_238 : decode cL_law 238 = .ok (.invokevirtual 63, 3) := by decide +kernel
theorem dL_law_241 : decode cL_law 241 = .ok (.iload 5, 2) := by decide +kernel
theorem dL_law_243 : decode cL_law 243 = .ok (.if_icmp .eq 5, 3) := by decide +kernel
theorem dL_law_246 : decode cL_law 246 = .ok (.iconst 0, 1) := by decide +kernel
theorem dL_law_247 : decode cL_law 247 = .ok (.ireturn, 1) := by decide +kernel
theorem dL_law_248 : decode cL_law 248 = .ok (.iload 5, 2) := by decide +kernel
theorem dL_law_250 : decode cL_law 250 = .ok (.ifCond .ne 15, 3) := by decide +kernel
theorem dL_law_253 : decode cL_law 253 = .ok (.aload_n 3, 1) := by decide +kernel
theorem dL_law_254 : decode cL_law 254 = .ok (.iconst 0, 1) := by decide +kernel
theorem dL_law_255 : decode cL_law 255 = .ok (.laload, 1) := by decide +kernel
theorem dL_law_256 : decode cL_law 256 = .ok (.iload 6, 2) := by decide +kernel
theorem dL_law_258 : decode cL_law 258 = .ok (.i2l, 1) := by decide +kernel
theorem dL_law_259 : decode cL_law 259 = .ok (.lcmp, 1) := by decide +kernel
theorem dL_law_260 : decode cL_law 260 = .ok (.ifCond .eq 5, 3) := by decide +kernel
theorem dL_law_263 : decode cL_law 263 = .ok (.iconst 0, 1) := by decide +kernel
theorem dL_law_264 : decode cL_law 264 = .ok (.ireturn, 1) := by decide +kernel
theorem dL_law_265 : decode cL_law 265 = .ok (.goto 624, 3) := by decide +kernel
theorem dL_law_268 : decode cL_law 268 = .ok (.aload_n 1, 1) := by decide +kernel
theorem dL_law_269 : decode cL_law 269 = .ok (.aload_n 0, 1) := by decide +kernel
theorem dL_law_270 : decode cL_law 270 = .ok (.iload 4, 2) := by decide +kernel
theorem dL_law_272 : decode cL_law 272 = .ok (.iconst 1, 1) := by decide +kernel
theorem dL_law_273 : decode cL_law 273 = .ok (.iadd, 1) := by decide +kernel
theorem dL_law_274 : decode cL_law 274 = .ok (.iaload, 1) := by decide +kernel
theorem dL_law_275 : decode cL_law 275 = .ok (.aload_n 0, 1) := by decide +kernel
theorem dL_law_276 : decode cL_law 276 = .ok (.iload 4, 2) := by decide +kernel
theorem dL_law_278 : decode cL_law 278 = .ok (.iconst 2, 1) := by decide +kernel
theorem dL_law_279 : decode cL_law 279 = .ok (.iadd, 1) := by decide +kernel
theorem dL_law_280 : decode cL_law 280 = .ok (.iaload, 1) := by decide +kernel
theorem dL_law_281 : decode cL_law 281 = .ok (.aload_n 3, 1) := by decide +kernel
theorem dL_law_282 : decode cL_law 282 = .ok (.invokestatic 71, 3) := by decide +kernel
theorem dL_law_285 : decode cL_law 285 = .ok (.istore 5, 2) := by decide +kernel
theorem dL_law_287 : decode cL_law 287 = .ok (.aload_n 2, 1) := by decide +kernel
theorem dL_law_288 : decode cL_law 288 = .ok (.aload_n 0, 1) := by decide +kernel
theorem dL_law_289 : decode cL_law 289 = .ok (.iload 4, 2) := by decide +kernel
theorem dL_law_291 : decode cL_law 291 = .ok (.iconst 1, 1) := by decide +kernel
theorem dL_law_292 : decode cL_law 292 = .ok (.iadd, 1) := by decide +kernel
theorem dL_law_293 : decode cL_law 293 = .ok (.iaload, 1) := by decide +kernel
theorem dL_law_294 : decode cL_law 294 = .ok (.aload_n 0, 1) := by decide +kernel
theorem dL_law_295 : decode cL_law 295 = .ok (.iload 4, 2) := by decide +kernel
theorem dL_law_297 : decode cL_law 297 = .ok (.iconst 2, 1) := by decide +kernel
theorem dL_law_298 : decode cL_law 298 = .ok (.iadd, 1) := by decide +kernel
theorem dL_law_299 : decode cL_law 299 = .ok (.iaload, 1) := by decide +kernel
theorem dL_law_300 : decode cL_law 300 = .ok (.invokevirtual 74, 3) := by decide +kernel
theorem dL_law_303 : decode cL_law 303 = .ok (.istore 6, 2) := by decide +kernel
theorem dL_law_305 : decode cL_law 305 = .ok (.aload_n 2, 1) := by decide +kernel
theorem dL_law_306 : decode cL_law 306 = .ok (.invokevirtual 63, 3) := by decide +kernel
theorem dL_law_309 : decode cL_law 309 = .ok (.iload 5, 2) := by decide +kernel
theorem dL_law_311 : decode cL_law 311 = .ok (.if_icmp .eq 5, 3) := by decide +kernel
theorem dL_law_314 : decode cL_law 314 = .ok (.iconst 0, 1) := by decide +kernel
theorem dL_law_315 : decode cL_law 315 = .ok (.ireturn, 1) := by decide +kernel
theorem dL_law_316 : decode cL_law 316 = .ok (.iload 5, 2) := by decide +kernel
theorem dL_law_318 : decode cL_law 318 = .ok (.ifCond .ne 15, 3) := by decide +kernel
theorem dL_law_321 : decode cL_law 321 = .ok (.aload_n 3, 1) := by decide +kernel
theorem dL_law_322 : decode cL_law 322 = .ok (.iconst 0, 1) := by decide +kernel
theorem dL_law_323 : decode cL_law 323 = .ok (.laload, 1) := by decide +kernel
theorem dL_law_324 : decode cL_law 324 = .ok (.iload 6, 2) := by decide +kernel
theorem dL_law_326 : decode cL_law 326 = .ok (.i2l, 1) := by decide +kernel
theorem dL_law_327 : decode cL_law 327 = .ok (.lcmp, 1) := by decide +kernel
theorem dL_law_328 : decode cL_law 328 = .ok (.ifCond .eq 5, 3) := by decide +kernel
theorem dL_law_331 : decode cL_law 331 = .ok (.iconst 0, 1) := by decide +kernel
theorem dL_law_332 : decode cL_law 332 = .ok (.ireturn, 1) := by decide +kernel
theorem dL_law_333 : decode cL_law 333 = .ok (.goto 556, 3) := by decide +kernel
theorem dL_law_336 : decode cL_law 336 = .ok (.aload_n 1, 1) := by decide +kernel
theorem dL_law_337 : decode cL_law 337 = .ok (.invokevirtual 75, 3) := by decide +kernel
theorem dL_law_340 : decode cL_law 340 = .ok (.aload_n 2, 1) := by decide +kernel
theorem dL_law_341 : decode cL_law 341 = .ok (.invokevirtual 78, 3) := by decide +kernel
theorem dL_law_344 : decode cL_law 344 = .ok (.if_icmp .eq 545, 3) := by decide +kernel
theorem dL_law_347 : decode cL_law 347 = .ok (.iconst 0, 1) := by decide +kernel
theorem dL_law_348 : decode cL_law 348 = .ok (.ireturn, 1) := by decide +kernel
theorem dL_law_349 : decode cL_law 349 = .ok (.aload_n 1, 1) := by decide +kernel
theorem dL_law_350 : decode cL_law 350 = .ok (.aload_n 0, 1) := by decide +kernel
theorem dL_law_351 : decode cL_law 351 = .ok (.iload 4, 2) := by decide +kernel
theorem dL_law_353 : decode cL_law 353 = .ok (.iconst 1, 1) := by decide +kernel
theorem dL_law_354 : decode cL_law 354 = .ok (.iadd, 1) := by decide +kernel
theorem dL_law_355 : decode cL_law 355 = .ok (.iaload, 1) := by decide +kernel
theorem dL_law_356 : decode cL_law 356 = .ok (.aload_n 3, 1) := by decide +kernel
theorem dL_law_357 : decode cL_law 357 = .ok (.invokestatic 79, 3) := by decide +kernel
theorem dL_law_360 : decode cL_law 360 = .ok (.istore 5, 2) := by decide +kernel
theorem dL_law_362 : decode cL_law 362 = .ok (.aload_n 2, 1) := by decide +kernel
theorem dL_law_363 : decode cL_law 363 = .ok (.aload_n 0, 1) := by decide +kernel
theorem dL_law_364 : decode cL_law 364 = .ok (.iload 4, 2) := by decide +kernel
theorem dL_law_366 : decode cL_law 366 = .ok (.iconst 1, 1) := by decide +kernel
theorem dL_law_367 : decode cL_law 367 = .ok (.iadd, 1) := by decide +kernel
theorem dL_law_368 : decode cL_law 368 = .ok (.iaload, 1) := by decide +kernel
theorem dL_law_369 : decode cL_law 369 = .ok (.invokevirtual 82, 3) := by decide +kernel
theorem dL_law_372 : decode cL_law 372 = .ok (.istore 6, 2) := by decide +kernel
theorem dL_law_374 : decode cL_law 374 = .ok (.aload_n 2, 1) := by decide +kernel
theorem dL_law_375 : decode cL_law 375 = .ok (.invokevirtual 63, 3) := by decide +kernel
theorem dL_law_378 : decode cL_law 378 = .ok (.iload 5, 2) := by decide +kernel
theorem dL_law_380 : decode cL_law 380 = .ok (.if_icmp .eq 5, 3) := by decide +kernel
theorem dL_law_383 : decode cL_law 383 = .ok (.iconst 0, 1) := by decide +kernel
theorem dL_law_384 : decode cL_law 384 = .ok (.ireturn, 1) := by decide +kernel
theorem dL_law_385 : decode cL_law 385 = .ok (.iload 5, 2) := by decide +kernel
theorem dL_law_387 : decode cL_law 387 = .ok (.ifCond .ne 22, 3) := by decide +kernel
theorem dL_law_390 : decode cL_law 390 = .ok (.aload_n 3, 1) := by decide +kernel
theorem dL_law_391 : decode cL_law 391 = .ok (.iconst 0, 1) := by decide +kernel
theorem dL_law_392 : decode cL_law 392 = .ok (.laload, 1) := by decide +kernel
theorem dL_law_393 : decode cL_law 393 = .ok (.iload 6, 2) := by decide +kernel
theorem dL_law_395 : decode cL_law 395 = .ok (.ifCond .eq 7, 3) := by decide +kernel
theorem dL_law_398 : decode cL_law 398 = .ok (.lconst 1, 1) := by decide +kernel
theorem dL_law_399 : decode cL_law 399 = .ok (.goto 4, 3) := by decide +kernel
theorem dL_law_402 : decode cL_law 402 = .ok (.lconst 0, 1) := by decide +kernel
theorem dL_law_403 : decode cL_law 403 = .ok (.lcmp, 1) := by decide +kernel
theorem dL_law_404 : decode cL_law 404 = .ok (.ifCond .eq 5, 3) := by decide +kernel
theorem dL_law_407 : decode cL_law 407 = .ok (.iconst 0, 1) := by decide +kernel
theorem dL_law_408 : decode cL_law 408 = .ok (.ireturn, 1) := by decide +kernel
theorem dL_law_409 : decode cL_law 409 = .ok (.goto 480, 3) := by decide +kernel
theorem dL_law_412 : decode cL_law 412 = .ok (.aload_n 1, 1) := by decide +kernel
theorem dL_law_413 : decode cL_law 413 = .ok (.aload_n 0, 1) := by decide +kernel
theorem dL_law_414 : decode cL_law 414 = .ok (.iload 4, 2) := by decide +kernel
theorem dL_law_416 : decode cL_law 416 = .ok (.iconst 1, 1) := by decide +kernel
theorem dL_law_417 : decode cL_law 417 = .ok (.iadd, 1) := by decide +kernel
theorem dL_law_418 : decode cL_law 418 = .ok (.iaload, 1) := by decide +kernel
theorem dL_law_419 : decode cL_law 419 = .ok (.aload_n 3, 1) := by decide +kernel
theorem dL_law_420 : decode cL_law 420 = .ok (.invokestatic 83, 3) := by decide +kernel
theorem dL_law_423 : decode cL_law 423 = .ok (.istore 5, 2) := by decide +kernel
theorem dL_law_425 : decode cL_law 425 = .ok (.aload_n 2, 1) := by decide +kernel
theorem dL_law_426 : decode cL_law 426 = .ok (.aload_n 0, 1) := by decide +kernel
theorem dL_law_427 : decode cL_law 427 = .ok (.iload 4, 2) := by decide +kernel
theorem dL_law_429 : decode cL_law 429 = .ok (.iconst 1, 1) := by decide +kernel
theorem dL_law_430 : decode cL_law 430 = .ok (.iadd, 1) := by decide +kernel
theorem dL_law_431 : decode cL_law 431 = .ok (.iaload, 1) := by decide +kernel
theorem dL_law_432 : decode cL_law 432 = .ok (.invokevirtual 85, 3) := by decide +kernel
theorem dL_law_435 : decode cL_law 435 = .ok (.istore 6, 2) := by decide +kernel
theorem dL_law_437 : decode cL_law 437 = .ok (.aload_n 2, 1) := by decide +kernel
theorem dL_law_438 : decode cL_law 438 = .ok (.invokevirtual 63, 3) := by decide +kernel
theorem dL_law_441 : decode cL_law 441 = .ok (.iload 5, 2) := by decide +kernel
theorem dL_law_443 : decode cL_law 443 = .ok (.if_icmp .eq 5, 3) := by decide +kernel
theorem dL_law_446 : decode cL_law 446 = .ok (.iconst 0, 1) := by decide +kernel
theorem dL_law_447 : decode cL_law 447 = .ok (.ireturn, 1) := by decide +kernel
theorem dL_law_448 : decode cL_law 448 = .ok (.iload 5, 2) := by decide +kernel
theorem dL_law_450 : decode cL_law 450 = .ok (.ifCond .ne 15, 3) := by decide +kernel
theorem dL_law_453 : decode cL_law 453 = .ok (.aload_n 3, 1) := by decide +kernel
theorem dL_law_454 : decode cL_law 454 = .ok (.iconst 0, 1) := by decide +kernel
theorem dL_law_455 : decode cL_law 455 = .ok (.laload, 1) := by decide +kernel
theorem dL_law_456 : decode cL_law 456 = .ok (.iload 6, 2) := by decide +kernel
theorem dL_law_458 : decode cL_law 458 = .ok (.i2l, 1) := by decide +kernel
theorem dL_law_459 : decode cL_law 459 = .ok (.lcmp, 1) := by decide +kernel
theorem dL_law_460 : decode cL_law 460 = .ok (.ifCond .eq 5, 3) := by decide +kernel
theorem dL_law_463 : decode cL_law 463 = .ok (.iconst 0, 1) := by decide +kernel
theorem dL_law_464 : decode cL_law 464 = .ok (.ireturn, 1) := by decide +kernel
theorem dL_law_465 : decode cL_law 465 = .ok (.goto 424, 3) := by decide +kernel
theorem dL_law_468 : decode cL_law 468 = .ok (.aload_n 1, 1) := by decide +kernel
theorem dL_law_469 : decode cL_law 469 = .ok (.aload_n 0, 1) := by decide +kernel
theorem dL_law_470 : decode cL_law 470 = .ok (.iload 4, 2) := by decide +kernel
theorem dL_law_472 : decode cL_law 472 = .ok (.iconst 1, 1) := by decide +kernel
theorem dL_law_473 : decode cL_law 473 = .ok (.iadd, 1) := by decide +kernel
theorem dL_law_474 : decode cL_law 474 = .ok (.iaload, 1) := by decide +kernel
theorem dL_law_475 : decode cL_law 475 = .ok (.aload_n 0, 1) := by decide +kernel
theorem dL_law_476 : decode cL_law 476 = .ok (.iload 4, 2) := by decide +kernel
theorem dL_law_478 : decode cL_law 478 = .ok (.iconst 2, 1) := by decide +kernel
theorem dL_law_479 : decode cL_law 479 = .ok (.iadd, 1) := by decide +kernel
theorem dL_law_480 : decode cL_law 480 = .ok (.iaload, 1) := by decide +kernel
theorem dL_law_481 : decode cL_law 481 = .ok (.aload_n 0, 1) := by decide +kernel
theorem dL_law_482 : decode cL_law 482 = .ok (.iload 4, 2) := by decide +kernel
theorem dL_law_484 : decode cL_law 484 = .ok (.iconst 3, 1) := by decide +kernel
theorem dL_law_485 : decode cL_law 485 = .ok (.iadd, 1) := by decide +kernel
theorem dL_law_486 : decode cL_law 486 = .ok (.iaload, 1) := by decide +kernel
theorem dL_law_487 : decode cL_law 487 = .ok (.aload_n 3, 1) := by decide +kernel
theorem dL_law_488 : decode cL_law 488 = .ok (.invokestatic 86, 3) := by decide +kernel
theorem dL_law_491 : decode cL_law 491 = .ok (.istore 5, 2) := by decide +kernel
theorem dL_law_493 : decode cL_law 493 = .ok (.aload_n 2, 1) := by decide +kernel
theorem dL_law_494 : decode cL_law 494 = .ok (.aload_n 0, 1) := by decide +kernel
theorem dL_law_495 : decode cL_law 495 = .ok (.iload 4, 2) := by decide +kernel
theorem dL_law_497 : decode cL_law 497 = .ok (.iconst 1, 1) := by decide +kernel
theorem dL_law_498 : decode cL_law 498 = .ok (.iadd, 1) := by decide +kernel
theorem dL_law_499 : decode cL_law 499 = .ok (.iaload, 1) := by decide +kernel
theorem dL_law_500 : decode cL_law 500 = .ok (.aload_n 0, 1) := by decide +kernel
theorem dL_law_501 : decode cL_law 501 = .ok (.iload 4, 2) := by decide +kernel
theorem dL_law_503 : decode cL_law 503 = .ok (.iconst 2, 1) := by decide +kernel
theorem dL_law_504 : decode cL_law 504 = .ok (.iadd, 1) := by decide +kernel
theorem dL_law_505 : decode cL_law 505 = .ok (.iaload, 1) := by decide +kernel
theorem dL_law_506 : decode cL_law 506 = .ok (.aload_n 0, 1) := by decide +kernel
theorem dL_law_507 : decode cL_law 507 = .ok (.iload 4, 2) := by decide +kernel
theorem dL_law_509 : decode cL_law 509 = .ok (.iconst 3, 1) := by decide +kernel
theorem dL_law_510 : decode cL_law 510 = .ok (.iadd, 1) := by decide +kernel
theorem dL_law_511 : decode cL_law 511 = .ok (.iaload, 1) := by decide +kernel
theorem dL_law_512 : decode cL_law 512 = .ok (.invokevirtual 88, 3) := by decide +kernel
theorem dL_law_515 : decode cL_law 515 = .ok (.istore 6, 2) := by decide +kernel
theorem dL_law_517 : decode cL_law 517 = .ok (.aload_n 2, 1) := by decide +kernel
theorem dL_law_518 : decode cL_law 518 = .ok (.invokevirtual 63, 3) := by decide +kernel
theorem dL_law_521 : decode cL_law 521 = .ok (.iload 5, 2) := by decide +kernel
theorem dL_law_523 : decode cL_law 523 = .ok (.if_icmp .eq 5, 3) := by decide +kernel
theorem dL_law_526 : decode cL_law 526 = .ok (.iconst 0, 1) := by decide +kernel
theorem dL_law_527 : decode cL_law 527 = .ok (.ireturn, 1) := by decide +kernel
theorem dL_law_528 : decode cL_law 528 = .ok (.iload 5, 2) := by decide +kernel
theorem dL_law_530 : decode cL_law 530 = .ok (.ifCond .ne 15, 3) := by decide +kernel
theorem dL_law_533 : decode cL_law 533 = .ok (.aload_n 3, 1) := by decide +kernel
theorem dL_law_534 : decode cL_law 534 = .ok (.iconst 0, 1) := by decide +kernel
theorem dL_law_535 : decode cL_law 535 = .ok (.laload, 1) := by decide +kernel
theorem dL_law_536 : decode cL_law 536 = .ok (.iload 6, 2) := by decide +kernel
theorem dL_law_538 : decode cL_law 538 = .ok (.i2l, 1) := by decide +kernel
theorem dL_law_539 : decode cL_law 539 = .ok (.lcmp, 1) := by decide +kernel
theorem dL_law_540 : decode cL_law 540 = .ok (.ifCond .eq 5, 3) := by decide +kernel
theorem dL_law_543 : decode cL_law 543 = .ok (.iconst 0, 1) := by decide +kernel
theorem dL_law_544 : decode cL_law 544 = .ok (.ireturn, 1) := by decide +kernel
theorem dL_law_545 : decode cL_law 545 = .ok (.goto 344, 3) := by decide +kernel
theorem dL_law_548 : decode cL_law 548 = .ok (.aload_n 1, 1) := by decide +kernel
theorem dL_law_549 : decode cL_law 549 = .ok (.aload_n 0, 1) := by decide +kernel
theorem dL_law_550 : decode cL_law 550 = .ok (.iload 4, 2) := by decide +kernel
theorem dL_law_552 : decode cL_law 552 = .ok (.iconst 1, 1) := by decide +kernel
theorem dL_law_553 : decode cL_law 553 = .ok (.iadd, 1) := by decide +kernel
theorem dL_law_554 : decode cL_law 554 = .ok (.iaload, 1) := by decide +kernel
theorem dL_law_555 : decode cL_law 555 = .ok (.aload_n 0, 1) := by decide +kernel
theorem dL_law_556 : decode cL_law 556 = .ok (.iload 4, 2) := by decide +kernel
theorem dL_law_558 : decode cL_law 558 = .ok (.iconst 2, 1) := by decide +kernel
theorem dL_law_559 : decode cL_law 559 = .ok (.iadd, 1) := by decide +kernel
theorem dL_law_560 : decode cL_law 560 = .ok (.iaload, 1) := by decide +kernel
theorem dL_law_561 : decode cL_law 561 = .ok (.aload_n 3, 1) := by decide +kernel
theorem dL_law_562 : decode cL_law 562 = .ok (.invokestatic 89, 3) := by decide +kernel
theorem dL_law_565 : decode cL_law 565 = .ok (.istore 5, 2) := by decide +kernel
theorem dL_law_567 : decode cL_law 567 = .ok (.aload_n 2, 1) := by decide +kernel
theorem dL_law_568 : decode cL_law 568 = .ok (.aload_n 0, 1) := by decide +kernel
theorem dL_law_569 : decode cL_law 569 = .ok (.iload 4, 2) := by decide +kernel
theorem dL_law_571 : decode cL_law 571 = .ok (.iconst 1, 1) := by decide +kernel
theorem dL_law_572 : decode cL_law 572 = .ok (.iadd, 1) := by decide +kernel
theorem dL_law_573 : decode cL_law 573 = .ok (.iaload, 1) := by decide +kernel
theorem dL_law_574 : decode cL_law 574 = .ok (.aload_n 0, 1) := by decide +kernel
theorem dL_law_575 : decode cL_law 575 = .ok (.iload 4, 2) := by decide +kernel
theorem dL_law_577 : decode cL_law 577 = .ok (.iconst 2, 1) := by decide +kernel
theorem dL_law_578 : decode cL_law 578 = .ok (.iadd, 1) := by decide +kernel
theorem dL_law_579 : decode cL_law 579 = .ok (.iaload, 1) := by decide +kernel
theorem dL_law_580 : decode cL_law 580 = .ok (.invokevirtual 91, 3) := by decide +kernel
theorem dL_law_583 : decode cL_law 583 = .ok (.istore 6, 2) := by decide +kernel
theorem dL_law_585 : decode cL_law 585 = .ok (.aload_n 2, 1) := by decide +kernel
theorem dL_law_586 : decode cL_law 586 = .ok (.invokevirtual 63, 3) := by decide +kernel
theorem dL_law_589 : decode cL_law 589 = .ok (.iload 5, 2) := by decide +kernel
theorem dL_law_591 : decode cL_law 591 = .ok (.if_icmp .eq 5, 3) := by decide +kernel
theorem dL_law_594 : decode cL_law 594 = .ok (.iconst 0, 1) := by decide +kernel
theorem dL_law_595 : decode cL_law 595 = .ok (.ireturn, 1) := by decide +kernel
theorem dL_law_596 : decode cL_law 596 = .ok (.iload 5, 2) := by decide +kernel
theorem dL_law_598 : decode cL_law 598 = .ok (.ifCond .ne 15, 3) := by decide +kernel
theorem dL_law_601 : decode cL_law 601 = .ok (.aload_n 3, 1) := by decide +kernel
theorem dL_law_602 : decode cL_law 602 = .ok (.iconst 0, 1) := by decide +kernel
theorem dL_law_603 : decode cL_law 603 = .ok (.laload, 1) := by decide +kernel
theorem dL_law_604 : decode cL_law 604 = .ok (.iload 6, 2) := by decide +kernel
theorem dL_law_606 : decode cL_law 606 = .ok (.i2l, 1) := by decide +kernel
theorem dL_law_607 : decode cL_law 607 = .ok (.lcmp, 1) := by decide +kernel
theorem dL_law_608 : decode cL_law 608 = .ok (.ifCond .eq 5, 3) := by decide +kernel
theorem dL_law_611 : decode cL_law 611 = .ok (.iconst 0, 1) := by decide +kernel
theorem dL_law_612 : decode cL_law 612 = .ok (.ireturn, 1) := by decide +kernel
theorem dL_law_613 : decode cL_law 613 = .ok (.goto 276, 3) := by decide +kernel
theorem dL_law_616 : decode cL_law 616 = .ok (.aload_n 1, 1) := by decide +kernel
theorem dL_law_617 : decode cL_law 617 = .ok (.aload_n 0, 1) := by decide +kernel
theorem dL_law_618 : decode cL_law 618 = .ok (.iload 4, 2) := by decide +kernel
theorem dL_law_620 : decode cL_law 620 = .ok (.iconst 1, 1) := by decide +kernel
theorem dL_law_621 : decode cL_law 621 = .ok (.iadd, 1) := by decide +kernel
theorem dL_law_622 : decode cL_law 622 = .ok (.iaload, 1) := by decide +kernel
theorem dL_law_623 : decode cL_law 623 = .ok (.aload_n 3, 1) := by decide +kernel
theorem dL_law_624 : decode cL_law 624 = .ok (.invokestatic 92, 3) := by decide +kernel
theorem dL_law_627 : decode cL_law 627 = .ok (.istore 5, 2) := by decide +kernel
theorem dL_law_629 : decode cL_law 629 = .ok (.aload_n 2, 1) := by decide +kernel
theorem dL_law_630 : decode cL_law 630 = .ok (.aload_n 0, 1) := by decide +kernel
theorem dL_law_631 : decode cL_law 631 = .ok (.iload 4, 2) := by decide +kernel
theorem dL_law_633 : decode cL_law 633 = .ok (.iconst 1, 1) := by decide +kernel
theorem dL_law_634 : decode cL_law 634 = .ok (.iadd, 1) := by decide +kernel
theorem dL_law_635 : decode cL_law 635 = .ok (.iaload, 1) := by decide +kernel
theorem dL_law_636 : decode cL_law 636 = .ok (.invokevirtual 94, 3) := by decide +kernel
theorem dL_law_639 : decode cL_law 639 = .ok (.istore 6, 2) := by decide +kernel
theorem dL_law_641 : decode cL_law 641 = .ok (.aload_n 2, 1) := by decide +kernel
theorem dL_law_642 : decode cL_law 642 = .ok (.invokevirtual 63, 3) := by decide +kernel
theorem dL_law_645 : decode cL_law 645 = .ok (.iload 5, 2) := by decide +kernel
theorem dL_law_647 : decode cL_law 647 = .ok (.if_icmp .eq 5, 3) := by decide +kernel
theorem dL_law_650 : decode cL_law 650 = .ok (.iconst 0, 1) := by decide +kernel
theorem dL_law_651 : decode cL_law 651 = .ok (.ireturn, 1) := by decide +kernel
theorem dL_law_652 : decode cL_law 652 = .ok (.iload 5, 2) := by decide +kernel
theorem dL_law_654 : decode cL_law 654 = .ok (.ifCond .ne 15, 3) := by decide +kernel
theorem dL_law_657 : decode cL_law 657 = .ok (.aload_n 3, 1) := by decide +kernel
theorem dL_law_658 : decode cL_law 658 = .ok (.iconst 0, 1) := by decide +kernel
theorem dL_law_659 : decode cL_law 659 = .ok (.laload, 1) := by decide +kernel
theorem dL_law_660 : decode cL_law 660 = .ok (.iload 6, 2) := by decide +kernel
theorem dL_law_662 : decode cL_law 662 = .ok (.i2l, 1) := by decide +kernel
theorem dL_law_663 : decode cL_law 663 = .ok (.lcmp, 1) := by decide +kernel
theorem dL_law_664 : decode cL_law 664 = .ok (.ifCond .eq 5, 3) := by decide +kernel
theorem dL_law_667 : decode cL_law 667 = .ok (.iconst 0, 1) := by decide +kernel
theorem dL_law_668 : decode cL_law 668 = .ok (.ireturn, 1) := by decide +kernel
theorem dL_law_669 : decode cL_law 669 = .ok (.goto 220, 3) := by decide +kernel
theorem dL_law_672 : decode cL_law 672 = .ok (.aload_n 1, 1) := by decide +kernel
theorem dL_law_673 : decode cL_law 673 = .ok (.aload_n 0, 1) := by decide +kernel
theorem dL_law_674 : decode cL_law 674 = .ok (.iload 4, 2) := by decide +kernel
theorem dL_law_676 : decode cL_law 676 = .ok (.iconst 1, 1) := by decide +kernel
theorem dL_law_677 : decode cL_law 677 = .ok (.iadd, 1) := by decide +kernel
theorem dL_law_678 : decode cL_law 678 = .ok (.iaload, 1) := by decide +kernel
theorem dL_law_679 : decode cL_law 679 = .ok (.aload_n 0, 1) := by decide +kernel
theorem dL_law_680 : decode cL_law 680 = .ok (.iload 4, 2) := by decide +kernel
theorem dL_law_682 : decode cL_law 682 = .ok (.iconst 2, 1) := by decide +kernel
theorem dL_law_683 : decode cL_law 683 = .ok (.iadd, 1) := by decide +kernel
theorem dL_law_684 : decode cL_law 684 = .ok (.iaload, 1) := by decide +kernel
theorem dL_law_685 : decode cL_law 685 = .ok (.aload_n 3, 1) := by decide +kernel
theorem dL_law_686 : decode cL_law 686 = .ok (.invokestatic 95, 3) := by decide +kernel
theorem dL_law_689 : decode cL_law 689 = .ok (.istore 5, 2) := by decide +kernel
theorem dL_law_691 : decode cL_law 691 = .ok (.aload_n 2, 1) := by decide +kernel
theorem dL_law_692 : decode cL_law 692 = .ok (.aload_n 0, 1) := by decide +kernel
theorem dL_law_693 : decode cL_law 693 = .ok (.iload 4, 2) := by decide +kernel
theorem dL_law_695 : decode cL_law 695 = .ok (.iconst 1, 1) := by decide +kernel
theorem dL_law_696 : decode cL_law 696 = .ok (.iadd, 1) := by decide +kernel
theorem dL_law_697 : decode cL_law 697 = .ok (.iaload, 1) := by decide +kernel
theorem dL_law_698 : decode cL_law 698 = .ok (.aload_n 0, 1) := by decide +kernel
theorem dL_law_699 : decode cL_law 699 = .ok (.iload 4, 2) := by decide +kernel
theorem dL_law_701 : decode cL_law 701 = .ok (.iconst 2, 1) := by decide +kernel
theorem dL_law_702 : decode cL_law 702 = .ok (.iadd, 1) := by decide +kernel
theorem dL_law_703 : decode cL_law 703 = .ok (.iaload, 1) := by decide +kernel
theorem dL_law_704 : decode cL_law 704 = .ok (.invokevirtual 97, 3) := by decide +kernel
theorem dL_law_707 : decode cL_law 707 = .ok (.istore 6, 2) := by decide +kernel
theorem dL_law_709 : decode cL_law 709 = .ok (.aload_n 2, 1) := by decide +kernel
theorem dL_law_710 : decode cL_law 710 = .ok (.invokevirtual 63, 3) := by decide +kernel
theorem dL_law_713 : decode cL_law 713 = .ok (.iload 5, 2) := by decide +kernel
theorem dL_law_715 : decode cL_law 715 = .ok (.if_icmp .eq 5, 3) := by decide +kernel
theorem dL_law_718 : decode cL_law 718 = .ok (.iconst 0, 1) := by decide +kernel
theorem dL_law_719 : decode cL_law 719 = .ok (.ireturn, 1) := by decide +kernel
theorem dL_law_720 : decode cL_law 720 = .ok (.iload 5, 2) := by decide +kernel
theorem dL_law_722 : decode cL_law 722 = .ok (.ifCond .ne 15, 3) := by decide +kernel
theorem dL_law_725 : decode cL_law 725 = .ok (.aload_n 3, 1) := by decide +kernel
theorem dL_law_726 : decode cL_law 726 = .ok (.iconst 0, 1) := by decide +kernel
theorem dL_law_727 : decode cL_law 727 = .ok (.laload, 1) := by decide +kernel
theorem dL_law_728 : decode cL_law 728 = .ok (.iload 6, 2) := by decide +kernel
theorem dL_law_730 : decode cL_law 730 = .ok (.i2l, 1) := by decide +kernel
theorem dL_law_731 : decode cL_law 731 = .ok (.lcmp, 1) := by decide +kernel
theorem dL_law_732 : decode cL_law 732 = .ok (.ifCond .eq 5, 3) := by decide +kernel
theorem dL_law_735 : decode cL_law 735 = .ok (.iconst 0, 1) := by decide +kernel
theorem dL_law_736 : decode cL_law 736 = .ok (.ireturn, 1) := by decide +kernel
theorem dL_law_737 : decode cL_law 737 = .ok (.goto 152, 3) := by decide +kernel
theorem dL_law_740 : decode cL_law 740 = .ok (.aload_n 1, 1) := by decide +kernel
theorem dL_law_741 : decode cL_law 741 = .ok (.aload_n 0, 1) := by decide +kernel
theorem dL_law_742 : decode cL_law 742 = .ok (.iload 4, 2) := by decide +kernel
theorem dL_law_744 : decode cL_law 744 = .ok (.iconst 1, 1) := by decide +kernel
theorem dL_law_745 : decode cL_law 745 = .ok (.iadd, 1) := by decide +kernel
theorem dL_law_746 : decode cL_law 746 = .ok (.iaload, 1) := by decide +kernel
theorem dL_law_747 : decode cL_law 747 = .ok (.aload_n 0, 1) := by decide +kernel
theorem dL_law_748 : decode cL_law 748 = .ok (.iload 4, 2) := by decide +kernel
theorem dL_law_750 : decode cL_law 750 = .ok (.iconst 2, 1) := by decide +kernel
theorem dL_law_751 : decode cL_law 751 = .ok (.iadd, 1) := by decide +kernel
theorem dL_law_752 : decode cL_law 752 = .ok (.iaload, 1) := by decide +kernel
theorem dL_law_753 : decode cL_law 753 = .ok (.aload_n 3, 1) := by decide +kernel
theorem dL_law_754 : decode cL_law 754 = .ok (.invokestatic 98, 3) := by decide +kernel
theorem dL_law_757 : decode cL_law 757 = .ok (.istore 5, 2) := by decide +kernel
theorem dL_law_759 : decode cL_law 759 = .ok (.aload_n 2, 1) := by decide +kernel
theorem dL_law_760 : decode cL_law 760 = .ok (.aload_n 0, 1) := by decide +kernel
theorem dL_law_761 : decode cL_law 761 = .ok (.iload 4, 2) := by decide +kernel
theorem dL_law_763 : decode cL_law 763 = .ok (.iconst 1, 1) := by decide +kernel
theorem dL_law_764 : decode cL_law 764 = .ok (.iadd, 1) := by decide +kernel
theorem dL_law_765 : decode cL_law 765 = .ok (.iaload, 1) := by decide +kernel
theorem dL_law_766 : decode cL_law 766 = .ok (.aload_n 0, 1) := by decide +kernel
theorem dL_law_767 : decode cL_law 767 = .ok (.iload 4, 2) := by decide +kernel
theorem dL_law_769 : decode cL_law 769 = .ok (.iconst 2, 1) := by decide +kernel
theorem dL_law_770 : decode cL_law 770 = .ok (.iadd, 1) := by decide +kernel
theorem dL_law_771 : decode cL_law 771 = .ok (.iaload, 1) := by decide +kernel
theorem dL_law_772 : decode cL_law 772 = .ok (.invokevirtual 100, 3) := by decide +kernel
theorem dL_law_775 : decode cL_law 775 = .ok (.istore 6, 2) := by decide +kernel
theorem dL_law_777 : decode cL_law 777 = .ok (.aload_n 2, 1) := by decide +kernel
theorem dL_law_778 : decode cL_law 778 = .ok (.invokevirtual 63, 3) := by decide +kernel
theorem dL_law_781 : decode cL_law 781 = .ok (.iload 5, 2) := by decide +kernel
theorem dL_law_783 : decode cL_law 783 = .ok (.if_icmp .eq 5, 3) := by decide +kernel
theorem dL_law_786 : decode cL_law 786 = .ok (.iconst 0, 1) := by decide +kernel
theorem dL_law_787 : decode cL_law 787 = .ok (.ireturn, 1) := by decide +kernel
theorem dL_law_788 : decode cL_law 788 = .ok (.iload 5, 2) := by decide +kernel
theorem dL_law_790 : decode cL_law 790 = .ok (.ifCond .ne 15, 3) := by decide +kernel
theorem dL_law_793 : decode cL_law 793 = .ok (.aload_n 3, 1) := by decide +kernel
theorem dL_law_794 : decode cL_law 794 = .ok (.iconst 0, 1) := by decide +kernel
theorem dL_law_795 : decode cL_law 795 = .ok (.laload, 1) := by decide +kernel
theorem dL_law_796 : decode cL_law 796 = .ok (.iload 6, 2) := by decide +kernel
theorem dL_law_798 : decode cL_law 798 = .ok (.i2l, 1) := by decide +kernel
theorem dL_law_799 : decode cL_law 799 = .ok (.lcmp, 1) := by decide +kernel
theorem dL_law_800 : decode cL_law 800 = .ok (.ifCond .eq 5, 3) := by decide +kernel
theorem dL_law_803 : decode cL_law 803 = .ok (.iconst 0, 1) := by decide +kernel
theorem dL_law_804 : decode cL_law 804 = .ok (.ireturn, 1) := by decide +kernel
theorem dL_law_805 : decode cL_law 805 = .ok (.goto 84, 3) := by decide +kernel
theorem dL_law_808 : decode cL_law 808 = .ok (.aload_n 1, 1) := by decide +kernel
theorem dL_law_809 : decode cL_law 809 = .ok (.aload_n 0, 1) := by decide +kernel
theorem dL_law_810 : decode cL_law 810 = .ok (.iload 4, 2) := by decide +kernel
theorem dL_law_812 : decode cL_law 812 = .ok (.iconst 1, 1) := by decide +kernel
theorem dL_law_813 : decode cL_law 813 = .ok (.iadd, 1) := by decide +kernel
theorem dL_law_814 : decode cL_law 814 = .ok (.iaload, 1) := by decide +kernel
theorem dL_law_815 : decode cL_law 815 = .ok (.aload_n 3, 1) := by decide +kernel
theorem dL_law_816 : decode cL_law 816 = .ok (.invokestatic 101, 3) := by decide +kernel
theorem dL_law_819 : decode cL_law 819 = .ok (.istore 5, 2) := by decide +kernel
theorem dL_law_821 : decode cL_law 821 = .ok (.aload_n 2, 1) := by decide +kernel
theorem dL_law_822 : decode cL_law 822 = .ok (.aload_n 0, 1) := by decide +kernel
theorem dL_law_823 : decode cL_law 823 = .ok (.iload 4, 2) := by decide +kernel
theorem dL_law_825 : decode cL_law 825 = .ok (.iconst 1, 1) := by decide +kernel
theorem dL_law_826 : decode cL_law 826 = .ok (.iadd, 1) := by decide +kernel
theorem dL_law_827 : decode cL_law 827 = .ok (.iaload, 1) := by decide +kernel
theorem dL_law_828 : decode cL_law 828 = .ok (.invokevirtual 103, 3) := by decide +kernel
theorem dL_law_831 : decode cL_law 831 = .ok (.istore 6, 2) := by decide +kernel
theorem dL_law_833 : decode cL_law 833 = .ok (.aload_n 2, 1) := by decide +kernel
theorem dL_law_834 : decode cL_law 834 = .ok (.invokevirtual 63, 3) := by decide +kernel
theorem dL_law_837 : decode cL_law 837 = .ok (.iload 5, 2) := by decide +kernel
theorem dL_law_839 : decode cL_law 839 = .ok (.if_icmp .eq 5, 3) := by decide +kernel
theorem dL_law_842 : decode cL_law 842 = .ok (.iconst 0, 1) := by decide +kernel
theorem dL_law_843 : decode cL_law 843 = .ok (.ireturn, 1) := by decide +kernel
theorem dL_law_844 : decode cL_law 844 = .ok (.iload 5, 2) := by decide +kernel
theorem dL_law_846 : decode cL_law 846 = .ok (.ifCond .ne 15, 3) := by decide +kernel
theorem dL_law_849 : decode cL_law 849 = .ok (.aload_n 3, 1) := by decide +kernel
theorem dL_law_850 : decode cL_law 850 = .ok (.iconst 0, 1) := by decide +kernel
theorem dL_law_851 : decode cL_law 851 = .ok (.laload, 1) := by decide +kernel
theorem dL_law_852 : decode cL_law 852 = .ok (.iload 6, 2) := by decide +kernel
theorem dL_law_854 : decode cL_law 854 = .ok (.i2l, 1) := by decide +kernel
theorem dL_law_855 : decode cL_law 855 = .ok (.lcmp, 1) := by decide +kernel
theorem dL_law_856 : decode cL_law 856 = .ok (.ifCond .eq 5, 3) := by decide +kernel
theorem dL_law_859 : decode cL_law 859 = .ok (.iconst 0, 1) := by decide +kernel
theorem dL_law_860 : decode cL_law 860 = .ok (.ireturn, 1) := by decide +kernel
theorem dL_law_861 : decode cL_law 861 = .ok (.goto 28, 3) := by decide +kernel
theorem dL_law_864 : decode cL_law 864 = .ok (.aload_n 1, 1) := by decide +kernel
theorem dL_law_865 : decode cL_law 865 = .ok (.aload_n 0, 1) := by decide +kernel
theorem dL_law_866 : decode cL_law 866 = .ok (.iload 4, 2) := by decide +kernel
theorem dL_law_868 : decode cL_law 868 = .ok (.iconst 1, 1) := by decide +kernel
theorem dL_law_869 : decode cL_law 869 = .ok (.iadd, 1) := by decide +kernel
theorem dL_law_870 : decode cL_law 870 = .ok (.iaload, 1) := by decide +kernel
theorem dL_law_871 : decode cL_law 871 = .ok (.invokevirtual 104, 3) := by decide +kernel
theorem dL_law_874 : decode cL_law 874 = .ok (.aload_n 2, 1) := by decide +kernel
theorem dL_law_875 : decode cL_law 875 = .ok (.aload_n 0, 1) := by decide +kernel
theorem dL_law_876 : decode cL_law 876 = .ok (.iload 4, 2) := by decide +kernel
theorem dL_law_878 : decode cL_law 878 = .ok (.iconst 1, 1) := by decide +kernel
theorem dL_law_879 : decode cL_law 879 = .ok (.iadd, 1) := by decide +kernel
theorem dL_law_880 : decode cL_law 880 = .ok (.iaload, 1) := by decide +kernel
theorem dL_law_881 : decode cL_law 881 = .ok (.invokevirtual 107, 3) := by decide +kernel
theorem dL_law_884 : decode cL_law 884 = .ok (.if_icmp .eq 5, 3) := by decide +kernel
theorem dL_law_887 : decode cL_law 887 = .ok (.iconst 0, 1) := by decide +kernel
theorem dL_law_888 : decode cL_law 888 = .ok (.ireturn, 1) := by decide +kernel
theorem dL_law_889 : decode cL_law 889 = .ok (.iinc 4 4, 3) := by decide +kernel
theorem dL_law_892 : decode cL_law 892 = .ok (.goto (-869), 3) := by decide +kernel
theorem dL_law_895 : decode cL_law 895 = .ok (.iconst 1, 1) := by decide +kernel
theorem dL_law_896 : decode cL_law 896 = .ok (.ireturn, 1) := by decide +kernel
abbrev vwCl : List vw_C := [(RX0, TX0, 11), (RX1, TX1, 13), (RX2, TX2, 4), (RX3, TX3, 5), (RX4, TX4, 6), (RX5, TX5, 27)]
