def RX0 : String := "MatchingGraph$Graph"
def TX0 : u_T := fun k => match k with
  | 0 => ("MatchingGraph$Graph", "nodes", "I", false)
  | 1 => ("MatchingGraph$Graph", "near", "[I", true)
  | _ => ("MatchingGraph$Graph", "changes", "I", false)
def tyX0 : Nat → FieldType := fun k => match k with
  | 0 => .int
  | 1 => .array .int
  | _ => .int
abbrev wsX00 : List Cond := u_ws RX0 TX0 3
theorem nmX0 : ∀ a, a < 3 → ∀ b, b < 3 → a ≠ b → (TX0 a).2.1 ≠ (TX0 b).2.1 := by decide +kernel
theorem tyX0_ok : ∀ k, k < 3 → parseFieldDescriptor (TX0 k).2.2.1 = some (tyX0 k) := by decide +kernel
abbrev cX0_init : ByteArray := prog_2_method_1_code
def yX0_init : MethodName := ⟨RX0, "<init>", "()V"⟩
abbrev cX0_clear : ByteArray := prog_2_method_2_code
def yX0_clear : MethodName := ⟨RX0, "clear", "(I)V"⟩
abbrev cX0_copyFrom : ByteArray := prog_2_method_3_code
def yX0_copyFrom : MethodName := ⟨RX0, "copyFrom", "([I)V"⟩
abbrev cX0_all : ByteArray := prog_2_method_4_code
def yX0_all : MethodName := ⟨RX0, "all", "()I"⟩
abbrev cX0_joined : ByteArray := prog_2_method_5_code
def yX0_joined : MethodName := ⟨RX0, "joined", "(II)Z"⟩
abbrev cX0_put : ByteArray := prog_2_method_6_code
def yX0_put : MethodName := ⟨RX0, "put", "(IIZ)V"⟩
abbrev cX0_edges : ByteArray := prog_2_method_7_code
def yX0_edges : MethodName := ⟨RX0, "edges", "()I"⟩
abbrev cX0_pieceOf : ByteArray := prog_2_method_8_code
def yX0_pieceOf : MethodName := ⟨RX0, "pieceOf", "(II)I"⟩
abbrev cX0_pieces : ByteArray := prog_2_method_9_code
def yX0_pieces : MethodName := ⟨RX0, "pieces", "(IZ)I"⟩
abbrev cX0_shortestOddWalk : ByteArray := prog_2_method_10_code
def yX0_shortestOddWalk : MethodName := ⟨RX0, "shortestOddWalk", "(I)I"⟩
abbrev cX0_besides : ByteArray := prog_2_method_11_code
def yX0_besides : MethodName := ⟨RX0, "besides", "(I)I"⟩
abbrev cX0_hasNoEnd : ByteArray := prog_2_method_12_code
def yX0_hasNoEnd : MethodName := ⟨RX0, "hasNoEnd", "(I)Z"⟩
def RX1 : String := "MatchingGraph$History"
def TX1 : u_T := fun k => match k with
  | 0 => ("MatchingGraph$History", "nears", "[[I", true)
  | 1 => ("MatchingGraph$History", "mates", "[[I", true)
  | 2 => ("MatchingGraph$History", "latest", "I", false)
  | _ => ("MatchingGraph$History", "kept", "I", false)
def tyX1 : Nat → FieldType := fun k => match k with
  | 0 => .array (.array .int)
  | 1 => .array (.array .int)
  | 2 => .int
  | _ => .int
abbrev wsX10 : List Cond := u_ws RX1 TX1 4
theorem nmX1 : ∀ a, a < 4 → ∀ b, b < 4 → a ≠ b → (TX1 a).2.1 ≠ (TX1 b).2.1 := by decide +kernel
theorem tyX1_ok : ∀ k, k < 4 → parseFieldDescriptor (TX1 k).2.2.1 = some (tyX1 k) := by decide +kernel
abbrev cX1_init : ByteArray := prog_3_method_1_code
def yX1_init : MethodName := ⟨RX1, "<init>", "()V"⟩
abbrev cX1_clear : ByteArray := prog_3_method_2_code
def yX1_clear : MethodName := ⟨RX1, "clear", "()V"⟩
abbrev cX1_save : ByteArray := prog_3_method_3_code
def yX1_save : MethodName := ⟨RX1, "save", "(LMatchingGraph$Graph;LMatchingGraph$Matching;)V"⟩
abbrev cX1_restore : ByteArray := prog_3_method_4_code
def yX1_restore : MethodName := ⟨RX1, "restore", "(LMatchingGraph$Graph;LMatchingGraph$Matching;)V"⟩
def RX2 : String := "MatchingGraph$Input"
def TX2 : u_T := fun k => match k with
  | 0 => ("MatchingGraph$Input", "codes", "[I", true)
  | _ => ("MatchingGraph$Input", "length", "I", false)
def tyX2 : Nat → FieldType := fun k => match k with
  | 0 => .array .int
  | _ => .int
abbrev wsX20 : List Cond := u_ws RX2 TX2 2
theorem nmX2 : ∀ a, a < 2 → ∀ b, b < 2 → a ≠ b → (TX2 a).2.1 ≠ (TX2 b).2.1 := by decide +kernel
theorem tyX2_ok : ∀ k, k < 2 → parseFieldDescriptor (TX2 k).2.2.1 = some (tyX2 k) := by decide +kernel
abbrev cX2_init : ByteArray := prog_4_method_1_code
def yX2_init : MethodName := ⟨RX2, "<init>", "()V"⟩
abbrev cX2_add : ByteArray := prog_4_method_2_code
def yX2_add : MethodName := ⟨RX2, "add", "(I)V"⟩
abbrev cX2_errorPlace : ByteArray := prog_4_method_3_code
def yX2_errorPlace : MethodName := ⟨RX2, "errorPlace", "(I)I"⟩
abbrev cX2_isComplete : ByteArray := prog_4_method_4_code
def yX2_isComplete : MethodName := ⟨RX2, "isComplete", "(I)Z"⟩
abbrev cX2_stateAt : ByteArray := prog_4_method_5_code
def yX2_stateAt : MethodName := ⟨RX2, "stateAt", "(III)I"⟩
abbrev cX2_nodeAt : ByteArray := prog_4_method_6_code
def yX2_nodeAt : MethodName := ⟨RX2, "nodeAt", "(I)I"⟩
abbrev cX2_isMarked : ByteArray := prog_4_method_7_code
def yX2_isMarked : MethodName := ⟨RX2, "isMarked", "(I)Z"⟩
def RX3 : String := "MatchingGraph$Matching"
def TX3 : u_T := fun k => match k with
  | _ => ("MatchingGraph$Matching", "mate", "[I", true)
def tyX3 : Nat → FieldType := fun k => match k with
  | _ => .array .int
abbrev wsX30 : List Cond := u_ws RX3 TX3 1
theorem nmX3 : ∀ a, a < 1 → ∀ b, b < 1 → a ≠ b → (TX3 a).2.1 ≠ (TX3 b).2.1 := by decide +kernel
theorem tyX3_ok : ∀ k, k < 1 → parseFieldDescriptor (TX3 k).2.2.1 = some (tyX3 k) := by decide +kernel
abbrev cX3_init : ByteArray := prog_5_method_1_code
def yX3_init : MethodName := ⟨RX3, "<init>", "()V"⟩
abbrev cX3_clear : ByteArray := prog_5_method_2_code
def yX3_clear : MethodName := ⟨RX3, "clear", "()V"⟩
abbrev cX3_copyFrom : ByteArray := prog_5_method_3_code
def yX3_copyFrom : MethodName := ⟨RX3, "copyFrom", "([I)V"⟩
abbrev cX3_isExposed : ByteArray := prog_5_method_4_code
def yX3_isExposed : MethodName := ⟨RX3, "isExposed", "(I)Z"⟩
abbrev cX3_has : ByteArray := prog_5_method_5_code
def yX3_has : MethodName := ⟨RX3, "has", "(II)Z"⟩
abbrev cX3_join : ByteArray := prog_5_method_6_code
def yX3_join : MethodName := ⟨RX3, "join", "(II)V"⟩
abbrev cX3_part : ByteArray := prog_5_method_7_code
def yX3_part : MethodName := ⟨RX3, "part", "(I)V"⟩
abbrev cX3_size : ByteArray := prog_5_method_8_code
def yX3_size : MethodName := ⟨RX3, "size", "()I"⟩
abbrev cX3_swapAlong : ByteArray := prog_5_method_9_code
def yX3_swapAlong : MethodName := ⟨RX3, "swapAlong", "([II)V"⟩
def RX4 : String := "MatchingGraph$Maxima"
def TX4 : u_T := fun k => match k with
  | 0 => ("MatchingGraph$Maxima", "graph", "LMatchingGraph$Graph;", true)
  | 1 => ("MatchingGraph$Maxima", "size", "[I", true)
  | 2 => ("MatchingGraph$Maxima", "ways", "[I", true)
  | 3 => ("MatchingGraph$Maxima", "first", "LMatchingGraph$Matching;", true)
  | 4 => ("MatchingGraph$Maxima", "firstIsKnown", "Z", false)
  | _ => ("MatchingGraph$Maxima", "changesSeen", "I", false)
def tyX4 : Nat → FieldType := fun k => match k with
  | 0 => .object "MatchingGraph$Graph"
  | 1 => .array .int
  | 2 => .array .int
  | 3 => .object "MatchingGraph$Matching"
  | 4 => .boolean
  | _ => .int
abbrev wsX40 : List Cond := u_ws RX4 TX4 6
theorem nmX4 : ∀ a, a < 6 → ∀ b, b < 6 → a ≠ b → (TX4 a).2.1 ≠ (TX4 b).2.1 := by decide +kernel
theorem tyX4_ok : ∀ k, k < 6 → parseFieldDescriptor (TX4 k).2.2.1 = some (tyX4 k) := by decide +kernel
abbrev cX4_init : ByteArray := prog_6_method_1_code
def yX4_init : MethodName := ⟨RX4, "<init>", "(LMatchingGraph$Graph;)V"⟩
abbrev cX4_learn : ByteArray := prog_6_method_2_code
def yX4_learn : MethodName := ⟨RX4, "learn", "()V"⟩
abbrev cX4_findOut : ByteArray := prog_6_method_3_code
def yX4_findOut : MethodName := ⟨RX4, "findOut", "(II)V"⟩
abbrev cX4_number : ByteArray := prog_6_method_4_code
def yX4_number : MethodName := ⟨RX4, "number", "()I"⟩
abbrev cX4_howMany : ByteArray := prog_6_method_5_code
def yX4_howMany : MethodName := ⟨RX4, "howMany", "()I"⟩
abbrev cX4_exposing : ByteArray := prog_6_method_6_code
def yX4_exposing : MethodName := ⟨RX4, "exposing", "(I)I"⟩
abbrev cX4_exposable : ByteArray := prog_6_method_7_code
def yX4_exposable : MethodName := ⟨RX4, "exposable", "()I"⟩
abbrev cX4_isCritical : ByteArray := prog_6_method_8_code
def yX4_isCritical : MethodName := ⟨RX4, "isCritical", "()Z"⟩
abbrev cX4_numberWithout : ByteArray := prog_6_method_9_code
def yX4_numberWithout : MethodName := ⟨RX4, "numberWithout", "(II)I"⟩
abbrev cX4_having : ByteArray := prog_6_method_10_code
def yX4_having : MethodName := ⟨RX4, "having", "(II)I"⟩
abbrev cX4_edgesHadBy : ByteArray := prog_6_method_11_code
def yX4_edgesHadBy : MethodName := ⟨RX4, "edgesHadBy", "(I)I"⟩
abbrev cX4_first : ByteArray := prog_6_method_12_code
def yX4_first : MethodName := ⟨RX4, "first", "()LMatchingGraph$Matching;"⟩
abbrev cX4_findFirst : ByteArray := prog_6_method_13_code
def yX4_findFirst : MethodName := ⟨RX4, "findFirst", "()V"⟩
abbrev cX4_leastMate : ByteArray := prog_6_method_14_code
def yX4_leastMate : MethodName := ⟨RX4, "leastMate", "(II)I"⟩
def RX5 : String := "MatchingGraph$Paths"
def TX5 : u_T := fun k => match k with
  | 0 => ("MatchingGraph$Paths", "graph", "LMatchingGraph$Graph;", true)
  | 1 => ("MatchingGraph$Paths", "matching", "LMatchingGraph$Matching;", true)
  | 2 => ("MatchingGraph$Paths", "pairBit", "[I", true)
  | 3 => ("MatchingGraph$Paths", "followed", "[I", true)
  | 4 => ("MatchingGraph$Paths", "wayNodes", "[I", true)
  | 5 => ("MatchingGraph$Paths", "evenEnds", "I", false)
  | _ => ("MatchingGraph$Paths", "oddEnds", "I", false)
def tyX5 : Nat → FieldType := fun k => match k with
  | 0 => .object "MatchingGraph$Graph"
  | 1 => .object "MatchingGraph$Matching"
  | 2 => .array .int
  | 3 => .array .int
  | 4 => .array .int
  | 5 => .int
  | _ => .int
abbrev wsX50 : List Cond := u_ws RX5 TX5 7
theorem nmX5 : ∀ a, a < 7 → ∀ b, b < 7 → a ≠ b → (TX5 a).2.1 ≠ (TX5 b).2.1 := by decide +kernel
theorem tyX5_ok : ∀ k, k < 7 → parseFieldDescriptor (TX5 k).2.2.1 = some (tyX5 k) := by decide +kernel
abbrev cX5_init : ByteArray := prog_7_method_1_code
def yX5_init : MethodName := ⟨RX5, "<init>", "(LMatchingGraph$Graph;LMatchingGraph$Matching;)V"⟩
abbrev cX5_numberPairs : ByteArray := prog_7_method_2_code
def yX5_numberPairs : MethodName := ⟨RX5, "numberPairs", "()V"⟩
abbrev cX5_findEnds : ByteArray := prog_7_method_3_code
def yX5_findEnds : MethodName := ⟨RX5, "findEnds", "(I)V"⟩
abbrev cX5_followFrom : ByteArray := prog_7_method_4_code
def yX5_followFrom : MethodName := ⟨RX5, "followFrom", "(III)V"⟩
abbrev cX5_findWay : ByteArray := prog_7_method_5_code
def yX5_findWay : MethodName := ⟨RX5, "findWay", "(I)I"⟩
abbrev cX5_followWay : ByteArray := prog_7_method_6_code
def yX5_followWay : MethodName := ⟨RX5, "followWay", "(III)Z"⟩
abbrev cX5_followWayTo : ByteArray := prog_7_method_7_code
def yX5_followWayTo : MethodName := ⟨RX5, "followWayTo", "(IIII)Z"⟩
def RX6 : String := "MatchingGraph"
def TX6 : u_T := fun k => match k with
  | 0 => ("MatchingGraph", "graph", "LMatchingGraph$Graph;", true)
  | 1 => ("MatchingGraph", "matching", "LMatchingGraph$Matching;", true)
  | 2 => ("MatchingGraph", "input", "LMatchingGraph$Input;", true)
  | 3 => ("MatchingGraph", "history", "LMatchingGraph$History;", true)
  | 4 => ("MatchingGraph", "paths", "LMatchingGraph$Paths;", true)
  | 5 => ("MatchingGraph", "maxima", "LMatchingGraph$Maxima;", true)
  | _ => ("MatchingGraph", "differing", "LMatchingGraph$Graph;", true)
def tyX6 : Nat → FieldType := fun k => match k with
  | 0 => .object "MatchingGraph$Graph"
  | 1 => .object "MatchingGraph$Matching"
  | 2 => .object "MatchingGraph$Input"
  | 3 => .object "MatchingGraph$History"
  | 4 => .object "MatchingGraph$Paths"
  | 5 => .object "MatchingGraph$Maxima"
  | _ => .object "MatchingGraph$Graph"
abbrev wsX60 : List Cond := u_ws RX6 TX6 7
theorem nmX6 : ∀ a, a < 7 → ∀ b, b < 7 → a ≠ b → (TX6 a).2.1 ≠ (TX6 b).2.1 := by decide +kernel
theorem tyX6_ok : ∀ k, k < 7 → parseFieldDescriptor (TX6 k).2.2.1 = some (tyX6 k) := by decide +kernel
abbrev cX6_init : ByteArray := prog_1_method_1_code
def yX6_init : MethodName := ⟨RX6, "<init>", "()V"⟩
abbrev cX6_begin : ByteArray := prog_1_method_2_code
def yX6_begin : MethodName := ⟨RX6, "begin", "(I)I"⟩
abbrev cX6_setEdge : ByteArray := prog_1_method_3_code
def yX6_setEdge : MethodName := ⟨RX6, "setEdge", "(IIZ)I"⟩
abbrev cX6_append : ByteArray := prog_1_method_4_code
def yX6_append : MethodName := ⟨RX6, "append", "(I)I"⟩
abbrev cX6_clearInput : ByteArray := prog_1_method_5_code
def yX6_clearInput : MethodName := ⟨RX6, "clearInput", "()I"⟩
abbrev cX6_firstError : ByteArray := prog_1_method_6_code
def yX6_firstError : MethodName := ⟨RX6, "firstError", "()I"⟩
abbrev cX6_load : ByteArray := prog_1_method_7_code
def yX6_load : MethodName := ⟨RX6, "load", "()I"⟩
abbrev cX6_addRead : ByteArray := prog_1_method_8_code
def yX6_addRead : MethodName := ⟨RX6, "addRead", "(IIZ)I"⟩
abbrev cX6_match : ByteArray := prog_1_method_9_code
def yX6_match : MethodName := ⟨RX6, "match", "(II)I"⟩
abbrev cX6_unmatch : ByteArray := prog_1_method_10_code
def yX6_unmatch : MethodName := ⟨RX6, "unmatch", "(I)I"⟩
abbrev cX6_augment : ByteArray := prog_1_method_11_code
def yX6_augment : MethodName := ⟨RX6, "augment", "(I)I"⟩
abbrev cX6_maximize : ByteArray := prog_1_method_12_code
def yX6_maximize : MethodName := ⟨RX6, "maximize", "()I"⟩
abbrev cX6_augmentLowest : ByteArray := prog_1_method_13_code
def yX6_augmentLowest : MethodName := ⟨RX6, "augmentLowest", "()Z"⟩
abbrev cX6_augmentFrom : ByteArray := prog_1_method_14_code
def yX6_augmentFrom : MethodName := ⟨RX6, "augmentFrom", "(I)I"⟩
abbrev cX6_takeFirst : ByteArray := prog_1_method_15_code
def yX6_takeFirst : MethodName := ⟨RX6, "takeFirst", "()I"⟩
abbrev cX6_undo : ByteArray := prog_1_method_16_code
def yX6_undo : MethodName := ⟨RX6, "undo", "()I"⟩
abbrev cX6_way : ByteArray := prog_1_method_17_code
def yX6_way : MethodName := ⟨RX6, "way", "(I)I"⟩
abbrev cX6_wayNode : ByteArray := prog_1_method_18_code
def yX6_wayNode : MethodName := ⟨RX6, "wayNode", "(II)I"⟩
abbrev cX6_reach : ByteArray := prog_1_method_19_code
def yX6_reach : MethodName := ⟨RX6, "reach", "(IZ)I"⟩
abbrev cX6_oddCycle : ByteArray := prog_1_method_20_code
def yX6_oddCycle : MethodName := ⟨RX6, "oddCycle", "()I"⟩
abbrev cX6_firstMate : ByteArray := prog_1_method_21_code
def yX6_firstMate : MethodName := ⟨RX6, "firstMate", "(I)I"⟩
abbrev cX6_proof : ByteArray := prog_1_method_22_code
def yX6_proof : MethodName := ⟨RX6, "proof", "()I"⟩
abbrev cX6_isProof : ByteArray := prog_1_method_23_code
def yX6_isProof : MethodName := ⟨RX6, "isProof", "(II)Z"⟩
abbrev cX6_components : ByteArray := prog_1_method_24_code
def yX6_components : MethodName := ⟨RX6, "components", "(IZ)I"⟩
abbrev cX6_ifChanged : ByteArray := prog_1_method_25_code
def yX6_ifChanged : MethodName := ⟨RX6, "ifChanged", "(II)I"⟩
abbrev cX6_node : ByteArray := prog_1_method_26_code
def yX6_node : MethodName := ⟨RX6, "node", "(II)I"⟩
abbrev cX6_partOf : ByteArray := prog_1_method_27_code
def yX6_partOf : MethodName := ⟨RX6, "partOf", "(I)I"⟩
abbrev cX6_edge : ByteArray := prog_1_method_28_code
def yX6_edge : MethodName := ⟨RX6, "edge", "(III)I"⟩
abbrev cX6_count : ByteArray := prog_1_method_29_code
def yX6_count : MethodName := ⟨RX6, "count", "(I)I"⟩
abbrev cX6_deficiency : ByteArray := prog_1_method_30_code
def yX6_deficiency : MethodName := ⟨RX6, "deficiency", "()I"⟩
abbrev cX6_difference : ByteArray := prog_1_method_31_code
def yX6_difference : MethodName := ⟨RX6, "difference", "(I)I"⟩
abbrev cX6_drawDifferences : ByteArray := prog_1_method_32_code
def yX6_drawDifferences : MethodName := ⟨RX6, "drawDifferences", "(LMatchingGraph$Matching;)V"⟩
abbrev cX6_meanUse : ByteArray := prog_1_method_33_code
def yX6_meanUse : MethodName := ⟨RX6, "meanUse", "()D"⟩
abbrev cX6_digest : ByteArray := prog_1_method_34_code
def yX6_digest : MethodName := ⟨RX6, "digest", "()J"⟩
abbrev cX6_mixNode : ByteArray := prog_1_method_35_code
def yX6_mixNode : MethodName := ⟨RX6, "mixNode", "(JI)J"⟩
abbrev cX6_mixPair : ByteArray := prog_1_method_36_code
def yX6_mixPair : MethodName := ⟨RX6, "mixPair", "(JII)J"⟩
abbrev cX6_mixInput : ByteArray := prog_1_method_37_code
def yX6_mixInput : MethodName := ⟨RX6, "mixInput", "(J)J"⟩
abbrev cX6_mix : ByteArray := prog_1_method_38_code
def yX6_mix : MethodName := ⟨RX6, "mix", "(JJ)J"⟩
abbrev cX6_requireNode : ByteArray := prog_1_method_39_code
def yX6_requireNode : MethodName := ⟨RX6, "requireNode", "(I)V"⟩
abbrev cX6_requireDifferent : ByteArray := prog_1_method_40_code
def yX6_requireDifferent : MethodName := ⟨RX6, "requireDifferent", "(II)V"⟩
abbrev cX6_requireExposed : ByteArray := prog_1_method_41_code
def yX6_requireExposed : MethodName := ⟨RX6, "requireExposed", "(I)V"⟩
def RX7 : String := "MatchingGraphModel"
def TX7 : u_T := fun k => match k with
  | 0 => ("MatchingGraphModel", "thrown", "I", false)
  | 1 => ("MatchingGraphModel", "n", "I", false)
  | 2 => ("MatchingGraphModel", "adjacent", "[I", true)
  | 3 => ("MatchingGraphModel", "mate", "[I", true)
  | 4 => ("MatchingGraphModel", "kept", "I", false)
  | 5 => ("MatchingGraphModel", "old", "[I", true)
  | 6 => ("MatchingGraphModel", "length", "I", false)
  | 7 => ("MatchingGraphModel", "buffer", "[I", true)
  | 8 => ("MatchingGraphModel", "best", "[I", true)
  | 9 => ("MatchingGraphModel", "ways", "[I", true)
  | 10 => ("MatchingGraphModel", "first", "[I", true)
  | 11 => ("MatchingGraphModel", "path", "[I", true)
  | 12 => ("MatchingGraphModel", "next", "[I", true)
  | 13 => ("MatchingGraphModel", "oddReach", "I", false)
  | 14 => ("MatchingGraphModel", "evenReach", "I", false)
  | 15 => ("MatchingGraphModel", "place", "I", false)
  | 16 => ("MatchingGraphModel", "edges", "I", false)
  | 17 => ("MatchingGraphModel", "edge", "[I", true)
  | _ => ("MatchingGraphModel", "hash", "J", false)
def tyX7 : Nat → FieldType := fun k => match k with
  | 0 => .int
  | 1 => .int
  | 2 => .array .int
  | 3 => .array .int
  | 4 => .int
  | 5 => .array .int
  | 6 => .int
  | 7 => .array .int
  | 8 => .array .int
  | 9 => .array .int
  | 10 => .array .int
  | 11 => .array .int
  | 12 => .array .int
  | 13 => .int
  | 14 => .int
  | 15 => .int
  | 16 => .int
  | 17 => .array .int
  | _ => .long
abbrev wsX70 : List Cond := u_ws RX7 TX7 19
theorem nmX7 : ∀ a, a < 19 → ∀ b, b < 19 → a ≠ b → (TX7 a).2.1 ≠ (TX7 b).2.1 := by decide +kernel
theorem tyX7_ok : ∀ k, k < 19 → parseFieldDescriptor (TX7 k).2.2.1 = some (tyX7 k) := by decide +kernel
abbrev cX7_init : ByteArray := prog_9_method_1_code
def yX7_init : MethodName := ⟨RX7, "<init>", "()V"⟩
abbrev cX7_thrown : ByteArray := prog_9_method_2_code
def yX7_thrown : MethodName := ⟨RX7, "thrown", "()I"⟩
abbrev cX7_within : ByteArray := prog_9_method_3_code
def yX7_within : MethodName := ⟨RX7, "within", "(III)Z"⟩
abbrev cX7_has : ByteArray := prog_9_method_4_code
def yX7_has : MethodName := ⟨RX7, "has", "(II)Z"⟩
abbrev cX7_bits : ByteArray := prog_9_method_5_code
def yX7_bits : MethodName := ⟨RX7, "bits", "(I)I"⟩
abbrev cX7_isNode : ByteArray := prog_9_method_6_code
def yX7_isNode : MethodName := ⟨RX7, "isNode", "(I)Z"⟩
abbrev cX7_all : ByteArray := prog_9_method_7_code
def yX7_all : MethodName := ⟨RX7, "all", "()I"⟩
abbrev cX7_clearAll : ByteArray := prog_9_method_8_code
def yX7_clearAll : MethodName := ⟨RX7, "clearAll", "()V"⟩
abbrev cX7_flip : ByteArray := prog_9_method_9_code
def yX7_flip : MethodName := ⟨RX7, "flip", "(II)V"⟩
abbrev cX7_pair : ByteArray := prog_9_method_10_code
def yX7_pair : MethodName := ⟨RX7, "pair", "(II)V"⟩
abbrev cX7_part : ByteArray := prog_9_method_11_code
def yX7_part : MethodName := ⟨RX7, "part", "(I)V"⟩
abbrev cX7_keep : ByteArray := prog_9_method_12_code
def yX7_keep : MethodName := ⟨RX7, "keep", "()V"⟩
abbrev cX7_note : ByteArray := prog_9_method_13_code
def yX7_note : MethodName := ⟨RX7, "note", "(III)V"⟩
abbrev cX7_laySets : ByteArray := prog_9_method_14_code
def yX7_laySets : MethodName := ⟨RX7, "laySets", "()V"⟩
abbrev cX7_layFirst : ByteArray := prog_9_method_15_code
def yX7_layFirst : MethodName := ⟨RX7, "layFirst", "()V"⟩
abbrev cX7_exposing : ByteArray := prog_9_method_16_code
def yX7_exposing : MethodName := ⟨RX7, "exposing", "(I)I"⟩
abbrev cX7_using : ByteArray := prog_9_method_17_code
def yX7_using : MethodName := ⟨RX7, "using", "(II)I"⟩
abbrev cX7_partOf : ByteArray := prog_9_method_18_code
def yX7_partOf : MethodName := ⟨RX7, "partOf", "(I)I"⟩
abbrev cX7_isCritical : ByteArray := prog_9_method_19_code
def yX7_isCritical : MethodName := ⟨RX7, "isCritical", "()Z"⟩
abbrev cX7_componentOf : ByteArray := prog_9_method_20_code
def yX7_componentOf : MethodName := ⟨RX7, "componentOf", "(II)I"⟩
abbrev cX7_componentsOf : ByteArray := prog_9_method_21_code
def yX7_componentsOf : MethodName := ⟨RX7, "componentsOf", "(IZ)I"⟩
abbrev cX7_lowest : ByteArray := prog_9_method_22_code
def yX7_lowest : MethodName := ⟨RX7, "lowest", "(I)I"⟩
abbrev cX7_proofNow : ByteArray := prog_9_method_23_code
def yX7_proofNow : MethodName := ⟨RX7, "proofNow", "()I"⟩
abbrev cX7_step : ByteArray := prog_9_method_24_code
def yX7_step : MethodName := ⟨RX7, "step", "(III)I"⟩
abbrev cX7_goThrough : ByteArray := prog_9_method_25_code
def yX7_goThrough : MethodName := ⟨RX7, "goThrough", "(II)Z"⟩
abbrev cX7_layWay : ByteArray := prog_9_method_26_code
def yX7_layWay : MethodName := ⟨RX7, "layWay", "(I)I"⟩
abbrev cX7_layReach : ByteArray := prog_9_method_27_code
def yX7_layReach : MethodName := ⟨RX7, "layReach", "(I)V"⟩
abbrev cX7_augmentFrom : ByteArray := prog_9_method_28_code
def yX7_augmentFrom : MethodName := ⟨RX7, "augmentFrom", "(I)I"⟩
abbrev cX7_begin : ByteArray := prog_9_method_29_code
def yX7_begin : MethodName := ⟨RX7, "begin", "(I)I"⟩
abbrev cX7_setEdge : ByteArray := prog_9_method_30_code
def yX7_setEdge : MethodName := ⟨RX7, "setEdge", "(IIZ)I"⟩
abbrev cX7_append : ByteArray := prog_9_method_31_code
def yX7_append : MethodName := ⟨RX7, "append", "(I)I"⟩
abbrev cX7_clearInput : ByteArray := prog_9_method_32_code
def yX7_clearInput : MethodName := ⟨RX7, "clearInput", "()I"⟩
abbrev cX7_takes : ByteArray := prog_9_method_33_code
def yX7_takes : MethodName := ⟨RX7, "takes", "(I)Z"⟩
abbrev cX7_rightLength : ByteArray := prog_9_method_34_code
def yX7_rightLength : MethodName := ⟨RX7, "rightLength", "()I"⟩
abbrev cX7_firstError : ByteArray := prog_9_method_35_code
def yX7_firstError : MethodName := ⟨RX7, "firstError", "()I"⟩
abbrev cX7_load : ByteArray := prog_9_method_36_code
def yX7_load : MethodName := ⟨RX7, "load", "()I"⟩
abbrev cX7_size : ByteArray := prog_9_method_37_code
def yX7_size : MethodName := ⟨RX7, "size", "()I"⟩
abbrev cX7_match : ByteArray := prog_9_method_38_code
def yX7_match : MethodName := ⟨RX7, "match", "(II)I"⟩
abbrev cX7_unmatch : ByteArray := prog_9_method_39_code
def yX7_unmatch : MethodName := ⟨RX7, "unmatch", "(I)I"⟩
abbrev cX7_exposedFault : ByteArray := prog_9_method_40_code
def yX7_exposedFault : MethodName := ⟨RX7, "exposedFault", "(I)I"⟩
abbrev cX7_augment : ByteArray := prog_9_method_41_code
def yX7_augment : MethodName := ⟨RX7, "augment", "(I)I"⟩
abbrev cX7_lowestWithWay : ByteArray := prog_9_method_42_code
def yX7_lowestWithWay : MethodName := ⟨RX7, "lowestWithWay", "()I"⟩
abbrev cX7_maximize : ByteArray := prog_9_method_43_code
def yX7_maximize : MethodName := ⟨RX7, "maximize", "()I"⟩
abbrev cX7_takeFirst : ByteArray := prog_9_method_44_code
def yX7_takeFirst : MethodName := ⟨RX7, "takeFirst", "()I"⟩
abbrev cX7_undo : ByteArray := prog_9_method_45_code
def yX7_undo : MethodName := ⟨RX7, "undo", "()I"⟩
abbrev cX7_way : ByteArray := prog_9_method_46_code
def yX7_way : MethodName := ⟨RX7, "way", "(I)I"⟩
abbrev cX7_wayNode : ByteArray := prog_9_method_47_code
def yX7_wayNode : MethodName := ⟨RX7, "wayNode", "(II)I"⟩
abbrev cX7_reach : ByteArray := prog_9_method_48_code
def yX7_reach : MethodName := ⟨RX7, "reach", "(IZ)I"⟩
abbrev cX7_oddWalk : ByteArray := prog_9_method_49_code
def yX7_oddWalk : MethodName := ⟨RX7, "oddWalk", "(I)I"⟩
abbrev cX7_oddCycleNow : ByteArray := prog_9_method_50_code
def yX7_oddCycleNow : MethodName := ⟨RX7, "oddCycleNow", "()I"⟩
abbrev cX7_oddCycle : ByteArray := prog_9_method_51_code
def yX7_oddCycle : MethodName := ⟨RX7, "oddCycle", "()I"⟩
abbrev cX7_firstMate : ByteArray := prog_9_method_52_code
def yX7_firstMate : MethodName := ⟨RX7, "firstMate", "(I)I"⟩
abbrev cX7_proof : ByteArray := prog_9_method_53_code
def yX7_proof : MethodName := ⟨RX7, "proof", "()I"⟩
abbrev cX7_components : ByteArray := prog_9_method_54_code
def yX7_components : MethodName := ⟨RX7, "components", "(IZ)I"⟩
abbrev cX7_ifChanged : ByteArray := prog_9_method_55_code
def yX7_ifChanged : MethodName := ⟨RX7, "ifChanged", "(II)I"⟩
abbrev cX7_nodeNow : ByteArray := prog_9_method_56_code
def yX7_nodeNow : MethodName := ⟨RX7, "nodeNow", "(II)I"⟩
abbrev cX7_node : ByteArray := prog_9_method_57_code
def yX7_node : MethodName := ⟨RX7, "node", "(II)I"⟩
abbrev cX7_edgeNow : ByteArray := prog_9_method_58_code
def yX7_edgeNow : MethodName := ⟨RX7, "edgeNow", "(III)I"⟩
abbrev cX7_edge : ByteArray := prog_9_method_59_code
def yX7_edge : MethodName := ⟨RX7, "edge", "(III)I"⟩
abbrev cX7_edgeCount : ByteArray := prog_9_method_60_code
def yX7_edgeCount : MethodName := ⟨RX7, "edgeCount", "()I"⟩
abbrev cX7_edgesIn : ByteArray := prog_9_method_61_code
def yX7_edgesIn : MethodName := ⟨RX7, "edgesIn", "(I)I"⟩
abbrev cX7_counted : ByteArray := prog_9_method_62_code
def yX7_counted : MethodName := ⟨RX7, "counted", "(I)I"⟩
abbrev cX7_count : ByteArray := prog_9_method_63_code
def yX7_count : MethodName := ⟨RX7, "count", "(I)I"⟩
abbrev cX7_differs : ByteArray := prog_9_method_64_code
def yX7_differs : MethodName := ⟨RX7, "differs", "(I)Z"⟩
abbrev cX7_joined : ByteArray := prog_9_method_65_code
def yX7_joined : MethodName := ⟨RX7, "joined", "(I)I"⟩
abbrev cX7_isRing : ByteArray := prog_9_method_66_code
def yX7_isRing : MethodName := ⟨RX7, "isRing", "(I)Z"⟩
abbrev cX7_differenceNow : ByteArray := prog_9_method_67_code
def yX7_differenceNow : MethodName := ⟨RX7, "differenceNow", "(I)I"⟩
abbrev cX7_difference : ByteArray := prog_9_method_68_code
def yX7_difference : MethodName := ⟨RX7, "difference", "(I)I"⟩
abbrev cX7_meanUse : ByteArray := prog_9_method_69_code
def yX7_meanUse : MethodName := ⟨RX7, "meanUse", "()D"⟩
abbrev cX7_mix : ByteArray := prog_9_method_70_code
def yX7_mix : MethodName := ⟨RX7, "mix", "(J)V"⟩
abbrev cX7_mixNode : ByteArray := prog_9_method_71_code
def yX7_mixNode : MethodName := ⟨RX7, "mixNode", "(I)V"⟩
abbrev cX7_mixPairs : ByteArray := prog_9_method_72_code
def yX7_mixPairs : MethodName := ⟨RX7, "mixPairs", "()V"⟩
abbrev cX7_digest : ByteArray := prog_9_method_73_code
def yX7_digest : MethodName := ⟨RX7, "digest", "()J"⟩
def RJx145de : String := "java/io/Serializable"
def TJx145de : u_T := fun k => match k with
  | _ => ("", "", "", false)
def tyJx145de : Nat → FieldType := fun k => match k with
  | _ => .int
abbrev wsJx145de0 : List Cond := u_ws RJx145de TJx145de 0
theorem nmJx145de : ∀ a, a < 0 → ∀ b, b < 0 → a ≠ b → (TJx145de a).2.1 ≠ (TJx145de b).2.1 := by decide +kernel
theorem tyJx145de_ok : ∀ k, k < 0 → parseFieldDescriptor (TJx145de k).2.2.1 = some (tyJx145de k) := by decide +kernel
def RJ6 : String := "java/lang/Integer"
def TJ6 : u_T := fun k => match k with
  | _ => ("", "", "", false)
def tyJ6 : Nat → FieldType := fun k => match k with
  | _ => .int
abbrev wsJ60 : List Cond := u_ws RJ6 TJ6 0
theorem nmJ6 : ∀ a, a < 0 → ∀ b, b < 0 → a ≠ b → (TJ6 a).2.1 ≠ (TJ6 b).2.1 := by decide +kernel
theorem tyJ6_ok : ∀ k, k < 0 → parseFieldDescriptor (TJ6 k).2.2.1 = some (tyJ6 k) := by decide +kernel
abbrev cJ6_numberOfTrailingZeros_0f7a4 : ByteArray := prog_14_method_48_code
def yJ6_numberOfTrailingZeros_0f7a4 : MethodName := ⟨RJ6, "numberOfTrailingZeros", "(I)I"⟩
abbrev cJ6_bitCount_0f7a4 : ByteArray := prog_14_method_49_code
def yJ6_bitCount_0f7a4 : MethodName := ⟨RJ6, "bitCount", "(I)I"⟩
def RJ9 : String := "java/lang/Math"
def TJ9 : u_T := fun k => match k with
  | _ => ("", "", "", false)
def tyJ9 : Nat → FieldType := fun k => match k with
  | _ => .int
abbrev wsJ90 : List Cond := u_ws RJ9 TJ9 0
theorem nmJ9 : ∀ a, a < 0 → ∀ b, b < 0 → a ≠ b → (TJ9 a).2.1 ≠ (TJ9 b).2.1 := by decide +kernel
theorem tyJ9_ok : ∀ k, k < 0 → parseFieldDescriptor (TJ9 k).2.2.1 = some (tyJ9 k) := by decide +kernel
abbrev cJ9_max_7cf53 : ByteArray := prog_15_method_65_code
def yJ9_max_7cf53 : MethodName := ⟨RJ9, "max", "(II)I"⟩
abbrev cJ9_min_7cf53 : ByteArray := prog_15_method_69_code
def yJ9_min_7cf53 : MethodName := ⟨RJ9, "min", "(II)I"⟩
def RJ0 : String := "java/lang/String"
def TJ0 : u_T := fun k => match k with
  | _ => ("", "", "", false)
def tyJ0 : Nat → FieldType := fun k => match k with
  | _ => .int
abbrev wsJ00 : List Cond := u_ws RJ0 TJ0 0
theorem nmJ0 : ∀ a, a < 0 → ∀ b, b < 0 → a ≠ b → (TJ0 a).2.1 ≠ (TJ0 b).2.1 := by decide +kernel
theorem tyJ0_ok : ∀ k, k < 0 → parseFieldDescriptor (TJ0 k).2.2.1 = some (tyJ0 k) := by decide +kernel
def RJ10 : String := "java/lang/System"
def TJ10 : u_T := fun k => match k with
  | _ => ("", "", "", false)
def tyJ10 : Nat → FieldType := fun k => match k with
  | _ => .int
abbrev wsJ100 : List Cond := u_ws RJ10 TJ10 0
theorem nmJ10 : ∀ a, a < 0 → ∀ b, b < 0 → a ≠ b → (TJ10 a).2.1 ≠ (TJ10 b).2.1 := by decide +kernel
theorem tyJ10_ok : ∀ k, k < 0 → parseFieldDescriptor (TJ10 k).2.2.1 = some (tyJ10 k) := by decide +kernel
def RJ7 : String := "java/util/Arrays"
def TJ7 : u_T := fun k => match k with
  | _ => ("", "", "", false)
def tyJ7 : Nat → FieldType := fun k => match k with
  | _ => .int
abbrev wsJ70 : List Cond := u_ws RJ7 TJ7 0
theorem nmJ7 : ∀ a, a < 0 → ∀ b, b < 0 → a ≠ b → (TJ7 a).2.1 ≠ (TJ7 b).2.1 := by decide +kernel
theorem tyJ7_ok : ∀ k, k < 0 → parseFieldDescriptor (TJ7 k).2.2.1 = some (tyJ7 k) := by decide +kernel
abbrev cJ7_fill_53178 : ByteArray := prog_20_method_103_code
def yJ7_fill_53178 : MethodName := ⟨RJ7, "fill", "([II)V"⟩
def RL : String := "MatchingGraphLaw"
abbrev cL_begin : ByteArray := method_3_code
def yL_begin : MethodName := ⟨RL, "begin", "(LMatchingGraph;I[J)I"⟩
abbrev cL_setEdge : ByteArray := method_4_code
def yL_setEdge : MethodName := ⟨RL, "setEdge", "(LMatchingGraph;IIZ[J)I"⟩
abbrev cL_append : ByteArray := method_5_code
def yL_append : MethodName := ⟨RL, "append", "(LMatchingGraph;I[J)I"⟩
abbrev cL_load : ByteArray := method_6_code
def yL_load : MethodName := ⟨RL, "load", "(LMatchingGraph;[J)I"⟩
abbrev cL_match : ByteArray := method_7_code
def yL_match : MethodName := ⟨RL, "match", "(LMatchingGraph;II[J)I"⟩
abbrev cL_unmatch : ByteArray := method_8_code
def yL_unmatch : MethodName := ⟨RL, "unmatch", "(LMatchingGraph;I[J)I"⟩
abbrev cL_augment : ByteArray := method_9_code
def yL_augment : MethodName := ⟨RL, "augment", "(LMatchingGraph;I[J)I"⟩
abbrev cL_undo : ByteArray := method_10_code
def yL_undo : MethodName := ⟨RL, "undo", "(LMatchingGraph;[J)I"⟩
abbrev cL_way : ByteArray := method_11_code
def yL_way : MethodName := ⟨RL, "way", "(LMatchingGraph;I[J)I"⟩
abbrev cL_wayNode : ByteArray := method_12_code
def yL_wayNode : MethodName := ⟨RL, "wayNode", "(LMatchingGraph;II[J)I"⟩
abbrev cL_reach : ByteArray := method_13_code
def yL_reach : MethodName := ⟨RL, "reach", "(LMatchingGraph;IZ[J)I"⟩
abbrev cL_firstMate : ByteArray := method_14_code
def yL_firstMate : MethodName := ⟨RL, "firstMate", "(LMatchingGraph;I[J)I"⟩
abbrev cL_components : ByteArray := method_15_code
def yL_components : MethodName := ⟨RL, "components", "(LMatchingGraph;IZ[J)I"⟩
abbrev cL_ifChanged : ByteArray := method_16_code
def yL_ifChanged : MethodName := ⟨RL, "ifChanged", "(LMatchingGraph;II[J)I"⟩
abbrev cL_node : ByteArray := method_17_code
def yL_node : MethodName := ⟨RL, "node", "(LMatchingGraph;II[J)I"⟩
abbrev cL_edge : ByteArray := method_18_code
def yL_edge : MethodName := ⟨RL, "edge", "(LMatchingGraph;III[J)I"⟩
abbrev cL_count : ByteArray := method_19_code
def yL_count : MethodName := ⟨RL, "count", "(LMatchingGraph;I[J)I"⟩
abbrev cL_difference : ByteArray := method_20_code
def yL_difference : MethodName := ⟨RL, "difference", "(LMatchingGraph;I[J)I"⟩
abbrev cL_law : ByteArray := code
def yL_law : MethodName := ⟨RL, "law", "([I)Z"⟩
abbrev vwCl : List vw_C := [(RX0, TX0, 3), (RX1, TX1, 4), (RX2, TX2, 2), (RX3, TX3, 1), (RX4, TX4, 6), (RX5, TX5, 7), (RX6, TX6, 7), (RX7, TX7, 19)]
/-- the words that all contracts stand on: the tables' good ones -/
def WS : List Cond := lw_tbl.filter goodWord
theorem ws_in {w : Cond} (i : Nat) (h : lw_tbl[i]? = some w) (hg : goodWord w = true) : w ∈ WS := List.mem_filter.mpr ⟨List.mem_of_getElem? h, hg⟩
theorem ws_tin {w : Cond} (i : Nat) (h : tables_1[i]? = some w) (hg : goodWord w = true) : w ∈ WS := List.mem_filter.mpr ⟨List.mem_append_right _ (List.mem_of_getElem? h), hg⟩
theorem ws_pin {w : Cond} (i : Nat) (h : (k2_sels lw_privs)[i]? = some w) (hg : goodWord w = true) : w ∈ WS := List.mem_filter.mpr ⟨List.mem_append_left _ (List.mem_of_getElem? h), hg⟩
theorem ws_tbl {w : Cond} (h : w ∈ WS) : w ∈ lw_tbl := (List.mem_filter.mp h).1
theorem ws_gd {w : Cond} (h : w ∈ WS) : goodWord w = true := (List.mem_filter.mp h).2
theorem q_0 : (Jvm.Cond.initialized "MatchingGraphLaw") ∈ WS := ws_tin 0 (by decide +kernel) (by decide +kernel)
theorem q_1 : (Jvm.Cond.initialized "MatchingGraph") ∈ WS := ws_tin 1 (by decide +kernel) (by decide +kernel)
theorem q_2 : (Jvm.Cond.initialized "MatchingGraph$Graph") ∈ WS := ws_tin 2 (by decide +kernel) (by decide +kernel)
theorem q_3 : (Jvm.Cond.initialized "MatchingGraph$Matching") ∈ WS := ws_tin 3 (by decide +kernel) (by decide +kernel)
theorem q_4 : (Jvm.Cond.initialized "java/util/Arrays") ∈ WS := ws_tin 4 (by decide +kernel) (by decide +kernel)
theorem q_5 : (Jvm.Cond.initialized "MatchingGraph$Input") ∈ WS := ws_tin 5 (by decide +kernel) (by decide +kernel)
theorem q_6 : (Jvm.Cond.initialized "MatchingGraph$History") ∈ WS := ws_tin 6 (by decide +kernel) (by decide +kernel)
theorem q_7 : (Jvm.Cond.initialized "MatchingGraph$Paths") ∈ WS := ws_tin 7 (by decide +kernel) (by decide +kernel)
theorem q_8 : (Jvm.Cond.initialized "MatchingGraph$Maxima") ∈ WS := ws_tin 8 (by decide +kernel) (by decide +kernel)
theorem q_9 : (Jvm.Cond.initialized "MatchingGraphModel") ∈ WS := ws_tin 9 (by decide +kernel) (by decide +kernel)
theorem q_10 : (Jvm.Cond.initialized "java/lang/Throwable") ∈ WS := ws_tin 10 (by decide +kernel) (by decide +kernel)
theorem q_11 : (Jvm.Cond.initialized "java/lang/Exception") ∈ WS := ws_tin 11 (by decide +kernel) (by decide +kernel)
theorem q_12 : (Jvm.Cond.initialized "java/lang/RuntimeException") ∈ WS := ws_tin 12 (by decide +kernel) (by decide +kernel)
theorem q_13 : (Jvm.Cond.initialized "java/lang/IllegalArgumentException") ∈ WS := ws_tin 13 (by decide +kernel) (by decide +kernel)
theorem q_14 : (Jvm.Cond.initialized "java/lang/IndexOutOfBoundsException") ∈ WS := ws_tin 14 (by decide +kernel) (by decide +kernel)
theorem q_15 : (Jvm.Cond.initialized "java/lang/System") ∈ WS := ws_tin 15 (by decide +kernel) (by decide +kernel)
theorem q_16 : (Jvm.Cond.initialized "java/lang/Math") ∈ WS := ws_tin 16 (by decide +kernel) (by decide +kernel)
theorem q_17 : (Jvm.Cond.initialized "java/lang/IllegalStateException") ∈ WS := ws_tin 17 (by decide +kernel) (by decide +kernel)
theorem q_18 : (Jvm.Cond.initialized "java/lang/Integer") ∈ WS := ws_tin 18 (by decide +kernel) (by decide +kernel)
theorem q_19 : (Jvm.Cond.classLink "MatchingGraphLaw" (8 : Nat) "MatchingGraph") ∈ WS := ws_tin 19 (by decide +kernel) (by decide +kernel)
theorem q_20 : (Jvm.Cond.instantiable "MatchingGraph" (7 : Nat)) ∈ WS := ws_tin 20 (by decide +kernel) (by decide +kernel)
theorem q_21 : (Jvm.Cond.methodLink "MatchingGraphLaw" (75 : Nat) ({ cls := "MatchingGraph", name := "<init>", desc := "()V" } : Jvm.MethodName)) ∈ WS := ws_tin 21 (by decide +kernel) (by decide +kernel)
theorem q_22 : (Jvm.Cond.instanceMethod ({ cls := "MatchingGraph", name := "<init>", desc := "()V" } : Jvm.MethodName)) ∈ WS := ws_tin 22 (by decide +kernel) (by decide +kernel)
theorem q_23 : (Jvm.Cond.code ({ cls := "MatchingGraph", name := "<init>", desc := "()V" } : Jvm.MethodName) prog_1_method_1_code (1 : Nat) (Option.none : Option Jvm.ClassFile.FieldType)) ∈ WS := ws_tin 23 (by decide +kernel) (by decide +kernel)
theorem q_24 : (Jvm.Cond.methodLink "MatchingGraph" (3 : Nat) ({ cls := "java/lang/Object", name := "<init>", desc := "()V" } : Jvm.MethodName)) ∈ WS := ws_tin 24 (by decide +kernel) (by decide +kernel)
theorem q_25 : (Jvm.Cond.instanceMethod ({ cls := "java/lang/Object", name := "<init>", desc := "()V" } : Jvm.MethodName)) ∈ WS := ws_tin 25 (by decide +kernel) (by decide +kernel)
theorem q_26 : (Jvm.Cond.code ({ cls := "java/lang/Object", name := "<init>", desc := "()V" } : Jvm.MethodName) object_method_1_code (1 : Nat) (Option.none : Option Jvm.ClassFile.FieldType)) ∈ WS := ws_tin 26 (by decide +kernel) (by decide +kernel)
theorem q_27 : (Jvm.Cond.classLink "MatchingGraph" (9 : Nat) "MatchingGraph$Graph") ∈ WS := ws_tin 27 (by decide +kernel) (by decide +kernel)
theorem q_28 : (Jvm.Cond.instantiable "MatchingGraph$Graph" (3 : Nat)) ∈ WS := ws_tin 28 (by decide +kernel) (by decide +kernel)
theorem q_30 : (Jvm.Cond.instanceMethod ({ cls := "MatchingGraph$Graph", name := "<init>", desc := "()V" } : Jvm.MethodName)) ∈ WS := ws_tin 30 (by decide +kernel) (by decide +kernel)
theorem q_31 : (Jvm.Cond.code ({ cls := "MatchingGraph$Graph", name := "<init>", desc := "()V" } : Jvm.MethodName) prog_2_method_1_code (1 : Nat) (Option.none : Option Jvm.ClassFile.FieldType)) ∈ WS := ws_tin 31 (by decide +kernel) (by decide +kernel)
theorem q_32 : (Jvm.Cond.methodLink "MatchingGraph$Graph" (3 : Nat) ({ cls := "java/lang/Object", name := "<init>", desc := "()V" } : Jvm.MethodName)) ∈ WS := ws_tin 32 (by decide +kernel) (by decide +kernel)
theorem q_33 : (Jvm.Cond.fieldLink "MatchingGraph$Graph" (9 : Nat) "MatchingGraph$Graph" "nodes" "I") ∈ WS := ws_tin 33 (by decide +kernel) (by decide +kernel)
theorem q_37 : (Jvm.Cond.fieldLink "MatchingGraph$Graph" (15 : Nat) "MatchingGraph$Graph" "near" "[I") ∈ WS := ws_tin 37 (by decide +kernel) (by decide +kernel)
theorem q_41 : (Jvm.Cond.fieldLink "MatchingGraph$Graph" (19 : Nat) "MatchingGraph$Graph" "changes" "I") ∈ WS := ws_tin 41 (by decide +kernel) (by decide +kernel)
theorem q_43 : (Jvm.Cond.lays "MatchingGraph$Graph" "MatchingGraph$Graph" "nodes" "I") ∈ WS := ws_tin 43 (by decide +kernel) (by decide +kernel)
theorem q_45 : (Jvm.Cond.laysFinal "MatchingGraph$Graph" "MatchingGraph$Graph" "near" "[I") ∈ WS := ws_tin 45 (by decide +kernel) (by decide +kernel)
theorem q_47 : (Jvm.Cond.lays "MatchingGraph$Graph" "MatchingGraph$Graph" "changes" "I") ∈ WS := ws_tin 47 (by decide +kernel) (by decide +kernel)
theorem q_50 : (Jvm.Cond.arrayClass Jvm.ClassFile.FieldType.int) ∈ WS := ws_tin 50 (by decide +kernel) (by decide +kernel)
theorem q_51 : (Jvm.Cond.classLink "MatchingGraph" (16 : Nat) "MatchingGraph$Matching") ∈ WS := ws_tin 51 (by decide +kernel) (by decide +kernel)
theorem q_52 : (Jvm.Cond.instantiable "MatchingGraph$Matching" (1 : Nat)) ∈ WS := ws_tin 52 (by decide +kernel) (by decide +kernel)
theorem q_53 : (Jvm.Cond.methodLink "MatchingGraph" (18 : Nat) ({ cls := "MatchingGraph$Matching", name := "<init>", desc := "()V" } : Jvm.MethodName)) ∈ WS := ws_tin 53 (by decide +kernel) (by decide +kernel)
theorem q_54 : (Jvm.Cond.instanceMethod ({ cls := "MatchingGraph$Matching", name := "<init>", desc := "()V" } : Jvm.MethodName)) ∈ WS := ws_tin 54 (by decide +kernel) (by decide +kernel)
theorem q_55 : (Jvm.Cond.code ({ cls := "MatchingGraph$Matching", name := "<init>", desc := "()V" } : Jvm.MethodName) prog_5_method_1_code (1 : Nat) (Option.none : Option Jvm.ClassFile.FieldType)) ∈ WS := ws_tin 55 (by decide +kernel) (by decide +kernel)
theorem q_56 : (Jvm.Cond.methodLink "MatchingGraph$Matching" (3 : Nat) ({ cls := "java/lang/Object", name := "<init>", desc := "()V" } : Jvm.MethodName)) ∈ WS := ws_tin 56 (by decide +kernel) (by decide +kernel)
theorem q_57 : (Jvm.Cond.methodLink "MatchingGraph$Matching" (15 : Nat) ({ cls := "java/util/Arrays", name := "fill", desc := "([II)V" } : Jvm.MethodName)) ∈ WS := ws_tin 57 (by decide +kernel) (by decide +kernel)
theorem q_58 : (Jvm.Cond.static ({ cls := "java/util/Arrays", name := "fill", desc := "([II)V" } : Jvm.MethodName)) ∈ WS := ws_tin 58 (by decide +kernel) (by decide +kernel)
theorem q_59 : (Jvm.Cond.code ({ cls := "java/util/Arrays", name := "fill", desc := "([II)V" } : Jvm.MethodName) prog_20_method_103_code (4 : Nat) (Option.none : Option Jvm.ClassFile.FieldType)) ∈ WS := ws_tin 59 (by decide +kernel) (by decide +kernel)
theorem q_60 : (Jvm.Cond.fieldLink "MatchingGraph$Matching" (9 : Nat) "MatchingGraph$Matching" "mate" "[I") ∈ WS := ws_tin 60 (by decide +kernel) (by decide +kernel)
theorem q_64 : (Jvm.Cond.laysFinal "MatchingGraph$Matching" "MatchingGraph$Matching" "mate" "[I") ∈ WS := ws_tin 64 (by decide +kernel) (by decide +kernel)
theorem q_67 : (Jvm.Cond.classLink "MatchingGraph" (23 : Nat) "MatchingGraph$Input") ∈ WS := ws_tin 67 (by decide +kernel) (by decide +kernel)
theorem q_68 : (Jvm.Cond.instantiable "MatchingGraph$Input" (2 : Nat)) ∈ WS := ws_tin 68 (by decide +kernel) (by decide +kernel)
theorem q_70 : (Jvm.Cond.instanceMethod ({ cls := "MatchingGraph$Input", name := "<init>", desc := "()V" } : Jvm.MethodName)) ∈ WS := ws_tin 70 (by decide +kernel) (by decide +kernel)
theorem q_71 : (Jvm.Cond.code ({ cls := "MatchingGraph$Input", name := "<init>", desc := "()V" } : Jvm.MethodName) prog_4_method_1_code (1 : Nat) (Option.none : Option Jvm.ClassFile.FieldType)) ∈ WS := ws_tin 71 (by decide +kernel) (by decide +kernel)
theorem q_72 : (Jvm.Cond.methodLink "MatchingGraph$Input" (3 : Nat) ({ cls := "java/lang/Object", name := "<init>", desc := "()V" } : Jvm.MethodName)) ∈ WS := ws_tin 72 (by decide +kernel) (by decide +kernel)
theorem q_73 : (Jvm.Cond.fieldLink "MatchingGraph$Input" (9 : Nat) "MatchingGraph$Input" "codes" "[I") ∈ WS := ws_tin 73 (by decide +kernel) (by decide +kernel)
theorem q_75 : (Jvm.Cond.fieldLink "MatchingGraph$Input" (15 : Nat) "MatchingGraph$Input" "length" "I") ∈ WS := ws_tin 75 (by decide +kernel) (by decide +kernel)
theorem q_77 : (Jvm.Cond.laysFinal "MatchingGraph$Input" "MatchingGraph$Input" "codes" "[I") ∈ WS := ws_tin 77 (by decide +kernel) (by decide +kernel)
theorem q_79 : (Jvm.Cond.lays "MatchingGraph$Input" "MatchingGraph$Input" "length" "I") ∈ WS := ws_tin 79 (by decide +kernel) (by decide +kernel)
theorem q_82 : (Jvm.Cond.classLink "MatchingGraph" (30 : Nat) "MatchingGraph$History") ∈ WS := ws_tin 82 (by decide +kernel) (by decide +kernel)
theorem q_83 : (Jvm.Cond.instantiable "MatchingGraph$History" (4 : Nat)) ∈ WS := ws_tin 83 (by decide +kernel) (by decide +kernel)
theorem q_85 : (Jvm.Cond.instanceMethod ({ cls := "MatchingGraph$History", name := "<init>", desc := "()V" } : Jvm.MethodName)) ∈ WS := ws_tin 85 (by decide +kernel) (by decide +kernel)
theorem q_86 : (Jvm.Cond.code ({ cls := "MatchingGraph$History", name := "<init>", desc := "()V" } : Jvm.MethodName) prog_3_method_1_code (1 : Nat) (Option.none : Option Jvm.ClassFile.FieldType)) ∈ WS := ws_tin 86 (by decide +kernel) (by decide +kernel)
theorem q_87 : (Jvm.Cond.methodLink "MatchingGraph$History" (3 : Nat) ({ cls := "java/lang/Object", name := "<init>", desc := "()V" } : Jvm.MethodName)) ∈ WS := ws_tin 87 (by decide +kernel) (by decide +kernel)
theorem q_88 : (Jvm.Cond.classLink "MatchingGraph$History" (9 : Nat) "[[I") ∈ WS := ws_tin 88 (by decide +kernel) (by decide +kernel)
theorem q_90 : (Jvm.Cond.fieldLink "MatchingGraph$History" (11 : Nat) "MatchingGraph$History" "nears" "[[I") ∈ WS := ws_tin 90 (by decide +kernel) (by decide +kernel)
theorem q_91 : (Jvm.Cond.fieldLink "MatchingGraph$History" (16 : Nat) "MatchingGraph$History" "mates" "[[I") ∈ WS := ws_tin 91 (by decide +kernel) (by decide +kernel)
theorem q_92 : (Jvm.Cond.fieldLink "MatchingGraph$History" (19 : Nat) "MatchingGraph$History" "latest" "I") ∈ WS := ws_tin 92 (by decide +kernel) (by decide +kernel)
theorem q_93 : (Jvm.Cond.fieldLink "MatchingGraph$History" (23 : Nat) "MatchingGraph$History" "kept" "I") ∈ WS := ws_tin 93 (by decide +kernel) (by decide +kernel)
theorem q_95 : (Jvm.Cond.laysFinal "MatchingGraph$History" "MatchingGraph$History" "nears" "[[I") ∈ WS := ws_tin 95 (by decide +kernel) (by decide +kernel)
theorem q_97 : (Jvm.Cond.laysFinal "MatchingGraph$History" "MatchingGraph$History" "mates" "[[I") ∈ WS := ws_tin 97 (by decide +kernel) (by decide +kernel)
theorem q_99 : (Jvm.Cond.lays "MatchingGraph$History" "MatchingGraph$History" "latest" "I") ∈ WS := ws_tin 99 (by decide +kernel) (by decide +kernel)
theorem q_101 : (Jvm.Cond.lays "MatchingGraph$History" "MatchingGraph$History" "kept" "I") ∈ WS := ws_tin 101 (by decide +kernel) (by decide +kernel)
theorem q_104 : (Jvm.Cond.classLink "MatchingGraph" (37 : Nat) "MatchingGraph$Paths") ∈ WS := ws_tin 104 (by decide +kernel) (by decide +kernel)
theorem q_105 : (Jvm.Cond.instantiable "MatchingGraph$Paths" (7 : Nat)) ∈ WS := ws_tin 105 (by decide +kernel) (by decide +kernel)
theorem q_106 : (Jvm.Cond.methodLink "MatchingGraph" (39 : Nat) ({ cls := "MatchingGraph$Paths", name := "<init>", desc := "(LMatchingGraph$Graph;LMatchingGraph$Matching;)V" } : Jvm.MethodName)) ∈ WS := ws_tin 106 (by decide +kernel) (by decide +kernel)
theorem q_107 : (Jvm.Cond.instanceMethod ({ cls := "MatchingGraph$Paths", name := "<init>", desc := "(LMatchingGraph$Graph;LMatchingGraph$Matching;)V" } : Jvm.MethodName)) ∈ WS := ws_tin 107 (by decide +kernel) (by decide +kernel)
theorem q_108 : (Jvm.Cond.code ({ cls := "MatchingGraph$Paths", name := "<init>", desc := "(LMatchingGraph$Graph;LMatchingGraph$Matching;)V" } : Jvm.MethodName) prog_7_method_1_code (3 : Nat) (Option.none : Option Jvm.ClassFile.FieldType)) ∈ WS := ws_tin 108 (by decide +kernel) (by decide +kernel)
theorem q_109 : (Jvm.Cond.methodLink "MatchingGraph$Paths" (3 : Nat) ({ cls := "java/lang/Object", name := "<init>", desc := "()V" } : Jvm.MethodName)) ∈ WS := ws_tin 109 (by decide +kernel) (by decide +kernel)
theorem q_110 : (Jvm.Cond.fieldLink "MatchingGraph$Paths" (28 : Nat) "MatchingGraph$Paths" "graph" "LMatchingGraph$Graph;") ∈ WS := ws_tin 110 (by decide +kernel) (by decide +kernel)
theorem q_111 : (Jvm.Cond.fieldLink "MatchingGraph$Paths" (32 : Nat) "MatchingGraph$Paths" "matching" "LMatchingGraph$Matching;") ∈ WS := ws_tin 111 (by decide +kernel) (by decide +kernel)
theorem q_112 : (Jvm.Cond.fieldLink "MatchingGraph$Paths" (9 : Nat) "MatchingGraph$Paths" "pairBit" "[I") ∈ WS := ws_tin 112 (by decide +kernel) (by decide +kernel)
theorem q_113 : (Jvm.Cond.fieldLink "MatchingGraph$Paths" (15 : Nat) "MatchingGraph$Paths" "followed" "[I") ∈ WS := ws_tin 113 (by decide +kernel) (by decide +kernel)
theorem q_114 : (Jvm.Cond.fieldLink "MatchingGraph$Paths" (18 : Nat) "MatchingGraph$Paths" "wayNodes" "[I") ∈ WS := ws_tin 114 (by decide +kernel) (by decide +kernel)
theorem q_116 : (Jvm.Cond.fieldLink "MatchingGraph$Paths" (21 : Nat) "MatchingGraph$Paths" "evenEnds" "I") ∈ WS := ws_tin 116 (by decide +kernel) (by decide +kernel)
theorem q_118 : (Jvm.Cond.fieldLink "MatchingGraph$Paths" (25 : Nat) "MatchingGraph$Paths" "oddEnds" "I") ∈ WS := ws_tin 118 (by decide +kernel) (by decide +kernel)
theorem q_120 : (Jvm.Cond.laysFinal "MatchingGraph$Paths" "MatchingGraph$Paths" "graph" "LMatchingGraph$Graph;") ∈ WS := ws_tin 120 (by decide +kernel) (by decide +kernel)
theorem q_122 : (Jvm.Cond.laysFinal "MatchingGraph$Paths" "MatchingGraph$Paths" "matching" "LMatchingGraph$Matching;") ∈ WS := ws_tin 122 (by decide +kernel) (by decide +kernel)
theorem q_124 : (Jvm.Cond.laysFinal "MatchingGraph$Paths" "MatchingGraph$Paths" "pairBit" "[I") ∈ WS := ws_tin 124 (by decide +kernel) (by decide +kernel)
theorem q_126 : (Jvm.Cond.laysFinal "MatchingGraph$Paths" "MatchingGraph$Paths" "followed" "[I") ∈ WS := ws_tin 126 (by decide +kernel) (by decide +kernel)
theorem q_128 : (Jvm.Cond.laysFinal "MatchingGraph$Paths" "MatchingGraph$Paths" "wayNodes" "[I") ∈ WS := ws_tin 128 (by decide +kernel) (by decide +kernel)
theorem q_130 : (Jvm.Cond.lays "MatchingGraph$Paths" "MatchingGraph$Paths" "evenEnds" "I") ∈ WS := ws_tin 130 (by decide +kernel) (by decide +kernel)
theorem q_132 : (Jvm.Cond.lays "MatchingGraph$Paths" "MatchingGraph$Paths" "oddEnds" "I") ∈ WS := ws_tin 132 (by decide +kernel) (by decide +kernel)
theorem q_135 : (Jvm.Cond.classLink "MatchingGraph" (46 : Nat) "MatchingGraph$Maxima") ∈ WS := ws_tin 135 (by decide +kernel) (by decide +kernel)
theorem q_136 : (Jvm.Cond.instantiable "MatchingGraph$Maxima" (6 : Nat)) ∈ WS := ws_tin 136 (by decide +kernel) (by decide +kernel)
theorem q_137 : (Jvm.Cond.methodLink "MatchingGraph" (48 : Nat) ({ cls := "MatchingGraph$Maxima", name := "<init>", desc := "(LMatchingGraph$Graph;)V" } : Jvm.MethodName)) ∈ WS := ws_tin 137 (by decide +kernel) (by decide +kernel)
theorem q_138 : (Jvm.Cond.instanceMethod ({ cls := "MatchingGraph$Maxima", name := "<init>", desc := "(LMatchingGraph$Graph;)V" } : Jvm.MethodName)) ∈ WS := ws_tin 138 (by decide +kernel) (by decide +kernel)
theorem q_139 : (Jvm.Cond.code ({ cls := "MatchingGraph$Maxima", name := "<init>", desc := "(LMatchingGraph$Graph;)V" } : Jvm.MethodName) prog_6_method_1_code (2 : Nat) (Option.none : Option Jvm.ClassFile.FieldType)) ∈ WS := ws_tin 139 (by decide +kernel) (by decide +kernel)
theorem q_140 : (Jvm.Cond.methodLink "MatchingGraph$Maxima" (3 : Nat) ({ cls := "java/lang/Object", name := "<init>", desc := "()V" } : Jvm.MethodName)) ∈ WS := ws_tin 140 (by decide +kernel) (by decide +kernel)
theorem q_141 : (Jvm.Cond.classLink "MatchingGraph$Maxima" (18 : Nat) "MatchingGraph$Matching") ∈ WS := ws_tin 141 (by decide +kernel) (by decide +kernel)
theorem q_142 : (Jvm.Cond.methodLink "MatchingGraph$Maxima" (20 : Nat) ({ cls := "MatchingGraph$Matching", name := "<init>", desc := "()V" } : Jvm.MethodName)) ∈ WS := ws_tin 142 (by decide +kernel) (by decide +kernel)
theorem q_143 : (Jvm.Cond.fieldLink "MatchingGraph$Maxima" (33 : Nat) "MatchingGraph$Maxima" "graph" "LMatchingGraph$Graph;") ∈ WS := ws_tin 143 (by decide +kernel) (by decide +kernel)
theorem q_144 : (Jvm.Cond.fieldLink "MatchingGraph$Maxima" (9 : Nat) "MatchingGraph$Maxima" "size" "[I") ∈ WS := ws_tin 144 (by decide +kernel) (by decide +kernel)
theorem q_145 : (Jvm.Cond.fieldLink "MatchingGraph$Maxima" (15 : Nat) "MatchingGraph$Maxima" "ways" "[I") ∈ WS := ws_tin 145 (by decide +kernel) (by decide +kernel)
theorem q_146 : (Jvm.Cond.fieldLink "MatchingGraph$Maxima" (21 : Nat) "MatchingGraph$Maxima" "first" "LMatchingGraph$Matching;") ∈ WS := ws_tin 146 (by decide +kernel) (by decide +kernel)
theorem q_147 : (Jvm.Cond.fieldLink "MatchingGraph$Maxima" (25 : Nat) "MatchingGraph$Maxima" "firstIsKnown" "Z") ∈ WS := ws_tin 147 (by decide +kernel) (by decide +kernel)
theorem q_148 : (Jvm.Cond.fieldLink "MatchingGraph$Maxima" (29 : Nat) "MatchingGraph$Maxima" "changesSeen" "I") ∈ WS := ws_tin 148 (by decide +kernel) (by decide +kernel)
theorem q_149 : (Jvm.Cond.laysFinal "MatchingGraph$Maxima" "MatchingGraph$Maxima" "graph" "LMatchingGraph$Graph;") ∈ WS := ws_tin 149 (by decide +kernel) (by decide +kernel)
theorem q_151 : (Jvm.Cond.laysFinal "MatchingGraph$Maxima" "MatchingGraph$Maxima" "size" "[I") ∈ WS := ws_tin 151 (by decide +kernel) (by decide +kernel)
theorem q_153 : (Jvm.Cond.laysFinal "MatchingGraph$Maxima" "MatchingGraph$Maxima" "ways" "[I") ∈ WS := ws_tin 153 (by decide +kernel) (by decide +kernel)
theorem q_155 : (Jvm.Cond.laysFinal "MatchingGraph$Maxima" "MatchingGraph$Maxima" "first" "LMatchingGraph$Matching;") ∈ WS := ws_tin 155 (by decide +kernel) (by decide +kernel)
theorem q_157 : (Jvm.Cond.lays "MatchingGraph$Maxima" "MatchingGraph$Maxima" "firstIsKnown" "Z") ∈ WS := ws_tin 157 (by decide +kernel) (by decide +kernel)
theorem q_159 : (Jvm.Cond.lays "MatchingGraph$Maxima" "MatchingGraph$Maxima" "changesSeen" "I") ∈ WS := ws_tin 159 (by decide +kernel) (by decide +kernel)
theorem q_162 : (Jvm.Cond.fieldLink "MatchingGraph" (12 : Nat) "MatchingGraph" "graph" "LMatchingGraph$Graph;") ∈ WS := ws_tin 162 (by decide +kernel) (by decide +kernel)
theorem q_163 : (Jvm.Cond.fieldLink "MatchingGraph" (19 : Nat) "MatchingGraph" "matching" "LMatchingGraph$Matching;") ∈ WS := ws_tin 163 (by decide +kernel) (by decide +kernel)
theorem q_164 : (Jvm.Cond.fieldLink "MatchingGraph" (26 : Nat) "MatchingGraph" "input" "LMatchingGraph$Input;") ∈ WS := ws_tin 164 (by decide +kernel) (by decide +kernel)
theorem q_165 : (Jvm.Cond.fieldLink "MatchingGraph" (33 : Nat) "MatchingGraph" "history" "LMatchingGraph$History;") ∈ WS := ws_tin 165 (by decide +kernel) (by decide +kernel)
theorem q_166 : (Jvm.Cond.fieldLink "MatchingGraph" (42 : Nat) "MatchingGraph" "paths" "LMatchingGraph$Paths;") ∈ WS := ws_tin 166 (by decide +kernel) (by decide +kernel)
theorem q_167 : (Jvm.Cond.fieldLink "MatchingGraph" (51 : Nat) "MatchingGraph" "maxima" "LMatchingGraph$Maxima;") ∈ WS := ws_tin 167 (by decide +kernel) (by decide +kernel)
theorem q_168 : (Jvm.Cond.fieldLink "MatchingGraph" (55 : Nat) "MatchingGraph" "differing" "LMatchingGraph$Graph;") ∈ WS := ws_tin 168 (by decide +kernel) (by decide +kernel)
theorem q_169 : (Jvm.Cond.laysFinal "MatchingGraph" "MatchingGraph" "graph" "LMatchingGraph$Graph;") ∈ WS := ws_tin 169 (by decide +kernel) (by decide +kernel)
theorem q_171 : (Jvm.Cond.laysFinal "MatchingGraph" "MatchingGraph" "matching" "LMatchingGraph$Matching;") ∈ WS := ws_tin 171 (by decide +kernel) (by decide +kernel)
theorem q_173 : (Jvm.Cond.laysFinal "MatchingGraph" "MatchingGraph" "input" "LMatchingGraph$Input;") ∈ WS := ws_tin 173 (by decide +kernel) (by decide +kernel)
theorem q_175 : (Jvm.Cond.laysFinal "MatchingGraph" "MatchingGraph" "history" "LMatchingGraph$History;") ∈ WS := ws_tin 175 (by decide +kernel) (by decide +kernel)
theorem q_177 : (Jvm.Cond.laysFinal "MatchingGraph" "MatchingGraph" "paths" "LMatchingGraph$Paths;") ∈ WS := ws_tin 177 (by decide +kernel) (by decide +kernel)
theorem q_179 : (Jvm.Cond.laysFinal "MatchingGraph" "MatchingGraph" "maxima" "LMatchingGraph$Maxima;") ∈ WS := ws_tin 179 (by decide +kernel) (by decide +kernel)
theorem q_181 : (Jvm.Cond.laysFinal "MatchingGraph" "MatchingGraph" "differing" "LMatchingGraph$Graph;") ∈ WS := ws_tin 181 (by decide +kernel) (by decide +kernel)
theorem q_184 : (Jvm.Cond.methodLink "MatchingGraphLaw" (95 : Nat) ({ cls := "MatchingGraph", name := "clearInput", desc := "()I" } : Jvm.MethodName)) ∈ WS := ws_tin 184 (by decide +kernel) (by decide +kernel)
theorem q_185 : (Jvm.Cond.instanceMethod ({ cls := "MatchingGraph", name := "clearInput", desc := "()I" } : Jvm.MethodName)) ∈ WS := ws_tin 185 (by decide +kernel) (by decide +kernel)
theorem q_186 : (Jvm.Cond.selects "MatchingGraph" ({ cls := "MatchingGraph", name := "clearInput", desc := "()I" } : Jvm.MethodName) ({ cls := "MatchingGraph", name := "clearInput", desc := "()I" } : Jvm.MethodName)) ∈ WS := ws_tin 186 (by decide +kernel) (by decide +kernel)
theorem q_187 : (Jvm.Cond.code ({ cls := "MatchingGraph", name := "clearInput", desc := "()I" } : Jvm.MethodName) prog_1_method_5_code (2 : Nat) (Option.some Jvm.ClassFile.FieldType.int)) ∈ WS := ws_tin 187 (by decide +kernel) (by decide +kernel)
theorem q_188 : (Jvm.Cond.methodLink "MatchingGraphLaw" (99 : Nat) ({ cls := "MatchingGraph", name := "firstError", desc := "()I" } : Jvm.MethodName)) ∈ WS := ws_tin 188 (by decide +kernel) (by decide +kernel)
theorem q_189 : (Jvm.Cond.instanceMethod ({ cls := "MatchingGraph", name := "firstError", desc := "()I" } : Jvm.MethodName)) ∈ WS := ws_tin 189 (by decide +kernel) (by decide +kernel)
theorem q_190 : (Jvm.Cond.selects "MatchingGraph" ({ cls := "MatchingGraph", name := "firstError", desc := "()I" } : Jvm.MethodName) ({ cls := "MatchingGraph", name := "firstError", desc := "()I" } : Jvm.MethodName)) ∈ WS := ws_tin 190 (by decide +kernel) (by decide +kernel)
theorem q_191 : (Jvm.Cond.code ({ cls := "MatchingGraph", name := "firstError", desc := "()I" } : Jvm.MethodName) prog_1_method_6_code (1 : Nat) (Option.some Jvm.ClassFile.FieldType.int)) ∈ WS := ws_tin 191 (by decide +kernel) (by decide +kernel)
theorem q_192 : (Jvm.Cond.methodLink "MatchingGraph" (113 : Nat) ({ cls := "MatchingGraph$Input", name := "errorPlace", desc := "(I)I" } : Jvm.MethodName)) ∈ WS := ws_tin 192 (by decide +kernel) (by decide +kernel)
theorem q_193 : (Jvm.Cond.instanceMethod ({ cls := "MatchingGraph$Input", name := "errorPlace", desc := "(I)I" } : Jvm.MethodName)) ∈ WS := ws_tin 193 (by decide +kernel) (by decide +kernel)
theorem q_194 : (Jvm.Cond.selects "MatchingGraph$Input" ({ cls := "MatchingGraph$Input", name := "errorPlace", desc := "(I)I" } : Jvm.MethodName) ({ cls := "MatchingGraph$Input", name := "errorPlace", desc := "(I)I" } : Jvm.MethodName)) ∈ WS := ws_tin 194 (by decide +kernel) (by decide +kernel)
theorem q_195 : (Jvm.Cond.code ({ cls := "MatchingGraph$Input", name := "errorPlace", desc := "(I)I" } : Jvm.MethodName) prog_4_method_3_code (4 : Nat) (Option.some Jvm.ClassFile.FieldType.int)) ∈ WS := ws_tin 195 (by decide +kernel) (by decide +kernel)
theorem q_196 : (Jvm.Cond.methodLink "MatchingGraph$Input" (19 : Nat) ({ cls := "MatchingGraph$Input", name := "stateAt", desc := "(III)I" } : Jvm.MethodName)) ∈ WS := ws_tin 196 (by decide +kernel) (by decide +kernel)
theorem q_198 : (Jvm.Cond.instanceMethod ({ cls := "MatchingGraph$Input", name := "stateAt", desc := "(III)I" } : Jvm.MethodName)) ∈ WS := ws_tin 198 (by decide +kernel) (by decide +kernel)
theorem q_199 : (Jvm.Cond.code ({ cls := "MatchingGraph$Input", name := "stateAt", desc := "(III)I" } : Jvm.MethodName) prog_4_method_5_code (6 : Nat) (Option.some Jvm.ClassFile.FieldType.int)) ∈ WS := ws_tin 199 (by decide +kernel) (by decide +kernel)
theorem q_200 : (Jvm.Cond.methodLink "MatchingGraph$Input" (23 : Nat) ({ cls := "MatchingGraph$Input", name := "nodeAt", desc := "(I)I" } : Jvm.MethodName)) ∈ WS := ws_tin 200 (by decide +kernel) (by decide +kernel)
theorem q_201 : (Jvm.Cond.instanceMethod ({ cls := "MatchingGraph$Input", name := "nodeAt", desc := "(I)I" } : Jvm.MethodName)) ∈ WS := ws_tin 201 (by decide +kernel) (by decide +kernel)
theorem q_202 : (Jvm.Cond.selects "MatchingGraph$Input" ({ cls := "MatchingGraph$Input", name := "nodeAt", desc := "(I)I" } : Jvm.MethodName) ({ cls := "MatchingGraph$Input", name := "nodeAt", desc := "(I)I" } : Jvm.MethodName)) ∈ WS := ws_tin 202 (by decide +kernel) (by decide +kernel)
theorem q_203 : (Jvm.Cond.code ({ cls := "MatchingGraph$Input", name := "nodeAt", desc := "(I)I" } : Jvm.MethodName) prog_4_method_6_code (2 : Nat) (Option.some Jvm.ClassFile.FieldType.int)) ∈ WS := ws_tin 203 (by decide +kernel) (by decide +kernel)
theorem q_204 : (Jvm.Cond.methodLink "MatchingGraphLaw" (117 : Nat) ({ cls := "MatchingGraph", name := "maximize", desc := "()I" } : Jvm.MethodName)) ∈ WS := ws_tin 204 (by decide +kernel) (by decide +kernel)
theorem q_205 : (Jvm.Cond.instanceMethod ({ cls := "MatchingGraph", name := "maximize", desc := "()I" } : Jvm.MethodName)) ∈ WS := ws_tin 205 (by decide +kernel) (by decide +kernel)
theorem q_206 : (Jvm.Cond.selects "MatchingGraph" ({ cls := "MatchingGraph", name := "maximize", desc := "()I" } : Jvm.MethodName) ({ cls := "MatchingGraph", name := "maximize", desc := "()I" } : Jvm.MethodName)) ∈ WS := ws_tin 206 (by decide +kernel) (by decide +kernel)
theorem q_207 : (Jvm.Cond.code ({ cls := "MatchingGraph", name := "maximize", desc := "()I" } : Jvm.MethodName) prog_1_method_12_code (2 : Nat) (Option.some Jvm.ClassFile.FieldType.int)) ∈ WS := ws_tin 207 (by decide +kernel) (by decide +kernel)
theorem q_208 : (Jvm.Cond.methodLink "MatchingGraph" (83 : Nat) ({ cls := "MatchingGraph$History", name := "save", desc := "(LMatchingGraph$Graph;LMatchingGraph$Matching;)V" } : Jvm.MethodName)) ∈ WS := ws_tin 208 (by decide +kernel) (by decide +kernel)
theorem q_209 : (Jvm.Cond.instanceMethod ({ cls := "MatchingGraph$History", name := "save", desc := "(LMatchingGraph$Graph;LMatchingGraph$Matching;)V" } : Jvm.MethodName)) ∈ WS := ws_tin 209 (by decide +kernel) (by decide +kernel)
theorem q_210 : (Jvm.Cond.selects "MatchingGraph$History" ({ cls := "MatchingGraph$History", name := "save", desc := "(LMatchingGraph$Graph;LMatchingGraph$Matching;)V" } : Jvm.MethodName) ({ cls := "MatchingGraph$History", name := "save", desc := "(LMatchingGraph$Graph;LMatchingGraph$Matching;)V" } : Jvm.MethodName)) ∈ WS := ws_tin 210 (by decide +kernel) (by decide +kernel)
theorem q_211 : (Jvm.Cond.code ({ cls := "MatchingGraph$History", name := "save", desc := "(LMatchingGraph$Graph;LMatchingGraph$Matching;)V" } : Jvm.MethodName) prog_3_method_3_code (3 : Nat) (Option.none : Option Jvm.ClassFile.FieldType)) ∈ WS := ws_tin 211 (by decide +kernel) (by decide +kernel)
theorem q_212 : (Jvm.Cond.methodLink "MatchingGraph$History" (32 : Nat) ({ cls := "java/lang/System", name := "arraycopy", desc := "(Ljava/lang/Object;ILjava/lang/Object;II)V" } : Jvm.MethodName)) ∈ WS := ws_tin 212 (by decide +kernel) (by decide +kernel)
theorem q_213 : (Jvm.Cond.static ({ cls := "java/lang/System", name := "arraycopy", desc := "(Ljava/lang/Object;ILjava/lang/Object;II)V" } : Jvm.MethodName)) ∈ WS := ws_tin 213 (by decide +kernel) (by decide +kernel)
theorem q_214 : (Jvm.Cond.native ({ cls := "java/lang/System", name := "arraycopy", desc := "(Ljava/lang/Object;ILjava/lang/Object;II)V" } : Jvm.MethodName)) ∈ WS := ws_tin 214 (by decide +kernel) (by decide +kernel)
theorem q_215 : (Jvm.Cond.methodLink "MatchingGraph$History" (43 : Nat) ({ cls := "java/lang/Math", name := "min", desc := "(II)I" } : Jvm.MethodName)) ∈ WS := ws_tin 215 (by decide +kernel) (by decide +kernel)
theorem q_216 : (Jvm.Cond.static ({ cls := "java/lang/Math", name := "min", desc := "(II)I" } : Jvm.MethodName)) ∈ WS := ws_tin 216 (by decide +kernel) (by decide +kernel)
theorem q_217 : (Jvm.Cond.code ({ cls := "java/lang/Math", name := "min", desc := "(II)I" } : Jvm.MethodName) prog_15_method_69_code (2 : Nat) (Option.some Jvm.ClassFile.FieldType.int)) ∈ WS := ws_tin 217 (by decide +kernel) (by decide +kernel)
theorem q_218 : (Jvm.Cond.methodLink "MatchingGraph" (157 : Nat) ({ cls := "MatchingGraph", name := "augmentLowest", desc := "()Z" } : Jvm.MethodName)) ∈ WS := ws_tin 218 (by decide +kernel) (by decide +kernel)
theorem q_220 : (Jvm.Cond.instanceMethod ({ cls := "MatchingGraph", name := "augmentLowest", desc := "()Z" } : Jvm.MethodName)) ∈ WS := ws_tin 220 (by decide +kernel) (by decide +kernel)
theorem q_221 : (Jvm.Cond.code ({ cls := "MatchingGraph", name := "augmentLowest", desc := "()Z" } : Jvm.MethodName) prog_1_method_13_code (2 : Nat) (Option.some Jvm.ClassFile.FieldType.boolean)) ∈ WS := ws_tin 221 (by decide +kernel) (by decide +kernel)
theorem q_222 : (Jvm.Cond.methodLink "MatchingGraph" (133 : Nat) ({ cls := "MatchingGraph$Matching", name := "isExposed", desc := "(I)Z" } : Jvm.MethodName)) ∈ WS := ws_tin 222 (by decide +kernel) (by decide +kernel)
theorem q_223 : (Jvm.Cond.instanceMethod ({ cls := "MatchingGraph$Matching", name := "isExposed", desc := "(I)Z" } : Jvm.MethodName)) ∈ WS := ws_tin 223 (by decide +kernel) (by decide +kernel)
theorem q_224 : (Jvm.Cond.selects "MatchingGraph$Matching" ({ cls := "MatchingGraph$Matching", name := "isExposed", desc := "(I)Z" } : Jvm.MethodName) ({ cls := "MatchingGraph$Matching", name := "isExposed", desc := "(I)Z" } : Jvm.MethodName)) ∈ WS := ws_tin 224 (by decide +kernel) (by decide +kernel)
theorem q_225 : (Jvm.Cond.code ({ cls := "MatchingGraph$Matching", name := "isExposed", desc := "(I)Z" } : Jvm.MethodName) prog_5_method_4_code (2 : Nat) (Option.some Jvm.ClassFile.FieldType.boolean)) ∈ WS := ws_tin 225 (by decide +kernel) (by decide +kernel)
theorem q_226 : (Jvm.Cond.methodLink "MatchingGraph" (154 : Nat) ({ cls := "MatchingGraph", name := "augmentFrom", desc := "(I)I" } : Jvm.MethodName)) ∈ WS := ws_tin 226 (by decide +kernel) (by decide +kernel)
theorem q_228 : (Jvm.Cond.instanceMethod ({ cls := "MatchingGraph", name := "augmentFrom", desc := "(I)I" } : Jvm.MethodName)) ∈ WS := ws_tin 228 (by decide +kernel) (by decide +kernel)
theorem q_229 : (Jvm.Cond.code ({ cls := "MatchingGraph", name := "augmentFrom", desc := "(I)I" } : Jvm.MethodName) prog_1_method_14_code (3 : Nat) (Option.some Jvm.ClassFile.FieldType.int)) ∈ WS := ws_tin 229 (by decide +kernel) (by decide +kernel)
theorem q_230 : (Jvm.Cond.methodLink "MatchingGraph" (161 : Nat) ({ cls := "MatchingGraph$Paths", name := "findWay", desc := "(I)I" } : Jvm.MethodName)) ∈ WS := ws_tin 230 (by decide +kernel) (by decide +kernel)
theorem q_231 : (Jvm.Cond.instanceMethod ({ cls := "MatchingGraph$Paths", name := "findWay", desc := "(I)I" } : Jvm.MethodName)) ∈ WS := ws_tin 231 (by decide +kernel) (by decide +kernel)
theorem q_232 : (Jvm.Cond.selects "MatchingGraph$Paths" ({ cls := "MatchingGraph$Paths", name := "findWay", desc := "(I)I" } : Jvm.MethodName) ({ cls := "MatchingGraph$Paths", name := "findWay", desc := "(I)I" } : Jvm.MethodName)) ∈ WS := ws_tin 232 (by decide +kernel) (by decide +kernel)
theorem q_233 : (Jvm.Cond.code ({ cls := "MatchingGraph$Paths", name := "findWay", desc := "(I)I" } : Jvm.MethodName) prog_7_method_5_code (4 : Nat) (Option.some Jvm.ClassFile.FieldType.int)) ∈ WS := ws_tin 233 (by decide +kernel) (by decide +kernel)
theorem q_234 : (Jvm.Cond.methodLink "MatchingGraph$Paths" (46 : Nat) ({ cls := "MatchingGraph$Paths", name := "numberPairs", desc := "()V" } : Jvm.MethodName)) ∈ WS := ws_tin 234 (by decide +kernel) (by decide +kernel)
theorem q_236 : (Jvm.Cond.instanceMethod ({ cls := "MatchingGraph$Paths", name := "numberPairs", desc := "()V" } : Jvm.MethodName)) ∈ WS := ws_tin 236 (by decide +kernel) (by decide +kernel)
theorem q_237 : (Jvm.Cond.code ({ cls := "MatchingGraph$Paths", name := "numberPairs", desc := "()V" } : Jvm.MethodName) prog_7_method_2_code (4 : Nat) (Option.none : Option Jvm.ClassFile.FieldType)) ∈ WS := ws_tin 237 (by decide +kernel) (by decide +kernel)
theorem q_238 : (Jvm.Cond.methodLink "MatchingGraph$Paths" (63 : Nat) ({ cls := "MatchingGraph$Matching", name := "size", desc := "()I" } : Jvm.MethodName)) ∈ WS := ws_tin 238 (by decide +kernel) (by decide +kernel)
theorem q_239 : (Jvm.Cond.instanceMethod ({ cls := "MatchingGraph$Matching", name := "size", desc := "()I" } : Jvm.MethodName)) ∈ WS := ws_tin 239 (by decide +kernel) (by decide +kernel)
theorem q_240 : (Jvm.Cond.selects "MatchingGraph$Matching" ({ cls := "MatchingGraph$Matching", name := "size", desc := "()I" } : Jvm.MethodName) ({ cls := "MatchingGraph$Matching", name := "size", desc := "()I" } : Jvm.MethodName)) ∈ WS := ws_tin 240 (by decide +kernel) (by decide +kernel)
theorem q_241 : (Jvm.Cond.code ({ cls := "MatchingGraph$Matching", name := "size", desc := "()I" } : Jvm.MethodName) prog_5_method_8_code (3 : Nat) (Option.some Jvm.ClassFile.FieldType.int)) ∈ WS := ws_tin 241 (by decide +kernel) (by decide +kernel)
theorem q_242 : (Jvm.Cond.methodLink "MatchingGraph$Paths" (49 : Nat) ({ cls := "java/util/Arrays", name := "fill", desc := "([II)V" } : Jvm.MethodName)) ∈ WS := ws_tin 242 (by decide +kernel) (by decide +kernel)
theorem q_243 : (Jvm.Cond.methodLink "MatchingGraph$Paths" (67 : Nat) ({ cls := "MatchingGraph$Paths", name := "followWay", desc := "(III)Z" } : Jvm.MethodName)) ∈ WS := ws_tin 243 (by decide +kernel) (by decide +kernel)
theorem q_245 : (Jvm.Cond.instanceMethod ({ cls := "MatchingGraph$Paths", name := "followWay", desc := "(III)Z" } : Jvm.MethodName)) ∈ WS := ws_tin 245 (by decide +kernel) (by decide +kernel)
theorem q_246 : (Jvm.Cond.code ({ cls := "MatchingGraph$Paths", name := "followWay", desc := "(III)Z" } : Jvm.MethodName) prog_7_method_6_code (6 : Nat) (Option.some Jvm.ClassFile.FieldType.boolean)) ∈ WS := ws_tin 246 (by decide +kernel) (by decide +kernel)
theorem q_247 : (Jvm.Cond.methodLink "MatchingGraph$Paths" (59 : Nat) ({ cls := "MatchingGraph$Graph", name := "joined", desc := "(II)Z" } : Jvm.MethodName)) ∈ WS := ws_tin 247 (by decide +kernel) (by decide +kernel)
theorem q_248 : (Jvm.Cond.instanceMethod ({ cls := "MatchingGraph$Graph", name := "joined", desc := "(II)Z" } : Jvm.MethodName)) ∈ WS := ws_tin 248 (by decide +kernel) (by decide +kernel)
theorem q_249 : (Jvm.Cond.selects "MatchingGraph$Graph" ({ cls := "MatchingGraph$Graph", name := "joined", desc := "(II)Z" } : Jvm.MethodName) ({ cls := "MatchingGraph$Graph", name := "joined", desc := "(II)Z" } : Jvm.MethodName)) ∈ WS := ws_tin 249 (by decide +kernel) (by decide +kernel)
theorem q_250 : (Jvm.Cond.code ({ cls := "MatchingGraph$Graph", name := "joined", desc := "(II)Z" } : Jvm.MethodName) prog_2_method_5_code (3 : Nat) (Option.some Jvm.ClassFile.FieldType.boolean)) ∈ WS := ws_tin 250 (by decide +kernel) (by decide +kernel)
theorem q_251 : (Jvm.Cond.methodLink "MatchingGraph$Paths" (71 : Nat) ({ cls := "MatchingGraph$Paths", name := "followWayTo", desc := "(IIII)Z" } : Jvm.MethodName)) ∈ WS := ws_tin 251 (by decide +kernel) (by decide +kernel)
theorem q_253 : (Jvm.Cond.instanceMethod ({ cls := "MatchingGraph$Paths", name := "followWayTo", desc := "(IIII)Z" } : Jvm.MethodName)) ∈ WS := ws_tin 253 (by decide +kernel) (by decide +kernel)
theorem q_254 : (Jvm.Cond.code ({ cls := "MatchingGraph$Paths", name := "followWayTo", desc := "(IIII)Z" } : Jvm.MethodName) prog_7_method_7_code (6 : Nat) (Option.some Jvm.ClassFile.FieldType.boolean)) ∈ WS := ws_tin 254 (by decide +kernel) (by decide +kernel)
theorem q_255 : (Jvm.Cond.methodLink "MatchingGraph" (167 : Nat) ({ cls := "MatchingGraph$Matching", name := "swapAlong", desc := "([II)V" } : Jvm.MethodName)) ∈ WS := ws_tin 255 (by decide +kernel) (by decide +kernel)
theorem q_256 : (Jvm.Cond.instanceMethod ({ cls := "MatchingGraph$Matching", name := "swapAlong", desc := "([II)V" } : Jvm.MethodName)) ∈ WS := ws_tin 256 (by decide +kernel) (by decide +kernel)
theorem q_257 : (Jvm.Cond.selects "MatchingGraph$Matching" ({ cls := "MatchingGraph$Matching", name := "swapAlong", desc := "([II)V" } : Jvm.MethodName) ({ cls := "MatchingGraph$Matching", name := "swapAlong", desc := "([II)V" } : Jvm.MethodName)) ∈ WS := ws_tin 257 (by decide +kernel) (by decide +kernel)
theorem q_258 : (Jvm.Cond.code ({ cls := "MatchingGraph$Matching", name := "swapAlong", desc := "([II)V" } : Jvm.MethodName) prog_5_method_9_code (4 : Nat) (Option.none : Option Jvm.ClassFile.FieldType)) ∈ WS := ws_tin 258 (by decide +kernel) (by decide +kernel)
theorem q_259 : (Jvm.Cond.methodLink "MatchingGraph$Matching" (27 : Nat) ({ cls := "MatchingGraph$Matching", name := "join", desc := "(II)V" } : Jvm.MethodName)) ∈ WS := ws_tin 259 (by decide +kernel) (by decide +kernel)
theorem q_260 : (Jvm.Cond.instanceMethod ({ cls := "MatchingGraph$Matching", name := "join", desc := "(II)V" } : Jvm.MethodName)) ∈ WS := ws_tin 260 (by decide +kernel) (by decide +kernel)
theorem q_261 : (Jvm.Cond.selects "MatchingGraph$Matching" ({ cls := "MatchingGraph$Matching", name := "join", desc := "(II)V" } : Jvm.MethodName) ({ cls := "MatchingGraph$Matching", name := "join", desc := "(II)V" } : Jvm.MethodName)) ∈ WS := ws_tin 261 (by decide +kernel) (by decide +kernel)
theorem q_262 : (Jvm.Cond.code ({ cls := "MatchingGraph$Matching", name := "join", desc := "(II)V" } : Jvm.MethodName) prog_5_method_6_code (3 : Nat) (Option.none : Option Jvm.ClassFile.FieldType)) ∈ WS := ws_tin 262 (by decide +kernel) (by decide +kernel)
theorem q_263 : (Jvm.Cond.methodLink "MatchingGraphLaw" (121 : Nat) ({ cls := "MatchingGraph", name := "takeFirst", desc := "()I" } : Jvm.MethodName)) ∈ WS := ws_tin 263 (by decide +kernel) (by decide +kernel)
theorem q_264 : (Jvm.Cond.instanceMethod ({ cls := "MatchingGraph", name := "takeFirst", desc := "()I" } : Jvm.MethodName)) ∈ WS := ws_tin 264 (by decide +kernel) (by decide +kernel)
theorem q_265 : (Jvm.Cond.selects "MatchingGraph" ({ cls := "MatchingGraph", name := "takeFirst", desc := "()I" } : Jvm.MethodName) ({ cls := "MatchingGraph", name := "takeFirst", desc := "()I" } : Jvm.MethodName)) ∈ WS := ws_tin 265 (by decide +kernel) (by decide +kernel)
theorem q_266 : (Jvm.Cond.code ({ cls := "MatchingGraph", name := "takeFirst", desc := "()I" } : Jvm.MethodName) prog_1_method_15_code (5 : Nat) (Option.some Jvm.ClassFile.FieldType.int)) ∈ WS := ws_tin 266 (by decide +kernel) (by decide +kernel)
theorem q_267 : (Jvm.Cond.methodLink "MatchingGraph" (171 : Nat) ({ cls := "MatchingGraph$Maxima", name := "first", desc := "()LMatchingGraph$Matching;" } : Jvm.MethodName)) ∈ WS := ws_tin 267 (by decide +kernel) (by decide +kernel)
theorem q_268 : (Jvm.Cond.instanceMethod ({ cls := "MatchingGraph$Maxima", name := "first", desc := "()LMatchingGraph$Matching;" } : Jvm.MethodName)) ∈ WS := ws_tin 268 (by decide +kernel) (by decide +kernel)
theorem q_269 : (Jvm.Cond.selects "MatchingGraph$Maxima" ({ cls := "MatchingGraph$Maxima", name := "first", desc := "()LMatchingGraph$Matching;" } : Jvm.MethodName) ({ cls := "MatchingGraph$Maxima", name := "first", desc := "()LMatchingGraph$Matching;" } : Jvm.MethodName)) ∈ WS := ws_tin 269 (by decide +kernel) (by decide +kernel)
theorem q_270 : (Jvm.Cond.code ({ cls := "MatchingGraph$Maxima", name := "first", desc := "()LMatchingGraph$Matching;" } : Jvm.MethodName) prog_6_method_12_code (1 : Nat) (Option.some (Jvm.ClassFile.FieldType.object "MatchingGraph$Matching"))) ∈ WS := ws_tin 270 (by decide +kernel) (by decide +kernel)
theorem q_271 : (Jvm.Cond.methodLink "MatchingGraph$Maxima" (62 : Nat) ({ cls := "MatchingGraph$Maxima", name := "learn", desc := "()V" } : Jvm.MethodName)) ∈ WS := ws_tin 271 (by decide +kernel) (by decide +kernel)
theorem q_273 : (Jvm.Cond.instanceMethod ({ cls := "MatchingGraph$Maxima", name := "learn", desc := "()V" } : Jvm.MethodName)) ∈ WS := ws_tin 273 (by decide +kernel) (by decide +kernel)
theorem q_274 : (Jvm.Cond.code ({ cls := "MatchingGraph$Maxima", name := "learn", desc := "()V" } : Jvm.MethodName) prog_6_method_2_code (3 : Nat) (Option.none : Option Jvm.ClassFile.FieldType)) ∈ WS := ws_tin 274 (by decide +kernel) (by decide +kernel)
theorem q_275 : (Jvm.Cond.methodLink "MatchingGraph$Maxima" (42 : Nat) ({ cls := "java/util/Arrays", name := "fill", desc := "([II)V" } : Jvm.MethodName)) ∈ WS := ws_tin 275 (by decide +kernel) (by decide +kernel)
theorem q_276 : (Jvm.Cond.methodLink "MatchingGraph$Maxima" (48 : Nat) ({ cls := "MatchingGraph$Graph", name := "all", desc := "()I" } : Jvm.MethodName)) ∈ WS := ws_tin 276 (by decide +kernel) (by decide +kernel)
theorem q_277 : (Jvm.Cond.instanceMethod ({ cls := "MatchingGraph$Graph", name := "all", desc := "()I" } : Jvm.MethodName)) ∈ WS := ws_tin 277 (by decide +kernel) (by decide +kernel)
theorem q_278 : (Jvm.Cond.selects "MatchingGraph$Graph" ({ cls := "MatchingGraph$Graph", name := "all", desc := "()I" } : Jvm.MethodName) ({ cls := "MatchingGraph$Graph", name := "all", desc := "()I" } : Jvm.MethodName)) ∈ WS := ws_tin 278 (by decide +kernel) (by decide +kernel)
theorem q_279 : (Jvm.Cond.code ({ cls := "MatchingGraph$Graph", name := "all", desc := "()I" } : Jvm.MethodName) prog_2_method_4_code (1 : Nat) (Option.some Jvm.ClassFile.FieldType.int)) ∈ WS := ws_tin 279 (by decide +kernel) (by decide +kernel)
theorem q_280 : (Jvm.Cond.methodLink "MatchingGraph$Maxima" (52 : Nat) ({ cls := "MatchingGraph$Maxima", name := "findOut", desc := "(II)V" } : Jvm.MethodName)) ∈ WS := ws_tin 280 (by decide +kernel) (by decide +kernel)
theorem q_282 : (Jvm.Cond.instanceMethod ({ cls := "MatchingGraph$Maxima", name := "findOut", desc := "(II)V" } : Jvm.MethodName)) ∈ WS := ws_tin 282 (by decide +kernel) (by decide +kernel)
theorem q_283 : (Jvm.Cond.code ({ cls := "MatchingGraph$Maxima", name := "findOut", desc := "(II)V" } : Jvm.MethodName) prog_6_method_3_code (10 : Nat) (Option.none : Option Jvm.ClassFile.FieldType)) ∈ WS := ws_tin 283 (by decide +kernel) (by decide +kernel)
theorem q_284 : (Jvm.Cond.methodLink "MatchingGraph$Maxima" (73 : Nat) ({ cls := "MatchingGraph$Maxima", name := "findFirst", desc := "()V" } : Jvm.MethodName)) ∈ WS := ws_tin 284 (by decide +kernel) (by decide +kernel)
theorem q_286 : (Jvm.Cond.instanceMethod ({ cls := "MatchingGraph$Maxima", name := "findFirst", desc := "()V" } : Jvm.MethodName)) ∈ WS := ws_tin 286 (by decide +kernel) (by decide +kernel)
theorem q_287 : (Jvm.Cond.code ({ cls := "MatchingGraph$Maxima", name := "findFirst", desc := "()V" } : Jvm.MethodName) prog_6_method_13_code (4 : Nat) (Option.none : Option Jvm.ClassFile.FieldType)) ∈ WS := ws_tin 287 (by decide +kernel) (by decide +kernel)
theorem q_288 : (Jvm.Cond.methodLink "MatchingGraph$Maxima" (76 : Nat) ({ cls := "MatchingGraph$Matching", name := "clear", desc := "()V" } : Jvm.MethodName)) ∈ WS := ws_tin 288 (by decide +kernel) (by decide +kernel)
theorem q_289 : (Jvm.Cond.instanceMethod ({ cls := "MatchingGraph$Matching", name := "clear", desc := "()V" } : Jvm.MethodName)) ∈ WS := ws_tin 289 (by decide +kernel) (by decide +kernel)
theorem q_290 : (Jvm.Cond.selects "MatchingGraph$Matching" ({ cls := "MatchingGraph$Matching", name := "clear", desc := "()V" } : Jvm.MethodName) ({ cls := "MatchingGraph$Matching", name := "clear", desc := "()V" } : Jvm.MethodName)) ∈ WS := ws_tin 290 (by decide +kernel) (by decide +kernel)
theorem q_291 : (Jvm.Cond.code ({ cls := "MatchingGraph$Matching", name := "clear", desc := "()V" } : Jvm.MethodName) prog_5_method_2_code (1 : Nat) (Option.none : Option Jvm.ClassFile.FieldType)) ∈ WS := ws_tin 291 (by decide +kernel) (by decide +kernel)
theorem q_292 : (Jvm.Cond.methodLink "MatchingGraph$Maxima" (79 : Nat) ({ cls := "MatchingGraph$Maxima", name := "leastMate", desc := "(II)I" } : Jvm.MethodName)) ∈ WS := ws_tin 292 (by decide +kernel) (by decide +kernel)
theorem q_294 : (Jvm.Cond.instanceMethod ({ cls := "MatchingGraph$Maxima", name := "leastMate", desc := "(II)I" } : Jvm.MethodName)) ∈ WS := ws_tin 294 (by decide +kernel) (by decide +kernel)
theorem q_295 : (Jvm.Cond.code ({ cls := "MatchingGraph$Maxima", name := "leastMate", desc := "(II)I" } : Jvm.MethodName) prog_6_method_14_code (6 : Nat) (Option.some Jvm.ClassFile.FieldType.int)) ∈ WS := ws_tin 295 (by decide +kernel) (by decide +kernel)
theorem q_296 : (Jvm.Cond.methodLink "MatchingGraph$Maxima" (82 : Nat) ({ cls := "MatchingGraph$Matching", name := "join", desc := "(II)V" } : Jvm.MethodName)) ∈ WS := ws_tin 296 (by decide +kernel) (by decide +kernel)
theorem q_297 : (Jvm.Cond.methodLink "MatchingGraph" (94 : Nat) ({ cls := "MatchingGraph$Matching", name := "has", desc := "(II)Z" } : Jvm.MethodName)) ∈ WS := ws_tin 297 (by decide +kernel) (by decide +kernel)
theorem q_298 : (Jvm.Cond.instanceMethod ({ cls := "MatchingGraph$Matching", name := "has", desc := "(II)Z" } : Jvm.MethodName)) ∈ WS := ws_tin 298 (by decide +kernel) (by decide +kernel)
theorem q_299 : (Jvm.Cond.selects "MatchingGraph$Matching" ({ cls := "MatchingGraph$Matching", name := "has", desc := "(II)Z" } : Jvm.MethodName) ({ cls := "MatchingGraph$Matching", name := "has", desc := "(II)Z" } : Jvm.MethodName)) ∈ WS := ws_tin 299 (by decide +kernel) (by decide +kernel)
theorem q_300 : (Jvm.Cond.code ({ cls := "MatchingGraph$Matching", name := "has", desc := "(II)Z" } : Jvm.MethodName) prog_5_method_5_code (3 : Nat) (Option.some Jvm.ClassFile.FieldType.boolean)) ∈ WS := ws_tin 300 (by decide +kernel) (by decide +kernel)
theorem q_301 : (Jvm.Cond.methodLink "MatchingGraph" (175 : Nat) ({ cls := "MatchingGraph$Matching", name := "copyFrom", desc := "([I)V" } : Jvm.MethodName)) ∈ WS := ws_tin 301 (by decide +kernel) (by decide +kernel)
theorem q_302 : (Jvm.Cond.instanceMethod ({ cls := "MatchingGraph$Matching", name := "copyFrom", desc := "([I)V" } : Jvm.MethodName)) ∈ WS := ws_tin 302 (by decide +kernel) (by decide +kernel)
theorem q_303 : (Jvm.Cond.selects "MatchingGraph$Matching" ({ cls := "MatchingGraph$Matching", name := "copyFrom", desc := "([I)V" } : Jvm.MethodName) ({ cls := "MatchingGraph$Matching", name := "copyFrom", desc := "([I)V" } : Jvm.MethodName)) ∈ WS := ws_tin 303 (by decide +kernel) (by decide +kernel)
theorem q_304 : (Jvm.Cond.code ({ cls := "MatchingGraph$Matching", name := "copyFrom", desc := "([I)V" } : Jvm.MethodName) prog_5_method_3_code (2 : Nat) (Option.none : Option Jvm.ClassFile.FieldType)) ∈ WS := ws_tin 304 (by decide +kernel) (by decide +kernel)
theorem q_305 : (Jvm.Cond.methodLink "MatchingGraph$Matching" (21 : Nat) ({ cls := "java/lang/System", name := "arraycopy", desc := "(Ljava/lang/Object;ILjava/lang/Object;II)V" } : Jvm.MethodName)) ∈ WS := ws_tin 305 (by decide +kernel) (by decide +kernel)
theorem q_306 : (Jvm.Cond.methodLink "MatchingGraphLaw" (138 : Nat) ({ cls := "MatchingGraph", name := "oddCycle", desc := "()I" } : Jvm.MethodName)) ∈ WS := ws_tin 306 (by decide +kernel) (by decide +kernel)
theorem q_307 : (Jvm.Cond.instanceMethod ({ cls := "MatchingGraph", name := "oddCycle", desc := "()I" } : Jvm.MethodName)) ∈ WS := ws_tin 307 (by decide +kernel) (by decide +kernel)
theorem q_308 : (Jvm.Cond.selects "MatchingGraph" ({ cls := "MatchingGraph", name := "oddCycle", desc := "()I" } : Jvm.MethodName) ({ cls := "MatchingGraph", name := "oddCycle", desc := "()I" } : Jvm.MethodName)) ∈ WS := ws_tin 308 (by decide +kernel) (by decide +kernel)
theorem q_309 : (Jvm.Cond.code ({ cls := "MatchingGraph", name := "oddCycle", desc := "()I" } : Jvm.MethodName) prog_1_method_20_code (4 : Nat) (Option.some Jvm.ClassFile.FieldType.int)) ∈ WS := ws_tin 309 (by decide +kernel) (by decide +kernel)
theorem q_310 : (Jvm.Cond.methodLink "MatchingGraph" (196 : Nat) ({ cls := "MatchingGraph$Graph", name := "shortestOddWalk", desc := "(I)I" } : Jvm.MethodName)) ∈ WS := ws_tin 310 (by decide +kernel) (by decide +kernel)
theorem q_311 : (Jvm.Cond.instanceMethod ({ cls := "MatchingGraph$Graph", name := "shortestOddWalk", desc := "(I)I" } : Jvm.MethodName)) ∈ WS := ws_tin 311 (by decide +kernel) (by decide +kernel)
theorem q_312 : (Jvm.Cond.selects "MatchingGraph$Graph" ({ cls := "MatchingGraph$Graph", name := "shortestOddWalk", desc := "(I)I" } : Jvm.MethodName) ({ cls := "MatchingGraph$Graph", name := "shortestOddWalk", desc := "(I)I" } : Jvm.MethodName)) ∈ WS := ws_tin 312 (by decide +kernel) (by decide +kernel)
theorem q_313 : (Jvm.Cond.code ({ cls := "MatchingGraph$Graph", name := "shortestOddWalk", desc := "(I)I" } : Jvm.MethodName) prog_2_method_10_code (4 : Nat) (Option.some Jvm.ClassFile.FieldType.int)) ∈ WS := ws_tin 313 (by decide +kernel) (by decide +kernel)
theorem q_314 : (Jvm.Cond.methodLink "MatchingGraph$Graph" (51 : Nat) ({ cls := "MatchingGraph$Graph", name := "besides", desc := "(I)I" } : Jvm.MethodName)) ∈ WS := ws_tin 314 (by decide +kernel) (by decide +kernel)
theorem q_316 : (Jvm.Cond.instanceMethod ({ cls := "MatchingGraph$Graph", name := "besides", desc := "(I)I" } : Jvm.MethodName)) ∈ WS := ws_tin 316 (by decide +kernel) (by decide +kernel)
theorem q_317 : (Jvm.Cond.code ({ cls := "MatchingGraph$Graph", name := "besides", desc := "(I)I" } : Jvm.MethodName) prog_2_method_11_code (4 : Nat) (Option.some Jvm.ClassFile.FieldType.int)) ∈ WS := ws_tin 317 (by decide +kernel) (by decide +kernel)
theorem q_318 : (Jvm.Cond.methodLink "MatchingGraphLaw" (145 : Nat) ({ cls := "MatchingGraph", name := "proof", desc := "()I" } : Jvm.MethodName)) ∈ WS := ws_tin 318 (by decide +kernel) (by decide +kernel)
theorem q_319 : (Jvm.Cond.instanceMethod ({ cls := "MatchingGraph", name := "proof", desc := "()I" } : Jvm.MethodName)) ∈ WS := ws_tin 319 (by decide +kernel) (by decide +kernel)
theorem q_320 : (Jvm.Cond.selects "MatchingGraph" ({ cls := "MatchingGraph", name := "proof", desc := "()I" } : Jvm.MethodName) ({ cls := "MatchingGraph", name := "proof", desc := "()I" } : Jvm.MethodName)) ∈ WS := ws_tin 320 (by decide +kernel) (by decide +kernel)
theorem q_321 : (Jvm.Cond.code ({ cls := "MatchingGraph", name := "proof", desc := "()I" } : Jvm.MethodName) prog_1_method_22_code (7 : Nat) (Option.some Jvm.ClassFile.FieldType.int)) ∈ WS := ws_tin 321 (by decide +kernel) (by decide +kernel)
theorem q_322 : (Jvm.Cond.methodLink "MatchingGraph" (199 : Nat) ({ cls := "MatchingGraph$Graph", name := "all", desc := "()I" } : Jvm.MethodName)) ∈ WS := ws_tin 322 (by decide +kernel) (by decide +kernel)
theorem q_323 : (Jvm.Cond.methodLink "MatchingGraph" (202 : Nat) ({ cls := "MatchingGraph$Maxima", name := "exposable", desc := "()I" } : Jvm.MethodName)) ∈ WS := ws_tin 323 (by decide +kernel) (by decide +kernel)
theorem q_324 : (Jvm.Cond.instanceMethod ({ cls := "MatchingGraph$Maxima", name := "exposable", desc := "()I" } : Jvm.MethodName)) ∈ WS := ws_tin 324 (by decide +kernel) (by decide +kernel)
theorem q_325 : (Jvm.Cond.selects "MatchingGraph$Maxima" ({ cls := "MatchingGraph$Maxima", name := "exposable", desc := "()I" } : Jvm.MethodName) ({ cls := "MatchingGraph$Maxima", name := "exposable", desc := "()I" } : Jvm.MethodName)) ∈ WS := ws_tin 325 (by decide +kernel) (by decide +kernel)
theorem q_326 : (Jvm.Cond.code ({ cls := "MatchingGraph$Maxima", name := "exposable", desc := "()I" } : Jvm.MethodName) prog_6_method_7_code (4 : Nat) (Option.some Jvm.ClassFile.FieldType.int)) ∈ WS := ws_tin 326 (by decide +kernel) (by decide +kernel)
theorem q_327 : (Jvm.Cond.methodLink "MatchingGraph" (205 : Nat) ({ cls := "java/lang/Integer", name := "bitCount", desc := "(I)I" } : Jvm.MethodName)) ∈ WS := ws_tin 327 (by decide +kernel) (by decide +kernel)
theorem q_328 : (Jvm.Cond.static ({ cls := "java/lang/Integer", name := "bitCount", desc := "(I)I" } : Jvm.MethodName)) ∈ WS := ws_tin 328 (by decide +kernel) (by decide +kernel)
theorem q_329 : (Jvm.Cond.code ({ cls := "java/lang/Integer", name := "bitCount", desc := "(I)I" } : Jvm.MethodName) prog_14_method_49_code (1 : Nat) (Option.some Jvm.ClassFile.FieldType.int)) ∈ WS := ws_tin 329 (by decide +kernel) (by decide +kernel)
theorem q_330 : (Jvm.Cond.constant "java/lang/Integer" (265 : Nat) (1431655765 : Int32)) ∈ WS := ws_tin 330 (by decide +kernel) (by decide +kernel)
theorem q_331 : (Jvm.Cond.constant "java/lang/Integer" (266 : Nat) (858993459 : Int32)) ∈ WS := ws_tin 331 (by decide +kernel) (by decide +kernel)
theorem q_332 : (Jvm.Cond.constant "java/lang/Integer" (267 : Nat) (252645135 : Int32)) ∈ WS := ws_tin 332 (by decide +kernel) (by decide +kernel)
theorem q_333 : (Jvm.Cond.methodLink "MatchingGraph" (210 : Nat) ({ cls := "MatchingGraph", name := "isProof", desc := "(II)Z" } : Jvm.MethodName)) ∈ WS := ws_tin 333 (by decide +kernel) (by decide +kernel)
theorem q_335 : (Jvm.Cond.instanceMethod ({ cls := "MatchingGraph", name := "isProof", desc := "(II)Z" } : Jvm.MethodName)) ∈ WS := ws_tin 335 (by decide +kernel) (by decide +kernel)
theorem q_336 : (Jvm.Cond.code ({ cls := "MatchingGraph", name := "isProof", desc := "(II)Z" } : Jvm.MethodName) prog_1_method_23_code (3 : Nat) (Option.some Jvm.ClassFile.FieldType.boolean)) ∈ WS := ws_tin 336 (by decide +kernel) (by decide +kernel)
theorem q_337 : (Jvm.Cond.methodLink "MatchingGraph" (213 : Nat) ({ cls := "MatchingGraph$Graph", name := "pieces", desc := "(IZ)I" } : Jvm.MethodName)) ∈ WS := ws_tin 337 (by decide +kernel) (by decide +kernel)
theorem q_338 : (Jvm.Cond.instanceMethod ({ cls := "MatchingGraph$Graph", name := "pieces", desc := "(IZ)I" } : Jvm.MethodName)) ∈ WS := ws_tin 338 (by decide +kernel) (by decide +kernel)
theorem q_339 : (Jvm.Cond.selects "MatchingGraph$Graph" ({ cls := "MatchingGraph$Graph", name := "pieces", desc := "(IZ)I" } : Jvm.MethodName) ({ cls := "MatchingGraph$Graph", name := "pieces", desc := "(IZ)I" } : Jvm.MethodName)) ∈ WS := ws_tin 339 (by decide +kernel) (by decide +kernel)
theorem q_340 : (Jvm.Cond.code ({ cls := "MatchingGraph$Graph", name := "pieces", desc := "(IZ)I" } : Jvm.MethodName) prog_2_method_9_code (7 : Nat) (Option.some Jvm.ClassFile.FieldType.int)) ∈ WS := ws_tin 340 (by decide +kernel) (by decide +kernel)
theorem q_341 : (Jvm.Cond.methodLink "MatchingGraph$Graph" (47 : Nat) ({ cls := "MatchingGraph$Graph", name := "pieceOf", desc := "(II)I" } : Jvm.MethodName)) ∈ WS := ws_tin 341 (by decide +kernel) (by decide +kernel)
theorem q_342 : (Jvm.Cond.instanceMethod ({ cls := "MatchingGraph$Graph", name := "pieceOf", desc := "(II)I" } : Jvm.MethodName)) ∈ WS := ws_tin 342 (by decide +kernel) (by decide +kernel)
theorem q_343 : (Jvm.Cond.selects "MatchingGraph$Graph" ({ cls := "MatchingGraph$Graph", name := "pieceOf", desc := "(II)I" } : Jvm.MethodName) ({ cls := "MatchingGraph$Graph", name := "pieceOf", desc := "(II)I" } : Jvm.MethodName)) ∈ WS := ws_tin 343 (by decide +kernel) (by decide +kernel)
theorem q_344 : (Jvm.Cond.code ({ cls := "MatchingGraph$Graph", name := "pieceOf", desc := "(II)I" } : Jvm.MethodName) prog_2_method_8_code (8 : Nat) (Option.some Jvm.ClassFile.FieldType.int)) ∈ WS := ws_tin 344 (by decide +kernel) (by decide +kernel)
theorem q_345 : (Jvm.Cond.methodLink "MatchingGraph$Graph" (44 : Nat) ({ cls := "java/lang/Integer", name := "numberOfTrailingZeros", desc := "(I)I" } : Jvm.MethodName)) ∈ WS := ws_tin 345 (by decide +kernel) (by decide +kernel)
theorem q_346 : (Jvm.Cond.static ({ cls := "java/lang/Integer", name := "numberOfTrailingZeros", desc := "(I)I" } : Jvm.MethodName)) ∈ WS := ws_tin 346 (by decide +kernel) (by decide +kernel)
theorem q_347 : (Jvm.Cond.code ({ cls := "java/lang/Integer", name := "numberOfTrailingZeros", desc := "(I)I" } : Jvm.MethodName) prog_14_method_48_code (2 : Nat) (Option.some Jvm.ClassFile.FieldType.int)) ∈ WS := ws_tin 347 (by decide +kernel) (by decide +kernel)
theorem q_348 : (Jvm.Cond.constant "java/lang/Integer" (264 : Nat) (65536 : Int32)) ∈ WS := ws_tin 348 (by decide +kernel) (by decide +kernel)
theorem q_349 : (Jvm.Cond.methodLink "MatchingGraph$Graph" (38 : Nat) ({ cls := "java/lang/Integer", name := "bitCount", desc := "(I)I" } : Jvm.MethodName)) ∈ WS := ws_tin 349 (by decide +kernel) (by decide +kernel)
theorem q_350 : (Jvm.Cond.methodLink "MatchingGraph" (217 : Nat) ({ cls := "MatchingGraph", name := "deficiency", desc := "()I" } : Jvm.MethodName)) ∈ WS := ws_tin 350 (by decide +kernel) (by decide +kernel)
theorem q_352 : (Jvm.Cond.instanceMethod ({ cls := "MatchingGraph", name := "deficiency", desc := "()I" } : Jvm.MethodName)) ∈ WS := ws_tin 352 (by decide +kernel) (by decide +kernel)
theorem q_353 : (Jvm.Cond.code ({ cls := "MatchingGraph", name := "deficiency", desc := "()I" } : Jvm.MethodName) prog_1_method_30_code (1 : Nat) (Option.some Jvm.ClassFile.FieldType.int)) ∈ WS := ws_tin 353 (by decide +kernel) (by decide +kernel)
theorem q_354 : (Jvm.Cond.methodLink "MatchingGraph" (222 : Nat) ({ cls := "MatchingGraph$Maxima", name := "number", desc := "()I" } : Jvm.MethodName)) ∈ WS := ws_tin 354 (by decide +kernel) (by decide +kernel)
theorem q_355 : (Jvm.Cond.instanceMethod ({ cls := "MatchingGraph$Maxima", name := "number", desc := "()I" } : Jvm.MethodName)) ∈ WS := ws_tin 355 (by decide +kernel) (by decide +kernel)
theorem q_356 : (Jvm.Cond.selects "MatchingGraph$Maxima" ({ cls := "MatchingGraph$Maxima", name := "number", desc := "()I" } : Jvm.MethodName) ({ cls := "MatchingGraph$Maxima", name := "number", desc := "()I" } : Jvm.MethodName)) ∈ WS := ws_tin 356 (by decide +kernel) (by decide +kernel)
theorem q_357 : (Jvm.Cond.code ({ cls := "MatchingGraph$Maxima", name := "number", desc := "()I" } : Jvm.MethodName) prog_6_method_4_code (1 : Nat) (Option.some Jvm.ClassFile.FieldType.int)) ∈ WS := ws_tin 357 (by decide +kernel) (by decide +kernel)
theorem q_358 : (Jvm.Cond.methodLink "MatchingGraphLaw" (168 : Nat) ({ cls := "MatchingGraph", name := "meanUse", desc := "()D" } : Jvm.MethodName)) ∈ WS := ws_tin 358 (by decide +kernel) (by decide +kernel)
theorem q_359 : (Jvm.Cond.instanceMethod ({ cls := "MatchingGraph", name := "meanUse", desc := "()D" } : Jvm.MethodName)) ∈ WS := ws_tin 359 (by decide +kernel) (by decide +kernel)
theorem q_360 : (Jvm.Cond.selects "MatchingGraph" ({ cls := "MatchingGraph", name := "meanUse", desc := "()D" } : Jvm.MethodName) ({ cls := "MatchingGraph", name := "meanUse", desc := "()D" } : Jvm.MethodName)) ∈ WS := ws_tin 360 (by decide +kernel) (by decide +kernel)
theorem q_361 : (Jvm.Cond.code ({ cls := "MatchingGraph", name := "meanUse", desc := "()D" } : Jvm.MethodName) prog_1_method_33_code (5 : Nat) (Option.some Jvm.ClassFile.FieldType.double)) ∈ WS := ws_tin 361 (by decide +kernel) (by decide +kernel)
theorem q_362 : (Jvm.Cond.methodLink "MatchingGraph" (259 : Nat) ({ cls := "MatchingGraph$Graph", name := "edges", desc := "()I" } : Jvm.MethodName)) ∈ WS := ws_tin 362 (by decide +kernel) (by decide +kernel)
theorem q_363 : (Jvm.Cond.instanceMethod ({ cls := "MatchingGraph$Graph", name := "edges", desc := "()I" } : Jvm.MethodName)) ∈ WS := ws_tin 363 (by decide +kernel) (by decide +kernel)
theorem q_364 : (Jvm.Cond.selects "MatchingGraph$Graph" ({ cls := "MatchingGraph$Graph", name := "edges", desc := "()I" } : Jvm.MethodName) ({ cls := "MatchingGraph$Graph", name := "edges", desc := "()I" } : Jvm.MethodName)) ∈ WS := ws_tin 364 (by decide +kernel) (by decide +kernel)
theorem q_365 : (Jvm.Cond.code ({ cls := "MatchingGraph$Graph", name := "edges", desc := "()I" } : Jvm.MethodName) prog_2_method_7_code (3 : Nat) (Option.some Jvm.ClassFile.FieldType.int)) ∈ WS := ws_tin 365 (by decide +kernel) (by decide +kernel)
theorem q_366 : (Jvm.Cond.methodLink "MatchingGraph" (229 : Nat) ({ cls := "MatchingGraph$Maxima", name := "howMany", desc := "()I" } : Jvm.MethodName)) ∈ WS := ws_tin 366 (by decide +kernel) (by decide +kernel)
theorem q_367 : (Jvm.Cond.instanceMethod ({ cls := "MatchingGraph$Maxima", name := "howMany", desc := "()I" } : Jvm.MethodName)) ∈ WS := ws_tin 367 (by decide +kernel) (by decide +kernel)
theorem q_368 : (Jvm.Cond.selects "MatchingGraph$Maxima" ({ cls := "MatchingGraph$Maxima", name := "howMany", desc := "()I" } : Jvm.MethodName) ({ cls := "MatchingGraph$Maxima", name := "howMany", desc := "()I" } : Jvm.MethodName)) ∈ WS := ws_tin 368 (by decide +kernel) (by decide +kernel)
theorem q_369 : (Jvm.Cond.code ({ cls := "MatchingGraph$Maxima", name := "howMany", desc := "()I" } : Jvm.MethodName) prog_6_method_5_code (1 : Nat) (Option.some Jvm.ClassFile.FieldType.int)) ∈ WS := ws_tin 369 (by decide +kernel) (by decide +kernel)
theorem q_370 : (Jvm.Cond.methodLink "MatchingGraph" (225 : Nat) ({ cls := "MatchingGraph$Maxima", name := "having", desc := "(II)I" } : Jvm.MethodName)) ∈ WS := ws_tin 370 (by decide +kernel) (by decide +kernel)
theorem q_371 : (Jvm.Cond.instanceMethod ({ cls := "MatchingGraph$Maxima", name := "having", desc := "(II)I" } : Jvm.MethodName)) ∈ WS := ws_tin 371 (by decide +kernel) (by decide +kernel)
theorem q_372 : (Jvm.Cond.selects "MatchingGraph$Maxima" ({ cls := "MatchingGraph$Maxima", name := "having", desc := "(II)I" } : Jvm.MethodName) ({ cls := "MatchingGraph$Maxima", name := "having", desc := "(II)I" } : Jvm.MethodName)) ∈ WS := ws_tin 372 (by decide +kernel) (by decide +kernel)
theorem q_373 : (Jvm.Cond.code ({ cls := "MatchingGraph$Maxima", name := "having", desc := "(II)I" } : Jvm.MethodName) prog_6_method_10_code (5 : Nat) (Option.some Jvm.ClassFile.FieldType.int)) ∈ WS := ws_tin 373 (by decide +kernel) (by decide +kernel)
theorem q_374 : (Jvm.Cond.methodLink "MatchingGraph$Maxima" (65 : Nat) ({ cls := "MatchingGraph$Graph", name := "joined", desc := "(II)Z" } : Jvm.MethodName)) ∈ WS := ws_tin 374 (by decide +kernel) (by decide +kernel)
theorem q_375 : (Jvm.Cond.methodLink "MatchingGraphLaw" (173 : Nat) ({ cls := "MatchingGraph", name := "digest", desc := "()J" } : Jvm.MethodName)) ∈ WS := ws_tin 375 (by decide +kernel) (by decide +kernel)
theorem q_376 : (Jvm.Cond.instanceMethod ({ cls := "MatchingGraph", name := "digest", desc := "()J" } : Jvm.MethodName)) ∈ WS := ws_tin 376 (by decide +kernel) (by decide +kernel)
theorem q_377 : (Jvm.Cond.selects "MatchingGraph" ({ cls := "MatchingGraph", name := "digest", desc := "()J" } : Jvm.MethodName) ({ cls := "MatchingGraph", name := "digest", desc := "()J" } : Jvm.MethodName)) ∈ WS := ws_tin 377 (by decide +kernel) (by decide +kernel)
theorem q_378 : (Jvm.Cond.code ({ cls := "MatchingGraph", name := "digest", desc := "()J" } : Jvm.MethodName) prog_1_method_34_code (5 : Nat) (Option.some Jvm.ClassFile.FieldType.long)) ∈ WS := ws_tin 378 (by decide +kernel) (by decide +kernel)
theorem q_379 : (Jvm.Cond.constantLong "MatchingGraph" (279 : Nat) (2003 : Int64)) ∈ WS := ws_tin 379 (by decide +kernel) (by decide +kernel)
theorem q_380 : (Jvm.Cond.methodLink "MatchingGraph" (281 : Nat) ({ cls := "MatchingGraph", name := "count", desc := "(I)I" } : Jvm.MethodName)) ∈ WS := ws_tin 380 (by decide +kernel) (by decide +kernel)
theorem q_381 : (Jvm.Cond.instanceMethod ({ cls := "MatchingGraph", name := "count", desc := "(I)I" } : Jvm.MethodName)) ∈ WS := ws_tin 381 (by decide +kernel) (by decide +kernel)
theorem q_382 : (Jvm.Cond.selects "MatchingGraph" ({ cls := "MatchingGraph", name := "count", desc := "(I)I" } : Jvm.MethodName) ({ cls := "MatchingGraph", name := "count", desc := "(I)I" } : Jvm.MethodName)) ∈ WS := ws_tin 382 (by decide +kernel) (by decide +kernel)
theorem q_383 : (Jvm.Cond.code ({ cls := "MatchingGraph", name := "count", desc := "(I)I" } : Jvm.MethodName) prog_1_method_29_code (2 : Nat) (Option.some Jvm.ClassFile.FieldType.int)) ∈ WS := ws_tin 383 (by decide +kernel) (by decide +kernel)
theorem q_384 : (Jvm.Cond.methodLink "MatchingGraph" (144 : Nat) ({ cls := "MatchingGraph$Matching", name := "size", desc := "()I" } : Jvm.MethodName)) ∈ WS := ws_tin 384 (by decide +kernel) (by decide +kernel)
theorem q_385 : (Jvm.Cond.methodLink "MatchingGraph" (262 : Nat) ({ cls := "MatchingGraph$Maxima", name := "edgesHadBy", desc := "(I)I" } : Jvm.MethodName)) ∈ WS := ws_tin 385 (by decide +kernel) (by decide +kernel)
theorem q_386 : (Jvm.Cond.instanceMethod ({ cls := "MatchingGraph$Maxima", name := "edgesHadBy", desc := "(I)I" } : Jvm.MethodName)) ∈ WS := ws_tin 386 (by decide +kernel) (by decide +kernel)
theorem q_387 : (Jvm.Cond.selects "MatchingGraph$Maxima" ({ cls := "MatchingGraph$Maxima", name := "edgesHadBy", desc := "(I)I" } : Jvm.MethodName) ({ cls := "MatchingGraph$Maxima", name := "edgesHadBy", desc := "(I)I" } : Jvm.MethodName)) ∈ WS := ws_tin 387 (by decide +kernel) (by decide +kernel)
theorem q_388 : (Jvm.Cond.code ({ cls := "MatchingGraph$Maxima", name := "edgesHadBy", desc := "(I)I" } : Jvm.MethodName) prog_6_method_11_code (5 : Nat) (Option.some Jvm.ClassFile.FieldType.int)) ∈ WS := ws_tin 388 (by decide +kernel) (by decide +kernel)
theorem q_389 : (Jvm.Cond.methodLink "MatchingGraph$Maxima" (69 : Nat) ({ cls := "MatchingGraph$Maxima", name := "having", desc := "(II)I" } : Jvm.MethodName)) ∈ WS := ws_tin 389 (by decide +kernel) (by decide +kernel)
theorem q_390 : (Jvm.Cond.methodLink "MatchingGraph" (265 : Nat) ({ cls := "MatchingGraph$Maxima", name := "isCritical", desc := "()Z" } : Jvm.MethodName)) ∈ WS := ws_tin 390 (by decide +kernel) (by decide +kernel)
theorem q_391 : (Jvm.Cond.instanceMethod ({ cls := "MatchingGraph$Maxima", name := "isCritical", desc := "()Z" } : Jvm.MethodName)) ∈ WS := ws_tin 391 (by decide +kernel) (by decide +kernel)
theorem q_392 : (Jvm.Cond.selects "MatchingGraph$Maxima" ({ cls := "MatchingGraph$Maxima", name := "isCritical", desc := "()Z" } : Jvm.MethodName) ({ cls := "MatchingGraph$Maxima", name := "isCritical", desc := "()Z" } : Jvm.MethodName)) ∈ WS := ws_tin 392 (by decide +kernel) (by decide +kernel)
theorem q_393 : (Jvm.Cond.code ({ cls := "MatchingGraph$Maxima", name := "isCritical", desc := "()Z" } : Jvm.MethodName) prog_6_method_8_code (3 : Nat) (Option.some Jvm.ClassFile.FieldType.boolean)) ∈ WS := ws_tin 393 (by decide +kernel) (by decide +kernel)
theorem q_394 : (Jvm.Cond.classLink "MatchingGraph" (58 : Nat) "java/lang/IllegalArgumentException") ∈ WS := ws_tin 394 (by decide +kernel) (by decide +kernel)
theorem q_395 : (Jvm.Cond.instantiable "java/lang/IllegalArgumentException" (6 : Nat)) ∈ WS := ws_tin 395 (by decide +kernel) (by decide +kernel)
theorem q_403 : (Jvm.Cond.selects "java/lang/IllegalArgumentException" ({ cls := "java/lang/Throwable", name := "fillInStackTrace", desc := "(I)Ljava/lang/Throwable;" } : Jvm.MethodName) ({ cls := "java/lang/Throwable", name := "fillInStackTrace", desc := "(I)Ljava/lang/Throwable;" } : Jvm.MethodName)) ∈ WS := ws_tin 403 (by decide +kernel) (by decide +kernel)
theorem q_404 : (Jvm.Cond.selects "java/lang/IllegalArgumentException" ({ cls := "java/lang/Throwable", name := "fillInStackTrace", desc := "()Ljava/lang/Throwable;" } : Jvm.MethodName) ({ cls := "java/lang/Throwable", name := "fillInStackTrace", desc := "()Ljava/lang/Throwable;" } : Jvm.MethodName)) ∈ WS := ws_tin 404 (by decide +kernel) (by decide +kernel)
theorem q_405 : (Jvm.Cond.lays "java/lang/IllegalArgumentException" "java/lang/Throwable" "cause" "Ljava/lang/Throwable;") ∈ WS := ws_tin 405 (by decide +kernel) (by decide +kernel)
theorem q_406 : (Jvm.Cond.lays "java/lang/Throwable" "java/lang/Throwable" "cause" "Ljava/lang/Throwable;") ∈ WS := ws_tin 406 (by decide +kernel) (by decide +kernel)
theorem q_407 : (Jvm.Cond.lays "java/lang/IllegalArgumentException" "java/lang/Throwable" "stackTrace" "[Ljava/lang/StackTraceElement;") ∈ WS := ws_tin 407 (by decide +kernel) (by decide +kernel)
theorem q_408 : (Jvm.Cond.lays "java/lang/Throwable" "java/lang/Throwable" "stackTrace" "[Ljava/lang/StackTraceElement;") ∈ WS := ws_tin 408 (by decide +kernel) (by decide +kernel)
theorem q_409 : (Jvm.Cond.lays "java/lang/IllegalArgumentException" "java/lang/Throwable" "suppressedExceptions" "Ljava/util/List;") ∈ WS := ws_tin 409 (by decide +kernel) (by decide +kernel)
theorem q_410 : (Jvm.Cond.lays "java/lang/Throwable" "java/lang/Throwable" "suppressedExceptions" "Ljava/util/List;") ∈ WS := ws_tin 410 (by decide +kernel) (by decide +kernel)
theorem q_411 : (Jvm.Cond.lays "java/lang/IllegalArgumentException" "java/lang/Throwable" "detailMessage" "Ljava/lang/String;") ∈ WS := ws_tin 411 (by decide +kernel) (by decide +kernel)
theorem q_412 : (Jvm.Cond.lays "java/lang/Throwable" "java/lang/Throwable" "detailMessage" "Ljava/lang/String;") ∈ WS := ws_tin 412 (by decide +kernel) (by decide +kernel)
theorem q_413 : (Jvm.Cond.lays "java/lang/IllegalArgumentException" "java/lang/Throwable" "backtrace" "Ljava/lang/Object;") ∈ WS := ws_tin 413 (by decide +kernel) (by decide +kernel)
theorem q_414 : (Jvm.Cond.lays "java/lang/Throwable" "java/lang/Throwable" "backtrace" "Ljava/lang/Object;") ∈ WS := ws_tin 414 (by decide +kernel) (by decide +kernel)
theorem q_415 : (Jvm.Cond.fieldLink "java/lang/Throwable" (198 : Nat) "java/lang/Throwable" "backtrace" "Ljava/lang/Object;") ∈ WS := ws_tin 415 (by decide +kernel) (by decide +kernel)
theorem q_417 : (Jvm.Cond.instanceMethod ({ cls := "java/lang/Throwable", name := "<init>", desc := "()V" } : Jvm.MethodName)) ∈ WS := ws_tin 417 (by decide +kernel) (by decide +kernel)
theorem q_418 : (Jvm.Cond.code ({ cls := "java/lang/Throwable", name := "<init>", desc := "()V" } : Jvm.MethodName) prog_19_method_1_code (1 : Nat) (Option.none : Option Jvm.ClassFile.FieldType)) ∈ WS := ws_tin 418 (by decide +kernel) (by decide +kernel)
theorem q_419 : (Jvm.Cond.methodLink "java/lang/Throwable" (1 : Nat) ({ cls := "java/lang/Object", name := "<init>", desc := "()V" } : Jvm.MethodName)) ∈ WS := ws_tin 419 (by decide +kernel) (by decide +kernel)
theorem q_420 : (Jvm.Cond.fieldLink "java/lang/Throwable" (13 : Nat) "java/lang/Throwable" "UNASSIGNED_STACK" "[Ljava/lang/StackTraceElement;") ∈ WS := ws_tin 420 (by decide +kernel) (by decide +kernel)
theorem q_422 : (Jvm.Cond.fieldLink "java/lang/Throwable" (20 : Nat) "java/lang/Throwable" "SUPPRESSED_SENTINEL" "Ljava/util/List;") ∈ WS := ws_tin 422 (by decide +kernel) (by decide +kernel)
theorem q_424 : (Jvm.Cond.methodLink "java/lang/Throwable" (27 : Nat) ({ cls := "java/lang/Throwable", name := "fillInStackTrace", desc := "()Ljava/lang/Throwable;" } : Jvm.MethodName)) ∈ WS := ws_tin 424 (by decide +kernel) (by decide +kernel)
theorem q_425 : (Jvm.Cond.instanceMethod ({ cls := "java/lang/Throwable", name := "fillInStackTrace", desc := "()Ljava/lang/Throwable;" } : Jvm.MethodName)) ∈ WS := ws_tin 425 (by decide +kernel) (by decide +kernel)
theorem q_427 : (Jvm.Cond.selects "java/lang/IllegalStateException" ({ cls := "java/lang/Throwable", name := "fillInStackTrace", desc := "()Ljava/lang/Throwable;" } : Jvm.MethodName) ({ cls := "java/lang/Throwable", name := "fillInStackTrace", desc := "()Ljava/lang/Throwable;" } : Jvm.MethodName)) ∈ WS := ws_tin 427 (by decide +kernel) (by decide +kernel)
theorem q_428 : (Jvm.Cond.selects "java/lang/IndexOutOfBoundsException" ({ cls := "java/lang/Throwable", name := "fillInStackTrace", desc := "()Ljava/lang/Throwable;" } : Jvm.MethodName) ({ cls := "java/lang/Throwable", name := "fillInStackTrace", desc := "()Ljava/lang/Throwable;" } : Jvm.MethodName)) ∈ WS := ws_tin 428 (by decide +kernel) (by decide +kernel)
theorem q_429 : (Jvm.Cond.codeSync ({ cls := "java/lang/Throwable", name := "fillInStackTrace", desc := "()Ljava/lang/Throwable;" } : Jvm.MethodName) prog_19_method_18_code (1 : Nat) (Option.some (Jvm.ClassFile.FieldType.object "java/lang/Throwable"))) ∈ WS := ws_tin 429 (by decide +kernel) (by decide +kernel)
theorem q_430 : (Jvm.Cond.methodLink "java/lang/Throwable" (202 : Nat) ({ cls := "java/lang/Throwable", name := "fillInStackTrace", desc := "(I)Ljava/lang/Throwable;" } : Jvm.MethodName)) ∈ WS := ws_tin 430 (by decide +kernel) (by decide +kernel)
theorem q_432 : (Jvm.Cond.instanceMethod ({ cls := "java/lang/Throwable", name := "fillInStackTrace", desc := "(I)Ljava/lang/Throwable;" } : Jvm.MethodName)) ∈ WS := ws_tin 432 (by decide +kernel) (by decide +kernel)
theorem q_433 : (Jvm.Cond.instantiable "java/lang/Throwable" (6 : Nat)) ∈ WS := ws_tin 433 (by decide +kernel) (by decide +kernel)
theorem q_434 : (Jvm.Cond.native ({ cls := "java/lang/Throwable", name := "fillInStackTrace", desc := "(I)Ljava/lang/Throwable;" } : Jvm.MethodName)) ∈ WS := ws_tin 434 (by decide +kernel) (by decide +kernel)
theorem q_436 : (Jvm.Cond.methodLink "MatchingGraph" (62 : Nat) ({ cls := "java/lang/IllegalArgumentException", name := "<init>", desc := "(Ljava/lang/String;)V" } : Jvm.MethodName)) ∈ WS := ws_tin 436 (by decide +kernel) (by decide +kernel)
theorem q_437 : (Jvm.Cond.instanceMethod ({ cls := "java/lang/IllegalArgumentException", name := "<init>", desc := "(Ljava/lang/String;)V" } : Jvm.MethodName)) ∈ WS := ws_tin 437 (by decide +kernel) (by decide +kernel)
theorem q_438 : (Jvm.Cond.code ({ cls := "java/lang/IllegalArgumentException", name := "<init>", desc := "(Ljava/lang/String;)V" } : Jvm.MethodName) prog_11_method_2_code (2 : Nat) (Option.none : Option Jvm.ClassFile.FieldType)) ∈ WS := ws_tin 438 (by decide +kernel) (by decide +kernel)
theorem q_439 : (Jvm.Cond.methodLink "java/lang/IllegalArgumentException" (7 : Nat) ({ cls := "java/lang/RuntimeException", name := "<init>", desc := "(Ljava/lang/String;)V" } : Jvm.MethodName)) ∈ WS := ws_tin 439 (by decide +kernel) (by decide +kernel)
theorem q_440 : (Jvm.Cond.instanceMethod ({ cls := "java/lang/RuntimeException", name := "<init>", desc := "(Ljava/lang/String;)V" } : Jvm.MethodName)) ∈ WS := ws_tin 440 (by decide +kernel) (by decide +kernel)
theorem q_441 : (Jvm.Cond.code ({ cls := "java/lang/RuntimeException", name := "<init>", desc := "(Ljava/lang/String;)V" } : Jvm.MethodName) prog_16_method_2_code (2 : Nat) (Option.none : Option Jvm.ClassFile.FieldType)) ∈ WS := ws_tin 441 (by decide +kernel) (by decide +kernel)
theorem q_442 : (Jvm.Cond.methodLink "java/lang/RuntimeException" (7 : Nat) ({ cls := "java/lang/Exception", name := "<init>", desc := "(Ljava/lang/String;)V" } : Jvm.MethodName)) ∈ WS := ws_tin 442 (by decide +kernel) (by decide +kernel)
theorem q_443 : (Jvm.Cond.instanceMethod ({ cls := "java/lang/Exception", name := "<init>", desc := "(Ljava/lang/String;)V" } : Jvm.MethodName)) ∈ WS := ws_tin 443 (by decide +kernel) (by decide +kernel)
theorem q_444 : (Jvm.Cond.code ({ cls := "java/lang/Exception", name := "<init>", desc := "(Ljava/lang/String;)V" } : Jvm.MethodName) prog_10_method_2_code (2 : Nat) (Option.none : Option Jvm.ClassFile.FieldType)) ∈ WS := ws_tin 444 (by decide +kernel) (by decide +kernel)
theorem q_445 : (Jvm.Cond.methodLink "java/lang/Exception" (7 : Nat) ({ cls := "java/lang/Throwable", name := "<init>", desc := "(Ljava/lang/String;)V" } : Jvm.MethodName)) ∈ WS := ws_tin 445 (by decide +kernel) (by decide +kernel)
theorem q_446 : (Jvm.Cond.instanceMethod ({ cls := "java/lang/Throwable", name := "<init>", desc := "(Ljava/lang/String;)V" } : Jvm.MethodName)) ∈ WS := ws_tin 446 (by decide +kernel) (by decide +kernel)
theorem q_447 : (Jvm.Cond.code ({ cls := "java/lang/Throwable", name := "<init>", desc := "(Ljava/lang/String;)V" } : Jvm.MethodName) prog_19_method_2_code (2 : Nat) (Option.none : Option Jvm.ClassFile.FieldType)) ∈ WS := ws_tin 447 (by decide +kernel) (by decide +kernel)
theorem q_448 : (Jvm.Cond.fieldLink "java/lang/Throwable" (198 : Nat) "java/lang/Throwable" "backtrace" "Ljava/lang/Object;") ∈ WS := ws_tin 448 (by decide +kernel) (by decide +kernel)
theorem q_449 : (Jvm.Cond.fieldLink "java/lang/Throwable" (31 : Nat) "java/lang/Throwable" "detailMessage" "Ljava/lang/String;") ∈ WS := ws_tin 449 (by decide +kernel) (by decide +kernel)
theorem q_450 : (Jvm.Cond.fieldLink "java/lang/Throwable" (7 : Nat) "java/lang/Throwable" "cause" "Ljava/lang/Throwable;") ∈ WS := ws_tin 450 (by decide +kernel) (by decide +kernel)
theorem q_451 : (Jvm.Cond.fieldLink "java/lang/Throwable" (17 : Nat) "java/lang/Throwable" "stackTrace" "[Ljava/lang/StackTraceElement;") ∈ WS := ws_tin 451 (by decide +kernel) (by decide +kernel)
theorem q_452 : (Jvm.Cond.fieldLink "java/lang/Throwable" (24 : Nat) "java/lang/Throwable" "suppressedExceptions" "Ljava/util/List;") ∈ WS := ws_tin 452 (by decide +kernel) (by decide +kernel)
theorem q_457 : (Jvm.Cond.lays "java/lang/IllegalArgumentException" "java/lang/Throwable" "depth" "I") ∈ WS := ws_tin 457 (by decide +kernel) (by decide +kernel)
theorem q_461 : (Jvm.Cond.arrayClass Jvm.ClassFile.FieldType.byte) ∈ WS := ws_tin 461 (by decide +kernel) (by decide +kernel)
theorem q_462 : (Jvm.Cond.methodLink "MatchingGraph" (284 : Nat) ({ cls := "MatchingGraph", name := "mix", desc := "(JJ)J" } : Jvm.MethodName)) ∈ WS := ws_tin 462 (by decide +kernel) (by decide +kernel)
theorem q_463 : (Jvm.Cond.static ({ cls := "MatchingGraph", name := "mix", desc := "(JJ)J" } : Jvm.MethodName)) ∈ WS := ws_tin 463 (by decide +kernel) (by decide +kernel)
theorem q_464 : (Jvm.Cond.code ({ cls := "MatchingGraph", name := "mix", desc := "(JJ)J" } : Jvm.MethodName) prog_1_method_38_code (4 : Nat) (Option.some Jvm.ClassFile.FieldType.long)) ∈ WS := ws_tin 464 (by decide +kernel) (by decide +kernel)
theorem q_465 : (Jvm.Cond.constantLong "MatchingGraph" (328 : Nat) (31 : Int64)) ∈ WS := ws_tin 465 (by decide +kernel) (by decide +kernel)
theorem q_466 : (Jvm.Cond.methodLink "MatchingGraph" (288 : Nat) ({ cls := "MatchingGraph", name := "mixNode", desc := "(JI)J" } : Jvm.MethodName)) ∈ WS := ws_tin 466 (by decide +kernel) (by decide +kernel)
theorem q_468 : (Jvm.Cond.instanceMethod ({ cls := "MatchingGraph", name := "mixNode", desc := "(JI)J" } : Jvm.MethodName)) ∈ WS := ws_tin 468 (by decide +kernel) (by decide +kernel)
theorem q_469 : (Jvm.Cond.code ({ cls := "MatchingGraph", name := "mixNode", desc := "(JI)J" } : Jvm.MethodName) prog_1_method_35_code (7 : Nat) (Option.some Jvm.ClassFile.FieldType.long)) ∈ WS := ws_tin 469 (by decide +kernel) (by decide +kernel)
theorem q_470 : (Jvm.Cond.methodLink "MatchingGraph" (309 : Nat) ({ cls := "MatchingGraph", name := "node", desc := "(II)I" } : Jvm.MethodName)) ∈ WS := ws_tin 470 (by decide +kernel) (by decide +kernel)
theorem q_471 : (Jvm.Cond.instanceMethod ({ cls := "MatchingGraph", name := "node", desc := "(II)I" } : Jvm.MethodName)) ∈ WS := ws_tin 471 (by decide +kernel) (by decide +kernel)
theorem q_472 : (Jvm.Cond.selects "MatchingGraph" ({ cls := "MatchingGraph", name := "node", desc := "(II)I" } : Jvm.MethodName) ({ cls := "MatchingGraph", name := "node", desc := "(II)I" } : Jvm.MethodName)) ∈ WS := ws_tin 472 (by decide +kernel) (by decide +kernel)
theorem q_473 : (Jvm.Cond.code ({ cls := "MatchingGraph", name := "node", desc := "(II)I" } : Jvm.MethodName) prog_1_method_26_code (3 : Nat) (Option.some Jvm.ClassFile.FieldType.int)) ∈ WS := ws_tin 473 (by decide +kernel) (by decide +kernel)
theorem q_474 : (Jvm.Cond.methodLink "MatchingGraph" (76 : Nat) ({ cls := "MatchingGraph", name := "requireNode", desc := "(I)V" } : Jvm.MethodName)) ∈ WS := ws_tin 474 (by decide +kernel) (by decide +kernel)
theorem q_476 : (Jvm.Cond.instanceMethod ({ cls := "MatchingGraph", name := "requireNode", desc := "(I)V" } : Jvm.MethodName)) ∈ WS := ws_tin 476 (by decide +kernel) (by decide +kernel)
theorem q_477 : (Jvm.Cond.code ({ cls := "MatchingGraph", name := "requireNode", desc := "(I)V" } : Jvm.MethodName) prog_1_method_39_code (2 : Nat) (Option.none : Option Jvm.ClassFile.FieldType)) ∈ WS := ws_tin 477 (by decide +kernel) (by decide +kernel)
theorem q_478 : (Jvm.Cond.classLink "MatchingGraph" (330 : Nat) "java/lang/IndexOutOfBoundsException") ∈ WS := ws_tin 478 (by decide +kernel) (by decide +kernel)
theorem q_479 : (Jvm.Cond.instantiable "java/lang/IndexOutOfBoundsException" (6 : Nat)) ∈ WS := ws_tin 479 (by decide +kernel) (by decide +kernel)
theorem q_481 : (Jvm.Cond.selects "java/lang/IndexOutOfBoundsException" ({ cls := "java/lang/Throwable", name := "fillInStackTrace", desc := "(I)Ljava/lang/Throwable;" } : Jvm.MethodName) ({ cls := "java/lang/Throwable", name := "fillInStackTrace", desc := "(I)Ljava/lang/Throwable;" } : Jvm.MethodName)) ∈ WS := ws_tin 481 (by decide +kernel) (by decide +kernel)
theorem q_482 : (Jvm.Cond.lays "java/lang/IndexOutOfBoundsException" "java/lang/Throwable" "cause" "Ljava/lang/Throwable;") ∈ WS := ws_tin 482 (by decide +kernel) (by decide +kernel)
theorem q_483 : (Jvm.Cond.lays "java/lang/IndexOutOfBoundsException" "java/lang/Throwable" "stackTrace" "[Ljava/lang/StackTraceElement;") ∈ WS := ws_tin 483 (by decide +kernel) (by decide +kernel)
theorem q_484 : (Jvm.Cond.lays "java/lang/IndexOutOfBoundsException" "java/lang/Throwable" "suppressedExceptions" "Ljava/util/List;") ∈ WS := ws_tin 484 (by decide +kernel) (by decide +kernel)
theorem q_485 : (Jvm.Cond.lays "java/lang/IndexOutOfBoundsException" "java/lang/Throwable" "detailMessage" "Ljava/lang/String;") ∈ WS := ws_tin 485 (by decide +kernel) (by decide +kernel)
theorem q_486 : (Jvm.Cond.lays "java/lang/IndexOutOfBoundsException" "java/lang/Throwable" "backtrace" "Ljava/lang/Object;") ∈ WS := ws_tin 486 (by decide +kernel) (by decide +kernel)
theorem q_488 : (Jvm.Cond.methodLink "MatchingGraph" (334 : Nat) ({ cls := "java/lang/IndexOutOfBoundsException", name := "<init>", desc := "(Ljava/lang/String;)V" } : Jvm.MethodName)) ∈ WS := ws_tin 488 (by decide +kernel) (by decide +kernel)
theorem q_489 : (Jvm.Cond.instanceMethod ({ cls := "java/lang/IndexOutOfBoundsException", name := "<init>", desc := "(Ljava/lang/String;)V" } : Jvm.MethodName)) ∈ WS := ws_tin 489 (by decide +kernel) (by decide +kernel)
theorem q_490 : (Jvm.Cond.code ({ cls := "java/lang/IndexOutOfBoundsException", name := "<init>", desc := "(Ljava/lang/String;)V" } : Jvm.MethodName) prog_13_method_2_code (2 : Nat) (Option.none : Option Jvm.ClassFile.FieldType)) ∈ WS := ws_tin 490 (by decide +kernel) (by decide +kernel)
theorem q_491 : (Jvm.Cond.methodLink "java/lang/IndexOutOfBoundsException" (7 : Nat) ({ cls := "java/lang/RuntimeException", name := "<init>", desc := "(Ljava/lang/String;)V" } : Jvm.MethodName)) ∈ WS := ws_tin 491 (by decide +kernel) (by decide +kernel)
theorem q_492 : (Jvm.Cond.lays "java/lang/IndexOutOfBoundsException" "java/lang/Throwable" "depth" "I") ∈ WS := ws_tin 492 (by decide +kernel) (by decide +kernel)
theorem q_494 : (Jvm.Cond.methodLink "MatchingGraph" (243 : Nat) ({ cls := "MatchingGraph", name := "partOf", desc := "(I)I" } : Jvm.MethodName)) ∈ WS := ws_tin 494 (by decide +kernel) (by decide +kernel)
theorem q_496 : (Jvm.Cond.instanceMethod ({ cls := "MatchingGraph", name := "partOf", desc := "(I)I" } : Jvm.MethodName)) ∈ WS := ws_tin 496 (by decide +kernel) (by decide +kernel)
theorem q_497 : (Jvm.Cond.code ({ cls := "MatchingGraph", name := "partOf", desc := "(I)I" } : Jvm.MethodName) prog_1_method_27_code (3 : Nat) (Option.some Jvm.ClassFile.FieldType.int)) ∈ WS := ws_tin 497 (by decide +kernel) (by decide +kernel)
theorem q_498 : (Jvm.Cond.methodLink "MatchingGraph" (246 : Nat) ({ cls := "MatchingGraph$Maxima", name := "exposing", desc := "(I)I" } : Jvm.MethodName)) ∈ WS := ws_tin 498 (by decide +kernel) (by decide +kernel)
theorem q_499 : (Jvm.Cond.instanceMethod ({ cls := "MatchingGraph$Maxima", name := "exposing", desc := "(I)I" } : Jvm.MethodName)) ∈ WS := ws_tin 499 (by decide +kernel) (by decide +kernel)
theorem q_500 : (Jvm.Cond.selects "MatchingGraph$Maxima" ({ cls := "MatchingGraph$Maxima", name := "exposing", desc := "(I)I" } : Jvm.MethodName) ({ cls := "MatchingGraph$Maxima", name := "exposing", desc := "(I)I" } : Jvm.MethodName)) ∈ WS := ws_tin 500 (by decide +kernel) (by decide +kernel)
theorem q_501 : (Jvm.Cond.code ({ cls := "MatchingGraph$Maxima", name := "exposing", desc := "(I)I" } : Jvm.MethodName) prog_6_method_6_code (4 : Nat) (Option.some Jvm.ClassFile.FieldType.int)) ∈ WS := ws_tin 501 (by decide +kernel) (by decide +kernel)
theorem q_502 : (Jvm.Cond.methodLink "MatchingGraph" (249 : Nat) ({ cls := "MatchingGraph$Graph", name := "pieceOf", desc := "(II)I" } : Jvm.MethodName)) ∈ WS := ws_tin 502 (by decide +kernel) (by decide +kernel)
theorem q_503 : (Jvm.Cond.methodLink "MatchingGraph" (252 : Nat) ({ cls := "java/lang/Integer", name := "numberOfTrailingZeros", desc := "(I)I" } : Jvm.MethodName)) ∈ WS := ws_tin 503 (by decide +kernel) (by decide +kernel)
theorem q_505 : (Jvm.Cond.methodLink "MatchingGraph" (312 : Nat) ({ cls := "MatchingGraph", name := "firstMate", desc := "(I)I" } : Jvm.MethodName)) ∈ WS := ws_tin 505 (by decide +kernel) (by decide +kernel)
theorem q_506 : (Jvm.Cond.instanceMethod ({ cls := "MatchingGraph", name := "firstMate", desc := "(I)I" } : Jvm.MethodName)) ∈ WS := ws_tin 506 (by decide +kernel) (by decide +kernel)
theorem q_507 : (Jvm.Cond.selects "MatchingGraph" ({ cls := "MatchingGraph", name := "firstMate", desc := "(I)I" } : Jvm.MethodName) ({ cls := "MatchingGraph", name := "firstMate", desc := "(I)I" } : Jvm.MethodName)) ∈ WS := ws_tin 507 (by decide +kernel) (by decide +kernel)
theorem q_508 : (Jvm.Cond.code ({ cls := "MatchingGraph", name := "firstMate", desc := "(I)I" } : Jvm.MethodName) prog_1_method_21_code (2 : Nat) (Option.some Jvm.ClassFile.FieldType.int)) ∈ WS := ws_tin 508 (by decide +kernel) (by decide +kernel)
theorem q_509 : (Jvm.Cond.methodLink "MatchingGraph" (315 : Nat) ({ cls := "MatchingGraph", name := "reach", desc := "(IZ)I" } : Jvm.MethodName)) ∈ WS := ws_tin 509 (by decide +kernel) (by decide +kernel)
theorem q_510 : (Jvm.Cond.instanceMethod ({ cls := "MatchingGraph", name := "reach", desc := "(IZ)I" } : Jvm.MethodName)) ∈ WS := ws_tin 510 (by decide +kernel) (by decide +kernel)
theorem q_511 : (Jvm.Cond.selects "MatchingGraph" ({ cls := "MatchingGraph", name := "reach", desc := "(IZ)I" } : Jvm.MethodName) ({ cls := "MatchingGraph", name := "reach", desc := "(IZ)I" } : Jvm.MethodName)) ∈ WS := ws_tin 511 (by decide +kernel) (by decide +kernel)
theorem q_512 : (Jvm.Cond.code ({ cls := "MatchingGraph", name := "reach", desc := "(IZ)I" } : Jvm.MethodName) prog_1_method_19_code (3 : Nat) (Option.some Jvm.ClassFile.FieldType.int)) ∈ WS := ws_tin 512 (by decide +kernel) (by decide +kernel)
theorem q_513 : (Jvm.Cond.methodLink "MatchingGraph" (187 : Nat) ({ cls := "MatchingGraph$Paths", name := "findEnds", desc := "(I)V" } : Jvm.MethodName)) ∈ WS := ws_tin 513 (by decide +kernel) (by decide +kernel)
theorem q_514 : (Jvm.Cond.instanceMethod ({ cls := "MatchingGraph$Paths", name := "findEnds", desc := "(I)V" } : Jvm.MethodName)) ∈ WS := ws_tin 514 (by decide +kernel) (by decide +kernel)
theorem q_515 : (Jvm.Cond.selects "MatchingGraph$Paths" ({ cls := "MatchingGraph$Paths", name := "findEnds", desc := "(I)V" } : Jvm.MethodName) ({ cls := "MatchingGraph$Paths", name := "findEnds", desc := "(I)V" } : Jvm.MethodName)) ∈ WS := ws_tin 515 (by decide +kernel) (by decide +kernel)
theorem q_516 : (Jvm.Cond.code ({ cls := "MatchingGraph$Paths", name := "findEnds", desc := "(I)V" } : Jvm.MethodName) prog_7_method_3_code (4 : Nat) (Option.none : Option Jvm.ClassFile.FieldType)) ∈ WS := ws_tin 516 (by decide +kernel) (by decide +kernel)
theorem q_517 : (Jvm.Cond.methodLink "MatchingGraph$Paths" (55 : Nat) ({ cls := "MatchingGraph$Paths", name := "followFrom", desc := "(III)V" } : Jvm.MethodName)) ∈ WS := ws_tin 517 (by decide +kernel) (by decide +kernel)
theorem q_519 : (Jvm.Cond.instanceMethod ({ cls := "MatchingGraph$Paths", name := "followFrom", desc := "(III)V" } : Jvm.MethodName)) ∈ WS := ws_tin 519 (by decide +kernel) (by decide +kernel)
theorem q_520 : (Jvm.Cond.code ({ cls := "MatchingGraph$Paths", name := "followFrom", desc := "(III)V" } : Jvm.MethodName) prog_7_method_4_code (6 : Nat) (Option.none : Option Jvm.ClassFile.FieldType)) ∈ WS := ws_tin 520 (by decide +kernel) (by decide +kernel)
theorem q_521 : (Jvm.Cond.methodLink "MatchingGraph" (318 : Nat) ({ cls := "MatchingGraph", name := "way", desc := "(I)I" } : Jvm.MethodName)) ∈ WS := ws_tin 521 (by decide +kernel) (by decide +kernel)
theorem q_522 : (Jvm.Cond.instanceMethod ({ cls := "MatchingGraph", name := "way", desc := "(I)I" } : Jvm.MethodName)) ∈ WS := ws_tin 522 (by decide +kernel) (by decide +kernel)
theorem q_523 : (Jvm.Cond.selects "MatchingGraph" ({ cls := "MatchingGraph", name := "way", desc := "(I)I" } : Jvm.MethodName) ({ cls := "MatchingGraph", name := "way", desc := "(I)I" } : Jvm.MethodName)) ∈ WS := ws_tin 523 (by decide +kernel) (by decide +kernel)
theorem q_524 : (Jvm.Cond.code ({ cls := "MatchingGraph", name := "way", desc := "(I)I" } : Jvm.MethodName) prog_1_method_17_code (2 : Nat) (Option.some Jvm.ClassFile.FieldType.int)) ∈ WS := ws_tin 524 (by decide +kernel) (by decide +kernel)
theorem q_525 : (Jvm.Cond.methodLink "MatchingGraph" (141 : Nat) ({ cls := "MatchingGraph", name := "requireExposed", desc := "(I)V" } : Jvm.MethodName)) ∈ WS := ws_tin 525 (by decide +kernel) (by decide +kernel)
theorem q_527 : (Jvm.Cond.instanceMethod ({ cls := "MatchingGraph", name := "requireExposed", desc := "(I)V" } : Jvm.MethodName)) ∈ WS := ws_tin 527 (by decide +kernel) (by decide +kernel)
theorem q_528 : (Jvm.Cond.code ({ cls := "MatchingGraph", name := "requireExposed", desc := "(I)V" } : Jvm.MethodName) prog_1_method_41_code (2 : Nat) (Option.none : Option Jvm.ClassFile.FieldType)) ∈ WS := ws_tin 528 (by decide +kernel) (by decide +kernel)
theorem q_529 : (Jvm.Cond.classLink "MatchingGraph" (105 : Nat) "java/lang/IllegalStateException") ∈ WS := ws_tin 529 (by decide +kernel) (by decide +kernel)
theorem q_530 : (Jvm.Cond.instantiable "java/lang/IllegalStateException" (6 : Nat)) ∈ WS := ws_tin 530 (by decide +kernel) (by decide +kernel)
theorem q_532 : (Jvm.Cond.selects "java/lang/IllegalStateException" ({ cls := "java/lang/Throwable", name := "fillInStackTrace", desc := "(I)Ljava/lang/Throwable;" } : Jvm.MethodName) ({ cls := "java/lang/Throwable", name := "fillInStackTrace", desc := "(I)Ljava/lang/Throwable;" } : Jvm.MethodName)) ∈ WS := ws_tin 532 (by decide +kernel) (by decide +kernel)
theorem q_533 : (Jvm.Cond.lays "java/lang/IllegalStateException" "java/lang/Throwable" "cause" "Ljava/lang/Throwable;") ∈ WS := ws_tin 533 (by decide +kernel) (by decide +kernel)
theorem q_534 : (Jvm.Cond.lays "java/lang/IllegalStateException" "java/lang/Throwable" "stackTrace" "[Ljava/lang/StackTraceElement;") ∈ WS := ws_tin 534 (by decide +kernel) (by decide +kernel)
theorem q_535 : (Jvm.Cond.lays "java/lang/IllegalStateException" "java/lang/Throwable" "suppressedExceptions" "Ljava/util/List;") ∈ WS := ws_tin 535 (by decide +kernel) (by decide +kernel)
theorem q_536 : (Jvm.Cond.lays "java/lang/IllegalStateException" "java/lang/Throwable" "detailMessage" "Ljava/lang/String;") ∈ WS := ws_tin 536 (by decide +kernel) (by decide +kernel)
theorem q_537 : (Jvm.Cond.lays "java/lang/IllegalStateException" "java/lang/Throwable" "backtrace" "Ljava/lang/Object;") ∈ WS := ws_tin 537 (by decide +kernel) (by decide +kernel)
theorem q_539 : (Jvm.Cond.methodLink "MatchingGraph" (109 : Nat) ({ cls := "java/lang/IllegalStateException", name := "<init>", desc := "(Ljava/lang/String;)V" } : Jvm.MethodName)) ∈ WS := ws_tin 539 (by decide +kernel) (by decide +kernel)
theorem q_540 : (Jvm.Cond.instanceMethod ({ cls := "java/lang/IllegalStateException", name := "<init>", desc := "(Ljava/lang/String;)V" } : Jvm.MethodName)) ∈ WS := ws_tin 540 (by decide +kernel) (by decide +kernel)
theorem q_541 : (Jvm.Cond.code ({ cls := "java/lang/IllegalStateException", name := "<init>", desc := "(Ljava/lang/String;)V" } : Jvm.MethodName) prog_12_method_2_code (2 : Nat) (Option.none : Option Jvm.ClassFile.FieldType)) ∈ WS := ws_tin 541 (by decide +kernel) (by decide +kernel)
theorem q_542 : (Jvm.Cond.methodLink "java/lang/IllegalStateException" (7 : Nat) ({ cls := "java/lang/RuntimeException", name := "<init>", desc := "(Ljava/lang/String;)V" } : Jvm.MethodName)) ∈ WS := ws_tin 542 (by decide +kernel) (by decide +kernel)
theorem q_543 : (Jvm.Cond.lays "java/lang/IllegalStateException" "java/lang/Throwable" "depth" "I") ∈ WS := ws_tin 543 (by decide +kernel) (by decide +kernel)
theorem q_545 : (Jvm.Cond.methodLink "MatchingGraph" (292 : Nat) ({ cls := "MatchingGraph", name := "mixPair", desc := "(JII)J" } : Jvm.MethodName)) ∈ WS := ws_tin 545 (by decide +kernel) (by decide +kernel)
theorem q_547 : (Jvm.Cond.instanceMethod ({ cls := "MatchingGraph", name := "mixPair", desc := "(JII)J" } : Jvm.MethodName)) ∈ WS := ws_tin 547 (by decide +kernel) (by decide +kernel)
theorem q_548 : (Jvm.Cond.code ({ cls := "MatchingGraph", name := "mixPair", desc := "(JII)J" } : Jvm.MethodName) prog_1_method_36_code (8 : Nat) (Option.some Jvm.ClassFile.FieldType.long)) ∈ WS := ws_tin 548 (by decide +kernel) (by decide +kernel)
theorem q_549 : (Jvm.Cond.methodLink "MatchingGraph" (321 : Nat) ({ cls := "MatchingGraph", name := "edge", desc := "(III)I" } : Jvm.MethodName)) ∈ WS := ws_tin 549 (by decide +kernel) (by decide +kernel)
theorem q_550 : (Jvm.Cond.instanceMethod ({ cls := "MatchingGraph", name := "edge", desc := "(III)I" } : Jvm.MethodName)) ∈ WS := ws_tin 550 (by decide +kernel) (by decide +kernel)
theorem q_551 : (Jvm.Cond.selects "MatchingGraph" ({ cls := "MatchingGraph", name := "edge", desc := "(III)I" } : Jvm.MethodName) ({ cls := "MatchingGraph", name := "edge", desc := "(III)I" } : Jvm.MethodName)) ∈ WS := ws_tin 551 (by decide +kernel) (by decide +kernel)
theorem q_552 : (Jvm.Cond.code ({ cls := "MatchingGraph", name := "edge", desc := "(III)I" } : Jvm.MethodName) prog_1_method_28_code (4 : Nat) (Option.some Jvm.ClassFile.FieldType.int)) ∈ WS := ws_tin 552 (by decide +kernel) (by decide +kernel)
theorem q_553 : (Jvm.Cond.methodLink "MatchingGraph" (86 : Nat) ({ cls := "MatchingGraph$Graph", name := "joined", desc := "(II)Z" } : Jvm.MethodName)) ∈ WS := ws_tin 553 (by decide +kernel) (by decide +kernel)
theorem q_555 : (Jvm.Cond.methodLink "MatchingGraph" (296 : Nat) ({ cls := "MatchingGraph", name := "proof", desc := "()I" } : Jvm.MethodName)) ∈ WS := ws_tin 555 (by decide +kernel) (by decide +kernel)
theorem q_556 : (Jvm.Cond.methodLink "MatchingGraph" (299 : Nat) ({ cls := "MatchingGraph", name := "oddCycle", desc := "()I" } : Jvm.MethodName)) ∈ WS := ws_tin 556 (by decide +kernel) (by decide +kernel)
theorem q_557 : (Jvm.Cond.methodLink "MatchingGraph" (302 : Nat) ({ cls := "MatchingGraph", name := "difference", desc := "(I)I" } : Jvm.MethodName)) ∈ WS := ws_tin 557 (by decide +kernel) (by decide +kernel)
theorem q_558 : (Jvm.Cond.instanceMethod ({ cls := "MatchingGraph", name := "difference", desc := "(I)I" } : Jvm.MethodName)) ∈ WS := ws_tin 558 (by decide +kernel) (by decide +kernel)
theorem q_559 : (Jvm.Cond.selects "MatchingGraph" ({ cls := "MatchingGraph", name := "difference", desc := "(I)I" } : Jvm.MethodName) ({ cls := "MatchingGraph", name := "difference", desc := "(I)I" } : Jvm.MethodName)) ∈ WS := ws_tin 559 (by decide +kernel) (by decide +kernel)
theorem q_560 : (Jvm.Cond.code ({ cls := "MatchingGraph", name := "difference", desc := "(I)I" } : Jvm.MethodName) prog_1_method_31_code (8 : Nat) (Option.some Jvm.ClassFile.FieldType.int)) ∈ WS := ws_tin 560 (by decide +kernel) (by decide +kernel)
theorem q_562 : (Jvm.Cond.methodLink "MatchingGraph" (272 : Nat) ({ cls := "MatchingGraph", name := "drawDifferences", desc := "(LMatchingGraph$Matching;)V" } : Jvm.MethodName)) ∈ WS := ws_tin 562 (by decide +kernel) (by decide +kernel)
theorem q_564 : (Jvm.Cond.instanceMethod ({ cls := "MatchingGraph", name := "drawDifferences", desc := "(LMatchingGraph$Matching;)V" } : Jvm.MethodName)) ∈ WS := ws_tin 564 (by decide +kernel) (by decide +kernel)
theorem q_565 : (Jvm.Cond.code ({ cls := "MatchingGraph", name := "drawDifferences", desc := "(LMatchingGraph$Matching;)V" } : Jvm.MethodName) prog_1_method_32_code (5 : Nat) (Option.none : Option Jvm.ClassFile.FieldType)) ∈ WS := ws_tin 565 (by decide +kernel) (by decide +kernel)
theorem q_566 : (Jvm.Cond.methodLink "MatchingGraph" (69 : Nat) ({ cls := "MatchingGraph$Graph", name := "clear", desc := "(I)V" } : Jvm.MethodName)) ∈ WS := ws_tin 566 (by decide +kernel) (by decide +kernel)
theorem q_567 : (Jvm.Cond.instanceMethod ({ cls := "MatchingGraph$Graph", name := "clear", desc := "(I)V" } : Jvm.MethodName)) ∈ WS := ws_tin 567 (by decide +kernel) (by decide +kernel)
theorem q_568 : (Jvm.Cond.selects "MatchingGraph$Graph" ({ cls := "MatchingGraph$Graph", name := "clear", desc := "(I)V" } : Jvm.MethodName) ({ cls := "MatchingGraph$Graph", name := "clear", desc := "(I)V" } : Jvm.MethodName)) ∈ WS := ws_tin 568 (by decide +kernel) (by decide +kernel)
theorem q_569 : (Jvm.Cond.code ({ cls := "MatchingGraph$Graph", name := "clear", desc := "(I)V" } : Jvm.MethodName) prog_2_method_2_code (2 : Nat) (Option.none : Option Jvm.ClassFile.FieldType)) ∈ WS := ws_tin 569 (by decide +kernel) (by decide +kernel)
theorem q_570 : (Jvm.Cond.methodLink "MatchingGraph$Graph" (22 : Nat) ({ cls := "java/util/Arrays", name := "fill", desc := "([II)V" } : Jvm.MethodName)) ∈ WS := ws_tin 570 (by decide +kernel) (by decide +kernel)
theorem q_571 : (Jvm.Cond.methodLink "MatchingGraph" (90 : Nat) ({ cls := "MatchingGraph$Graph", name := "put", desc := "(IIZ)V" } : Jvm.MethodName)) ∈ WS := ws_tin 571 (by decide +kernel) (by decide +kernel)
theorem q_572 : (Jvm.Cond.instanceMethod ({ cls := "MatchingGraph$Graph", name := "put", desc := "(IIZ)V" } : Jvm.MethodName)) ∈ WS := ws_tin 572 (by decide +kernel) (by decide +kernel)
theorem q_573 : (Jvm.Cond.selects "MatchingGraph$Graph" ({ cls := "MatchingGraph$Graph", name := "put", desc := "(IIZ)V" } : Jvm.MethodName) ({ cls := "MatchingGraph$Graph", name := "put", desc := "(IIZ)V" } : Jvm.MethodName)) ∈ WS := ws_tin 573 (by decide +kernel) (by decide +kernel)
theorem q_574 : (Jvm.Cond.code ({ cls := "MatchingGraph$Graph", name := "put", desc := "(IIZ)V" } : Jvm.MethodName) prog_2_method_6_code (4 : Nat) (Option.none : Option Jvm.ClassFile.FieldType)) ∈ WS := ws_tin 574 (by decide +kernel) (by decide +kernel)
theorem q_575 : (Jvm.Cond.methodLink "MatchingGraph$Graph" (34 : Nat) ({ cls := "MatchingGraph$Graph", name := "joined", desc := "(II)Z" } : Jvm.MethodName)) ∈ WS := ws_tin 575 (by decide +kernel) (by decide +kernel)
theorem q_576 : (Jvm.Cond.methodLink "MatchingGraph" (276 : Nat) ({ cls := "MatchingGraph$Graph", name := "hasNoEnd", desc := "(I)Z" } : Jvm.MethodName)) ∈ WS := ws_tin 576 (by decide +kernel) (by decide +kernel)
theorem q_577 : (Jvm.Cond.instanceMethod ({ cls := "MatchingGraph$Graph", name := "hasNoEnd", desc := "(I)Z" } : Jvm.MethodName)) ∈ WS := ws_tin 577 (by decide +kernel) (by decide +kernel)
theorem q_578 : (Jvm.Cond.selects "MatchingGraph$Graph" ({ cls := "MatchingGraph$Graph", name := "hasNoEnd", desc := "(I)Z" } : Jvm.MethodName) ({ cls := "MatchingGraph$Graph", name := "hasNoEnd", desc := "(I)Z" } : Jvm.MethodName)) ∈ WS := ws_tin 578 (by decide +kernel) (by decide +kernel)
theorem q_579 : (Jvm.Cond.code ({ cls := "MatchingGraph$Graph", name := "hasNoEnd", desc := "(I)Z" } : Jvm.MethodName) prog_2_method_12_code (3 : Nat) (Option.some Jvm.ClassFile.FieldType.boolean)) ∈ WS := ws_tin 579 (by decide +kernel) (by decide +kernel)
theorem q_580 : (Jvm.Cond.methodLink "MatchingGraph" (305 : Nat) ({ cls := "MatchingGraph", name := "mixInput", desc := "(J)J" } : Jvm.MethodName)) ∈ WS := ws_tin 580 (by decide +kernel) (by decide +kernel)
theorem q_582 : (Jvm.Cond.instanceMethod ({ cls := "MatchingGraph", name := "mixInput", desc := "(J)J" } : Jvm.MethodName)) ∈ WS := ws_tin 582 (by decide +kernel) (by decide +kernel)
theorem q_583 : (Jvm.Cond.code ({ cls := "MatchingGraph", name := "mixInput", desc := "(J)J" } : Jvm.MethodName) prog_1_method_37_code (6 : Nat) (Option.some Jvm.ClassFile.FieldType.long)) ∈ WS := ws_tin 583 (by decide +kernel) (by decide +kernel)
theorem q_584 : (Jvm.Cond.methodLink "MatchingGraphLaw" (79 : Nat) ({ cls := "MatchingGraphLaw", name := "begin", desc := "(LMatchingGraph;I[J)I" } : Jvm.MethodName)) ∈ WS := ws_tin 584 (by decide +kernel) (by decide +kernel)
theorem q_585 : (Jvm.Cond.static ({ cls := "MatchingGraphLaw", name := "begin", desc := "(LMatchingGraph;I[J)I" } : Jvm.MethodName)) ∈ WS := ws_tin 585 (by decide +kernel) (by decide +kernel)
theorem q_586 : (Jvm.Cond.codeWith ({ cls := "MatchingGraphLaw", name := "begin", desc := "(LMatchingGraph;I[J)I" } : Jvm.MethodName) method_3_code (4 : Nat) (Option.some Jvm.ClassFile.FieldType.int) [((0 : Nat), (9 : Nat), (12 : Nat), (13 : Nat))]) ∈ WS := ws_tin 586 (by decide +kernel) (by decide +kernel)
theorem q_587 : (Jvm.Cond.classLink "MatchingGraphLaw" (13 : Nat) "java/lang/IllegalArgumentException") ∈ WS := ws_tin 587 (by decide +kernel) (by decide +kernel)
theorem q_588 : (Jvm.Cond.methodLink "MatchingGraphLaw" (7 : Nat) ({ cls := "MatchingGraph", name := "begin", desc := "(I)I" } : Jvm.MethodName)) ∈ WS := ws_tin 588 (by decide +kernel) (by decide +kernel)
theorem q_589 : (Jvm.Cond.instanceMethod ({ cls := "MatchingGraph", name := "begin", desc := "(I)I" } : Jvm.MethodName)) ∈ WS := ws_tin 589 (by decide +kernel) (by decide +kernel)
theorem q_590 : (Jvm.Cond.selects "MatchingGraph" ({ cls := "MatchingGraph", name := "begin", desc := "(I)I" } : Jvm.MethodName) ({ cls := "MatchingGraph", name := "begin", desc := "(I)I" } : Jvm.MethodName)) ∈ WS := ws_tin 590 (by decide +kernel) (by decide +kernel)
theorem q_591 : (Jvm.Cond.code ({ cls := "MatchingGraph", name := "begin", desc := "(I)I" } : Jvm.MethodName) prog_1_method_2_code (3 : Nat) (Option.some Jvm.ClassFile.FieldType.int)) ∈ WS := ws_tin 591 (by decide +kernel) (by decide +kernel)
theorem q_593 : (Jvm.Cond.methodLink "MatchingGraph" (73 : Nat) ({ cls := "MatchingGraph$Matching", name := "clear", desc := "()V" } : Jvm.MethodName)) ∈ WS := ws_tin 593 (by decide +kernel) (by decide +kernel)
theorem q_594 : (Jvm.Cond.methodLink "MatchingGraph" (75 : Nat) ({ cls := "MatchingGraph$History", name := "clear", desc := "()V" } : Jvm.MethodName)) ∈ WS := ws_tin 594 (by decide +kernel) (by decide +kernel)
theorem q_595 : (Jvm.Cond.instanceMethod ({ cls := "MatchingGraph$History", name := "clear", desc := "()V" } : Jvm.MethodName)) ∈ WS := ws_tin 595 (by decide +kernel) (by decide +kernel)
theorem q_596 : (Jvm.Cond.selects "MatchingGraph$History" ({ cls := "MatchingGraph$History", name := "clear", desc := "()V" } : Jvm.MethodName) ({ cls := "MatchingGraph$History", name := "clear", desc := "()V" } : Jvm.MethodName)) ∈ WS := ws_tin 596 (by decide +kernel) (by decide +kernel)
theorem q_597 : (Jvm.Cond.code ({ cls := "MatchingGraph$History", name := "clear", desc := "()V" } : Jvm.MethodName) prog_3_method_2_code (1 : Nat) (Option.none : Option Jvm.ClassFile.FieldType)) ∈ WS := ws_tin 597 (by decide +kernel) (by decide +kernel)
theorem q_598 : (Jvm.Cond.methodLink "MatchingGraphLaw" (88 : Nat) ({ cls := "MatchingGraphLaw", name := "setEdge", desc := "(LMatchingGraph;IIZ[J)I" } : Jvm.MethodName)) ∈ WS := ws_tin 598 (by decide +kernel) (by decide +kernel)
theorem q_599 : (Jvm.Cond.static ({ cls := "MatchingGraphLaw", name := "setEdge", desc := "(LMatchingGraph;IIZ[J)I" } : Jvm.MethodName)) ∈ WS := ws_tin 599 (by decide +kernel) (by decide +kernel)
theorem q_600 : (Jvm.Cond.codeWith ({ cls := "MatchingGraphLaw", name := "setEdge", desc := "(LMatchingGraph;IIZ[J)I" } : Jvm.MethodName) method_4_code (6 : Nat) (Option.some Jvm.ClassFile.FieldType.int) [((0 : Nat), (12 : Nat), (15 : Nat), (19 : Nat)), ((0 : Nat), (12 : Nat), (19 : Nat), (13 : Nat))]) ∈ WS := ws_tin 600 (by decide +kernel) (by decide +kernel)
theorem q_601 : (Jvm.Cond.classLink "MatchingGraphLaw" (19 : Nat) "java/lang/IndexOutOfBoundsException") ∈ WS := ws_tin 601 (by decide +kernel) (by decide +kernel)
theorem q_602 : (Jvm.Cond.methodLink "MatchingGraphLaw" (15 : Nat) ({ cls := "MatchingGraph", name := "setEdge", desc := "(IIZ)I" } : Jvm.MethodName)) ∈ WS := ws_tin 602 (by decide +kernel) (by decide +kernel)
theorem q_603 : (Jvm.Cond.instanceMethod ({ cls := "MatchingGraph", name := "setEdge", desc := "(IIZ)I" } : Jvm.MethodName)) ∈ WS := ws_tin 603 (by decide +kernel) (by decide +kernel)
theorem q_604 : (Jvm.Cond.selects "MatchingGraph" ({ cls := "MatchingGraph", name := "setEdge", desc := "(IIZ)I" } : Jvm.MethodName) ({ cls := "MatchingGraph", name := "setEdge", desc := "(IIZ)I" } : Jvm.MethodName)) ∈ WS := ws_tin 604 (by decide +kernel) (by decide +kernel)
theorem q_605 : (Jvm.Cond.code ({ cls := "MatchingGraph", name := "setEdge", desc := "(IIZ)I" } : Jvm.MethodName) prog_1_method_3_code (5 : Nat) (Option.some Jvm.ClassFile.FieldType.int)) ∈ WS := ws_tin 605 (by decide +kernel) (by decide +kernel)
theorem q_606 : (Jvm.Cond.methodLink "MatchingGraph" (79 : Nat) ({ cls := "MatchingGraph", name := "requireDifferent", desc := "(II)V" } : Jvm.MethodName)) ∈ WS := ws_tin 606 (by decide +kernel) (by decide +kernel)
theorem q_607 : (Jvm.Cond.static ({ cls := "MatchingGraph", name := "requireDifferent", desc := "(II)V" } : Jvm.MethodName)) ∈ WS := ws_tin 607 (by decide +kernel) (by decide +kernel)
theorem q_608 : (Jvm.Cond.code ({ cls := "MatchingGraph", name := "requireDifferent", desc := "(II)V" } : Jvm.MethodName) prog_1_method_40_code (2 : Nat) (Option.none : Option Jvm.ClassFile.FieldType)) ∈ WS := ws_tin 608 (by decide +kernel) (by decide +kernel)
theorem q_610 : (Jvm.Cond.methodLink "MatchingGraph" (97 : Nat) ({ cls := "MatchingGraph$Matching", name := "part", desc := "(I)V" } : Jvm.MethodName)) ∈ WS := ws_tin 610 (by decide +kernel) (by decide +kernel)
theorem q_611 : (Jvm.Cond.instanceMethod ({ cls := "MatchingGraph$Matching", name := "part", desc := "(I)V" } : Jvm.MethodName)) ∈ WS := ws_tin 611 (by decide +kernel) (by decide +kernel)
theorem q_612 : (Jvm.Cond.selects "MatchingGraph$Matching" ({ cls := "MatchingGraph$Matching", name := "part", desc := "(I)V" } : Jvm.MethodName) ({ cls := "MatchingGraph$Matching", name := "part", desc := "(I)V" } : Jvm.MethodName)) ∈ WS := ws_tin 612 (by decide +kernel) (by decide +kernel)
theorem q_613 : (Jvm.Cond.code ({ cls := "MatchingGraph$Matching", name := "part", desc := "(I)V" } : Jvm.MethodName) prog_5_method_7_code (3 : Nat) (Option.none : Option Jvm.ClassFile.FieldType)) ∈ WS := ws_tin 613 (by decide +kernel) (by decide +kernel)
theorem q_614 : (Jvm.Cond.methodLink "MatchingGraphLaw" (92 : Nat) ({ cls := "MatchingGraphLaw", name := "append", desc := "(LMatchingGraph;I[J)I" } : Jvm.MethodName)) ∈ WS := ws_tin 614 (by decide +kernel) (by decide +kernel)
theorem q_615 : (Jvm.Cond.static ({ cls := "MatchingGraphLaw", name := "append", desc := "(LMatchingGraph;I[J)I" } : Jvm.MethodName)) ∈ WS := ws_tin 615 (by decide +kernel) (by decide +kernel)
theorem q_616 : (Jvm.Cond.codeWith ({ cls := "MatchingGraphLaw", name := "append", desc := "(LMatchingGraph;I[J)I" } : Jvm.MethodName) method_5_code (4 : Nat) (Option.some Jvm.ClassFile.FieldType.int) [((0 : Nat), (9 : Nat), (12 : Nat), (13 : Nat)), ((0 : Nat), (9 : Nat), (15 : Nat), (24 : Nat))]) ∈ WS := ws_tin 616 (by decide +kernel) (by decide +kernel)
theorem q_617 : (Jvm.Cond.classLink "MatchingGraphLaw" (24 : Nat) "java/lang/IllegalStateException") ∈ WS := ws_tin 617 (by decide +kernel) (by decide +kernel)
theorem q_618 : (Jvm.Cond.methodLink "MatchingGraphLaw" (21 : Nat) ({ cls := "MatchingGraph", name := "append", desc := "(I)I" } : Jvm.MethodName)) ∈ WS := ws_tin 618 (by decide +kernel) (by decide +kernel)
theorem q_619 : (Jvm.Cond.instanceMethod ({ cls := "MatchingGraph", name := "append", desc := "(I)I" } : Jvm.MethodName)) ∈ WS := ws_tin 619 (by decide +kernel) (by decide +kernel)
theorem q_620 : (Jvm.Cond.selects "MatchingGraph" ({ cls := "MatchingGraph", name := "append", desc := "(I)I" } : Jvm.MethodName) ({ cls := "MatchingGraph", name := "append", desc := "(I)I" } : Jvm.MethodName)) ∈ WS := ws_tin 620 (by decide +kernel) (by decide +kernel)
theorem q_621 : (Jvm.Cond.code ({ cls := "MatchingGraph", name := "append", desc := "(I)I" } : Jvm.MethodName) prog_1_method_4_code (2 : Nat) (Option.some Jvm.ClassFile.FieldType.int)) ∈ WS := ws_tin 621 (by decide +kernel) (by decide +kernel)
theorem q_624 : (Jvm.Cond.methodLink "MatchingGraph" (110 : Nat) ({ cls := "MatchingGraph$Input", name := "add", desc := "(I)V" } : Jvm.MethodName)) ∈ WS := ws_tin 624 (by decide +kernel) (by decide +kernel)
theorem q_625 : (Jvm.Cond.instanceMethod ({ cls := "MatchingGraph$Input", name := "add", desc := "(I)V" } : Jvm.MethodName)) ∈ WS := ws_tin 625 (by decide +kernel) (by decide +kernel)
theorem q_626 : (Jvm.Cond.selects "MatchingGraph$Input" ({ cls := "MatchingGraph$Input", name := "add", desc := "(I)V" } : Jvm.MethodName) ({ cls := "MatchingGraph$Input", name := "add", desc := "(I)V" } : Jvm.MethodName)) ∈ WS := ws_tin 626 (by decide +kernel) (by decide +kernel)
theorem q_627 : (Jvm.Cond.code ({ cls := "MatchingGraph$Input", name := "add", desc := "(I)V" } : Jvm.MethodName) prog_4_method_2_code (2 : Nat) (Option.none : Option Jvm.ClassFile.FieldType)) ∈ WS := ws_tin 627 (by decide +kernel) (by decide +kernel)
theorem q_628 : (Jvm.Cond.methodLink "MatchingGraphLaw" (103 : Nat) ({ cls := "MatchingGraphLaw", name := "load", desc := "(LMatchingGraph;[J)I" } : Jvm.MethodName)) ∈ WS := ws_tin 628 (by decide +kernel) (by decide +kernel)
theorem q_629 : (Jvm.Cond.static ({ cls := "MatchingGraphLaw", name := "load", desc := "(LMatchingGraph;[J)I" } : Jvm.MethodName)) ∈ WS := ws_tin 629 (by decide +kernel) (by decide +kernel)
theorem q_630 : (Jvm.Cond.codeWith ({ cls := "MatchingGraphLaw", name := "load", desc := "(LMatchingGraph;[J)I" } : Jvm.MethodName) method_6_code (3 : Nat) (Option.some Jvm.ClassFile.FieldType.int) [((0 : Nat), (8 : Nat), (11 : Nat), (13 : Nat))]) ∈ WS := ws_tin 630 (by decide +kernel) (by decide +kernel)
theorem q_631 : (Jvm.Cond.methodLink "MatchingGraphLaw" (26 : Nat) ({ cls := "MatchingGraph", name := "load", desc := "()I" } : Jvm.MethodName)) ∈ WS := ws_tin 631 (by decide +kernel) (by decide +kernel)
theorem q_632 : (Jvm.Cond.instanceMethod ({ cls := "MatchingGraph", name := "load", desc := "()I" } : Jvm.MethodName)) ∈ WS := ws_tin 632 (by decide +kernel) (by decide +kernel)
theorem q_633 : (Jvm.Cond.selects "MatchingGraph" ({ cls := "MatchingGraph", name := "load", desc := "()I" } : Jvm.MethodName) ({ cls := "MatchingGraph", name := "load", desc := "()I" } : Jvm.MethodName)) ∈ WS := ws_tin 633 (by decide +kernel) (by decide +kernel)
theorem q_634 : (Jvm.Cond.code ({ cls := "MatchingGraph", name := "load", desc := "()I" } : Jvm.MethodName) prog_1_method_7_code (4 : Nat) (Option.some Jvm.ClassFile.FieldType.int)) ∈ WS := ws_tin 634 (by decide +kernel) (by decide +kernel)
theorem q_635 : (Jvm.Cond.methodLink "MatchingGraph" (117 : Nat) ({ cls := "MatchingGraph$Input", name := "isComplete", desc := "(I)Z" } : Jvm.MethodName)) ∈ WS := ws_tin 635 (by decide +kernel) (by decide +kernel)
theorem q_636 : (Jvm.Cond.instanceMethod ({ cls := "MatchingGraph$Input", name := "isComplete", desc := "(I)Z" } : Jvm.MethodName)) ∈ WS := ws_tin 636 (by decide +kernel) (by decide +kernel)
theorem q_637 : (Jvm.Cond.selects "MatchingGraph$Input" ({ cls := "MatchingGraph$Input", name := "isComplete", desc := "(I)Z" } : Jvm.MethodName) ({ cls := "MatchingGraph$Input", name := "isComplete", desc := "(I)Z" } : Jvm.MethodName)) ∈ WS := ws_tin 637 (by decide +kernel) (by decide +kernel)
theorem q_638 : (Jvm.Cond.code ({ cls := "MatchingGraph$Input", name := "isComplete", desc := "(I)Z" } : Jvm.MethodName) prog_4_method_4_code (4 : Nat) (Option.some Jvm.ClassFile.FieldType.boolean)) ∈ WS := ws_tin 638 (by decide +kernel) (by decide +kernel)
theorem q_640 : (Jvm.Cond.methodLink "MatchingGraph" (123 : Nat) ({ cls := "MatchingGraph$Input", name := "isMarked", desc := "(I)Z" } : Jvm.MethodName)) ∈ WS := ws_tin 640 (by decide +kernel) (by decide +kernel)
theorem q_641 : (Jvm.Cond.instanceMethod ({ cls := "MatchingGraph$Input", name := "isMarked", desc := "(I)Z" } : Jvm.MethodName)) ∈ WS := ws_tin 641 (by decide +kernel) (by decide +kernel)
theorem q_642 : (Jvm.Cond.selects "MatchingGraph$Input" ({ cls := "MatchingGraph$Input", name := "isMarked", desc := "(I)Z" } : Jvm.MethodName) ({ cls := "MatchingGraph$Input", name := "isMarked", desc := "(I)Z" } : Jvm.MethodName)) ∈ WS := ws_tin 642 (by decide +kernel) (by decide +kernel)
theorem q_643 : (Jvm.Cond.code ({ cls := "MatchingGraph$Input", name := "isMarked", desc := "(I)Z" } : Jvm.MethodName) prog_4_method_7_code (2 : Nat) (Option.some Jvm.ClassFile.FieldType.boolean)) ∈ WS := ws_tin 643 (by decide +kernel) (by decide +kernel)
theorem q_644 : (Jvm.Cond.methodLink "MatchingGraph" (126 : Nat) ({ cls := "MatchingGraph$Input", name := "nodeAt", desc := "(I)I" } : Jvm.MethodName)) ∈ WS := ws_tin 644 (by decide +kernel) (by decide +kernel)
theorem q_645 : (Jvm.Cond.methodLink "MatchingGraph" (129 : Nat) ({ cls := "MatchingGraph", name := "addRead", desc := "(IIZ)I" } : Jvm.MethodName)) ∈ WS := ws_tin 645 (by decide +kernel) (by decide +kernel)
theorem q_647 : (Jvm.Cond.instanceMethod ({ cls := "MatchingGraph", name := "addRead", desc := "(IIZ)I" } : Jvm.MethodName)) ∈ WS := ws_tin 647 (by decide +kernel) (by decide +kernel)
theorem q_648 : (Jvm.Cond.code ({ cls := "MatchingGraph", name := "addRead", desc := "(IIZ)I" } : Jvm.MethodName) prog_1_method_8_code (5 : Nat) (Option.some Jvm.ClassFile.FieldType.int)) ∈ WS := ws_tin 648 (by decide +kernel) (by decide +kernel)
theorem q_649 : (Jvm.Cond.methodLink "MatchingGraph" (136 : Nat) ({ cls := "MatchingGraph$Matching", name := "join", desc := "(II)V" } : Jvm.MethodName)) ∈ WS := ws_tin 649 (by decide +kernel) (by decide +kernel)
theorem q_650 : (Jvm.Cond.methodLink "MatchingGraphLaw" (107 : Nat) ({ cls := "MatchingGraphLaw", name := "match", desc := "(LMatchingGraph;II[J)I" } : Jvm.MethodName)) ∈ WS := ws_tin 650 (by decide +kernel) (by decide +kernel)
theorem q_651 : (Jvm.Cond.static ({ cls := "MatchingGraphLaw", name := "match", desc := "(LMatchingGraph;II[J)I" } : Jvm.MethodName)) ∈ WS := ws_tin 651 (by decide +kernel) (by decide +kernel)
theorem q_652 : (Jvm.Cond.codeWith ({ cls := "MatchingGraphLaw", name := "match", desc := "(LMatchingGraph;II[J)I" } : Jvm.MethodName) method_7_code (5 : Nat) (Option.some Jvm.ClassFile.FieldType.int) [((0 : Nat), (10 : Nat), (13 : Nat), (19 : Nat)), ((0 : Nat), (10 : Nat), (17 : Nat), (24 : Nat))]) ∈ WS := ws_tin 652 (by decide +kernel) (by decide +kernel)
theorem q_653 : (Jvm.Cond.methodLink "MatchingGraphLaw" (30 : Nat) ({ cls := "MatchingGraph", name := "match", desc := "(II)I" } : Jvm.MethodName)) ∈ WS := ws_tin 653 (by decide +kernel) (by decide +kernel)
theorem q_654 : (Jvm.Cond.instanceMethod ({ cls := "MatchingGraph", name := "match", desc := "(II)I" } : Jvm.MethodName)) ∈ WS := ws_tin 654 (by decide +kernel) (by decide +kernel)
theorem q_655 : (Jvm.Cond.selects "MatchingGraph" ({ cls := "MatchingGraph", name := "match", desc := "(II)I" } : Jvm.MethodName) ({ cls := "MatchingGraph", name := "match", desc := "(II)I" } : Jvm.MethodName)) ∈ WS := ws_tin 655 (by decide +kernel) (by decide +kernel)
theorem q_656 : (Jvm.Cond.code ({ cls := "MatchingGraph", name := "match", desc := "(II)I" } : Jvm.MethodName) prog_1_method_9_code (3 : Nat) (Option.some Jvm.ClassFile.FieldType.int)) ∈ WS := ws_tin 656 (by decide +kernel) (by decide +kernel)
theorem q_658 : (Jvm.Cond.methodLink "MatchingGraphLaw" (111 : Nat) ({ cls := "MatchingGraphLaw", name := "unmatch", desc := "(LMatchingGraph;I[J)I" } : Jvm.MethodName)) ∈ WS := ws_tin 658 (by decide +kernel) (by decide +kernel)
theorem q_659 : (Jvm.Cond.static ({ cls := "MatchingGraphLaw", name := "unmatch", desc := "(LMatchingGraph;I[J)I" } : Jvm.MethodName)) ∈ WS := ws_tin 659 (by decide +kernel) (by decide +kernel)
theorem q_660 : (Jvm.Cond.codeWith ({ cls := "MatchingGraphLaw", name := "unmatch", desc := "(LMatchingGraph;I[J)I" } : Jvm.MethodName) method_8_code (4 : Nat) (Option.some Jvm.ClassFile.FieldType.int) [((0 : Nat), (9 : Nat), (12 : Nat), (19 : Nat)), ((0 : Nat), (9 : Nat), (15 : Nat), (24 : Nat))]) ∈ WS := ws_tin 660 (by decide +kernel) (by decide +kernel)
theorem q_661 : (Jvm.Cond.methodLink "MatchingGraphLaw" (34 : Nat) ({ cls := "MatchingGraph", name := "unmatch", desc := "(I)I" } : Jvm.MethodName)) ∈ WS := ws_tin 661 (by decide +kernel) (by decide +kernel)
theorem q_662 : (Jvm.Cond.instanceMethod ({ cls := "MatchingGraph", name := "unmatch", desc := "(I)I" } : Jvm.MethodName)) ∈ WS := ws_tin 662 (by decide +kernel) (by decide +kernel)
theorem q_663 : (Jvm.Cond.selects "MatchingGraph" ({ cls := "MatchingGraph", name := "unmatch", desc := "(I)I" } : Jvm.MethodName) ({ cls := "MatchingGraph", name := "unmatch", desc := "(I)I" } : Jvm.MethodName)) ∈ WS := ws_tin 663 (by decide +kernel) (by decide +kernel)
theorem q_664 : (Jvm.Cond.code ({ cls := "MatchingGraph", name := "unmatch", desc := "(I)I" } : Jvm.MethodName) prog_1_method_10_code (3 : Nat) (Option.some Jvm.ClassFile.FieldType.int)) ∈ WS := ws_tin 664 (by decide +kernel) (by decide +kernel)
theorem q_666 : (Jvm.Cond.methodLink "MatchingGraphLaw" (114 : Nat) ({ cls := "MatchingGraphLaw", name := "augment", desc := "(LMatchingGraph;I[J)I" } : Jvm.MethodName)) ∈ WS := ws_tin 666 (by decide +kernel) (by decide +kernel)
theorem q_667 : (Jvm.Cond.static ({ cls := "MatchingGraphLaw", name := "augment", desc := "(LMatchingGraph;I[J)I" } : Jvm.MethodName)) ∈ WS := ws_tin 667 (by decide +kernel) (by decide +kernel)
theorem q_668 : (Jvm.Cond.codeWith ({ cls := "MatchingGraphLaw", name := "augment", desc := "(LMatchingGraph;I[J)I" } : Jvm.MethodName) method_9_code (4 : Nat) (Option.some Jvm.ClassFile.FieldType.int) [((0 : Nat), (9 : Nat), (12 : Nat), (19 : Nat)), ((0 : Nat), (9 : Nat), (15 : Nat), (24 : Nat))]) ∈ WS := ws_tin 668 (by decide +kernel) (by decide +kernel)
theorem q_669 : (Jvm.Cond.methodLink "MatchingGraphLaw" (37 : Nat) ({ cls := "MatchingGraph", name := "augment", desc := "(I)I" } : Jvm.MethodName)) ∈ WS := ws_tin 669 (by decide +kernel) (by decide +kernel)
theorem q_670 : (Jvm.Cond.instanceMethod ({ cls := "MatchingGraph", name := "augment", desc := "(I)I" } : Jvm.MethodName)) ∈ WS := ws_tin 670 (by decide +kernel) (by decide +kernel)
theorem q_671 : (Jvm.Cond.selects "MatchingGraph" ({ cls := "MatchingGraph", name := "augment", desc := "(I)I" } : Jvm.MethodName) ({ cls := "MatchingGraph", name := "augment", desc := "(I)I" } : Jvm.MethodName)) ∈ WS := ws_tin 671 (by decide +kernel) (by decide +kernel)
theorem q_672 : (Jvm.Cond.code ({ cls := "MatchingGraph", name := "augment", desc := "(I)I" } : Jvm.MethodName) prog_1_method_11_code (2 : Nat) (Option.some Jvm.ClassFile.FieldType.int)) ∈ WS := ws_tin 672 (by decide +kernel) (by decide +kernel)
theorem q_673 : (Jvm.Cond.methodLink "MatchingGraphLaw" (125 : Nat) ({ cls := "MatchingGraphLaw", name := "undo", desc := "(LMatchingGraph;[J)I" } : Jvm.MethodName)) ∈ WS := ws_tin 673 (by decide +kernel) (by decide +kernel)
theorem q_674 : (Jvm.Cond.static ({ cls := "MatchingGraphLaw", name := "undo", desc := "(LMatchingGraph;[J)I" } : Jvm.MethodName)) ∈ WS := ws_tin 674 (by decide +kernel) (by decide +kernel)
theorem q_675 : (Jvm.Cond.codeWith ({ cls := "MatchingGraphLaw", name := "undo", desc := "(LMatchingGraph;[J)I" } : Jvm.MethodName) method_10_code (3 : Nat) (Option.some Jvm.ClassFile.FieldType.int) [((0 : Nat), (8 : Nat), (11 : Nat), (24 : Nat))]) ∈ WS := ws_tin 675 (by decide +kernel) (by decide +kernel)
theorem q_676 : (Jvm.Cond.methodLink "MatchingGraphLaw" (40 : Nat) ({ cls := "MatchingGraph", name := "undo", desc := "()I" } : Jvm.MethodName)) ∈ WS := ws_tin 676 (by decide +kernel) (by decide +kernel)
theorem q_677 : (Jvm.Cond.instanceMethod ({ cls := "MatchingGraph", name := "undo", desc := "()I" } : Jvm.MethodName)) ∈ WS := ws_tin 677 (by decide +kernel) (by decide +kernel)
theorem q_678 : (Jvm.Cond.selects "MatchingGraph" ({ cls := "MatchingGraph", name := "undo", desc := "()I" } : Jvm.MethodName) ({ cls := "MatchingGraph", name := "undo", desc := "()I" } : Jvm.MethodName)) ∈ WS := ws_tin 678 (by decide +kernel) (by decide +kernel)
theorem q_679 : (Jvm.Cond.code ({ cls := "MatchingGraph", name := "undo", desc := "()I" } : Jvm.MethodName) prog_1_method_16_code (1 : Nat) (Option.some Jvm.ClassFile.FieldType.int)) ∈ WS := ws_tin 679 (by decide +kernel) (by decide +kernel)
theorem q_681 : (Jvm.Cond.methodLink "MatchingGraph" (184 : Nat) ({ cls := "MatchingGraph$History", name := "restore", desc := "(LMatchingGraph$Graph;LMatchingGraph$Matching;)V" } : Jvm.MethodName)) ∈ WS := ws_tin 681 (by decide +kernel) (by decide +kernel)
theorem q_682 : (Jvm.Cond.instanceMethod ({ cls := "MatchingGraph$History", name := "restore", desc := "(LMatchingGraph$Graph;LMatchingGraph$Matching;)V" } : Jvm.MethodName)) ∈ WS := ws_tin 682 (by decide +kernel) (by decide +kernel)
theorem q_683 : (Jvm.Cond.selects "MatchingGraph$History" ({ cls := "MatchingGraph$History", name := "restore", desc := "(LMatchingGraph$Graph;LMatchingGraph$Matching;)V" } : Jvm.MethodName) ({ cls := "MatchingGraph$History", name := "restore", desc := "(LMatchingGraph$Graph;LMatchingGraph$Matching;)V" } : Jvm.MethodName)) ∈ WS := ws_tin 683 (by decide +kernel) (by decide +kernel)
theorem q_684 : (Jvm.Cond.code ({ cls := "MatchingGraph$History", name := "restore", desc := "(LMatchingGraph$Graph;LMatchingGraph$Matching;)V" } : Jvm.MethodName) prog_3_method_4_code (3 : Nat) (Option.none : Option Jvm.ClassFile.FieldType)) ∈ WS := ws_tin 684 (by decide +kernel) (by decide +kernel)
theorem q_685 : (Jvm.Cond.methodLink "MatchingGraph$History" (49 : Nat) ({ cls := "MatchingGraph$Graph", name := "copyFrom", desc := "([I)V" } : Jvm.MethodName)) ∈ WS := ws_tin 685 (by decide +kernel) (by decide +kernel)
theorem q_686 : (Jvm.Cond.instanceMethod ({ cls := "MatchingGraph$Graph", name := "copyFrom", desc := "([I)V" } : Jvm.MethodName)) ∈ WS := ws_tin 686 (by decide +kernel) (by decide +kernel)
theorem q_687 : (Jvm.Cond.selects "MatchingGraph$Graph" ({ cls := "MatchingGraph$Graph", name := "copyFrom", desc := "([I)V" } : Jvm.MethodName) ({ cls := "MatchingGraph$Graph", name := "copyFrom", desc := "([I)V" } : Jvm.MethodName)) ∈ WS := ws_tin 687 (by decide +kernel) (by decide +kernel)
theorem q_688 : (Jvm.Cond.code ({ cls := "MatchingGraph$Graph", name := "copyFrom", desc := "([I)V" } : Jvm.MethodName) prog_2_method_3_code (2 : Nat) (Option.none : Option Jvm.ClassFile.FieldType)) ∈ WS := ws_tin 688 (by decide +kernel) (by decide +kernel)
theorem q_689 : (Jvm.Cond.methodLink "MatchingGraph$Graph" (28 : Nat) ({ cls := "java/lang/System", name := "arraycopy", desc := "(Ljava/lang/Object;ILjava/lang/Object;II)V" } : Jvm.MethodName)) ∈ WS := ws_tin 689 (by decide +kernel) (by decide +kernel)
theorem q_690 : (Jvm.Cond.methodLink "MatchingGraph$History" (53 : Nat) ({ cls := "MatchingGraph$Matching", name := "copyFrom", desc := "([I)V" } : Jvm.MethodName)) ∈ WS := ws_tin 690 (by decide +kernel) (by decide +kernel)
theorem q_691 : (Jvm.Cond.methodLink "MatchingGraphLaw" (128 : Nat) ({ cls := "MatchingGraphLaw", name := "way", desc := "(LMatchingGraph;I[J)I" } : Jvm.MethodName)) ∈ WS := ws_tin 691 (by decide +kernel) (by decide +kernel)
theorem q_692 : (Jvm.Cond.static ({ cls := "MatchingGraphLaw", name := "way", desc := "(LMatchingGraph;I[J)I" } : Jvm.MethodName)) ∈ WS := ws_tin 692 (by decide +kernel) (by decide +kernel)
theorem q_693 : (Jvm.Cond.codeWith ({ cls := "MatchingGraphLaw", name := "way", desc := "(LMatchingGraph;I[J)I" } : Jvm.MethodName) method_11_code (4 : Nat) (Option.some Jvm.ClassFile.FieldType.int) [((0 : Nat), (9 : Nat), (12 : Nat), (19 : Nat)), ((0 : Nat), (9 : Nat), (15 : Nat), (24 : Nat))]) ∈ WS := ws_tin 693 (by decide +kernel) (by decide +kernel)
theorem q_694 : (Jvm.Cond.methodLink "MatchingGraphLaw" (43 : Nat) ({ cls := "MatchingGraph", name := "way", desc := "(I)I" } : Jvm.MethodName)) ∈ WS := ws_tin 694 (by decide +kernel) (by decide +kernel)
theorem q_695 : (Jvm.Cond.methodLink "MatchingGraphLaw" (131 : Nat) ({ cls := "MatchingGraphLaw", name := "wayNode", desc := "(LMatchingGraph;II[J)I" } : Jvm.MethodName)) ∈ WS := ws_tin 695 (by decide +kernel) (by decide +kernel)
theorem q_696 : (Jvm.Cond.static ({ cls := "MatchingGraphLaw", name := "wayNode", desc := "(LMatchingGraph;II[J)I" } : Jvm.MethodName)) ∈ WS := ws_tin 696 (by decide +kernel) (by decide +kernel)
theorem q_697 : (Jvm.Cond.codeWith ({ cls := "MatchingGraphLaw", name := "wayNode", desc := "(LMatchingGraph;II[J)I" } : Jvm.MethodName) method_12_code (5 : Nat) (Option.some Jvm.ClassFile.FieldType.int) [((0 : Nat), (10 : Nat), (13 : Nat), (19 : Nat)), ((0 : Nat), (10 : Nat), (17 : Nat), (24 : Nat))]) ∈ WS := ws_tin 697 (by decide +kernel) (by decide +kernel)
theorem q_698 : (Jvm.Cond.methodLink "MatchingGraphLaw" (46 : Nat) ({ cls := "MatchingGraph", name := "wayNode", desc := "(II)I" } : Jvm.MethodName)) ∈ WS := ws_tin 698 (by decide +kernel) (by decide +kernel)
theorem q_699 : (Jvm.Cond.instanceMethod ({ cls := "MatchingGraph", name := "wayNode", desc := "(II)I" } : Jvm.MethodName)) ∈ WS := ws_tin 699 (by decide +kernel) (by decide +kernel)
theorem q_700 : (Jvm.Cond.selects "MatchingGraph" ({ cls := "MatchingGraph", name := "wayNode", desc := "(II)I" } : Jvm.MethodName) ({ cls := "MatchingGraph", name := "wayNode", desc := "(II)I" } : Jvm.MethodName)) ∈ WS := ws_tin 700 (by decide +kernel) (by decide +kernel)
theorem q_701 : (Jvm.Cond.code ({ cls := "MatchingGraph", name := "wayNode", desc := "(II)I" } : Jvm.MethodName) prog_1_method_18_code (4 : Nat) (Option.some Jvm.ClassFile.FieldType.int)) ∈ WS := ws_tin 701 (by decide +kernel) (by decide +kernel)
theorem q_702 : (Jvm.Cond.methodLink "MatchingGraphLaw" (134 : Nat) ({ cls := "MatchingGraphLaw", name := "reach", desc := "(LMatchingGraph;IZ[J)I" } : Jvm.MethodName)) ∈ WS := ws_tin 702 (by decide +kernel) (by decide +kernel)
theorem q_703 : (Jvm.Cond.static ({ cls := "MatchingGraphLaw", name := "reach", desc := "(LMatchingGraph;IZ[J)I" } : Jvm.MethodName)) ∈ WS := ws_tin 703 (by decide +kernel) (by decide +kernel)
theorem q_704 : (Jvm.Cond.codeWith ({ cls := "MatchingGraphLaw", name := "reach", desc := "(LMatchingGraph;IZ[J)I" } : Jvm.MethodName) method_13_code (5 : Nat) (Option.some Jvm.ClassFile.FieldType.int) [((0 : Nat), (10 : Nat), (13 : Nat), (19 : Nat))]) ∈ WS := ws_tin 704 (by decide +kernel) (by decide +kernel)
theorem q_705 : (Jvm.Cond.methodLink "MatchingGraphLaw" (49 : Nat) ({ cls := "MatchingGraph", name := "reach", desc := "(IZ)I" } : Jvm.MethodName)) ∈ WS := ws_tin 705 (by decide +kernel) (by decide +kernel)
theorem q_706 : (Jvm.Cond.methodLink "MatchingGraphLaw" (142 : Nat) ({ cls := "MatchingGraphLaw", name := "firstMate", desc := "(LMatchingGraph;I[J)I" } : Jvm.MethodName)) ∈ WS := ws_tin 706 (by decide +kernel) (by decide +kernel)
theorem q_707 : (Jvm.Cond.static ({ cls := "MatchingGraphLaw", name := "firstMate", desc := "(LMatchingGraph;I[J)I" } : Jvm.MethodName)) ∈ WS := ws_tin 707 (by decide +kernel) (by decide +kernel)
theorem q_708 : (Jvm.Cond.codeWith ({ cls := "MatchingGraphLaw", name := "firstMate", desc := "(LMatchingGraph;I[J)I" } : Jvm.MethodName) method_14_code (4 : Nat) (Option.some Jvm.ClassFile.FieldType.int) [((0 : Nat), (9 : Nat), (12 : Nat), (19 : Nat))]) ∈ WS := ws_tin 708 (by decide +kernel) (by decide +kernel)
theorem q_709 : (Jvm.Cond.methodLink "MatchingGraphLaw" (53 : Nat) ({ cls := "MatchingGraph", name := "firstMate", desc := "(I)I" } : Jvm.MethodName)) ∈ WS := ws_tin 709 (by decide +kernel) (by decide +kernel)
theorem q_710 : (Jvm.Cond.methodLink "MatchingGraphLaw" (149 : Nat) ({ cls := "MatchingGraphLaw", name := "components", desc := "(LMatchingGraph;IZ[J)I" } : Jvm.MethodName)) ∈ WS := ws_tin 710 (by decide +kernel) (by decide +kernel)
theorem q_711 : (Jvm.Cond.static ({ cls := "MatchingGraphLaw", name := "components", desc := "(LMatchingGraph;IZ[J)I" } : Jvm.MethodName)) ∈ WS := ws_tin 711 (by decide +kernel) (by decide +kernel)
theorem q_712 : (Jvm.Cond.codeWith ({ cls := "MatchingGraphLaw", name := "components", desc := "(LMatchingGraph;IZ[J)I" } : Jvm.MethodName) method_15_code (5 : Nat) (Option.some Jvm.ClassFile.FieldType.int) [((0 : Nat), (10 : Nat), (13 : Nat), (13 : Nat))]) ∈ WS := ws_tin 712 (by decide +kernel) (by decide +kernel)
theorem q_713 : (Jvm.Cond.methodLink "MatchingGraphLaw" (56 : Nat) ({ cls := "MatchingGraph", name := "components", desc := "(IZ)I" } : Jvm.MethodName)) ∈ WS := ws_tin 713 (by decide +kernel) (by decide +kernel)
theorem q_714 : (Jvm.Cond.instanceMethod ({ cls := "MatchingGraph", name := "components", desc := "(IZ)I" } : Jvm.MethodName)) ∈ WS := ws_tin 714 (by decide +kernel) (by decide +kernel)
theorem q_715 : (Jvm.Cond.selects "MatchingGraph" ({ cls := "MatchingGraph", name := "components", desc := "(IZ)I" } : Jvm.MethodName) ({ cls := "MatchingGraph", name := "components", desc := "(IZ)I" } : Jvm.MethodName)) ∈ WS := ws_tin 715 (by decide +kernel) (by decide +kernel)
theorem q_716 : (Jvm.Cond.code ({ cls := "MatchingGraph", name := "components", desc := "(IZ)I" } : Jvm.MethodName) prog_1_method_24_code (3 : Nat) (Option.some Jvm.ClassFile.FieldType.int)) ∈ WS := ws_tin 716 (by decide +kernel) (by decide +kernel)
theorem q_718 : (Jvm.Cond.methodLink "MatchingGraphLaw" (152 : Nat) ({ cls := "MatchingGraphLaw", name := "ifChanged", desc := "(LMatchingGraph;II[J)I" } : Jvm.MethodName)) ∈ WS := ws_tin 718 (by decide +kernel) (by decide +kernel)
theorem q_719 : (Jvm.Cond.static ({ cls := "MatchingGraphLaw", name := "ifChanged", desc := "(LMatchingGraph;II[J)I" } : Jvm.MethodName)) ∈ WS := ws_tin 719 (by decide +kernel) (by decide +kernel)
theorem q_720 : (Jvm.Cond.codeWith ({ cls := "MatchingGraphLaw", name := "ifChanged", desc := "(LMatchingGraph;II[J)I" } : Jvm.MethodName) method_16_code (5 : Nat) (Option.some Jvm.ClassFile.FieldType.int) [((0 : Nat), (10 : Nat), (13 : Nat), (19 : Nat)), ((0 : Nat), (10 : Nat), (17 : Nat), (13 : Nat))]) ∈ WS := ws_tin 720 (by decide +kernel) (by decide +kernel)
theorem q_721 : (Jvm.Cond.methodLink "MatchingGraphLaw" (59 : Nat) ({ cls := "MatchingGraph", name := "ifChanged", desc := "(II)I" } : Jvm.MethodName)) ∈ WS := ws_tin 721 (by decide +kernel) (by decide +kernel)
theorem q_722 : (Jvm.Cond.instanceMethod ({ cls := "MatchingGraph", name := "ifChanged", desc := "(II)I" } : Jvm.MethodName)) ∈ WS := ws_tin 722 (by decide +kernel) (by decide +kernel)
theorem q_723 : (Jvm.Cond.selects "MatchingGraph" ({ cls := "MatchingGraph", name := "ifChanged", desc := "(II)I" } : Jvm.MethodName) ({ cls := "MatchingGraph", name := "ifChanged", desc := "(II)I" } : Jvm.MethodName)) ∈ WS := ws_tin 723 (by decide +kernel) (by decide +kernel)
theorem q_724 : (Jvm.Cond.code ({ cls := "MatchingGraph", name := "ifChanged", desc := "(II)I" } : Jvm.MethodName) prog_1_method_25_code (4 : Nat) (Option.some Jvm.ClassFile.FieldType.int)) ∈ WS := ws_tin 724 (by decide +kernel) (by decide +kernel)
theorem q_725 : (Jvm.Cond.methodLink "MatchingGraph" (232 : Nat) ({ cls := "MatchingGraph$Maxima", name := "numberWithout", desc := "(II)I" } : Jvm.MethodName)) ∈ WS := ws_tin 725 (by decide +kernel) (by decide +kernel)
theorem q_726 : (Jvm.Cond.instanceMethod ({ cls := "MatchingGraph$Maxima", name := "numberWithout", desc := "(II)I" } : Jvm.MethodName)) ∈ WS := ws_tin 726 (by decide +kernel) (by decide +kernel)
theorem q_727 : (Jvm.Cond.selects "MatchingGraph$Maxima" ({ cls := "MatchingGraph$Maxima", name := "numberWithout", desc := "(II)I" } : Jvm.MethodName) ({ cls := "MatchingGraph$Maxima", name := "numberWithout", desc := "(II)I" } : Jvm.MethodName)) ∈ WS := ws_tin 727 (by decide +kernel) (by decide +kernel)
theorem q_728 : (Jvm.Cond.code ({ cls := "MatchingGraph$Maxima", name := "numberWithout", desc := "(II)I" } : Jvm.MethodName) prog_6_method_9_code (4 : Nat) (Option.some Jvm.ClassFile.FieldType.int)) ∈ WS := ws_tin 728 (by decide +kernel) (by decide +kernel)
theorem q_729 : (Jvm.Cond.methodLink "MatchingGraph" (235 : Nat) ({ cls := "java/lang/Math", name := "max", desc := "(II)I" } : Jvm.MethodName)) ∈ WS := ws_tin 729 (by decide +kernel) (by decide +kernel)
theorem q_730 : (Jvm.Cond.static ({ cls := "java/lang/Math", name := "max", desc := "(II)I" } : Jvm.MethodName)) ∈ WS := ws_tin 730 (by decide +kernel) (by decide +kernel)
theorem q_731 : (Jvm.Cond.code ({ cls := "java/lang/Math", name := "max", desc := "(II)I" } : Jvm.MethodName) prog_15_method_65_code (2 : Nat) (Option.some Jvm.ClassFile.FieldType.int)) ∈ WS := ws_tin 731 (by decide +kernel) (by decide +kernel)
theorem q_732 : (Jvm.Cond.methodLink "MatchingGraphLaw" (155 : Nat) ({ cls := "MatchingGraphLaw", name := "node", desc := "(LMatchingGraph;II[J)I" } : Jvm.MethodName)) ∈ WS := ws_tin 732 (by decide +kernel) (by decide +kernel)
theorem q_733 : (Jvm.Cond.static ({ cls := "MatchingGraphLaw", name := "node", desc := "(LMatchingGraph;II[J)I" } : Jvm.MethodName)) ∈ WS := ws_tin 733 (by decide +kernel) (by decide +kernel)
theorem q_734 : (Jvm.Cond.codeWith ({ cls := "MatchingGraphLaw", name := "node", desc := "(LMatchingGraph;II[J)I" } : Jvm.MethodName) method_17_code (5 : Nat) (Option.some Jvm.ClassFile.FieldType.int) [((0 : Nat), (10 : Nat), (13 : Nat), (19 : Nat)), ((0 : Nat), (10 : Nat), (17 : Nat), (13 : Nat))]) ∈ WS := ws_tin 734 (by decide +kernel) (by decide +kernel)
theorem q_735 : (Jvm.Cond.methodLink "MatchingGraphLaw" (62 : Nat) ({ cls := "MatchingGraph", name := "node", desc := "(II)I" } : Jvm.MethodName)) ∈ WS := ws_tin 735 (by decide +kernel) (by decide +kernel)
theorem q_736 : (Jvm.Cond.methodLink "MatchingGraphLaw" (158 : Nat) ({ cls := "MatchingGraphLaw", name := "edge", desc := "(LMatchingGraph;III[J)I" } : Jvm.MethodName)) ∈ WS := ws_tin 736 (by decide +kernel) (by decide +kernel)
theorem q_737 : (Jvm.Cond.static ({ cls := "MatchingGraphLaw", name := "edge", desc := "(LMatchingGraph;III[J)I" } : Jvm.MethodName)) ∈ WS := ws_tin 737 (by decide +kernel) (by decide +kernel)
theorem q_738 : (Jvm.Cond.codeWith ({ cls := "MatchingGraphLaw", name := "edge", desc := "(LMatchingGraph;III[J)I" } : Jvm.MethodName) method_18_code (6 : Nat) (Option.some Jvm.ClassFile.FieldType.int) [((0 : Nat), (12 : Nat), (15 : Nat), (19 : Nat)), ((0 : Nat), (12 : Nat), (19 : Nat), (13 : Nat))]) ∈ WS := ws_tin 738 (by decide +kernel) (by decide +kernel)
theorem q_739 : (Jvm.Cond.methodLink "MatchingGraphLaw" (65 : Nat) ({ cls := "MatchingGraph", name := "edge", desc := "(III)I" } : Jvm.MethodName)) ∈ WS := ws_tin 739 (by decide +kernel) (by decide +kernel)
theorem q_740 : (Jvm.Cond.methodLink "MatchingGraphLaw" (162 : Nat) ({ cls := "MatchingGraphLaw", name := "count", desc := "(LMatchingGraph;I[J)I" } : Jvm.MethodName)) ∈ WS := ws_tin 740 (by decide +kernel) (by decide +kernel)
theorem q_741 : (Jvm.Cond.static ({ cls := "MatchingGraphLaw", name := "count", desc := "(LMatchingGraph;I[J)I" } : Jvm.MethodName)) ∈ WS := ws_tin 741 (by decide +kernel) (by decide +kernel)
theorem q_742 : (Jvm.Cond.codeWith ({ cls := "MatchingGraphLaw", name := "count", desc := "(LMatchingGraph;I[J)I" } : Jvm.MethodName) method_19_code (4 : Nat) (Option.some Jvm.ClassFile.FieldType.int) [((0 : Nat), (9 : Nat), (12 : Nat), (13 : Nat))]) ∈ WS := ws_tin 742 (by decide +kernel) (by decide +kernel)
theorem q_743 : (Jvm.Cond.methodLink "MatchingGraphLaw" (69 : Nat) ({ cls := "MatchingGraph", name := "count", desc := "(I)I" } : Jvm.MethodName)) ∈ WS := ws_tin 743 (by decide +kernel) (by decide +kernel)
theorem q_744 : (Jvm.Cond.methodLink "MatchingGraphLaw" (165 : Nat) ({ cls := "MatchingGraphLaw", name := "difference", desc := "(LMatchingGraph;I[J)I" } : Jvm.MethodName)) ∈ WS := ws_tin 744 (by decide +kernel) (by decide +kernel)
theorem q_745 : (Jvm.Cond.static ({ cls := "MatchingGraphLaw", name := "difference", desc := "(LMatchingGraph;I[J)I" } : Jvm.MethodName)) ∈ WS := ws_tin 745 (by decide +kernel) (by decide +kernel)
theorem q_746 : (Jvm.Cond.codeWith ({ cls := "MatchingGraphLaw", name := "difference", desc := "(LMatchingGraph;I[J)I" } : Jvm.MethodName) method_20_code (4 : Nat) (Option.some Jvm.ClassFile.FieldType.int) [((0 : Nat), (9 : Nat), (12 : Nat), (13 : Nat))]) ∈ WS := ws_tin 746 (by decide +kernel) (by decide +kernel)
theorem q_747 : (Jvm.Cond.methodLink "MatchingGraphLaw" (72 : Nat) ({ cls := "MatchingGraph", name := "difference", desc := "(I)I" } : Jvm.MethodName)) ∈ WS := ws_tin 747 (by decide +kernel) (by decide +kernel)
theorem q_748 : (Jvm.Cond.classLink "MatchingGraphLaw" (76 : Nat) "MatchingGraphModel") ∈ WS := ws_tin 748 (by decide +kernel) (by decide +kernel)
theorem q_749 : (Jvm.Cond.instantiable "MatchingGraphModel" (19 : Nat)) ∈ WS := ws_tin 749 (by decide +kernel) (by decide +kernel)
theorem q_750 : (Jvm.Cond.methodLink "MatchingGraphLaw" (78 : Nat) ({ cls := "MatchingGraphModel", name := "<init>", desc := "()V" } : Jvm.MethodName)) ∈ WS := ws_tin 750 (by decide +kernel) (by decide +kernel)
theorem q_751 : (Jvm.Cond.instanceMethod ({ cls := "MatchingGraphModel", name := "<init>", desc := "()V" } : Jvm.MethodName)) ∈ WS := ws_tin 751 (by decide +kernel) (by decide +kernel)
theorem q_752 : (Jvm.Cond.code ({ cls := "MatchingGraphModel", name := "<init>", desc := "()V" } : Jvm.MethodName) prog_9_method_1_code (1 : Nat) (Option.none : Option Jvm.ClassFile.FieldType)) ∈ WS := ws_tin 752 (by decide +kernel) (by decide +kernel)
theorem q_753 : (Jvm.Cond.methodLink "MatchingGraphModel" (1 : Nat) ({ cls := "java/lang/Object", name := "<init>", desc := "()V" } : Jvm.MethodName)) ∈ WS := ws_tin 753 (by decide +kernel) (by decide +kernel)
theorem q_754 : (Jvm.Cond.methodLink "MatchingGraphModel" (44 : Nat) ({ cls := "MatchingGraphModel", name := "clearAll", desc := "()V" } : Jvm.MethodName)) ∈ WS := ws_tin 754 (by decide +kernel) (by decide +kernel)
theorem q_756 : (Jvm.Cond.instanceMethod ({ cls := "MatchingGraphModel", name := "clearAll", desc := "()V" } : Jvm.MethodName)) ∈ WS := ws_tin 756 (by decide +kernel) (by decide +kernel)
theorem q_757 : (Jvm.Cond.code ({ cls := "MatchingGraphModel", name := "clearAll", desc := "()V" } : Jvm.MethodName) prog_9_method_8_code (2 : Nat) (Option.none : Option Jvm.ClassFile.FieldType)) ∈ WS := ws_tin 757 (by decide +kernel) (by decide +kernel)
theorem q_758 : (Jvm.Cond.fieldLink "MatchingGraphModel" (47 : Nat) "MatchingGraphModel" "thrown" "I") ∈ WS := ws_tin 758 (by decide +kernel) (by decide +kernel)
theorem q_759 : (Jvm.Cond.fieldLink "MatchingGraphModel" (7 : Nat) "MatchingGraphModel" "n" "I") ∈ WS := ws_tin 759 (by decide +kernel) (by decide +kernel)
theorem q_760 : (Jvm.Cond.fieldLink "MatchingGraphModel" (13 : Nat) "MatchingGraphModel" "adjacent" "[I") ∈ WS := ws_tin 760 (by decide +kernel) (by decide +kernel)
theorem q_761 : (Jvm.Cond.fieldLink "MatchingGraphModel" (17 : Nat) "MatchingGraphModel" "mate" "[I") ∈ WS := ws_tin 761 (by decide +kernel) (by decide +kernel)
theorem q_762 : (Jvm.Cond.fieldLink "MatchingGraphModel" (54 : Nat) "MatchingGraphModel" "kept" "I") ∈ WS := ws_tin 762 (by decide +kernel) (by decide +kernel)
theorem q_763 : (Jvm.Cond.fieldLink "MatchingGraphModel" (20 : Nat) "MatchingGraphModel" "old" "[I") ∈ WS := ws_tin 763 (by decide +kernel) (by decide +kernel)
theorem q_764 : (Jvm.Cond.fieldLink "MatchingGraphModel" (118 : Nat) "MatchingGraphModel" "length" "I") ∈ WS := ws_tin 764 (by decide +kernel) (by decide +kernel)
theorem q_765 : (Jvm.Cond.fieldLink "MatchingGraphModel" (23 : Nat) "MatchingGraphModel" "buffer" "[I") ∈ WS := ws_tin 765 (by decide +kernel) (by decide +kernel)
theorem q_766 : (Jvm.Cond.fieldLink "MatchingGraphModel" (26 : Nat) "MatchingGraphModel" "best" "[I") ∈ WS := ws_tin 766 (by decide +kernel) (by decide +kernel)
theorem q_767 : (Jvm.Cond.fieldLink "MatchingGraphModel" (29 : Nat) "MatchingGraphModel" "ways" "[I") ∈ WS := ws_tin 767 (by decide +kernel) (by decide +kernel)
theorem q_768 : (Jvm.Cond.fieldLink "MatchingGraphModel" (32 : Nat) "MatchingGraphModel" "first" "[I") ∈ WS := ws_tin 768 (by decide +kernel) (by decide +kernel)
theorem q_769 : (Jvm.Cond.fieldLink "MatchingGraphModel" (35 : Nat) "MatchingGraphModel" "path" "[I") ∈ WS := ws_tin 769 (by decide +kernel) (by decide +kernel)
theorem q_770 : (Jvm.Cond.fieldLink "MatchingGraphModel" (38 : Nat) "MatchingGraphModel" "next" "[I") ∈ WS := ws_tin 770 (by decide +kernel) (by decide +kernel)
theorem q_771 : (Jvm.Cond.fieldLink "MatchingGraphModel" (84 : Nat) "MatchingGraphModel" "oddReach" "I") ∈ WS := ws_tin 771 (by decide +kernel) (by decide +kernel)
theorem q_772 : (Jvm.Cond.fieldLink "MatchingGraphModel" (87 : Nat) "MatchingGraphModel" "evenReach" "I") ∈ WS := ws_tin 772 (by decide +kernel) (by decide +kernel)
theorem q_773 : (Jvm.Cond.fieldLink "MatchingGraphModel" (121 : Nat) "MatchingGraphModel" "place" "I") ∈ WS := ws_tin 773 (by decide +kernel) (by decide +kernel)
theorem q_774 : (Jvm.Cond.fieldLink "MatchingGraphModel" (124 : Nat) "MatchingGraphModel" "edges" "I") ∈ WS := ws_tin 774 (by decide +kernel) (by decide +kernel)
theorem q_775 : (Jvm.Cond.fieldLink "MatchingGraphModel" (41 : Nat) "MatchingGraphModel" "edge" "[I") ∈ WS := ws_tin 775 (by decide +kernel) (by decide +kernel)
theorem q_776 : (Jvm.Cond.fieldLink "MatchingGraphModel" (205 : Nat) "MatchingGraphModel" "hash" "J") ∈ WS := ws_tin 776 (by decide +kernel) (by decide +kernel)
theorem q_777 : (Jvm.Cond.lays "MatchingGraphModel" "MatchingGraphModel" "thrown" "I") ∈ WS := ws_tin 777 (by decide +kernel) (by decide +kernel)
theorem q_779 : (Jvm.Cond.lays "MatchingGraphModel" "MatchingGraphModel" "n" "I") ∈ WS := ws_tin 779 (by decide +kernel) (by decide +kernel)
theorem q_781 : (Jvm.Cond.laysFinal "MatchingGraphModel" "MatchingGraphModel" "adjacent" "[I") ∈ WS := ws_tin 781 (by decide +kernel) (by decide +kernel)
theorem q_783 : (Jvm.Cond.laysFinal "MatchingGraphModel" "MatchingGraphModel" "mate" "[I") ∈ WS := ws_tin 783 (by decide +kernel) (by decide +kernel)
theorem q_785 : (Jvm.Cond.lays "MatchingGraphModel" "MatchingGraphModel" "kept" "I") ∈ WS := ws_tin 785 (by decide +kernel) (by decide +kernel)
theorem q_787 : (Jvm.Cond.laysFinal "MatchingGraphModel" "MatchingGraphModel" "old" "[I") ∈ WS := ws_tin 787 (by decide +kernel) (by decide +kernel)
theorem q_789 : (Jvm.Cond.lays "MatchingGraphModel" "MatchingGraphModel" "length" "I") ∈ WS := ws_tin 789 (by decide +kernel) (by decide +kernel)
theorem q_791 : (Jvm.Cond.laysFinal "MatchingGraphModel" "MatchingGraphModel" "buffer" "[I") ∈ WS := ws_tin 791 (by decide +kernel) (by decide +kernel)
theorem q_793 : (Jvm.Cond.laysFinal "MatchingGraphModel" "MatchingGraphModel" "best" "[I") ∈ WS := ws_tin 793 (by decide +kernel) (by decide +kernel)
theorem q_795 : (Jvm.Cond.laysFinal "MatchingGraphModel" "MatchingGraphModel" "ways" "[I") ∈ WS := ws_tin 795 (by decide +kernel) (by decide +kernel)
theorem q_797 : (Jvm.Cond.laysFinal "MatchingGraphModel" "MatchingGraphModel" "first" "[I") ∈ WS := ws_tin 797 (by decide +kernel) (by decide +kernel)
theorem q_799 : (Jvm.Cond.laysFinal "MatchingGraphModel" "MatchingGraphModel" "path" "[I") ∈ WS := ws_tin 799 (by decide +kernel) (by decide +kernel)
theorem q_801 : (Jvm.Cond.laysFinal "MatchingGraphModel" "MatchingGraphModel" "next" "[I") ∈ WS := ws_tin 801 (by decide +kernel) (by decide +kernel)
theorem q_803 : (Jvm.Cond.lays "MatchingGraphModel" "MatchingGraphModel" "oddReach" "I") ∈ WS := ws_tin 803 (by decide +kernel) (by decide +kernel)
theorem q_805 : (Jvm.Cond.lays "MatchingGraphModel" "MatchingGraphModel" "evenReach" "I") ∈ WS := ws_tin 805 (by decide +kernel) (by decide +kernel)
theorem q_807 : (Jvm.Cond.lays "MatchingGraphModel" "MatchingGraphModel" "place" "I") ∈ WS := ws_tin 807 (by decide +kernel) (by decide +kernel)
theorem q_809 : (Jvm.Cond.lays "MatchingGraphModel" "MatchingGraphModel" "edges" "I") ∈ WS := ws_tin 809 (by decide +kernel) (by decide +kernel)
theorem q_811 : (Jvm.Cond.laysFinal "MatchingGraphModel" "MatchingGraphModel" "edge" "[I") ∈ WS := ws_tin 811 (by decide +kernel) (by decide +kernel)
theorem q_813 : (Jvm.Cond.lays "MatchingGraphModel" "MatchingGraphModel" "hash" "J") ∈ WS := ws_tin 813 (by decide +kernel) (by decide +kernel)
theorem q_816 : (Jvm.Cond.methodLink "MatchingGraphLaw" (85 : Nat) ({ cls := "MatchingGraphModel", name := "thrown", desc := "()I" } : Jvm.MethodName)) ∈ WS := ws_tin 816 (by decide +kernel) (by decide +kernel)
theorem q_817 : (Jvm.Cond.instanceMethod ({ cls := "MatchingGraphModel", name := "thrown", desc := "()I" } : Jvm.MethodName)) ∈ WS := ws_tin 817 (by decide +kernel) (by decide +kernel)
theorem q_818 : (Jvm.Cond.selects "MatchingGraphModel" ({ cls := "MatchingGraphModel", name := "thrown", desc := "()I" } : Jvm.MethodName) ({ cls := "MatchingGraphModel", name := "thrown", desc := "()I" } : Jvm.MethodName)) ∈ WS := ws_tin 818 (by decide +kernel) (by decide +kernel)
theorem q_819 : (Jvm.Cond.code ({ cls := "MatchingGraphModel", name := "thrown", desc := "()I" } : Jvm.MethodName) prog_9_method_2_code (1 : Nat) (Option.some Jvm.ClassFile.FieldType.int)) ∈ WS := ws_tin 819 (by decide +kernel) (by decide +kernel)
theorem q_820 : (Jvm.Cond.methodLink "MatchingGraphLaw" (84 : Nat) ({ cls := "MatchingGraphModel", name := "begin", desc := "(I)I" } : Jvm.MethodName)) ∈ WS := ws_tin 820 (by decide +kernel) (by decide +kernel)
theorem q_821 : (Jvm.Cond.instanceMethod ({ cls := "MatchingGraphModel", name := "begin", desc := "(I)I" } : Jvm.MethodName)) ∈ WS := ws_tin 821 (by decide +kernel) (by decide +kernel)
theorem q_822 : (Jvm.Cond.selects "MatchingGraphModel" ({ cls := "MatchingGraphModel", name := "begin", desc := "(I)I" } : Jvm.MethodName) ({ cls := "MatchingGraphModel", name := "begin", desc := "(I)I" } : Jvm.MethodName)) ∈ WS := ws_tin 822 (by decide +kernel) (by decide +kernel)
theorem q_823 : (Jvm.Cond.code ({ cls := "MatchingGraphModel", name := "begin", desc := "(I)I" } : Jvm.MethodName) prog_9_method_29_code (3 : Nat) (Option.some Jvm.ClassFile.FieldType.int)) ∈ WS := ws_tin 823 (by decide +kernel) (by decide +kernel)
theorem q_824 : (Jvm.Cond.methodLink "MatchingGraphModel" (50 : Nat) ({ cls := "MatchingGraphModel", name := "within", desc := "(III)Z" } : Jvm.MethodName)) ∈ WS := ws_tin 824 (by decide +kernel) (by decide +kernel)
theorem q_825 : (Jvm.Cond.static ({ cls := "MatchingGraphModel", name := "within", desc := "(III)Z" } : Jvm.MethodName)) ∈ WS := ws_tin 825 (by decide +kernel) (by decide +kernel)
theorem q_826 : (Jvm.Cond.code ({ cls := "MatchingGraphModel", name := "within", desc := "(III)Z" } : Jvm.MethodName) prog_9_method_3_code (3 : Nat) (Option.some Jvm.ClassFile.FieldType.boolean)) ∈ WS := ws_tin 826 (by decide +kernel) (by decide +kernel)
theorem q_827 : (Jvm.Cond.methodLink "MatchingGraphLaw" (91 : Nat) ({ cls := "MatchingGraphModel", name := "setEdge", desc := "(IIZ)I" } : Jvm.MethodName)) ∈ WS := ws_tin 827 (by decide +kernel) (by decide +kernel)
theorem q_828 : (Jvm.Cond.instanceMethod ({ cls := "MatchingGraphModel", name := "setEdge", desc := "(IIZ)I" } : Jvm.MethodName)) ∈ WS := ws_tin 828 (by decide +kernel) (by decide +kernel)
theorem q_829 : (Jvm.Cond.selects "MatchingGraphModel" ({ cls := "MatchingGraphModel", name := "setEdge", desc := "(IIZ)I" } : Jvm.MethodName) ({ cls := "MatchingGraphModel", name := "setEdge", desc := "(IIZ)I" } : Jvm.MethodName)) ∈ WS := ws_tin 829 (by decide +kernel) (by decide +kernel)
theorem q_830 : (Jvm.Cond.code ({ cls := "MatchingGraphModel", name := "setEdge", desc := "(IIZ)I" } : Jvm.MethodName) prog_9_method_30_code (5 : Nat) (Option.some Jvm.ClassFile.FieldType.int)) ∈ WS := ws_tin 830 (by decide +kernel) (by decide +kernel)
theorem q_831 : (Jvm.Cond.methodLink "MatchingGraphModel" (104 : Nat) ({ cls := "MatchingGraphModel", name := "isNode", desc := "(I)Z" } : Jvm.MethodName)) ∈ WS := ws_tin 831 (by decide +kernel) (by decide +kernel)
theorem q_833 : (Jvm.Cond.instanceMethod ({ cls := "MatchingGraphModel", name := "isNode", desc := "(I)Z" } : Jvm.MethodName)) ∈ WS := ws_tin 833 (by decide +kernel) (by decide +kernel)
theorem q_834 : (Jvm.Cond.code ({ cls := "MatchingGraphModel", name := "isNode", desc := "(I)Z" } : Jvm.MethodName) prog_9_method_6_code (2 : Nat) (Option.some Jvm.ClassFile.FieldType.boolean)) ∈ WS := ws_tin 834 (by decide +kernel) (by decide +kernel)
theorem q_835 : (Jvm.Cond.methodLink "MatchingGraphModel" (108 : Nat) ({ cls := "MatchingGraphModel", name := "keep", desc := "()V" } : Jvm.MethodName)) ∈ WS := ws_tin 835 (by decide +kernel) (by decide +kernel)
theorem q_837 : (Jvm.Cond.instanceMethod ({ cls := "MatchingGraphModel", name := "keep", desc := "()V" } : Jvm.MethodName)) ∈ WS := ws_tin 837 (by decide +kernel) (by decide +kernel)
theorem q_838 : (Jvm.Cond.code ({ cls := "MatchingGraphModel", name := "keep", desc := "()V" } : Jvm.MethodName) prog_9_method_12_code (2 : Nat) (Option.none : Option Jvm.ClassFile.FieldType)) ∈ WS := ws_tin 838 (by decide +kernel) (by decide +kernel)
theorem q_839 : (Jvm.Cond.methodLink "MatchingGraphModel" (61 : Nat) ({ cls := "MatchingGraphModel", name := "has", desc := "(II)Z" } : Jvm.MethodName)) ∈ WS := ws_tin 839 (by decide +kernel) (by decide +kernel)
theorem q_840 : (Jvm.Cond.static ({ cls := "MatchingGraphModel", name := "has", desc := "(II)Z" } : Jvm.MethodName)) ∈ WS := ws_tin 840 (by decide +kernel) (by decide +kernel)
theorem q_841 : (Jvm.Cond.code ({ cls := "MatchingGraphModel", name := "has", desc := "(II)Z" } : Jvm.MethodName) prog_9_method_4_code (2 : Nat) (Option.some Jvm.ClassFile.FieldType.boolean)) ∈ WS := ws_tin 841 (by decide +kernel) (by decide +kernel)
theorem q_842 : (Jvm.Cond.methodLink "MatchingGraphModel" (111 : Nat) ({ cls := "MatchingGraphModel", name := "flip", desc := "(II)V" } : Jvm.MethodName)) ∈ WS := ws_tin 842 (by decide +kernel) (by decide +kernel)
theorem q_844 : (Jvm.Cond.instanceMethod ({ cls := "MatchingGraphModel", name := "flip", desc := "(II)V" } : Jvm.MethodName)) ∈ WS := ws_tin 844 (by decide +kernel) (by decide +kernel)
theorem q_845 : (Jvm.Cond.code ({ cls := "MatchingGraphModel", name := "flip", desc := "(II)V" } : Jvm.MethodName) prog_9_method_9_code (3 : Nat) (Option.none : Option Jvm.ClassFile.FieldType)) ∈ WS := ws_tin 845 (by decide +kernel) (by decide +kernel)
theorem q_846 : (Jvm.Cond.methodLink "MatchingGraphModel" (114 : Nat) ({ cls := "MatchingGraphModel", name := "part", desc := "(I)V" } : Jvm.MethodName)) ∈ WS := ws_tin 846 (by decide +kernel) (by decide +kernel)
theorem q_848 : (Jvm.Cond.instanceMethod ({ cls := "MatchingGraphModel", name := "part", desc := "(I)V" } : Jvm.MethodName)) ∈ WS := ws_tin 848 (by decide +kernel) (by decide +kernel)
theorem q_849 : (Jvm.Cond.code ({ cls := "MatchingGraphModel", name := "part", desc := "(I)V" } : Jvm.MethodName) prog_9_method_11_code (2 : Nat) (Option.none : Option Jvm.ClassFile.FieldType)) ∈ WS := ws_tin 849 (by decide +kernel) (by decide +kernel)
theorem q_850 : (Jvm.Cond.methodLink "MatchingGraphLaw" (94 : Nat) ({ cls := "MatchingGraphModel", name := "append", desc := "(I)I" } : Jvm.MethodName)) ∈ WS := ws_tin 850 (by decide +kernel) (by decide +kernel)
theorem q_851 : (Jvm.Cond.instanceMethod ({ cls := "MatchingGraphModel", name := "append", desc := "(I)I" } : Jvm.MethodName)) ∈ WS := ws_tin 851 (by decide +kernel) (by decide +kernel)
theorem q_852 : (Jvm.Cond.selects "MatchingGraphModel" ({ cls := "MatchingGraphModel", name := "append", desc := "(I)I" } : Jvm.MethodName) ({ cls := "MatchingGraphModel", name := "append", desc := "(I)I" } : Jvm.MethodName)) ∈ WS := ws_tin 852 (by decide +kernel) (by decide +kernel)
theorem q_853 : (Jvm.Cond.code ({ cls := "MatchingGraphModel", name := "append", desc := "(I)I" } : Jvm.MethodName) prog_9_method_31_code (2 : Nat) (Option.some Jvm.ClassFile.FieldType.int)) ∈ WS := ws_tin 853 (by decide +kernel) (by decide +kernel)
theorem q_854 : (Jvm.Cond.methodLink "MatchingGraphLaw" (98 : Nat) ({ cls := "MatchingGraphModel", name := "clearInput", desc := "()I" } : Jvm.MethodName)) ∈ WS := ws_tin 854 (by decide +kernel) (by decide +kernel)
theorem q_855 : (Jvm.Cond.instanceMethod ({ cls := "MatchingGraphModel", name := "clearInput", desc := "()I" } : Jvm.MethodName)) ∈ WS := ws_tin 855 (by decide +kernel) (by decide +kernel)
theorem q_856 : (Jvm.Cond.selects "MatchingGraphModel" ({ cls := "MatchingGraphModel", name := "clearInput", desc := "()I" } : Jvm.MethodName) ({ cls := "MatchingGraphModel", name := "clearInput", desc := "()I" } : Jvm.MethodName)) ∈ WS := ws_tin 856 (by decide +kernel) (by decide +kernel)
theorem q_857 : (Jvm.Cond.code ({ cls := "MatchingGraphModel", name := "clearInput", desc := "()I" } : Jvm.MethodName) prog_9_method_32_code (2 : Nat) (Option.some Jvm.ClassFile.FieldType.int)) ∈ WS := ws_tin 857 (by decide +kernel) (by decide +kernel)
theorem q_858 : (Jvm.Cond.methodLink "MatchingGraphLaw" (102 : Nat) ({ cls := "MatchingGraphModel", name := "firstError", desc := "()I" } : Jvm.MethodName)) ∈ WS := ws_tin 858 (by decide +kernel) (by decide +kernel)
theorem q_859 : (Jvm.Cond.instanceMethod ({ cls := "MatchingGraphModel", name := "firstError", desc := "()I" } : Jvm.MethodName)) ∈ WS := ws_tin 859 (by decide +kernel) (by decide +kernel)
theorem q_860 : (Jvm.Cond.selects "MatchingGraphModel" ({ cls := "MatchingGraphModel", name := "firstError", desc := "()I" } : Jvm.MethodName) ({ cls := "MatchingGraphModel", name := "firstError", desc := "()I" } : Jvm.MethodName)) ∈ WS := ws_tin 860 (by decide +kernel) (by decide +kernel)
theorem q_861 : (Jvm.Cond.code ({ cls := "MatchingGraphModel", name := "firstError", desc := "()I" } : Jvm.MethodName) prog_9_method_35_code (1 : Nat) (Option.some Jvm.ClassFile.FieldType.int)) ∈ WS := ws_tin 861 (by decide +kernel) (by decide +kernel)
theorem q_862 : (Jvm.Cond.methodLink "MatchingGraphModel" (130 : Nat) ({ cls := "MatchingGraphModel", name := "rightLength", desc := "()I" } : Jvm.MethodName)) ∈ WS := ws_tin 862 (by decide +kernel) (by decide +kernel)
theorem q_864 : (Jvm.Cond.instanceMethod ({ cls := "MatchingGraphModel", name := "rightLength", desc := "()I" } : Jvm.MethodName)) ∈ WS := ws_tin 864 (by decide +kernel) (by decide +kernel)
theorem q_865 : (Jvm.Cond.code ({ cls := "MatchingGraphModel", name := "rightLength", desc := "()I" } : Jvm.MethodName) prog_9_method_34_code (2 : Nat) (Option.some Jvm.ClassFile.FieldType.int)) ∈ WS := ws_tin 865 (by decide +kernel) (by decide +kernel)
theorem q_866 : (Jvm.Cond.methodLink "MatchingGraphModel" (127 : Nat) ({ cls := "MatchingGraphModel", name := "takes", desc := "(I)Z" } : Jvm.MethodName)) ∈ WS := ws_tin 866 (by decide +kernel) (by decide +kernel)
theorem q_868 : (Jvm.Cond.instanceMethod ({ cls := "MatchingGraphModel", name := "takes", desc := "(I)Z" } : Jvm.MethodName)) ∈ WS := ws_tin 868 (by decide +kernel) (by decide +kernel)
theorem q_869 : (Jvm.Cond.code ({ cls := "MatchingGraphModel", name := "takes", desc := "(I)Z" } : Jvm.MethodName) prog_9_method_33_code (4 : Nat) (Option.some Jvm.ClassFile.FieldType.boolean)) ∈ WS := ws_tin 869 (by decide +kernel) (by decide +kernel)
theorem q_870 : (Jvm.Cond.methodLink "MatchingGraphLaw" (106 : Nat) ({ cls := "MatchingGraphModel", name := "load", desc := "()I" } : Jvm.MethodName)) ∈ WS := ws_tin 870 (by decide +kernel) (by decide +kernel)
theorem q_871 : (Jvm.Cond.instanceMethod ({ cls := "MatchingGraphModel", name := "load", desc := "()I" } : Jvm.MethodName)) ∈ WS := ws_tin 871 (by decide +kernel) (by decide +kernel)
theorem q_872 : (Jvm.Cond.selects "MatchingGraphModel" ({ cls := "MatchingGraphModel", name := "load", desc := "()I" } : Jvm.MethodName) ({ cls := "MatchingGraphModel", name := "load", desc := "()I" } : Jvm.MethodName)) ∈ WS := ws_tin 872 (by decide +kernel) (by decide +kernel)
theorem q_873 : (Jvm.Cond.code ({ cls := "MatchingGraphModel", name := "load", desc := "()I" } : Jvm.MethodName) prog_9_method_36_code (5 : Nat) (Option.some Jvm.ClassFile.FieldType.int)) ∈ WS := ws_tin 873 (by decide +kernel) (by decide +kernel)
theorem q_874 : (Jvm.Cond.methodLink "MatchingGraphModel" (100 : Nat) ({ cls := "MatchingGraphModel", name := "pair", desc := "(II)V" } : Jvm.MethodName)) ∈ WS := ws_tin 874 (by decide +kernel) (by decide +kernel)
theorem q_876 : (Jvm.Cond.instanceMethod ({ cls := "MatchingGraphModel", name := "pair", desc := "(II)V" } : Jvm.MethodName)) ∈ WS := ws_tin 876 (by decide +kernel) (by decide +kernel)
theorem q_877 : (Jvm.Cond.code ({ cls := "MatchingGraphModel", name := "pair", desc := "(II)V" } : Jvm.MethodName) prog_9_method_10_code (3 : Nat) (Option.none : Option Jvm.ClassFile.FieldType)) ∈ WS := ws_tin 877 (by decide +kernel) (by decide +kernel)
theorem q_878 : (Jvm.Cond.methodLink "MatchingGraphLaw" (110 : Nat) ({ cls := "MatchingGraphModel", name := "match", desc := "(II)I" } : Jvm.MethodName)) ∈ WS := ws_tin 878 (by decide +kernel) (by decide +kernel)
theorem q_879 : (Jvm.Cond.instanceMethod ({ cls := "MatchingGraphModel", name := "match", desc := "(II)I" } : Jvm.MethodName)) ∈ WS := ws_tin 879 (by decide +kernel) (by decide +kernel)
theorem q_880 : (Jvm.Cond.selects "MatchingGraphModel" ({ cls := "MatchingGraphModel", name := "match", desc := "(II)I" } : Jvm.MethodName) ({ cls := "MatchingGraphModel", name := "match", desc := "(II)I" } : Jvm.MethodName)) ∈ WS := ws_tin 880 (by decide +kernel) (by decide +kernel)
theorem q_881 : (Jvm.Cond.code ({ cls := "MatchingGraphModel", name := "match", desc := "(II)I" } : Jvm.MethodName) prog_9_method_38_code (4 : Nat) (Option.some Jvm.ClassFile.FieldType.int)) ∈ WS := ws_tin 881 (by decide +kernel) (by decide +kernel)
theorem q_882 : (Jvm.Cond.methodLink "MatchingGraphModel" (133 : Nat) ({ cls := "MatchingGraphModel", name := "size", desc := "()I" } : Jvm.MethodName)) ∈ WS := ws_tin 882 (by decide +kernel) (by decide +kernel)
theorem q_884 : (Jvm.Cond.instanceMethod ({ cls := "MatchingGraphModel", name := "size", desc := "()I" } : Jvm.MethodName)) ∈ WS := ws_tin 884 (by decide +kernel) (by decide +kernel)
theorem q_885 : (Jvm.Cond.code ({ cls := "MatchingGraphModel", name := "size", desc := "()I" } : Jvm.MethodName) prog_9_method_37_code (3 : Nat) (Option.some Jvm.ClassFile.FieldType.int)) ∈ WS := ws_tin 885 (by decide +kernel) (by decide +kernel)
theorem q_886 : (Jvm.Cond.methodLink "MatchingGraphLaw" (113 : Nat) ({ cls := "MatchingGraphModel", name := "unmatch", desc := "(I)I" } : Jvm.MethodName)) ∈ WS := ws_tin 886 (by decide +kernel) (by decide +kernel)
theorem q_887 : (Jvm.Cond.instanceMethod ({ cls := "MatchingGraphModel", name := "unmatch", desc := "(I)I" } : Jvm.MethodName)) ∈ WS := ws_tin 887 (by decide +kernel) (by decide +kernel)
theorem q_888 : (Jvm.Cond.selects "MatchingGraphModel" ({ cls := "MatchingGraphModel", name := "unmatch", desc := "(I)I" } : Jvm.MethodName) ({ cls := "MatchingGraphModel", name := "unmatch", desc := "(I)I" } : Jvm.MethodName)) ∈ WS := ws_tin 888 (by decide +kernel) (by decide +kernel)
theorem q_889 : (Jvm.Cond.code ({ cls := "MatchingGraphModel", name := "unmatch", desc := "(I)I" } : Jvm.MethodName) prog_9_method_39_code (3 : Nat) (Option.some Jvm.ClassFile.FieldType.int)) ∈ WS := ws_tin 889 (by decide +kernel) (by decide +kernel)
theorem q_890 : (Jvm.Cond.methodLink "MatchingGraphLaw" (116 : Nat) ({ cls := "MatchingGraphModel", name := "augment", desc := "(I)I" } : Jvm.MethodName)) ∈ WS := ws_tin 890 (by decide +kernel) (by decide +kernel)
theorem q_891 : (Jvm.Cond.instanceMethod ({ cls := "MatchingGraphModel", name := "augment", desc := "(I)I" } : Jvm.MethodName)) ∈ WS := ws_tin 891 (by decide +kernel) (by decide +kernel)
theorem q_892 : (Jvm.Cond.selects "MatchingGraphModel" ({ cls := "MatchingGraphModel", name := "augment", desc := "(I)I" } : Jvm.MethodName) ({ cls := "MatchingGraphModel", name := "augment", desc := "(I)I" } : Jvm.MethodName)) ∈ WS := ws_tin 892 (by decide +kernel) (by decide +kernel)
theorem q_893 : (Jvm.Cond.code ({ cls := "MatchingGraphModel", name := "augment", desc := "(I)I" } : Jvm.MethodName) prog_9_method_41_code (2 : Nat) (Option.some Jvm.ClassFile.FieldType.int)) ∈ WS := ws_tin 893 (by decide +kernel) (by decide +kernel)
theorem q_894 : (Jvm.Cond.methodLink "MatchingGraphModel" (136 : Nat) ({ cls := "MatchingGraphModel", name := "exposedFault", desc := "(I)I" } : Jvm.MethodName)) ∈ WS := ws_tin 894 (by decide +kernel) (by decide +kernel)
theorem q_896 : (Jvm.Cond.instanceMethod ({ cls := "MatchingGraphModel", name := "exposedFault", desc := "(I)I" } : Jvm.MethodName)) ∈ WS := ws_tin 896 (by decide +kernel) (by decide +kernel)
theorem q_897 : (Jvm.Cond.code ({ cls := "MatchingGraphModel", name := "exposedFault", desc := "(I)I" } : Jvm.MethodName) prog_9_method_40_code (2 : Nat) (Option.some Jvm.ClassFile.FieldType.int)) ∈ WS := ws_tin 897 (by decide +kernel) (by decide +kernel)
theorem q_898 : (Jvm.Cond.methodLink "MatchingGraphModel" (139 : Nat) ({ cls := "MatchingGraphModel", name := "augmentFrom", desc := "(I)I" } : Jvm.MethodName)) ∈ WS := ws_tin 898 (by decide +kernel) (by decide +kernel)
theorem q_900 : (Jvm.Cond.instanceMethod ({ cls := "MatchingGraphModel", name := "augmentFrom", desc := "(I)I" } : Jvm.MethodName)) ∈ WS := ws_tin 900 (by decide +kernel) (by decide +kernel)
theorem q_901 : (Jvm.Cond.code ({ cls := "MatchingGraphModel", name := "augmentFrom", desc := "(I)I" } : Jvm.MethodName) prog_9_method_28_code (4 : Nat) (Option.some Jvm.ClassFile.FieldType.int)) ∈ WS := ws_tin 901 (by decide +kernel) (by decide +kernel)
theorem q_902 : (Jvm.Cond.methodLink "MatchingGraphModel" (97 : Nat) ({ cls := "MatchingGraphModel", name := "layWay", desc := "(I)I" } : Jvm.MethodName)) ∈ WS := ws_tin 902 (by decide +kernel) (by decide +kernel)
theorem q_904 : (Jvm.Cond.instanceMethod ({ cls := "MatchingGraphModel", name := "layWay", desc := "(I)I" } : Jvm.MethodName)) ∈ WS := ws_tin 904 (by decide +kernel) (by decide +kernel)
theorem q_905 : (Jvm.Cond.code ({ cls := "MatchingGraphModel", name := "layWay", desc := "(I)I" } : Jvm.MethodName) prog_9_method_26_code (3 : Nat) (Option.some Jvm.ClassFile.FieldType.int)) ∈ WS := ws_tin 905 (by decide +kernel) (by decide +kernel)
theorem q_906 : (Jvm.Cond.methodLink "MatchingGraphModel" (94 : Nat) ({ cls := "MatchingGraphModel", name := "goThrough", desc := "(II)Z" } : Jvm.MethodName)) ∈ WS := ws_tin 906 (by decide +kernel) (by decide +kernel)
theorem q_908 : (Jvm.Cond.instanceMethod ({ cls := "MatchingGraphModel", name := "goThrough", desc := "(II)Z" } : Jvm.MethodName)) ∈ WS := ws_tin 908 (by decide +kernel) (by decide +kernel)
theorem q_909 : (Jvm.Cond.code ({ cls := "MatchingGraphModel", name := "goThrough", desc := "(II)Z" } : Jvm.MethodName) prog_9_method_25_code (6 : Nat) (Option.some Jvm.ClassFile.FieldType.boolean)) ∈ WS := ws_tin 909 (by decide +kernel) (by decide +kernel)
theorem q_910 : (Jvm.Cond.methodLink "MatchingGraphModel" (90 : Nat) ({ cls := "MatchingGraphModel", name := "step", desc := "(III)I" } : Jvm.MethodName)) ∈ WS := ws_tin 910 (by decide +kernel) (by decide +kernel)
theorem q_912 : (Jvm.Cond.instanceMethod ({ cls := "MatchingGraphModel", name := "step", desc := "(III)I" } : Jvm.MethodName)) ∈ WS := ws_tin 912 (by decide +kernel) (by decide +kernel)
theorem q_913 : (Jvm.Cond.code ({ cls := "MatchingGraphModel", name := "step", desc := "(III)I" } : Jvm.MethodName) prog_9_method_24_code (5 : Nat) (Option.some Jvm.ClassFile.FieldType.int)) ∈ WS := ws_tin 913 (by decide +kernel) (by decide +kernel)
theorem q_914 : (Jvm.Cond.methodLink "MatchingGraphLaw" (120 : Nat) ({ cls := "MatchingGraphModel", name := "maximize", desc := "()I" } : Jvm.MethodName)) ∈ WS := ws_tin 914 (by decide +kernel) (by decide +kernel)
theorem q_915 : (Jvm.Cond.instanceMethod ({ cls := "MatchingGraphModel", name := "maximize", desc := "()I" } : Jvm.MethodName)) ∈ WS := ws_tin 915 (by decide +kernel) (by decide +kernel)
theorem q_916 : (Jvm.Cond.selects "MatchingGraphModel" ({ cls := "MatchingGraphModel", name := "maximize", desc := "()I" } : Jvm.MethodName) ({ cls := "MatchingGraphModel", name := "maximize", desc := "()I" } : Jvm.MethodName)) ∈ WS := ws_tin 916 (by decide +kernel) (by decide +kernel)
theorem q_917 : (Jvm.Cond.code ({ cls := "MatchingGraphModel", name := "maximize", desc := "()I" } : Jvm.MethodName) prog_9_method_43_code (3 : Nat) (Option.some Jvm.ClassFile.FieldType.int)) ∈ WS := ws_tin 917 (by decide +kernel) (by decide +kernel)
theorem q_918 : (Jvm.Cond.methodLink "MatchingGraphModel" (142 : Nat) ({ cls := "MatchingGraphModel", name := "lowestWithWay", desc := "()I" } : Jvm.MethodName)) ∈ WS := ws_tin 918 (by decide +kernel) (by decide +kernel)
theorem q_920 : (Jvm.Cond.instanceMethod ({ cls := "MatchingGraphModel", name := "lowestWithWay", desc := "()I" } : Jvm.MethodName)) ∈ WS := ws_tin 920 (by decide +kernel) (by decide +kernel)
theorem q_921 : (Jvm.Cond.code ({ cls := "MatchingGraphModel", name := "lowestWithWay", desc := "()I" } : Jvm.MethodName) prog_9_method_42_code (2 : Nat) (Option.some Jvm.ClassFile.FieldType.int)) ∈ WS := ws_tin 921 (by decide +kernel) (by decide +kernel)
theorem q_922 : (Jvm.Cond.methodLink "MatchingGraphLaw" (124 : Nat) ({ cls := "MatchingGraphModel", name := "takeFirst", desc := "()I" } : Jvm.MethodName)) ∈ WS := ws_tin 922 (by decide +kernel) (by decide +kernel)
theorem q_923 : (Jvm.Cond.instanceMethod ({ cls := "MatchingGraphModel", name := "takeFirst", desc := "()I" } : Jvm.MethodName)) ∈ WS := ws_tin 923 (by decide +kernel) (by decide +kernel)
theorem q_924 : (Jvm.Cond.selects "MatchingGraphModel" ({ cls := "MatchingGraphModel", name := "takeFirst", desc := "()I" } : Jvm.MethodName) ({ cls := "MatchingGraphModel", name := "takeFirst", desc := "()I" } : Jvm.MethodName)) ∈ WS := ws_tin 924 (by decide +kernel) (by decide +kernel)
theorem q_925 : (Jvm.Cond.code ({ cls := "MatchingGraphModel", name := "takeFirst", desc := "()I" } : Jvm.MethodName) prog_9_method_44_code (3 : Nat) (Option.some Jvm.ClassFile.FieldType.int)) ∈ WS := ws_tin 925 (by decide +kernel) (by decide +kernel)
theorem q_926 : (Jvm.Cond.methodLink "MatchingGraphModel" (145 : Nat) ({ cls := "MatchingGraphModel", name := "laySets", desc := "()V" } : Jvm.MethodName)) ∈ WS := ws_tin 926 (by decide +kernel) (by decide +kernel)
theorem q_928 : (Jvm.Cond.instanceMethod ({ cls := "MatchingGraphModel", name := "laySets", desc := "()V" } : Jvm.MethodName)) ∈ WS := ws_tin 928 (by decide +kernel) (by decide +kernel)
theorem q_929 : (Jvm.Cond.code ({ cls := "MatchingGraphModel", name := "laySets", desc := "()V" } : Jvm.MethodName) prog_9_method_14_code (5 : Nat) (Option.none : Option Jvm.ClassFile.FieldType)) ∈ WS := ws_tin 929 (by decide +kernel) (by decide +kernel)
theorem q_930 : (Jvm.Cond.methodLink "MatchingGraphModel" (57 : Nat) ({ cls := "MatchingGraphModel", name := "all", desc := "()I" } : Jvm.MethodName)) ∈ WS := ws_tin 930 (by decide +kernel) (by decide +kernel)
theorem q_932 : (Jvm.Cond.instanceMethod ({ cls := "MatchingGraphModel", name := "all", desc := "()I" } : Jvm.MethodName)) ∈ WS := ws_tin 932 (by decide +kernel) (by decide +kernel)
theorem q_933 : (Jvm.Cond.code ({ cls := "MatchingGraphModel", name := "all", desc := "()I" } : Jvm.MethodName) prog_9_method_7_code (1 : Nat) (Option.some Jvm.ClassFile.FieldType.int)) ∈ WS := ws_tin 933 (by decide +kernel) (by decide +kernel)
theorem q_934 : (Jvm.Cond.methodLink "MatchingGraphModel" (65 : Nat) ({ cls := "MatchingGraphModel", name := "note", desc := "(III)V" } : Jvm.MethodName)) ∈ WS := ws_tin 934 (by decide +kernel) (by decide +kernel)
theorem q_936 : (Jvm.Cond.instanceMethod ({ cls := "MatchingGraphModel", name := "note", desc := "(III)V" } : Jvm.MethodName)) ∈ WS := ws_tin 936 (by decide +kernel) (by decide +kernel)
theorem q_937 : (Jvm.Cond.code ({ cls := "MatchingGraphModel", name := "note", desc := "(III)V" } : Jvm.MethodName) prog_9_method_13_code (4 : Nat) (Option.none : Option Jvm.ClassFile.FieldType)) ∈ WS := ws_tin 937 (by decide +kernel) (by decide +kernel)
theorem q_938 : (Jvm.Cond.methodLink "MatchingGraphModel" (148 : Nat) ({ cls := "MatchingGraphModel", name := "layFirst", desc := "()V" } : Jvm.MethodName)) ∈ WS := ws_tin 938 (by decide +kernel) (by decide +kernel)
theorem q_940 : (Jvm.Cond.instanceMethod ({ cls := "MatchingGraphModel", name := "layFirst", desc := "()V" } : Jvm.MethodName)) ∈ WS := ws_tin 940 (by decide +kernel) (by decide +kernel)
theorem q_941 : (Jvm.Cond.code ({ cls := "MatchingGraphModel", name := "layFirst", desc := "()V" } : Jvm.MethodName) prog_9_method_15_code (5 : Nat) (Option.none : Option Jvm.ClassFile.FieldType)) ∈ WS := ws_tin 941 (by decide +kernel) (by decide +kernel)
theorem q_942 : (Jvm.Cond.methodLink "MatchingGraphLaw" (127 : Nat) ({ cls := "MatchingGraphModel", name := "undo", desc := "()I" } : Jvm.MethodName)) ∈ WS := ws_tin 942 (by decide +kernel) (by decide +kernel)
theorem q_943 : (Jvm.Cond.instanceMethod ({ cls := "MatchingGraphModel", name := "undo", desc := "()I" } : Jvm.MethodName)) ∈ WS := ws_tin 943 (by decide +kernel) (by decide +kernel)
theorem q_944 : (Jvm.Cond.selects "MatchingGraphModel" ({ cls := "MatchingGraphModel", name := "undo", desc := "()I" } : Jvm.MethodName) ({ cls := "MatchingGraphModel", name := "undo", desc := "()I" } : Jvm.MethodName)) ∈ WS := ws_tin 944 (by decide +kernel) (by decide +kernel)
theorem q_945 : (Jvm.Cond.code ({ cls := "MatchingGraphModel", name := "undo", desc := "()I" } : Jvm.MethodName) prog_9_method_45_code (2 : Nat) (Option.some Jvm.ClassFile.FieldType.int)) ∈ WS := ws_tin 945 (by decide +kernel) (by decide +kernel)
theorem q_946 : (Jvm.Cond.methodLink "MatchingGraphLaw" (130 : Nat) ({ cls := "MatchingGraphModel", name := "way", desc := "(I)I" } : Jvm.MethodName)) ∈ WS := ws_tin 946 (by decide +kernel) (by decide +kernel)
theorem q_947 : (Jvm.Cond.instanceMethod ({ cls := "MatchingGraphModel", name := "way", desc := "(I)I" } : Jvm.MethodName)) ∈ WS := ws_tin 947 (by decide +kernel) (by decide +kernel)
theorem q_948 : (Jvm.Cond.selects "MatchingGraphModel" ({ cls := "MatchingGraphModel", name := "way", desc := "(I)I" } : Jvm.MethodName) ({ cls := "MatchingGraphModel", name := "way", desc := "(I)I" } : Jvm.MethodName)) ∈ WS := ws_tin 948 (by decide +kernel) (by decide +kernel)
theorem q_949 : (Jvm.Cond.code ({ cls := "MatchingGraphModel", name := "way", desc := "(I)I" } : Jvm.MethodName) prog_9_method_46_code (2 : Nat) (Option.some Jvm.ClassFile.FieldType.int)) ∈ WS := ws_tin 949 (by decide +kernel) (by decide +kernel)
theorem q_950 : (Jvm.Cond.methodLink "MatchingGraphLaw" (133 : Nat) ({ cls := "MatchingGraphModel", name := "wayNode", desc := "(II)I" } : Jvm.MethodName)) ∈ WS := ws_tin 950 (by decide +kernel) (by decide +kernel)
theorem q_951 : (Jvm.Cond.instanceMethod ({ cls := "MatchingGraphModel", name := "wayNode", desc := "(II)I" } : Jvm.MethodName)) ∈ WS := ws_tin 951 (by decide +kernel) (by decide +kernel)
theorem q_952 : (Jvm.Cond.selects "MatchingGraphModel" ({ cls := "MatchingGraphModel", name := "wayNode", desc := "(II)I" } : Jvm.MethodName) ({ cls := "MatchingGraphModel", name := "wayNode", desc := "(II)I" } : Jvm.MethodName)) ∈ WS := ws_tin 952 (by decide +kernel) (by decide +kernel)
theorem q_953 : (Jvm.Cond.code ({ cls := "MatchingGraphModel", name := "wayNode", desc := "(II)I" } : Jvm.MethodName) prog_9_method_47_code (4 : Nat) (Option.some Jvm.ClassFile.FieldType.int)) ∈ WS := ws_tin 953 (by decide +kernel) (by decide +kernel)
theorem q_954 : (Jvm.Cond.methodLink "MatchingGraphLaw" (137 : Nat) ({ cls := "MatchingGraphModel", name := "reach", desc := "(IZ)I" } : Jvm.MethodName)) ∈ WS := ws_tin 954 (by decide +kernel) (by decide +kernel)
theorem q_955 : (Jvm.Cond.instanceMethod ({ cls := "MatchingGraphModel", name := "reach", desc := "(IZ)I" } : Jvm.MethodName)) ∈ WS := ws_tin 955 (by decide +kernel) (by decide +kernel)
theorem q_956 : (Jvm.Cond.selects "MatchingGraphModel" ({ cls := "MatchingGraphModel", name := "reach", desc := "(IZ)I" } : Jvm.MethodName) ({ cls := "MatchingGraphModel", name := "reach", desc := "(IZ)I" } : Jvm.MethodName)) ∈ WS := ws_tin 956 (by decide +kernel) (by decide +kernel)
theorem q_957 : (Jvm.Cond.code ({ cls := "MatchingGraphModel", name := "reach", desc := "(IZ)I" } : Jvm.MethodName) prog_9_method_48_code (3 : Nat) (Option.some Jvm.ClassFile.FieldType.int)) ∈ WS := ws_tin 957 (by decide +kernel) (by decide +kernel)
theorem q_958 : (Jvm.Cond.methodLink "MatchingGraphModel" (151 : Nat) ({ cls := "MatchingGraphModel", name := "layReach", desc := "(I)V" } : Jvm.MethodName)) ∈ WS := ws_tin 958 (by decide +kernel) (by decide +kernel)
theorem q_960 : (Jvm.Cond.instanceMethod ({ cls := "MatchingGraphModel", name := "layReach", desc := "(I)V" } : Jvm.MethodName)) ∈ WS := ws_tin 960 (by decide +kernel) (by decide +kernel)
theorem q_961 : (Jvm.Cond.code ({ cls := "MatchingGraphModel", name := "layReach", desc := "(I)V" } : Jvm.MethodName) prog_9_method_27_code (2 : Nat) (Option.none : Option Jvm.ClassFile.FieldType)) ∈ WS := ws_tin 961 (by decide +kernel) (by decide +kernel)
theorem q_962 : (Jvm.Cond.methodLink "MatchingGraphLaw" (141 : Nat) ({ cls := "MatchingGraphModel", name := "oddCycle", desc := "()I" } : Jvm.MethodName)) ∈ WS := ws_tin 962 (by decide +kernel) (by decide +kernel)
theorem q_963 : (Jvm.Cond.instanceMethod ({ cls := "MatchingGraphModel", name := "oddCycle", desc := "()I" } : Jvm.MethodName)) ∈ WS := ws_tin 963 (by decide +kernel) (by decide +kernel)
theorem q_964 : (Jvm.Cond.selects "MatchingGraphModel" ({ cls := "MatchingGraphModel", name := "oddCycle", desc := "()I" } : Jvm.MethodName) ({ cls := "MatchingGraphModel", name := "oddCycle", desc := "()I" } : Jvm.MethodName)) ∈ WS := ws_tin 964 (by decide +kernel) (by decide +kernel)
theorem q_965 : (Jvm.Cond.code ({ cls := "MatchingGraphModel", name := "oddCycle", desc := "()I" } : Jvm.MethodName) prog_9_method_51_code (1 : Nat) (Option.some Jvm.ClassFile.FieldType.int)) ∈ WS := ws_tin 965 (by decide +kernel) (by decide +kernel)
theorem q_966 : (Jvm.Cond.methodLink "MatchingGraphModel" (157 : Nat) ({ cls := "MatchingGraphModel", name := "oddCycleNow", desc := "()I" } : Jvm.MethodName)) ∈ WS := ws_tin 966 (by decide +kernel) (by decide +kernel)
theorem q_968 : (Jvm.Cond.instanceMethod ({ cls := "MatchingGraphModel", name := "oddCycleNow", desc := "()I" } : Jvm.MethodName)) ∈ WS := ws_tin 968 (by decide +kernel) (by decide +kernel)
theorem q_969 : (Jvm.Cond.code ({ cls := "MatchingGraphModel", name := "oddCycleNow", desc := "()I" } : Jvm.MethodName) prog_9_method_50_code (4 : Nat) (Option.some Jvm.ClassFile.FieldType.int)) ∈ WS := ws_tin 969 (by decide +kernel) (by decide +kernel)
theorem q_970 : (Jvm.Cond.methodLink "MatchingGraphModel" (154 : Nat) ({ cls := "MatchingGraphModel", name := "oddWalk", desc := "(I)I" } : Jvm.MethodName)) ∈ WS := ws_tin 970 (by decide +kernel) (by decide +kernel)
theorem q_972 : (Jvm.Cond.instanceMethod ({ cls := "MatchingGraphModel", name := "oddWalk", desc := "(I)I" } : Jvm.MethodName)) ∈ WS := ws_tin 972 (by decide +kernel) (by decide +kernel)
theorem q_973 : (Jvm.Cond.code ({ cls := "MatchingGraphModel", name := "oddWalk", desc := "(I)I" } : Jvm.MethodName) prog_9_method_49_code (8 : Nat) (Option.some Jvm.ClassFile.FieldType.int)) ∈ WS := ws_tin 973 (by decide +kernel) (by decide +kernel)
theorem q_974 : (Jvm.Cond.methodLink "MatchingGraphLaw" (144 : Nat) ({ cls := "MatchingGraphModel", name := "firstMate", desc := "(I)I" } : Jvm.MethodName)) ∈ WS := ws_tin 974 (by decide +kernel) (by decide +kernel)
theorem q_975 : (Jvm.Cond.instanceMethod ({ cls := "MatchingGraphModel", name := "firstMate", desc := "(I)I" } : Jvm.MethodName)) ∈ WS := ws_tin 975 (by decide +kernel) (by decide +kernel)
theorem q_976 : (Jvm.Cond.selects "MatchingGraphModel" ({ cls := "MatchingGraphModel", name := "firstMate", desc := "(I)I" } : Jvm.MethodName) ({ cls := "MatchingGraphModel", name := "firstMate", desc := "(I)I" } : Jvm.MethodName)) ∈ WS := ws_tin 976 (by decide +kernel) (by decide +kernel)
theorem q_977 : (Jvm.Cond.code ({ cls := "MatchingGraphModel", name := "firstMate", desc := "(I)I" } : Jvm.MethodName) prog_9_method_52_code (2 : Nat) (Option.some Jvm.ClassFile.FieldType.int)) ∈ WS := ws_tin 977 (by decide +kernel) (by decide +kernel)
theorem q_978 : (Jvm.Cond.methodLink "MatchingGraphLaw" (148 : Nat) ({ cls := "MatchingGraphModel", name := "proof", desc := "()I" } : Jvm.MethodName)) ∈ WS := ws_tin 978 (by decide +kernel) (by decide +kernel)
theorem q_979 : (Jvm.Cond.instanceMethod ({ cls := "MatchingGraphModel", name := "proof", desc := "()I" } : Jvm.MethodName)) ∈ WS := ws_tin 979 (by decide +kernel) (by decide +kernel)
theorem q_980 : (Jvm.Cond.selects "MatchingGraphModel" ({ cls := "MatchingGraphModel", name := "proof", desc := "()I" } : Jvm.MethodName) ({ cls := "MatchingGraphModel", name := "proof", desc := "()I" } : Jvm.MethodName)) ∈ WS := ws_tin 980 (by decide +kernel) (by decide +kernel)
theorem q_981 : (Jvm.Cond.code ({ cls := "MatchingGraphModel", name := "proof", desc := "()I" } : Jvm.MethodName) prog_9_method_53_code (1 : Nat) (Option.some Jvm.ClassFile.FieldType.int)) ∈ WS := ws_tin 981 (by decide +kernel) (by decide +kernel)
theorem q_982 : (Jvm.Cond.methodLink "MatchingGraphModel" (160 : Nat) ({ cls := "MatchingGraphModel", name := "proofNow", desc := "()I" } : Jvm.MethodName)) ∈ WS := ws_tin 982 (by decide +kernel) (by decide +kernel)
theorem q_984 : (Jvm.Cond.instanceMethod ({ cls := "MatchingGraphModel", name := "proofNow", desc := "()I" } : Jvm.MethodName)) ∈ WS := ws_tin 984 (by decide +kernel) (by decide +kernel)
theorem q_985 : (Jvm.Cond.code ({ cls := "MatchingGraphModel", name := "proofNow", desc := "()I" } : Jvm.MethodName) prog_9_method_23_code (6 : Nat) (Option.some Jvm.ClassFile.FieldType.int)) ∈ WS := ws_tin 985 (by decide +kernel) (by decide +kernel)
theorem q_986 : (Jvm.Cond.methodLink "MatchingGraphModel" (77 : Nat) ({ cls := "MatchingGraphModel", name := "bits", desc := "(I)I" } : Jvm.MethodName)) ∈ WS := ws_tin 986 (by decide +kernel) (by decide +kernel)
theorem q_987 : (Jvm.Cond.static ({ cls := "MatchingGraphModel", name := "bits", desc := "(I)I" } : Jvm.MethodName)) ∈ WS := ws_tin 987 (by decide +kernel) (by decide +kernel)
theorem q_988 : (Jvm.Cond.code ({ cls := "MatchingGraphModel", name := "bits", desc := "(I)I" } : Jvm.MethodName) prog_9_method_5_code (3 : Nat) (Option.some Jvm.ClassFile.FieldType.int)) ∈ WS := ws_tin 988 (by decide +kernel) (by decide +kernel)
theorem q_989 : (Jvm.Cond.methodLink "MatchingGraphModel" (80 : Nat) ({ cls := "MatchingGraphModel", name := "componentsOf", desc := "(IZ)I" } : Jvm.MethodName)) ∈ WS := ws_tin 989 (by decide +kernel) (by decide +kernel)
theorem q_991 : (Jvm.Cond.instanceMethod ({ cls := "MatchingGraphModel", name := "componentsOf", desc := "(IZ)I" } : Jvm.MethodName)) ∈ WS := ws_tin 991 (by decide +kernel) (by decide +kernel)
theorem q_992 : (Jvm.Cond.code ({ cls := "MatchingGraphModel", name := "componentsOf", desc := "(IZ)I" } : Jvm.MethodName) prog_9_method_21_code (7 : Nat) (Option.some Jvm.ClassFile.FieldType.int)) ∈ WS := ws_tin 992 (by decide +kernel) (by decide +kernel)
theorem q_993 : (Jvm.Cond.methodLink "MatchingGraphModel" (73 : Nat) ({ cls := "MatchingGraphModel", name := "componentOf", desc := "(II)I" } : Jvm.MethodName)) ∈ WS := ws_tin 993 (by decide +kernel) (by decide +kernel)
theorem q_995 : (Jvm.Cond.instanceMethod ({ cls := "MatchingGraphModel", name := "componentOf", desc := "(II)I" } : Jvm.MethodName)) ∈ WS := ws_tin 995 (by decide +kernel) (by decide +kernel)
theorem q_996 : (Jvm.Cond.code ({ cls := "MatchingGraphModel", name := "componentOf", desc := "(II)I" } : Jvm.MethodName) prog_9_method_20_code (6 : Nat) (Option.some Jvm.ClassFile.FieldType.int)) ∈ WS := ws_tin 996 (by decide +kernel) (by decide +kernel)
theorem q_997 : (Jvm.Cond.methodLink "MatchingGraphLaw" (151 : Nat) ({ cls := "MatchingGraphModel", name := "components", desc := "(IZ)I" } : Jvm.MethodName)) ∈ WS := ws_tin 997 (by decide +kernel) (by decide +kernel)
theorem q_998 : (Jvm.Cond.instanceMethod ({ cls := "MatchingGraphModel", name := "components", desc := "(IZ)I" } : Jvm.MethodName)) ∈ WS := ws_tin 998 (by decide +kernel) (by decide +kernel)
theorem q_999 : (Jvm.Cond.selects "MatchingGraphModel" ({ cls := "MatchingGraphModel", name := "components", desc := "(IZ)I" } : Jvm.MethodName) ({ cls := "MatchingGraphModel", name := "components", desc := "(IZ)I" } : Jvm.MethodName)) ∈ WS := ws_tin 999 (by decide +kernel) (by decide +kernel)
theorem q_1000 : (Jvm.Cond.code ({ cls := "MatchingGraphModel", name := "components", desc := "(IZ)I" } : Jvm.MethodName) prog_9_method_54_code (3 : Nat) (Option.some Jvm.ClassFile.FieldType.int)) ∈ WS := ws_tin 1000 (by decide +kernel) (by decide +kernel)
theorem q_1001 : (Jvm.Cond.methodLink "MatchingGraphLaw" (154 : Nat) ({ cls := "MatchingGraphModel", name := "ifChanged", desc := "(II)I" } : Jvm.MethodName)) ∈ WS := ws_tin 1001 (by decide +kernel) (by decide +kernel)
theorem q_1002 : (Jvm.Cond.instanceMethod ({ cls := "MatchingGraphModel", name := "ifChanged", desc := "(II)I" } : Jvm.MethodName)) ∈ WS := ws_tin 1002 (by decide +kernel) (by decide +kernel)
theorem q_1003 : (Jvm.Cond.selects "MatchingGraphModel" ({ cls := "MatchingGraphModel", name := "ifChanged", desc := "(II)I" } : Jvm.MethodName) ({ cls := "MatchingGraphModel", name := "ifChanged", desc := "(II)I" } : Jvm.MethodName)) ∈ WS := ws_tin 1003 (by decide +kernel) (by decide +kernel)
theorem q_1004 : (Jvm.Cond.code ({ cls := "MatchingGraphModel", name := "ifChanged", desc := "(II)I" } : Jvm.MethodName) prog_9_method_55_code (3 : Nat) (Option.some Jvm.ClassFile.FieldType.int)) ∈ WS := ws_tin 1004 (by decide +kernel) (by decide +kernel)
theorem q_1005 : (Jvm.Cond.methodLink "MatchingGraphLaw" (157 : Nat) ({ cls := "MatchingGraphModel", name := "node", desc := "(II)I" } : Jvm.MethodName)) ∈ WS := ws_tin 1005 (by decide +kernel) (by decide +kernel)
theorem q_1006 : (Jvm.Cond.instanceMethod ({ cls := "MatchingGraphModel", name := "node", desc := "(II)I" } : Jvm.MethodName)) ∈ WS := ws_tin 1006 (by decide +kernel) (by decide +kernel)
theorem q_1007 : (Jvm.Cond.selects "MatchingGraphModel" ({ cls := "MatchingGraphModel", name := "node", desc := "(II)I" } : Jvm.MethodName) ({ cls := "MatchingGraphModel", name := "node", desc := "(II)I" } : Jvm.MethodName)) ∈ WS := ws_tin 1007 (by decide +kernel) (by decide +kernel)
theorem q_1008 : (Jvm.Cond.code ({ cls := "MatchingGraphModel", name := "node", desc := "(II)I" } : Jvm.MethodName) prog_9_method_57_code (3 : Nat) (Option.some Jvm.ClassFile.FieldType.int)) ∈ WS := ws_tin 1008 (by decide +kernel) (by decide +kernel)
theorem q_1009 : (Jvm.Cond.methodLink "MatchingGraphModel" (169 : Nat) ({ cls := "MatchingGraphModel", name := "nodeNow", desc := "(II)I" } : Jvm.MethodName)) ∈ WS := ws_tin 1009 (by decide +kernel) (by decide +kernel)
theorem q_1011 : (Jvm.Cond.instanceMethod ({ cls := "MatchingGraphModel", name := "nodeNow", desc := "(II)I" } : Jvm.MethodName)) ∈ WS := ws_tin 1011 (by decide +kernel) (by decide +kernel)
theorem q_1012 : (Jvm.Cond.code ({ cls := "MatchingGraphModel", name := "nodeNow", desc := "(II)I" } : Jvm.MethodName) prog_9_method_56_code (3 : Nat) (Option.some Jvm.ClassFile.FieldType.int)) ∈ WS := ws_tin 1012 (by decide +kernel) (by decide +kernel)
theorem q_1013 : (Jvm.Cond.methodLink "MatchingGraphModel" (163 : Nat) ({ cls := "MatchingGraphModel", name := "partOf", desc := "(I)I" } : Jvm.MethodName)) ∈ WS := ws_tin 1013 (by decide +kernel) (by decide +kernel)
theorem q_1015 : (Jvm.Cond.instanceMethod ({ cls := "MatchingGraphModel", name := "partOf", desc := "(I)I" } : Jvm.MethodName)) ∈ WS := ws_tin 1015 (by decide +kernel) (by decide +kernel)
theorem q_1016 : (Jvm.Cond.code ({ cls := "MatchingGraphModel", name := "partOf", desc := "(I)I" } : Jvm.MethodName) prog_9_method_18_code (4 : Nat) (Option.some Jvm.ClassFile.FieldType.int)) ∈ WS := ws_tin 1016 (by decide +kernel) (by decide +kernel)
theorem q_1017 : (Jvm.Cond.methodLink "MatchingGraphModel" (69 : Nat) ({ cls := "MatchingGraphModel", name := "exposing", desc := "(I)I" } : Jvm.MethodName)) ∈ WS := ws_tin 1017 (by decide +kernel) (by decide +kernel)
theorem q_1019 : (Jvm.Cond.instanceMethod ({ cls := "MatchingGraphModel", name := "exposing", desc := "(I)I" } : Jvm.MethodName)) ∈ WS := ws_tin 1019 (by decide +kernel) (by decide +kernel)
theorem q_1020 : (Jvm.Cond.code ({ cls := "MatchingGraphModel", name := "exposing", desc := "(I)I" } : Jvm.MethodName) prog_9_method_16_code (3 : Nat) (Option.some Jvm.ClassFile.FieldType.int)) ∈ WS := ws_tin 1020 (by decide +kernel) (by decide +kernel)
theorem q_1021 : (Jvm.Cond.methodLink "MatchingGraphModel" (166 : Nat) ({ cls := "MatchingGraphModel", name := "lowest", desc := "(I)I" } : Jvm.MethodName)) ∈ WS := ws_tin 1021 (by decide +kernel) (by decide +kernel)
theorem q_1023 : (Jvm.Cond.instanceMethod ({ cls := "MatchingGraphModel", name := "lowest", desc := "(I)I" } : Jvm.MethodName)) ∈ WS := ws_tin 1023 (by decide +kernel) (by decide +kernel)
theorem q_1024 : (Jvm.Cond.code ({ cls := "MatchingGraphModel", name := "lowest", desc := "(I)I" } : Jvm.MethodName) prog_9_method_22_code (4 : Nat) (Option.some Jvm.ClassFile.FieldType.int)) ∈ WS := ws_tin 1024 (by decide +kernel) (by decide +kernel)
theorem q_1025 : (Jvm.Cond.methodLink "MatchingGraphLaw" (161 : Nat) ({ cls := "MatchingGraphModel", name := "edge", desc := "(III)I" } : Jvm.MethodName)) ∈ WS := ws_tin 1025 (by decide +kernel) (by decide +kernel)
theorem q_1026 : (Jvm.Cond.instanceMethod ({ cls := "MatchingGraphModel", name := "edge", desc := "(III)I" } : Jvm.MethodName)) ∈ WS := ws_tin 1026 (by decide +kernel) (by decide +kernel)
theorem q_1027 : (Jvm.Cond.selects "MatchingGraphModel" ({ cls := "MatchingGraphModel", name := "edge", desc := "(III)I" } : Jvm.MethodName) ({ cls := "MatchingGraphModel", name := "edge", desc := "(III)I" } : Jvm.MethodName)) ∈ WS := ws_tin 1027 (by decide +kernel) (by decide +kernel)
theorem q_1028 : (Jvm.Cond.code ({ cls := "MatchingGraphModel", name := "edge", desc := "(III)I" } : Jvm.MethodName) prog_9_method_59_code (4 : Nat) (Option.some Jvm.ClassFile.FieldType.int)) ∈ WS := ws_tin 1028 (by decide +kernel) (by decide +kernel)
theorem q_1029 : (Jvm.Cond.methodLink "MatchingGraphModel" (175 : Nat) ({ cls := "MatchingGraphModel", name := "edgeNow", desc := "(III)I" } : Jvm.MethodName)) ∈ WS := ws_tin 1029 (by decide +kernel) (by decide +kernel)
theorem q_1031 : (Jvm.Cond.instanceMethod ({ cls := "MatchingGraphModel", name := "edgeNow", desc := "(III)I" } : Jvm.MethodName)) ∈ WS := ws_tin 1031 (by decide +kernel) (by decide +kernel)
theorem q_1032 : (Jvm.Cond.code ({ cls := "MatchingGraphModel", name := "edgeNow", desc := "(III)I" } : Jvm.MethodName) prog_9_method_58_code (5 : Nat) (Option.some Jvm.ClassFile.FieldType.int)) ∈ WS := ws_tin 1032 (by decide +kernel) (by decide +kernel)
theorem q_1033 : (Jvm.Cond.methodLink "MatchingGraphModel" (172 : Nat) ({ cls := "MatchingGraphModel", name := "using", desc := "(II)I" } : Jvm.MethodName)) ∈ WS := ws_tin 1033 (by decide +kernel) (by decide +kernel)
theorem q_1035 : (Jvm.Cond.instanceMethod ({ cls := "MatchingGraphModel", name := "using", desc := "(II)I" } : Jvm.MethodName)) ∈ WS := ws_tin 1035 (by decide +kernel) (by decide +kernel)
theorem q_1036 : (Jvm.Cond.code ({ cls := "MatchingGraphModel", name := "using", desc := "(II)I" } : Jvm.MethodName) prog_9_method_17_code (5 : Nat) (Option.some Jvm.ClassFile.FieldType.int)) ∈ WS := ws_tin 1036 (by decide +kernel) (by decide +kernel)
theorem q_1037 : (Jvm.Cond.methodLink "MatchingGraphLaw" (164 : Nat) ({ cls := "MatchingGraphModel", name := "count", desc := "(I)I" } : Jvm.MethodName)) ∈ WS := ws_tin 1037 (by decide +kernel) (by decide +kernel)
theorem q_1038 : (Jvm.Cond.instanceMethod ({ cls := "MatchingGraphModel", name := "count", desc := "(I)I" } : Jvm.MethodName)) ∈ WS := ws_tin 1038 (by decide +kernel) (by decide +kernel)
theorem q_1039 : (Jvm.Cond.selects "MatchingGraphModel" ({ cls := "MatchingGraphModel", name := "count", desc := "(I)I" } : Jvm.MethodName) ({ cls := "MatchingGraphModel", name := "count", desc := "(I)I" } : Jvm.MethodName)) ∈ WS := ws_tin 1039 (by decide +kernel) (by decide +kernel)
theorem q_1040 : (Jvm.Cond.code ({ cls := "MatchingGraphModel", name := "count", desc := "(I)I" } : Jvm.MethodName) prog_9_method_63_code (2 : Nat) (Option.some Jvm.ClassFile.FieldType.int)) ∈ WS := ws_tin 1040 (by decide +kernel) (by decide +kernel)
theorem q_1041 : (Jvm.Cond.methodLink "MatchingGraphModel" (188 : Nat) ({ cls := "MatchingGraphModel", name := "counted", desc := "(I)I" } : Jvm.MethodName)) ∈ WS := ws_tin 1041 (by decide +kernel) (by decide +kernel)
theorem q_1043 : (Jvm.Cond.instanceMethod ({ cls := "MatchingGraphModel", name := "counted", desc := "(I)I" } : Jvm.MethodName)) ∈ WS := ws_tin 1043 (by decide +kernel) (by decide +kernel)
theorem q_1044 : (Jvm.Cond.code ({ cls := "MatchingGraphModel", name := "counted", desc := "(I)I" } : Jvm.MethodName) prog_9_method_62_code (2 : Nat) (Option.some Jvm.ClassFile.FieldType.int)) ∈ WS := ws_tin 1044 (by decide +kernel) (by decide +kernel)
theorem q_1045 : (Jvm.Cond.methodLink "MatchingGraphModel" (178 : Nat) ({ cls := "MatchingGraphModel", name := "edgeCount", desc := "()I" } : Jvm.MethodName)) ∈ WS := ws_tin 1045 (by decide +kernel) (by decide +kernel)
theorem q_1047 : (Jvm.Cond.instanceMethod ({ cls := "MatchingGraphModel", name := "edgeCount", desc := "()I" } : Jvm.MethodName)) ∈ WS := ws_tin 1047 (by decide +kernel) (by decide +kernel)
theorem q_1048 : (Jvm.Cond.code ({ cls := "MatchingGraphModel", name := "edgeCount", desc := "()I" } : Jvm.MethodName) prog_9_method_60_code (3 : Nat) (Option.some Jvm.ClassFile.FieldType.int)) ∈ WS := ws_tin 1048 (by decide +kernel) (by decide +kernel)
theorem q_1049 : (Jvm.Cond.methodLink "MatchingGraphModel" (181 : Nat) ({ cls := "MatchingGraphModel", name := "edgesIn", desc := "(I)I" } : Jvm.MethodName)) ∈ WS := ws_tin 1049 (by decide +kernel) (by decide +kernel)
theorem q_1051 : (Jvm.Cond.instanceMethod ({ cls := "MatchingGraphModel", name := "edgesIn", desc := "(I)I" } : Jvm.MethodName)) ∈ WS := ws_tin 1051 (by decide +kernel) (by decide +kernel)
theorem q_1052 : (Jvm.Cond.code ({ cls := "MatchingGraphModel", name := "edgesIn", desc := "(I)I" } : Jvm.MethodName) prog_9_method_61_code (5 : Nat) (Option.some Jvm.ClassFile.FieldType.int)) ∈ WS := ws_tin 1052 (by decide +kernel) (by decide +kernel)
theorem q_1053 : (Jvm.Cond.methodLink "MatchingGraphModel" (184 : Nat) ({ cls := "MatchingGraphModel", name := "isCritical", desc := "()Z" } : Jvm.MethodName)) ∈ WS := ws_tin 1053 (by decide +kernel) (by decide +kernel)
theorem q_1055 : (Jvm.Cond.instanceMethod ({ cls := "MatchingGraphModel", name := "isCritical", desc := "()Z" } : Jvm.MethodName)) ∈ WS := ws_tin 1055 (by decide +kernel) (by decide +kernel)
theorem q_1056 : (Jvm.Cond.code ({ cls := "MatchingGraphModel", name := "isCritical", desc := "()Z" } : Jvm.MethodName) prog_9_method_19_code (3 : Nat) (Option.some Jvm.ClassFile.FieldType.boolean)) ∈ WS := ws_tin 1056 (by decide +kernel) (by decide +kernel)
theorem q_1057 : (Jvm.Cond.methodLink "MatchingGraphLaw" (167 : Nat) ({ cls := "MatchingGraphModel", name := "difference", desc := "(I)I" } : Jvm.MethodName)) ∈ WS := ws_tin 1057 (by decide +kernel) (by decide +kernel)
theorem q_1058 : (Jvm.Cond.instanceMethod ({ cls := "MatchingGraphModel", name := "difference", desc := "(I)I" } : Jvm.MethodName)) ∈ WS := ws_tin 1058 (by decide +kernel) (by decide +kernel)
theorem q_1059 : (Jvm.Cond.selects "MatchingGraphModel" ({ cls := "MatchingGraphModel", name := "difference", desc := "(I)I" } : Jvm.MethodName) ({ cls := "MatchingGraphModel", name := "difference", desc := "(I)I" } : Jvm.MethodName)) ∈ WS := ws_tin 1059 (by decide +kernel) (by decide +kernel)
theorem q_1060 : (Jvm.Cond.code ({ cls := "MatchingGraphModel", name := "difference", desc := "(I)I" } : Jvm.MethodName) prog_9_method_68_code (2 : Nat) (Option.some Jvm.ClassFile.FieldType.int)) ∈ WS := ws_tin 1060 (by decide +kernel) (by decide +kernel)
theorem q_1061 : (Jvm.Cond.methodLink "MatchingGraphModel" (200 : Nat) ({ cls := "MatchingGraphModel", name := "differenceNow", desc := "(I)I" } : Jvm.MethodName)) ∈ WS := ws_tin 1061 (by decide +kernel) (by decide +kernel)
theorem q_1063 : (Jvm.Cond.instanceMethod ({ cls := "MatchingGraphModel", name := "differenceNow", desc := "(I)I" } : Jvm.MethodName)) ∈ WS := ws_tin 1063 (by decide +kernel) (by decide +kernel)
theorem q_1064 : (Jvm.Cond.code ({ cls := "MatchingGraphModel", name := "differenceNow", desc := "(I)I" } : Jvm.MethodName) prog_9_method_67_code (6 : Nat) (Option.some Jvm.ClassFile.FieldType.int)) ∈ WS := ws_tin 1064 (by decide +kernel) (by decide +kernel)
theorem q_1065 : (Jvm.Cond.methodLink "MatchingGraphModel" (191 : Nat) ({ cls := "MatchingGraphModel", name := "differs", desc := "(I)Z" } : Jvm.MethodName)) ∈ WS := ws_tin 1065 (by decide +kernel) (by decide +kernel)
theorem q_1067 : (Jvm.Cond.instanceMethod ({ cls := "MatchingGraphModel", name := "differs", desc := "(I)Z" } : Jvm.MethodName)) ∈ WS := ws_tin 1067 (by decide +kernel) (by decide +kernel)
theorem q_1068 : (Jvm.Cond.code ({ cls := "MatchingGraphModel", name := "differs", desc := "(I)Z" } : Jvm.MethodName) prog_9_method_64_code (2 : Nat) (Option.some Jvm.ClassFile.FieldType.boolean)) ∈ WS := ws_tin 1068 (by decide +kernel) (by decide +kernel)
theorem q_1069 : (Jvm.Cond.methodLink "MatchingGraphModel" (194 : Nat) ({ cls := "MatchingGraphModel", name := "joined", desc := "(I)I" } : Jvm.MethodName)) ∈ WS := ws_tin 1069 (by decide +kernel) (by decide +kernel)
theorem q_1071 : (Jvm.Cond.instanceMethod ({ cls := "MatchingGraphModel", name := "joined", desc := "(I)I" } : Jvm.MethodName)) ∈ WS := ws_tin 1071 (by decide +kernel) (by decide +kernel)
theorem q_1072 : (Jvm.Cond.code ({ cls := "MatchingGraphModel", name := "joined", desc := "(I)I" } : Jvm.MethodName) prog_9_method_65_code (5 : Nat) (Option.some Jvm.ClassFile.FieldType.int)) ∈ WS := ws_tin 1072 (by decide +kernel) (by decide +kernel)
theorem q_1073 : (Jvm.Cond.methodLink "MatchingGraphModel" (197 : Nat) ({ cls := "MatchingGraphModel", name := "isRing", desc := "(I)Z" } : Jvm.MethodName)) ∈ WS := ws_tin 1073 (by decide +kernel) (by decide +kernel)
theorem q_1075 : (Jvm.Cond.instanceMethod ({ cls := "MatchingGraphModel", name := "isRing", desc := "(I)Z" } : Jvm.MethodName)) ∈ WS := ws_tin 1075 (by decide +kernel) (by decide +kernel)
theorem q_1076 : (Jvm.Cond.code ({ cls := "MatchingGraphModel", name := "isRing", desc := "(I)Z" } : Jvm.MethodName) prog_9_method_66_code (4 : Nat) (Option.some Jvm.ClassFile.FieldType.boolean)) ∈ WS := ws_tin 1076 (by decide +kernel) (by decide +kernel)
theorem q_1077 : (Jvm.Cond.methodLink "MatchingGraphLaw" (172 : Nat) ({ cls := "MatchingGraphModel", name := "meanUse", desc := "()D" } : Jvm.MethodName)) ∈ WS := ws_tin 1077 (by decide +kernel) (by decide +kernel)
theorem q_1078 : (Jvm.Cond.instanceMethod ({ cls := "MatchingGraphModel", name := "meanUse", desc := "()D" } : Jvm.MethodName)) ∈ WS := ws_tin 1078 (by decide +kernel) (by decide +kernel)
theorem q_1079 : (Jvm.Cond.selects "MatchingGraphModel" ({ cls := "MatchingGraphModel", name := "meanUse", desc := "()D" } : Jvm.MethodName) ({ cls := "MatchingGraphModel", name := "meanUse", desc := "()D" } : Jvm.MethodName)) ∈ WS := ws_tin 1079 (by decide +kernel) (by decide +kernel)
theorem q_1080 : (Jvm.Cond.code ({ cls := "MatchingGraphModel", name := "meanUse", desc := "()D" } : Jvm.MethodName) prog_9_method_69_code (4 : Nat) (Option.some Jvm.ClassFile.FieldType.double)) ∈ WS := ws_tin 1080 (by decide +kernel) (by decide +kernel)
theorem q_1081 : (Jvm.Cond.methodLink "MatchingGraphLaw" (177 : Nat) ({ cls := "MatchingGraphModel", name := "digest", desc := "()J" } : Jvm.MethodName)) ∈ WS := ws_tin 1081 (by decide +kernel) (by decide +kernel)
theorem q_1082 : (Jvm.Cond.instanceMethod ({ cls := "MatchingGraphModel", name := "digest", desc := "()J" } : Jvm.MethodName)) ∈ WS := ws_tin 1082 (by decide +kernel) (by decide +kernel)
theorem q_1083 : (Jvm.Cond.selects "MatchingGraphModel" ({ cls := "MatchingGraphModel", name := "digest", desc := "()J" } : Jvm.MethodName) ({ cls := "MatchingGraphModel", name := "digest", desc := "()J" } : Jvm.MethodName)) ∈ WS := ws_tin 1083 (by decide +kernel) (by decide +kernel)
theorem q_1084 : (Jvm.Cond.code ({ cls := "MatchingGraphModel", name := "digest", desc := "()J" } : Jvm.MethodName) prog_9_method_73_code (2 : Nat) (Option.some Jvm.ClassFile.FieldType.long)) ∈ WS := ws_tin 1084 (by decide +kernel) (by decide +kernel)
theorem q_1085 : (Jvm.Cond.constantLong "MatchingGraphModel" (213 : Nat) (2003 : Int64)) ∈ WS := ws_tin 1085 (by decide +kernel) (by decide +kernel)
theorem q_1086 : (Jvm.Cond.methodLink "MatchingGraphModel" (209 : Nat) ({ cls := "MatchingGraphModel", name := "mix", desc := "(J)V" } : Jvm.MethodName)) ∈ WS := ws_tin 1086 (by decide +kernel) (by decide +kernel)
theorem q_1088 : (Jvm.Cond.instanceMethod ({ cls := "MatchingGraphModel", name := "mix", desc := "(J)V" } : Jvm.MethodName)) ∈ WS := ws_tin 1088 (by decide +kernel) (by decide +kernel)
theorem q_1089 : (Jvm.Cond.code ({ cls := "MatchingGraphModel", name := "mix", desc := "(J)V" } : Jvm.MethodName) prog_9_method_70_code (3 : Nat) (Option.none : Option Jvm.ClassFile.FieldType)) ∈ WS := ws_tin 1089 (by decide +kernel) (by decide +kernel)
theorem q_1090 : (Jvm.Cond.constantLong "MatchingGraphModel" (203 : Nat) (31 : Int64)) ∈ WS := ws_tin 1090 (by decide +kernel) (by decide +kernel)
theorem q_1091 : (Jvm.Cond.methodLink "MatchingGraphModel" (215 : Nat) ({ cls := "MatchingGraphModel", name := "mixNode", desc := "(I)V" } : Jvm.MethodName)) ∈ WS := ws_tin 1091 (by decide +kernel) (by decide +kernel)
theorem q_1093 : (Jvm.Cond.instanceMethod ({ cls := "MatchingGraphModel", name := "mixNode", desc := "(I)V" } : Jvm.MethodName)) ∈ WS := ws_tin 1093 (by decide +kernel) (by decide +kernel)
theorem q_1094 : (Jvm.Cond.code ({ cls := "MatchingGraphModel", name := "mixNode", desc := "(I)V" } : Jvm.MethodName) prog_9_method_71_code (3 : Nat) (Option.none : Option Jvm.ClassFile.FieldType)) ∈ WS := ws_tin 1094 (by decide +kernel) (by decide +kernel)
theorem q_1095 : (Jvm.Cond.methodLink "MatchingGraphModel" (218 : Nat) ({ cls := "MatchingGraphModel", name := "mixPairs", desc := "()V" } : Jvm.MethodName)) ∈ WS := ws_tin 1095 (by decide +kernel) (by decide +kernel)
theorem q_1097 : (Jvm.Cond.instanceMethod ({ cls := "MatchingGraphModel", name := "mixPairs", desc := "()V" } : Jvm.MethodName)) ∈ WS := ws_tin 1097 (by decide +kernel) (by decide +kernel)
theorem q_1098 : (Jvm.Cond.code ({ cls := "MatchingGraphModel", name := "mixPairs", desc := "()V" } : Jvm.MethodName) prog_9_method_72_code (4 : Nat) (Option.none : Option Jvm.ClassFile.FieldType)) ∈ WS := ws_tin 1098 (by decide +kernel) (by decide +kernel)
theorem q_1099 : (Jvm.Cond.arrayClass Jvm.ClassFile.FieldType.long) ∈ WS := ws_tin 1099 (by decide +kernel) (by decide +kernel)
theorem qs_0 : Cond.selects "MatchingGraph$Input" ⟨"MatchingGraph$Input", "stateAt", "(III)I"⟩ ⟨"MatchingGraph$Input", "stateAt", "(III)I"⟩ ∈ WS := ws_pin 0 (by decide +kernel) (by decide +kernel)
theorem qs_1 : Cond.selects "MatchingGraph" ⟨"MatchingGraph", "augmentLowest", "()Z"⟩ ⟨"MatchingGraph", "augmentLowest", "()Z"⟩ ∈ WS := ws_pin 1 (by decide +kernel) (by decide +kernel)
theorem qs_2 : Cond.selects "MatchingGraph" ⟨"MatchingGraph", "augmentFrom", "(I)I"⟩ ⟨"MatchingGraph", "augmentFrom", "(I)I"⟩ ∈ WS := ws_pin 2 (by decide +kernel) (by decide +kernel)
theorem qs_3 : Cond.selects "MatchingGraph$Paths" ⟨"MatchingGraph$Paths", "numberPairs", "()V"⟩ ⟨"MatchingGraph$Paths", "numberPairs", "()V"⟩ ∈ WS := ws_pin 3 (by decide +kernel) (by decide +kernel)
theorem qs_4 : Cond.selects "MatchingGraph$Paths" ⟨"MatchingGraph$Paths", "followWay", "(III)Z"⟩ ⟨"MatchingGraph$Paths", "followWay", "(III)Z"⟩ ∈ WS := ws_pin 4 (by decide +kernel) (by decide +kernel)
theorem qs_5 : Cond.selects "MatchingGraph$Paths" ⟨"MatchingGraph$Paths", "followWayTo", "(IIII)Z"⟩ ⟨"MatchingGraph$Paths", "followWayTo", "(IIII)Z"⟩ ∈ WS := ws_pin 5 (by decide +kernel) (by decide +kernel)
theorem qs_6 : Cond.selects "MatchingGraph$Maxima" ⟨"MatchingGraph$Maxima", "learn", "()V"⟩ ⟨"MatchingGraph$Maxima", "learn", "()V"⟩ ∈ WS := ws_pin 6 (by decide +kernel) (by decide +kernel)
theorem qs_7 : Cond.selects "MatchingGraph$Maxima" ⟨"MatchingGraph$Maxima", "findOut", "(II)V"⟩ ⟨"MatchingGraph$Maxima", "findOut", "(II)V"⟩ ∈ WS := ws_pin 7 (by decide +kernel) (by decide +kernel)
theorem qs_8 : Cond.selects "MatchingGraph$Maxima" ⟨"MatchingGraph$Maxima", "findFirst", "()V"⟩ ⟨"MatchingGraph$Maxima", "findFirst", "()V"⟩ ∈ WS := ws_pin 8 (by decide +kernel) (by decide +kernel)
theorem qs_9 : Cond.selects "MatchingGraph$Maxima" ⟨"MatchingGraph$Maxima", "leastMate", "(II)I"⟩ ⟨"MatchingGraph$Maxima", "leastMate", "(II)I"⟩ ∈ WS := ws_pin 9 (by decide +kernel) (by decide +kernel)
theorem qs_10 : Cond.selects "MatchingGraph$Graph" ⟨"MatchingGraph$Graph", "besides", "(I)I"⟩ ⟨"MatchingGraph$Graph", "besides", "(I)I"⟩ ∈ WS := ws_pin 10 (by decide +kernel) (by decide +kernel)
theorem qs_11 : Cond.selects "MatchingGraph" ⟨"MatchingGraph", "isProof", "(II)Z"⟩ ⟨"MatchingGraph", "isProof", "(II)Z"⟩ ∈ WS := ws_pin 11 (by decide +kernel) (by decide +kernel)
theorem qs_12 : Cond.selects "MatchingGraph" ⟨"MatchingGraph", "deficiency", "()I"⟩ ⟨"MatchingGraph", "deficiency", "()I"⟩ ∈ WS := ws_pin 12 (by decide +kernel) (by decide +kernel)
theorem qs_13 : Cond.selects "java/lang/Throwable" ⟨"java/lang/Throwable", "fillInStackTrace", "(I)Ljava/lang/Throwable;"⟩ ⟨"java/lang/Throwable", "fillInStackTrace", "(I)Ljava/lang/Throwable;"⟩ ∈ WS := ws_pin 13 (by decide +kernel) (by decide +kernel)
theorem qs_14 : Cond.selects "MatchingGraph" ⟨"MatchingGraph", "mixNode", "(JI)J"⟩ ⟨"MatchingGraph", "mixNode", "(JI)J"⟩ ∈ WS := ws_pin 14 (by decide +kernel) (by decide +kernel)
theorem qs_15 : Cond.selects "MatchingGraph" ⟨"MatchingGraph", "requireNode", "(I)V"⟩ ⟨"MatchingGraph", "requireNode", "(I)V"⟩ ∈ WS := ws_pin 15 (by decide +kernel) (by decide +kernel)
theorem qs_16 : Cond.selects "MatchingGraph" ⟨"MatchingGraph", "partOf", "(I)I"⟩ ⟨"MatchingGraph", "partOf", "(I)I"⟩ ∈ WS := ws_pin 16 (by decide +kernel) (by decide +kernel)
theorem qs_17 : Cond.selects "MatchingGraph$Paths" ⟨"MatchingGraph$Paths", "followFrom", "(III)V"⟩ ⟨"MatchingGraph$Paths", "followFrom", "(III)V"⟩ ∈ WS := ws_pin 17 (by decide +kernel) (by decide +kernel)
theorem qs_18 : Cond.selects "MatchingGraph" ⟨"MatchingGraph", "requireExposed", "(I)V"⟩ ⟨"MatchingGraph", "requireExposed", "(I)V"⟩ ∈ WS := ws_pin 18 (by decide +kernel) (by decide +kernel)
theorem qs_19 : Cond.selects "MatchingGraph" ⟨"MatchingGraph", "mixPair", "(JII)J"⟩ ⟨"MatchingGraph", "mixPair", "(JII)J"⟩ ∈ WS := ws_pin 19 (by decide +kernel) (by decide +kernel)
theorem qs_20 : Cond.selects "MatchingGraph" ⟨"MatchingGraph", "drawDifferences", "(LMatchingGraph$Matching;)V"⟩ ⟨"MatchingGraph", "drawDifferences", "(LMatchingGraph$Matching;)V"⟩ ∈ WS := ws_pin 20 (by decide +kernel) (by decide +kernel)
theorem qs_21 : Cond.selects "MatchingGraph" ⟨"MatchingGraph", "mixInput", "(J)J"⟩ ⟨"MatchingGraph", "mixInput", "(J)J"⟩ ∈ WS := ws_pin 21 (by decide +kernel) (by decide +kernel)
theorem qs_22 : Cond.selects "MatchingGraph" ⟨"MatchingGraph", "addRead", "(IIZ)I"⟩ ⟨"MatchingGraph", "addRead", "(IIZ)I"⟩ ∈ WS := ws_pin 22 (by decide +kernel) (by decide +kernel)
theorem qs_23 : Cond.selects "MatchingGraphModel" ⟨"MatchingGraphModel", "clearAll", "()V"⟩ ⟨"MatchingGraphModel", "clearAll", "()V"⟩ ∈ WS := ws_pin 23 (by decide +kernel) (by decide +kernel)
theorem qs_24 : Cond.selects "MatchingGraphModel" ⟨"MatchingGraphModel", "isNode", "(I)Z"⟩ ⟨"MatchingGraphModel", "isNode", "(I)Z"⟩ ∈ WS := ws_pin 24 (by decide +kernel) (by decide +kernel)
theorem qs_25 : Cond.selects "MatchingGraphModel" ⟨"MatchingGraphModel", "keep", "()V"⟩ ⟨"MatchingGraphModel", "keep", "()V"⟩ ∈ WS := ws_pin 25 (by decide +kernel) (by decide +kernel)
theorem qs_26 : Cond.selects "MatchingGraphModel" ⟨"MatchingGraphModel", "flip", "(II)V"⟩ ⟨"MatchingGraphModel", "flip", "(II)V"⟩ ∈ WS := ws_pin 26 (by decide +kernel) (by decide +kernel)
theorem qs_27 : Cond.selects "MatchingGraphModel" ⟨"MatchingGraphModel", "part", "(I)V"⟩ ⟨"MatchingGraphModel", "part", "(I)V"⟩ ∈ WS := ws_pin 27 (by decide +kernel) (by decide +kernel)
theorem qs_28 : Cond.selects "MatchingGraphModel" ⟨"MatchingGraphModel", "rightLength", "()I"⟩ ⟨"MatchingGraphModel", "rightLength", "()I"⟩ ∈ WS := ws_pin 28 (by decide +kernel) (by decide +kernel)
theorem qs_29 : Cond.selects "MatchingGraphModel" ⟨"MatchingGraphModel", "takes", "(I)Z"⟩ ⟨"MatchingGraphModel", "takes", "(I)Z"⟩ ∈ WS := ws_pin 29 (by decide +kernel) (by decide +kernel)
theorem qs_30 : Cond.selects "MatchingGraphModel" ⟨"MatchingGraphModel", "pair", "(II)V"⟩ ⟨"MatchingGraphModel", "pair", "(II)V"⟩ ∈ WS := ws_pin 30 (by decide +kernel) (by decide +kernel)
theorem qs_31 : Cond.selects "MatchingGraphModel" ⟨"MatchingGraphModel", "size", "()I"⟩ ⟨"MatchingGraphModel", "size", "()I"⟩ ∈ WS := ws_pin 31 (by decide +kernel) (by decide +kernel)
theorem qs_32 : Cond.selects "MatchingGraphModel" ⟨"MatchingGraphModel", "exposedFault", "(I)I"⟩ ⟨"MatchingGraphModel", "exposedFault", "(I)I"⟩ ∈ WS := ws_pin 32 (by decide +kernel) (by decide +kernel)
theorem qs_33 : Cond.selects "MatchingGraphModel" ⟨"MatchingGraphModel", "augmentFrom", "(I)I"⟩ ⟨"MatchingGraphModel", "augmentFrom", "(I)I"⟩ ∈ WS := ws_pin 33 (by decide +kernel) (by decide +kernel)
theorem qs_34 : Cond.selects "MatchingGraphModel" ⟨"MatchingGraphModel", "layWay", "(I)I"⟩ ⟨"MatchingGraphModel", "layWay", "(I)I"⟩ ∈ WS := ws_pin 34 (by decide +kernel) (by decide +kernel)
theorem qs_35 : Cond.selects "MatchingGraphModel" ⟨"MatchingGraphModel", "goThrough", "(II)Z"⟩ ⟨"MatchingGraphModel", "goThrough", "(II)Z"⟩ ∈ WS := ws_pin 35 (by decide +kernel) (by decide +kernel)
theorem qs_36 : Cond.selects "MatchingGraphModel" ⟨"MatchingGraphModel", "step", "(III)I"⟩ ⟨"MatchingGraphModel", "step", "(III)I"⟩ ∈ WS := ws_pin 36 (by decide +kernel) (by decide +kernel)
theorem qs_37 : Cond.selects "MatchingGraphModel" ⟨"MatchingGraphModel", "lowestWithWay", "()I"⟩ ⟨"MatchingGraphModel", "lowestWithWay", "()I"⟩ ∈ WS := ws_pin 37 (by decide +kernel) (by decide +kernel)
theorem qs_38 : Cond.selects "MatchingGraphModel" ⟨"MatchingGraphModel", "laySets", "()V"⟩ ⟨"MatchingGraphModel", "laySets", "()V"⟩ ∈ WS := ws_pin 38 (by decide +kernel) (by decide +kernel)
theorem qs_39 : Cond.selects "MatchingGraphModel" ⟨"MatchingGraphModel", "all", "()I"⟩ ⟨"MatchingGraphModel", "all", "()I"⟩ ∈ WS := ws_pin 39 (by decide +kernel) (by decide +kernel)
theorem qs_40 : Cond.selects "MatchingGraphModel" ⟨"MatchingGraphModel", "note", "(III)V"⟩ ⟨"MatchingGraphModel", "note", "(III)V"⟩ ∈ WS := ws_pin 40 (by decide +kernel) (by decide +kernel)
theorem qs_41 : Cond.selects "MatchingGraphModel" ⟨"MatchingGraphModel", "layFirst", "()V"⟩ ⟨"MatchingGraphModel", "layFirst", "()V"⟩ ∈ WS := ws_pin 41 (by decide +kernel) (by decide +kernel)
theorem qs_42 : Cond.selects "MatchingGraphModel" ⟨"MatchingGraphModel", "layReach", "(I)V"⟩ ⟨"MatchingGraphModel", "layReach", "(I)V"⟩ ∈ WS := ws_pin 42 (by decide +kernel) (by decide +kernel)
theorem qs_43 : Cond.selects "MatchingGraphModel" ⟨"MatchingGraphModel", "oddCycleNow", "()I"⟩ ⟨"MatchingGraphModel", "oddCycleNow", "()I"⟩ ∈ WS := ws_pin 43 (by decide +kernel) (by decide +kernel)
theorem qs_44 : Cond.selects "MatchingGraphModel" ⟨"MatchingGraphModel", "oddWalk", "(I)I"⟩ ⟨"MatchingGraphModel", "oddWalk", "(I)I"⟩ ∈ WS := ws_pin 44 (by decide +kernel) (by decide +kernel)
theorem qs_45 : Cond.selects "MatchingGraphModel" ⟨"MatchingGraphModel", "proofNow", "()I"⟩ ⟨"MatchingGraphModel", "proofNow", "()I"⟩ ∈ WS := ws_pin 45 (by decide +kernel) (by decide +kernel)
theorem qs_46 : Cond.selects "MatchingGraphModel" ⟨"MatchingGraphModel", "componentsOf", "(IZ)I"⟩ ⟨"MatchingGraphModel", "componentsOf", "(IZ)I"⟩ ∈ WS := ws_pin 46 (by decide +kernel) (by decide +kernel)
theorem qs_47 : Cond.selects "MatchingGraphModel" ⟨"MatchingGraphModel", "componentOf", "(II)I"⟩ ⟨"MatchingGraphModel", "componentOf", "(II)I"⟩ ∈ WS := ws_pin 47 (by decide +kernel) (by decide +kernel)
theorem qs_48 : Cond.selects "MatchingGraphModel" ⟨"MatchingGraphModel", "nodeNow", "(II)I"⟩ ⟨"MatchingGraphModel", "nodeNow", "(II)I"⟩ ∈ WS := ws_pin 48 (by decide +kernel) (by decide +kernel)
theorem qs_49 : Cond.selects "MatchingGraphModel" ⟨"MatchingGraphModel", "partOf", "(I)I"⟩ ⟨"MatchingGraphModel", "partOf", "(I)I"⟩ ∈ WS := ws_pin 49 (by decide +kernel) (by decide +kernel)
theorem qs_50 : Cond.selects "MatchingGraphModel" ⟨"MatchingGraphModel", "exposing", "(I)I"⟩ ⟨"MatchingGraphModel", "exposing", "(I)I"⟩ ∈ WS := ws_pin 50 (by decide +kernel) (by decide +kernel)
theorem qs_51 : Cond.selects "MatchingGraphModel" ⟨"MatchingGraphModel", "lowest", "(I)I"⟩ ⟨"MatchingGraphModel", "lowest", "(I)I"⟩ ∈ WS := ws_pin 51 (by decide +kernel) (by decide +kernel)
theorem qs_52 : Cond.selects "MatchingGraphModel" ⟨"MatchingGraphModel", "edgeNow", "(III)I"⟩ ⟨"MatchingGraphModel", "edgeNow", "(III)I"⟩ ∈ WS := ws_pin 52 (by decide +kernel) (by decide +kernel)
theorem qs_53 : Cond.selects "MatchingGraphModel" ⟨"MatchingGraphModel", "using", "(II)I"⟩ ⟨"MatchingGraphModel", "using", "(II)I"⟩ ∈ WS := ws_pin 53 (by decide +kernel) (by decide +kernel)
theorem qs_54 : Cond.selects "MatchingGraphModel" ⟨"MatchingGraphModel", "counted", "(I)I"⟩ ⟨"MatchingGraphModel", "counted", "(I)I"⟩ ∈ WS := ws_pin 54 (by decide +kernel) (by decide +kernel)
theorem qs_55 : Cond.selects "MatchingGraphModel" ⟨"MatchingGraphModel", "edgeCount", "()I"⟩ ⟨"MatchingGraphModel", "edgeCount", "()I"⟩ ∈ WS := ws_pin 55 (by decide +kernel) (by decide +kernel)
theorem qs_56 : Cond.selects "MatchingGraphModel" ⟨"MatchingGraphModel", "edgesIn", "(I)I"⟩ ⟨"MatchingGraphModel", "edgesIn", "(I)I"⟩ ∈ WS := ws_pin 56 (by decide +kernel) (by decide +kernel)
theorem qs_57 : Cond.selects "MatchingGraphModel" ⟨"MatchingGraphModel", "isCritical", "()Z"⟩ ⟨"MatchingGraphModel", "isCritical", "()Z"⟩ ∈ WS := ws_pin 57 (by decide +kernel) (by decide +kernel)
theorem qs_58 : Cond.selects "MatchingGraphModel" ⟨"MatchingGraphModel", "differenceNow", "(I)I"⟩ ⟨"MatchingGraphModel", "differenceNow", "(I)I"⟩ ∈ WS := ws_pin 58 (by decide +kernel) (by decide +kernel)
theorem qs_59 : Cond.selects "MatchingGraphModel" ⟨"MatchingGraphModel", "differs", "(I)Z"⟩ ⟨"MatchingGraphModel", "differs", "(I)Z"⟩ ∈ WS := ws_pin 59 (by decide +kernel) (by decide +kernel)
theorem qs_60 : Cond.selects "MatchingGraphModel" ⟨"MatchingGraphModel", "joined", "(I)I"⟩ ⟨"MatchingGraphModel", "joined", "(I)I"⟩ ∈ WS := ws_pin 60 (by decide +kernel) (by decide +kernel)
theorem qs_61 : Cond.selects "MatchingGraphModel" ⟨"MatchingGraphModel", "isRing", "(I)Z"⟩ ⟨"MatchingGraphModel", "isRing", "(I)Z"⟩ ∈ WS := ws_pin 61 (by decide +kernel) (by decide +kernel)
theorem qs_62 : Cond.selects "MatchingGraphModel" ⟨"MatchingGraphModel", "mix", "(J)V"⟩ ⟨"MatchingGraphModel", "mix", "(J)V"⟩ ∈ WS := ws_pin 62 (by decide +kernel) (by decide +kernel)
theorem qs_63 : Cond.selects "MatchingGraphModel" ⟨"MatchingGraphModel", "mixNode", "(I)V"⟩ ⟨"MatchingGraphModel", "mixNode", "(I)V"⟩ ∈ WS := ws_pin 63 (by decide +kernel) (by decide +kernel)
theorem qs_64 : Cond.selects "MatchingGraphModel" ⟨"MatchingGraphModel", "mixPairs", "()V"⟩ ⟨"MatchingGraphModel", "mixPairs", "()V"⟩ ∈ WS := ws_pin 64 (by decide +kernel) (by decide +kernel)
/-- the words of nest mates: a state has them or not -/
def NWl : List Cond := [(Jvm.Cond.methodLinkNest "MatchingGraph" (11 : Nat) ({ cls := "MatchingGraph$Graph", name := "<init>", desc := "()V" } : Jvm.MethodName) "MatchingGraph"), (Jvm.Cond.fieldLinkNest "MatchingGraph$Paths" (36 : Nat) "MatchingGraph$Graph" "nodes" "I" "MatchingGraph"), (Jvm.Cond.fieldLinkNest "MatchingGraph" (65 : Nat) "MatchingGraph$Graph" "nodes" "I" "MatchingGraph"), (Jvm.Cond.fieldLinkNest "MatchingGraph$Maxima" (56 : Nat) "MatchingGraph$Graph" "nodes" "I" "MatchingGraph"), (Jvm.Cond.fieldLinkNest "MatchingGraph$History" (26 : Nat) "MatchingGraph$Graph" "near" "[I" "MatchingGraph"), (Jvm.Cond.fieldLinkNest "MatchingGraph$Maxima" (59 : Nat) "MatchingGraph$Graph" "near" "[I" "MatchingGraph"), (Jvm.Cond.fieldLinkNest "MatchingGraph" (240 : Nat) "MatchingGraph$Graph" "near" "[I" "MatchingGraph"), (Jvm.Cond.fieldLinkNest "MatchingGraph$Maxima" (37 : Nat) "MatchingGraph$Graph" "changes" "I" "MatchingGraph"), (Jvm.Cond.fieldLinkNest "MatchingGraph$Paths" (41 : Nat) "MatchingGraph$Matching" "mate" "[I" "MatchingGraph"), (Jvm.Cond.fieldLinkNest "MatchingGraph$History" (38 : Nat) "MatchingGraph$Matching" "mate" "[I" "MatchingGraph"), (Jvm.Cond.fieldLinkNest "MatchingGraph" (150 : Nat) "MatchingGraph$Matching" "mate" "[I" "MatchingGraph"), (Jvm.Cond.methodLinkNest "MatchingGraph" (25 : Nat) ({ cls := "MatchingGraph$Input", name := "<init>", desc := "()V" } : Jvm.MethodName) "MatchingGraph"), (Jvm.Cond.fieldLinkNest "MatchingGraph" (325 : Nat) "MatchingGraph$Input" "codes" "[I" "MatchingGraph"), (Jvm.Cond.fieldLinkNest "MatchingGraph" (102 : Nat) "MatchingGraph$Input" "length" "I" "MatchingGraph"), (Jvm.Cond.methodLinkNest "MatchingGraph" (32 : Nat) ({ cls := "MatchingGraph$History", name := "<init>", desc := "()V" } : Jvm.MethodName) "MatchingGraph"), (Jvm.Cond.fieldLinkNest "MatchingGraph" (179 : Nat) "MatchingGraph$History" "kept" "I" "MatchingGraph"), (Jvm.Cond.fieldLinkNest "MatchingGraph" (164 : Nat) "MatchingGraph$Paths" "wayNodes" "[I" "MatchingGraph"), (Jvm.Cond.fieldLinkNest "MatchingGraph" (190 : Nat) "MatchingGraph$Paths" "evenEnds" "I" "MatchingGraph"), (Jvm.Cond.fieldLinkNest "MatchingGraph" (193 : Nat) "MatchingGraph$Paths" "oddEnds" "I" "MatchingGraph")]
theorem nw_tbl : ∀ w ∈ NWl, w ∈ lw_tbl := by decide +kernel
def NW (U : State) : Prop := ∀ w ∈ NWl, va_Nw w U
theorem n_29 {U : State} (h : NW U) : va_Nw (Jvm.Cond.methodLinkNest "MatchingGraph" (11 : Nat) ({ cls := "MatchingGraph$Graph", name := "<init>", desc := "()V" } : Jvm.MethodName) "MatchingGraph") U := h _ (List.mem_of_getElem? (i := 0) rfl)
theorem n_34 {U : State} (h : NW U) : va_Nw (Jvm.Cond.fieldLinkNest "MatchingGraph$Paths" (36 : Nat) "MatchingGraph$Graph" "nodes" "I" "MatchingGraph") U := h _ (List.mem_of_getElem? (i := 1) rfl)
theorem n_35 {U : State} (h : NW U) : va_Nw (Jvm.Cond.fieldLinkNest "MatchingGraph" (65 : Nat) "MatchingGraph$Graph" "nodes" "I" "MatchingGraph") U := h _ (List.mem_of_getElem? (i := 2) rfl)
theorem n_36 {U : State} (h : NW U) : va_Nw (Jvm.Cond.fieldLinkNest "MatchingGraph$Maxima" (56 : Nat) "MatchingGraph$Graph" "nodes" "I" "MatchingGraph") U := h _ (List.mem_of_getElem? (i := 3) rfl)
theorem n_38 {U : State} (h : NW U) : va_Nw (Jvm.Cond.fieldLinkNest "MatchingGraph$History" (26 : Nat) "MatchingGraph$Graph" "near" "[I" "MatchingGraph") U := h _ (List.mem_of_getElem? (i := 4) rfl)
theorem n_39 {U : State} (h : NW U) : va_Nw (Jvm.Cond.fieldLinkNest "MatchingGraph$Maxima" (59 : Nat) "MatchingGraph$Graph" "near" "[I" "MatchingGraph") U := h _ (List.mem_of_getElem? (i := 5) rfl)
theorem n_40 {U : State} (h : NW U) : va_Nw (Jvm.Cond.fieldLinkNest "MatchingGraph" (240 : Nat) "MatchingGraph$Graph" "near" "[I" "MatchingGraph") U := h _ (List.mem_of_getElem? (i := 6) rfl)
theorem n_42 {U : State} (h : NW U) : va_Nw (Jvm.Cond.fieldLinkNest "MatchingGraph$Maxima" (37 : Nat) "MatchingGraph$Graph" "changes" "I" "MatchingGraph") U := h _ (List.mem_of_getElem? (i := 7) rfl)
theorem n_61 {U : State} (h : NW U) : va_Nw (Jvm.Cond.fieldLinkNest "MatchingGraph$Paths" (41 : Nat) "MatchingGraph$Matching" "mate" "[I" "MatchingGraph") U := h _ (List.mem_of_getElem? (i := 8) rfl)
theorem n_62 {U : State} (h : NW U) : va_Nw (Jvm.Cond.fieldLinkNest "MatchingGraph$History" (38 : Nat) "MatchingGraph$Matching" "mate" "[I" "MatchingGraph") U := h _ (List.mem_of_getElem? (i := 9) rfl)
theorem n_63 {U : State} (h : NW U) : va_Nw (Jvm.Cond.fieldLinkNest "MatchingGraph" (150 : Nat) "MatchingGraph$Matching" "mate" "[I" "MatchingGraph") U := h _ (List.mem_of_getElem? (i := 10) rfl)
theorem n_69 {U : State} (h : NW U) : va_Nw (Jvm.Cond.methodLinkNest "MatchingGraph" (25 : Nat) ({ cls := "MatchingGraph$Input", name := "<init>", desc := "()V" } : Jvm.MethodName) "MatchingGraph") U := h _ (List.mem_of_getElem? (i := 11) rfl)
theorem n_74 {U : State} (h : NW U) : va_Nw (Jvm.Cond.fieldLinkNest "MatchingGraph" (325 : Nat) "MatchingGraph$Input" "codes" "[I" "MatchingGraph") U := h _ (List.mem_of_getElem? (i := 12) rfl)
theorem n_76 {U : State} (h : NW U) : va_Nw (Jvm.Cond.fieldLinkNest "MatchingGraph" (102 : Nat) "MatchingGraph$Input" "length" "I" "MatchingGraph") U := h _ (List.mem_of_getElem? (i := 13) rfl)
theorem n_84 {U : State} (h : NW U) : va_Nw (Jvm.Cond.methodLinkNest "MatchingGraph" (32 : Nat) ({ cls := "MatchingGraph$History", name := "<init>", desc := "()V" } : Jvm.MethodName) "MatchingGraph") U := h _ (List.mem_of_getElem? (i := 14) rfl)
theorem n_94 {U : State} (h : NW U) : va_Nw (Jvm.Cond.fieldLinkNest "MatchingGraph" (179 : Nat) "MatchingGraph$History" "kept" "I" "MatchingGraph") U := h _ (List.mem_of_getElem? (i := 15) rfl)
theorem n_115 {U : State} (h : NW U) : va_Nw (Jvm.Cond.fieldLinkNest "MatchingGraph" (164 : Nat) "MatchingGraph$Paths" "wayNodes" "[I" "MatchingGraph") U := h _ (List.mem_of_getElem? (i := 16) rfl)
theorem n_117 {U : State} (h : NW U) : va_Nw (Jvm.Cond.fieldLinkNest "MatchingGraph" (190 : Nat) "MatchingGraph$Paths" "evenEnds" "I" "MatchingGraph") U := h _ (List.mem_of_getElem? (i := 17) rfl)
theorem n_119 {U : State} (h : NW U) : va_Nw (Jvm.Cond.fieldLinkNest "MatchingGraph" (193 : Nat) "MatchingGraph$Paths" "oddEnds" "I" "MatchingGraph") U := h _ (List.mem_of_getElem? (i := 18) rfl)
