def RX0 : String := "BeginningsFilter$Keys"
def TX0 : u_T := fun k => match k with
  | 0 => ("BeginningsFilter$Keys", "bytes", "[J", true)
  | 1 => ("BeginningsFilter$Keys", "lengths", "[I", true)
  | _ => ("BeginningsFilter$Keys", "count", "I", false)
def tyX0 : Nat → FieldType := fun k => match k with
  | 0 => .array .long
  | 1 => .array .int
  | _ => .int
theorem nmX0 : ∀ a, a < 3 → ∀ b, b < 3 → a ≠ b → (TX0 a).2.1 ≠ (TX0 b).2.1 := by decide +kernel
theorem tyX0_ok : ∀ k, k < 3 → parseFieldDescriptor (TX0 k).2.2.1 = some (tyX0 k) := by decide +kernel
abbrev cX0_init : ByteArray := prog_2_method_1_code
def yX0_init : MethodName := ⟨RX0, "<init>", "()V"⟩
abbrev cX0_bytesAt : ByteArray := prog_2_method_2_code
def yX0_bytesAt : MethodName := ⟨RX0, "bytesAt", "(I)J"⟩
abbrev cX0_lengthAt : ByteArray := prog_2_method_3_code
def yX0_lengthAt : MethodName := ⟨RX0, "lengthAt", "(I)I"⟩
abbrev cX0_ahead : ByteArray := prog_2_method_4_code
def yX0_ahead : MethodName := ⟨RX0, "ahead", "(JI)I"⟩
abbrev cX0_upTo : ByteArray := prog_2_method_5_code
def yX0_upTo : MethodName := ⟨RX0, "upTo", "(JI)I"⟩
abbrev cX0_counted : ByteArray := prog_2_method_6_code
def yX0_counted : MethodName := ⟨RX0, "counted", "(JII)I"⟩
abbrev cX0_numberOf : ByteArray := prog_2_method_7_code
def yX0_numberOf : MethodName := ⟨RX0, "numberOf", "(JI)I"⟩
abbrev cX0_insert : ByteArray := prog_2_method_8_code
def yX0_insert : MethodName := ⟨RX0, "insert", "(JI)I"⟩
abbrev cX0_append : ByteArray := prog_2_method_9_code
def yX0_append : MethodName := ⟨RX0, "append", "(JI)V"⟩
abbrev cX0_drop : ByteArray := prog_2_method_10_code
def yX0_drop : MethodName := ⟨RX0, "drop", "(I)V"⟩
abbrev cX0_copyFrom : ByteArray := prog_2_method_11_code
def yX0_copyFrom : MethodName := ⟨RX0, "copyFrom", "(LBeginningsFilter$Keys;)V"⟩
abbrev cX0_notIn : ByteArray := prog_2_method_12_code
def yX0_notIn : MethodName := ⟨RX0, "notIn", "(LBeginningsFilter$Keys;)I"⟩
abbrev cX0_ofLength : ByteArray := prog_2_method_13_code
def yX0_ofLength : MethodName := ⟨RX0, "ofLength", "(I)I"⟩
abbrev cX0_allBytes : ByteArray := prog_2_method_14_code
def yX0_allBytes : MethodName := ⟨RX0, "allBytes", "()I"⟩
def RX1 : String := "BeginningsFilter$Leaves"
def TX1 : u_T := fun k => match k with
  | 0 => ("BeginningsFilter$Leaves", "owners", "LBeginningsFilter$Keys;", true)
  | 1 => ("BeginningsFilter$Leaves", "lows", "LBeginningsFilter$Keys;", true)
  | 2 => ("BeginningsFilter$Leaves", "highs", "LBeginningsFilter$Keys;", true)
  | 3 => ("BeginningsFilter$Leaves", "commons", "[I", true)
  | 4 => ("BeginningsFilter$Leaves", "lengths", "[I", true)
  | 5 => ("BeginningsFilter$Leaves", "hashes", "[I", true)
  | 6 => ("BeginningsFilter$Leaves", "nexts", "[I", true)
  | 7 => ("BeginningsFilter$Leaves", "hashBits", "I", false)
  | 8 => ("BeginningsFilter$Leaves", "realBits", "I", false)
  | _ => ("BeginningsFilter$Leaves", "salt", "I", false)
def tyX1 : Nat → FieldType := fun k => match k with
  | 0 => .object "BeginningsFilter$Keys"
  | 1 => .object "BeginningsFilter$Keys"
  | 2 => .object "BeginningsFilter$Keys"
  | 3 => .array .int
  | 4 => .array .int
  | 5 => .array .int
  | 6 => .array .int
  | 7 => .int
  | 8 => .int
  | _ => .int
theorem nmX1 : ∀ a, a < 10 → ∀ b, b < 10 → a ≠ b → (TX1 a).2.1 ≠ (TX1 b).2.1 := by decide +kernel
theorem tyX1_ok : ∀ k, k < 10 → parseFieldDescriptor (TX1 k).2.2.1 = some (tyX1 k) := by decide +kernel
abbrev cX1_init : ByteArray := prog_3_method_1_code
def yX1_init : MethodName := ⟨RX1, "<init>", "()V"⟩
abbrev cX1_make : ByteArray := prog_3_method_2_code
def yX1_make : MethodName := ⟨RX1, "make", "(LBeginningsFilter$Plan;)V"⟩
abbrev cX1_count : ByteArray := prog_3_method_3_code
def yX1_count : MethodName := ⟨RX1, "count", "()I"⟩
abbrev cX1_cut : ByteArray := prog_3_method_4_code
def yX1_cut : MethodName := ⟨RX1, "cut", "(I)V"⟩
abbrev cX1_bound : ByteArray := prog_3_method_5_code
def yX1_bound : MethodName := ⟨RX1, "bound", "(I)V"⟩
abbrev cX1_lengthAt : ByteArray := prog_3_method_6_code
def yX1_lengthAt : MethodName := ⟨RX1, "lengthAt", "(I)I"⟩
abbrev cX1_isEnded : ByteArray := prog_3_method_7_code
def yX1_isEnded : MethodName := ⟨RX1, "isEnded", "(I)Z"⟩
abbrev cX1_hashAt : ByteArray := prog_3_method_8_code
def yX1_hashAt : MethodName := ⟨RX1, "hashAt", "(I)I"⟩
abbrev cX1_nextAt : ByteArray := prog_3_method_9_code
def yX1_nextAt : MethodName := ⟨RX1, "nextAt", "(I)I"⟩
abbrev cX1_possibleAt : ByteArray := prog_3_method_10_code
def yX1_possibleAt : MethodName := ⟨RX1, "possibleAt", "(JI)I"⟩
abbrev cX1_verdictOf : ByteArray := prog_3_method_11_code
def yX1_verdictOf : MethodName := ⟨RX1, "verdictOf", "(JI)I"⟩
abbrev cX1_met : ByteArray := prog_3_method_12_code
def yX1_met : MethodName := ⟨RX1, "met", "(JIJI)I"⟩
abbrev cX1_held : ByteArray := prog_3_method_13_code
def yX1_held : MethodName := ⟨RX1, "held", "(JIJI)I"⟩
abbrev cX1_covered : ByteArray := prog_3_method_14_code
def yX1_covered : MethodName := ⟨RX1, "covered", "(I)J"⟩
abbrev cX1_beginningOf : ByteArray := prog_3_method_15_code
def yX1_beginningOf : MethodName := ⟨RX1, "beginningOf", "(JI)I"⟩
abbrev cX1_ofLevel : ByteArray := prog_3_method_16_code
def yX1_ofLevel : MethodName := ⟨RX1, "ofLevel", "(I)I"⟩
abbrev cX1_allEnded : ByteArray := prog_3_method_17_code
def yX1_allEnded : MethodName := ⟨RX1, "allEnded", "()I"⟩
abbrev cX1_allBytes : ByteArray := prog_3_method_18_code
def yX1_allBytes : MethodName := ⟨RX1, "allBytes", "()I"⟩
abbrev cX1_tailBits : ByteArray := prog_3_method_19_code
def yX1_tailBits : MethodName := ⟨RX1, "tailBits", "()I"⟩
def RX2 : String := "BeginningsFilter$Moment"
def TX2 : u_T := fun k => match k with
  | 0 => ("BeginningsFilter$Moment", "told", "LBeginningsFilter$Plan;", true)
  | 1 => ("BeginningsFilter$Moment", "built", "LBeginningsFilter$Plan;", true)
  | 2 => ("BeginningsFilter$Moment", "questions", "LBeginningsFilter$Keys;", true)
  | 3 => ("BeginningsFilter$Moment", "answers", "[I", true)
  | _ => ("BeginningsFilter$Moment", "draws", "I", false)
def tyX2 : Nat → FieldType := fun k => match k with
  | 0 => .object "BeginningsFilter$Plan"
  | 1 => .object "BeginningsFilter$Plan"
  | 2 => .object "BeginningsFilter$Keys"
  | 3 => .array .int
  | _ => .int
theorem nmX2 : ∀ a, a < 5 → ∀ b, b < 5 → a ≠ b → (TX2 a).2.1 ≠ (TX2 b).2.1 := by decide +kernel
theorem tyX2_ok : ∀ k, k < 5 → parseFieldDescriptor (TX2 k).2.2.1 = some (tyX2 k) := by decide +kernel
abbrev cX2_init : ByteArray := prog_4_method_1_code
def yX2_init : MethodName := ⟨RX2, "<init>", "()V"⟩
abbrev cX2_copyFrom : ByteArray := prog_4_method_2_code
def yX2_copyFrom : MethodName := ⟨RX2, "copyFrom", "(LBeginningsFilter$Moment;)V"⟩
abbrev cX2_draw : ByteArray := prog_4_method_3_code
def yX2_draw : MethodName := ⟨RX2, "draw", "(I)I"⟩
abbrev cX2_drawBytes : ByteArray := prog_4_method_4_code
def yX2_drawBytes : MethodName := ⟨RX2, "drawBytes", "(I)J"⟩
abbrev cX2_note : ByteArray := prog_4_method_5_code
def yX2_note : MethodName := ⟨RX2, "note", "(II)V"⟩
def RX3 : String := "BeginningsFilter$Plan"
def TX3 : u_T := fun k => match k with
  | 0 => ("BeginningsFilter$Plan", "members", "LBeginningsFilter$Keys;", true)
  | 1 => ("BeginningsFilter$Plan", "values", "[I", true)
  | _ => ("BeginningsFilter$Plan", "mode", "I", false)
def tyX3 : Nat → FieldType := fun k => match k with
  | 0 => .object "BeginningsFilter$Keys"
  | 1 => .array .int
  | _ => .int
theorem nmX3 : ∀ a, a < 3 → ∀ b, b < 3 → a ≠ b → (TX3 a).2.1 ≠ (TX3 b).2.1 := by decide +kernel
theorem tyX3_ok : ∀ k, k < 3 → parseFieldDescriptor (TX3 k).2.2.1 = some (tyX3 k) := by decide +kernel
abbrev cX3_init : ByteArray := prog_5_method_1_code
def yX3_init : MethodName := ⟨RX3, "<init>", "()V"⟩
abbrev cX3_copyFrom : ByteArray := prog_5_method_2_code
def yX3_copyFrom : MethodName := ⟨RX3, "copyFrom", "(LBeginningsFilter$Plan;)V"⟩
def RX4 : String := "BeginningsFilter$Tape"
def TX4 : u_T := fun k => match k with
  | 0 => ("BeginningsFilter$Tape", "octets", "[I", true)
  | _ => ("BeginningsFilter$Tape", "count", "I", false)
def tyX4 : Nat → FieldType := fun k => match k with
  | 0 => .array .int
  | _ => .int
theorem nmX4 : ∀ a, a < 2 → ∀ b, b < 2 → a ≠ b → (TX4 a).2.1 ≠ (TX4 b).2.1 := by decide +kernel
theorem tyX4_ok : ∀ k, k < 2 → parseFieldDescriptor (TX4 k).2.2.1 = some (tyX4 k) := by decide +kernel
abbrev cX4_init : ByteArray := prog_6_method_1_code
def yX4_init : MethodName := ⟨RX4, "<init>", "()V"⟩
abbrev cX4_putFour : ByteArray := prog_6_method_2_code
def yX4_putFour : MethodName := ⟨RX4, "putFour", "(I)V"⟩
abbrev cX4_spells : ByteArray := prog_6_method_3_code
def yX4_spells : MethodName := ⟨RX4, "spells", "(Ljava/lang/String;)Z"⟩
abbrev cX4_readInto : ByteArray := prog_6_method_4_code
def yX4_readInto : MethodName := ⟨RX4, "readInto", "(LBeginningsFilter$Keys;)Z"⟩
abbrev cX4_keyAt : ByteArray := prog_6_method_5_code
def yX4_keyAt : MethodName := ⟨RX4, "keyAt", "(II)J"⟩
def RX5 : String := "BeginningsFilter$Text"
def TX5 : u_T := fun k => match k with
  | 0 => ("BeginningsFilter$Text", "signs", "[C", true)
  | _ => ("BeginningsFilter$Text", "length", "I", false)
def tyX5 : Nat → FieldType := fun k => match k with
  | 0 => .array .char
  | _ => .int
theorem nmX5 : ∀ a, a < 2 → ∀ b, b < 2 → a ≠ b → (TX5 a).2.1 ≠ (TX5 b).2.1 := by decide +kernel
theorem tyX5_ok : ∀ k, k < 2 → parseFieldDescriptor (TX5 k).2.2.1 = some (tyX5 k) := by decide +kernel
abbrev cX5_init : ByteArray := prog_7_method_1_code
def yX5_init : MethodName := ⟨RX5, "<init>", "()V"⟩
abbrev cX5_put : ByteArray := prog_7_method_2_code
def yX5_put : MethodName := ⟨RX5, "put", "(C)V"⟩
abbrev cX5_putNumber : ByteArray := prog_7_method_3_code
def yX5_putNumber : MethodName := ⟨RX5, "putNumber", "(I)V"⟩
abbrev cX5_putOctet : ByteArray := prog_7_method_4_code
def yX5_putOctet : MethodName := ⟨RX5, "putOctet", "(I)V"⟩
abbrev cX5_putHalf : ByteArray := prog_7_method_5_code
def yX5_putHalf : MethodName := ⟨RX5, "putHalf", "(I)V"⟩
abbrev cX5_signAt : ByteArray := prog_7_method_6_code
def yX5_signAt : MethodName := ⟨RX5, "signAt", "(I)I"⟩
def RX6 : String := "BeginningsFilter$Tree"
def TX6 : u_T := fun k => match k with
  | 0 => ("BeginningsFilter$Tree", "nodeLevels", "[I", true)
  | 1 => ("BeginningsFilter$Tree", "firstLeaves", "[I", true)
  | 2 => ("BeginningsFilter$Tree", "leafCounts", "[I", true)
  | 3 => ("BeginningsFilter$Tree", "edgeStarts", "[I", true)
  | 4 => ("BeginningsFilter$Tree", "edgeNodes", "[I", true)
  | 5 => ("BeginningsFilter$Tree", "edgeOctets", "[I", true)
  | 6 => ("BeginningsFilter$Tree", "edgeLeaves", "[I", true)
  | 7 => ("BeginningsFilter$Tree", "edgeChildren", "[I", true)
  | 8 => ("BeginningsFilter$Tree", "levelStarts", "[I", true)
  | 9 => ("BeginningsFilter$Tree", "places", "[I", true)
  | 10 => ("BeginningsFilter$Tree", "leavesByPlace", "[I", true)
  | 11 => ("BeginningsFilter$Tree", "leafNodes", "[I", true)
  | 12 => ("BeginningsFilter$Tree", "nodes", "I", false)
  | 13 => ("BeginningsFilter$Tree", "edges", "I", false)
  | 14 => ("BeginningsFilter$Tree", "children", "I", false)
  | 15 => ("BeginningsFilter$Tree", "levels", "I", false)
  | 16 => ("BeginningsFilter$Tree", "upper", "I", false)
  | 17 => ("BeginningsFilter$Tree", "upperNodes", "I", false)
  | _ => ("BeginningsFilter$Tree", "itemStart", "I", false)
def tyX6 : Nat → FieldType := fun k => match k with
  | 0 => .array .int
  | 1 => .array .int
  | 2 => .array .int
  | 3 => .array .int
  | 4 => .array .int
  | 5 => .array .int
  | 6 => .array .int
  | 7 => .array .int
  | 8 => .array .int
  | 9 => .array .int
  | 10 => .array .int
  | 11 => .array .int
  | 12 => .int
  | 13 => .int
  | 14 => .int
  | 15 => .int
  | 16 => .int
  | 17 => .int
  | _ => .int
theorem nmX6 : ∀ a, a < 19 → ∀ b, b < 19 → a ≠ b → (TX6 a).2.1 ≠ (TX6 b).2.1 := by decide +kernel
theorem tyX6_ok : ∀ k, k < 19 → parseFieldDescriptor (TX6 k).2.2.1 = some (tyX6 k) := by decide +kernel
abbrev cX6_init : ByteArray := prog_8_method_1_code
def yX6_init : MethodName := ⟨RX6, "<init>", "()V"⟩
abbrev cX6_make : ByteArray := prog_8_method_2_code
def yX6_make : MethodName := ⟨RX6, "make", "(LBeginningsFilter$Leaves;II)V"⟩
abbrev cX6_findNodes : ByteArray := prog_8_method_3_code
def yX6_findNodes : MethodName := ⟨RX6, "findNodes", "(LBeginningsFilter$Leaves;)V"⟩
abbrev cX6_findNodesOf : ByteArray := prog_8_method_4_code
def yX6_findNodesOf : MethodName := ⟨RX6, "findNodesOf", "(ILBeginningsFilter$Leaves;)V"⟩
abbrev cX6_addNode : ByteArray := prog_8_method_5_code
def yX6_addNode : MethodName := ⟨RX6, "addNode", "(II)V"⟩
abbrev cX6_findEdges : ByteArray := prog_8_method_6_code
def yX6_findEdges : MethodName := ⟨RX6, "findEdges", "(LBeginningsFilter$Leaves;)V"⟩
abbrev cX6_findEdgesOf : ByteArray := prog_8_method_7_code
def yX6_findEdgesOf : MethodName := ⟨RX6, "findEdgesOf", "(ILBeginningsFilter$Leaves;)V"⟩
abbrev cX6_addEdge : ByteArray := prog_8_method_8_code
def yX6_addEdge : MethodName := ⟨RX6, "addEdge", "(III)V"⟩
abbrev cX6_findPlaces : ByteArray := prog_8_method_9_code
def yX6_findPlaces : MethodName := ⟨RX6, "findPlaces", "()V"⟩
abbrev cX6_upperBy : ByteArray := prog_8_method_10_code
def yX6_upperBy : MethodName := ⟨RX6, "upperBy", "(I)I"⟩
abbrev cX6_bitsBy : ByteArray := prog_8_method_11_code
def yX6_bitsBy : MethodName := ⟨RX6, "bitsBy", "(I)I"⟩
abbrev cX6_items : ByteArray := prog_8_method_12_code
def yX6_items : MethodName := ⟨RX6, "items", "()I"⟩
abbrev cX6_isEnd : ByteArray := prog_8_method_13_code
def yX6_isEnd : MethodName := ⟨RX6, "isEnd", "(I)Z"⟩
abbrev cX6_hasChild : ByteArray := prog_8_method_14_code
def yX6_hasChild : MethodName := ⟨RX6, "hasChild", "(I)Z"⟩
abbrev cX6_edgesAmong : ByteArray := prog_8_method_15_code
def yX6_edgesAmong : MethodName := ⟨RX6, "edgesAmong", "(II)I"⟩
abbrev cX6_endsAmong : ByteArray := prog_8_method_16_code
def yX6_endsAmong : MethodName := ⟨RX6, "endsAmong", "(II)I"⟩
abbrev cX6_branches : ByteArray := prog_8_method_17_code
def yX6_branches : MethodName := ⟨RX6, "branches", "(II)I"⟩
abbrev cX6_childrenOf : ByteArray := prog_8_method_18_code
def yX6_childrenOf : MethodName := ⟨RX6, "childrenOf", "(I)I"⟩
abbrev cX6_goneAlong : ByteArray := prog_8_method_19_code
def yX6_goneAlong : MethodName := ⟨RX6, "goneAlong", "(II)I"⟩
abbrev cX6_isOfItems : ByteArray := prog_8_method_20_code
def yX6_isOfItems : MethodName := ⟨RX6, "isOfItems", "(I)Z"⟩
abbrev cX6_firstEdgeOf : ByteArray := prog_8_method_21_code
def yX6_firstEdgeOf : MethodName := ⟨RX6, "firstEdgeOf", "(I)I"⟩
abbrev cX6_lastEdgeOf : ByteArray := prog_8_method_22_code
def yX6_lastEdgeOf : MethodName := ⟨RX6, "lastEdgeOf", "(I)I"⟩
abbrev cX6_rowLength : ByteArray := prog_8_method_23_code
def yX6_rowLength : MethodName := ⟨RX6, "rowLength", "(I)I"⟩
abbrev cX6_oneOf : ByteArray := prog_8_method_24_code
def yX6_oneOf : MethodName := ⟨RX6, "oneOf", "(II)I"⟩
abbrev cX6_onesAhead : ByteArray := prog_8_method_25_code
def yX6_onesAhead : MethodName := ⟨RX6, "onesAhead", "(II)I"⟩
abbrev cX6_placeOfOne : ByteArray := prog_8_method_26_code
def yX6_placeOfOne : MethodName := ⟨RX6, "placeOfOne", "(II)I"⟩
def RX7 : String := "BeginningsFilter$Tuning"
def TX7 : u_T := fun k => match k with
  | 0 => ("BeginningsFilter$Tuning", "likeHash", "[I", true)
  | 1 => ("BeginningsFilter$Tuning", "likeNext", "[I", true)
  | 2 => ("BeginningsFilter$Tuning", "count", "I", false)
  | 3 => ("BeginningsFilter$Tuning", "hashBits", "I", false)
  | 4 => ("BeginningsFilter$Tuning", "realBits", "I", false)
  | _ => ("BeginningsFilter$Tuning", "falsely", "I", false)
def tyX7 : Nat → FieldType := fun k => match k with
  | 0 => .array .int
  | 1 => .array .int
  | 2 => .int
  | 3 => .int
  | 4 => .int
  | _ => .int
theorem nmX7 : ∀ a, a < 6 → ∀ b, b < 6 → a ≠ b → (TX7 a).2.1 ≠ (TX7 b).2.1 := by decide +kernel
theorem tyX7_ok : ∀ k, k < 6 → parseFieldDescriptor (TX7 k).2.2.1 = some (tyX7 k) := by decide +kernel
abbrev cX7_init : ByteArray := prog_9_method_1_code
def yX7_init : MethodName := ⟨RX7, "<init>", "()V"⟩
abbrev cX7_tune : ByteArray := prog_9_method_2_code
def yX7_tune : MethodName := ⟨RX7, "tune", "(LBeginningsFilter$Leaves;LBeginningsFilter$Keys;I)V"⟩
abbrev cX7_compare : ByteArray := prog_9_method_3_code
def yX7_compare : MethodName := ⟨RX7, "compare", "(LBeginningsFilter$Leaves;JII)V"⟩
abbrev cX7_zerosFromLowest : ByteArray := prog_9_method_4_code
def yX7_zerosFromLowest : MethodName := ⟨RX7, "zerosFromLowest", "(I)I"⟩
abbrev cX7_zerosFromHighest : ByteArray := prog_9_method_5_code
def yX7_zerosFromHighest : MethodName := ⟨RX7, "zerosFromHighest", "(I)I"⟩
abbrev cX7_falseBy : ByteArray := prog_9_method_6_code
def yX7_falseBy : MethodName := ⟨RX7, "falseBy", "(II)I"⟩
def RX8 : String := "BeginningsFilter"
def TX8 : u_T := fun k => match k with
  | 0 => ("BeginningsFilter", "now", "LBeginningsFilter$Moment;", true)
  | 1 => ("BeginningsFilter", "kept", "LBeginningsFilter$Moment;", true)
  | 2 => ("BeginningsFilter", "isKept", "Z", false)
  | 3 => ("BeginningsFilter", "leaves", "LBeginningsFilter$Leaves;", true)
  | 4 => ("BeginningsFilter", "tree", "LBeginningsFilter$Tree;", true)
  | 5 => ("BeginningsFilter", "tuning", "LBeginningsFilter$Tuning;", true)
  | 6 => ("BeginningsFilter", "trial", "LBeginningsFilter$Keys;", true)
  | 7 => ("BeginningsFilter", "tape", "LBeginningsFilter$Tape;", true)
  | 8 => ("BeginningsFilter", "text", "LBeginningsFilter$Text;", true)
  | _ => ("BeginningsFilter", "chosenRow", "I", false)
def tyX8 : Nat → FieldType := fun k => match k with
  | 0 => .object "BeginningsFilter$Moment"
  | 1 => .object "BeginningsFilter$Moment"
  | 2 => .boolean
  | 3 => .object "BeginningsFilter$Leaves"
  | 4 => .object "BeginningsFilter$Tree"
  | 5 => .object "BeginningsFilter$Tuning"
  | 6 => .object "BeginningsFilter$Keys"
  | 7 => .object "BeginningsFilter$Tape"
  | 8 => .object "BeginningsFilter$Text"
  | _ => .int
theorem nmX8 : ∀ a, a < 10 → ∀ b, b < 10 → a ≠ b → (TX8 a).2.1 ≠ (TX8 b).2.1 := by decide +kernel
theorem tyX8_ok : ∀ k, k < 10 → parseFieldDescriptor (TX8 k).2.2.1 = some (tyX8 k) := by decide +kernel
abbrev cX8_init : ByteArray := prog_1_method_1_code
def yX8_init : MethodName := ⟨RX8, "<init>", "()V"⟩
abbrev cX8_feed : ByteArray := prog_1_method_2_code
def yX8_feed : MethodName := ⟨RX8, "feed", "(IIIII)I"⟩
abbrev cX8_end : ByteArray := prog_1_method_3_code
def yX8_end : MethodName := ⟨RX8, "end", "(I)Z"⟩
abbrev cX8_mode : ByteArray := prog_1_method_4_code
def yX8_mode : MethodName := ⟨RX8, "mode", "()I"⟩
abbrev cX8_row : ByteArray := prog_1_method_5_code
def yX8_row : MethodName := ⟨RX8, "row", "()I"⟩
abbrev cX8_keys : ByteArray := prog_1_method_6_code
def yX8_keys : MethodName := ⟨RX8, "keys", "()I"⟩
abbrev cX8_set : ByteArray := prog_1_method_7_code
def yX8_set : MethodName := ⟨RX8, "set", "(II)Z"⟩
abbrev cX8_state : ByteArray := prog_1_method_8_code
def yX8_state : MethodName := ⟨RX8, "state", "(I)I"⟩
abbrev cX8_add : ByteArray := prog_1_method_9_code
def yX8_add : MethodName := ⟨RX8, "add", "(III)I"⟩
abbrev cX8_remove : ByteArray := prog_1_method_10_code
def yX8_remove : MethodName := ⟨RX8, "remove", "(III)I"⟩
abbrev cX8_fill : ByteArray := prog_1_method_11_code
def yX8_fill : MethodName := ⟨RX8, "fill", "(II)I"⟩
abbrev cX8_build : ByteArray := prog_1_method_12_code
def yX8_build : MethodName := ⟨RX8, "build", "()I"⟩
abbrev cX8_has : ByteArray := prog_1_method_13_code
def yX8_has : MethodName := ⟨RX8, "has", "(IIII)I"⟩
abbrev cX8_may : ByteArray := prog_1_method_14_code
def yX8_may : MethodName := ⟨RX8, "may", "(III)I"⟩
abbrev cX8_leafOf : ByteArray := prog_1_method_15_code
def yX8_leafOf : MethodName := ⟨RX8, "leafOf", "(III)I"⟩
abbrev cX8_range : ByteArray := prog_1_method_16_code
def yX8_range : MethodName := ⟨RX8, "range", "(IIIIII)I"⟩
abbrev cX8_meets : ByteArray := prog_1_method_17_code
def yX8_meets : MethodName := ⟨RX8, "meets", "(IIIIII)I"⟩
abbrev cX8_holds : ByteArray := prog_1_method_18_code
def yX8_holds : MethodName := ⟨RX8, "holds", "(IIIIII)I"⟩
abbrev cX8_seek : ByteArray := prog_1_method_19_code
def yX8_seek : MethodName := ⟨RX8, "seek", "(III)I"⟩
abbrev cX8_seekBack : ByteArray := prog_1_method_20_code
def yX8_seekBack : MethodName := ⟨RX8, "seekBack", "(III)I"⟩
abbrev cX8_leaf : ByteArray := prog_1_method_21_code
def yX8_leaf : MethodName := ⟨RX8, "leaf", "(II)I"⟩
abbrev cX8_leafAt : ByteArray := prog_1_method_22_code
def yX8_leafAt : MethodName := ⟨RX8, "leafAt", "(I)I"⟩
abbrev cX8_node : ByteArray := prog_1_method_23_code
def yX8_node : MethodName := ⟨RX8, "node", "(II)I"⟩
abbrev cX8_child : ByteArray := prog_1_method_24_code
def yX8_child : MethodName := ⟨RX8, "child", "(II)I"⟩
abbrev cX8_level : ByteArray := prog_1_method_25_code
def yX8_level : MethodName := ⟨RX8, "level", "(II)I"⟩
abbrev cX8_item : ByteArray := prog_1_method_26_code
def yX8_item : MethodName := ⟨RX8, "item", "(II)I"⟩
abbrev cX8_bit : ByteArray := prog_1_method_27_code
def yX8_bit : MethodName := ⟨RX8, "bit", "(I)I"⟩
abbrev cX8_rank : ByteArray := prog_1_method_28_code
def yX8_rank : MethodName := ⟨RX8, "rank", "(I)I"⟩
abbrev cX8_select : ByteArray := prog_1_method_29_code
def yX8_select : MethodName := ⟨RX8, "select", "(I)I"⟩
abbrev cX8_bits : ByteArray := prog_1_method_30_code
def yX8_bits : MethodName := ⟨RX8, "bits", "(I)I"⟩
abbrev cX8_least : ByteArray := prog_1_method_31_code
def yX8_least : MethodName := ⟨RX8, "least", "(I)I"⟩
abbrev cX8_cover : ByteArray := prog_1_method_32_code
def yX8_cover : MethodName := ⟨RX8, "cover", "(I)J"⟩
abbrev cX8_loose : ByteArray := prog_1_method_33_code
def yX8_loose : MethodName := ⟨RX8, "loose", "(I)J"⟩
abbrev cX8_free : ByteArray := prog_1_method_34_code
def yX8_free : MethodName := ⟨RX8, "free", "(II)J"⟩
abbrev cX8_spread : ByteArray := prog_1_method_35_code
def yX8_spread : MethodName := ⟨RX8, "spread", "(IIII)I"⟩
abbrev cX8_question : ByteArray := prog_1_method_36_code
def yX8_question : MethodName := ⟨RX8, "question", "(III)I"⟩
abbrev cX8_forget : ByteArray := prog_1_method_37_code
def yX8_forget : MethodName := ⟨RX8, "forget", "()I"⟩
abbrev cX8_tuned : ByteArray := prog_1_method_38_code
def yX8_tuned : MethodName := ⟨RX8, "tuned", "(II)I"⟩
abbrev cX8_storm : ByteArray := prog_1_method_39_code
def yX8_storm : MethodName := ⟨RX8, "storm", "(II)I"⟩
abbrev cX8_stormRange : ByteArray := prog_1_method_40_code
def yX8_stormRange : MethodName := ⟨RX8, "stormRange", "(III)I"⟩
abbrev cX8_account : ByteArray := prog_1_method_41_code
def yX8_account : MethodName := ⟨RX8, "account", "(I)I"⟩
abbrev cX8_since : ByteArray := prog_1_method_42_code
def yX8_since : MethodName := ⟨RX8, "since", "(I)I"⟩
abbrev cX8_report : ByteArray := prog_1_method_43_code
def yX8_report : MethodName := ⟨RX8, "report", "(I)I"⟩
abbrev cX8_sign : ByteArray := prog_1_method_44_code
def yX8_sign : MethodName := ⟨RX8, "sign", "(I)I"⟩
abbrev cX8_image : ByteArray := prog_1_method_45_code
def yX8_image : MethodName := ⟨RX8, "image", "(Z)Z"⟩
abbrev cX8_look : ByteArray := prog_1_method_46_code
def yX8_look : MethodName := ⟨RX8, "look", "(I)I"⟩
abbrev cX8_rebuild : ByteArray := prog_1_method_47_code
def yX8_rebuild : MethodName := ⟨RX8, "rebuild", "()V"⟩
abbrev cX8_askKey : ByteArray := prog_1_method_48_code
def yX8_askKey : MethodName := ⟨RX8, "askKey", "(JI)I"⟩
abbrev cX8_askRange : ByteArray := prog_1_method_49_code
def yX8_askRange : MethodName := ⟨RX8, "askRange", "(JIJI)I"⟩
abbrev cX8_newOnesThatMayBe : ByteArray := prog_1_method_50_code
def yX8_newOnesThatMayBe : MethodName := ⟨RX8, "newOnesThatMayBe", "()I"⟩
abbrev cX8_tellFilter : ByteArray := prog_1_method_51_code
def yX8_tellFilter : MethodName := ⟨RX8, "tellFilter", "()V"⟩
abbrev cX8_tellLeaf : ByteArray := prog_1_method_52_code
def yX8_tellLeaf : MethodName := ⟨RX8, "tellLeaf", "(I)V"⟩
abbrev cX8_modeName : ByteArray := prog_1_method_53_code
def yX8_modeName : MethodName := ⟨RX8, "modeName", "(I)Ljava/lang/String;"⟩
abbrev cX8_rowName : ByteArray := prog_1_method_54_code
def yX8_rowName : MethodName := ⟨RX8, "rowName", "(I)Ljava/lang/String;"⟩
abbrev cX8_isLength : ByteArray := prog_1_method_55_code
def yX8_isLength : MethodName := ⟨RX8, "isLength", "(I)Z"⟩
abbrev cX8_isCounted : ByteArray := prog_1_method_56_code
def yX8_isCounted : MethodName := ⟨RX8, "isCounted", "(I)Z"⟩
abbrev cX8_isRange : ByteArray := prog_1_method_57_code
def yX8_isRange : MethodName := ⟨RX8, "isRange", "(IIIIII)Z"⟩
abbrev cX8_keyOf : ByteArray := prog_1_method_58_code
def yX8_keyOf : MethodName := ⟨RX8, "keyOf", "(III)J"⟩
abbrev cX8_front : ByteArray := prog_1_method_59_code
def yX8_front : MethodName := ⟨RX8, "front", "(I)J"⟩
abbrev cX8_octetAt : ByteArray := prog_1_method_60_code
def yX8_octetAt : MethodName := ⟨RX8, "octetAt", "(JI)I"⟩
abbrev cX8_octetTo : ByteArray := prog_1_method_61_code
def yX8_octetTo : MethodName := ⟨RX8, "octetTo", "(II)J"⟩
abbrev cX8_order : ByteArray := prog_1_method_62_code
def yX8_order : MethodName := ⟨RX8, "order", "(JIJI)I"⟩
abbrev cX8_alike : ByteArray := prog_1_method_63_code
def yX8_alike : MethodName := ⟨RX8, "alike", "(JIJI)I"⟩
abbrev cX8_countAhead : ByteArray := prog_1_method_64_code
def yX8_countAhead : MethodName := ⟨RX8, "countAhead", "(JII)J"⟩
abbrev cX8_countUpTo : ByteArray := prog_1_method_65_code
def yX8_countUpTo : MethodName := ⟨RX8, "countUpTo", "(JII)J"⟩
abbrev cX8_mixed : ByteArray := prog_1_method_66_code
def yX8_mixed : MethodName := ⟨RX8, "mixed", "(IJI)I"⟩
abbrev cX8_lowest : ByteArray := prog_1_method_67_code
def yX8_lowest : MethodName := ⟨RX8, "lowest", "(II)I"⟩
abbrev cX8_highest : ByteArray := prog_1_method_68_code
def yX8_highest : MethodName := ⟨RX8, "highest", "(II)I"⟩
abbrev cX8_at : ByteArray := prog_1_method_69_code
def yX8_at : MethodName := ⟨RX8, "at", "([II)I"⟩
def RX9 : String := "BeginningsFilterModel"
def TX9 : u_T := fun k => match k with
  | 0 => ("BeginningsFilterModel", "told", "I", false)
  | 1 => ("BeginningsFilterModel", "now", "[I", true)
  | 2 => ("BeginningsFilterModel", "keys", "[J", true)
  | 3 => ("BeginningsFilterModel", "lengths", "[I", true)
  | 4 => ("BeginningsFilterModel", "drawn", "J", false)
  | 5 => ("BeginningsFilterModel", "drawnLength", "I", false)
  | 6 => ("BeginningsFilterModel", "tape", "[I", true)
  | 7 => ("BeginningsFilterModel", "taped", "I", false)
  | 8 => ("BeginningsFilterModel", "names", "[I", true)
  | 9 => ("BeginningsFilterModel", "chosen", "I", false)
  | 10 => ("BeginningsFilterModel", "common", "[I", true)
  | 11 => ("BeginningsFilterModel", "beginning", "[I", true)
  | 12 => ("BeginningsFilterModel", "isLaid", "Z", false)
  | 13 => ("BeginningsFilterModel", "nodeLevel", "[I", true)
  | 14 => ("BeginningsFilterModel", "nodeLeaf", "[I", true)
  | 15 => ("BeginningsFilterModel", "nodeLeaves", "[I", true)
  | 16 => ("BeginningsFilterModel", "nodeMany", "I", false)
  | 17 => ("BeginningsFilterModel", "levelMany", "I", false)
  | 18 => ("BeginningsFilterModel", "upper", "I", false)
  | 19 => ("BeginningsFilterModel", "upperNodes", "I", false)
  | 20 => ("BeginningsFilterModel", "areNodesLaid", "Z", false)
  | 21 => ("BeginningsFilterModel", "itemNode", "[I", true)
  | 22 => ("BeginningsFilterModel", "itemByte", "[I", true)
  | 23 => ("BeginningsFilterModel", "itemChild", "[I", true)
  | 24 => ("BeginningsFilterModel", "itemMany", "I", false)
  | 25 => ("BeginningsFilterModel", "placeOf", "[I", true)
  | 26 => ("BeginningsFilterModel", "leafOfPlace", "[I", true)
  | 27 => ("BeginningsFilterModel", "places", "I", false)
  | 28 => ("BeginningsFilterModel", "lowKey", "J", false)
  | 29 => ("BeginningsFilterModel", "highKey", "J", false)
  | 30 => ("BeginningsFilterModel", "lowLength", "I", false)
  | 31 => ("BeginningsFilterModel", "highLength", "I", false)
  | 32 => ("BeginningsFilterModel", "fromKey", "J", false)
  | 33 => ("BeginningsFilterModel", "toKey", "J", false)
  | 34 => ("BeginningsFilterModel", "fromLength", "I", false)
  | 35 => ("BeginningsFilterModel", "toLength", "I", false)
  | 36 => ("BeginningsFilterModel", "ones", "[I", true)
  | 37 => ("BeginningsFilterModel", "oneMany", "I", false)
  | 38 => ("BeginningsFilterModel", "rowLong", "I", false)
  | 39 => ("BeginningsFilterModel", "laidFor", "I", false)
  | 40 => ("BeginningsFilterModel", "signs", "[I", true)
  | 41 => ("BeginningsFilterModel", "signMany", "I", false)
  | 42 => ("BeginningsFilterModel", "hasImage", "Z", false)
  | 43 => ("BeginningsFilterModel", "images", "[I", true)
  | 44 => ("BeginningsFilterModel", "keyImages", "[J", true)
  | _ => ("BeginningsFilterModel", "lengthImages", "[I", true)
def tyX9 : Nat → FieldType := fun k => match k with
  | 0 => .int
  | 1 => .array .int
  | 2 => .array .long
  | 3 => .array .int
  | 4 => .long
  | 5 => .int
  | 6 => .array .int
  | 7 => .int
  | 8 => .array .int
  | 9 => .int
  | 10 => .array .int
  | 11 => .array .int
  | 12 => .boolean
  | 13 => .array .int
  | 14 => .array .int
  | 15 => .array .int
  | 16 => .int
  | 17 => .int
  | 18 => .int
  | 19 => .int
  | 20 => .boolean
  | 21 => .array .int
  | 22 => .array .int
  | 23 => .array .int
  | 24 => .int
  | 25 => .array .int
  | 26 => .array .int
  | 27 => .int
  | 28 => .long
  | 29 => .long
  | 30 => .int
  | 31 => .int
  | 32 => .long
  | 33 => .long
  | 34 => .int
  | 35 => .int
  | 36 => .array .int
  | 37 => .int
  | 38 => .int
  | 39 => .int
  | 40 => .array .int
  | 41 => .int
  | 42 => .boolean
  | 43 => .array .int
  | 44 => .array .long
  | _ => .array .int
theorem nmX9 : ∀ a, a < 46 → ∀ b, b < 46 → a ≠ b → (TX9 a).2.1 ≠ (TX9 b).2.1 := by decide +kernel
theorem tyX9_ok : ∀ k, k < 46 → parseFieldDescriptor (TX9 k).2.2.1 = some (tyX9 k) := by decide +kernel
abbrev cX9_init : ByteArray := prog_11_method_1_code
def yX9_init : MethodName := ⟨RX9, "<init>", "()V"⟩
abbrev cX9_isIn : ByteArray := prog_11_method_3_code
def yX9_isIn : MethodName := ⟨RX9, "isIn", "(III)Z"⟩
abbrev cX9_firstOf : ByteArray := prog_11_method_4_code
def yX9_firstOf : MethodName := ⟨RX9, "firstOf", "(I)I"⟩
abbrev cX9_settingOf : ByteArray := prog_11_method_5_code
def yX9_settingOf : MethodName := ⟨RX9, "settingOf", "(I)I"⟩
abbrev cX9_canSet : ByteArray := prog_11_method_6_code
def yX9_canSet : MethodName := ⟨RX9, "canSet", "(II)Z"⟩
abbrev cX9_set : ByteArray := prog_11_method_7_code
def yX9_set : MethodName := ⟨RX9, "set", "(II)Z"⟩
abbrev cX9_state : ByteArray := prog_11_method_8_code
def yX9_state : MethodName := ⟨RX9, "state", "(I)I"⟩
abbrev cX9_draw : ByteArray := prog_11_method_9_code
def yX9_draw : MethodName := ⟨RX9, "draw", "(I)I"⟩
abbrev cX9_low : ByteArray := prog_11_method_10_code
def yX9_low : MethodName := ⟨RX9, "low", "(I)J"⟩
abbrev cX9_cut : ByteArray := prog_11_method_11_code
def yX9_cut : MethodName := ⟨RX9, "cut", "(JI)J"⟩
abbrev cX9_keyOf : ByteArray := prog_11_method_12_code
def yX9_keyOf : MethodName := ⟨RX9, "keyOf", "(III)J"⟩
abbrev cX9_isKey : ByteArray := prog_11_method_13_code
def yX9_isKey : MethodName := ⟨RX9, "isKey", "(I)Z"⟩
abbrev cX9_byteOf : ByteArray := prog_11_method_14_code
def yX9_byteOf : MethodName := ⟨RX9, "byteOf", "(JI)I"⟩
abbrev cX9_isLess : ByteArray := prog_11_method_15_code
def yX9_isLess : MethodName := ⟨RX9, "isLess", "(JIJI)Z"⟩
abbrev cX9_lessMany : ByteArray := prog_11_method_16_code
def yX9_lessMany : MethodName := ⟨RX9, "lessMany", "(IIJI)I"⟩
abbrev cX9_find : ByteArray := prog_11_method_17_code
def yX9_find : MethodName := ⟨RX9, "find", "(IIJI)I"⟩
abbrev cX9_comes : ByteArray := prog_11_method_18_code
def yX9_comes : MethodName := ⟨RX9, "comes", "(JI)I"⟩
abbrev cX9_add : ByteArray := prog_11_method_19_code
def yX9_add : MethodName := ⟨RX9, "add", "(III)I"⟩
abbrev cX9_remove : ByteArray := prog_11_method_20_code
def yX9_remove : MethodName := ⟨RX9, "remove", "(III)I"⟩
abbrev cX9_has : ByteArray := prog_11_method_21_code
def yX9_has : MethodName := ⟨RX9, "has", "(IIII)I"⟩
abbrev cX9_draws : ByteArray := prog_11_method_22_code
def yX9_draws : MethodName := ⟨RX9, "draws", "(I)V"⟩
abbrev cX9_fill : ByteArray := prog_11_method_23_code
def yX9_fill : MethodName := ⟨RX9, "fill", "(II)I"⟩
abbrev cX9_types : ByteArray := prog_11_method_24_code
def yX9_types : MethodName := ⟨RX9, "types", "(I)V"⟩
abbrev cX9_feed : ByteArray := prog_11_method_25_code
def yX9_feed : MethodName := ⟨RX9, "feed", "(IIIII)I"⟩
abbrev cX9_end : ByteArray := prog_11_method_26_code
def yX9_end : MethodName := ⟨RX9, "end", "(I)Z"⟩
abbrev cX9_named : ByteArray := prog_11_method_27_code
def yX9_named : MethodName := ⟨RX9, "named", "()I"⟩
abbrev cX9_mode : ByteArray := prog_11_method_28_code
def yX9_mode : MethodName := ⟨RX9, "mode", "()I"⟩
abbrev cX9_row : ByteArray := prog_11_method_29_code
def yX9_row : MethodName := ⟨RX9, "row", "()I"⟩
abbrev cX9_tapedKey : ByteArray := prog_11_method_30_code
def yX9_tapedKey : MethodName := ⟨RX9, "tapedKey", "(II)J"⟩
abbrev cX9_areKeys : ByteArray := prog_11_method_31_code
def yX9_areKeys : MethodName := ⟨RX9, "areKeys", "(I)Z"⟩
abbrev cX9_comingFrom : ByteArray := prog_11_method_32_code
def yX9_comingFrom : MethodName := ⟨RX9, "comingFrom", "(I)I"⟩
abbrev cX9_newMany : ByteArray := prog_11_method_33_code
def yX9_newMany : MethodName := ⟨RX9, "newMany", "(I)I"⟩
abbrev cX9_keys : ByteArray := prog_11_method_34_code
def yX9_keys : MethodName := ⟨RX9, "keys", "()I"⟩
abbrev cX9_key : ByteArray := prog_11_method_35_code
def yX9_key : MethodName := ⟨RX9, "key", "(I)J"⟩
abbrev cX9_lengthOf : ByteArray := prog_11_method_36_code
def yX9_lengthOf : MethodName := ⟨RX9, "lengthOf", "(I)I"⟩
abbrev cX9_leaves : ByteArray := prog_11_method_37_code
def yX9_leaves : MethodName := ⟨RX9, "leaves", "()I"⟩
abbrev cX9_alike : ByteArray := prog_11_method_38_code
def yX9_alike : MethodName := ⟨RX9, "alike", "(II)I"⟩
abbrev cX9_laysBeginnings : ByteArray := prog_11_method_39_code
def yX9_laysBeginnings : MethodName := ⟨RX9, "laysBeginnings", "()V"⟩
abbrev cX9_isEnded : ByteArray := prog_11_method_40_code
def yX9_isEnded : MethodName := ⟨RX9, "isEnded", "(I)Z"⟩
abbrev cX9_build : ByteArray := prog_11_method_41_code
def yX9_build : MethodName := ⟨RX9, "build", "()I"⟩
abbrev cX9_hashBits : ByteArray := prog_11_method_42_code
def yX9_hashBits : MethodName := ⟨RX9, "hashBits", "()I"⟩
abbrev cX9_nextBits : ByteArray := prog_11_method_43_code
def yX9_nextBits : MethodName := ⟨RX9, "nextBits", "()I"⟩
abbrev cX9_isAlike : ByteArray := prog_11_method_44_code
def yX9_isAlike : MethodName := ⟨RX9, "isAlike", "(III)Z"⟩
abbrev cX9_firstLike : ByteArray := prog_11_method_45_code
def yX9_firstLike : MethodName := ⟨RX9, "firstLike", "(II)I"⟩
abbrev cX9_manyLike : ByteArray := prog_11_method_46_code
def yX9_manyLike : MethodName := ⟨RX9, "manyLike", "(II)I"⟩
abbrev cX9_laysNodes : ByteArray := prog_11_method_47_code
def yX9_laysNodes : MethodName := ⟨RX9, "laysNodes", "()V"⟩
abbrev cX9_isNodeEnd : ByteArray := prog_11_method_48_code
def yX9_isNodeEnd : MethodName := ⟨RX9, "isNodeEnd", "(I)Z"⟩
abbrev cX9_isBranch : ByteArray := prog_11_method_49_code
def yX9_isBranch : MethodName := ⟨RX9, "isBranch", "(II)Z"⟩
abbrev cX9_lastOf : ByteArray := prog_11_method_50_code
def yX9_lastOf : MethodName := ⟨RX9, "lastOf", "(I)I"⟩
abbrev cX9_branchMany : ByteArray := prog_11_method_51_code
def yX9_branchMany : MethodName := ⟨RX9, "branchMany", "(I)I"⟩
abbrev cX9_childAt : ByteArray := prog_11_method_52_code
def yX9_childAt : MethodName := ⟨RX9, "childAt", "(II)I"⟩
abbrev cX9_kidMany : ByteArray := prog_11_method_53_code
def yX9_kidMany : MethodName := ⟨RX9, "kidMany", "(I)I"⟩
abbrev cX9_bitsOf : ByteArray := prog_11_method_54_code
def yX9_bitsOf : MethodName := ⟨RX9, "bitsOf", "(IZ)I"⟩
abbrev cX9_bitsAbove : ByteArray := prog_11_method_55_code
def yX9_bitsAbove : MethodName := ⟨RX9, "bitsAbove", "(I)I"⟩
abbrev cX9_bitsBelow : ByteArray := prog_11_method_56_code
def yX9_bitsBelow : MethodName := ⟨RX9, "bitsBelow", "(I)I"⟩
abbrev cX9_upperBy : ByteArray := prog_11_method_57_code
def yX9_upperBy : MethodName := ⟨RX9, "upperBy", "(I)I"⟩
abbrev cX9_places : ByteArray := prog_11_method_58_code
def yX9_places : MethodName := ⟨RX9, "places", "(I)V"⟩
abbrev cX9_laysItem : ByteArray := prog_11_method_59_code
def yX9_laysItem : MethodName := ⟨RX9, "laysItem", "(III)V"⟩
abbrev cX9_laysNode : ByteArray := prog_11_method_60_code
def yX9_laysNode : MethodName := ⟨RX9, "laysNode", "(I)V"⟩
abbrev cX9_laysItems : ByteArray := prog_11_method_61_code
def yX9_laysItems : MethodName := ⟨RX9, "laysItems", "()V"⟩
abbrev cX9_nodes : ByteArray := prog_11_method_62_code
def yX9_nodes : MethodName := ⟨RX9, "nodes", "()I"⟩
abbrev cX9_isNode : ByteArray := prog_11_method_63_code
def yX9_isNode : MethodName := ⟨RX9, "isNode", "(I)Z"⟩
abbrev cX9_isLeaf : ByteArray := prog_11_method_64_code
def yX9_isLeaf : MethodName := ⟨RX9, "isLeaf", "(I)Z"⟩
abbrev cX9_nextOf : ByteArray := prog_11_method_65_code
def yX9_nextOf : MethodName := ⟨RX9, "nextOf", "(JII)I"⟩
abbrev cX9_bounds : ByteArray := prog_11_method_66_code
def yX9_bounds : MethodName := ⟨RX9, "bounds", "(II)V"⟩
abbrev cX9_isAhead : ByteArray := prog_11_method_67_code
def yX9_isAhead : MethodName := ⟨RX9, "isAhead", "(JI)Z"⟩
abbrev cX9_isBehind : ByteArray := prog_11_method_68_code
def yX9_isBehind : MethodName := ⟨RX9, "isBehind", "(JI)Z"⟩
abbrev cX9_leafFor : ByteArray := prog_11_method_69_code
def yX9_leafFor : MethodName := ⟨RX9, "leafFor", "(JII)I"⟩
abbrev cX9_hash : ByteArray := prog_11_method_70_code
def yX9_hash : MethodName := ⟨RX9, "hash", "(JII)I"⟩
abbrev cX9_mayBe : ByteArray := prog_11_method_71_code
def yX9_mayBe : MethodName := ⟨RX9, "mayBe", "(JIII)Z"⟩
abbrev cX9_mayNow : ByteArray := prog_11_method_72_code
def yX9_mayNow : MethodName := ⟨RX9, "mayNow", "(JI)Z"⟩
abbrev cX9_isOfFilter : ByteArray := prog_11_method_73_code
def yX9_isOfFilter : MethodName := ⟨RX9, "isOfFilter", "(JI)Z"⟩
abbrev cX9_counts : ByteArray := prog_11_method_74_code
def yX9_counts : MethodName := ⟨RX9, "counts", "(IZZ)I"⟩
abbrev cX9_asks : ByteArray := prog_11_method_75_code
def yX9_asks : MethodName := ⟨RX9, "asks", "(JI)I"⟩
abbrev cX9_may : ByteArray := prog_11_method_76_code
def yX9_may : MethodName := ⟨RX9, "may", "(III)I"⟩
abbrev cX9_leafOf : ByteArray := prog_11_method_77_code
def yX9_leafOf : MethodName := ⟨RX9, "leafOf", "(III)I"⟩
abbrev cX9_ranges : ByteArray := prog_11_method_78_code
def yX9_ranges : MethodName := ⟨RX9, "ranges", "(IIIIII)Z"⟩
abbrev cX9_isMet : ByteArray := prog_11_method_79_code
def yX9_isMet : MethodName := ⟨RX9, "isMet", "()Z"⟩
abbrev cX9_isSure : ByteArray := prog_11_method_80_code
def yX9_isSure : MethodName := ⟨RX9, "isSure", "()Z"⟩
abbrev cX9_rangeMany : ByteArray := prog_11_method_81_code
def yX9_rangeMany : MethodName := ⟨RX9, "rangeMany", "(Z)I"⟩
abbrev cX9_asksRange : ByteArray := prog_11_method_82_code
def yX9_asksRange : MethodName := ⟨RX9, "asksRange", "()I"⟩
abbrev cX9_range : ByteArray := prog_11_method_83_code
def yX9_range : MethodName := ⟨RX9, "range", "(IIIIII)I"⟩
abbrev cX9_meets : ByteArray := prog_11_method_84_code
def yX9_meets : MethodName := ⟨RX9, "meets", "(IIIIII)I"⟩
abbrev cX9_holds : ByteArray := prog_11_method_85_code
def yX9_holds : MethodName := ⟨RX9, "holds", "(IIIIII)I"⟩
abbrev cX9_seek : ByteArray := prog_11_method_86_code
def yX9_seek : MethodName := ⟨RX9, "seek", "(III)I"⟩
abbrev cX9_seekBack : ByteArray := prog_11_method_87_code
def yX9_seekBack : MethodName := ⟨RX9, "seekBack", "(III)I"⟩
abbrev cX9_hashOf : ByteArray := prog_11_method_88_code
def yX9_hashOf : MethodName := ⟨RX9, "hashOf", "(I)I"⟩
abbrev cX9_nodeOf : ByteArray := prog_11_method_89_code
def yX9_nodeOf : MethodName := ⟨RX9, "nodeOf", "(I)I"⟩
abbrev cX9_leaf : ByteArray := prog_11_method_90_code
def yX9_leaf : MethodName := ⟨RX9, "leaf", "(II)I"⟩
abbrev cX9_leafAt : ByteArray := prog_11_method_91_code
def yX9_leafAt : MethodName := ⟨RX9, "leafAt", "(I)I"⟩
abbrev cX9_node : ByteArray := prog_11_method_92_code
def yX9_node : MethodName := ⟨RX9, "node", "(II)I"⟩
abbrev cX9_child : ByteArray := prog_11_method_93_code
def yX9_child : MethodName := ⟨RX9, "child", "(II)I"⟩
abbrev cX9_levelOf : ByteArray := prog_11_method_94_code
def yX9_levelOf : MethodName := ⟨RX9, "levelOf", "(II)I"⟩
abbrev cX9_leavesAt : ByteArray := prog_11_method_95_code
def yX9_leavesAt : MethodName := ⟨RX9, "leavesAt", "(I)I"⟩
abbrev cX9_level : ByteArray := prog_11_method_96_code
def yX9_level : MethodName := ⟨RX9, "level", "(II)I"⟩
abbrev cX9_item : ByteArray := prog_11_method_97_code
def yX9_item : MethodName := ⟨RX9, "item", "(II)I"⟩
abbrev cX9_one : ByteArray := prog_11_method_98_code
def yX9_one : MethodName := ⟨RX9, "one", "(I)V"⟩
abbrev cX9_onesOfNode : ByteArray := prog_11_method_99_code
def yX9_onesOfNode : MethodName := ⟨RX9, "onesOfNode", "(I)V"⟩
abbrev cX9_isOne : ByteArray := prog_11_method_100_code
def yX9_isOne : MethodName := ⟨RX9, "isOne", "(I)Z"⟩
abbrev cX9_laysOnes : ByteArray := prog_11_method_101_code
def yX9_laysOnes : MethodName := ⟨RX9, "laysOnes", "()V"⟩
abbrev cX9_onesAhead : ByteArray := prog_11_method_102_code
def yX9_onesAhead : MethodName := ⟨RX9, "onesAhead", "(I)I"⟩
abbrev cX9_bit : ByteArray := prog_11_method_103_code
def yX9_bit : MethodName := ⟨RX9, "bit", "(I)I"⟩
abbrev cX9_rank : ByteArray := prog_11_method_104_code
def yX9_rank : MethodName := ⟨RX9, "rank", "(I)I"⟩
abbrev cX9_select : ByteArray := prog_11_method_105_code
def yX9_select : MethodName := ⟨RX9, "select", "(I)I"⟩
abbrev cX9_tailBits : ByteArray := prog_11_method_106_code
def yX9_tailBits : MethodName := ⟨RX9, "tailBits", "()I"⟩
abbrev cX9_keyBits : ByteArray := prog_11_method_107_code
def yX9_keyBits : MethodName := ⟨RX9, "keyBits", "()I"⟩
abbrev cX9_bits : ByteArray := prog_11_method_108_code
def yX9_bits : MethodName := ⟨RX9, "bits", "(I)I"⟩
abbrev cX9_least : ByteArray := prog_11_method_109_code
def yX9_least : MethodName := ⟨RX9, "least", "(I)I"⟩
abbrev cX9_powerOf : ByteArray := prog_11_method_110_code
def yX9_powerOf : MethodName := ⟨RX9, "powerOf", "(I)J"⟩
abbrev cX9_lessKeys : ByteArray := prog_11_method_111_code
def yX9_lessKeys : MethodName := ⟨RX9, "lessKeys", "(JII)J"⟩
abbrev cX9_notMoreKeys : ByteArray := prog_11_method_112_code
def yX9_notMoreKeys : MethodName := ⟨RX9, "notMoreKeys", "(JII)J"⟩
abbrev cX9_coverOf : ByteArray := prog_11_method_113_code
def yX9_coverOf : MethodName := ⟨RX9, "coverOf", "(I)J"⟩
abbrev cX9_cover : ByteArray := prog_11_method_114_code
def yX9_cover : MethodName := ⟨RX9, "cover", "(I)J"⟩
abbrev cX9_loose : ByteArray := prog_11_method_115_code
def yX9_loose : MethodName := ⟨RX9, "loose", "(I)J"⟩
abbrev cX9_free : ByteArray := prog_11_method_116_code
def yX9_free : MethodName := ⟨RX9, "free", "(II)J"⟩
abbrev cX9_spread : ByteArray := prog_11_method_117_code
def yX9_spread : MethodName := ⟨RX9, "spread", "(IIII)I"⟩
abbrev cX9_question : ByteArray := prog_11_method_118_code
def yX9_question : MethodName := ⟨RX9, "question", "(III)I"⟩
abbrev cX9_forget : ByteArray := prog_11_method_119_code
def yX9_forget : MethodName := ⟨RX9, "forget", "()I"⟩
abbrev cX9_wrongBy : ByteArray := prog_11_method_120_code
def yX9_wrongBy : MethodName := ⟨RX9, "wrongBy", "(II)I"⟩
abbrev cX9_tuned : ByteArray := prog_11_method_121_code
def yX9_tuned : MethodName := ⟨RX9, "tuned", "(II)I"⟩
abbrev cX9_storm : ByteArray := prog_11_method_122_code
def yX9_storm : MethodName := ⟨RX9, "storm", "(II)I"⟩
abbrev cX9_stormRange : ByteArray := prog_11_method_123_code
def yX9_stormRange : MethodName := ⟨RX9, "stormRange", "(III)I"⟩
abbrev cX9_account : ByteArray := prog_11_method_124_code
def yX9_account : MethodName := ⟨RX9, "account", "(I)I"⟩
abbrev cX9_lackMany : ByteArray := prog_11_method_125_code
def yX9_lackMany : MethodName := ⟨RX9, "lackMany", "(IIIIZ)I"⟩
abbrev cX9_since : ByteArray := prog_11_method_126_code
def yX9_since : MethodName := ⟨RX9, "since", "(I)I"⟩
abbrev cX9_says : ByteArray := prog_11_method_127_code
def yX9_says : MethodName := ⟨RX9, "says", "(I)V"⟩
abbrev cX9_saysNumber : ByteArray := prog_11_method_128_code
def yX9_saysNumber : MethodName := ⟨RX9, "saysNumber", "(I)V"⟩
abbrev cX9_saysHex : ByteArray := prog_11_method_129_code
def yX9_saysHex : MethodName := ⟨RX9, "saysHex", "(I)V"⟩
abbrev cX9_reportsAll : ByteArray := prog_11_method_130_code
def yX9_reportsAll : MethodName := ⟨RX9, "reportsAll", "()V"⟩
abbrev cX9_reportsLeaf : ByteArray := prog_11_method_131_code
def yX9_reportsLeaf : MethodName := ⟨RX9, "reportsLeaf", "(I)V"⟩
abbrev cX9_report : ByteArray := prog_11_method_132_code
def yX9_report : MethodName := ⟨RX9, "report", "(I)I"⟩
abbrev cX9_sign : ByteArray := prog_11_method_133_code
def yX9_sign : MethodName := ⟨RX9, "sign", "(I)I"⟩
abbrev cX9_image : ByteArray := prog_11_method_134_code
def yX9_image : MethodName := ⟨RX9, "image", "(Z)Z"⟩
abbrev cX9_endedMany : ByteArray := prog_11_method_135_code
def yX9_endedMany : MethodName := ⟨RX9, "endedMany", "()I"⟩
abbrev cX9_beginningBytes : ByteArray := prog_11_method_136_code
def yX9_beginningBytes : MethodName := ⟨RX9, "beginningBytes", "()I"⟩
abbrev cX9_look : ByteArray := prog_11_method_137_code
def yX9_look : MethodName := ⟨RX9, "look", "(I)I"⟩
def bf_cl : List vw_C := [(RX0, TX0, 3), (RX1, TX1, 10), (RX2, TX2, 5), (RX3, TX3, 3), (RX4, TX4, 2), (RX5, TX5, 2), (RX6, TX6, 19), (RX7, TX7, 6), (RX8, TX8, 10), (RX9, TX9, 46)]
/-! THE THIN LAYER: worlds by places. A value's 'ref' is a place; al gives the address of a place, ac the class of an array's kind (0 int, 1 long, 2 char). -/
abbrev bf_E : Type := (Nat × vp_A) ⊕ (Nat × List Value)
abbrev bf_W : Type := List bf_E
def bf_cv (al : Nat → Nat) : Value → Value
  | .ref i => .ref (al i)
  | .int x => .int x
  | .long x => .long x
  | .null => .null
  | .float x => .float x
  | .double x => .double x
  | .retAddr x => .retAddr x
theorem bf_cv_cat (al : Nat → Nat) (v : Value) : (bf_cv al v).category = v.category := by cases v <;> rfl
def bf_ce (ac : Nat → ClassId) (al : Nat → Nat) : bf_E → va_E
  | .inl a => .inl (ac a.1, a.2)
  | .inr o => .inr (o.1, o.2.map (bf_cv al))
def bf_cw (ac : Nat → ClassId) (al : Nat → Nat) (w : bf_W) : va_W := w.mapIdx (fun i e => (al i, bf_ce ac al e))
theorem bf_cw_get (ac : Nat → ClassId) (al : Nat → Nat) (w : bf_W) (i : Nat) : (bf_cw ac al w)[i]? = (w[i]?).map (fun e => (al i, bf_ce ac al e)) := by
  simp [bf_cw]
theorem bf_cw_some {ac : Nat → ClassId} {al : Nat → Nat} {w : bf_W} {i : Nat} {e : bf_E} (h : w[i]? = some e) : (bf_cw ac al w)[i]? = some (al i, bf_ce ac al e) := by
  rw [bf_cw_get, h]; rfl
theorem bf_cw_set (ac : Nat → ClassId) (al : Nat → Nat) (w : bf_W) (i : Nat) (e : bf_E) : (bf_cw ac al w).set i (al i, bf_ce ac al e) = bf_cw ac al (w.set i e) := by
  apply List.ext_getElem?
  intro j
  rw [bf_cw_get, List.getElem?_set, List.getElem?_set]
  by_cases h : i = j
  · subst h
    simp [bf_cw]
  · simp [h, bf_cw_get]
theorem bf_cw_len (ac : Nat → ClassId) (al : Nat → Nat) (w : bf_W) : (bf_cw ac al w).length = w.length := by simp [bf_cw]
/-- locals: a list, none where nothing is known -/
abbrev bf_V : Type := List (Option Value)
def bf_L (al : Nat → Nat) (ls : Array Slot) (nL : Nat) (lv : bf_V) : Prop := ls.size = nL ∧ lv_wf ls ∧ ∀ (i : Nat) (v : Value), lv[i]? = some (some v) → ls[i]? = some (.val (bf_cv al v))
def bf_list (al : Nat → Nat) (nL : Nat) (lv : bf_V) : List (Nat × Value) := (List.range nL).filterMap (fun i => match lv[i]? with | some (some v) => some (i, bf_cv al v) | _ => none)
theorem bf_list_mem {al : Nat → Nat} {nL : Nat} {lv : bf_V} {i : Nat} {v : Value} (h : lv[i]? = some (some v)) (hi : i < nL) : (i, bf_cv al v) ∈ bf_list al nL lv := by
  refine List.mem_filterMap.mpr ⟨i, List.mem_range.mpr hi, ?_⟩
  rw [h]
theorem bf_list_of {al : Nat → Nat} {nL : Nat} {lv : bf_V} {q : Nat × Value} (h : q ∈ bf_list al nL lv) : ∃ v, lv[q.1]? = some (some v) ∧ q.2 = bf_cv al v := by
  obtain ⟨i, -, hi⟩ := List.mem_filterMap.mp h
  split at hi
  · rename_i v hv
    cases hi
    exact ⟨v, hv, rfl⟩
  · cases hi
theorem bf_has {al : Nat → Nat} {ls : Array Slot} {nL : Nat} {lv : bf_V} (h : bf_L al ls nL lv) : lv_has ls nL (bf_list al nL lv) :=
  ⟨h.1, h.2.1, fun q hq => by obtain ⟨v, h1, h2⟩ := bf_list_of hq; rw [h2]; exact h.2.2 _ _ h1⟩
/-- a local that is cut by a store right behind it -/
def bf_cut (lv : bf_V) (i : Nat) : bf_V := match i with
  | 0 => lv
  | k + 1 => match lv[k]? with
    | some (some (.long _)) => lv.set k none
    | some (some (.double _)) => lv.set k none
    | _ => lv
theorem bf_cut_get {lv : bf_V} {i j : Nat} {v : Value} (h : (bf_cut lv i)[j]? = some (some v)) : lv[j]? = some (some v) ∧ ¬ (j + 1 = i ∧ v.category = 2) := by
  unfold bf_cut at h
  split at h
  · exact ⟨h, fun q => by omega⟩
  · rename_i k
    split at h
    · by_cases hj : k = j
      · subst hj
        rw [List.getElem?_set] at h
        simp at h
      · rw [List.getElem?_set, if_neg hj] at h
        exact ⟨h, fun q => hj (by omega)⟩
    · by_cases hj : k = j
      · subst hj
        rw [List.getElem?_set] at h
        simp at h
      · rw [List.getElem?_set, if_neg hj] at h
        exact ⟨h, fun q => hj (by omega)⟩
    · rename_i h1 h2
      refine ⟨h, fun q => ?_⟩
      have hk : k = j := by omega
      subst hk
      cases v <;> first | exact h1 _ h | exact h2 _ h | (have z := q.2; simp [Value.category] at z; done)
def bf_st1 (lv : bf_V) (i : Nat) (v : Value) : bf_V := (bf_cut lv i).set i (some v)
def bf_st2 (lv : bf_V) (i : Nat) (v : Value) : bf_V := ((bf_cut lv i).set (i + 1) none).set i (some v)
theorem bf_L1 {al : Nat → Nat} {ls' : Array Slot} {nL i : Nat} {lv : bf_V} {v : Value} (hv : v.category = 1) (hls : ls'.size = nL)
    (h : lv_has ls' nL ((i, bf_cv al v) :: (bf_list al nL lv).filter (fun q => !(q.1 == i) && !(q.1 + 1 == i && q.2.category == 2)))) (hlen : lv.length ≤ nL) : bf_L al ls' nL (bf_st1 lv i v) := by
  refine ⟨h.1, h.2.1, fun j u hj => ?_⟩
  unfold bf_st1 at hj
  rw [List.getElem?_set] at hj
  by_cases hij : i = j
  · subst hij
    rw [if_pos rfl] at hj
    split at hj
    · cases hj
      exact h.2.2 (i, bf_cv al v) List.mem_cons_self
    · cases hj
  · rw [if_neg hij] at hj
    obtain ⟨h1, h2⟩ := bf_cut_get hj
    have hlt : j < nL := by
      have := (List.getElem?_eq_some_iff.mp h1).1
      omega
    refine h.2.2 (j, bf_cv al u) (List.mem_cons_of_mem _ (List.mem_filter.mpr ⟨bf_list_mem h1 hlt, ?_⟩))
    simp only [Bool.and_eq_true, Bool.not_eq_true', beq_eq_false_iff_ne, ne_eq, Bool.and_eq_false_iff, bf_cv_cat]
    refine ⟨fun q => hij q.symm, ?_⟩
    by_cases hq : j + 1 = i
    · exact Or.inr (fun z => h2 ⟨hq, z⟩)
    · exact Or.inl hq
theorem bf_L2 {al : Nat → Nat} {ls' : Array Slot} {nL i : Nat} {lv : bf_V} {v : Value} (hv : v.category = 2) (hls : ls'.size = nL)
    (h : lv_has ls' nL ((i, bf_cv al v) :: (bf_list al nL lv).filter (fun q => !(q.1 == i) && (!(q.1 == i + 1) && !(q.1 + 1 == i && q.2.category == 2))))) (hlen : lv.length ≤ nL) : bf_L al ls' nL (bf_st2 lv i v) := by
  refine ⟨h.1, h.2.1, fun j u hj => ?_⟩
  unfold bf_st2 at hj
  rw [List.getElem?_set] at hj
  by_cases hij : i = j
  · subst hij
    rw [if_pos rfl] at hj
    split at hj
    · cases hj
      exact h.2.2 (i, bf_cv al v) List.mem_cons_self
    · cases hj
  · rw [if_neg hij, List.getElem?_set] at hj
    by_cases hij2 : i + 1 = j
    · rw [if_pos hij2] at hj
      split at hj <;> cases hj
    · rw [if_neg hij2] at hj
      obtain ⟨h1, h2⟩ := bf_cut_get hj
      have hlt : j < nL := by
        have := (List.getElem?_eq_some_iff.mp h1).1
        omega
      refine h.2.2 (j, bf_cv al u) (List.mem_cons_of_mem _ (List.mem_filter.mpr ⟨bf_list_mem h1 hlt, ?_⟩))
      simp only [Bool.and_eq_true, Bool.not_eq_true', beq_eq_false_iff_ne, ne_eq, Bool.and_eq_false_iff, bf_cv_cat]
      refine ⟨fun q => hij q.symm, fun q => hij2 q.symm, ?_⟩
      by_cases hq : j + 1 = i
      · exact Or.inr (fun z => h2 ⟨hq, z⟩)
      · exact Or.inl hq
/-- fewer locals -/
def bf_sub : bf_V → bf_V → Prop
  | [], _ => True
  | none :: a, [] => bf_sub a []
  | none :: a, _ :: b => bf_sub a b
  | some v :: a, some u :: b => v = u ∧ bf_sub a b
  | some _ :: _, _ => False
theorem bf_sub_nil : ∀ (a : bf_V), bf_sub a [] → ∀ (i : Nat) (v : Value), ¬ a[i]? = some (some v)
  | [], _, i, v, h => by simp at h
  | none :: a, h, 0, v, h1 => by simp at h1
  | none :: a, h, i + 1, v, h1 => bf_sub_nil a h i v (by simpa using h1)
  | some _ :: a, h, i, v, h1 => by simp [bf_sub] at h
theorem bf_sub_get : ∀ (a b : bf_V), bf_sub a b → ∀ (i : Nat) (v : Value), a[i]? = some (some v) → b[i]? = some (some v)
  | [], _, _, i, v, h => by simp at h
  | none :: a, [], h, i, v, h1 => absurd h1 (bf_sub_nil (none :: a) h i v)
  | none :: a, _ :: b, h, 0, v, h1 => by simp at h1
  | none :: a, _ :: b, h, i + 1, v, h1 => by simpa using bf_sub_get a b h i v (by simpa using h1)
  | some w :: a, some u :: b, h, 0, v, h1 => by
    obtain ⟨rfl, -⟩ := h
    simpa using h1
  | some w :: a, some u :: b, h, i + 1, v, h1 => by simpa using bf_sub_get a b h.2 i v (by simpa using h1)
  | some w :: a, [], h, i, v, h1 => by simp [bf_sub] at h
  | some w :: a, none :: b, h, i, v, h1 => by simp [bf_sub] at h
theorem bf_L.weak {al : Nat → Nat} {ls : Array Slot} {nL : Nat} {lv lv' : bf_V} (h : bf_L al ls nL lv) (hs : bf_sub lv' lv) : bf_L al ls nL lv' :=
  ⟨h.1, h.2.1, fun i v hi => h.2.2 i v (bf_sub_get lv' lv hs i v hi)⟩

/-! the judgement: everything that stays through a method is in one tuple -/
abbrev bf_X : Type := Program × Launch × Env × Room × State × MethodId × Array Value × List Frame × Method × Code × (Nat → ClassId) × (Nat → Nat → Nat) × (Nat → ClassId) × (Nat → Nat) × (Nat → Prop) × Nat × Nat
abbrev xp (X : bf_X) : Program := X.1
abbrev xl (X : bf_X) : Launch := X.2.1
abbrev xe (X : bf_X) : Env := X.2.2.1
abbrev xR (X : bf_X) : Room := X.2.2.2.1
abbrev xs (X : bf_X) : State := X.2.2.2.2.1
abbrev xm (X : bf_X) : MethodId := X.2.2.2.2.2.1
abbrev xa (X : bf_X) : Array Value := X.2.2.2.2.2.2.1
abbrev xb (X : bf_X) : List Frame := X.2.2.2.2.2.2.2.1
abbrev xh (X : bf_X) : Method := X.2.2.2.2.2.2.2.2.1
abbrev xc (X : bf_X) : Code := X.2.2.2.2.2.2.2.2.2.1
abbrev xdC (X : bf_X) : Nat → ClassId := X.2.2.2.2.2.2.2.2.2.2.1
abbrev xdI (X : bf_X) : Nat → Nat → Nat := X.2.2.2.2.2.2.2.2.2.2.2.1
abbrev xac (X : bf_X) : Nat → ClassId := X.2.2.2.2.2.2.2.2.2.2.2.2.1
abbrev xal (X : bf_X) : Nat → Nat := X.2.2.2.2.2.2.2.2.2.2.2.2.2.1
abbrev xA (X : bf_X) : Nat → Prop := X.2.2.2.2.2.2.2.2.2.2.2.2.2.2.1
abbrev xk (X : bf_X) : Nat := X.2.2.2.2.2.2.2.2.2.2.2.2.2.2.2.1
abbrev xn (X : bf_X) : Nat := X.2.2.2.2.2.2.2.2.2.2.2.2.2.2.2.2
def bf_tys (ac : Nat → ClassId) : List (ClassId × FieldType) := [(ac 0, .int), (ac 1, .long), (ac 2, .char)]
def bf_isN : Cond → Bool
  | .fieldLinkNest .. => true
  | .methodLinkNest .. => true
  | _ => false
def bf_N (U : State) : Prop := ∀ w ∈ lw_tbl, bf_isN w = true → va_Nw w U
theorem bf_N.warm {s U : State} (h : bf_N s) (hW : s.WarmedH U.vm) : bf_N U := by
  intro w hw hn
  have h1 := h w hw hn
  cases w <;> first | (simp [bf_isN] at hn; done) | exact va_Nw.warmF hW h1 | exact va_Nw.warmM hW h1
theorem bf_N.same {s U : State} (h : bf_N s) (hv : s.vm = U.vm) : bf_N U := by
  intro w hw hn
  have h1 := h w hw hn
  cases w <;> first | (simp [bf_isN] at hn; done) | exact va_Nw.same rfl hv h1
def lw_good : List Cond := lw_tbl.filter goodWord
def bf_ws (y : MethodName) (cc : ByteArray) (n : Nat) (ret : Option FieldType) : List Cond := Cond.code y cc n ret :: lw_good
/-- what holds all through a method: machine, code, tables, classes, nest, return type, no locks; what is new may be written -/
def bf_C (X : bf_X) (own : String) (cc : ByteArray) (nL : Nat) (ret : Option FieldType) : Prop :=
  (xp X).tables.exec = Jvm.exec ∧ (xc X).code = cc ∧ (xc X).maxLocals = nL ∧ (xs X).vm.findClass own = some (xm X).cls ∧ (∀ w ∈ lw_good, w.before (xa X) (xs X) = true) ∧ va_K (xdC X, xdI X) bf_cl (bf_tys (xac X)) (xs X) ∧ bf_N (xs X) ∧ (xh X).sig.returnType = ret ∧ (xh X).locks = false ∧ (∀ q : Nat, (xs X).heap.size ≤ q → xA X q)
/-- from pc, with these locals, this stack and this world, the machine comes to Q -/
def bf_A (X : bf_X) (Q : State → Prop) (nL : Nat) (pc : Nat) (lv : bf_V) (st : List Value) (w : bf_W) : Prop :=
  ∀ (H : Heap) (locs : List Loc) (ls : Array Slot), va_P (xdC X, xdI X) bf_cl (bf_cw (xac X) (xal X) w) H → va_D (xA X) (bf_cw (xac X) (xal X) w) → va_S (xA X) (xs X).heap H locs → bf_L (xal X) ls nL lv →
    W (xp X) (xl X) (xe X) (xR X) (xs X) (xm X) (xa X) (xb X) (xh X) (xc X) H locs (xk X) (xn X) Q (F0 (xm X) pc ls (st.map (bf_cv (xal X))))
def bf_D (cc : ByteArray) (pc : Nat) (i : Instr) (n pc2 : Nat) : Prop := decode cc pc = .ok (i, n) ∧ pc + n = pc2
def bf_J (pc : Nat) (off : Int) (tgt : Nat) : Prop := (pc : Int) + off = (tgt : Int)
theorem bf_mem {L : List Cond} {w : Cond} (i : Nat) (h : L[i]? = some w) : w ∈ L := List.mem_of_getElem? h
theorem bf_gd {w : Cond} (h : w ∈ lw_tbl) (hg : goodWord w = true) : w ∈ lw_good := List.mem_filter.mpr ⟨h, hg⟩
section BFR
variable {X : bf_X} {Q : State → Prop} {own : String} {cc : ByteArray} {nL : Nat} {ret : Option FieldType} {pc pc2 : Nat} {lv : bf_V} {st : List Value} {w : bf_W}
theorem bs_weak {lv2 : bf_V} (hs : bf_sub lv2 lv) (k : bf_A X Q nL pc lv2 st w) : bf_A X Q nL pc lv st w := fun H locs ls hP hD hS hL => k H locs ls hP hD hS (hL.weak hs)

theorem bs_iconst (C : bf_C X own cc nL ret) {n : Int} (hd : bf_D cc pc (.iconst n) 1 pc2) (v : Int32) (hv : Int32.ofInt n = v) (k : bf_A X Q nL pc2 lv (.int v :: st) w) : bf_A X Q nL pc lv (st) w := by
  intro H locs ls hP hD hS hL
  obtain ⟨hd, rfl⟩ := hd
  exact lv_iconst C.1 C.2.1 hd hv (k H locs ls hP hD hS hL)
theorem bs_bipush (C : bf_C X own cc nL ret) {n : Int} (hd : bf_D cc pc (.bipush n) 2 pc2) (v : Int32) (hv : (Int8.ofInt n).toInt32 = v) (k : bf_A X Q nL pc2 lv (.int v :: st) w) : bf_A X Q nL pc lv (st) w := by
  intro H locs ls hP hD hS hL
  obtain ⟨hd, rfl⟩ := hd
  exact lv_bipush C.1 C.2.1 hd hv (k H locs ls hP hD hS hL)
theorem bs_sipush (C : bf_C X own cc nL ret) {n : Int} (hd : bf_D cc pc (.sipush n) 3 pc2) (v : Int32) (hv : (Int16.ofInt n).toInt32 = v) (k : bf_A X Q nL pc2 lv (.int v :: st) w) : bf_A X Q nL pc lv (st) w := by
  intro H locs ls hP hD hS hL
  obtain ⟨hd, rfl⟩ := hd
  exact lv_sipush C.1 C.2.1 hd hv (k H locs ls hP hD hS hL)
theorem bs_lconst (C : bf_C X own cc nL ret) {n : Fin 2} (hd : bf_D cc pc (.lconst n) 1 pc2) (v : Int64) (hv : Int64.ofNat (n : Nat) = v) (k : bf_A X Q nL pc2 lv (.long v :: st) w) : bf_A X Q nL pc lv (st) w := by
  intro H locs ls hP hD hS hL
  obtain ⟨hd, rfl⟩ := hd
  exact lv_lconst C.1 C.2.1 hd hv (k H locs ls hP hD hS hL)
theorem bs_ldc (C : bf_C X own cc nL ret) {i : Nat} {v : Int32} (hd : bf_D cc pc (.ldc i) 2 pc2) (hc : Cond.constant own i v ∈ lw_good) (k : bf_A X Q nL pc2 lv (.int v :: st) w) : bf_A X Q nL pc lv (st) w := by
  intro H locs ls hP hD hS hL
  obtain ⟨hd, rfl⟩ := hd
  exact lv_ldc C.1 C.2.1 C.2.2.2.1 (C.2.2.2.2.1 _ hc) hd (k H locs ls hP hD hS hL)
theorem bs_ldcw (C : bf_C X own cc nL ret) {i : Nat} {v : Int32} (hd : bf_D cc pc (.ldc_w i) 3 pc2) (hc : Cond.constant own i v ∈ lw_good) (k : bf_A X Q nL pc2 lv (.int v :: st) w) : bf_A X Q nL pc lv (st) w := by
  intro H locs ls hP hD hS hL
  obtain ⟨hd, rfl⟩ := hd
  exact lv_ldcw C.1 C.2.1 C.2.2.2.1 (C.2.2.2.2.1 _ hc) hd (k H locs ls hP hD hS hL)
theorem bs_ldc2 (C : bf_C X own cc nL ret) {i : Nat} {v : Int64} (hd : bf_D cc pc (.ldc2_w i) 3 pc2) (hc : Cond.constantLong own i v ∈ lw_good) (k : bf_A X Q nL pc2 lv (.long v :: st) w) : bf_A X Q nL pc lv (st) w := by
  intro H locs ls hP hD hS hL
  obtain ⟨hd, rfl⟩ := hd
  exact lv_ldc2 C.1 C.2.1 C.2.2.2.1 (C.2.2.2.2.1 _ hc) hd (k H locs ls hP hD hS hL)
theorem bs_iload_n (C : bf_C X own cc nL ret) {k : Fin 4} {x : Int32} (hd : bf_D cc pc (.iload_n k) 1 pc2) (hl : lv[(k : Nat)]? = some (some (.int x))) (k : bf_A X Q nL pc2 lv (.int x :: st) w) : bf_A X Q nL pc lv (st) w := by
  intro H locs ls hP hD hS hL
  obtain ⟨hd, rfl⟩ := hd
  exact lv_iload_n C.1 C.2.1 hd rfl (hL.2.2 _ _ hl) (k H locs ls hP hD hS hL)
theorem bs_iload (C : bf_C X own cc nL ret) {i : Nat} {x : Int32} (hd : bf_D cc pc (.iload i) 2 pc2) (hl : lv[i]? = some (some (.int x))) (k : bf_A X Q nL pc2 lv (.int x :: st) w) : bf_A X Q nL pc lv (st) w := by
  intro H locs ls hP hD hS hL
  obtain ⟨hd, rfl⟩ := hd
  exact lv_iload C.1 C.2.1 hd (hL.2.2 _ _ hl) (k H locs ls hP hD hS hL)
theorem bs_lload_n (C : bf_C X own cc nL ret) {k : Fin 4} {x : Int64} (hd : bf_D cc pc (.lload_n k) 1 pc2) (hl : lv[(k : Nat)]? = some (some (.long x))) (k : bf_A X Q nL pc2 lv (.long x :: st) w) : bf_A X Q nL pc lv (st) w := by
  intro H locs ls hP hD hS hL
  obtain ⟨hd, rfl⟩ := hd
  exact lv_lload_n C.1 C.2.1 hd rfl (hL.2.2 _ _ hl) (k H locs ls hP hD hS hL)
theorem bs_lload (C : bf_C X own cc nL ret) {i : Nat} {x : Int64} (hd : bf_D cc pc (.lload i) 2 pc2) (hl : lv[i]? = some (some (.long x))) (k : bf_A X Q nL pc2 lv (.long x :: st) w) : bf_A X Q nL pc lv (st) w := by
  intro H locs ls hP hD hS hL
  obtain ⟨hd, rfl⟩ := hd
  exact lv_lload C.1 C.2.1 hd (hL.2.2 _ _ hl) (k H locs ls hP hD hS hL)
theorem bs_aload_n (C : bf_C X own cc nL ret) {k : Fin 4} {x : Nat} (hd : bf_D cc pc (.aload_n k) 1 pc2) (hl : lv[(k : Nat)]? = some (some (.ref x))) (k : bf_A X Q nL pc2 lv (.ref x :: st) w) : bf_A X Q nL pc lv (st) w := by
  intro H locs ls hP hD hS hL
  obtain ⟨hd, rfl⟩ := hd
  exact lv_aload_n C.1 C.2.1 hd rfl (hL.2.2 _ _ hl) (k H locs ls hP hD hS hL)
theorem bs_aload (C : bf_C X own cc nL ret) {i : Nat} {x : Nat} (hd : bf_D cc pc (.aload i) 2 pc2) (hl : lv[i]? = some (some (.ref x))) (k : bf_A X Q nL pc2 lv (.ref x :: st) w) : bf_A X Q nL pc lv (st) w := by
  intro H locs ls hP hD hS hL
  obtain ⟨hd, rfl⟩ := hd
  exact lv_aload C.1 C.2.1 hd (hL.2.2 _ _ hl) (k H locs ls hP hD hS hL)
theorem bs_istore_n (C : bf_C X own cc nL ret) {k : Fin 4} {i : Nat} {x : Int32} (hd : bf_D cc pc (.istore_n k) 1 pc2) (hi : (k : Nat) = i) (hn : i < nL) (hlen : lv.length ≤ nL) {lv2 : bf_V} (hlv2 : bf_st1 lv i (.int x) = lv2) (k : bf_A X Q nL pc2 lv2 st w) : bf_A X Q nL pc lv (.int x :: st) w := by
  intro H locs ls hP hD hS hL
  obtain ⟨hd, rfl⟩ := hd
  subst hlv2
  exact lv_istore_n C.1 C.2.1 hd hi (bf_has hL) hn rfl (fun ls2 h2 => k H locs ls2 hP hD hS (bf_L1 (v := .int x) rfl h2.1 h2 hlen))
theorem bs_istore (C : bf_C X own cc nL ret) {i : Nat} {x : Int32} (hd : bf_D cc pc (.istore i) 2 pc2) (hn : i < nL) (hlen : lv.length ≤ nL) {lv2 : bf_V} (hlv2 : bf_st1 lv i (.int x) = lv2) (k : bf_A X Q nL pc2 lv2 st w) : bf_A X Q nL pc lv (.int x :: st) w := by
  intro H locs ls hP hD hS hL
  obtain ⟨hd, rfl⟩ := hd
  subst hlv2
  exact lv_istore C.1 C.2.1 hd (bf_has hL) hn rfl (fun ls2 h2 => k H locs ls2 hP hD hS (bf_L1 (v := .int x) rfl h2.1 h2 hlen))
theorem bs_lstore_n (C : bf_C X own cc nL ret) {k : Fin 4} {i : Nat} {x : Int64} (hd : bf_D cc pc (.lstore_n k) 1 pc2) (hi : (k : Nat) = i) (hn : i + 1 < nL) (hlen : lv.length ≤ nL) {lv2 : bf_V} (hlv2 : bf_st2 lv i (.long x) = lv2) (k : bf_A X Q nL pc2 lv2 st w) : bf_A X Q nL pc lv (.long x :: st) w := by
  intro H locs ls hP hD hS hL
  obtain ⟨hd, rfl⟩ := hd
  subst hlv2
  exact lv_lstore_n C.1 C.2.1 hd hi (bf_has hL) hn rfl (fun ls2 h2 => k H locs ls2 hP hD hS (bf_L2 (v := .long x) rfl h2.1 h2 hlen))
theorem bs_lstore (C : bf_C X own cc nL ret) {i : Nat} {x : Int64} (hd : bf_D cc pc (.lstore i) 2 pc2) (hn : i + 1 < nL) (hlen : lv.length ≤ nL) {lv2 : bf_V} (hlv2 : bf_st2 lv i (.long x) = lv2) (k : bf_A X Q nL pc2 lv2 st w) : bf_A X Q nL pc lv (.long x :: st) w := by
  intro H locs ls hP hD hS hL
  obtain ⟨hd, rfl⟩ := hd
  subst hlv2
  exact lv_lstore C.1 C.2.1 hd (bf_has hL) hn rfl (fun ls2 h2 => k H locs ls2 hP hD hS (bf_L2 (v := .long x) rfl h2.1 h2 hlen))
theorem bs_astore_n (C : bf_C X own cc nL ret) {k : Fin 4} {i : Nat} {x : Nat} (hd : bf_D cc pc (.astore_n k) 1 pc2) (hi : (k : Nat) = i) (hn : i < nL) (hlen : lv.length ≤ nL) {lv2 : bf_V} (hlv2 : bf_st1 lv i (.ref x) = lv2) (k : bf_A X Q nL pc2 lv2 st w) : bf_A X Q nL pc lv (.ref x :: st) w := by
  intro H locs ls hP hD hS hL
  obtain ⟨hd, rfl⟩ := hd
  subst hlv2
  exact lv_astore_n C.1 C.2.1 hd hi (bf_has hL) hn rfl (fun ls2 h2 => k H locs ls2 hP hD hS (bf_L1 (v := .ref x) rfl h2.1 h2 hlen))
theorem bs_astore (C : bf_C X own cc nL ret) {i : Nat} {x : Nat} (hd : bf_D cc pc (.astore i) 2 pc2) (hn : i < nL) (hlen : lv.length ≤ nL) {lv2 : bf_V} (hlv2 : bf_st1 lv i (.ref x) = lv2) (k : bf_A X Q nL pc2 lv2 st w) : bf_A X Q nL pc lv (.ref x :: st) w := by
  intro H locs ls hP hD hS hL
  obtain ⟨hd, rfl⟩ := hd
  subst hlv2
  exact lv_astore C.1 C.2.1 hd (bf_has hL) hn rfl (fun ls2 h2 => k H locs ls2 hP hD hS (bf_L1 (v := .ref x) rfl h2.1 h2 hlen))
theorem bs_iinc (C : bf_C X own cc nL ret) {i : Nat} {n : Int} {x : Int32} (hd : bf_D cc pc (.iinc i n) 3 pc2) (v : Int32) (hl : lv[i]? = some (some (.int x))) (hv : x + Int32.ofInt n = v) (hn : i < nL) (hlen : lv.length ≤ nL) {lv2 : bf_V} (hlv2 : bf_st1 lv i (.int v) = lv2) (k : bf_A X Q nL pc2 lv2 st w) : bf_A X Q nL pc lv st w := by
  intro H locs ls hP hD hS hL
  obtain ⟨hd, rfl⟩ := hd
  subst hlv2
  obtain ⟨j, hj⟩ := List.getElem?_of_mem (bf_list_mem (al := xal X) (nL := nL) hl hn)
  exact lv_iinc C.1 C.2.1 hd (bf_has hL) hj hv hn rfl (fun ls2 h2 => k H locs ls2 hP hD hS (bf_L1 (v := .int v) rfl h2.1 h2 hlen))
theorem bs_iadd (C : bf_C X own cc nL ret) {x y : Int32} (hd : bf_D cc pc .iadd 1 pc2)  (k : bf_A X Q nL pc2 lv (.int (x + y) :: st) w) : bf_A X Q nL pc lv (.int y :: .int x :: st) w := by
  intro H locs ls hP hD hS hL
  obtain ⟨hd, rfl⟩ := hd
  exact lv_iadd C.1 C.2.1 hd (k H locs ls hP hD hS hL)
theorem bs_isub (C : bf_C X own cc nL ret) {x y : Int32} (hd : bf_D cc pc .isub 1 pc2)  (k : bf_A X Q nL pc2 lv (.int (x - y) :: st) w) : bf_A X Q nL pc lv (.int y :: .int x :: st) w := by
  intro H locs ls hP hD hS hL
  obtain ⟨hd, rfl⟩ := hd
  exact lv_isub C.1 C.2.1 hd (k H locs ls hP hD hS hL)
theorem bs_imul (C : bf_C X own cc nL ret) {x y : Int32} (hd : bf_D cc pc .imul 1 pc2)  (k : bf_A X Q nL pc2 lv (.int (x * y) :: st) w) : bf_A X Q nL pc lv (.int y :: .int x :: st) w := by
  intro H locs ls hP hD hS hL
  obtain ⟨hd, rfl⟩ := hd
  exact lv_imul C.1 C.2.1 hd (k H locs ls hP hD hS hL)
theorem bs_iand (C : bf_C X own cc nL ret) {x y : Int32} (hd : bf_D cc pc .iand 1 pc2)  (k : bf_A X Q nL pc2 lv (.int (x &&& y) :: st) w) : bf_A X Q nL pc lv (.int y :: .int x :: st) w := by
  intro H locs ls hP hD hS hL
  obtain ⟨hd, rfl⟩ := hd
  exact lv_iand C.1 C.2.1 hd (k H locs ls hP hD hS hL)
theorem bs_ior (C : bf_C X own cc nL ret) {x y : Int32} (hd : bf_D cc pc .ior 1 pc2)  (k : bf_A X Q nL pc2 lv (.int (x ||| y) :: st) w) : bf_A X Q nL pc lv (.int y :: .int x :: st) w := by
  intro H locs ls hP hD hS hL
  obtain ⟨hd, rfl⟩ := hd
  exact lv_ior C.1 C.2.1 hd (k H locs ls hP hD hS hL)
theorem bs_ixor (C : bf_C X own cc nL ret) {x y : Int32} (hd : bf_D cc pc .ixor 1 pc2)  (k : bf_A X Q nL pc2 lv (.int (x ^^^ y) :: st) w) : bf_A X Q nL pc lv (.int y :: .int x :: st) w := by
  intro H locs ls hP hD hS hL
  obtain ⟨hd, rfl⟩ := hd
  exact lv_ixor C.1 C.2.1 hd (k H locs ls hP hD hS hL)
theorem bs_ishl (C : bf_C X own cc nL ret) {x y : Int32} (hd : bf_D cc pc .ishl 1 pc2)  (k : bf_A X Q nL pc2 lv (.int (x <<< (y &&& 31)) :: st) w) : bf_A X Q nL pc lv (.int y :: .int x :: st) w := by
  intro H locs ls hP hD hS hL
  obtain ⟨hd, rfl⟩ := hd
  exact lv_ishl C.1 C.2.1 hd (k H locs ls hP hD hS hL)
theorem bs_ishr (C : bf_C X own cc nL ret) {x y : Int32} (hd : bf_D cc pc .ishr 1 pc2)  (k : bf_A X Q nL pc2 lv (.int (x >>> (y &&& 31)) :: st) w) : bf_A X Q nL pc lv (.int y :: .int x :: st) w := by
  intro H locs ls hP hD hS hL
  obtain ⟨hd, rfl⟩ := hd
  exact lv_ishr C.1 C.2.1 hd (k H locs ls hP hD hS hL)
theorem bs_idiv (C : bf_C X own cc nL ret) {x y : Int32} (hd : bf_D cc pc .idiv 1 pc2)  (hne : ¬ y = 0) (k : bf_A X Q nL pc2 lv (.int (x / y) :: st) w) : bf_A X Q nL pc lv (.int y :: .int x :: st) w := by
  intro H locs ls hP hD hS hL
  obtain ⟨hd, rfl⟩ := hd
  exact lv_idiv C.1 C.2.1 hd hne (k H locs ls hP hD hS hL)
theorem bs_irem (C : bf_C X own cc nL ret) {x y : Int32} (hd : bf_D cc pc .irem 1 pc2)  (hne : ¬ y = 0) (k : bf_A X Q nL pc2 lv (.int (x - x / y * y) :: st) w) : bf_A X Q nL pc lv (.int y :: .int x :: st) w := by
  intro H locs ls hP hD hS hL
  obtain ⟨hd, rfl⟩ := hd
  exact lv_irem C.1 C.2.1 hd hne (k H locs ls hP hD hS hL)
theorem bs_iushr (C : bf_C X own cc nL ret) {x y : Int32} (hd : bf_D cc pc .iushr 1 pc2)  (k : bf_A X Q nL pc2 lv (.int ((x.toUInt32 >>> (y.toUInt32 &&& Int32.toUInt32 31)).toInt32) :: st) w) : bf_A X Q nL pc lv (.int y :: .int x :: st) w := by
  intro H locs ls hP hD hS hL
  obtain ⟨hd, rfl⟩ := hd
  exact lv_iushr C.1 C.2.1 hd rfl (k H locs ls hP hD hS hL)
theorem bs_ladd (C : bf_C X own cc nL ret) {x y : Int64} (hd : bf_D cc pc .ladd 1 pc2)  (k : bf_A X Q nL pc2 lv (.long (x + y) :: st) w) : bf_A X Q nL pc lv (.long y :: .long x :: st) w := by
  intro H locs ls hP hD hS hL
  obtain ⟨hd, rfl⟩ := hd
  exact lv_ladd C.1 C.2.1 hd (k H locs ls hP hD hS hL)
theorem bs_lsub (C : bf_C X own cc nL ret) {x y : Int64} (hd : bf_D cc pc .lsub 1 pc2)  (k : bf_A X Q nL pc2 lv (.long (x - y) :: st) w) : bf_A X Q nL pc lv (.long y :: .long x :: st) w := by
  intro H locs ls hP hD hS hL
  obtain ⟨hd, rfl⟩ := hd
  exact lv_lsub C.1 C.2.1 hd (k H locs ls hP hD hS hL)
theorem bs_land (C : bf_C X own cc nL ret) {x y : Int64} (hd : bf_D cc pc .land 1 pc2)  (k : bf_A X Q nL pc2 lv (.long (x &&& y) :: st) w) : bf_A X Q nL pc lv (.long y :: .long x :: st) w := by
  intro H locs ls hP hD hS hL
  obtain ⟨hd, rfl⟩ := hd
  exact lv_land C.1 C.2.1 hd (k H locs ls hP hD hS hL)
theorem bs_lor (C : bf_C X own cc nL ret) {x y : Int64} (hd : bf_D cc pc .lor 1 pc2)  (k : bf_A X Q nL pc2 lv (.long (x ||| y) :: st) w) : bf_A X Q nL pc lv (.long y :: .long x :: st) w := by
  intro H locs ls hP hD hS hL
  obtain ⟨hd, rfl⟩ := hd
  exact lv_lor C.1 C.2.1 hd (k H locs ls hP hD hS hL)
theorem bs_lxor (C : bf_C X own cc nL ret) {x y : Int64} (hd : bf_D cc pc .lxor 1 pc2)  (k : bf_A X Q nL pc2 lv (.long (x ^^^ y) :: st) w) : bf_A X Q nL pc lv (.long y :: .long x :: st) w := by
  intro H locs ls hP hD hS hL
  obtain ⟨hd, rfl⟩ := hd
  exact lv_lxor C.1 C.2.1 hd (k H locs ls hP hD hS hL)
theorem bs_lushr (C : bf_C X own cc nL ret) {x : Int64} {y : Int32} (hd : bf_D cc pc .lushr 1 pc2)  (k : bf_A X Q nL pc2 lv (.long ((x.toUInt64 >>> (y.toInt64.toUInt64 &&& Int64.toUInt64 63)).toInt64) :: st) w) : bf_A X Q nL pc lv (.int y :: .long x :: st) w := by
  intro H locs ls hP hD hS hL
  obtain ⟨hd, rfl⟩ := hd
  exact lv_lushr C.1 C.2.1 hd rfl (k H locs ls hP hD hS hL)
theorem bs_lshl (C : bf_C X own cc nL ret) {x : Int64} {y : Int32} (hd : bf_D cc pc .lshl 1 pc2)  (k : bf_A X Q nL pc2 lv (.long (x <<< (y.toInt64 &&& 63)) :: st) w) : bf_A X Q nL pc lv (.int y :: .long x :: st) w := by
  intro H locs ls hP hD hS hL
  obtain ⟨hd, rfl⟩ := hd
  exact lv_lshl C.1 C.2.1 hd rfl (k H locs ls hP hD hS hL)
theorem bs_i2l (C : bf_C X own cc nL ret) {x : Int32} (hd : bf_D cc pc .i2l 1 pc2)  (k : bf_A X Q nL pc2 lv (.long x.toInt64 :: st) w) : bf_A X Q nL pc lv (.int x :: st) w := by
  intro H locs ls hP hD hS hL
  obtain ⟨hd, rfl⟩ := hd
  exact lv_i2l C.1 C.2.1 hd rfl (k H locs ls hP hD hS hL)
theorem bs_l2i (C : bf_C X own cc nL ret) {x : Int64} (hd : bf_D cc pc .l2i 1 pc2)  (k : bf_A X Q nL pc2 lv (.int x.toInt32 :: st) w) : bf_A X Q nL pc lv (.long x :: st) w := by
  intro H locs ls hP hD hS hL
  obtain ⟨hd, rfl⟩ := hd
  exact lv_l2i C.1 C.2.1 hd rfl (k H locs ls hP hD hS hL)
theorem bs_i2c (C : bf_C X own cc nL ret) {x : Int32} (hd : bf_D cc pc .i2c 1 pc2)  (k : bf_A X Q nL pc2 lv (.int (x.toUInt32 % 65536).toInt32 :: st) w) : bf_A X Q nL pc lv (.int x :: st) w := by
  intro H locs ls hP hD hS hL
  obtain ⟨hd, rfl⟩ := hd
  exact lv_i2c C.1 C.2.1 hd rfl (k H locs ls hP hD hS hL)
theorem bs_lcmp (C : bf_C X own cc nL ret) {x y : Int64} (hd : bf_D cc pc .lcmp 1 pc2)  (k : bf_A X Q nL pc2 lv (.int (lg_cmp x y) :: st) w) : bf_A X Q nL pc lv (.long y :: .long x :: st) w := by
  intro H locs ls hP hD hS hL
  obtain ⟨hd, rfl⟩ := hd
  exact W.lcmp C.1 C.2.1 hd (k H locs ls hP hD hS hL)
theorem bs_dup (C : bf_C X own cc nL ret) {v : Value} (hd : bf_D cc pc .dup 1 pc2) (hv : v.category = 1) (k : bf_A X Q nL pc2 lv (v :: v :: st) w) : bf_A X Q nL pc lv (v :: st) w := by
  intro H locs ls hP hD hS hL
  obtain ⟨hd, rfl⟩ := hd
  exact lv_dup C.1 C.2.1 hd (by rw [bf_cv_cat]; exact hv) (k H locs ls hP hD hS hL)
theorem bs_pop (C : bf_C X own cc nL ret) {v : Value} (hd : bf_D cc pc .pop 1 pc2) (hv : v.category = 1) (k : bf_A X Q nL pc2 lv (st) w) : bf_A X Q nL pc lv (v :: st) w := by
  intro H locs ls hP hD hS hL
  obtain ⟨hd, rfl⟩ := hd
  exact lv_pop C.1 C.2.1 hd (by rw [bf_cv_cat]; exact hv) (k H locs ls hP hD hS hL)
theorem bs_pop2 (C : bf_C X own cc nL ret) {v : Value} (hd : bf_D cc pc .pop2 1 pc2) (hv : v.category = 2) (k : bf_A X Q nL pc2 lv (st) w) : bf_A X Q nL pc lv (v :: st) w := by
  intro H locs ls hP hD hS hL
  obtain ⟨hd, rfl⟩ := hd
  exact lv_pop2_2 C.1 C.2.1 hd (by rw [bf_cv_cat]; exact hv) (k H locs ls hP hD hS hL)
theorem bs_dup2 (C : bf_C X own cc nL ret) {v u : Value} (hd : bf_D cc pc .dup2 1 pc2) (hv : v.category = 1) (hu : u.category = 1) (k : bf_A X Q nL pc2 lv (v :: u :: v :: u :: st) w) : bf_A X Q nL pc lv (v :: u :: st) w := by
  intro H locs ls hP hD hS hL
  obtain ⟨hd, rfl⟩ := hd
  exact lv_dup2_11 C.1 C.2.1 hd (by rw [bf_cv_cat]; exact hv) (by rw [bf_cv_cat]; exact hu) (k H locs ls hP hD hS hL)
theorem bs_dupx1 (C : bf_C X own cc nL ret) {v u : Value} (hd : bf_D cc pc .dup_x1 1 pc2) (hv : v.category = 1) (hu : u.category = 1) (k : bf_A X Q nL pc2 lv (v :: u :: v :: st) w) : bf_A X Q nL pc lv (v :: u :: st) w := by
  intro H locs ls hP hD hS hL
  obtain ⟨hd, rfl⟩ := hd
  exact lv_dup_x1 C.1 C.2.1 hd (by rw [bf_cv_cat]; exact hv) (by rw [bf_cv_cat]; exact hu) (k H locs ls hP hD hS hL)
theorem bs_if_eq (C : bf_C X own cc nL ret) {x : Int32} {off : Int} {tgt : Nat} (hd : bf_D cc pc (.ifCond .eq off) 3 pc2) (ht : bf_J pc off tgt) (kt : x = 0 → bf_A X Q nL tgt lv st w) (kf : ¬ x = 0 → bf_A X Q nL pc2 lv st w) : bf_A X Q nL pc lv (.int x :: st) w := by
  intro H locs ls hP hD hS hL
  obtain ⟨hd, rfl⟩ := hd
  exact lv_if_eq C.1 C.2.1 hd ht (fun c => kt c H locs ls hP hD hS hL) (fun c => kf c H locs ls hP hD hS hL)
theorem bs_icmp_eq (C : bf_C X own cc nL ret) {x y : Int32} {off : Int} {tgt : Nat} (hd : bf_D cc pc (.if_icmp .eq off) 3 pc2) (ht : bf_J pc off tgt) (kt : x = y → bf_A X Q nL tgt lv st w) (kf : ¬ x = y → bf_A X Q nL pc2 lv st w) : bf_A X Q nL pc lv (.int y :: .int x :: st) w := by
  intro H locs ls hP hD hS hL
  obtain ⟨hd, rfl⟩ := hd
  exact lv_icmp_eq C.1 C.2.1 hd ht (fun c => kt c H locs ls hP hD hS hL) (fun c => kf c H locs ls hP hD hS hL)
theorem bs_if_ne (C : bf_C X own cc nL ret) {x : Int32} {off : Int} {tgt : Nat} (hd : bf_D cc pc (.ifCond .ne off) 3 pc2) (ht : bf_J pc off tgt) (kt : ¬ x = 0 → bf_A X Q nL tgt lv st w) (kf : x = 0 → bf_A X Q nL pc2 lv st w) : bf_A X Q nL pc lv (.int x :: st) w := by
  intro H locs ls hP hD hS hL
  obtain ⟨hd, rfl⟩ := hd
  exact lv_if_ne C.1 C.2.1 hd ht (fun c => kt c H locs ls hP hD hS hL) (fun c => kf c H locs ls hP hD hS hL)
theorem bs_icmp_ne (C : bf_C X own cc nL ret) {x y : Int32} {off : Int} {tgt : Nat} (hd : bf_D cc pc (.if_icmp .ne off) 3 pc2) (ht : bf_J pc off tgt) (kt : ¬ x = y → bf_A X Q nL tgt lv st w) (kf : x = y → bf_A X Q nL pc2 lv st w) : bf_A X Q nL pc lv (.int y :: .int x :: st) w := by
  intro H locs ls hP hD hS hL
  obtain ⟨hd, rfl⟩ := hd
  exact lv_icmp_ne C.1 C.2.1 hd ht (fun c => kt c H locs ls hP hD hS hL) (fun c => kf c H locs ls hP hD hS hL)
theorem bs_if_lt (C : bf_C X own cc nL ret) {x : Int32} {off : Int} {tgt : Nat} (hd : bf_D cc pc (.ifCond .lt off) 3 pc2) (ht : bf_J pc off tgt) (kt : x < 0 → bf_A X Q nL tgt lv st w) (kf : ¬ x < 0 → bf_A X Q nL pc2 lv st w) : bf_A X Q nL pc lv (.int x :: st) w := by
  intro H locs ls hP hD hS hL
  obtain ⟨hd, rfl⟩ := hd
  exact lv_if_lt C.1 C.2.1 hd ht (fun c => kt c H locs ls hP hD hS hL) (fun c => kf c H locs ls hP hD hS hL)
theorem bs_icmp_lt (C : bf_C X own cc nL ret) {x y : Int32} {off : Int} {tgt : Nat} (hd : bf_D cc pc (.if_icmp .lt off) 3 pc2) (ht : bf_J pc off tgt) (kt : x < y → bf_A X Q nL tgt lv st w) (kf : ¬ x < y → bf_A X Q nL pc2 lv st w) : bf_A X Q nL pc lv (.int y :: .int x :: st) w := by
  intro H locs ls hP hD hS hL
  obtain ⟨hd, rfl⟩ := hd
  exact lv_icmp_lt C.1 C.2.1 hd ht (fun c => kt c H locs ls hP hD hS hL) (fun c => kf c H locs ls hP hD hS hL)
theorem bs_if_ge (C : bf_C X own cc nL ret) {x : Int32} {off : Int} {tgt : Nat} (hd : bf_D cc pc (.ifCond .ge off) 3 pc2) (ht : bf_J pc off tgt) (kt : 0 ≤ x → bf_A X Q nL tgt lv st w) (kf : ¬ 0 ≤ x → bf_A X Q nL pc2 lv st w) : bf_A X Q nL pc lv (.int x :: st) w := by
  intro H locs ls hP hD hS hL
  obtain ⟨hd, rfl⟩ := hd
  exact lv_if_ge C.1 C.2.1 hd ht (fun c => kt c H locs ls hP hD hS hL) (fun c => kf c H locs ls hP hD hS hL)
theorem bs_icmp_ge (C : bf_C X own cc nL ret) {x y : Int32} {off : Int} {tgt : Nat} (hd : bf_D cc pc (.if_icmp .ge off) 3 pc2) (ht : bf_J pc off tgt) (kt : y ≤ x → bf_A X Q nL tgt lv st w) (kf : ¬ y ≤ x → bf_A X Q nL pc2 lv st w) : bf_A X Q nL pc lv (.int y :: .int x :: st) w := by
  intro H locs ls hP hD hS hL
  obtain ⟨hd, rfl⟩ := hd
  exact lv_icmp_ge C.1 C.2.1 hd ht (fun c => kt c H locs ls hP hD hS hL) (fun c => kf c H locs ls hP hD hS hL)
theorem bs_if_gt (C : bf_C X own cc nL ret) {x : Int32} {off : Int} {tgt : Nat} (hd : bf_D cc pc (.ifCond .gt off) 3 pc2) (ht : bf_J pc off tgt) (kt : 0 < x → bf_A X Q nL tgt lv st w) (kf : ¬ 0 < x → bf_A X Q nL pc2 lv st w) : bf_A X Q nL pc lv (.int x :: st) w := by
  intro H locs ls hP hD hS hL
  obtain ⟨hd, rfl⟩ := hd
  exact lv_if_gt C.1 C.2.1 hd ht (fun c => kt c H locs ls hP hD hS hL) (fun c => kf c H locs ls hP hD hS hL)
theorem bs_icmp_gt (C : bf_C X own cc nL ret) {x y : Int32} {off : Int} {tgt : Nat} (hd : bf_D cc pc (.if_icmp .gt off) 3 pc2) (ht : bf_J pc off tgt) (kt : y < x → bf_A X Q nL tgt lv st w) (kf : ¬ y < x → bf_A X Q nL pc2 lv st w) : bf_A X Q nL pc lv (.int y :: .int x :: st) w := by
  intro H locs ls hP hD hS hL
  obtain ⟨hd, rfl⟩ := hd
  exact lv_icmp_gt C.1 C.2.1 hd ht (fun c => kt c H locs ls hP hD hS hL) (fun c => kf c H locs ls hP hD hS hL)
theorem bs_if_le (C : bf_C X own cc nL ret) {x : Int32} {off : Int} {tgt : Nat} (hd : bf_D cc pc (.ifCond .le off) 3 pc2) (ht : bf_J pc off tgt) (kt : x ≤ 0 → bf_A X Q nL tgt lv st w) (kf : ¬ x ≤ 0 → bf_A X Q nL pc2 lv st w) : bf_A X Q nL pc lv (.int x :: st) w := by
  intro H locs ls hP hD hS hL
  obtain ⟨hd, rfl⟩ := hd
  exact lv_if_le C.1 C.2.1 hd ht (fun c => kt c H locs ls hP hD hS hL) (fun c => kf c H locs ls hP hD hS hL)
theorem bs_icmp_le (C : bf_C X own cc nL ret) {x y : Int32} {off : Int} {tgt : Nat} (hd : bf_D cc pc (.if_icmp .le off) 3 pc2) (ht : bf_J pc off tgt) (kt : x ≤ y → bf_A X Q nL tgt lv st w) (kf : ¬ x ≤ y → bf_A X Q nL pc2 lv st w) : bf_A X Q nL pc lv (.int y :: .int x :: st) w := by
  intro H locs ls hP hD hS hL
  obtain ⟨hd, rfl⟩ := hd
  exact lv_icmp_le C.1 C.2.1 hd ht (fun c => kt c H locs ls hP hD hS hL) (fun c => kf c H locs ls hP hD hS hL)
theorem bs_goto (C : bf_C X own cc nL ret) {off : Int} {tgt : Nat} (hd : bf_D cc pc (.goto off) 3 pc2) (ht : bf_J pc off tgt) (k : bf_A X Q nL tgt lv st w) : bf_A X Q nL pc lv st w := by
  intro H locs ls hP hD hS hL
  obtain ⟨hd, rfl⟩ := hd
  exact lv_goto C.1 C.2.1 hd ht (k H locs ls hP hD hS hL)
theorem bs_table (C : bf_C X own cc nL ret) {x : Int32} {dflt lo hi : Int} {offs : Array Int} {len tdef : Nat} (tg : Nat → Nat) (n : Nat) (hd : bf_D cc pc (.tableswitch dflt lo hi offs) len pc2) (hn : hi - lo + 1 = (n : Int)) (htd : bf_J pc dflt tdef) (ht : ∀ k, k < n → ∃ off, offs[k]? = some off ∧ bf_J pc off (tg k))
    (kd : x.toInt < lo ∨ hi < x.toInt → bf_A X Q nL tdef lv st w) (kc : ∀ k : Nat, k < n → x.toInt = lo + (k : Int) → bf_A X Q nL (tg k) lv st w) : bf_A X Q nL pc lv (.int x :: st) w := by
  intro H locs ls hP hD hS hL
  obtain ⟨hd, rfl⟩ := hd
  by_cases h1 : x.toInt < lo
  · exact lv_tableOut C.1 C.2.1 hd (Or.inl h1) htd (kd (Or.inl h1) H locs ls hP hD hS hL)
  · by_cases h2 : hi < x.toInt
    · exact lv_tableOut C.1 C.2.1 hd (Or.inr h2) htd (kd (Or.inr h2) H locs ls hP hD hS hL)
    · obtain ⟨k, hk⟩ : ∃ k : Nat, (x.toInt - lo).toNat = k := ⟨_, rfl⟩
      have hkn : k < n := by omega
      obtain ⟨off, h3, h4⟩ := ht k hkn
      exact lv_tableIn C.1 C.2.1 hd h1 h2 (by rw [hk]; exact h3) h4 (kc k hkn (by omega) H locs ls hP hD hS hL)
theorem bs_get (C : bf_C X own cc nL ret) {i q ci : Nat} {fs : List Value} {v : Value} {ref R : String} {T : u_T} {N : Nat} (hd : bf_D cc pc (.getfield i) 3 pc2) (hcl : bf_cl[ci]? = some (R, T, N)) (hin : ∀ w ∈ u_ws R T N, w ∈ lw_good) (k : Nat) (hk : k < N) (href : (T k).1 = ref) (hlk : Cond.fieldLink own i ref (T k).2.1 (T k).2.2.1 ∈ lw_good) (he : w[q]? = some (.inr (ci, fs))) (hv : fs[k]? = some v) (kk : bf_A X Q nL pc2 lv (v :: st) w) : bf_A X Q nL pc lv (.ref q :: st) w := by
  intro H locs ls hP hD hS hL
  obtain ⟨hd, rfl⟩ := hd
  subst href
  exact va_get (v := bf_cv (xal X) v) C.1 C.2.1 C.2.2.2.2.1 hin C.2.2.2.1 C.2.2.2.2.2.1 hP q (bf_cw_some he) hcl k hk (C.2.2.2.2.1 _ hlk) (fun _ h => h) (by rw [List.getElem?_map, hv]; rfl) hd (kk H locs ls hP hD hS hL)
theorem bs_getN (C : bf_C X own cc nL ret) {i q ci : Nat} {fs : List Value} {v : Value} {ref host R : String} {T : u_T} {N : Nat} (hd : bf_D cc pc (.getfield i) 3 pc2) (hcl : bf_cl[ci]? = some (R, T, N)) (hin : ∀ w ∈ u_ws R T N, w ∈ lw_good) (k : Nat) (hk : k < N) (href : (T k).1 = ref) (hlk : Cond.fieldLinkNest own i ref (T k).2.1 (T k).2.2.1 host ∈ lw_tbl) (he : w[q]? = some (.inr (ci, fs))) (hv : fs[k]? = some v) (kk : bf_A X Q nL pc2 lv (v :: st) w) : bf_A X Q nL pc lv (.ref q :: st) w := by
  intro H locs ls hP hD hS hL
  obtain ⟨hd, rfl⟩ := hd
  subst href
  exact va_getN (v := bf_cv (xal X) v) C.1 C.2.1 C.2.2.2.2.1 hin C.2.2.2.1 C.2.2.2.2.2.1 hP q (bf_cw_some he) hcl k hk (va_Nw.use rfl (C.2.2.2.2.2.2.1 _ hlk rfl)) (fun _ h => h) (by rw [List.getElem?_map, hv]; rfl) hd (kk H locs ls hP hD hS hL)
theorem bs_put (C : bf_C X own cc nL ret) {i q ci : Nat} {fs : List Value} {v : Value} {ref R : String} {T : u_T} {N : Nat} {ty0 : Nat → FieldType} (hd : bf_D cc pc (.putfield i) 3 pc2) (hty : ∀ k, k < N → parseFieldDescriptor (T k).2.2.1 = some (ty0 k)) (hnm : ∀ a, a < N → ∀ b, b < N → a ≠ b → (T a).2.1 ≠ (T b).2.1) (hcl : bf_cl[ci]? = some (R, T, N)) (hin : ∀ w ∈ u_ws R T N, w ∈ lw_good) (k : Nat) (hk : k < N) (href : (T k).1 = ref) (hlk : Cond.fieldLink own i ref (T k).2.1 (T k).2.2.1 ∈ lw_good) (hfin : (T k).2.2.2 = false) (he : w[q]? = some (.inr (ci, fs))) (hl : k < fs.length) (hn : narrow (ty0 k) (bf_cv (xal X) v) = bf_cv (xal X) v) (hfit : fits (ty0 k) (bf_cv (xal X) v) = true) {w2 : bf_W} (hw2 : w.set q (.inr (ci, fs.set k v)) = w2) (kk : bf_A X Q nL pc2 lv st w2) : bf_A X Q nL pc lv (v :: .ref q :: st) w := by
  intro H locs ls hP hD hS hL
  obtain ⟨hd, rfl⟩ := hd
  subst href
  have hwe : (bf_cw (xac X) (xal X) w).set q (xal X q, .inr (ci, (fs.map (bf_cv (xal X))).set k (bf_cv (xal X) v))) = bf_cw (xac X) (xal X) w2 := by
    rw [← hw2, ← bf_cw_set]
    simp [bf_ce, List.map_set]
  refine va_put (v := bf_cv (xal X) v) (ty := ty0 k) C.1 C.2.1 C.2.2.2.2.1 hin ty0 hty hnm C.2.2.2.1 C.2.2.2.2.2.1 hP hD hS q (bf_cw_some he) hcl k hk (C.2.2.2.2.1 _ hlk) (fun _ h => h) hfin (hty k hk) hn hfit (by simpa using hl) hd (fun H1 locs1 hP1 hD1 hS1 => ?_)
  rw [hwe] at hP1 hD1
  exact kk H1 locs1 ls hP1 hD1 hS1 hL
theorem bs_iald (C : bf_C X own cc nL ret) {q n : Nat} {f : Nat → Int32} {i : Int32} (hd : bf_D cc pc .iaload 1 pc2) (he : w[q]? = some (.inl (0, n, .inl f))) (hin : vp_in i n) (kk : bf_A X Q nL pc2 lv (.int (f i.toNatClampNeg) :: st) w) : bf_A X Q nL pc lv (.int i :: .ref q :: st) w := by
  intro H locs ls hP hD hS hL
  obtain ⟨hd, rfl⟩ := hd
  exact va_iald C.1 C.2.1 C.2.2.2.2.2.1 hP q 0 (bf_cw_some he) rfl hin hd (kk H locs ls hP hD hS hL)
theorem bs_cald (C : bf_C X own cc nL ret) {q n : Nat} {f : Nat → Int32} {i : Int32} (hd : bf_D cc pc .caload 1 pc2) (he : w[q]? = some (.inl (2, n, .inl f))) (hin : vp_in i n) (kk : bf_A X Q nL pc2 lv (.int (f i.toNatClampNeg) :: st) w) : bf_A X Q nL pc lv (.int i :: .ref q :: st) w := by
  intro H locs ls hP hD hS hL
  obtain ⟨hd, rfl⟩ := hd
  exact va_cald C.1 C.2.1 C.2.2.2.2.2.1 hP q 2 (bf_cw_some he) rfl hin hd (kk H locs ls hP hD hS hL)
theorem bs_lald (C : bf_C X own cc nL ret) {q n : Nat} {f : Nat → Int64} {i : Int32} (hd : bf_D cc pc .laload 1 pc2) (he : w[q]? = some (.inl (1, n, .inr (.inl f)))) (hin : vp_in i n) (kk : bf_A X Q nL pc2 lv (.long (f i.toNatClampNeg) :: st) w) : bf_A X Q nL pc lv (.int i :: .ref q :: st) w := by
  intro H locs ls hP hD hS hL
  obtain ⟨hd, rfl⟩ := hd
  exact va_lald C.1 C.2.1 C.2.2.2.2.2.1 hP q 1 (bf_cw_some he) rfl hin hd (kk H locs ls hP hD hS hL)
theorem bs_alenI (C : bf_C X own cc nL ret) {q n : Nat} {f : Nat → Int32} (hd : bf_D cc pc .arraylength 1 pc2) (v : Int32) (hv : Int32.ofNat n = v) (he : w[q]? = some (.inl (0, n, .inl f))) (kk : bf_A X Q nL pc2 lv (.int v :: st) w) : bf_A X Q nL pc lv (.ref q :: st) w := by
  intro H locs ls hP hD hS hL
  obtain ⟨hd, rfl⟩ := hd
  exact va_alen C.1 C.2.1 C.2.2.2.2.2.1 hP q 0 (bf_cw_some he) rfl hv hd (kk H locs ls hP hD hS hL)
theorem bs_iast (C : bf_C X own cc nL ret) {q n : Nat} {f : Nat → Int32} {i x : Int32} (hd : bf_D cc pc .iastore 1 pc2) (he : w[q]? = some (.inl (0, n, .inl f))) (hin : vp_in i n) {w2 : bf_W} (hw2 : w.set q (.inl (0, n, .inl (upd f i.toNatClampNeg x))) = w2) (kk : bf_A X Q nL pc2 lv st w2) : bf_A X Q nL pc lv (.int x :: .int i :: .ref q :: st) w := by
  intro H locs ls hP hD hS hL
  obtain ⟨hd, rfl⟩ := hd
  have hwe := bf_cw_set (xac X) (xal X) w q (.inl (0, n, .inl (upd f i.toNatClampNeg x)))
  rw [hw2] at hwe
  refine va_iast C.1 C.2.1 C.2.2.2.2.2.1 hP hD hS q 0 (bf_cw_some he) rfl hin hd (fun H1 locs1 hP1 hD1 hS1 => ?_)
  exact kk H1 locs1 ls (hwe ▸ hP1) (hwe ▸ hD1) hS1 hL
theorem bs_cast (C : bf_C X own cc nL ret) {q n : Nat} {f : Nat → Int32} {i x : Int32} (hd : bf_D cc pc .castore 1 pc2) (he : w[q]? = some (.inl (2, n, .inl f))) (hin : vp_in i n) {w2 : bf_W} (hw2 : w.set q (.inl (2, n, .inl (upd f i.toNatClampNeg (vp_nar .char x)))) = w2) (kk : bf_A X Q nL pc2 lv st w2) : bf_A X Q nL pc lv (.int x :: .int i :: .ref q :: st) w := by
  intro H locs ls hP hD hS hL
  obtain ⟨hd, rfl⟩ := hd
  have hwe := bf_cw_set (xac X) (xal X) w q (.inl (2, n, .inl (upd f i.toNatClampNeg (vp_nar .char x))))
  rw [hw2] at hwe
  refine va_cast C.1 C.2.1 C.2.2.2.2.2.1 hP hD hS q 2 (bf_cw_some he) rfl hin hd (fun H1 locs1 hP1 hD1 hS1 => ?_)
  exact kk H1 locs1 ls (hwe ▸ hP1) (hwe ▸ hD1) hS1 hL
theorem bs_last (C : bf_C X own cc nL ret) {q n : Nat} {f : Nat → Int64} {i : Int32} {x : Int64} (hd : bf_D cc pc .lastore 1 pc2) (he : w[q]? = some (.inl (1, n, .inr (.inl f)))) (hin : vp_in i n) {w2 : bf_W} (hw2 : w.set q (.inl (1, n, .inr (.inl (vp_updL f i.toNatClampNeg x)))) = w2) (kk : bf_A X Q nL pc2 lv st w2) : bf_A X Q nL pc lv (.long x :: .int i :: .ref q :: st) w := by
  intro H locs ls hP hD hS hL
  obtain ⟨hd, rfl⟩ := hd
  have hwe := bf_cw_set (xac X) (xal X) w q (.inl (1, n, .inr (.inl (vp_updL f i.toNatClampNeg x))))
  rw [hw2] at hwe
  refine va_last C.1 C.2.1 C.2.2.2.2.2.1 hP hD hS q 1 (bf_cw_some he) rfl hin hd (fun H1 locs1 hP1 hD1 hS1 => ?_)
  exact kk H1 locs1 ls (hwe ▸ hP1) (hwe ▸ hD1) hS1 hL
theorem bs_name {x : Int32} (k : ∀ v : Int32, v = x → bf_A X Q nL pc lv (.int v :: st) w) : bf_A X Q nL pc lv (.int x :: st) w := k x rfl
theorem bs_nameL {x : Int64} (k : ∀ v : Int64, v = x → bf_A X Q nL pc lv (.long v :: st) w) : bf_A X Q nL pc lv (.long x :: st) w := k x rfl
theorem bs_nameS {T : Type} (wf : T → bf_W) {x : T} (k : ∀ S : T, S = x → bf_A X Q nL pc lv st (wf S)) : bf_A X Q nL pc lv st (wf x) := k x rfl
end BFR

/-! CONTRACTS AND CALLS over places -/
def bf_rm (fr lo : Nat) : Room := { frames := fr, cells := 0, slots := 0, locals := lo }
def bf_Rm (X : bf_X) (fr lo : Nat) : Prop := fr ≤ (xR X).frames ∧ lo ≤ (xR X).locals ∧ xk X ≤ (xR X).cells ∧ xn X ≤ (xR X).slots
def bf_Pre (dC : Nat → ClassId) (dI : Nat → Nat → Nat) (ac : Nat → ClassId) (al : Nat → Nat) (sz : Nat) (avs : List Value) (w : bf_W) : Array Value → State → Prop :=
  va_Pc (avs.map (bf_cv al)) (fun U => U.heap.size = sz ∧ va_P (dC, dI) bf_cl (bf_cw ac al w) U.heap ∧ va_K (dC, dI) bf_cl (bf_tys ac) U ∧ va_D (fun _ => True) (bf_cw ac al w) ∧ bf_N U)
def bf_B (dC : Nat → ClassId) (dI : Nat → Nat → Nat) (ac : Nat → ClassId) (al : Nat → Nat) (A : Nat → Prop) {T : Type} (wf : T → bf_W) (u : T) (t : State) : Prop :=
  va_P (dC, dI) bf_cl (bf_cw ac al (wf u)) t.heap ∧ va_K (dC, dI) bf_cl (bf_tys ac) t ∧ va_D A (bf_cw ac al (wf u))
def bf_fr (ac : Nat → ClassId) (al : Nat → Nat) (w : bf_W) (sz : Nat) : Nat → Prop := va_A (bf_cw ac al w) sz
def bf_M (l : Launch) (y : MethodName) (cc : ByteArray) (n : Nat) (ret : Option FieldType) (fr lo : Nat) (dC : Nat → ClassId) (dI : Nat → Nat → Nat) (ac : Nat → ClassId) (al : Nat → Nat) (avs : List Value) (w : bf_W) (Qc : (Nat → Prop) → Array Value → State → Outcome → State → Prop) : Prop :=
  ∀ sz : Nat, Met l y (bf_ws y cc n ret) (bf_rm fr lo) (bf_Pre dC dI ac al sz avs w) (Qc (bf_fr ac al w sz)) 0 0 (bf_fr ac al w sz)
def bf_Ki {T : Type} (dC : Nat → ClassId) (dI : Nat → Nat → Nat) (ac : Nat → ClassId) (al : Nat → Nat) (wf : T → bf_W) (Q : Int32 → T → Prop) (A : Nat → Prop) : Array Value → State → Outcome → State → Prop := va_Qi Q (bf_B dC dI ac al A wf) A
def bf_Kl {T : Type} (dC : Nat → ClassId) (dI : Nat → Nat → Nat) (ac : Nat → ClassId) (al : Nat → Nat) (wf : T → bf_W) (Q : Int64 → T → Prop) (A : Nat → Prop) : Array Value → State → Outcome → State → Prop := va_Ql Q (bf_B dC dI ac al A wf) A
def bf_Kv {T : Type} (dC : Nat → ClassId) (dI : Nat → Nat → Nat) (ac : Nat → ClassId) (al : Nat → Nat) (wf : T → bf_W) (Q : T → Prop) (A : Nat → Prop) : Array Value → State → Outcome → State → Prop := va_Qv Q (bf_B dC dI ac al A wf) A
/-- what a body must come to -/
def bf_Q (X : bf_X) (Qc : (Nat → Prop) → Array Value → State → Outcome → State → Prop) : State → Prop := MQ (xb X) (Qc (xA X)) (xa X) (xs X) (xk X) (xn X) (xA X)
abbrev bf_Zi (X : bf_X) {T : Type} (wf : T → bf_W) (Q : Int32 → T → Prop) : State → Prop := bf_Q X (bf_Ki (xdC X) (xdI X) (xac X) (xal X) wf Q)
abbrev bf_Zl (X : bf_X) {T : Type} (wf : T → bf_W) (Q : Int64 → T → Prop) : State → Prop := bf_Q X (bf_Kl (xdC X) (xdI X) (xac X) (xal X) wf Q)
abbrev bf_Zv (X : bf_X) {T : Type} (wf : T → bf_W) (Q : T → Prop) : State → Prop := bf_Q X (bf_Kv (xdC X) (xdI X) (xac X) (xal X) wf Q)
def bf_ent : List Value → bf_V
  | [] => []
  | v :: vs => if v.category = 2 then some v :: none :: bf_ent vs else some v :: bf_ent vs
theorem bf_ent_sl (al : Nat → Nat) : ∀ (avs : List Value), lg_sl (avs.map (bf_cv al)) = (bf_ent avs).map (fun o => match o with | some v => Slot.val (bf_cv al v) | none => Slot.second)
  | [] => rfl
  | v :: vs => by
    have ih := bf_ent_sl al vs
    unfold bf_ent
    simp only [List.map_cons, lg_sl, List.flatMap_cons] at ih ⊢
    rw [bf_cv_cat, ih]
    by_cases h : v.category = 2 <;> simp [h]
/-- a method's contract out of its body -/
theorem bf_start {l : Launch} {y : MethodName} {cc : ByteArray} {n : Nat} {ret : Option FieldType} {fr lo : Nat} {dC : Nat → ClassId} {dI : Nat → Nat → Nat} {ac : Nat → ClassId} {al : Nat → Nat} {avs : List Value} {w : bf_W} {Qc : (Nat → Prop) → Array Value → State → Outcome → State → Prop} (lv : bf_V)
    (hy : plainName y.cls = true) (hlen : (bf_ent avs).length ≤ n) (hlv : bf_sub lv (bf_ent avs))
    (body : ∀ X : bf_X, xl X = l → bf_C X y.cls cc n ret → bf_Rm X fr lo → xdC X = dC → xdI X = dI → xac X = ac → xal X = al → bf_A X (bf_Q X Qc) n 0 lv [] w) : bf_M l y cc n ret fr lo dC dI ac al avs w Qc := by
  intro sz
  refine Met.ofW (cc := cc) (maxL := n) (ret := ret) hy rfl ?_
  intro p e s m args below meth c s₁ B hml hv
  obtain ⟨rfl, rfl, hP, hK, hD0, hN⟩ := hv
  have hts := atoms_spec (ws := bf_ws y cc n ret) B.pre
  have hD := hD0.self (sz := s.heap.size)
  have hC : bf_C (p, l, e, bf_rm fr lo, s, m, (avs.map (bf_cv al)).toArray, below, meth, c, dC, dI, ac, al, va_A (bf_cw ac al w) s.heap.size, 0, 0) y.cls cc n ret :=
    ⟨B.exec, B.bytes, hml, findClass_of_methodNamed B.named, fun q hq => hts q (List.mem_cons_of_mem _ hq), hK, hN, B.returns, B.notSynchronized, fun q h => Or.inr h⟩
  have hb := body (p, l, e, bf_rm fr lo, s, m, (avs.map (bf_cv al)).toArray, below, meth, c, dC, dI, ac, al, va_A (bf_cw ac al w) s.heap.size, 0, 0) rfl hC ⟨Nat.le_refl _, Nat.le_refl _, Nat.le_refl _, Nat.le_refl _⟩ rfl rfl rfl rfl
  rw [lg_entry_eq]
  refine hb s.heap [] _ hP hD va_S.rf ?_
  have hsl := bf_ent_sl al avs
  have he := lv_entry (avs.map (bf_cv al)) (n := n) (by rw [hsl, List.length_map]; exact hlen)
  refine ⟨he.1, he.2.1, fun i v hi => ?_⟩
  have h2 := bf_sub_get _ _ hlv i v hi
  have h3 : i < (bf_ent avs).length := (List.getElem?_eq_some_iff.mp h2).1
  show (lg_sl (avs.map (bf_cv al)) ++ List.replicate (n - (lg_sl (avs.map (bf_cv al))).length) Slot.unset).toArray[i]? = _
  rw [hsl, List.getElem?_toArray, List.getElem?_append_left (by simpa using h3), List.getElem?_map, h2]
  rfl
section BFT
variable {X : bf_X} {own : String} {cc : ByteArray} {nL : Nat} {pc pc2 : Nat} {lv : bf_V} {T : Type} {wf : T → bf_W} {u : T}
theorem bs_iret (C : bf_C X own cc nL (some .int)) {Q : Int32 → T → Prop} {v : Int32} (hd : bf_D cc pc .ireturn 1 pc2) {w : bf_W} (hw : wf u = w) (hq : Q v u) : bf_A X (bf_Zi X wf Q) nL pc lv [.int v] w := by
  intro H locs ls hP hD hS hL
  subst hw
  obtain ⟨hx, hb, -, -, -, hK, -, hr, hlk, -⟩ := C
  exact W.iret (v := v) hx hb hr (fun t ht hW => ⟨⟨v, u, rfl, hq, by rw [ht]; exact hP, va_K.moved hW.alike hK, hD⟩, hS.F ht⟩) hS.2.2 hd.1 hlk
theorem bs_zret (C : bf_C X own cc nL (some .boolean)) {Q : Int32 → T → Prop} {v : Int32} (hd : bf_D cc pc .ireturn 1 pc2) (hz : narrow .boolean (.int v) = .int v) {w : bf_W} (hw : wf u = w) (hq : Q v u) : bf_A X (bf_Zi X wf Q) nL pc lv [.int v] w := by
  intro H locs ls hP hD hS hL
  subst hw
  obtain ⟨hx, hb, -, -, -, hK, -, hr, hlk, -⟩ := C
  exact W.zret (v := v) hx hb hr hz (fun t ht hW => ⟨⟨v, u, rfl, hq, by rw [ht]; exact hP, va_K.moved hW.alike hK, hD⟩, hS.F ht⟩) hS.2.2 hd.1 hlk
theorem bs_lret (C : bf_C X own cc nL (some .long)) {Q : Int64 → T → Prop} {v : Int64} (hd : bf_D cc pc .lreturn 1 pc2) {w : bf_W} (hw : wf u = w) (hq : Q v u) : bf_A X (bf_Zl X wf Q) nL pc lv [.long v] w := by
  intro H locs ls hP hD hS hL
  subst hw
  obtain ⟨hx, hb, -, -, -, hK, -, hr, hlk, -⟩ := C
  exact W.lret (v := v) hx hb hr (fun t ht hW => ⟨⟨v, u, rfl, hq, by rw [ht]; exact hP, va_K.moved hW.alike hK, hD⟩, hS.F ht⟩) hS.2.2 hd.1 hlk
theorem bs_vret (C : bf_C X own cc nL none) {Q : T → Prop} (hd : bf_D cc pc .return_ 1 pc2) {w : bf_W} (hw : wf u = w) (hq : Q u) : bf_A X (bf_Zv X wf Q) nL pc lv [] w := by
  intro H locs ls hP hD hS hL
  subst hw
  obtain ⟨hx, hb, -, -, -, hK, -, hr, hlk, -⟩ := C
  exact W.vret hx hb hr (fun t ht hW => ⟨⟨u, rfl, hq, by rw [ht]; exact hP, va_K.moved hW.alike hK, hD⟩, hS.F ht⟩) hS.2.2 hd.1 hlk
end BFT
/-! a callee's places among the caller's -/
def bf_ren (ps : List Nat) : Value → Value
  | .ref j => .ref (ps.getD j 0)
  | .int x => .int x
  | .long x => .long x
  | .null => .null
  | .float x => .float x
  | .double x => .double x
  | .retAddr x => .retAddr x
def bf_rne (ps : List Nat) : bf_E → bf_E
  | .inl a => .inl a
  | .inr o => .inr (o.1, o.2.map (bf_ren ps))
def bf_alc (al : Nat → Nat) (ps : List Nat) : Nat → Nat := fun j => al (ps.getD j 0)
theorem bf_cv_ren (al : Nat → Nat) (ps : List Nat) (v : Value) : bf_cv al (bf_ren ps v) = bf_cv (bf_alc al ps) v := by cases v <;> rfl
theorem bf_ce_rne (ac : Nat → ClassId) (al : Nat → Nat) (ps : List Nat) (e : bf_E) : bf_ce ac al (bf_rne ps e) = bf_ce ac (bf_alc al ps) e := by
  cases e with
  | inl a => rfl
  | inr o => simp [bf_ce, bf_rne, List.map_map, Function.comp_def, bf_cv_ren]
def bf_put : bf_W → List Nat → bf_W → bf_W
  | w, i :: ps, e :: es => bf_put (w.set i e) ps es
  | w, _, _ => w
theorem bf_put_len : ∀ (w : bf_W) (ps : List Nat) (es : bf_W), (bf_put w ps es).length = w.length
  | w, [], es => by cases es <;> rfl
  | w, i :: ps, [] => rfl
  | w, i :: ps, e :: es => by
    show (bf_put (w.set i e) ps es).length = w.length
    rw [bf_put_len, List.length_set]
theorem bf_put_out : ∀ (w : bf_W) (ps : List Nat) (es : bf_W) (k : Nat), k ∉ ps → (bf_put w ps es)[k]? = w[k]?
  | w, [], es, k, _ => by cases es <;> rfl
  | w, i :: ps, [], k, _ => rfl
  | w, i :: ps, e :: es, k, h => by
    show (bf_put (w.set i e) ps es)[k]? = w[k]?
    rw [bf_put_out _ _ _ _ (fun q => h (List.mem_cons_of_mem _ q)), List.getElem?_set, if_neg (fun q => h (by rw [q]; exact List.mem_cons_self))]
theorem bf_put_in : ∀ (w : bf_W) (ps : List Nat) (es : bf_W) (j k : Nat) (e : bf_E), va_nd ps = true → ps[j]? = some k → es[j]? = some e → k < w.length → (bf_put w ps es)[k]? = some e
  | w, [], es, j, k, e, _, h, _, _ => by simp at h
  | w, i :: ps, [], j, k, e, _, _, h, _ => by simp at h
  | w, i :: ps, e0 :: es, 0, k, e, hn, h1, h2, hk => by
    simp at h1 h2
    subst h1; subst h2
    show (bf_put (w.set i e0) ps es)[i]? = some e0
    simp only [va_nd, Bool.and_eq_true, decide_eq_true_eq] at hn
    rw [bf_put_out _ _ _ _ hn.1, List.getElem?_set, if_pos rfl, if_pos hk]
  | w, i :: ps, e0 :: es, j + 1, k, e, hn, h1, h2, hk => by
    simp only [va_nd, Bool.and_eq_true, decide_eq_true_eq] at hn
    exact bf_put_in (w.set i e0) ps es j k e hn.2 (by simpa using h1) (by simpa using h2) (by rw [List.length_set]; exact hk)
theorem bf_D_len {A : Nat → Prop} {ac : Nat → ClassId} {al : Nat → Nat} {w w2 : bf_W} (h : va_D A (bf_cw ac al w)) (hl : w2.length = w.length) : va_D A (bf_cw ac al w2) := by
  have key : ∀ (k : Nat) (q : Nat × va_E), (bf_cw ac al w2)[k]? = some q → ∃ e, (bf_cw ac al w)[k]? = some (q.1, e) := by
    intro k q hq
    have hk : k < w.length := by
      have := (List.getElem?_eq_some_iff.mp hq).1
      rw [bf_cw_len] at this
      omega
    have h1 : w[k]? = some w[k] := List.getElem?_eq_getElem hk
    rw [bf_cw_get] at hq
    cases h2 : w2[k]? with
    | none => rw [h2] at hq; cases hq
    | some e2 =>
      rw [h2] at hq
      cases hq
      exact ⟨_, bf_cw_some h1⟩
  refine ⟨fun i j p q hi hj hpq => ?_, fun k q hk => ?_⟩
  · obtain ⟨e1, h1⟩ := key i p hi
    obtain ⟨e2, h2⟩ := key j q hj
    exact h.1 i j _ _ h1 h2 hpq
  · obtain ⟨e1, h1⟩ := key k q hk
    exact h.2 k (q.1, e1) h1
/-- which places: the callee's world is the caller's there -/
def bf_Sub (w : bf_W) (ps : List Nat) (wc : bf_W) : Prop := ps.map (fun i => w[i]?) = wc.map (fun e => some (bf_rne ps e))
theorem bf_Sub.conc {ac : Nat → ClassId} {al : Nat → Nat} {w wc : bf_W} {ps : List Nat} (h : bf_Sub w ps wc) : ps.map (fun i => (bf_cw ac al w)[i]?) = (bf_cw ac (bf_alc al ps) wc).map some := by
  have hlen : ps.length = wc.length := by simpa using congrArg List.length h
  apply List.ext_getElem?
  intro j
  rw [List.getElem?_map, List.getElem?_map, bf_cw_get]
  cases hj : ps[j]? with
  | none =>
    have : wc[j]? = none := by
      rw [List.getElem?_eq_none_iff] at hj ⊢
      omega
    rw [this]; rfl
  | some i =>
    have hj2 : j < wc.length := by
      have := (List.getElem?_eq_some_iff.mp hj).1
      omega
    have h1 : (ps.map (fun i => w[i]?))[j]? = (wc.map (fun e => some (bf_rne ps e)))[j]? := by rw [h]
    rw [List.getElem?_map, List.getElem?_map, hj, List.getElem?_eq_getElem hj2] at h1
    simp only [Option.map_some, Option.some.injEq] at h1
    rw [List.getElem?_eq_getElem hj2]
    simp only [Option.map_some]
    rw [bf_cw_some h1, bf_ce_rne]
    have : bf_alc al ps j = al i := by simp [bf_alc, List.getD, hj]
    rw [this]
/-- behind a call: the callee's cells put back -/
theorem bf_back {D : va_G} {cl : List vw_C} {A : Nat → Prop} {ac : Nat → ClassId} {al : Nat → Nat} {w wc w1 : bf_W} {ps : List Nat} {H H1 : Heap} (hP : va_P D cl (bf_cw ac al w) H) (hD : va_D A (bf_cw ac al w)) (hs : bf_Sub w ps wc) (hnd : va_nd ps = true) (hl1 : w1.length = ps.length)
    (hk : ∀ q : Nat, q < H.size → ¬ va_A (bf_cw ac (bf_alc al ps) wc) H.size q → H1[q]? = H[q]?) (hP1 : va_P D cl (bf_cw ac (bf_alc al ps) w1) H1) : va_P D cl (bf_cw ac al (bf_put w ps (w1.map (bf_rne ps)))) H1 := by
  have hlen : ps.length = wc.length := by simpa using congrArg List.length hs
  intro k q hq
  by_cases hkp : k ∈ ps
  · obtain ⟨j, hj⟩ := List.getElem?_of_mem hkp
    have hj1 : j < w1.length := by
      have := (List.getElem?_eq_some_iff.mp hj).1
      omega
    have hkw : k < w.length := by
      have := (List.getElem?_eq_some_iff.mp hq).1
      rw [bf_cw_len, bf_put_len] at this
      exact this
    have h2 := bf_put_in w ps (w1.map (bf_rne ps)) j k (bf_rne ps w1[j]) hnd hj (by rw [List.getElem?_map, List.getElem?_eq_getElem hj1]; rfl) hkw
    rw [bf_cw_some h2, bf_ce_rne] at hq
    cases hq
    have hal : bf_alc al ps j = al k := by simp [bf_alc, List.getD, hj]
    have := hP1 j (bf_alc al ps j, bf_ce ac (bf_alc al ps) w1[j]) (bf_cw_some (List.getElem?_eq_getElem hj1))
    rw [hal] at this
    exact this
  · have h2 := bf_put_out w ps (w1.map (bf_rne ps)) k hkp
    have h3 : (bf_cw ac al w)[k]? = some q := by
      rw [bf_cw_get] at hq ⊢
      rw [h2] at hq
      exact hq
    have h4 := hP k q h3
    refine h4.kept (hk q.1 h4.lt ?_)
    intro hA
    rcases hA with ⟨j, e, hj⟩ | hA
    · have hjl : j < ps.length := by
        have := (List.getElem?_eq_some_iff.mp hj).1
        rw [bf_cw_len] at this
        omega
      have hc := hs.conc (ac := ac) (al := al)
      have h5 : (ps.map (fun i => (bf_cw ac al w)[i]?))[j]? = some (some (q.1, e)) := by rw [hc, List.getElem?_map, hj]; rfl
      rw [List.getElem?_map, List.getElem?_eq_getElem hjl] at h5
      simp only [Option.map_some, Option.some.injEq] at h5
      have := hD.1 k ps[j] q (q.1, e) h3 h5 rfl
      exact hkp (this ▸ List.getElem_mem hjl)
    · have := h4.lt
      omega
theorem bf_blind (dC : Nat → ClassId) (dI : Nat → Nat → Nat) (ac : Nat → ClassId) (al : Nat → Nat) (sz : Nat) (avs : List Value) (w : bf_W) : FrameBlind (bf_Pre dC dI ac al sz avs w) := by
  intro a U g mk h
  obtain ⟨h0, h1, h2, h3, h4, h5⟩ := h
  exact ⟨h0, h1, h2, va_K.moved (u := U) (U := U.calling g mk a) (Vm.Alike.refl U.vm) h3, h4, h5.same rfl⟩
/-- a method's own words -/
def bf_MB (y : MethodName) (cc : ByteArray) (n : Nat) (ret : Option FieldType) (np : Nat) : Prop :=
  Cond.code y cc n ret ∈ lw_good ∧ Cond.initialized y.cls ∈ lw_good ∧ (y.cls ≠ "java/lang/invoke/MethodHandle" ∧ y.cls ≠ "java/lang/invoke/VarHandle" ∧ (parseMethodDescriptor y.desc).map (fun d => d.parameters.length) = some np)
def bf_MV (y : MethodName) (cc : ByteArray) (n : Nat) (ret : Option FieldType) (np : Nat) : Prop := bf_MB y cc n ret np ∧ Cond.instanceMethod y ∈ lw_good ∧ Cond.selects y.cls y y ∈ lw_good
def bf_MS (y : MethodName) (cc : ByteArray) (n : Nat) (ret : Option FieldType) (np : Nat) : Prop := bf_MB y cc n ret np ∧ Cond.static y ∈ lw_good
theorem bf_good_of {w : Cond} (h : w ∈ lw_good) : w ∈ lw_good ∧ ((w.onTables && w.keeps) = true ∨ ∃ ty, w = .arrayClass ty) := ⟨h, good_of_word (List.mem_filter.mp h).2⟩
theorem bf_goodIn {y : MethodName} {cc : ByteArray} {n : Nat} {ret : Option FieldType} {np : Nat} (h : bf_MB y cc n ret np) : GoodIn lw_good (bf_ws y cc n ret) := by
  intro w hw
  rcases List.mem_cons.mp hw with rfl | hw
  · exact bf_good_of h.1
  · exact bf_good_of hw
theorem bf_rest (al : Nat → Nat) (st : List Value) : ((st.map (bf_cv al)).map fun v => v.category).sum = (st.map fun v => v.category).sum := by
  rw [List.map_map]
  congr 1
  apply List.map_congr_left
  intro v _
  exact bf_cv_cat al v
theorem bf_put_self0 : ∀ (w : bf_W) (ps : List Nat) (es : bf_W), ps.map (fun i => w[i]?) = es.map some → bf_put w ps es = w
  | w, [], es, _ => by cases es <;> rfl
  | w, i :: ps, [], _ => rfl
  | w, i :: ps, e :: es, h => by
    simp only [List.map_cons, List.cons.injEq] at h
    have hw : w.set i e = w := by
      apply List.ext_getElem?
      intro j
      rw [List.getElem?_set]
      by_cases hij : i = j
      · subst hij
        rw [if_pos rfl, h.1, if_pos (List.getElem?_eq_some_iff.mp h.1).1]
      · rw [if_neg hij]
    show bf_put (w.set i e) ps es = w
    rw [hw]
    exact bf_put_self0 w ps es h.2
theorem bf_put_self {w wc : bf_W} {ps : List Nat} (hs : bf_Sub w ps wc) : bf_put w ps (wc.map (bf_rne ps)) = w := bf_put_self0 w ps _ (by rw [List.map_map]; exact hs)
section BFCALL
variable {X : bf_X} {Q : State → Prop} {own : String} {cc : ByteArray} {nL : Nat} {ret : Option FieldType} {pc pc2 : Nat} {lv : bf_V} {st : List Value} {w : bf_W} {fr0 lo0 : Nat}
variable {y : MethodName} {bytes : ByteArray} {maxL np index : Nat} {retc : Option FieldType} {fr lo : Nat} {ps : List Nat} {avs : List Value} {wc : bf_W} {Qc : (Nat → Prop) → Array Value → State → Outcome → State → Prop}

theorem bf_runV (C : bf_C X own cc nL ret) (hR : bf_Rm X fr0 lo0) (hM : bf_M (xl X) y bytes maxL retc fr lo (xdC X) (xdI X) (xac X) (bf_alc (xal X) ps) avs wc Qc) (hm : bf_MV y bytes maxL retc np) (hlk : Cond.methodLink own index y ∈ lw_good) {rq ci : Nat} {fs : List Value} {Tc : u_T} {Nc : Nat} (hrc : avs = .ref rq :: avs.tail) (hcl : bf_cl[ci]? = some (y.cls, Tc, Nc)) (hrw : wc[rq]? = some (.inr (ci, fs))) (hnp : avs.tail.length = np) (hfr : fr + 1 ≤ fr0) (hlo : 8 + (maxL + 11) + lo ≤ lo0) (hs : bf_Sub w ps wc) (hnd : va_nd ps = true) (hroom : (st.map fun v => v.category).sum ≤ 8) (hd : bf_D cc pc (.invokevirtual index) 3 pc2) {H : Heap} {locs : List Loc} {ls : Array Slot} (hP : va_P (xdC X, xdI X) bf_cl (bf_cw (xac X) (xal X) w) H) (hD : va_D (xA X) (bf_cw (xac X) (xal X) w)) (hL : bf_L (xal X) ls nL lv) :
    va_Run (xp X) (xl X) (xe X) (xR X) (xs X) (xm X) (xa X) (xb X) (xh X) (xc X) H locs (xk X) (xn X) 0 0 (F0 (xm X) pc ls ((((avs.map (bf_ren ps)).reverse) ++ st).map (bf_cv (xal X)))) (st.map (bf_cv (xal X))) (Qc (bf_fr (xac X) (bf_alc (xal X) ps) wc H.size) (avs.map (bf_cv (bf_alc (xal X) ps))).toArray) (bf_fr (xac X) (bf_alc (xal X) ps) wc H.size) := by
  have hRR : (bf_rm fr lo).frames + 1 ≤ (xR X).frames ∧ 8 + (maxL + 11) + (bf_rm fr lo).locals ≤ (xR X).locals := ⟨Nat.le_trans hfr hR.1, Nat.le_trans hlo hR.2.1⟩
  have hPc : va_P (xdC X, xdI X) bf_cl (bf_cw (xac X) (bf_alc (xal X) ps) wc) H := hP.sub ps (by
    have h := hs.conc (ac := xac X) (al := xal X)
    have h2 : ps.filterMap (fun i => (bf_cw (xac X) (xal X) w)[i]?) = (ps.map (fun i => (bf_cw (xac X) (xal X) w)[i]?)).filterMap id := by rw [List.filterMap_map]; rfl
    rw [h2, h, List.filterMap_map]
    simp [Function.comp_def])
  have hDc : va_D (xA X) (bf_cw (xac X) (bf_alc (xal X) ps) wc) := hD.sub ps hnd (hs.conc)
  have hst : ((avs.map (bf_ren ps)).reverse ++ st).map (bf_cv (xal X)) = (avs.map (bf_cv (bf_alc (xal X) ps))).reverse ++ st.map (bf_cv (xal X)) := by
    rw [List.map_append, List.map_reverse, List.map_map]
    congr 2
    apply List.map_congr_left
    intro v _
    exact bf_cv_ren (xal X) ps v
  have hpre : ∀ U : State, U.heap = H → (xs X).WarmedH U.vm → bf_Pre (xdC X) (xdI X) (xac X) (bf_alc (xal X) ps) H.size avs wc (avs.map (bf_cv (bf_alc (xal X) ps))).toArray U := fun U hU hW => ⟨rfl, by rw [hU], by rw [hU]; exact hPc, va_K.moved hW.alike C.2.2.2.2.2.1, hDc.weaken (fun _ _ _ _ => trivial), C.2.2.2.2.2.2.1.warm hW⟩
  have hav : avs.map (bf_cv (bf_alc (xal X) ps)) = Value.ref (bf_alc (xal X) ps rq) :: avs.tail.map (bf_cv (bf_alc (xal X) ps)) := by rw [hrc]; rfl
  rw [hst]
  rw [hav] at hpre ⊢
  rw [List.reverse_cons, List.append_assoc]
  exact va_runV (As := avs.tail.map (bf_cv (bf_alc (xal X) ps))) (rest := st.map (bf_cv (xal X))) ⟨C.1, C.2.1, C.2.2.1, C.2.2.2.1, C.2.2.2.2.1⟩ (hM H.size) ⟨callB_of np C.2.2.2.2.1 (bf_goodIn hm.1) rfl rfl rfl (C.2.2.2.2.1 _ hm.1.2.1) (C.2.2.2.2.1 _ hlk) hm.1.2.2 hRR, C.2.2.2.2.1 _ hm.2.1, C.2.2.2.2.1 _ hm.2.2⟩ ⟨bf_blind _ _ _ _ _ _ _, va_recv C.2.2.2.2.2.1 hPc hcl (bf_cw_some hrw), hpre⟩ rfl (by rw [List.length_map]; exact hnp) hL.1 rfl (lv_room (by rw [bf_rest]; exact hroom)) hd.1 ⟨hR.2.2.1, hR.2.2.2⟩
theorem bs_callV_i {T : Type} {wf : T → bf_W} {S : T} {Qp : Int32 → T → Prop} (C : bf_C X own cc nL ret) (hR : bf_Rm X fr0 lo0) (hM : bf_M (xl X) y bytes maxL retc fr lo (xdC X) (xdI X) (xac X) (bf_alc (xal X) ps) avs (wf S) (bf_Ki (xdC X) (xdI X) (xac X) (bf_alc (xal X) ps) wf Qp)) (hm : bf_MV y bytes maxL retc np) (hlk : Cond.methodLink own index y ∈ lw_good) {rq ci : Nat} {fs : List Value} {Tc : u_T} {Nc : Nat} (hrc : avs = .ref rq :: avs.tail) (hcl : bf_cl[ci]? = some (y.cls, Tc, Nc)) (hrw : (wf S)[rq]? = some (.inr (ci, fs))) (hnp : avs.tail.length = np) (hfr : fr + 1 ≤ fr0) (hlo : 8 + (maxL + 11) + lo ≤ lo0) (hs : bf_Sub w ps (wf S)) (hnd : va_nd ps = true) (hroom : (st.map fun v => v.category).sum ≤ 8) (hd : bf_D cc pc (.invokevirtual index) 3 pc2) {st0 : List Value} (hst0 : (avs.map (bf_ren ps)).reverse ++ st = st0) (hwl : ∀ u, (wf u).length = ps.length) {w2 : T → bf_W} (hput : ∀ u, bf_put w ps ((wf u).map (bf_rne ps)) = w2 u) (kk : ∀ (r : Int32) (u : T), Qp r u → bf_A X Q nL pc2 lv (.int r :: st) (w2 u)) : bf_A X Q nL pc lv st0 w := by
  intro H locs ls hP hD hS hL
  subst hst0
  have hFc : ∀ q, bf_fr (xac X) (bf_alc (xal X) ps) (wf S) H.size q → xA X q := va_free hD hS C.2.2.2.2.2.2.2.2.2 ps hs.conc
  have hrun := bf_runV (locs := locs) (lv := lv) C hR hM hm hlk hrc hcl hrw hnp hfr hlo hs hnd hroom hd hP hD hL
  obtain ⟨hd1, hd2⟩ := hd
  subst hd2
  refine va_calli hrun hS (fun q _ h => hFc q h) hFc (fun r u t H1 locs1 ht hvm hw hB hz1 hk1 hS1 => ?_)
  obtain ⟨hP1, hK1, hD1⟩ := hB
  rw [ht] at hP1
  have hP2 := bf_back hP hD hs hnd (hwl u) hk1 hP1
  rw [hput] at hP2
  exact kk r u hw H1 locs1 ls hP2 (bf_D_len hD (by rw [← hput, bf_put_len])) hS1 hL
theorem bs_callV_l {T : Type} {wf : T → bf_W} {S : T} {Qp : Int64 → T → Prop} (C : bf_C X own cc nL ret) (hR : bf_Rm X fr0 lo0) (hM : bf_M (xl X) y bytes maxL retc fr lo (xdC X) (xdI X) (xac X) (bf_alc (xal X) ps) avs (wf S) (bf_Kl (xdC X) (xdI X) (xac X) (bf_alc (xal X) ps) wf Qp)) (hm : bf_MV y bytes maxL retc np) (hlk : Cond.methodLink own index y ∈ lw_good) {rq ci : Nat} {fs : List Value} {Tc : u_T} {Nc : Nat} (hrc : avs = .ref rq :: avs.tail) (hcl : bf_cl[ci]? = some (y.cls, Tc, Nc)) (hrw : (wf S)[rq]? = some (.inr (ci, fs))) (hnp : avs.tail.length = np) (hfr : fr + 1 ≤ fr0) (hlo : 8 + (maxL + 11) + lo ≤ lo0) (hs : bf_Sub w ps (wf S)) (hnd : va_nd ps = true) (hroom : (st.map fun v => v.category).sum ≤ 8) (hd : bf_D cc pc (.invokevirtual index) 3 pc2) {st0 : List Value} (hst0 : (avs.map (bf_ren ps)).reverse ++ st = st0) (hwl : ∀ u, (wf u).length = ps.length) {w2 : T → bf_W} (hput : ∀ u, bf_put w ps ((wf u).map (bf_rne ps)) = w2 u) (kk : ∀ (r : Int64) (u : T), Qp r u → bf_A X Q nL pc2 lv (.long r :: st) (w2 u)) : bf_A X Q nL pc lv st0 w := by
  intro H locs ls hP hD hS hL
  subst hst0
  have hFc : ∀ q, bf_fr (xac X) (bf_alc (xal X) ps) (wf S) H.size q → xA X q := va_free hD hS C.2.2.2.2.2.2.2.2.2 ps hs.conc
  have hrun := bf_runV (locs := locs) (lv := lv) C hR hM hm hlk hrc hcl hrw hnp hfr hlo hs hnd hroom hd hP hD hL
  obtain ⟨hd1, hd2⟩ := hd
  subst hd2
  refine va_calll hrun hS (fun q _ h => hFc q h) hFc (fun r u t H1 locs1 ht hvm hw hB hz1 hk1 hS1 => ?_)
  obtain ⟨hP1, hK1, hD1⟩ := hB
  rw [ht] at hP1
  have hP2 := bf_back hP hD hs hnd (hwl u) hk1 hP1
  rw [hput] at hP2
  exact kk r u hw H1 locs1 ls hP2 (bf_D_len hD (by rw [← hput, bf_put_len])) hS1 hL
theorem bs_callV_v {T : Type} {wf : T → bf_W} {S : T} {Qp : T → Prop} (C : bf_C X own cc nL ret) (hR : bf_Rm X fr0 lo0) (hM : bf_M (xl X) y bytes maxL retc fr lo (xdC X) (xdI X) (xac X) (bf_alc (xal X) ps) avs (wf S) (bf_Kv (xdC X) (xdI X) (xac X) (bf_alc (xal X) ps) wf Qp)) (hm : bf_MV y bytes maxL retc np) (hlk : Cond.methodLink own index y ∈ lw_good) {rq ci : Nat} {fs : List Value} {Tc : u_T} {Nc : Nat} (hrc : avs = .ref rq :: avs.tail) (hcl : bf_cl[ci]? = some (y.cls, Tc, Nc)) (hrw : (wf S)[rq]? = some (.inr (ci, fs))) (hnp : avs.tail.length = np) (hfr : fr + 1 ≤ fr0) (hlo : 8 + (maxL + 11) + lo ≤ lo0) (hs : bf_Sub w ps (wf S)) (hnd : va_nd ps = true) (hroom : (st.map fun v => v.category).sum ≤ 8) (hd : bf_D cc pc (.invokevirtual index) 3 pc2) {st0 : List Value} (hst0 : (avs.map (bf_ren ps)).reverse ++ st = st0) (hwl : ∀ u, (wf u).length = ps.length) {w2 : T → bf_W} (hput : ∀ u, bf_put w ps ((wf u).map (bf_rne ps)) = w2 u) (kk : ∀ (u : T), Qp u → bf_A X Q nL pc2 lv (st) (w2 u)) : bf_A X Q nL pc lv st0 w := by
  intro H locs ls hP hD hS hL
  subst hst0
  have hFc : ∀ q, bf_fr (xac X) (bf_alc (xal X) ps) (wf S) H.size q → xA X q := va_free hD hS C.2.2.2.2.2.2.2.2.2 ps hs.conc
  have hrun := bf_runV (locs := locs) (lv := lv) C hR hM hm hlk hrc hcl hrw hnp hfr hlo hs hnd hroom hd hP hD hL
  obtain ⟨hd1, hd2⟩ := hd
  subst hd2
  refine va_callv hrun hS (fun q _ h => hFc q h) hFc (fun u t H1 locs1 ht hvm hw hB hz1 hk1 hS1 => ?_)
  obtain ⟨hP1, hK1, hD1⟩ := hB
  rw [ht] at hP1
  have hP2 := bf_back hP hD hs hnd (hwl u) hk1 hP1
  rw [hput] at hP2
  exact kk u hw H1 locs1 ls hP2 (bf_D_len hD (by rw [← hput, bf_put_len])) hS1 hL
theorem bf_runVN (C : bf_C X own cc nL ret) (hR : bf_Rm X fr0 lo0) (hM : bf_M (xl X) y bytes maxL retc fr lo (xdC X) (xdI X) (xac X) (bf_alc (xal X) ps) avs wc Qc) (hm : bf_MV y bytes maxL retc np) {host : String} (hlk : Cond.methodLinkNest own index y host ∈ lw_tbl) {rq ci : Nat} {fs : List Value} {Tc : u_T} {Nc : Nat} (hrc : avs = .ref rq :: avs.tail) (hcl : bf_cl[ci]? = some (y.cls, Tc, Nc)) (hrw : wc[rq]? = some (.inr (ci, fs))) (hnp : avs.tail.length = np) (hfr : fr + 1 ≤ fr0) (hlo : 8 + (maxL + 11) + lo ≤ lo0) (hs : bf_Sub w ps wc) (hnd : va_nd ps = true) (hroom : (st.map fun v => v.category).sum ≤ 8) (hd : bf_D cc pc (.invokevirtual index) 3 pc2) {H : Heap} {locs : List Loc} {ls : Array Slot} (hP : va_P (xdC X, xdI X) bf_cl (bf_cw (xac X) (xal X) w) H) (hD : va_D (xA X) (bf_cw (xac X) (xal X) w)) (hL : bf_L (xal X) ls nL lv) :
    va_Run (xp X) (xl X) (xe X) (xR X) (xs X) (xm X) (xa X) (xb X) (xh X) (xc X) H locs (xk X) (xn X) 0 0 (F0 (xm X) pc ls ((((avs.map (bf_ren ps)).reverse) ++ st).map (bf_cv (xal X)))) (st.map (bf_cv (xal X))) (Qc (bf_fr (xac X) (bf_alc (xal X) ps) wc H.size) (avs.map (bf_cv (bf_alc (xal X) ps))).toArray) (bf_fr (xac X) (bf_alc (xal X) ps) wc H.size) := by
  have hRR : (bf_rm fr lo).frames + 1 ≤ (xR X).frames ∧ 8 + (maxL + 11) + (bf_rm fr lo).locals ≤ (xR X).locals := ⟨Nat.le_trans hfr hR.1, Nat.le_trans hlo hR.2.1⟩
  have hPc : va_P (xdC X, xdI X) bf_cl (bf_cw (xac X) (bf_alc (xal X) ps) wc) H := hP.sub ps (by
    have h := hs.conc (ac := xac X) (al := xal X)
    have h2 : ps.filterMap (fun i => (bf_cw (xac X) (xal X) w)[i]?) = (ps.map (fun i => (bf_cw (xac X) (xal X) w)[i]?)).filterMap id := by rw [List.filterMap_map]; rfl
    rw [h2, h, List.filterMap_map]
    simp [Function.comp_def])
  have hDc : va_D (xA X) (bf_cw (xac X) (bf_alc (xal X) ps) wc) := hD.sub ps hnd (hs.conc)
  have hst : ((avs.map (bf_ren ps)).reverse ++ st).map (bf_cv (xal X)) = (avs.map (bf_cv (bf_alc (xal X) ps))).reverse ++ st.map (bf_cv (xal X)) := by
    rw [List.map_append, List.map_reverse, List.map_map]
    congr 2
    apply List.map_congr_left
    intro v _
    exact bf_cv_ren (xal X) ps v
  have hpre : ∀ U : State, U.heap = H → (xs X).WarmedH U.vm → bf_Pre (xdC X) (xdI X) (xac X) (bf_alc (xal X) ps) H.size avs wc (avs.map (bf_cv (bf_alc (xal X) ps))).toArray U := fun U hU hW => ⟨rfl, by rw [hU], by rw [hU]; exact hPc, va_K.moved hW.alike C.2.2.2.2.2.1, hDc.weaken (fun _ _ _ _ => trivial), C.2.2.2.2.2.2.1.warm hW⟩
  have hav : avs.map (bf_cv (bf_alc (xal X) ps)) = Value.ref (bf_alc (xal X) ps rq) :: avs.tail.map (bf_cv (bf_alc (xal X) ps)) := by rw [hrc]; rfl
  rw [hst]
  rw [hav] at hpre ⊢
  rw [List.reverse_cons, List.append_assoc]
  exact va_runVN (As := avs.tail.map (bf_cv (bf_alc (xal X) ps))) (rest := st.map (bf_cv (xal X))) ⟨C.1, C.2.1, C.2.2.1, C.2.2.2.1, C.2.2.2.2.1⟩ (hM H.size) ⟨va_cnB np C.2.2.2.2.1 (bf_goodIn hm.1) rfl rfl rfl (C.2.2.2.2.2.2.1 _ hlk rfl) (C.2.2.2.2.1 _ hm.1.2.1) hm.1.2.2 hRR, C.2.2.2.2.1 _ hm.2.1, C.2.2.2.2.1 _ hm.2.2⟩ ⟨bf_blind _ _ _ _ _ _ _, va_recv C.2.2.2.2.2.1 hPc hcl (bf_cw_some hrw), hpre⟩ rfl (by rw [List.length_map]; exact hnp) hL.1 rfl (lv_room (by rw [bf_rest]; exact hroom)) hd.1 ⟨hR.2.2.1, hR.2.2.2⟩
theorem bs_callVN_i {T : Type} {wf : T → bf_W} {S : T} {Qp : Int32 → T → Prop} (C : bf_C X own cc nL ret) (hR : bf_Rm X fr0 lo0) (hM : bf_M (xl X) y bytes maxL retc fr lo (xdC X) (xdI X) (xac X) (bf_alc (xal X) ps) avs (wf S) (bf_Ki (xdC X) (xdI X) (xac X) (bf_alc (xal X) ps) wf Qp)) (hm : bf_MV y bytes maxL retc np) {host : String} (hlk : Cond.methodLinkNest own index y host ∈ lw_tbl) {rq ci : Nat} {fs : List Value} {Tc : u_T} {Nc : Nat} (hrc : avs = .ref rq :: avs.tail) (hcl : bf_cl[ci]? = some (y.cls, Tc, Nc)) (hrw : (wf S)[rq]? = some (.inr (ci, fs))) (hnp : avs.tail.length = np) (hfr : fr + 1 ≤ fr0) (hlo : 8 + (maxL + 11) + lo ≤ lo0) (hs : bf_Sub w ps (wf S)) (hnd : va_nd ps = true) (hroom : (st.map fun v => v.category).sum ≤ 8) (hd : bf_D cc pc (.invokevirtual index) 3 pc2) {st0 : List Value} (hst0 : (avs.map (bf_ren ps)).reverse ++ st = st0) (hwl : ∀ u, (wf u).length = ps.length) {w2 : T → bf_W} (hput : ∀ u, bf_put w ps ((wf u).map (bf_rne ps)) = w2 u) (kk : ∀ (r : Int32) (u : T), Qp r u → bf_A X Q nL pc2 lv (.int r :: st) (w2 u)) : bf_A X Q nL pc lv st0 w := by
  intro H locs ls hP hD hS hL
  subst hst0
  have hFc : ∀ q, bf_fr (xac X) (bf_alc (xal X) ps) (wf S) H.size q → xA X q := va_free hD hS C.2.2.2.2.2.2.2.2.2 ps hs.conc
  have hrun := bf_runVN (locs := locs) (lv := lv) C hR hM hm hlk hrc hcl hrw hnp hfr hlo hs hnd hroom hd hP hD hL
  obtain ⟨hd1, hd2⟩ := hd
  subst hd2
  refine va_calli hrun hS (fun q _ h => hFc q h) hFc (fun r u t H1 locs1 ht hvm hw hB hz1 hk1 hS1 => ?_)
  obtain ⟨hP1, hK1, hD1⟩ := hB
  rw [ht] at hP1
  have hP2 := bf_back hP hD hs hnd (hwl u) hk1 hP1
  rw [hput] at hP2
  exact kk r u hw H1 locs1 ls hP2 (bf_D_len hD (by rw [← hput, bf_put_len])) hS1 hL
theorem bs_callVN_l {T : Type} {wf : T → bf_W} {S : T} {Qp : Int64 → T → Prop} (C : bf_C X own cc nL ret) (hR : bf_Rm X fr0 lo0) (hM : bf_M (xl X) y bytes maxL retc fr lo (xdC X) (xdI X) (xac X) (bf_alc (xal X) ps) avs (wf S) (bf_Kl (xdC X) (xdI X) (xac X) (bf_alc (xal X) ps) wf Qp)) (hm : bf_MV y bytes maxL retc np) {host : String} (hlk : Cond.methodLinkNest own index y host ∈ lw_tbl) {rq ci : Nat} {fs : List Value} {Tc : u_T} {Nc : Nat} (hrc : avs = .ref rq :: avs.tail) (hcl : bf_cl[ci]? = some (y.cls, Tc, Nc)) (hrw : (wf S)[rq]? = some (.inr (ci, fs))) (hnp : avs.tail.length = np) (hfr : fr + 1 ≤ fr0) (hlo : 8 + (maxL + 11) + lo ≤ lo0) (hs : bf_Sub w ps (wf S)) (hnd : va_nd ps = true) (hroom : (st.map fun v => v.category).sum ≤ 8) (hd : bf_D cc pc (.invokevirtual index) 3 pc2) {st0 : List Value} (hst0 : (avs.map (bf_ren ps)).reverse ++ st = st0) (hwl : ∀ u, (wf u).length = ps.length) {w2 : T → bf_W} (hput : ∀ u, bf_put w ps ((wf u).map (bf_rne ps)) = w2 u) (kk : ∀ (r : Int64) (u : T), Qp r u → bf_A X Q nL pc2 lv (.long r :: st) (w2 u)) : bf_A X Q nL pc lv st0 w := by
  intro H locs ls hP hD hS hL
  subst hst0
  have hFc : ∀ q, bf_fr (xac X) (bf_alc (xal X) ps) (wf S) H.size q → xA X q := va_free hD hS C.2.2.2.2.2.2.2.2.2 ps hs.conc
  have hrun := bf_runVN (locs := locs) (lv := lv) C hR hM hm hlk hrc hcl hrw hnp hfr hlo hs hnd hroom hd hP hD hL
  obtain ⟨hd1, hd2⟩ := hd
  subst hd2
  refine va_calll hrun hS (fun q _ h => hFc q h) hFc (fun r u t H1 locs1 ht hvm hw hB hz1 hk1 hS1 => ?_)
  obtain ⟨hP1, hK1, hD1⟩ := hB
  rw [ht] at hP1
  have hP2 := bf_back hP hD hs hnd (hwl u) hk1 hP1
  rw [hput] at hP2
  exact kk r u hw H1 locs1 ls hP2 (bf_D_len hD (by rw [← hput, bf_put_len])) hS1 hL
theorem bs_callVN_v {T : Type} {wf : T → bf_W} {S : T} {Qp : T → Prop} (C : bf_C X own cc nL ret) (hR : bf_Rm X fr0 lo0) (hM : bf_M (xl X) y bytes maxL retc fr lo (xdC X) (xdI X) (xac X) (bf_alc (xal X) ps) avs (wf S) (bf_Kv (xdC X) (xdI X) (xac X) (bf_alc (xal X) ps) wf Qp)) (hm : bf_MV y bytes maxL retc np) {host : String} (hlk : Cond.methodLinkNest own index y host ∈ lw_tbl) {rq ci : Nat} {fs : List Value} {Tc : u_T} {Nc : Nat} (hrc : avs = .ref rq :: avs.tail) (hcl : bf_cl[ci]? = some (y.cls, Tc, Nc)) (hrw : (wf S)[rq]? = some (.inr (ci, fs))) (hnp : avs.tail.length = np) (hfr : fr + 1 ≤ fr0) (hlo : 8 + (maxL + 11) + lo ≤ lo0) (hs : bf_Sub w ps (wf S)) (hnd : va_nd ps = true) (hroom : (st.map fun v => v.category).sum ≤ 8) (hd : bf_D cc pc (.invokevirtual index) 3 pc2) {st0 : List Value} (hst0 : (avs.map (bf_ren ps)).reverse ++ st = st0) (hwl : ∀ u, (wf u).length = ps.length) {w2 : T → bf_W} (hput : ∀ u, bf_put w ps ((wf u).map (bf_rne ps)) = w2 u) (kk : ∀ (u : T), Qp u → bf_A X Q nL pc2 lv (st) (w2 u)) : bf_A X Q nL pc lv st0 w := by
  intro H locs ls hP hD hS hL
  subst hst0
  have hFc : ∀ q, bf_fr (xac X) (bf_alc (xal X) ps) (wf S) H.size q → xA X q := va_free hD hS C.2.2.2.2.2.2.2.2.2 ps hs.conc
  have hrun := bf_runVN (locs := locs) (lv := lv) C hR hM hm hlk hrc hcl hrw hnp hfr hlo hs hnd hroom hd hP hD hL
  obtain ⟨hd1, hd2⟩ := hd
  subst hd2
  refine va_callv hrun hS (fun q _ h => hFc q h) hFc (fun u t H1 locs1 ht hvm hw hB hz1 hk1 hS1 => ?_)
  obtain ⟨hP1, hK1, hD1⟩ := hB
  rw [ht] at hP1
  have hP2 := bf_back hP hD hs hnd (hwl u) hk1 hP1
  rw [hput] at hP2
  exact kk u hw H1 locs1 ls hP2 (bf_D_len hD (by rw [← hput, bf_put_len])) hS1 hL
theorem bf_runS (C : bf_C X own cc nL ret) (hR : bf_Rm X fr0 lo0) (hM : bf_M (xl X) y bytes maxL retc fr lo (xdC X) (xdI X) (xac X) (bf_alc (xal X) ps) avs wc Qc) (hm : bf_MS y bytes maxL retc np) (hlk : Cond.methodLink own index y ∈ lw_good) (hnp : avs.length = np) (hfr : fr + 1 ≤ fr0) (hlo : 8 + (maxL + 11) + lo ≤ lo0) (hs : bf_Sub w ps wc) (hnd : va_nd ps = true) (hroom : (st.map fun v => v.category).sum ≤ 8) (hd : bf_D cc pc (.invokestatic index) 3 pc2) {H : Heap} {locs : List Loc} {ls : Array Slot} (hP : va_P (xdC X, xdI X) bf_cl (bf_cw (xac X) (xal X) w) H) (hD : va_D (xA X) (bf_cw (xac X) (xal X) w)) (hL : bf_L (xal X) ls nL lv) :
    va_Run (xp X) (xl X) (xe X) (xR X) (xs X) (xm X) (xa X) (xb X) (xh X) (xc X) H locs (xk X) (xn X) 0 0 (F0 (xm X) pc ls ((((avs.map (bf_ren ps)).reverse) ++ st).map (bf_cv (xal X)))) (st.map (bf_cv (xal X))) (Qc (bf_fr (xac X) (bf_alc (xal X) ps) wc H.size) (avs.map (bf_cv (bf_alc (xal X) ps))).toArray) (bf_fr (xac X) (bf_alc (xal X) ps) wc H.size) := by
  have hRR : (bf_rm fr lo).frames + 1 ≤ (xR X).frames ∧ 8 + (maxL + 11) + (bf_rm fr lo).locals ≤ (xR X).locals := ⟨Nat.le_trans hfr hR.1, Nat.le_trans hlo hR.2.1⟩
  have hPc : va_P (xdC X, xdI X) bf_cl (bf_cw (xac X) (bf_alc (xal X) ps) wc) H := hP.sub ps (by
    have h := hs.conc (ac := xac X) (al := xal X)
    have h2 : ps.filterMap (fun i => (bf_cw (xac X) (xal X) w)[i]?) = (ps.map (fun i => (bf_cw (xac X) (xal X) w)[i]?)).filterMap id := by rw [List.filterMap_map]; rfl
    rw [h2, h, List.filterMap_map]
    simp [Function.comp_def])
  have hDc : va_D (xA X) (bf_cw (xac X) (bf_alc (xal X) ps) wc) := hD.sub ps hnd (hs.conc)
  have hst : ((avs.map (bf_ren ps)).reverse ++ st).map (bf_cv (xal X)) = (avs.map (bf_cv (bf_alc (xal X) ps))).reverse ++ st.map (bf_cv (xal X)) := by
    rw [List.map_append, List.map_reverse, List.map_map]
    congr 2
    apply List.map_congr_left
    intro v _
    exact bf_cv_ren (xal X) ps v
  have hpre : ∀ U : State, U.heap = H → (xs X).WarmedH U.vm → bf_Pre (xdC X) (xdI X) (xac X) (bf_alc (xal X) ps) H.size avs wc (avs.map (bf_cv (bf_alc (xal X) ps))).toArray U := fun U hU hW => ⟨rfl, by rw [hU], by rw [hU]; exact hPc, va_K.moved hW.alike C.2.2.2.2.2.1, hDc.weaken (fun _ _ _ _ => trivial), C.2.2.2.2.2.2.1.warm hW⟩
  rw [hst]
  exact va_runS (As := avs.map (bf_cv (bf_alc (xal X) ps))) (rest := st.map (bf_cv (xal X))) ⟨C.1, C.2.1, C.2.2.1, C.2.2.2.1, C.2.2.2.2.1⟩ (hM H.size) ⟨callB_of np C.2.2.2.2.1 (bf_goodIn hm.1) rfl rfl rfl (C.2.2.2.2.1 _ hm.1.2.1) (C.2.2.2.2.1 _ hlk) hm.1.2.2 hRR, C.2.2.2.2.1 _ hm.2⟩ ⟨bf_blind _ _ _ _ _ _ _, hpre⟩ rfl (by rw [List.length_map]; exact hnp) hL.1 rfl (lv_room (by rw [bf_rest]; exact hroom)) hd.1 ⟨hR.2.2.1, hR.2.2.2⟩
theorem bs_callS_i {T : Type} {wf : T → bf_W} {S : T} {Qp : Int32 → T → Prop} (C : bf_C X own cc nL ret) (hR : bf_Rm X fr0 lo0) (hM : bf_M (xl X) y bytes maxL retc fr lo (xdC X) (xdI X) (xac X) (bf_alc (xal X) ps) avs (wf S) (bf_Ki (xdC X) (xdI X) (xac X) (bf_alc (xal X) ps) wf Qp)) (hm : bf_MS y bytes maxL retc np) (hlk : Cond.methodLink own index y ∈ lw_good) (hnp : avs.length = np) (hfr : fr + 1 ≤ fr0) (hlo : 8 + (maxL + 11) + lo ≤ lo0) (hs : bf_Sub w ps (wf S)) (hnd : va_nd ps = true) (hroom : (st.map fun v => v.category).sum ≤ 8) (hd : bf_D cc pc (.invokestatic index) 3 pc2) {st0 : List Value} (hst0 : (avs.map (bf_ren ps)).reverse ++ st = st0) (hwl : ∀ u, (wf u).length = ps.length) {w2 : T → bf_W} (hput : ∀ u, bf_put w ps ((wf u).map (bf_rne ps)) = w2 u) (kk : ∀ (r : Int32) (u : T), Qp r u → bf_A X Q nL pc2 lv (.int r :: st) (w2 u)) : bf_A X Q nL pc lv st0 w := by
  intro H locs ls hP hD hS hL
  subst hst0
  have hFc : ∀ q, bf_fr (xac X) (bf_alc (xal X) ps) (wf S) H.size q → xA X q := va_free hD hS C.2.2.2.2.2.2.2.2.2 ps hs.conc
  have hrun := bf_runS (locs := locs) (lv := lv) C hR hM hm hlk hnp hfr hlo hs hnd hroom hd hP hD hL
  obtain ⟨hd1, hd2⟩ := hd
  subst hd2
  refine va_calli hrun hS (fun q _ h => hFc q h) hFc (fun r u t H1 locs1 ht hvm hw hB hz1 hk1 hS1 => ?_)
  obtain ⟨hP1, hK1, hD1⟩ := hB
  rw [ht] at hP1
  have hP2 := bf_back hP hD hs hnd (hwl u) hk1 hP1
  rw [hput] at hP2
  exact kk r u hw H1 locs1 ls hP2 (bf_D_len hD (by rw [← hput, bf_put_len])) hS1 hL
theorem bs_callS_l {T : Type} {wf : T → bf_W} {S : T} {Qp : Int64 → T → Prop} (C : bf_C X own cc nL ret) (hR : bf_Rm X fr0 lo0) (hM : bf_M (xl X) y bytes maxL retc fr lo (xdC X) (xdI X) (xac X) (bf_alc (xal X) ps) avs (wf S) (bf_Kl (xdC X) (xdI X) (xac X) (bf_alc (xal X) ps) wf Qp)) (hm : bf_MS y bytes maxL retc np) (hlk : Cond.methodLink own index y ∈ lw_good) (hnp : avs.length = np) (hfr : fr + 1 ≤ fr0) (hlo : 8 + (maxL + 11) + lo ≤ lo0) (hs : bf_Sub w ps (wf S)) (hnd : va_nd ps = true) (hroom : (st.map fun v => v.category).sum ≤ 8) (hd : bf_D cc pc (.invokestatic index) 3 pc2) {st0 : List Value} (hst0 : (avs.map (bf_ren ps)).reverse ++ st = st0) (hwl : ∀ u, (wf u).length = ps.length) {w2 : T → bf_W} (hput : ∀ u, bf_put w ps ((wf u).map (bf_rne ps)) = w2 u) (kk : ∀ (r : Int64) (u : T), Qp r u → bf_A X Q nL pc2 lv (.long r :: st) (w2 u)) : bf_A X Q nL pc lv st0 w := by
  intro H locs ls hP hD hS hL
  subst hst0
  have hFc : ∀ q, bf_fr (xac X) (bf_alc (xal X) ps) (wf S) H.size q → xA X q := va_free hD hS C.2.2.2.2.2.2.2.2.2 ps hs.conc
  have hrun := bf_runS (locs := locs) (lv := lv) C hR hM hm hlk hnp hfr hlo hs hnd hroom hd hP hD hL
  obtain ⟨hd1, hd2⟩ := hd
  subst hd2
  refine va_calll hrun hS (fun q _ h => hFc q h) hFc (fun r u t H1 locs1 ht hvm hw hB hz1 hk1 hS1 => ?_)
  obtain ⟨hP1, hK1, hD1⟩ := hB
  rw [ht] at hP1
  have hP2 := bf_back hP hD hs hnd (hwl u) hk1 hP1
  rw [hput] at hP2
  exact kk r u hw H1 locs1 ls hP2 (bf_D_len hD (by rw [← hput, bf_put_len])) hS1 hL
theorem bs_callS_v {T : Type} {wf : T → bf_W} {S : T} {Qp : T → Prop} (C : bf_C X own cc nL ret) (hR : bf_Rm X fr0 lo0) (hM : bf_M (xl X) y bytes maxL retc fr lo (xdC X) (xdI X) (xac X) (bf_alc (xal X) ps) avs (wf S) (bf_Kv (xdC X) (xdI X) (xac X) (bf_alc (xal X) ps) wf Qp)) (hm : bf_MS y bytes maxL retc np) (hlk : Cond.methodLink own index y ∈ lw_good) (hnp : avs.length = np) (hfr : fr + 1 ≤ fr0) (hlo : 8 + (maxL + 11) + lo ≤ lo0) (hs : bf_Sub w ps (wf S)) (hnd : va_nd ps = true) (hroom : (st.map fun v => v.category).sum ≤ 8) (hd : bf_D cc pc (.invokestatic index) 3 pc2) {st0 : List Value} (hst0 : (avs.map (bf_ren ps)).reverse ++ st = st0) (hwl : ∀ u, (wf u).length = ps.length) {w2 : T → bf_W} (hput : ∀ u, bf_put w ps ((wf u).map (bf_rne ps)) = w2 u) (kk : ∀ (u : T), Qp u → bf_A X Q nL pc2 lv (st) (w2 u)) : bf_A X Q nL pc lv st0 w := by
  intro H locs ls hP hD hS hL
  subst hst0
  have hFc : ∀ q, bf_fr (xac X) (bf_alc (xal X) ps) (wf S) H.size q → xA X q := va_free hD hS C.2.2.2.2.2.2.2.2.2 ps hs.conc
  have hrun := bf_runS (locs := locs) (lv := lv) C hR hM hm hlk hnp hfr hlo hs hnd hroom hd hP hD hL
  obtain ⟨hd1, hd2⟩ := hd
  subst hd2
  refine va_callv hrun hS (fun q _ h => hFc q h) hFc (fun u t H1 locs1 ht hvm hw hB hz1 hk1 hS1 => ?_)
  obtain ⟨hP1, hK1, hD1⟩ := hB
  rw [ht] at hP1
  have hP2 := bf_back hP hD hs hnd (hwl u) hk1 hP1
  rw [hput] at hP2
  exact kk u hw H1 locs1 ls hP2 (bf_D_len hD (by rw [← hput, bf_put_len])) hS1 hL
theorem bf_runSN (C : bf_C X own cc nL ret) (hR : bf_Rm X fr0 lo0) (hM : bf_M (xl X) y bytes maxL retc fr lo (xdC X) (xdI X) (xac X) (bf_alc (xal X) ps) avs wc Qc) (hm : bf_MS y bytes maxL retc np) {host : String} (hlk : Cond.methodLinkNest own index y host ∈ lw_tbl) (hnp : avs.length = np) (hfr : fr + 1 ≤ fr0) (hlo : 8 + (maxL + 11) + lo ≤ lo0) (hs : bf_Sub w ps wc) (hnd : va_nd ps = true) (hroom : (st.map fun v => v.category).sum ≤ 8) (hd : bf_D cc pc (.invokestatic index) 3 pc2) {H : Heap} {locs : List Loc} {ls : Array Slot} (hP : va_P (xdC X, xdI X) bf_cl (bf_cw (xac X) (xal X) w) H) (hD : va_D (xA X) (bf_cw (xac X) (xal X) w)) (hL : bf_L (xal X) ls nL lv) :
    va_Run (xp X) (xl X) (xe X) (xR X) (xs X) (xm X) (xa X) (xb X) (xh X) (xc X) H locs (xk X) (xn X) 0 0 (F0 (xm X) pc ls ((((avs.map (bf_ren ps)).reverse) ++ st).map (bf_cv (xal X)))) (st.map (bf_cv (xal X))) (Qc (bf_fr (xac X) (bf_alc (xal X) ps) wc H.size) (avs.map (bf_cv (bf_alc (xal X) ps))).toArray) (bf_fr (xac X) (bf_alc (xal X) ps) wc H.size) := by
  have hRR : (bf_rm fr lo).frames + 1 ≤ (xR X).frames ∧ 8 + (maxL + 11) + (bf_rm fr lo).locals ≤ (xR X).locals := ⟨Nat.le_trans hfr hR.1, Nat.le_trans hlo hR.2.1⟩
  have hPc : va_P (xdC X, xdI X) bf_cl (bf_cw (xac X) (bf_alc (xal X) ps) wc) H := hP.sub ps (by
    have h := hs.conc (ac := xac X) (al := xal X)
    have h2 : ps.filterMap (fun i => (bf_cw (xac X) (xal X) w)[i]?) = (ps.map (fun i => (bf_cw (xac X) (xal X) w)[i]?)).filterMap id := by rw [List.filterMap_map]; rfl
    rw [h2, h, List.filterMap_map]
    simp [Function.comp_def])
  have hDc : va_D (xA X) (bf_cw (xac X) (bf_alc (xal X) ps) wc) := hD.sub ps hnd (hs.conc)
  have hst : ((avs.map (bf_ren ps)).reverse ++ st).map (bf_cv (xal X)) = (avs.map (bf_cv (bf_alc (xal X) ps))).reverse ++ st.map (bf_cv (xal X)) := by
    rw [List.map_append, List.map_reverse, List.map_map]
    congr 2
    apply List.map_congr_left
    intro v _
    exact bf_cv_ren (xal X) ps v
  have hpre : ∀ U : State, U.heap = H → (xs X).WarmedH U.vm → bf_Pre (xdC X) (xdI X) (xac X) (bf_alc (xal X) ps) H.size avs wc (avs.map (bf_cv (bf_alc (xal X) ps))).toArray U := fun U hU hW => ⟨rfl, by rw [hU], by rw [hU]; exact hPc, va_K.moved hW.alike C.2.2.2.2.2.1, hDc.weaken (fun _ _ _ _ => trivial), C.2.2.2.2.2.2.1.warm hW⟩
  rw [hst]
  exact va_runSN (As := avs.map (bf_cv (bf_alc (xal X) ps))) (rest := st.map (bf_cv (xal X))) ⟨C.1, C.2.1, C.2.2.1, C.2.2.2.1, C.2.2.2.2.1⟩ (hM H.size) ⟨va_cnB np C.2.2.2.2.1 (bf_goodIn hm.1) rfl rfl rfl (C.2.2.2.2.2.2.1 _ hlk rfl) (C.2.2.2.2.1 _ hm.1.2.1) hm.1.2.2 hRR, C.2.2.2.2.1 _ hm.2, trivial⟩ ⟨bf_blind _ _ _ _ _ _ _, hpre⟩ rfl (by rw [List.length_map]; exact hnp) hL.1 rfl (lv_room (by rw [bf_rest]; exact hroom)) hd.1 ⟨hR.2.2.1, hR.2.2.2⟩
theorem bs_callSN_i {T : Type} {wf : T → bf_W} {S : T} {Qp : Int32 → T → Prop} (C : bf_C X own cc nL ret) (hR : bf_Rm X fr0 lo0) (hM : bf_M (xl X) y bytes maxL retc fr lo (xdC X) (xdI X) (xac X) (bf_alc (xal X) ps) avs (wf S) (bf_Ki (xdC X) (xdI X) (xac X) (bf_alc (xal X) ps) wf Qp)) (hm : bf_MS y bytes maxL retc np) {host : String} (hlk : Cond.methodLinkNest own index y host ∈ lw_tbl) (hnp : avs.length = np) (hfr : fr + 1 ≤ fr0) (hlo : 8 + (maxL + 11) + lo ≤ lo0) (hs : bf_Sub w ps (wf S)) (hnd : va_nd ps = true) (hroom : (st.map fun v => v.category).sum ≤ 8) (hd : bf_D cc pc (.invokestatic index) 3 pc2) {st0 : List Value} (hst0 : (avs.map (bf_ren ps)).reverse ++ st = st0) (hwl : ∀ u, (wf u).length = ps.length) {w2 : T → bf_W} (hput : ∀ u, bf_put w ps ((wf u).map (bf_rne ps)) = w2 u) (kk : ∀ (r : Int32) (u : T), Qp r u → bf_A X Q nL pc2 lv (.int r :: st) (w2 u)) : bf_A X Q nL pc lv st0 w := by
  intro H locs ls hP hD hS hL
  subst hst0
  have hFc : ∀ q, bf_fr (xac X) (bf_alc (xal X) ps) (wf S) H.size q → xA X q := va_free hD hS C.2.2.2.2.2.2.2.2.2 ps hs.conc
  have hrun := bf_runSN (locs := locs) (lv := lv) C hR hM hm hlk hnp hfr hlo hs hnd hroom hd hP hD hL
  obtain ⟨hd1, hd2⟩ := hd
  subst hd2
  refine va_calli hrun hS (fun q _ h => hFc q h) hFc (fun r u t H1 locs1 ht hvm hw hB hz1 hk1 hS1 => ?_)
  obtain ⟨hP1, hK1, hD1⟩ := hB
  rw [ht] at hP1
  have hP2 := bf_back hP hD hs hnd (hwl u) hk1 hP1
  rw [hput] at hP2
  exact kk r u hw H1 locs1 ls hP2 (bf_D_len hD (by rw [← hput, bf_put_len])) hS1 hL
theorem bs_callSN_l {T : Type} {wf : T → bf_W} {S : T} {Qp : Int64 → T → Prop} (C : bf_C X own cc nL ret) (hR : bf_Rm X fr0 lo0) (hM : bf_M (xl X) y bytes maxL retc fr lo (xdC X) (xdI X) (xac X) (bf_alc (xal X) ps) avs (wf S) (bf_Kl (xdC X) (xdI X) (xac X) (bf_alc (xal X) ps) wf Qp)) (hm : bf_MS y bytes maxL retc np) {host : String} (hlk : Cond.methodLinkNest own index y host ∈ lw_tbl) (hnp : avs.length = np) (hfr : fr + 1 ≤ fr0) (hlo : 8 + (maxL + 11) + lo ≤ lo0) (hs : bf_Sub w ps (wf S)) (hnd : va_nd ps = true) (hroom : (st.map fun v => v.category).sum ≤ 8) (hd : bf_D cc pc (.invokestatic index) 3 pc2) {st0 : List Value} (hst0 : (avs.map (bf_ren ps)).reverse ++ st = st0) (hwl : ∀ u, (wf u).length = ps.length) {w2 : T → bf_W} (hput : ∀ u, bf_put w ps ((wf u).map (bf_rne ps)) = w2 u) (kk : ∀ (r : Int64) (u : T), Qp r u → bf_A X Q nL pc2 lv (.long r :: st) (w2 u)) : bf_A X Q nL pc lv st0 w := by
  intro H locs ls hP hD hS hL
  subst hst0
  have hFc : ∀ q, bf_fr (xac X) (bf_alc (xal X) ps) (wf S) H.size q → xA X q := va_free hD hS C.2.2.2.2.2.2.2.2.2 ps hs.conc
  have hrun := bf_runSN (locs := locs) (lv := lv) C hR hM hm hlk hnp hfr hlo hs hnd hroom hd hP hD hL
  obtain ⟨hd1, hd2⟩ := hd
  subst hd2
  refine va_calll hrun hS (fun q _ h => hFc q h) hFc (fun r u t H1 locs1 ht hvm hw hB hz1 hk1 hS1 => ?_)
  obtain ⟨hP1, hK1, hD1⟩ := hB
  rw [ht] at hP1
  have hP2 := bf_back hP hD hs hnd (hwl u) hk1 hP1
  rw [hput] at hP2
  exact kk r u hw H1 locs1 ls hP2 (bf_D_len hD (by rw [← hput, bf_put_len])) hS1 hL
theorem bs_callSN_v {T : Type} {wf : T → bf_W} {S : T} {Qp : T → Prop} (C : bf_C X own cc nL ret) (hR : bf_Rm X fr0 lo0) (hM : bf_M (xl X) y bytes maxL retc fr lo (xdC X) (xdI X) (xac X) (bf_alc (xal X) ps) avs (wf S) (bf_Kv (xdC X) (xdI X) (xac X) (bf_alc (xal X) ps) wf Qp)) (hm : bf_MS y bytes maxL retc np) {host : String} (hlk : Cond.methodLinkNest own index y host ∈ lw_tbl) (hnp : avs.length = np) (hfr : fr + 1 ≤ fr0) (hlo : 8 + (maxL + 11) + lo ≤ lo0) (hs : bf_Sub w ps (wf S)) (hnd : va_nd ps = true) (hroom : (st.map fun v => v.category).sum ≤ 8) (hd : bf_D cc pc (.invokestatic index) 3 pc2) {st0 : List Value} (hst0 : (avs.map (bf_ren ps)).reverse ++ st = st0) (hwl : ∀ u, (wf u).length = ps.length) {w2 : T → bf_W} (hput : ∀ u, bf_put w ps ((wf u).map (bf_rne ps)) = w2 u) (kk : ∀ (u : T), Qp u → bf_A X Q nL pc2 lv (st) (w2 u)) : bf_A X Q nL pc lv st0 w := by
  intro H locs ls hP hD hS hL
  subst hst0
  have hFc : ∀ q, bf_fr (xac X) (bf_alc (xal X) ps) (wf S) H.size q → xA X q := va_free hD hS C.2.2.2.2.2.2.2.2.2 ps hs.conc
  have hrun := bf_runSN (locs := locs) (lv := lv) C hR hM hm hlk hnp hfr hlo hs hnd hroom hd hP hD hL
  obtain ⟨hd1, hd2⟩ := hd
  subst hd2
  refine va_callv hrun hS (fun q _ h => hFc q h) hFc (fun u t H1 locs1 ht hvm hw hB hz1 hk1 hS1 => ?_)
  obtain ⟨hP1, hK1, hD1⟩ := hB
  rw [ht] at hP1
  have hP2 := bf_back hP hD hs hnd (hwl u) hk1 hP1
  rw [hput] at hP2
  exact kk u hw H1 locs1 ls hP2 (bf_D_len hD (by rw [← hput, bf_put_len])) hS1 hL
theorem bs_pureV_i {T : Type} {wf : T → bf_W} {S : T} {Qp : Int32 → Prop} (C : bf_C X own cc nL ret) (hR : bf_Rm X fr0 lo0) (hM : bf_M (xl X) y bytes maxL retc fr lo (xdC X) (xdI X) (xac X) (bf_alc (xal X) ps) avs (wf S) (bf_Ki (xdC X) (xdI X) (xac X) (bf_alc (xal X) ps) wf (fun r u => u = S ∧ Qp r))) (hm : bf_MV y bytes maxL retc np) (hlk : Cond.methodLink own index y ∈ lw_good) {rq ci : Nat} {fs : List Value} {Tc : u_T} {Nc : Nat} (hrc : avs = .ref rq :: avs.tail) (hcl : bf_cl[ci]? = some (y.cls, Tc, Nc)) (hrw : (wf S)[rq]? = some (.inr (ci, fs))) (hnp : avs.tail.length = np) (hfr : fr + 1 ≤ fr0) (hlo : 8 + (maxL + 11) + lo ≤ lo0) (hs : bf_Sub w ps (wf S)) (hnd : va_nd ps = true) (hroom : (st.map fun v => v.category).sum ≤ 8) (hd : bf_D cc pc (.invokevirtual index) 3 pc2) {st0 : List Value} (hst0 : (avs.map (bf_ren ps)).reverse ++ st = st0) (hwl : ∀ u, (wf u).length = ps.length) (kk : ∀ (r : Int32), Qp r → bf_A X Q nL pc2 lv (.int r :: st) w) : bf_A X Q nL pc lv st0 w := by
  refine bs_callV_i (w2 := fun u => bf_put w ps ((wf u).map (bf_rne ps))) C hR hM hm hlk hrc hcl hrw hnp hfr hlo hs hnd hroom hd hst0 hwl (fun _ => rfl) (fun r u hq => ?_)
  obtain ⟨rfl, hq⟩ := hq
  rw [bf_put_self hs]
  exact kk r hq
theorem bs_pureV_l {T : Type} {wf : T → bf_W} {S : T} {Qp : Int64 → Prop} (C : bf_C X own cc nL ret) (hR : bf_Rm X fr0 lo0) (hM : bf_M (xl X) y bytes maxL retc fr lo (xdC X) (xdI X) (xac X) (bf_alc (xal X) ps) avs (wf S) (bf_Kl (xdC X) (xdI X) (xac X) (bf_alc (xal X) ps) wf (fun r u => u = S ∧ Qp r))) (hm : bf_MV y bytes maxL retc np) (hlk : Cond.methodLink own index y ∈ lw_good) {rq ci : Nat} {fs : List Value} {Tc : u_T} {Nc : Nat} (hrc : avs = .ref rq :: avs.tail) (hcl : bf_cl[ci]? = some (y.cls, Tc, Nc)) (hrw : (wf S)[rq]? = some (.inr (ci, fs))) (hnp : avs.tail.length = np) (hfr : fr + 1 ≤ fr0) (hlo : 8 + (maxL + 11) + lo ≤ lo0) (hs : bf_Sub w ps (wf S)) (hnd : va_nd ps = true) (hroom : (st.map fun v => v.category).sum ≤ 8) (hd : bf_D cc pc (.invokevirtual index) 3 pc2) {st0 : List Value} (hst0 : (avs.map (bf_ren ps)).reverse ++ st = st0) (hwl : ∀ u, (wf u).length = ps.length) (kk : ∀ (r : Int64), Qp r → bf_A X Q nL pc2 lv (.long r :: st) w) : bf_A X Q nL pc lv st0 w := by
  refine bs_callV_l (w2 := fun u => bf_put w ps ((wf u).map (bf_rne ps))) C hR hM hm hlk hrc hcl hrw hnp hfr hlo hs hnd hroom hd hst0 hwl (fun _ => rfl) (fun r u hq => ?_)
  obtain ⟨rfl, hq⟩ := hq
  rw [bf_put_self hs]
  exact kk r hq
theorem bs_pureVN_i {T : Type} {wf : T → bf_W} {S : T} {Qp : Int32 → Prop} (C : bf_C X own cc nL ret) (hR : bf_Rm X fr0 lo0) (hM : bf_M (xl X) y bytes maxL retc fr lo (xdC X) (xdI X) (xac X) (bf_alc (xal X) ps) avs (wf S) (bf_Ki (xdC X) (xdI X) (xac X) (bf_alc (xal X) ps) wf (fun r u => u = S ∧ Qp r))) (hm : bf_MV y bytes maxL retc np) {host : String} (hlk : Cond.methodLinkNest own index y host ∈ lw_tbl) {rq ci : Nat} {fs : List Value} {Tc : u_T} {Nc : Nat} (hrc : avs = .ref rq :: avs.tail) (hcl : bf_cl[ci]? = some (y.cls, Tc, Nc)) (hrw : (wf S)[rq]? = some (.inr (ci, fs))) (hnp : avs.tail.length = np) (hfr : fr + 1 ≤ fr0) (hlo : 8 + (maxL + 11) + lo ≤ lo0) (hs : bf_Sub w ps (wf S)) (hnd : va_nd ps = true) (hroom : (st.map fun v => v.category).sum ≤ 8) (hd : bf_D cc pc (.invokevirtual index) 3 pc2) {st0 : List Value} (hst0 : (avs.map (bf_ren ps)).reverse ++ st = st0) (hwl : ∀ u, (wf u).length = ps.length) (kk : ∀ (r : Int32), Qp r → bf_A X Q nL pc2 lv (.int r :: st) w) : bf_A X Q nL pc lv st0 w := by
  refine bs_callVN_i (w2 := fun u => bf_put w ps ((wf u).map (bf_rne ps))) C hR hM hm hlk hrc hcl hrw hnp hfr hlo hs hnd hroom hd hst0 hwl (fun _ => rfl) (fun r u hq => ?_)
  obtain ⟨rfl, hq⟩ := hq
  rw [bf_put_self hs]
  exact kk r hq
theorem bs_pureVN_l {T : Type} {wf : T → bf_W} {S : T} {Qp : Int64 → Prop} (C : bf_C X own cc nL ret) (hR : bf_Rm X fr0 lo0) (hM : bf_M (xl X) y bytes maxL retc fr lo (xdC X) (xdI X) (xac X) (bf_alc (xal X) ps) avs (wf S) (bf_Kl (xdC X) (xdI X) (xac X) (bf_alc (xal X) ps) wf (fun r u => u = S ∧ Qp r))) (hm : bf_MV y bytes maxL retc np) {host : String} (hlk : Cond.methodLinkNest own index y host ∈ lw_tbl) {rq ci : Nat} {fs : List Value} {Tc : u_T} {Nc : Nat} (hrc : avs = .ref rq :: avs.tail) (hcl : bf_cl[ci]? = some (y.cls, Tc, Nc)) (hrw : (wf S)[rq]? = some (.inr (ci, fs))) (hnp : avs.tail.length = np) (hfr : fr + 1 ≤ fr0) (hlo : 8 + (maxL + 11) + lo ≤ lo0) (hs : bf_Sub w ps (wf S)) (hnd : va_nd ps = true) (hroom : (st.map fun v => v.category).sum ≤ 8) (hd : bf_D cc pc (.invokevirtual index) 3 pc2) {st0 : List Value} (hst0 : (avs.map (bf_ren ps)).reverse ++ st = st0) (hwl : ∀ u, (wf u).length = ps.length) (kk : ∀ (r : Int64), Qp r → bf_A X Q nL pc2 lv (.long r :: st) w) : bf_A X Q nL pc lv st0 w := by
  refine bs_callVN_l (w2 := fun u => bf_put w ps ((wf u).map (bf_rne ps))) C hR hM hm hlk hrc hcl hrw hnp hfr hlo hs hnd hroom hd hst0 hwl (fun _ => rfl) (fun r u hq => ?_)
  obtain ⟨rfl, hq⟩ := hq
  rw [bf_put_self hs]
  exact kk r hq
theorem bs_pureS_i {T : Type} {wf : T → bf_W} {S : T} {Qp : Int32 → Prop} (C : bf_C X own cc nL ret) (hR : bf_Rm X fr0 lo0) (hM : bf_M (xl X) y bytes maxL retc fr lo (xdC X) (xdI X) (xac X) (bf_alc (xal X) ps) avs (wf S) (bf_Ki (xdC X) (xdI X) (xac X) (bf_alc (xal X) ps) wf (fun r u => u = S ∧ Qp r))) (hm : bf_MS y bytes maxL retc np) (hlk : Cond.methodLink own index y ∈ lw_good) (hnp : avs.length = np) (hfr : fr + 1 ≤ fr0) (hlo : 8 + (maxL + 11) + lo ≤ lo0) (hs : bf_Sub w ps (wf S)) (hnd : va_nd ps = true) (hroom : (st.map fun v => v.category).sum ≤ 8) (hd : bf_D cc pc (.invokestatic index) 3 pc2) {st0 : List Value} (hst0 : (avs.map (bf_ren ps)).reverse ++ st = st0) (hwl : ∀ u, (wf u).length = ps.length) (kk : ∀ (r : Int32), Qp r → bf_A X Q nL pc2 lv (.int r :: st) w) : bf_A X Q nL pc lv st0 w := by
  refine bs_callS_i (w2 := fun u => bf_put w ps ((wf u).map (bf_rne ps))) C hR hM hm hlk hnp hfr hlo hs hnd hroom hd hst0 hwl (fun _ => rfl) (fun r u hq => ?_)
  obtain ⟨rfl, hq⟩ := hq
  rw [bf_put_self hs]
  exact kk r hq
theorem bs_pureS_l {T : Type} {wf : T → bf_W} {S : T} {Qp : Int64 → Prop} (C : bf_C X own cc nL ret) (hR : bf_Rm X fr0 lo0) (hM : bf_M (xl X) y bytes maxL retc fr lo (xdC X) (xdI X) (xac X) (bf_alc (xal X) ps) avs (wf S) (bf_Kl (xdC X) (xdI X) (xac X) (bf_alc (xal X) ps) wf (fun r u => u = S ∧ Qp r))) (hm : bf_MS y bytes maxL retc np) (hlk : Cond.methodLink own index y ∈ lw_good) (hnp : avs.length = np) (hfr : fr + 1 ≤ fr0) (hlo : 8 + (maxL + 11) + lo ≤ lo0) (hs : bf_Sub w ps (wf S)) (hnd : va_nd ps = true) (hroom : (st.map fun v => v.category).sum ≤ 8) (hd : bf_D cc pc (.invokestatic index) 3 pc2) {st0 : List Value} (hst0 : (avs.map (bf_ren ps)).reverse ++ st = st0) (hwl : ∀ u, (wf u).length = ps.length) (kk : ∀ (r : Int64), Qp r → bf_A X Q nL pc2 lv (.long r :: st) w) : bf_A X Q nL pc lv st0 w := by
  refine bs_callS_l (w2 := fun u => bf_put w ps ((wf u).map (bf_rne ps))) C hR hM hm hlk hnp hfr hlo hs hnd hroom hd hst0 hwl (fun _ => rfl) (fun r u hq => ?_)
  obtain ⟨rfl, hq⟩ := hq
  rw [bf_put_self hs]
  exact kk r hq
theorem bs_pureSN_i {T : Type} {wf : T → bf_W} {S : T} {Qp : Int32 → Prop} (C : bf_C X own cc nL ret) (hR : bf_Rm X fr0 lo0) (hM : bf_M (xl X) y bytes maxL retc fr lo (xdC X) (xdI X) (xac X) (bf_alc (xal X) ps) avs (wf S) (bf_Ki (xdC X) (xdI X) (xac X) (bf_alc (xal X) ps) wf (fun r u => u = S ∧ Qp r))) (hm : bf_MS y bytes maxL retc np) {host : String} (hlk : Cond.methodLinkNest own index y host ∈ lw_tbl) (hnp : avs.length = np) (hfr : fr + 1 ≤ fr0) (hlo : 8 + (maxL + 11) + lo ≤ lo0) (hs : bf_Sub w ps (wf S)) (hnd : va_nd ps = true) (hroom : (st.map fun v => v.category).sum ≤ 8) (hd : bf_D cc pc (.invokestatic index) 3 pc2) {st0 : List Value} (hst0 : (avs.map (bf_ren ps)).reverse ++ st = st0) (hwl : ∀ u, (wf u).length = ps.length) (kk : ∀ (r : Int32), Qp r → bf_A X Q nL pc2 lv (.int r :: st) w) : bf_A X Q nL pc lv st0 w := by
  refine bs_callSN_i (w2 := fun u => bf_put w ps ((wf u).map (bf_rne ps))) C hR hM hm hlk hnp hfr hlo hs hnd hroom hd hst0 hwl (fun _ => rfl) (fun r u hq => ?_)
  obtain ⟨rfl, hq⟩ := hq
  rw [bf_put_self hs]
  exact kk r hq
theorem bs_pureSN_l {T : Type} {wf : T → bf_W} {S : T} {Qp : Int64 → Prop} (C : bf_C X own cc nL ret) (hR : bf_Rm X fr0 lo0) (hM : bf_M (xl X) y bytes maxL retc fr lo (xdC X) (xdI X) (xac X) (bf_alc (xal X) ps) avs (wf S) (bf_Kl (xdC X) (xdI X) (xac X) (bf_alc (xal X) ps) wf (fun r u => u = S ∧ Qp r))) (hm : bf_MS y bytes maxL retc np) {host : String} (hlk : Cond.methodLinkNest own index y host ∈ lw_tbl) (hnp : avs.length = np) (hfr : fr + 1 ≤ fr0) (hlo : 8 + (maxL + 11) + lo ≤ lo0) (hs : bf_Sub w ps (wf S)) (hnd : va_nd ps = true) (hroom : (st.map fun v => v.category).sum ≤ 8) (hd : bf_D cc pc (.invokestatic index) 3 pc2) {st0 : List Value} (hst0 : (avs.map (bf_ren ps)).reverse ++ st = st0) (hwl : ∀ u, (wf u).length = ps.length) (kk : ∀ (r : Int64), Qp r → bf_A X Q nL pc2 lv (.long r :: st) w) : bf_A X Q nL pc lv st0 w := by
  refine bs_callSN_l (w2 := fun u => bf_put w ps ((wf u).map (bf_rne ps))) C hR hM hm hlk hnp hfr hlo hs hnd hroom hd hst0 hwl (fun _ => rfl) (fun r u hq => ?_)
  obtain ⟨rfl, hq⟩ := hq
  rw [bf_put_self hs]
  exact kk r hq
theorem bs_selfV_i {T : Type} {wf : T → bf_W} {S : T} {Qp : Int32 → T → Prop} (C : bf_C X own cc nL ret) (hR : bf_Rm X fr0 lo0) (hM : bf_M (xl X) y bytes maxL retc fr lo (xdC X) (xdI X) (xac X) (xal X) avs (wf S) (bf_Ki (xdC X) (xdI X) (xac X) (xal X) wf Qp)) (hm : bf_MV y bytes maxL retc np) (hlk : Cond.methodLink own index y ∈ lw_good) {rq ci : Nat} {fs : List Value} {Tc : u_T} {Nc : Nat} (hrc : avs = .ref rq :: avs.tail) (hcl : bf_cl[ci]? = some (y.cls, Tc, Nc)) (hrw : (wf S)[rq]? = some (.inr (ci, fs))) (hnp : avs.tail.length = np) (hfr : fr + 1 ≤ fr0) (hlo : 8 + (maxL + 11) + lo ≤ lo0) (hroom : (st.map fun v => v.category).sum ≤ 8) (hd : bf_D cc pc (.invokevirtual index) 3 pc2) {st0 : List Value} (hst0 : avs.reverse ++ st = st0) {len : Nat} (hwl : ∀ u, (wf u).length = len) (kk : ∀ (r : Int32) (u : T), Qp r u → bf_A X Q nL pc2 lv (.int r :: st) (wf u)) : bf_A X Q nL pc lv st0 (wf S) := by
  intro H locs ls hP hD hS hL
  subst hst0
  have hRR : (bf_rm fr lo).frames + 1 ≤ (xR X).frames ∧ 8 + (maxL + 11) + (bf_rm fr lo).locals ≤ (xR X).locals := ⟨Nat.le_trans hfr hR.1, Nat.le_trans hlo hR.2.1⟩
  have hpre : ∀ U : State, U.heap = H → (xs X).WarmedH U.vm → bf_Pre (xdC X) (xdI X) (xac X) (xal X) H.size avs (wf S) (avs.map (bf_cv (xal X))).toArray U := fun U hU hW => ⟨rfl, by rw [hU], by rw [hU]; exact hP, va_K.moved hW.alike C.2.2.2.2.2.1, hD.weaken (fun _ _ _ _ => trivial), C.2.2.2.2.2.2.1.warm hW⟩
  have hFc : ∀ q, bf_fr (xac X) (xal X) (wf S) H.size q → xA X q := by
    intro q hq
    rcases hq with ⟨k, e, hk⟩ | hq
    · exact hD.2 k (q, e) hk
    · exact C.2.2.2.2.2.2.2.2.2 q (Nat.le_trans hS.1 hq)
  have hav : avs.map (bf_cv (xal X)) = Value.ref (xal X rq) :: avs.tail.map (bf_cv (xal X)) := by rw [hrc]; rfl
  have hrun : va_Run (xp X) (xl X) (xe X) (xR X) (xs X) (xm X) (xa X) (xb X) (xh X) (xc X) H locs (xk X) (xn X) 0 0 (F0 (xm X) pc ls ((avs.reverse ++ st).map (bf_cv (xal X)))) (st.map (bf_cv (xal X))) (bf_Ki (xdC X) (xdI X) (xac X) (xal X) wf Qp (bf_fr (xac X) (xal X) (wf S) H.size) (avs.map (bf_cv (xal X))).toArray) (bf_fr (xac X) (xal X) (wf S) H.size) := by
    rw [List.map_append, List.map_reverse]
    rw [hav] at hpre ⊢
    rw [List.reverse_cons, List.append_assoc]
    exact va_runV (As := avs.tail.map (bf_cv (xal X))) (rest := st.map (bf_cv (xal X))) ⟨C.1, C.2.1, C.2.2.1, C.2.2.2.1, C.2.2.2.2.1⟩ (hM H.size) ⟨callB_of np C.2.2.2.2.1 (bf_goodIn hm.1) rfl rfl rfl (C.2.2.2.2.1 _ hm.1.2.1) (C.2.2.2.2.1 _ hlk) hm.1.2.2 hRR, C.2.2.2.2.1 _ hm.2.1, C.2.2.2.2.1 _ hm.2.2⟩ ⟨bf_blind _ _ _ _ _ _ _, va_recv C.2.2.2.2.2.1 hP hcl (bf_cw_some hrw), hpre⟩ rfl (by rw [List.length_map]; exact hnp) hL.1 rfl (lv_room (by rw [bf_rest]; exact hroom)) hd.1 ⟨hR.2.2.1, hR.2.2.2⟩
  obtain ⟨hd1, hd2⟩ := hd
  subst hd2
  refine va_calli hrun hS (fun q _ h => hFc q h) hFc (fun r u t H1 locs1 ht hvm hw hB hz1 hk1 hS1 => ?_)
  obtain ⟨hP1, hK1, hD1⟩ := hB
  rw [ht] at hP1
  exact kk r u hw H1 locs1 ls hP1 (bf_D_len hD ((hwl u).trans (hwl S).symm)) hS1 hL
theorem bs_selfPV_i {T : Type} {wf : T → bf_W} {S : T} {Qp : Int32 → Prop} (C : bf_C X own cc nL ret) (hR : bf_Rm X fr0 lo0) (hM : bf_M (xl X) y bytes maxL retc fr lo (xdC X) (xdI X) (xac X) (xal X) avs (wf S) (bf_Ki (xdC X) (xdI X) (xac X) (xal X) wf (fun r u => u = S ∧ Qp r))) (hm : bf_MV y bytes maxL retc np) (hlk : Cond.methodLink own index y ∈ lw_good) {rq ci : Nat} {fs : List Value} {Tc : u_T} {Nc : Nat} (hrc : avs = .ref rq :: avs.tail) (hcl : bf_cl[ci]? = some (y.cls, Tc, Nc)) (hrw : (wf S)[rq]? = some (.inr (ci, fs))) (hnp : avs.tail.length = np) (hfr : fr + 1 ≤ fr0) (hlo : 8 + (maxL + 11) + lo ≤ lo0) (hroom : (st.map fun v => v.category).sum ≤ 8) (hd : bf_D cc pc (.invokevirtual index) 3 pc2) {st0 : List Value} (hst0 : avs.reverse ++ st = st0) (kk : ∀ (r : Int32), Qp r → bf_A X Q nL pc2 lv (.int r :: st) (wf S)) : bf_A X Q nL pc lv st0 (wf S) := by
  intro H locs ls hP hD hS hL
  subst hst0
  have hRR : (bf_rm fr lo).frames + 1 ≤ (xR X).frames ∧ 8 + (maxL + 11) + (bf_rm fr lo).locals ≤ (xR X).locals := ⟨Nat.le_trans hfr hR.1, Nat.le_trans hlo hR.2.1⟩
  have hpre : ∀ U : State, U.heap = H → (xs X).WarmedH U.vm → bf_Pre (xdC X) (xdI X) (xac X) (xal X) H.size avs (wf S) (avs.map (bf_cv (xal X))).toArray U := fun U hU hW => ⟨rfl, by rw [hU], by rw [hU]; exact hP, va_K.moved hW.alike C.2.2.2.2.2.1, hD.weaken (fun _ _ _ _ => trivial), C.2.2.2.2.2.2.1.warm hW⟩
  have hFc : ∀ q, bf_fr (xac X) (xal X) (wf S) H.size q → xA X q := by
    intro q hq
    rcases hq with ⟨k, e, hk⟩ | hq
    · exact hD.2 k (q, e) hk
    · exact C.2.2.2.2.2.2.2.2.2 q (Nat.le_trans hS.1 hq)
  have hav : avs.map (bf_cv (xal X)) = Value.ref (xal X rq) :: avs.tail.map (bf_cv (xal X)) := by rw [hrc]; rfl
  have hrun : va_Run (xp X) (xl X) (xe X) (xR X) (xs X) (xm X) (xa X) (xb X) (xh X) (xc X) H locs (xk X) (xn X) 0 0 (F0 (xm X) pc ls ((avs.reverse ++ st).map (bf_cv (xal X)))) (st.map (bf_cv (xal X))) (bf_Ki (xdC X) (xdI X) (xac X) (xal X) wf (fun r u => u = S ∧ Qp r) (bf_fr (xac X) (xal X) (wf S) H.size) (avs.map (bf_cv (xal X))).toArray) (bf_fr (xac X) (xal X) (wf S) H.size) := by
    rw [List.map_append, List.map_reverse]
    rw [hav] at hpre ⊢
    rw [List.reverse_cons, List.append_assoc]
    exact va_runV (As := avs.tail.map (bf_cv (xal X))) (rest := st.map (bf_cv (xal X))) ⟨C.1, C.2.1, C.2.2.1, C.2.2.2.1, C.2.2.2.2.1⟩ (hM H.size) ⟨callB_of np C.2.2.2.2.1 (bf_goodIn hm.1) rfl rfl rfl (C.2.2.2.2.1 _ hm.1.2.1) (C.2.2.2.2.1 _ hlk) hm.1.2.2 hRR, C.2.2.2.2.1 _ hm.2.1, C.2.2.2.2.1 _ hm.2.2⟩ ⟨bf_blind _ _ _ _ _ _ _, va_recv C.2.2.2.2.2.1 hP hcl (bf_cw_some hrw), hpre⟩ rfl (by rw [List.length_map]; exact hnp) hL.1 rfl (lv_room (by rw [bf_rest]; exact hroom)) hd.1 ⟨hR.2.2.1, hR.2.2.2⟩
  obtain ⟨hd1, hd2⟩ := hd
  subst hd2
  refine va_calli hrun hS (fun q _ h => hFc q h) hFc (fun r u t H1 locs1 ht hvm hw hB hz1 hk1 hS1 => ?_)
  obtain ⟨hP1, hK1, hD1⟩ := hB
  rw [ht] at hP1
  obtain ⟨rfl, hw⟩ := hw
  exact kk r hw H1 locs1 ls hP1 hD hS1 hL
theorem bs_selfV_l {T : Type} {wf : T → bf_W} {S : T} {Qp : Int64 → T → Prop} (C : bf_C X own cc nL ret) (hR : bf_Rm X fr0 lo0) (hM : bf_M (xl X) y bytes maxL retc fr lo (xdC X) (xdI X) (xac X) (xal X) avs (wf S) (bf_Kl (xdC X) (xdI X) (xac X) (xal X) wf Qp)) (hm : bf_MV y bytes maxL retc np) (hlk : Cond.methodLink own index y ∈ lw_good) {rq ci : Nat} {fs : List Value} {Tc : u_T} {Nc : Nat} (hrc : avs = .ref rq :: avs.tail) (hcl : bf_cl[ci]? = some (y.cls, Tc, Nc)) (hrw : (wf S)[rq]? = some (.inr (ci, fs))) (hnp : avs.tail.length = np) (hfr : fr + 1 ≤ fr0) (hlo : 8 + (maxL + 11) + lo ≤ lo0) (hroom : (st.map fun v => v.category).sum ≤ 8) (hd : bf_D cc pc (.invokevirtual index) 3 pc2) {st0 : List Value} (hst0 : avs.reverse ++ st = st0) {len : Nat} (hwl : ∀ u, (wf u).length = len) (kk : ∀ (r : Int64) (u : T), Qp r u → bf_A X Q nL pc2 lv (.long r :: st) (wf u)) : bf_A X Q nL pc lv st0 (wf S) := by
  intro H locs ls hP hD hS hL
  subst hst0
  have hRR : (bf_rm fr lo).frames + 1 ≤ (xR X).frames ∧ 8 + (maxL + 11) + (bf_rm fr lo).locals ≤ (xR X).locals := ⟨Nat.le_trans hfr hR.1, Nat.le_trans hlo hR.2.1⟩
  have hpre : ∀ U : State, U.heap = H → (xs X).WarmedH U.vm → bf_Pre (xdC X) (xdI X) (xac X) (xal X) H.size avs (wf S) (avs.map (bf_cv (xal X))).toArray U := fun U hU hW => ⟨rfl, by rw [hU], by rw [hU]; exact hP, va_K.moved hW.alike C.2.2.2.2.2.1, hD.weaken (fun _ _ _ _ => trivial), C.2.2.2.2.2.2.1.warm hW⟩
  have hFc : ∀ q, bf_fr (xac X) (xal X) (wf S) H.size q → xA X q := by
    intro q hq
    rcases hq with ⟨k, e, hk⟩ | hq
    · exact hD.2 k (q, e) hk
    · exact C.2.2.2.2.2.2.2.2.2 q (Nat.le_trans hS.1 hq)
  have hav : avs.map (bf_cv (xal X)) = Value.ref (xal X rq) :: avs.tail.map (bf_cv (xal X)) := by rw [hrc]; rfl
  have hrun : va_Run (xp X) (xl X) (xe X) (xR X) (xs X) (xm X) (xa X) (xb X) (xh X) (xc X) H locs (xk X) (xn X) 0 0 (F0 (xm X) pc ls ((avs.reverse ++ st).map (bf_cv (xal X)))) (st.map (bf_cv (xal X))) (bf_Kl (xdC X) (xdI X) (xac X) (xal X) wf Qp (bf_fr (xac X) (xal X) (wf S) H.size) (avs.map (bf_cv (xal X))).toArray) (bf_fr (xac X) (xal X) (wf S) H.size) := by
    rw [List.map_append, List.map_reverse]
    rw [hav] at hpre ⊢
    rw [List.reverse_cons, List.append_assoc]
    exact va_runV (As := avs.tail.map (bf_cv (xal X))) (rest := st.map (bf_cv (xal X))) ⟨C.1, C.2.1, C.2.2.1, C.2.2.2.1, C.2.2.2.2.1⟩ (hM H.size) ⟨callB_of np C.2.2.2.2.1 (bf_goodIn hm.1) rfl rfl rfl (C.2.2.2.2.1 _ hm.1.2.1) (C.2.2.2.2.1 _ hlk) hm.1.2.2 hRR, C.2.2.2.2.1 _ hm.2.1, C.2.2.2.2.1 _ hm.2.2⟩ ⟨bf_blind _ _ _ _ _ _ _, va_recv C.2.2.2.2.2.1 hP hcl (bf_cw_some hrw), hpre⟩ rfl (by rw [List.length_map]; exact hnp) hL.1 rfl (lv_room (by rw [bf_rest]; exact hroom)) hd.1 ⟨hR.2.2.1, hR.2.2.2⟩
  obtain ⟨hd1, hd2⟩ := hd
  subst hd2
  refine va_calll hrun hS (fun q _ h => hFc q h) hFc (fun r u t H1 locs1 ht hvm hw hB hz1 hk1 hS1 => ?_)
  obtain ⟨hP1, hK1, hD1⟩ := hB
  rw [ht] at hP1
  exact kk r u hw H1 locs1 ls hP1 (bf_D_len hD ((hwl u).trans (hwl S).symm)) hS1 hL
theorem bs_selfPV_l {T : Type} {wf : T → bf_W} {S : T} {Qp : Int64 → Prop} (C : bf_C X own cc nL ret) (hR : bf_Rm X fr0 lo0) (hM : bf_M (xl X) y bytes maxL retc fr lo (xdC X) (xdI X) (xac X) (xal X) avs (wf S) (bf_Kl (xdC X) (xdI X) (xac X) (xal X) wf (fun r u => u = S ∧ Qp r))) (hm : bf_MV y bytes maxL retc np) (hlk : Cond.methodLink own index y ∈ lw_good) {rq ci : Nat} {fs : List Value} {Tc : u_T} {Nc : Nat} (hrc : avs = .ref rq :: avs.tail) (hcl : bf_cl[ci]? = some (y.cls, Tc, Nc)) (hrw : (wf S)[rq]? = some (.inr (ci, fs))) (hnp : avs.tail.length = np) (hfr : fr + 1 ≤ fr0) (hlo : 8 + (maxL + 11) + lo ≤ lo0) (hroom : (st.map fun v => v.category).sum ≤ 8) (hd : bf_D cc pc (.invokevirtual index) 3 pc2) {st0 : List Value} (hst0 : avs.reverse ++ st = st0) (kk : ∀ (r : Int64), Qp r → bf_A X Q nL pc2 lv (.long r :: st) (wf S)) : bf_A X Q nL pc lv st0 (wf S) := by
  intro H locs ls hP hD hS hL
  subst hst0
  have hRR : (bf_rm fr lo).frames + 1 ≤ (xR X).frames ∧ 8 + (maxL + 11) + (bf_rm fr lo).locals ≤ (xR X).locals := ⟨Nat.le_trans hfr hR.1, Nat.le_trans hlo hR.2.1⟩
  have hpre : ∀ U : State, U.heap = H → (xs X).WarmedH U.vm → bf_Pre (xdC X) (xdI X) (xac X) (xal X) H.size avs (wf S) (avs.map (bf_cv (xal X))).toArray U := fun U hU hW => ⟨rfl, by rw [hU], by rw [hU]; exact hP, va_K.moved hW.alike C.2.2.2.2.2.1, hD.weaken (fun _ _ _ _ => trivial), C.2.2.2.2.2.2.1.warm hW⟩
  have hFc : ∀ q, bf_fr (xac X) (xal X) (wf S) H.size q → xA X q := by
    intro q hq
    rcases hq with ⟨k, e, hk⟩ | hq
    · exact hD.2 k (q, e) hk
    · exact C.2.2.2.2.2.2.2.2.2 q (Nat.le_trans hS.1 hq)
  have hav : avs.map (bf_cv (xal X)) = Value.ref (xal X rq) :: avs.tail.map (bf_cv (xal X)) := by rw [hrc]; rfl
  have hrun : va_Run (xp X) (xl X) (xe X) (xR X) (xs X) (xm X) (xa X) (xb X) (xh X) (xc X) H locs (xk X) (xn X) 0 0 (F0 (xm X) pc ls ((avs.reverse ++ st).map (bf_cv (xal X)))) (st.map (bf_cv (xal X))) (bf_Kl (xdC X) (xdI X) (xac X) (xal X) wf (fun r u => u = S ∧ Qp r) (bf_fr (xac X) (xal X) (wf S) H.size) (avs.map (bf_cv (xal X))).toArray) (bf_fr (xac X) (xal X) (wf S) H.size) := by
    rw [List.map_append, List.map_reverse]
    rw [hav] at hpre ⊢
    rw [List.reverse_cons, List.append_assoc]
    exact va_runV (As := avs.tail.map (bf_cv (xal X))) (rest := st.map (bf_cv (xal X))) ⟨C.1, C.2.1, C.2.2.1, C.2.2.2.1, C.2.2.2.2.1⟩ (hM H.size) ⟨callB_of np C.2.2.2.2.1 (bf_goodIn hm.1) rfl rfl rfl (C.2.2.2.2.1 _ hm.1.2.1) (C.2.2.2.2.1 _ hlk) hm.1.2.2 hRR, C.2.2.2.2.1 _ hm.2.1, C.2.2.2.2.1 _ hm.2.2⟩ ⟨bf_blind _ _ _ _ _ _ _, va_recv C.2.2.2.2.2.1 hP hcl (bf_cw_some hrw), hpre⟩ rfl (by rw [List.length_map]; exact hnp) hL.1 rfl (lv_room (by rw [bf_rest]; exact hroom)) hd.1 ⟨hR.2.2.1, hR.2.2.2⟩
  obtain ⟨hd1, hd2⟩ := hd
  subst hd2
  refine va_calll hrun hS (fun q _ h => hFc q h) hFc (fun r u t H1 locs1 ht hvm hw hB hz1 hk1 hS1 => ?_)
  obtain ⟨hP1, hK1, hD1⟩ := hB
  rw [ht] at hP1
  obtain ⟨rfl, hw⟩ := hw
  exact kk r hw H1 locs1 ls hP1 hD hS1 hL
theorem bs_selfV_v {T : Type} {wf : T → bf_W} {S : T} {Qp : T → Prop} (C : bf_C X own cc nL ret) (hR : bf_Rm X fr0 lo0) (hM : bf_M (xl X) y bytes maxL retc fr lo (xdC X) (xdI X) (xac X) (xal X) avs (wf S) (bf_Kv (xdC X) (xdI X) (xac X) (xal X) wf Qp)) (hm : bf_MV y bytes maxL retc np) (hlk : Cond.methodLink own index y ∈ lw_good) {rq ci : Nat} {fs : List Value} {Tc : u_T} {Nc : Nat} (hrc : avs = .ref rq :: avs.tail) (hcl : bf_cl[ci]? = some (y.cls, Tc, Nc)) (hrw : (wf S)[rq]? = some (.inr (ci, fs))) (hnp : avs.tail.length = np) (hfr : fr + 1 ≤ fr0) (hlo : 8 + (maxL + 11) + lo ≤ lo0) (hroom : (st.map fun v => v.category).sum ≤ 8) (hd : bf_D cc pc (.invokevirtual index) 3 pc2) {st0 : List Value} (hst0 : avs.reverse ++ st = st0) {len : Nat} (hwl : ∀ u, (wf u).length = len) (kk : ∀ (u : T), Qp u → bf_A X Q nL pc2 lv (st) (wf u)) : bf_A X Q nL pc lv st0 (wf S) := by
  intro H locs ls hP hD hS hL
  subst hst0
  have hRR : (bf_rm fr lo).frames + 1 ≤ (xR X).frames ∧ 8 + (maxL + 11) + (bf_rm fr lo).locals ≤ (xR X).locals := ⟨Nat.le_trans hfr hR.1, Nat.le_trans hlo hR.2.1⟩
  have hpre : ∀ U : State, U.heap = H → (xs X).WarmedH U.vm → bf_Pre (xdC X) (xdI X) (xac X) (xal X) H.size avs (wf S) (avs.map (bf_cv (xal X))).toArray U := fun U hU hW => ⟨rfl, by rw [hU], by rw [hU]; exact hP, va_K.moved hW.alike C.2.2.2.2.2.1, hD.weaken (fun _ _ _ _ => trivial), C.2.2.2.2.2.2.1.warm hW⟩
  have hFc : ∀ q, bf_fr (xac X) (xal X) (wf S) H.size q → xA X q := by
    intro q hq
    rcases hq with ⟨k, e, hk⟩ | hq
    · exact hD.2 k (q, e) hk
    · exact C.2.2.2.2.2.2.2.2.2 q (Nat.le_trans hS.1 hq)
  have hav : avs.map (bf_cv (xal X)) = Value.ref (xal X rq) :: avs.tail.map (bf_cv (xal X)) := by rw [hrc]; rfl
  have hrun : va_Run (xp X) (xl X) (xe X) (xR X) (xs X) (xm X) (xa X) (xb X) (xh X) (xc X) H locs (xk X) (xn X) 0 0 (F0 (xm X) pc ls ((avs.reverse ++ st).map (bf_cv (xal X)))) (st.map (bf_cv (xal X))) (bf_Kv (xdC X) (xdI X) (xac X) (xal X) wf Qp (bf_fr (xac X) (xal X) (wf S) H.size) (avs.map (bf_cv (xal X))).toArray) (bf_fr (xac X) (xal X) (wf S) H.size) := by
    rw [List.map_append, List.map_reverse]
    rw [hav] at hpre ⊢
    rw [List.reverse_cons, List.append_assoc]
    exact va_runV (As := avs.tail.map (bf_cv (xal X))) (rest := st.map (bf_cv (xal X))) ⟨C.1, C.2.1, C.2.2.1, C.2.2.2.1, C.2.2.2.2.1⟩ (hM H.size) ⟨callB_of np C.2.2.2.2.1 (bf_goodIn hm.1) rfl rfl rfl (C.2.2.2.2.1 _ hm.1.2.1) (C.2.2.2.2.1 _ hlk) hm.1.2.2 hRR, C.2.2.2.2.1 _ hm.2.1, C.2.2.2.2.1 _ hm.2.2⟩ ⟨bf_blind _ _ _ _ _ _ _, va_recv C.2.2.2.2.2.1 hP hcl (bf_cw_some hrw), hpre⟩ rfl (by rw [List.length_map]; exact hnp) hL.1 rfl (lv_room (by rw [bf_rest]; exact hroom)) hd.1 ⟨hR.2.2.1, hR.2.2.2⟩
  obtain ⟨hd1, hd2⟩ := hd
  subst hd2
  refine va_callv hrun hS (fun q _ h => hFc q h) hFc (fun u t H1 locs1 ht hvm hw hB hz1 hk1 hS1 => ?_)
  obtain ⟨hP1, hK1, hD1⟩ := hB
  rw [ht] at hP1
  exact kk u hw H1 locs1 ls hP1 (bf_D_len hD ((hwl u).trans (hwl S).symm)) hS1 hL
theorem bs_selfVN_i {T : Type} {wf : T → bf_W} {S : T} {Qp : Int32 → T → Prop} (C : bf_C X own cc nL ret) (hR : bf_Rm X fr0 lo0) (hM : bf_M (xl X) y bytes maxL retc fr lo (xdC X) (xdI X) (xac X) (xal X) avs (wf S) (bf_Ki (xdC X) (xdI X) (xac X) (xal X) wf Qp)) (hm : bf_MV y bytes maxL retc np) {host : String} (hlk : Cond.methodLinkNest own index y host ∈ lw_tbl) {rq ci : Nat} {fs : List Value} {Tc : u_T} {Nc : Nat} (hrc : avs = .ref rq :: avs.tail) (hcl : bf_cl[ci]? = some (y.cls, Tc, Nc)) (hrw : (wf S)[rq]? = some (.inr (ci, fs))) (hnp : avs.tail.length = np) (hfr : fr + 1 ≤ fr0) (hlo : 8 + (maxL + 11) + lo ≤ lo0) (hroom : (st.map fun v => v.category).sum ≤ 8) (hd : bf_D cc pc (.invokevirtual index) 3 pc2) {st0 : List Value} (hst0 : avs.reverse ++ st = st0) {len : Nat} (hwl : ∀ u, (wf u).length = len) (kk : ∀ (r : Int32) (u : T), Qp r u → bf_A X Q nL pc2 lv (.int r :: st) (wf u)) : bf_A X Q nL pc lv st0 (wf S) := by
  intro H locs ls hP hD hS hL
  subst hst0
  have hRR : (bf_rm fr lo).frames + 1 ≤ (xR X).frames ∧ 8 + (maxL + 11) + (bf_rm fr lo).locals ≤ (xR X).locals := ⟨Nat.le_trans hfr hR.1, Nat.le_trans hlo hR.2.1⟩
  have hpre : ∀ U : State, U.heap = H → (xs X).WarmedH U.vm → bf_Pre (xdC X) (xdI X) (xac X) (xal X) H.size avs (wf S) (avs.map (bf_cv (xal X))).toArray U := fun U hU hW => ⟨rfl, by rw [hU], by rw [hU]; exact hP, va_K.moved hW.alike C.2.2.2.2.2.1, hD.weaken (fun _ _ _ _ => trivial), C.2.2.2.2.2.2.1.warm hW⟩
  have hFc : ∀ q, bf_fr (xac X) (xal X) (wf S) H.size q → xA X q := by
    intro q hq
    rcases hq with ⟨k, e, hk⟩ | hq
    · exact hD.2 k (q, e) hk
    · exact C.2.2.2.2.2.2.2.2.2 q (Nat.le_trans hS.1 hq)
  have hav : avs.map (bf_cv (xal X)) = Value.ref (xal X rq) :: avs.tail.map (bf_cv (xal X)) := by rw [hrc]; rfl
  have hrun : va_Run (xp X) (xl X) (xe X) (xR X) (xs X) (xm X) (xa X) (xb X) (xh X) (xc X) H locs (xk X) (xn X) 0 0 (F0 (xm X) pc ls ((avs.reverse ++ st).map (bf_cv (xal X)))) (st.map (bf_cv (xal X))) (bf_Ki (xdC X) (xdI X) (xac X) (xal X) wf Qp (bf_fr (xac X) (xal X) (wf S) H.size) (avs.map (bf_cv (xal X))).toArray) (bf_fr (xac X) (xal X) (wf S) H.size) := by
    rw [List.map_append, List.map_reverse]
    rw [hav] at hpre ⊢
    rw [List.reverse_cons, List.append_assoc]
    exact va_runVN (As := avs.tail.map (bf_cv (xal X))) (rest := st.map (bf_cv (xal X))) ⟨C.1, C.2.1, C.2.2.1, C.2.2.2.1, C.2.2.2.2.1⟩ (hM H.size) ⟨va_cnB np C.2.2.2.2.1 (bf_goodIn hm.1) rfl rfl rfl (C.2.2.2.2.2.2.1 _ hlk rfl) (C.2.2.2.2.1 _ hm.1.2.1) hm.1.2.2 hRR, C.2.2.2.2.1 _ hm.2.1, C.2.2.2.2.1 _ hm.2.2⟩ ⟨bf_blind _ _ _ _ _ _ _, va_recv C.2.2.2.2.2.1 hP hcl (bf_cw_some hrw), hpre⟩ rfl (by rw [List.length_map]; exact hnp) hL.1 rfl (lv_room (by rw [bf_rest]; exact hroom)) hd.1 ⟨hR.2.2.1, hR.2.2.2⟩
  obtain ⟨hd1, hd2⟩ := hd
  subst hd2
  refine va_calli hrun hS (fun q _ h => hFc q h) hFc (fun r u t H1 locs1 ht hvm hw hB hz1 hk1 hS1 => ?_)
  obtain ⟨hP1, hK1, hD1⟩ := hB
  rw [ht] at hP1
  exact kk r u hw H1 locs1 ls hP1 (bf_D_len hD ((hwl u).trans (hwl S).symm)) hS1 hL
theorem bs_selfPVN_i {T : Type} {wf : T → bf_W} {S : T} {Qp : Int32 → Prop} (C : bf_C X own cc nL ret) (hR : bf_Rm X fr0 lo0) (hM : bf_M (xl X) y bytes maxL retc fr lo (xdC X) (xdI X) (xac X) (xal X) avs (wf S) (bf_Ki (xdC X) (xdI X) (xac X) (xal X) wf (fun r u => u = S ∧ Qp r))) (hm : bf_MV y bytes maxL retc np) {host : String} (hlk : Cond.methodLinkNest own index y host ∈ lw_tbl) {rq ci : Nat} {fs : List Value} {Tc : u_T} {Nc : Nat} (hrc : avs = .ref rq :: avs.tail) (hcl : bf_cl[ci]? = some (y.cls, Tc, Nc)) (hrw : (wf S)[rq]? = some (.inr (ci, fs))) (hnp : avs.tail.length = np) (hfr : fr + 1 ≤ fr0) (hlo : 8 + (maxL + 11) + lo ≤ lo0) (hroom : (st.map fun v => v.category).sum ≤ 8) (hd : bf_D cc pc (.invokevirtual index) 3 pc2) {st0 : List Value} (hst0 : avs.reverse ++ st = st0) (kk : ∀ (r : Int32), Qp r → bf_A X Q nL pc2 lv (.int r :: st) (wf S)) : bf_A X Q nL pc lv st0 (wf S) := by
  intro H locs ls hP hD hS hL
  subst hst0
  have hRR : (bf_rm fr lo).frames + 1 ≤ (xR X).frames ∧ 8 + (maxL + 11) + (bf_rm fr lo).locals ≤ (xR X).locals := ⟨Nat.le_trans hfr hR.1, Nat.le_trans hlo hR.2.1⟩
  have hpre : ∀ U : State, U.heap = H → (xs X).WarmedH U.vm → bf_Pre (xdC X) (xdI X) (xac X) (xal X) H.size avs (wf S) (avs.map (bf_cv (xal X))).toArray U := fun U hU hW => ⟨rfl, by rw [hU], by rw [hU]; exact hP, va_K.moved hW.alike C.2.2.2.2.2.1, hD.weaken (fun _ _ _ _ => trivial), C.2.2.2.2.2.2.1.warm hW⟩
  have hFc : ∀ q, bf_fr (xac X) (xal X) (wf S) H.size q → xA X q := by
    intro q hq
    rcases hq with ⟨k, e, hk⟩ | hq
    · exact hD.2 k (q, e) hk
    · exact C.2.2.2.2.2.2.2.2.2 q (Nat.le_trans hS.1 hq)
  have hav : avs.map (bf_cv (xal X)) = Value.ref (xal X rq) :: avs.tail.map (bf_cv (xal X)) := by rw [hrc]; rfl
  have hrun : va_Run (xp X) (xl X) (xe X) (xR X) (xs X) (xm X) (xa X) (xb X) (xh X) (xc X) H locs (xk X) (xn X) 0 0 (F0 (xm X) pc ls ((avs.reverse ++ st).map (bf_cv (xal X)))) (st.map (bf_cv (xal X))) (bf_Ki (xdC X) (xdI X) (xac X) (xal X) wf (fun r u => u = S ∧ Qp r) (bf_fr (xac X) (xal X) (wf S) H.size) (avs.map (bf_cv (xal X))).toArray) (bf_fr (xac X) (xal X) (wf S) H.size) := by
    rw [List.map_append, List.map_reverse]
    rw [hav] at hpre ⊢
    rw [List.reverse_cons, List.append_assoc]
    exact va_runVN (As := avs.tail.map (bf_cv (xal X))) (rest := st.map (bf_cv (xal X))) ⟨C.1, C.2.1, C.2.2.1, C.2.2.2.1, C.2.2.2.2.1⟩ (hM H.size) ⟨va_cnB np C.2.2.2.2.1 (bf_goodIn hm.1) rfl rfl rfl (C.2.2.2.2.2.2.1 _ hlk rfl) (C.2.2.2.2.1 _ hm.1.2.1) hm.1.2.2 hRR, C.2.2.2.2.1 _ hm.2.1, C.2.2.2.2.1 _ hm.2.2⟩ ⟨bf_blind _ _ _ _ _ _ _, va_recv C.2.2.2.2.2.1 hP hcl (bf_cw_some hrw), hpre⟩ rfl (by rw [List.length_map]; exact hnp) hL.1 rfl (lv_room (by rw [bf_rest]; exact hroom)) hd.1 ⟨hR.2.2.1, hR.2.2.2⟩
  obtain ⟨hd1, hd2⟩ := hd
  subst hd2
  refine va_calli hrun hS (fun q _ h => hFc q h) hFc (fun r u t H1 locs1 ht hvm hw hB hz1 hk1 hS1 => ?_)
  obtain ⟨hP1, hK1, hD1⟩ := hB
  rw [ht] at hP1
  obtain ⟨rfl, hw⟩ := hw
  exact kk r hw H1 locs1 ls hP1 hD hS1 hL
theorem bs_selfVN_l {T : Type} {wf : T → bf_W} {S : T} {Qp : Int64 → T → Prop} (C : bf_C X own cc nL ret) (hR : bf_Rm X fr0 lo0) (hM : bf_M (xl X) y bytes maxL retc fr lo (xdC X) (xdI X) (xac X) (xal X) avs (wf S) (bf_Kl (xdC X) (xdI X) (xac X) (xal X) wf Qp)) (hm : bf_MV y bytes maxL retc np) {host : String} (hlk : Cond.methodLinkNest own index y host ∈ lw_tbl) {rq ci : Nat} {fs : List Value} {Tc : u_T} {Nc : Nat} (hrc : avs = .ref rq :: avs.tail) (hcl : bf_cl[ci]? = some (y.cls, Tc, Nc)) (hrw : (wf S)[rq]? = some (.inr (ci, fs))) (hnp : avs.tail.length = np) (hfr : fr + 1 ≤ fr0) (hlo : 8 + (maxL + 11) + lo ≤ lo0) (hroom : (st.map fun v => v.category).sum ≤ 8) (hd : bf_D cc pc (.invokevirtual index) 3 pc2) {st0 : List Value} (hst0 : avs.reverse ++ st = st0) {len : Nat} (hwl : ∀ u, (wf u).length = len) (kk : ∀ (r : Int64) (u : T), Qp r u → bf_A X Q nL pc2 lv (.long r :: st) (wf u)) : bf_A X Q nL pc lv st0 (wf S) := by
  intro H locs ls hP hD hS hL
  subst hst0
  have hRR : (bf_rm fr lo).frames + 1 ≤ (xR X).frames ∧ 8 + (maxL + 11) + (bf_rm fr lo).locals ≤ (xR X).locals := ⟨Nat.le_trans hfr hR.1, Nat.le_trans hlo hR.2.1⟩
  have hpre : ∀ U : State, U.heap = H → (xs X).WarmedH U.vm → bf_Pre (xdC X) (xdI X) (xac X) (xal X) H.size avs (wf S) (avs.map (bf_cv (xal X))).toArray U := fun U hU hW => ⟨rfl, by rw [hU], by rw [hU]; exact hP, va_K.moved hW.alike C.2.2.2.2.2.1, hD.weaken (fun _ _ _ _ => trivial), C.2.2.2.2.2.2.1.warm hW⟩
  have hFc : ∀ q, bf_fr (xac X) (xal X) (wf S) H.size q → xA X q := by
    intro q hq
    rcases hq with ⟨k, e, hk⟩ | hq
    · exact hD.2 k (q, e) hk
    · exact C.2.2.2.2.2.2.2.2.2 q (Nat.le_trans hS.1 hq)
  have hav : avs.map (bf_cv (xal X)) = Value.ref (xal X rq) :: avs.tail.map (bf_cv (xal X)) := by rw [hrc]; rfl
  have hrun : va_Run (xp X) (xl X) (xe X) (xR X) (xs X) (xm X) (xa X) (xb X) (xh X) (xc X) H locs (xk X) (xn X) 0 0 (F0 (xm X) pc ls ((avs.reverse ++ st).map (bf_cv (xal X)))) (st.map (bf_cv (xal X))) (bf_Kl (xdC X) (xdI X) (xac X) (xal X) wf Qp (bf_fr (xac X) (xal X) (wf S) H.size) (avs.map (bf_cv (xal X))).toArray) (bf_fr (xac X) (xal X) (wf S) H.size) := by
    rw [List.map_append, List.map_reverse]
    rw [hav] at hpre ⊢
    rw [List.reverse_cons, List.append_assoc]
    exact va_runVN (As := avs.tail.map (bf_cv (xal X))) (rest := st.map (bf_cv (xal X))) ⟨C.1, C.2.1, C.2.2.1, C.2.2.2.1, C.2.2.2.2.1⟩ (hM H.size) ⟨va_cnB np C.2.2.2.2.1 (bf_goodIn hm.1) rfl rfl rfl (C.2.2.2.2.2.2.1 _ hlk rfl) (C.2.2.2.2.1 _ hm.1.2.1) hm.1.2.2 hRR, C.2.2.2.2.1 _ hm.2.1, C.2.2.2.2.1 _ hm.2.2⟩ ⟨bf_blind _ _ _ _ _ _ _, va_recv C.2.2.2.2.2.1 hP hcl (bf_cw_some hrw), hpre⟩ rfl (by rw [List.length_map]; exact hnp) hL.1 rfl (lv_room (by rw [bf_rest]; exact hroom)) hd.1 ⟨hR.2.2.1, hR.2.2.2⟩
  obtain ⟨hd1, hd2⟩ := hd
  subst hd2
  refine va_calll hrun hS (fun q _ h => hFc q h) hFc (fun r u t H1 locs1 ht hvm hw hB hz1 hk1 hS1 => ?_)
  obtain ⟨hP1, hK1, hD1⟩ := hB
  rw [ht] at hP1
  exact kk r u hw H1 locs1 ls hP1 (bf_D_len hD ((hwl u).trans (hwl S).symm)) hS1 hL
theorem bs_selfPVN_l {T : Type} {wf : T → bf_W} {S : T} {Qp : Int64 → Prop} (C : bf_C X own cc nL ret) (hR : bf_Rm X fr0 lo0) (hM : bf_M (xl X) y bytes maxL retc fr lo (xdC X) (xdI X) (xac X) (xal X) avs (wf S) (bf_Kl (xdC X) (xdI X) (xac X) (xal X) wf (fun r u => u = S ∧ Qp r))) (hm : bf_MV y bytes maxL retc np) {host : String} (hlk : Cond.methodLinkNest own index y host ∈ lw_tbl) {rq ci : Nat} {fs : List Value} {Tc : u_T} {Nc : Nat} (hrc : avs = .ref rq :: avs.tail) (hcl : bf_cl[ci]? = some (y.cls, Tc, Nc)) (hrw : (wf S)[rq]? = some (.inr (ci, fs))) (hnp : avs.tail.length = np) (hfr : fr + 1 ≤ fr0) (hlo : 8 + (maxL + 11) + lo ≤ lo0) (hroom : (st.map fun v => v.category).sum ≤ 8) (hd : bf_D cc pc (.invokevirtual index) 3 pc2) {st0 : List Value} (hst0 : avs.reverse ++ st = st0) (kk : ∀ (r : Int64), Qp r → bf_A X Q nL pc2 lv (.long r :: st) (wf S)) : bf_A X Q nL pc lv st0 (wf S) := by
  intro H locs ls hP hD hS hL
  subst hst0
  have hRR : (bf_rm fr lo).frames + 1 ≤ (xR X).frames ∧ 8 + (maxL + 11) + (bf_rm fr lo).locals ≤ (xR X).locals := ⟨Nat.le_trans hfr hR.1, Nat.le_trans hlo hR.2.1⟩
  have hpre : ∀ U : State, U.heap = H → (xs X).WarmedH U.vm → bf_Pre (xdC X) (xdI X) (xac X) (xal X) H.size avs (wf S) (avs.map (bf_cv (xal X))).toArray U := fun U hU hW => ⟨rfl, by rw [hU], by rw [hU]; exact hP, va_K.moved hW.alike C.2.2.2.2.2.1, hD.weaken (fun _ _ _ _ => trivial), C.2.2.2.2.2.2.1.warm hW⟩
  have hFc : ∀ q, bf_fr (xac X) (xal X) (wf S) H.size q → xA X q := by
    intro q hq
    rcases hq with ⟨k, e, hk⟩ | hq
    · exact hD.2 k (q, e) hk
    · exact C.2.2.2.2.2.2.2.2.2 q (Nat.le_trans hS.1 hq)
  have hav : avs.map (bf_cv (xal X)) = Value.ref (xal X rq) :: avs.tail.map (bf_cv (xal X)) := by rw [hrc]; rfl
  have hrun : va_Run (xp X) (xl X) (xe X) (xR X) (xs X) (xm X) (xa X) (xb X) (xh X) (xc X) H locs (xk X) (xn X) 0 0 (F0 (xm X) pc ls ((avs.reverse ++ st).map (bf_cv (xal X)))) (st.map (bf_cv (xal X))) (bf_Kl (xdC X) (xdI X) (xac X) (xal X) wf (fun r u => u = S ∧ Qp r) (bf_fr (xac X) (xal X) (wf S) H.size) (avs.map (bf_cv (xal X))).toArray) (bf_fr (xac X) (xal X) (wf S) H.size) := by
    rw [List.map_append, List.map_reverse]
    rw [hav] at hpre ⊢
    rw [List.reverse_cons, List.append_assoc]
    exact va_runVN (As := avs.tail.map (bf_cv (xal X))) (rest := st.map (bf_cv (xal X))) ⟨C.1, C.2.1, C.2.2.1, C.2.2.2.1, C.2.2.2.2.1⟩ (hM H.size) ⟨va_cnB np C.2.2.2.2.1 (bf_goodIn hm.1) rfl rfl rfl (C.2.2.2.2.2.2.1 _ hlk rfl) (C.2.2.2.2.1 _ hm.1.2.1) hm.1.2.2 hRR, C.2.2.2.2.1 _ hm.2.1, C.2.2.2.2.1 _ hm.2.2⟩ ⟨bf_blind _ _ _ _ _ _ _, va_recv C.2.2.2.2.2.1 hP hcl (bf_cw_some hrw), hpre⟩ rfl (by rw [List.length_map]; exact hnp) hL.1 rfl (lv_room (by rw [bf_rest]; exact hroom)) hd.1 ⟨hR.2.2.1, hR.2.2.2⟩
  obtain ⟨hd1, hd2⟩ := hd
  subst hd2
  refine va_calll hrun hS (fun q _ h => hFc q h) hFc (fun r u t H1 locs1 ht hvm hw hB hz1 hk1 hS1 => ?_)
  obtain ⟨hP1, hK1, hD1⟩ := hB
  rw [ht] at hP1
  obtain ⟨rfl, hw⟩ := hw
  exact kk r hw H1 locs1 ls hP1 hD hS1 hL
theorem bs_selfVN_v {T : Type} {wf : T → bf_W} {S : T} {Qp : T → Prop} (C : bf_C X own cc nL ret) (hR : bf_Rm X fr0 lo0) (hM : bf_M (xl X) y bytes maxL retc fr lo (xdC X) (xdI X) (xac X) (xal X) avs (wf S) (bf_Kv (xdC X) (xdI X) (xac X) (xal X) wf Qp)) (hm : bf_MV y bytes maxL retc np) {host : String} (hlk : Cond.methodLinkNest own index y host ∈ lw_tbl) {rq ci : Nat} {fs : List Value} {Tc : u_T} {Nc : Nat} (hrc : avs = .ref rq :: avs.tail) (hcl : bf_cl[ci]? = some (y.cls, Tc, Nc)) (hrw : (wf S)[rq]? = some (.inr (ci, fs))) (hnp : avs.tail.length = np) (hfr : fr + 1 ≤ fr0) (hlo : 8 + (maxL + 11) + lo ≤ lo0) (hroom : (st.map fun v => v.category).sum ≤ 8) (hd : bf_D cc pc (.invokevirtual index) 3 pc2) {st0 : List Value} (hst0 : avs.reverse ++ st = st0) {len : Nat} (hwl : ∀ u, (wf u).length = len) (kk : ∀ (u : T), Qp u → bf_A X Q nL pc2 lv (st) (wf u)) : bf_A X Q nL pc lv st0 (wf S) := by
  intro H locs ls hP hD hS hL
  subst hst0
  have hRR : (bf_rm fr lo).frames + 1 ≤ (xR X).frames ∧ 8 + (maxL + 11) + (bf_rm fr lo).locals ≤ (xR X).locals := ⟨Nat.le_trans hfr hR.1, Nat.le_trans hlo hR.2.1⟩
  have hpre : ∀ U : State, U.heap = H → (xs X).WarmedH U.vm → bf_Pre (xdC X) (xdI X) (xac X) (xal X) H.size avs (wf S) (avs.map (bf_cv (xal X))).toArray U := fun U hU hW => ⟨rfl, by rw [hU], by rw [hU]; exact hP, va_K.moved hW.alike C.2.2.2.2.2.1, hD.weaken (fun _ _ _ _ => trivial), C.2.2.2.2.2.2.1.warm hW⟩
  have hFc : ∀ q, bf_fr (xac X) (xal X) (wf S) H.size q → xA X q := by
    intro q hq
    rcases hq with ⟨k, e, hk⟩ | hq
    · exact hD.2 k (q, e) hk
    · exact C.2.2.2.2.2.2.2.2.2 q (Nat.le_trans hS.1 hq)
  have hav : avs.map (bf_cv (xal X)) = Value.ref (xal X rq) :: avs.tail.map (bf_cv (xal X)) := by rw [hrc]; rfl
  have hrun : va_Run (xp X) (xl X) (xe X) (xR X) (xs X) (xm X) (xa X) (xb X) (xh X) (xc X) H locs (xk X) (xn X) 0 0 (F0 (xm X) pc ls ((avs.reverse ++ st).map (bf_cv (xal X)))) (st.map (bf_cv (xal X))) (bf_Kv (xdC X) (xdI X) (xac X) (xal X) wf Qp (bf_fr (xac X) (xal X) (wf S) H.size) (avs.map (bf_cv (xal X))).toArray) (bf_fr (xac X) (xal X) (wf S) H.size) := by
    rw [List.map_append, List.map_reverse]
    rw [hav] at hpre ⊢
    rw [List.reverse_cons, List.append_assoc]
    exact va_runVN (As := avs.tail.map (bf_cv (xal X))) (rest := st.map (bf_cv (xal X))) ⟨C.1, C.2.1, C.2.2.1, C.2.2.2.1, C.2.2.2.2.1⟩ (hM H.size) ⟨va_cnB np C.2.2.2.2.1 (bf_goodIn hm.1) rfl rfl rfl (C.2.2.2.2.2.2.1 _ hlk rfl) (C.2.2.2.2.1 _ hm.1.2.1) hm.1.2.2 hRR, C.2.2.2.2.1 _ hm.2.1, C.2.2.2.2.1 _ hm.2.2⟩ ⟨bf_blind _ _ _ _ _ _ _, va_recv C.2.2.2.2.2.1 hP hcl (bf_cw_some hrw), hpre⟩ rfl (by rw [List.length_map]; exact hnp) hL.1 rfl (lv_room (by rw [bf_rest]; exact hroom)) hd.1 ⟨hR.2.2.1, hR.2.2.2⟩
  obtain ⟨hd1, hd2⟩ := hd
  subst hd2
  refine va_callv hrun hS (fun q _ h => hFc q h) hFc (fun u t H1 locs1 ht hvm hw hB hz1 hk1 hS1 => ?_)
  obtain ⟨hP1, hK1, hD1⟩ := hB
  rw [ht] at hP1
  exact kk u hw H1 locs1 ls hP1 (bf_D_len hD ((hwl u).trans (hwl S).symm)) hS1 hL
theorem bs_selfS_i {T : Type} {wf : T → bf_W} {S : T} {Qp : Int32 → T → Prop} (C : bf_C X own cc nL ret) (hR : bf_Rm X fr0 lo0) (hM : bf_M (xl X) y bytes maxL retc fr lo (xdC X) (xdI X) (xac X) (xal X) avs (wf S) (bf_Ki (xdC X) (xdI X) (xac X) (xal X) wf Qp)) (hm : bf_MS y bytes maxL retc np) (hlk : Cond.methodLink own index y ∈ lw_good) (hnp : avs.length = np) (hfr : fr + 1 ≤ fr0) (hlo : 8 + (maxL + 11) + lo ≤ lo0) (hroom : (st.map fun v => v.category).sum ≤ 8) (hd : bf_D cc pc (.invokestatic index) 3 pc2) {st0 : List Value} (hst0 : avs.reverse ++ st = st0) {len : Nat} (hwl : ∀ u, (wf u).length = len) (kk : ∀ (r : Int32) (u : T), Qp r u → bf_A X Q nL pc2 lv (.int r :: st) (wf u)) : bf_A X Q nL pc lv st0 (wf S) := by
  intro H locs ls hP hD hS hL
  subst hst0
  have hRR : (bf_rm fr lo).frames + 1 ≤ (xR X).frames ∧ 8 + (maxL + 11) + (bf_rm fr lo).locals ≤ (xR X).locals := ⟨Nat.le_trans hfr hR.1, Nat.le_trans hlo hR.2.1⟩
  have hpre : ∀ U : State, U.heap = H → (xs X).WarmedH U.vm → bf_Pre (xdC X) (xdI X) (xac X) (xal X) H.size avs (wf S) (avs.map (bf_cv (xal X))).toArray U := fun U hU hW => ⟨rfl, by rw [hU], by rw [hU]; exact hP, va_K.moved hW.alike C.2.2.2.2.2.1, hD.weaken (fun _ _ _ _ => trivial), C.2.2.2.2.2.2.1.warm hW⟩
  have hFc : ∀ q, bf_fr (xac X) (xal X) (wf S) H.size q → xA X q := by
    intro q hq
    rcases hq with ⟨k, e, hk⟩ | hq
    · exact hD.2 k (q, e) hk
    · exact C.2.2.2.2.2.2.2.2.2 q (Nat.le_trans hS.1 hq)
  have hrun : va_Run (xp X) (xl X) (xe X) (xR X) (xs X) (xm X) (xa X) (xb X) (xh X) (xc X) H locs (xk X) (xn X) 0 0 (F0 (xm X) pc ls ((avs.reverse ++ st).map (bf_cv (xal X)))) (st.map (bf_cv (xal X))) (bf_Ki (xdC X) (xdI X) (xac X) (xal X) wf Qp (bf_fr (xac X) (xal X) (wf S) H.size) (avs.map (bf_cv (xal X))).toArray) (bf_fr (xac X) (xal X) (wf S) H.size) := by
    rw [List.map_append, List.map_reverse]
    exact va_runS (As := avs.map (bf_cv (xal X))) (rest := st.map (bf_cv (xal X))) ⟨C.1, C.2.1, C.2.2.1, C.2.2.2.1, C.2.2.2.2.1⟩ (hM H.size) ⟨callB_of np C.2.2.2.2.1 (bf_goodIn hm.1) rfl rfl rfl (C.2.2.2.2.1 _ hm.1.2.1) (C.2.2.2.2.1 _ hlk) hm.1.2.2 hRR, C.2.2.2.2.1 _ hm.2⟩ ⟨bf_blind _ _ _ _ _ _ _, hpre⟩ rfl (by rw [List.length_map]; exact hnp) hL.1 rfl (lv_room (by rw [bf_rest]; exact hroom)) hd.1 ⟨hR.2.2.1, hR.2.2.2⟩
  obtain ⟨hd1, hd2⟩ := hd
  subst hd2
  refine va_calli hrun hS (fun q _ h => hFc q h) hFc (fun r u t H1 locs1 ht hvm hw hB hz1 hk1 hS1 => ?_)
  obtain ⟨hP1, hK1, hD1⟩ := hB
  rw [ht] at hP1
  exact kk r u hw H1 locs1 ls hP1 (bf_D_len hD ((hwl u).trans (hwl S).symm)) hS1 hL
theorem bs_selfPS_i {T : Type} {wf : T → bf_W} {S : T} {Qp : Int32 → Prop} (C : bf_C X own cc nL ret) (hR : bf_Rm X fr0 lo0) (hM : bf_M (xl X) y bytes maxL retc fr lo (xdC X) (xdI X) (xac X) (xal X) avs (wf S) (bf_Ki (xdC X) (xdI X) (xac X) (xal X) wf (fun r u => u = S ∧ Qp r))) (hm : bf_MS y bytes maxL retc np) (hlk : Cond.methodLink own index y ∈ lw_good) (hnp : avs.length = np) (hfr : fr + 1 ≤ fr0) (hlo : 8 + (maxL + 11) + lo ≤ lo0) (hroom : (st.map fun v => v.category).sum ≤ 8) (hd : bf_D cc pc (.invokestatic index) 3 pc2) {st0 : List Value} (hst0 : avs.reverse ++ st = st0) (kk : ∀ (r : Int32), Qp r → bf_A X Q nL pc2 lv (.int r :: st) (wf S)) : bf_A X Q nL pc lv st0 (wf S) := by
  intro H locs ls hP hD hS hL
  subst hst0
  have hRR : (bf_rm fr lo).frames + 1 ≤ (xR X).frames ∧ 8 + (maxL + 11) + (bf_rm fr lo).locals ≤ (xR X).locals := ⟨Nat.le_trans hfr hR.1, Nat.le_trans hlo hR.2.1⟩
  have hpre : ∀ U : State, U.heap = H → (xs X).WarmedH U.vm → bf_Pre (xdC X) (xdI X) (xac X) (xal X) H.size avs (wf S) (avs.map (bf_cv (xal X))).toArray U := fun U hU hW => ⟨rfl, by rw [hU], by rw [hU]; exact hP, va_K.moved hW.alike C.2.2.2.2.2.1, hD.weaken (fun _ _ _ _ => trivial), C.2.2.2.2.2.2.1.warm hW⟩
  have hFc : ∀ q, bf_fr (xac X) (xal X) (wf S) H.size q → xA X q := by
    intro q hq
    rcases hq with ⟨k, e, hk⟩ | hq
    · exact hD.2 k (q, e) hk
    · exact C.2.2.2.2.2.2.2.2.2 q (Nat.le_trans hS.1 hq)
  have hrun : va_Run (xp X) (xl X) (xe X) (xR X) (xs X) (xm X) (xa X) (xb X) (xh X) (xc X) H locs (xk X) (xn X) 0 0 (F0 (xm X) pc ls ((avs.reverse ++ st).map (bf_cv (xal X)))) (st.map (bf_cv (xal X))) (bf_Ki (xdC X) (xdI X) (xac X) (xal X) wf (fun r u => u = S ∧ Qp r) (bf_fr (xac X) (xal X) (wf S) H.size) (avs.map (bf_cv (xal X))).toArray) (bf_fr (xac X) (xal X) (wf S) H.size) := by
    rw [List.map_append, List.map_reverse]
    exact va_runS (As := avs.map (bf_cv (xal X))) (rest := st.map (bf_cv (xal X))) ⟨C.1, C.2.1, C.2.2.1, C.2.2.2.1, C.2.2.2.2.1⟩ (hM H.size) ⟨callB_of np C.2.2.2.2.1 (bf_goodIn hm.1) rfl rfl rfl (C.2.2.2.2.1 _ hm.1.2.1) (C.2.2.2.2.1 _ hlk) hm.1.2.2 hRR, C.2.2.2.2.1 _ hm.2⟩ ⟨bf_blind _ _ _ _ _ _ _, hpre⟩ rfl (by rw [List.length_map]; exact hnp) hL.1 rfl (lv_room (by rw [bf_rest]; exact hroom)) hd.1 ⟨hR.2.2.1, hR.2.2.2⟩
  obtain ⟨hd1, hd2⟩ := hd
  subst hd2
  refine va_calli hrun hS (fun q _ h => hFc q h) hFc (fun r u t H1 locs1 ht hvm hw hB hz1 hk1 hS1 => ?_)
  obtain ⟨hP1, hK1, hD1⟩ := hB
  rw [ht] at hP1
  obtain ⟨rfl, hw⟩ := hw
  exact kk r hw H1 locs1 ls hP1 hD hS1 hL
theorem bs_selfS_l {T : Type} {wf : T → bf_W} {S : T} {Qp : Int64 → T → Prop} (C : bf_C X own cc nL ret) (hR : bf_Rm X fr0 lo0) (hM : bf_M (xl X) y bytes maxL retc fr lo (xdC X) (xdI X) (xac X) (xal X) avs (wf S) (bf_Kl (xdC X) (xdI X) (xac X) (xal X) wf Qp)) (hm : bf_MS y bytes maxL retc np) (hlk : Cond.methodLink own index y ∈ lw_good) (hnp : avs.length = np) (hfr : fr + 1 ≤ fr0) (hlo : 8 + (maxL + 11) + lo ≤ lo0) (hroom : (st.map fun v => v.category).sum ≤ 8) (hd : bf_D cc pc (.invokestatic index) 3 pc2) {st0 : List Value} (hst0 : avs.reverse ++ st = st0) {len : Nat} (hwl : ∀ u, (wf u).length = len) (kk : ∀ (r : Int64) (u : T), Qp r u → bf_A X Q nL pc2 lv (.long r :: st) (wf u)) : bf_A X Q nL pc lv st0 (wf S) := by
  intro H locs ls hP hD hS hL
  subst hst0
  have hRR : (bf_rm fr lo).frames + 1 ≤ (xR X).frames ∧ 8 + (maxL + 11) + (bf_rm fr lo).locals ≤ (xR X).locals := ⟨Nat.le_trans hfr hR.1, Nat.le_trans hlo hR.2.1⟩
  have hpre : ∀ U : State, U.heap = H → (xs X).WarmedH U.vm → bf_Pre (xdC X) (xdI X) (xac X) (xal X) H.size avs (wf S) (avs.map (bf_cv (xal X))).toArray U := fun U hU hW => ⟨rfl, by rw [hU], by rw [hU]; exact hP, va_K.moved hW.alike C.2.2.2.2.2.1, hD.weaken (fun _ _ _ _ => trivial), C.2.2.2.2.2.2.1.warm hW⟩
  have hFc : ∀ q, bf_fr (xac X) (xal X) (wf S) H.size q → xA X q := by
    intro q hq
    rcases hq with ⟨k, e, hk⟩ | hq
    · exact hD.2 k (q, e) hk
    · exact C.2.2.2.2.2.2.2.2.2 q (Nat.le_trans hS.1 hq)
  have hrun : va_Run (xp X) (xl X) (xe X) (xR X) (xs X) (xm X) (xa X) (xb X) (xh X) (xc X) H locs (xk X) (xn X) 0 0 (F0 (xm X) pc ls ((avs.reverse ++ st).map (bf_cv (xal X)))) (st.map (bf_cv (xal X))) (bf_Kl (xdC X) (xdI X) (xac X) (xal X) wf Qp (bf_fr (xac X) (xal X) (wf S) H.size) (avs.map (bf_cv (xal X))).toArray) (bf_fr (xac X) (xal X) (wf S) H.size) := by
    rw [List.map_append, List.map_reverse]
    exact va_runS (As := avs.map (bf_cv (xal X))) (rest := st.map (bf_cv (xal X))) ⟨C.1, C.2.1, C.2.2.1, C.2.2.2.1, C.2.2.2.2.1⟩ (hM H.size) ⟨callB_of np C.2.2.2.2.1 (bf_goodIn hm.1) rfl rfl rfl (C.2.2.2.2.1 _ hm.1.2.1) (C.2.2.2.2.1 _ hlk) hm.1.2.2 hRR, C.2.2.2.2.1 _ hm.2⟩ ⟨bf_blind _ _ _ _ _ _ _, hpre⟩ rfl (by rw [List.length_map]; exact hnp) hL.1 rfl (lv_room (by rw [bf_rest]; exact hroom)) hd.1 ⟨hR.2.2.1, hR.2.2.2⟩
  obtain ⟨hd1, hd2⟩ := hd
  subst hd2
  refine va_calll hrun hS (fun q _ h => hFc q h) hFc (fun r u t H1 locs1 ht hvm hw hB hz1 hk1 hS1 => ?_)
  obtain ⟨hP1, hK1, hD1⟩ := hB
  rw [ht] at hP1
  exact kk r u hw H1 locs1 ls hP1 (bf_D_len hD ((hwl u).trans (hwl S).symm)) hS1 hL
theorem bs_selfPS_l {T : Type} {wf : T → bf_W} {S : T} {Qp : Int64 → Prop} (C : bf_C X own cc nL ret) (hR : bf_Rm X fr0 lo0) (hM : bf_M (xl X) y bytes maxL retc fr lo (xdC X) (xdI X) (xac X) (xal X) avs (wf S) (bf_Kl (xdC X) (xdI X) (xac X) (xal X) wf (fun r u => u = S ∧ Qp r))) (hm : bf_MS y bytes maxL retc np) (hlk : Cond.methodLink own index y ∈ lw_good) (hnp : avs.length = np) (hfr : fr + 1 ≤ fr0) (hlo : 8 + (maxL + 11) + lo ≤ lo0) (hroom : (st.map fun v => v.category).sum ≤ 8) (hd : bf_D cc pc (.invokestatic index) 3 pc2) {st0 : List Value} (hst0 : avs.reverse ++ st = st0) (kk : ∀ (r : Int64), Qp r → bf_A X Q nL pc2 lv (.long r :: st) (wf S)) : bf_A X Q nL pc lv st0 (wf S) := by
  intro H locs ls hP hD hS hL
  subst hst0
  have hRR : (bf_rm fr lo).frames + 1 ≤ (xR X).frames ∧ 8 + (maxL + 11) + (bf_rm fr lo).locals ≤ (xR X).locals := ⟨Nat.le_trans hfr hR.1, Nat.le_trans hlo hR.2.1⟩
  have hpre : ∀ U : State, U.heap = H → (xs X).WarmedH U.vm → bf_Pre (xdC X) (xdI X) (xac X) (xal X) H.size avs (wf S) (avs.map (bf_cv (xal X))).toArray U := fun U hU hW => ⟨rfl, by rw [hU], by rw [hU]; exact hP, va_K.moved hW.alike C.2.2.2.2.2.1, hD.weaken (fun _ _ _ _ => trivial), C.2.2.2.2.2.2.1.warm hW⟩
  have hFc : ∀ q, bf_fr (xac X) (xal X) (wf S) H.size q → xA X q := by
    intro q hq
    rcases hq with ⟨k, e, hk⟩ | hq
    · exact hD.2 k (q, e) hk
    · exact C.2.2.2.2.2.2.2.2.2 q (Nat.le_trans hS.1 hq)
  have hrun : va_Run (xp X) (xl X) (xe X) (xR X) (xs X) (xm X) (xa X) (xb X) (xh X) (xc X) H locs (xk X) (xn X) 0 0 (F0 (xm X) pc ls ((avs.reverse ++ st).map (bf_cv (xal X)))) (st.map (bf_cv (xal X))) (bf_Kl (xdC X) (xdI X) (xac X) (xal X) wf (fun r u => u = S ∧ Qp r) (bf_fr (xac X) (xal X) (wf S) H.size) (avs.map (bf_cv (xal X))).toArray) (bf_fr (xac X) (xal X) (wf S) H.size) := by
    rw [List.map_append, List.map_reverse]
    exact va_runS (As := avs.map (bf_cv (xal X))) (rest := st.map (bf_cv (xal X))) ⟨C.1, C.2.1, C.2.2.1, C.2.2.2.1, C.2.2.2.2.1⟩ (hM H.size) ⟨callB_of np C.2.2.2.2.1 (bf_goodIn hm.1) rfl rfl rfl (C.2.2.2.2.1 _ hm.1.2.1) (C.2.2.2.2.1 _ hlk) hm.1.2.2 hRR, C.2.2.2.2.1 _ hm.2⟩ ⟨bf_blind _ _ _ _ _ _ _, hpre⟩ rfl (by rw [List.length_map]; exact hnp) hL.1 rfl (lv_room (by rw [bf_rest]; exact hroom)) hd.1 ⟨hR.2.2.1, hR.2.2.2⟩
  obtain ⟨hd1, hd2⟩ := hd
  subst hd2
  refine va_calll hrun hS (fun q _ h => hFc q h) hFc (fun r u t H1 locs1 ht hvm hw hB hz1 hk1 hS1 => ?_)
  obtain ⟨hP1, hK1, hD1⟩ := hB
  rw [ht] at hP1
  obtain ⟨rfl, hw⟩ := hw
  exact kk r hw H1 locs1 ls hP1 hD hS1 hL
theorem bs_selfS_v {T : Type} {wf : T → bf_W} {S : T} {Qp : T → Prop} (C : bf_C X own cc nL ret) (hR : bf_Rm X fr0 lo0) (hM : bf_M (xl X) y bytes maxL retc fr lo (xdC X) (xdI X) (xac X) (xal X) avs (wf S) (bf_Kv (xdC X) (xdI X) (xac X) (xal X) wf Qp)) (hm : bf_MS y bytes maxL retc np) (hlk : Cond.methodLink own index y ∈ lw_good) (hnp : avs.length = np) (hfr : fr + 1 ≤ fr0) (hlo : 8 + (maxL + 11) + lo ≤ lo0) (hroom : (st.map fun v => v.category).sum ≤ 8) (hd : bf_D cc pc (.invokestatic index) 3 pc2) {st0 : List Value} (hst0 : avs.reverse ++ st = st0) {len : Nat} (hwl : ∀ u, (wf u).length = len) (kk : ∀ (u : T), Qp u → bf_A X Q nL pc2 lv (st) (wf u)) : bf_A X Q nL pc lv st0 (wf S) := by
  intro H locs ls hP hD hS hL
  subst hst0
  have hRR : (bf_rm fr lo).frames + 1 ≤ (xR X).frames ∧ 8 + (maxL + 11) + (bf_rm fr lo).locals ≤ (xR X).locals := ⟨Nat.le_trans hfr hR.1, Nat.le_trans hlo hR.2.1⟩
  have hpre : ∀ U : State, U.heap = H → (xs X).WarmedH U.vm → bf_Pre (xdC X) (xdI X) (xac X) (xal X) H.size avs (wf S) (avs.map (bf_cv (xal X))).toArray U := fun U hU hW => ⟨rfl, by rw [hU], by rw [hU]; exact hP, va_K.moved hW.alike C.2.2.2.2.2.1, hD.weaken (fun _ _ _ _ => trivial), C.2.2.2.2.2.2.1.warm hW⟩
  have hFc : ∀ q, bf_fr (xac X) (xal X) (wf S) H.size q → xA X q := by
    intro q hq
    rcases hq with ⟨k, e, hk⟩ | hq
    · exact hD.2 k (q, e) hk
    · exact C.2.2.2.2.2.2.2.2.2 q (Nat.le_trans hS.1 hq)
  have hrun : va_Run (xp X) (xl X) (xe X) (xR X) (xs X) (xm X) (xa X) (xb X) (xh X) (xc X) H locs (xk X) (xn X) 0 0 (F0 (xm X) pc ls ((avs.reverse ++ st).map (bf_cv (xal X)))) (st.map (bf_cv (xal X))) (bf_Kv (xdC X) (xdI X) (xac X) (xal X) wf Qp (bf_fr (xac X) (xal X) (wf S) H.size) (avs.map (bf_cv (xal X))).toArray) (bf_fr (xac X) (xal X) (wf S) H.size) := by
    rw [List.map_append, List.map_reverse]
    exact va_runS (As := avs.map (bf_cv (xal X))) (rest := st.map (bf_cv (xal X))) ⟨C.1, C.2.1, C.2.2.1, C.2.2.2.1, C.2.2.2.2.1⟩ (hM H.size) ⟨callB_of np C.2.2.2.2.1 (bf_goodIn hm.1) rfl rfl rfl (C.2.2.2.2.1 _ hm.1.2.1) (C.2.2.2.2.1 _ hlk) hm.1.2.2 hRR, C.2.2.2.2.1 _ hm.2⟩ ⟨bf_blind _ _ _ _ _ _ _, hpre⟩ rfl (by rw [List.length_map]; exact hnp) hL.1 rfl (lv_room (by rw [bf_rest]; exact hroom)) hd.1 ⟨hR.2.2.1, hR.2.2.2⟩
  obtain ⟨hd1, hd2⟩ := hd
  subst hd2
  refine va_callv hrun hS (fun q _ h => hFc q h) hFc (fun u t H1 locs1 ht hvm hw hB hz1 hk1 hS1 => ?_)
  obtain ⟨hP1, hK1, hD1⟩ := hB
  rw [ht] at hP1
  exact kk u hw H1 locs1 ls hP1 (bf_D_len hD ((hwl u).trans (hwl S).symm)) hS1 hL
theorem bs_selfSN_i {T : Type} {wf : T → bf_W} {S : T} {Qp : Int32 → T → Prop} (C : bf_C X own cc nL ret) (hR : bf_Rm X fr0 lo0) (hM : bf_M (xl X) y bytes maxL retc fr lo (xdC X) (xdI X) (xac X) (xal X) avs (wf S) (bf_Ki (xdC X) (xdI X) (xac X) (xal X) wf Qp)) (hm : bf_MS y bytes maxL retc np) {host : String} (hlk : Cond.methodLinkNest own index y host ∈ lw_tbl) (hnp : avs.length = np) (hfr : fr + 1 ≤ fr0) (hlo : 8 + (maxL + 11) + lo ≤ lo0) (hroom : (st.map fun v => v.category).sum ≤ 8) (hd : bf_D cc pc (.invokestatic index) 3 pc2) {st0 : List Value} (hst0 : avs.reverse ++ st = st0) {len : Nat} (hwl : ∀ u, (wf u).length = len) (kk : ∀ (r : Int32) (u : T), Qp r u → bf_A X Q nL pc2 lv (.int r :: st) (wf u)) : bf_A X Q nL pc lv st0 (wf S) := by
  intro H locs ls hP hD hS hL
  subst hst0
  have hRR : (bf_rm fr lo).frames + 1 ≤ (xR X).frames ∧ 8 + (maxL + 11) + (bf_rm fr lo).locals ≤ (xR X).locals := ⟨Nat.le_trans hfr hR.1, Nat.le_trans hlo hR.2.1⟩
  have hpre : ∀ U : State, U.heap = H → (xs X).WarmedH U.vm → bf_Pre (xdC X) (xdI X) (xac X) (xal X) H.size avs (wf S) (avs.map (bf_cv (xal X))).toArray U := fun U hU hW => ⟨rfl, by rw [hU], by rw [hU]; exact hP, va_K.moved hW.alike C.2.2.2.2.2.1, hD.weaken (fun _ _ _ _ => trivial), C.2.2.2.2.2.2.1.warm hW⟩
  have hFc : ∀ q, bf_fr (xac X) (xal X) (wf S) H.size q → xA X q := by
    intro q hq
    rcases hq with ⟨k, e, hk⟩ | hq
    · exact hD.2 k (q, e) hk
    · exact C.2.2.2.2.2.2.2.2.2 q (Nat.le_trans hS.1 hq)
  have hrun : va_Run (xp X) (xl X) (xe X) (xR X) (xs X) (xm X) (xa X) (xb X) (xh X) (xc X) H locs (xk X) (xn X) 0 0 (F0 (xm X) pc ls ((avs.reverse ++ st).map (bf_cv (xal X)))) (st.map (bf_cv (xal X))) (bf_Ki (xdC X) (xdI X) (xac X) (xal X) wf Qp (bf_fr (xac X) (xal X) (wf S) H.size) (avs.map (bf_cv (xal X))).toArray) (bf_fr (xac X) (xal X) (wf S) H.size) := by
    rw [List.map_append, List.map_reverse]
    exact va_runSN (As := avs.map (bf_cv (xal X))) (rest := st.map (bf_cv (xal X))) ⟨C.1, C.2.1, C.2.2.1, C.2.2.2.1, C.2.2.2.2.1⟩ (hM H.size) ⟨va_cnB np C.2.2.2.2.1 (bf_goodIn hm.1) rfl rfl rfl (C.2.2.2.2.2.2.1 _ hlk rfl) (C.2.2.2.2.1 _ hm.1.2.1) hm.1.2.2 hRR, C.2.2.2.2.1 _ hm.2, trivial⟩ ⟨bf_blind _ _ _ _ _ _ _, hpre⟩ rfl (by rw [List.length_map]; exact hnp) hL.1 rfl (lv_room (by rw [bf_rest]; exact hroom)) hd.1 ⟨hR.2.2.1, hR.2.2.2⟩
  obtain ⟨hd1, hd2⟩ := hd
  subst hd2
  refine va_calli hrun hS (fun q _ h => hFc q h) hFc (fun r u t H1 locs1 ht hvm hw hB hz1 hk1 hS1 => ?_)
  obtain ⟨hP1, hK1, hD1⟩ := hB
  rw [ht] at hP1
  exact kk r u hw H1 locs1 ls hP1 (bf_D_len hD ((hwl u).trans (hwl S).symm)) hS1 hL
theorem bs_selfPSN_i {T : Type} {wf : T → bf_W} {S : T} {Qp : Int32 → Prop} (C : bf_C X own cc nL ret) (hR : bf_Rm X fr0 lo0) (hM : bf_M (xl X) y bytes maxL retc fr lo (xdC X) (xdI X) (xac X) (xal X) avs (wf S) (bf_Ki (xdC X) (xdI X) (xac X) (xal X) wf (fun r u => u = S ∧ Qp r))) (hm : bf_MS y bytes maxL retc np) {host : String} (hlk : Cond.methodLinkNest own index y host ∈ lw_tbl) (hnp : avs.length = np) (hfr : fr + 1 ≤ fr0) (hlo : 8 + (maxL + 11) + lo ≤ lo0) (hroom : (st.map fun v => v.category).sum ≤ 8) (hd : bf_D cc pc (.invokestatic index) 3 pc2) {st0 : List Value} (hst0 : avs.reverse ++ st = st0) (kk : ∀ (r : Int32), Qp r → bf_A X Q nL pc2 lv (.int r :: st) (wf S)) : bf_A X Q nL pc lv st0 (wf S) := by
  intro H locs ls hP hD hS hL
  subst hst0
  have hRR : (bf_rm fr lo).frames + 1 ≤ (xR X).frames ∧ 8 + (maxL + 11) + (bf_rm fr lo).locals ≤ (xR X).locals := ⟨Nat.le_trans hfr hR.1, Nat.le_trans hlo hR.2.1⟩
  have hpre : ∀ U : State, U.heap = H → (xs X).WarmedH U.vm → bf_Pre (xdC X) (xdI X) (xac X) (xal X) H.size avs (wf S) (avs.map (bf_cv (xal X))).toArray U := fun U hU hW => ⟨rfl, by rw [hU], by rw [hU]; exact hP, va_K.moved hW.alike C.2.2.2.2.2.1, hD.weaken (fun _ _ _ _ => trivial), C.2.2.2.2.2.2.1.warm hW⟩
  have hFc : ∀ q, bf_fr (xac X) (xal X) (wf S) H.size q → xA X q := by
    intro q hq
    rcases hq with ⟨k, e, hk⟩ | hq
    · exact hD.2 k (q, e) hk
    · exact C.2.2.2.2.2.2.2.2.2 q (Nat.le_trans hS.1 hq)
  have hrun : va_Run (xp X) (xl X) (xe X) (xR X) (xs X) (xm X) (xa X) (xb X) (xh X) (xc X) H locs (xk X) (xn X) 0 0 (F0 (xm X) pc ls ((avs.reverse ++ st).map (bf_cv (xal X)))) (st.map (bf_cv (xal X))) (bf_Ki (xdC X) (xdI X) (xac X) (xal X) wf (fun r u => u = S ∧ Qp r) (bf_fr (xac X) (xal X) (wf S) H.size) (avs.map (bf_cv (xal X))).toArray) (bf_fr (xac X) (xal X) (wf S) H.size) := by
    rw [List.map_append, List.map_reverse]
    exact va_runSN (As := avs.map (bf_cv (xal X))) (rest := st.map (bf_cv (xal X))) ⟨C.1, C.2.1, C.2.2.1, C.2.2.2.1, C.2.2.2.2.1⟩ (hM H.size) ⟨va_cnB np C.2.2.2.2.1 (bf_goodIn hm.1) rfl rfl rfl (C.2.2.2.2.2.2.1 _ hlk rfl) (C.2.2.2.2.1 _ hm.1.2.1) hm.1.2.2 hRR, C.2.2.2.2.1 _ hm.2, trivial⟩ ⟨bf_blind _ _ _ _ _ _ _, hpre⟩ rfl (by rw [List.length_map]; exact hnp) hL.1 rfl (lv_room (by rw [bf_rest]; exact hroom)) hd.1 ⟨hR.2.2.1, hR.2.2.2⟩
  obtain ⟨hd1, hd2⟩ := hd
  subst hd2
  refine va_calli hrun hS (fun q _ h => hFc q h) hFc (fun r u t H1 locs1 ht hvm hw hB hz1 hk1 hS1 => ?_)
  obtain ⟨hP1, hK1, hD1⟩ := hB
  rw [ht] at hP1
  obtain ⟨rfl, hw⟩ := hw
  exact kk r hw H1 locs1 ls hP1 hD hS1 hL
theorem bs_selfSN_l {T : Type} {wf : T → bf_W} {S : T} {Qp : Int64 → T → Prop} (C : bf_C X own cc nL ret) (hR : bf_Rm X fr0 lo0) (hM : bf_M (xl X) y bytes maxL retc fr lo (xdC X) (xdI X) (xac X) (xal X) avs (wf S) (bf_Kl (xdC X) (xdI X) (xac X) (xal X) wf Qp)) (hm : bf_MS y bytes maxL retc np) {host : String} (hlk : Cond.methodLinkNest own index y host ∈ lw_tbl) (hnp : avs.length = np) (hfr : fr + 1 ≤ fr0) (hlo : 8 + (maxL + 11) + lo ≤ lo0) (hroom : (st.map fun v => v.category).sum ≤ 8) (hd : bf_D cc pc (.invokestatic index) 3 pc2) {st0 : List Value} (hst0 : avs.reverse ++ st = st0) {len : Nat} (hwl : ∀ u, (wf u).length = len) (kk : ∀ (r : Int64) (u : T), Qp r u → bf_A X Q nL pc2 lv (.long r :: st) (wf u)) : bf_A X Q nL pc lv st0 (wf S) := by
  intro H locs ls hP hD hS hL
  subst hst0
  have hRR : (bf_rm fr lo).frames + 1 ≤ (xR X).frames ∧ 8 + (maxL + 11) + (bf_rm fr lo).locals ≤ (xR X).locals := ⟨Nat.le_trans hfr hR.1, Nat.le_trans hlo hR.2.1⟩
  have hpre : ∀ U : State, U.heap = H → (xs X).WarmedH U.vm → bf_Pre (xdC X) (xdI X) (xac X) (xal X) H.size avs (wf S) (avs.map (bf_cv (xal X))).toArray U := fun U hU hW => ⟨rfl, by rw [hU], by rw [hU]; exact hP, va_K.moved hW.alike C.2.2.2.2.2.1, hD.weaken (fun _ _ _ _ => trivial), C.2.2.2.2.2.2.1.warm hW⟩
  have hFc : ∀ q, bf_fr (xac X) (xal X) (wf S) H.size q → xA X q := by
    intro q hq
    rcases hq with ⟨k, e, hk⟩ | hq
    · exact hD.2 k (q, e) hk
    · exact C.2.2.2.2.2.2.2.2.2 q (Nat.le_trans hS.1 hq)
  have hrun : va_Run (xp X) (xl X) (xe X) (xR X) (xs X) (xm X) (xa X) (xb X) (xh X) (xc X) H locs (xk X) (xn X) 0 0 (F0 (xm X) pc ls ((avs.reverse ++ st).map (bf_cv (xal X)))) (st.map (bf_cv (xal X))) (bf_Kl (xdC X) (xdI X) (xac X) (xal X) wf Qp (bf_fr (xac X) (xal X) (wf S) H.size) (avs.map (bf_cv (xal X))).toArray) (bf_fr (xac X) (xal X) (wf S) H.size) := by
    rw [List.map_append, List.map_reverse]
    exact va_runSN (As := avs.map (bf_cv (xal X))) (rest := st.map (bf_cv (xal X))) ⟨C.1, C.2.1, C.2.2.1, C.2.2.2.1, C.2.2.2.2.1⟩ (hM H.size) ⟨va_cnB np C.2.2.2.2.1 (bf_goodIn hm.1) rfl rfl rfl (C.2.2.2.2.2.2.1 _ hlk rfl) (C.2.2.2.2.1 _ hm.1.2.1) hm.1.2.2 hRR, C.2.2.2.2.1 _ hm.2, trivial⟩ ⟨bf_blind _ _ _ _ _ _ _, hpre⟩ rfl (by rw [List.length_map]; exact hnp) hL.1 rfl (lv_room (by rw [bf_rest]; exact hroom)) hd.1 ⟨hR.2.2.1, hR.2.2.2⟩
  obtain ⟨hd1, hd2⟩ := hd
  subst hd2
  refine va_calll hrun hS (fun q _ h => hFc q h) hFc (fun r u t H1 locs1 ht hvm hw hB hz1 hk1 hS1 => ?_)
  obtain ⟨hP1, hK1, hD1⟩ := hB
  rw [ht] at hP1
  exact kk r u hw H1 locs1 ls hP1 (bf_D_len hD ((hwl u).trans (hwl S).symm)) hS1 hL
theorem bs_selfPSN_l {T : Type} {wf : T → bf_W} {S : T} {Qp : Int64 → Prop} (C : bf_C X own cc nL ret) (hR : bf_Rm X fr0 lo0) (hM : bf_M (xl X) y bytes maxL retc fr lo (xdC X) (xdI X) (xac X) (xal X) avs (wf S) (bf_Kl (xdC X) (xdI X) (xac X) (xal X) wf (fun r u => u = S ∧ Qp r))) (hm : bf_MS y bytes maxL retc np) {host : String} (hlk : Cond.methodLinkNest own index y host ∈ lw_tbl) (hnp : avs.length = np) (hfr : fr + 1 ≤ fr0) (hlo : 8 + (maxL + 11) + lo ≤ lo0) (hroom : (st.map fun v => v.category).sum ≤ 8) (hd : bf_D cc pc (.invokestatic index) 3 pc2) {st0 : List Value} (hst0 : avs.reverse ++ st = st0) (kk : ∀ (r : Int64), Qp r → bf_A X Q nL pc2 lv (.long r :: st) (wf S)) : bf_A X Q nL pc lv st0 (wf S) := by
  intro H locs ls hP hD hS hL
  subst hst0
  have hRR : (bf_rm fr lo).frames + 1 ≤ (xR X).frames ∧ 8 + (maxL + 11) + (bf_rm fr lo).locals ≤ (xR X).locals := ⟨Nat.le_trans hfr hR.1, Nat.le_trans hlo hR.2.1⟩
  have hpre : ∀ U : State, U.heap = H → (xs X).WarmedH U.vm → bf_Pre (xdC X) (xdI X) (xac X) (xal X) H.size avs (wf S) (avs.map (bf_cv (xal X))).toArray U := fun U hU hW => ⟨rfl, by rw [hU], by rw [hU]; exact hP, va_K.moved hW.alike C.2.2.2.2.2.1, hD.weaken (fun _ _ _ _ => trivial), C.2.2.2.2.2.2.1.warm hW⟩
  have hFc : ∀ q, bf_fr (xac X) (xal X) (wf S) H.size q → xA X q := by
    intro q hq
    rcases hq with ⟨k, e, hk⟩ | hq
    · exact hD.2 k (q, e) hk
    · exact C.2.2.2.2.2.2.2.2.2 q (Nat.le_trans hS.1 hq)
  have hrun : va_Run (xp X) (xl X) (xe X) (xR X) (xs X) (xm X) (xa X) (xb X) (xh X) (xc X) H locs (xk X) (xn X) 0 0 (F0 (xm X) pc ls ((avs.reverse ++ st).map (bf_cv (xal X)))) (st.map (bf_cv (xal X))) (bf_Kl (xdC X) (xdI X) (xac X) (xal X) wf (fun r u => u = S ∧ Qp r) (bf_fr (xac X) (xal X) (wf S) H.size) (avs.map (bf_cv (xal X))).toArray) (bf_fr (xac X) (xal X) (wf S) H.size) := by
    rw [List.map_append, List.map_reverse]
    exact va_runSN (As := avs.map (bf_cv (xal X))) (rest := st.map (bf_cv (xal X))) ⟨C.1, C.2.1, C.2.2.1, C.2.2.2.1, C.2.2.2.2.1⟩ (hM H.size) ⟨va_cnB np C.2.2.2.2.1 (bf_goodIn hm.1) rfl rfl rfl (C.2.2.2.2.2.2.1 _ hlk rfl) (C.2.2.2.2.1 _ hm.1.2.1) hm.1.2.2 hRR, C.2.2.2.2.1 _ hm.2, trivial⟩ ⟨bf_blind _ _ _ _ _ _ _, hpre⟩ rfl (by rw [List.length_map]; exact hnp) hL.1 rfl (lv_room (by rw [bf_rest]; exact hroom)) hd.1 ⟨hR.2.2.1, hR.2.2.2⟩
  obtain ⟨hd1, hd2⟩ := hd
  subst hd2
  refine va_calll hrun hS (fun q _ h => hFc q h) hFc (fun r u t H1 locs1 ht hvm hw hB hz1 hk1 hS1 => ?_)
  obtain ⟨hP1, hK1, hD1⟩ := hB
  rw [ht] at hP1
  obtain ⟨rfl, hw⟩ := hw
  exact kk r hw H1 locs1 ls hP1 hD hS1 hL
theorem bs_selfSN_v {T : Type} {wf : T → bf_W} {S : T} {Qp : T → Prop} (C : bf_C X own cc nL ret) (hR : bf_Rm X fr0 lo0) (hM : bf_M (xl X) y bytes maxL retc fr lo (xdC X) (xdI X) (xac X) (xal X) avs (wf S) (bf_Kv (xdC X) (xdI X) (xac X) (xal X) wf Qp)) (hm : bf_MS y bytes maxL retc np) {host : String} (hlk : Cond.methodLinkNest own index y host ∈ lw_tbl) (hnp : avs.length = np) (hfr : fr + 1 ≤ fr0) (hlo : 8 + (maxL + 11) + lo ≤ lo0) (hroom : (st.map fun v => v.category).sum ≤ 8) (hd : bf_D cc pc (.invokestatic index) 3 pc2) {st0 : List Value} (hst0 : avs.reverse ++ st = st0) {len : Nat} (hwl : ∀ u, (wf u).length = len) (kk : ∀ (u : T), Qp u → bf_A X Q nL pc2 lv (st) (wf u)) : bf_A X Q nL pc lv st0 (wf S) := by
  intro H locs ls hP hD hS hL
  subst hst0
  have hRR : (bf_rm fr lo).frames + 1 ≤ (xR X).frames ∧ 8 + (maxL + 11) + (bf_rm fr lo).locals ≤ (xR X).locals := ⟨Nat.le_trans hfr hR.1, Nat.le_trans hlo hR.2.1⟩
  have hpre : ∀ U : State, U.heap = H → (xs X).WarmedH U.vm → bf_Pre (xdC X) (xdI X) (xac X) (xal X) H.size avs (wf S) (avs.map (bf_cv (xal X))).toArray U := fun U hU hW => ⟨rfl, by rw [hU], by rw [hU]; exact hP, va_K.moved hW.alike C.2.2.2.2.2.1, hD.weaken (fun _ _ _ _ => trivial), C.2.2.2.2.2.2.1.warm hW⟩
  have hFc : ∀ q, bf_fr (xac X) (xal X) (wf S) H.size q → xA X q := by
    intro q hq
    rcases hq with ⟨k, e, hk⟩ | hq
    · exact hD.2 k (q, e) hk
    · exact C.2.2.2.2.2.2.2.2.2 q (Nat.le_trans hS.1 hq)
  have hrun : va_Run (xp X) (xl X) (xe X) (xR X) (xs X) (xm X) (xa X) (xb X) (xh X) (xc X) H locs (xk X) (xn X) 0 0 (F0 (xm X) pc ls ((avs.reverse ++ st).map (bf_cv (xal X)))) (st.map (bf_cv (xal X))) (bf_Kv (xdC X) (xdI X) (xac X) (xal X) wf Qp (bf_fr (xac X) (xal X) (wf S) H.size) (avs.map (bf_cv (xal X))).toArray) (bf_fr (xac X) (xal X) (wf S) H.size) := by
    rw [List.map_append, List.map_reverse]
    exact va_runSN (As := avs.map (bf_cv (xal X))) (rest := st.map (bf_cv (xal X))) ⟨C.1, C.2.1, C.2.2.1, C.2.2.2.1, C.2.2.2.2.1⟩ (hM H.size) ⟨va_cnB np C.2.2.2.2.1 (bf_goodIn hm.1) rfl rfl rfl (C.2.2.2.2.2.2.1 _ hlk rfl) (C.2.2.2.2.1 _ hm.1.2.1) hm.1.2.2 hRR, C.2.2.2.2.1 _ hm.2, trivial⟩ ⟨bf_blind _ _ _ _ _ _ _, hpre⟩ rfl (by rw [List.length_map]; exact hnp) hL.1 rfl (lv_room (by rw [bf_rest]; exact hroom)) hd.1 ⟨hR.2.2.1, hR.2.2.2⟩
  obtain ⟨hd1, hd2⟩ := hd
  subst hd2
  refine va_callv hrun hS (fun q _ h => hFc q h) hFc (fun u t H1 locs1 ht hvm hw hB hz1 hk1 hS1 => ?_)
  obtain ⟨hP1, hK1, hD1⟩ := hB
  rw [ht] at hP1
  exact kk u hw H1 locs1 ls hP1 (bf_D_len hD ((hwl u).trans (hwl S).symm)) hS1 hL
end BFCALL
section BFLIB
variable {X : bf_X} {Q : State → Prop} {own : String} {cc : ByteArray} {nL : Nat} {ret : Option FieldType} {pc pc2 : Nat} {lv : bf_V} {st : List Value} {w : bf_W} {fr0 lo0 : Nat} {index : Nat}
theorem bs_mmax (C : bf_C X own cc nL ret) (hR : bf_Rm X fr0 lo0) (hlk : Cond.methodLink own index Lib.Math.max.name ∈ lw_good) (hst : Cond.static Lib.Math.max.name ∈ lw_good) (hini : Cond.initialized "java/lang/Math" ∈ lw_good) (hco : Cond.code Lib.Math.max.name Lib.Math.max.code 2 (some .int) ∈ lw_good) (hfr : 1 ≤ fr0) (hlo : (st.map fun v => v.category).sum + 13 ≤ lo0) {x y : Int32} (hd : bf_D cc pc (.invokestatic index) 3 pc2) (kk : bf_A X Q nL pc2 lv (.int (if x < y then y else x) :: st) w) : bf_A X Q nL pc lv (.int y :: .int x :: st) w := by
  intro H locs ls hP hD hS hL
  obtain ⟨hd, rfl⟩ := hd
  exact va_mmax C.1 C.2.1 (C.2.2.1.trans hL.1.symm) C.2.2.2.1 (C.2.2.2.2.1 _ hlk) (C.2.2.2.2.1 _ hst) (C.2.2.2.2.1 _ hini) (C.2.2.2.2.1 _ hco) (Nat.le_trans hfr hR.1) (by rw [bf_rest]; exact Nat.le_trans hlo hR.2.1) hR.2.2.1 hR.2.2.2 hd (kk H locs ls hP hD hS hL)
theorem bs_mmin (C : bf_C X own cc nL ret) (hR : bf_Rm X fr0 lo0) (hlk : Cond.methodLink own index Lib.Math.min.name ∈ lw_good) (hst : Cond.static Lib.Math.min.name ∈ lw_good) (hini : Cond.initialized "java/lang/Math" ∈ lw_good) (hco : Cond.code Lib.Math.min.name Lib.Math.min.code 2 (some .int) ∈ lw_good) (hfr : 1 ≤ fr0) (hlo : (st.map fun v => v.category).sum + 13 ≤ lo0) {x y : Int32} (hd : bf_D cc pc (.invokestatic index) 3 pc2) (kk : bf_A X Q nL pc2 lv (.int (if y < x then y else x) :: st) w) : bf_A X Q nL pc lv (.int y :: .int x :: st) w := by
  intro H locs ls hP hD hS hL
  obtain ⟨hd, rfl⟩ := hd
  exact va_mmin C.1 C.2.1 (C.2.2.1.trans hL.1.symm) C.2.2.2.1 (C.2.2.2.2.1 _ hlk) (C.2.2.2.2.1 _ hst) (C.2.2.2.2.1 _ hini) (C.2.2.2.2.1 _ hco) (Nat.le_trans hfr hR.1) (by rw [bf_rest]; exact Nat.le_trans hlo hR.2.1) hR.2.2.1 hR.2.2.2 hd (kk H locs ls hP hD hS hL)
theorem bs_copyI (C : bf_C X own cc nL ret) (hR : bf_Rm X fr0 lo0) (hlk : Cond.methodLink own index arraycopyName ∈ lw_good) (hnat : Cond.native arraycopyName ∈ lw_good) (hst : Cond.static arraycopyName ∈ lw_good) (hini : Cond.initialized "java/lang/System" ∈ lw_good) {q0 q1 n0 n1 : Nat} {f g : Nat → Int32} (he0 : w[q0]? = some (.inl (0, n0, .inl f))) (he1 : w[q1]? = some (.inl (0, n1, .inl g))) {sp dp n : Int32} (h1 : ¬ sp < 0) (h2 : ¬ dp < 0) (h3 : ¬ n < 0) (h4 : sp.toNatClampNeg + n.toNatClampNeg ≤ n0) (h5 : dp.toNatClampNeg + n.toNatClampNeg ≤ n1) (hfr : 1 ≤ fr0) (hlo : (st.map fun v => v.category).sum + (nativeFrameWords "java/lang/System" "arraycopy" 5 + 11) ≤ lo0) (hd : bf_D cc pc (.invokestatic index) 3 pc2) {w2 : bf_W} (hw2 : w.set q1 (.inl (0, n1, .inl (va_cpy f g sp.toNatClampNeg dp.toNatClampNeg n.toNatClampNeg))) = w2) (kk : bf_A X Q nL pc2 lv st w2) : bf_A X Q nL pc lv (.int n :: .int dp :: .ref q1 :: .int sp :: .ref q0 :: st) w := by
  intro H locs ls hP hD hS hL
  obtain ⟨hd, rfl⟩ := hd
  have hwe := bf_cw_set (xac X) (xal X) w q1 (.inl (0, n1, .inl (va_cpy f g sp.toNatClampNeg dp.toNatClampNeg n.toNatClampNeg)))
  rw [hw2] at hwe
  refine va_copyi C.1 C.2.1 (C.2.2.1.trans hL.1.symm) C.2.2.2.1 (C.2.2.2.2.1 _ hlk) (C.2.2.2.2.1 _ hnat) (C.2.2.2.2.1 _ hst) (C.2.2.2.2.1 _ hini) C.2.2.2.2.2.1 hP hD hS q0 q1 0 0 (bf_cw_some he0) (bf_cw_some he1) rfl rfl rfl h1 h2 h3 h4 h5 (fun _ _ => rfl) (Nat.le_trans hfr hR.1) (by rw [bf_rest]; exact Nat.le_trans hlo hR.2.1) hd (fun H1 locs1 hP1 hD1 hS1 => ?_)
  exact kk H1 locs1 ls (hwe ▸ hP1) (hwe ▸ hD1) hS1 hL
theorem bs_copyL (C : bf_C X own cc nL ret) (hR : bf_Rm X fr0 lo0) (hlk : Cond.methodLink own index arraycopyName ∈ lw_good) (hnat : Cond.native arraycopyName ∈ lw_good) (hst : Cond.static arraycopyName ∈ lw_good) (hini : Cond.initialized "java/lang/System" ∈ lw_good) {q0 q1 n0 n1 : Nat} {f g : Nat → Int64} (he0 : w[q0]? = some (.inl (1, n0, .inr (.inl f)))) (he1 : w[q1]? = some (.inl (1, n1, .inr (.inl g)))) {sp dp n : Int32} (h1 : ¬ sp < 0) (h2 : ¬ dp < 0) (h3 : ¬ n < 0) (h4 : sp.toNatClampNeg + n.toNatClampNeg ≤ n0) (h5 : dp.toNatClampNeg + n.toNatClampNeg ≤ n1) (hfr : 1 ≤ fr0) (hlo : (st.map fun v => v.category).sum + (nativeFrameWords "java/lang/System" "arraycopy" 5 + 11) ≤ lo0) (hd : bf_D cc pc (.invokestatic index) 3 pc2) {w2 : bf_W} (hw2 : w.set q1 (.inl (1, n1, .inr (.inl (va_cpy f g sp.toNatClampNeg dp.toNatClampNeg n.toNatClampNeg)))) = w2) (kk : bf_A X Q nL pc2 lv st w2) : bf_A X Q nL pc lv (.int n :: .int dp :: .ref q1 :: .int sp :: .ref q0 :: st) w := by
  intro H locs ls hP hD hS hL
  obtain ⟨hd, rfl⟩ := hd
  have hwe := bf_cw_set (xac X) (xal X) w q1 (.inl (1, n1, .inr (.inl (va_cpy f g sp.toNatClampNeg dp.toNatClampNeg n.toNatClampNeg))))
  rw [hw2] at hwe
  refine va_copyl C.1 C.2.1 (C.2.2.1.trans hL.1.symm) C.2.2.2.1 (C.2.2.2.2.1 _ hlk) (C.2.2.2.2.1 _ hnat) (C.2.2.2.2.1 _ hst) (C.2.2.2.2.1 _ hini) C.2.2.2.2.2.1 hP hD hS q0 q1 1 1 (bf_cw_some he0) (bf_cw_some he1) rfl rfl rfl h1 h2 h3 h4 h5 (fun _ _ => rfl) (Nat.le_trans hfr hR.1) (by rw [bf_rest]; exact Nat.le_trans hlo hR.2.1) hd (fun H1 locs1 hP1 hD1 hS1 => ?_)
  exact kk H1 locs1 ls (hwe ▸ hP1) (hwe ▸ hD1) hS1 hL
end BFLIB

