def RX0 : String := "OneMark$Board"
def TX0 : u_T := fun k => match k with
  | 0 => ("OneMark$Board", "places", "I", false)
  | 1 => ("OneMark$Board", "arrows", "I", false)
  | 2 => ("OneMark$Board", "ones", "I", false)
  | 3 => ("OneMark$Board", "number", "[I", true)
  | 4 => ("OneMark$Board", "told", "[I", true)
  | 5 => ("OneMark$Board", "start", "[I", true)
  | 6 => ("OneMark$Board", "end", "[I", true)
  | _ => ("OneMark$Board", "weight", "[I", true)
def tyX0 : Nat → FieldType := fun k => match k with
  | 0 => .int
  | 1 => .int
  | 2 => .int
  | 3 => .array .int
  | 4 => .array .int
  | 5 => .array .int
  | 6 => .array .int
  | _ => .array .int
abbrev wsX00 : List Cond := u_ws RX0 TX0 8
theorem nmX0 : ∀ a, a < 8 → ∀ b, b < 8 → a ≠ b → (TX0 a).2.1 ≠ (TX0 b).2.1 := by decide +kernel
theorem tyX0_ok : ∀ k, k < 8 → parseFieldDescriptor (TX0 k).2.2.1 = some (tyX0 k) := by decide +kernel
abbrev cX0_init : ByteArray := prog_2_method_1_code
def yX0_init : MethodName := ⟨RX0, "<init>", "()V"⟩
abbrev cX0_addPlace : ByteArray := prog_2_method_2_code
def yX0_addPlace : MethodName := ⟨RX0, "addPlace", "(II)I"⟩
abbrev cX0_addArrow : ByteArray := prog_2_method_3_code
def yX0_addArrow : MethodName := ⟨RX0, "addArrow", "(III)I"⟩
abbrev cX0_removeArrow : ByteArray := prog_2_method_4_code
def yX0_removeArrow : MethodName := ⟨RX0, "removeArrow", "(I)V"⟩
abbrev cX0_find : ByteArray := prog_2_method_5_code
def yX0_find : MethodName := ⟨RX0, "find", "(II)I"⟩
abbrev cX0_ownerOf : ByteArray := prog_2_method_6_code
def yX0_ownerOf : MethodName := ⟨RX0, "ownerOf", "(I)I"⟩
abbrev cX0_giveTo : ByteArray := prog_2_method_7_code
def yX0_giveTo : MethodName := ⟨RX0, "giveTo", "(II)V"⟩
abbrev cX0_isOpen : ByteArray := prog_2_method_8_code
def yX0_isOpen : MethodName := ⟨RX0, "isOpen", "(II)Z"⟩
abbrev cX0_toldPlaces : ByteArray := prog_2_method_9_code
def yX0_toldPlaces : MethodName := ⟨RX0, "toldPlaces", "()I"⟩
def RX1 : String := "OneMark$Loops"
def TX1 : u_T := fun k => match k with
  | 0 => ("OneMark$Loops", "row", "[I", true)
  | _ => ("OneMark$Loops", "moved", "I", false)
def tyX1 : Nat → FieldType := fun k => match k with
  | 0 => .array .int
  | _ => .int
abbrev wsX10 : List Cond := u_ws RX1 TX1 2
theorem nmX1 : ∀ a, a < 2 → ∀ b, b < 2 → a ≠ b → (TX1 a).2.1 ≠ (TX1 b).2.1 := by decide +kernel
theorem tyX1_ok : ∀ k, k < 2 → parseFieldDescriptor (TX1 k).2.2.1 = some (tyX1 k) := by decide +kernel
abbrev cX1_init : ByteArray := prog_3_method_1_code
def yX1_init : MethodName := ⟨RX1, "<init>", "()V"⟩
abbrev cX1_wrongPlaces : ByteArray := prog_3_method_2_code
def yX1_wrongPlaces : MethodName := ⟨RX1, "wrongPlaces", "(LOneMark$Moves;[II)I"⟩
abbrev cX1_isLeastOfLoop : ByteArray := prog_3_method_3_code
def yX1_isLeastOfLoop : MethodName := ⟨RX1, "isLeastOfLoop", "(LOneMark$Moves;[II)Z"⟩
abbrev cX1_findBreaker : ByteArray := prog_3_method_4_code
def yX1_findBreaker : MethodName := ⟨RX1, "findBreaker", "(LOneMark$Moves;[III)V"⟩
abbrev cX1_isExtended : ByteArray := prog_3_method_5_code
def yX1_isExtended : MethodName := ⟨RX1, "isExtended", "(LOneMark$Loops;LOneMark$Moves;[III)Z"⟩
abbrev cX1_indexOf : ByteArray := prog_3_method_6_code
def yX1_indexOf : MethodName := ⟨RX1, "indexOf", "(II)I"⟩
abbrev cX1_leastOf : ByteArray := prog_3_method_7_code
def yX1_leastOf : MethodName := ⟨RX1, "leastOf", "([III)I"⟩
def RX2 : String := "OneMark$Means"
def TX2 : u_T := fun k => match k with
  | 0 => ("OneMark$Means", "above", "I", false)
  | 1 => ("OneMark$Means", "below", "I", false)
  | 2 => ("OneMark$Means", "loopAbove", "I", false)
  | 3 => ("OneMark$Means", "loopBelow", "I", false)
  | 4 => ("OneMark$Means", "open", "[I", true)
  | 5 => ("OneMark$Means", "least", "[[I", true)
  | 6 => ("OneMark$Means", "sum", "[I", true)
  | _ => ("OneMark$Means", "newSum", "[I", true)
def tyX2 : Nat → FieldType := fun k => match k with
  | 0 => .int
  | 1 => .int
  | 2 => .int
  | 3 => .int
  | 4 => .array .int
  | 5 => .array (.array .int)
  | 6 => .array .int
  | _ => .array .int
abbrev wsX20 : List Cond := u_ws RX2 TX2 8
theorem nmX2 : ∀ a, a < 8 → ∀ b, b < 8 → a ≠ b → (TX2 a).2.1 ≠ (TX2 b).2.1 := by decide +kernel
theorem tyX2_ok : ∀ k, k < 8 → parseFieldDescriptor (TX2 k).2.2.1 = some (tyX2 k) := by decide +kernel
abbrev cX2_init : ByteArray := prog_4_method_1_code
def yX2_init : MethodName := ⟨RX2, "<init>", "()V"⟩
abbrev cX2_sumAfter : ByteArray := prog_4_method_2_code
def yX2_sumAfter : MethodName := ⟨RX2, "sumAfter", "(LOneMark$Moves;II)I"⟩
abbrev cX2_addMove : ByteArray := prog_4_method_3_code
def yX2_addMove : MethodName := ⟨RX2, "addMove", "(LOneMark$Moves;)V"⟩
abbrev cX2_findSure : ByteArray := prog_4_method_4_code
def yX2_findSure : MethodName := ⟨RX2, "findSure", "(LOneMark$Moves;II)V"⟩
abbrev cX2_isHeld : ByteArray := prog_4_method_5_code
def yX2_isHeld : MethodName := ⟨RX2, "isHeld", "(LOneMark$Moves;III)Z"⟩
abbrev cX2_isRaised : ByteArray := prog_4_method_6_code
def yX2_isRaised : MethodName := ⟨RX2, "isRaised", "(LOneMark$Moves;III)Z"⟩
abbrev cX2_findLeft : ByteArray := prog_4_method_7_code
def yX2_findLeft : MethodName := ⟨RX2, "findLeft", "(LOneMark$Moves;II)V"⟩
abbrev cX2_plansOf : ByteArray := prog_4_method_8_code
def yX2_plansOf : MethodName := ⟨RX2, "plansOf", "(LOneMark$Moves;I)I"⟩
abbrev cX2_findBest : ByteArray := prog_4_method_9_code
def yX2_findBest : MethodName := ⟨RX2, "findBest", "(LOneMark$Moves;IIII)V"⟩
abbrev cX2_choosePlan : ByteArray := prog_4_method_10_code
def yX2_choosePlan : MethodName := ⟨RX2, "choosePlan", "(LOneMark$Moves;II)V"⟩
abbrev cX2_bitAt : ByteArray := prog_4_method_11_code
def yX2_bitAt : MethodName := ⟨RX2, "bitAt", "(II)I"⟩
abbrev cX2_findLeastLoop : ByteArray := prog_4_method_12_code
def yX2_findLeastLoop : MethodName := ⟨RX2, "findLeastLoop", "(LOneMark$Moves;II)V"⟩
abbrev cX2_walk : ByteArray := prog_4_method_13_code
def yX2_walk : MethodName := ⟨RX2, "walk", "(LOneMark$Moves;II)V"⟩
def RX3 : String := "OneMark$Moves"
def TX3 : u_T := fun k => match k with
  | 0 => ("OneMark$Moves", "places", "I", false)
  | 1 => ("OneMark$Moves", "ones", "I", false)
  | 2 => ("OneMark$Moves", "size", "I", false)
  | 3 => ("OneMark$Moves", "start", "[I", true)
  | 4 => ("OneMark$Moves", "end", "[I", true)
  | 5 => ("OneMark$Moves", "weight", "[I", true)
  | _ => ("OneMark$Moves", "next", "[I", true)
def tyX3 : Nat → FieldType := fun k => match k with
  | 0 => .int
  | 1 => .int
  | 2 => .int
  | 3 => .array .int
  | 4 => .array .int
  | 5 => .array .int
  | _ => .array .int
abbrev wsX30 : List Cond := u_ws RX3 TX3 7
theorem nmX3 : ∀ a, a < 7 → ∀ b, b < 7 → a ≠ b → (TX3 a).2.1 ≠ (TX3 b).2.1 := by decide +kernel
theorem tyX3_ok : ∀ k, k < 7 → parseFieldDescriptor (TX3 k).2.2.1 = some (tyX3 k) := by decide +kernel
abbrev cX3_init : ByteArray := prog_5_method_1_code
def yX3_init : MethodName := ⟨RX3, "<init>", "()V"⟩
abbrev cX3_load : ByteArray := prog_5_method_2_code
def yX3_load : MethodName := ⟨RX3, "load", "(LOneMark$Board;II)V"⟩
abbrev cX3_loadTold : ByteArray := prog_5_method_3_code
def yX3_loadTold : MethodName := ⟨RX3, "loadTold", "(LOneMark$Board;I)V"⟩
abbrev cX3_clear : ByteArray := prog_5_method_4_code
def yX3_clear : MethodName := ⟨RX3, "clear", "(LOneMark$Board;I)V"⟩
abbrev cX3_add : ByteArray := prog_5_method_5_code
def yX3_add : MethodName := ⟨RX3, "add", "(III)V"⟩
abbrev cX3_addStays : ByteArray := prog_5_method_6_code
def yX3_addStays : MethodName := ⟨RX3, "addStays", "()V"⟩
abbrev cX3_weighBySet : ByteArray := prog_5_method_7_code
def yX3_weighBySet : MethodName := ⟨RX3, "weighBySet", "(I)V"⟩
abbrev cX3_everywhere : ByteArray := prog_5_method_8_code
def yX3_everywhere : MethodName := ⟨RX3, "everywhere", "()I"⟩
abbrev cX3_placesOf : ByteArray := prog_5_method_9_code
def yX3_placesOf : MethodName := ⟨RX3, "placesOf", "(I)I"⟩
abbrev cX3_branching : ByteArray := prog_5_method_10_code
def yX3_branching : MethodName := ⟨RX3, "branching", "()I"⟩
abbrev cX3_oneMoveFrom : ByteArray := prog_5_method_11_code
def yX3_oneMoveFrom : MethodName := ⟨RX3, "oneMoveFrom", "(III)I"⟩
abbrev cX3_attracted : ByteArray := prog_5_method_12_code
def yX3_attracted : MethodName := ⟨RX3, "attracted", "(III)I"⟩
abbrev cX3_movesInto : ByteArray := prog_5_method_13_code
def yX3_movesInto : MethodName := ⟨RX3, "movesInto", "(III)I"⟩
abbrev cX3_keeping : ByteArray := prog_5_method_14_code
def yX3_keeping : MethodName := ⟨RX3, "keeping", "(II)I"⟩
abbrev cX3_meeting : ByteArray := prog_5_method_15_code
def yX3_meeting : MethodName := ⟨RX3, "meeting", "(III)I"⟩
abbrev cX3_withoutLost : ByteArray := prog_5_method_16_code
def yX3_withoutLost : MethodName := ⟨RX3, "withoutLost", "(III)I"⟩
abbrev cX3_wonBy : ByteArray := prog_5_method_17_code
def yX3_wonBy : MethodName := ⟨RX3, "wonBy", "(I[I)I"⟩
abbrev cX3_evenPlaces : ByteArray := prog_5_method_18_code
def yX3_evenPlaces : MethodName := ⟨RX3, "evenPlaces", "(LOneMark$Moves;[III)I"⟩
abbrev cX3_leastNumber : ByteArray := prog_5_method_19_code
def yX3_leastNumber : MethodName := ⟨RX3, "leastNumber", "(LOneMark$Moves;[II)I"⟩
abbrev cX3_holders : ByteArray := prog_5_method_20_code
def yX3_holders : MethodName := ⟨RX3, "holders", "(LOneMark$Moves;[III)I"⟩
def RX4 : String := "OneMark$Question"
def TX4 : u_T := fun k => match k with
  | 0 => ("OneMark$Question", "units", "I", false)
  | 1 => ("OneMark$Question", "kind", "[I", true)
  | 2 => ("OneMark$Question", "player", "[I", true)
  | 3 => ("OneMark$Question", "bits", "[I", true)
  | 4 => ("OneMark$Question", "at", "[I", true)
  | 5 => ("OneMark$Question", "bound", "[I", true)
  | 6 => ("OneMark$Question", "size", "I", false)
  | 7 => ("OneMark$Question", "code", "[I", true)
  | 8 => ("OneMark$Question", "held", "I", false)
  | 9 => ("OneMark$Question", "waiting", "[I", true)
  | _ => ("OneMark$Question", "unit", "I", false)
def tyX4 : Nat → FieldType := fun k => match k with
  | 0 => .int
  | 1 => .array .int
  | 2 => .array .int
  | 3 => .array .int
  | 4 => .array .int
  | 5 => .array .int
  | 6 => .int
  | 7 => .array .int
  | 8 => .int
  | 9 => .array .int
  | _ => .int
abbrev wsX40 : List Cond := u_ws RX4 TX4 11
theorem nmX4 : ∀ a, a < 11 → ∀ b, b < 11 → a ≠ b → (TX4 a).2.1 ≠ (TX4 b).2.1 := by decide +kernel
theorem tyX4_ok : ∀ k, k < 11 → parseFieldDescriptor (TX4 k).2.2.1 = some (tyX4 k) := by decide +kernel
abbrev cX4_init : ByteArray := prog_6_method_1_code
def yX4_init : MethodName := ⟨RX4, "<init>", "()V"⟩
abbrev cX4_clear : ByteArray := prog_6_method_2_code
def yX4_clear : MethodName := ⟨RX4, "clear", "()V"⟩
abbrev cX4_begin : ByteArray := prog_6_method_3_code
def yX4_begin : MethodName := ⟨RX4, "begin", "(II)V"⟩
abbrev cX4_endUnit : ByteArray := prog_6_method_4_code
def yX4_endUnit : MethodName := ⟨RX4, "endUnit", "()V"⟩
abbrev cX4_hold : ByteArray := prog_6_method_5_code
def yX4_hold : MethodName := ⟨RX4, "hold", "(I)V"⟩
abbrev cX4_lastHeld : ByteArray := prog_6_method_6_code
def yX4_lastHeld : MethodName := ⟨RX4, "lastHeld", "()I"⟩
abbrev cX4_emit : ByteArray := prog_6_method_7_code
def yX4_emit : MethodName := ⟨RX4, "emit", "(I)V"⟩
abbrev cX4_emitNots : ByteArray := prog_6_method_8_code
def yX4_emitNots : MethodName := ⟨RX4, "emitNots", "()V"⟩
abbrev cX4_join : ByteArray := prog_6_method_9_code
def yX4_join : MethodName := ⟨RX4, "join", "(I)V"⟩
abbrev cX4_closeParenthesis : ByteArray := prog_6_method_10_code
def yX4_closeParenthesis : MethodName := ⟨RX4, "closeParenthesis", "()V"⟩
abbrev cX4_emitHeld : ByteArray := prog_6_method_11_code
def yX4_emitHeld : MethodName := ⟨RX4, "emitHeld", "()V"⟩
abbrev cX4_isTrue : ByteArray := prog_6_method_12_code
def yX4_isTrue : MethodName := ⟨RX4, "isTrue", "(LOneMark$Board;LOneMark$Moves;LOneMark$Means;II)Z"⟩
abbrev cX4_isUnitTrue : ByteArray := prog_6_method_13_code
def yX4_isUnitTrue : MethodName := ⟨RX4, "isUnitTrue", "(ILOneMark$Moves;LOneMark$Means;[I)Z"⟩
def RX5 : String := "OneMark$Reader"
def TX5 : u_T := fun k => match k with
  | 0 => ("OneMark$Reader", "length", "I", false)
  | 1 => ("OneMark$Reader", "bytes", "[I", true)
  | 2 => ("OneMark$Reader", "cursor", "I", false)
  | 3 => ("OneMark$Reader", "first", "I", false)
  | 4 => ("OneMark$Reader", "token", "I", false)
  | 5 => ("OneMark$Reader", "value", "I", false)
  | 6 => ("OneMark$Reader", "depth", "I", false)
  | _ => ("OneMark$Reader", "question", "LOneMark$Question;", false)
def tyX5 : Nat → FieldType := fun k => match k with
  | 0 => .int
  | 1 => .array .int
  | 2 => .int
  | 3 => .int
  | 4 => .int
  | 5 => .int
  | 6 => .int
  | _ => .object "OneMark$Question"
abbrev wsX50 : List Cond := u_ws RX5 TX5 8
theorem nmX5 : ∀ a, a < 8 → ∀ b, b < 8 → a ≠ b → (TX5 a).2.1 ≠ (TX5 b).2.1 := by decide +kernel
theorem tyX5_ok : ∀ k, k < 8 → parseFieldDescriptor (TX5 k).2.2.1 = some (tyX5 k) := by decide +kernel
abbrev cX5_init : ByteArray := prog_7_method_1_code
def yX5_init : MethodName := ⟨RX5, "<init>", "()V"⟩
abbrev cX5_add : ByteArray := prog_7_method_2_code
def yX5_add : MethodName := ⟨RX5, "add", "(I)V"⟩
abbrev cX5_read : ByteArray := prog_7_method_3_code
def yX5_read : MethodName := ⟨RX5, "read", "(LOneMark$Question;I)I"⟩
abbrev cX5_stateAfter : ByteArray := prog_7_method_4_code
def yX5_stateAfter : MethodName := ⟨RX5, "stateAfter", "(II)I"⟩
abbrev cX5_beginUnit : ByteArray := prog_7_method_5_code
def yX5_beginUnit : MethodName := ⟨RX5, "beginUnit", "()I"⟩
abbrev cX5_joinUnits : ByteArray := prog_7_method_6_code
def yX5_joinUnits : MethodName := ⟨RX5, "joinUnits", "()I"⟩
abbrev cX5_takeVerb : ByteArray := prog_7_method_7_code
def yX5_takeVerb : MethodName := ⟨RX5, "takeVerb", "()I"⟩
abbrev cX5_takeMember : ByteArray := prog_7_method_8_code
def yX5_takeMember : MethodName := ⟨RX5, "takeMember", "(I)I"⟩
abbrev cX5_takePlace : ByteArray := prog_7_method_9_code
def yX5_takePlace : MethodName := ⟨RX5, "takePlace", "(I)Z"⟩
abbrev cX5_takeSide : ByteArray := prog_7_method_10_code
def yX5_takeSide : MethodName := ⟨RX5, "takeSide", "()I"⟩
abbrev cX5_takeBound : ByteArray := prog_7_method_11_code
def yX5_takeBound : MethodName := ⟨RX5, "takeBound", "()Z"⟩
abbrev cX5_endUnit : ByteArray := prog_7_method_12_code
def yX5_endUnit : MethodName := ⟨RX5, "endUnit", "()I"⟩
abbrev cX5_isPlaceNumber : ByteArray := prog_7_method_13_code
def yX5_isPlaceNumber : MethodName := ⟨RX5, "isPlaceNumber", "(I)Z"⟩
abbrev cX5_readToken : ByteArray := prog_7_method_14_code
def yX5_readToken : MethodName := ⟨RX5, "readToken", "()V"⟩
abbrev cX5_isLetter : ByteArray := prog_7_method_15_code
def yX5_isLetter : MethodName := ⟨RX5, "isLetter", "(I)Z"⟩
abbrev cX5_isDigit : ByteArray := prog_7_method_16_code
def yX5_isDigit : MethodName := ⟨RX5, "isDigit", "(I)Z"⟩
abbrev cX5_numberValue : ByteArray := prog_7_method_17_code
def yX5_numberValue : MethodName := ⟨RX5, "numberValue", "()I"⟩
abbrev cX5_wordToken : ByteArray := prog_7_method_18_code
def yX5_wordToken : MethodName := ⟨RX5, "wordToken", "()I"⟩
abbrev cX5_isWord : ByteArray := prog_7_method_19_code
def yX5_isWord : MethodName := ⟨RX5, "isWord", "(Ljava/lang/String;)Z"⟩
def RX6 : String := "OneMark"
def TX6 : u_T := fun k => match k with
  | 0 => ("OneMark", "board", "LOneMark$Board;", true)
  | 1 => ("OneMark", "moves", "LOneMark$Moves;", true)
  | 2 => ("OneMark", "loops", "LOneMark$Loops;", true)
  | 3 => ("OneMark", "means", "LOneMark$Means;", true)
  | 4 => ("OneMark", "reader", "LOneMark$Reader;", true)
  | 5 => ("OneMark", "asked", "LOneMark$Question;", false)
  | _ => ("OneMark", "draft", "LOneMark$Question;", false)
def tyX6 : Nat → FieldType := fun k => match k with
  | 0 => .object "OneMark$Board"
  | 1 => .object "OneMark$Moves"
  | 2 => .object "OneMark$Loops"
  | 3 => .object "OneMark$Means"
  | 4 => .object "OneMark$Reader"
  | 5 => .object "OneMark$Question"
  | _ => .object "OneMark$Question"
abbrev wsX60 : List Cond := u_ws RX6 TX6 7
theorem nmX6 : ∀ a, a < 7 → ∀ b, b < 7 → a ≠ b → (TX6 a).2.1 ≠ (TX6 b).2.1 := by decide +kernel
theorem tyX6_ok : ∀ k, k < 7 → parseFieldDescriptor (TX6 k).2.2.1 = some (tyX6 k) := by decide +kernel
abbrev cX6_init : ByteArray := prog_1_method_1_code
def yX6_init : MethodName := ⟨RX6, "<init>", "()V"⟩
abbrev cX6_place : ByteArray := prog_1_method_2_code
def yX6_place : MethodName := ⟨RX6, "place", "(II)I"⟩
abbrev cX6_arrow : ByteArray := prog_1_method_3_code
def yX6_arrow : MethodName := ⟨RX6, "arrow", "(III)I"⟩
abbrev cX6_cut : ByteArray := prog_1_method_4_code
def yX6_cut : MethodName := ⟨RX6, "cut", "(I)I"⟩
abbrev cX6_give : ByteArray := prog_1_method_5_code
def yX6_give : MethodName := ⟨RX6, "give", "(II)I"⟩
abbrev cX6_set : ByteArray := prog_1_method_6_code
def yX6_set : MethodName := ⟨RX6, "set", "(III)I"⟩
abbrev cX6_from : ByteArray := prog_1_method_7_code
def yX6_from : MethodName := ⟨RX6, "from", "(II)I"⟩
abbrev cX6_forced : ByteArray := prog_1_method_8_code
def yX6_forced : MethodName := ⟨RX6, "forced", "(II)I"⟩
abbrev cX6_steps : ByteArray := prog_1_method_9_code
def yX6_steps : MethodName := ⟨RX6, "steps", "(III)I"⟩
abbrev cX6_kept : ByteArray := prog_1_method_10_code
def yX6_kept : MethodName := ⟨RX6, "kept", "(II)I"⟩
abbrev cX6_again : ByteArray := prog_1_method_11_code
def yX6_again : MethodName := ⟨RX6, "again", "(II)I"⟩
abbrev cX6_both : ByteArray := prog_1_method_12_code
def yX6_both : MethodName := ⟨RX6, "both", "(III)I"⟩
abbrev cX6_won : ByteArray := prog_1_method_13_code
def yX6_won : MethodName := ⟨RX6, "won", "()I"⟩
abbrev cX6_plan : ByteArray := prog_1_method_14_code
def yX6_plan : MethodName := ⟨RX6, "plan", "(I)I"⟩
abbrev cX6_narrowed : ByteArray := prog_1_method_15_code
def yX6_narrowed : MethodName := ⟨RX6, "narrowed", "(III)I"⟩
abbrev cX6_after : ByteArray := prog_1_method_16_code
def yX6_after : MethodName := ⟨RX6, "after", "(II)I"⟩
abbrev cX6_mean : ByteArray := prog_1_method_17_code
def yX6_mean : MethodName := ⟨RX6, "mean", "(II)I"⟩
abbrev cX6_rate : ByteArray := prog_1_method_18_code
def yX6_rate : MethodName := ⟨RX6, "rate", "(IIII)I"⟩
abbrev cX6_tell : ByteArray := prog_1_method_19_code
def yX6_tell : MethodName := ⟨RX6, "tell", "(I)I"⟩
abbrev cX6_untell : ByteArray := prog_1_method_20_code
def yX6_untell : MethodName := ⟨RX6, "untell", "(I)I"⟩
abbrev cX6_judged : ByteArray := prog_1_method_21_code
def yX6_judged : MethodName := ⟨RX6, "judged", "(I)I"⟩
abbrev cX6_breaker : ByteArray := prog_1_method_22_code
def yX6_breaker : MethodName := ⟨RX6, "breaker", "(III)I"⟩
abbrev cX6_worth : ByteArray := prog_1_method_23_code
def yX6_worth : MethodName := ⟨RX6, "worth", "(III)I"⟩
abbrev cX6_oddness : ByteArray := prog_1_method_24_code
def yX6_oddness : MethodName := ⟨RX6, "oddness", "(I)I"⟩
abbrev cX6_write : ByteArray := prog_1_method_25_code
def yX6_write : MethodName := ⟨RX6, "write", "(JI)I"⟩
abbrev cX6_erase : ByteArray := prog_1_method_26_code
def yX6_erase : MethodName := ⟨RX6, "erase", "()I"⟩
abbrev cX6_fault : ByteArray := prog_1_method_27_code
def yX6_fault : MethodName := ⟨RX6, "fault", "()I"⟩
abbrev cX6_ask : ByteArray := prog_1_method_28_code
def yX6_ask : MethodName := ⟨RX6, "ask", "()I"⟩
abbrev cX6_holds : ByteArray := prog_1_method_29_code
def yX6_holds : MethodName := ⟨RX6, "holds", "()I"⟩
abbrev cX6_turned : ByteArray := prog_1_method_30_code
def yX6_turned : MethodName := ⟨RX6, "turned", "()I"⟩
abbrev cX6_bought : ByteArray := prog_1_method_31_code
def yX6_bought : MethodName := ⟨RX6, "bought", "()I"⟩
abbrev cX6_count : ByteArray := prog_1_method_32_code
def yX6_count : MethodName := ⟨RX6, "count", "(I)I"⟩
abbrev cX6_isPlayer : ByteArray := prog_1_method_33_code
def yX6_isPlayer : MethodName := ⟨RX6, "isPlayer", "(I)Z"⟩
abbrev cX6_isNumber : ByteArray := prog_1_method_34_code
def yX6_isNumber : MethodName := ⟨RX6, "isNumber", "(I)Z"⟩
abbrev cX6_isWeight : ByteArray := prog_1_method_35_code
def yX6_isWeight : MethodName := ⟨RX6, "isWeight", "(I)Z"⟩
abbrev cX6_isPart : ByteArray := prog_1_method_36_code
def yX6_isPart : MethodName := ⟨RX6, "isPart", "(I)Z"⟩
abbrev cX6_isPlace : ByteArray := prog_1_method_37_code
def yX6_isPlace : MethodName := ⟨RX6, "isPlace", "(I)Z"⟩
abbrev cX6_isArrow : ByteArray := prog_1_method_38_code
def yX6_isArrow : MethodName := ⟨RX6, "isArrow", "(I)Z"⟩
abbrev cX6_isSet : ByteArray := prog_1_method_39_code
def yX6_isSet : MethodName := ⟨RX6, "isSet", "(I)Z"⟩
def RX7 : String := "OneMarkModel"
def TX7 : u_T := fun k => match k with
  | 0 => ("OneMarkModel", "whose", "[I", true)
  | 1 => ("OneMarkModel", "number", "[I", true)
  | 2 => ("OneMarkModel", "places", "I", false)
  | 3 => ("OneMarkModel", "tail", "[I", true)
  | 4 => ("OneMarkModel", "head", "[I", true)
  | 5 => ("OneMarkModel", "weight", "[I", true)
  | 6 => ("OneMarkModel", "arrows", "I", false)
  | 7 => ("OneMarkModel", "told", "[I", true)
  | 8 => ("OneMarkModel", "text", "[I", true)
  | 9 => ("OneMarkModel", "length", "I", false)
  | 10 => ("OneMarkModel", "kinds", "[I", true)
  | 11 => ("OneMarkModel", "players", "[I", true)
  | 12 => ("OneMarkModel", "sets", "[I", true)
  | 13 => ("OneMarkModel", "ats", "[I", true)
  | 14 => ("OneMarkModel", "readMany", "I", false)
  | 15 => ("OneMarkModel", "askedMany", "I", false)
  | 16 => ("OneMarkModel", "moves", "[I", true)
  | 17 => ("OneMarkModel", "alone", "[I", true)
  | 18 => ("OneMarkModel", "without", "I", false)
  | 19 => ("OneMarkModel", "measure", "[I", true)
  | 20 => ("OneMarkModel", "most", "[I", true)
  | 21 => ("OneMarkModel", "value", "[I", true)
  | 22 => ("OneMarkModel", "then", "[I", true)
  | 23 => ("OneMarkModel", "above", "I", false)
  | 24 => ("OneMarkModel", "below", "I", false)
  | 25 => ("OneMarkModel", "row", "[I", true)
  | 26 => ("OneMarkModel", "rowMany", "I", false)
  | 27 => ("OneMarkModel", "sums", "[I", true)
  | 28 => ("OneMarkModel", "more", "[I", true)
  | 29 => ("OneMarkModel", "at", "I", false)
  | 30 => ("OneMarkModel", "place", "I", false)
  | 31 => ("OneMarkModel", "end", "I", false)
  | 32 => ("OneMarkModel", "figure", "I", false)
  | 33 => ("OneMarkModel", "open", "[I", true)
  | 34 => ("OneMarkModel", "opens", "I", false)
  | 35 => ("OneMarkModel", "brackets", "I", false)
  | _ => ("OneMarkModel", "stack", "[Z", true)
def tyX7 : Nat → FieldType := fun k => match k with
  | 0 => .array .int
  | 1 => .array .int
  | 2 => .int
  | 3 => .array .int
  | 4 => .array .int
  | 5 => .array .int
  | 6 => .int
  | 7 => .array .int
  | 8 => .array .int
  | 9 => .int
  | 10 => .array .int
  | 11 => .array .int
  | 12 => .array .int
  | 13 => .array .int
  | 14 => .int
  | 15 => .int
  | 16 => .array .int
  | 17 => .array .int
  | 18 => .int
  | 19 => .array .int
  | 20 => .array .int
  | 21 => .array .int
  | 22 => .array .int
  | 23 => .int
  | 24 => .int
  | 25 => .array .int
  | 26 => .int
  | 27 => .array .int
  | 28 => .array .int
  | 29 => .int
  | 30 => .int
  | 31 => .int
  | 32 => .int
  | 33 => .array .int
  | 34 => .int
  | 35 => .int
  | _ => .array .boolean
abbrev wsX70 : List Cond := u_ws RX7 TX7 37
theorem nmX7 : ∀ a, a < 37 → ∀ b, b < 37 → a ≠ b → (TX7 a).2.1 ≠ (TX7 b).2.1 := by decide +kernel
theorem tyX7_ok : ∀ k, k < 37 → parseFieldDescriptor (TX7 k).2.2.1 = some (tyX7 k) := by decide +kernel
abbrev cX7_init : ByteArray := prog_9_method_1_code
def yX7_init : MethodName := ⟨RX7, "<init>", "()V"⟩
abbrev cX7_in : ByteArray := prog_9_method_2_code
def yX7_in : MethodName := ⟨RX7, "in", "(JJJ)Z"⟩
abbrev cX7_isPlace : ByteArray := prog_9_method_3_code
def yX7_isPlace : MethodName := ⟨RX7, "isPlace", "(I)Z"⟩
abbrev cX7_isArrow : ByteArray := prog_9_method_4_code
def yX7_isArrow : MethodName := ⟨RX7, "isArrow", "(I)Z"⟩
abbrev cX7_isSet : ByteArray := prog_9_method_5_code
def yX7_isSet : MethodName := ⟨RX7, "isSet", "(I)Z"⟩
abbrev cX7_isPlayer : ByteArray := prog_9_method_6_code
def yX7_isPlayer : MethodName := ⟨RX7, "isPlayer", "(I)Z"⟩
abbrev cX7_place : ByteArray := prog_9_method_7_code
def yX7_place : MethodName := ⟨RX7, "place", "(II)I"⟩
abbrev cX7_arrowOf : ByteArray := prog_9_method_8_code
def yX7_arrowOf : MethodName := ⟨RX7, "arrowOf", "(II)I"⟩
abbrev cX7_arrow : ByteArray := prog_9_method_9_code
def yX7_arrow : MethodName := ⟨RX7, "arrow", "(III)I"⟩
abbrev cX7_cut : ByteArray := prog_9_method_10_code
def yX7_cut : MethodName := ⟨RX7, "cut", "(I)I"⟩
abbrev cX7_give : ByteArray := prog_9_method_11_code
def yX7_give : MethodName := ⟨RX7, "give", "(II)I"⟩
abbrev cX7_set : ByteArray := prog_9_method_12_code
def yX7_set : MethodName := ⟨RX7, "set", "(III)I"⟩
abbrev cX7_from : ByteArray := prog_9_method_13_code
def yX7_from : MethodName := ⟨RX7, "from", "(II)I"⟩
abbrev cX7_isUsed : ByteArray := prog_9_method_14_code
def yX7_isUsed : MethodName := ⟨RX7, "isUsed", "(I)Z"⟩
abbrev cX7_layMoves : ByteArray := prog_9_method_15_code
def yX7_layMoves : MethodName := ⟨RX7, "layMoves", "()V"⟩
abbrev cX7_noneAlone : ByteArray := prog_9_method_16_code
def yX7_noneAlone : MethodName := ⟨RX7, "noneAlone", "()V"⟩
abbrev cX7_bring : ByteArray := prog_9_method_17_code
def yX7_bring : MethodName := ⟨RX7, "bring", "(II)I"⟩
abbrev cX7_forcedTo : ByteArray := prog_9_method_18_code
def yX7_forcedTo : MethodName := ⟨RX7, "forcedTo", "(II)I"⟩
abbrev cX7_forced : ByteArray := prog_9_method_19_code
def yX7_forced : MethodName := ⟨RX7, "forced", "(II)I"⟩
abbrev cX7_steps : ByteArray := prog_9_method_20_code
def yX7_steps : MethodName := ⟨RX7, "steps", "(III)I"⟩
abbrev cX7_keptIn : ByteArray := prog_9_method_21_code
def yX7_keptIn : MethodName := ⟨RX7, "keptIn", "(II)I"⟩
abbrev cX7_kept : ByteArray := prog_9_method_22_code
def yX7_kept : MethodName := ⟨RX7, "kept", "(II)I"⟩
abbrev cX7_bothOf : ByteArray := prog_9_method_23_code
def yX7_bothOf : MethodName := ⟨RX7, "bothOf", "(III)I"⟩
abbrev cX7_again : ByteArray := prog_9_method_24_code
def yX7_again : MethodName := ⟨RX7, "again", "(II)I"⟩
abbrev cX7_both : ByteArray := prog_9_method_25_code
def yX7_both : MethodName := ⟨RX7, "both", "(III)I"⟩
abbrev cX7_unit : ByteArray := prog_9_method_26_code
def yX7_unit : MethodName := ⟨RX7, "unit", "(I)I"⟩
abbrev cX7_needed : ByteArray := prog_9_method_27_code
def yX7_needed : MethodName := ⟨RX7, "needed", "(II)I"⟩
abbrev cX7_liftOf : ByteArray := prog_9_method_28_code
def yX7_liftOf : MethodName := ⟨RX7, "liftOf", "(I)I"⟩
abbrev cX7_wonNow : ByteArray := prog_9_method_29_code
def yX7_wonNow : MethodName := ⟨RX7, "wonNow", "()I"⟩
abbrev cX7_won : ByteArray := prog_9_method_30_code
def yX7_won : MethodName := ⟨RX7, "won", "()I"⟩
abbrev cX7_wonBy : ByteArray := prog_9_method_31_code
def yX7_wonBy : MethodName := ⟨RX7, "wonBy", "(I)I"⟩
abbrev cX7_hasArrows : ByteArray := prog_9_method_32_code
def yX7_hasArrows : MethodName := ⟨RX7, "hasArrows", "(I)Z"⟩
abbrev cX7_plan : ByteArray := prog_9_method_33_code
def yX7_plan : MethodName := ⟨RX7, "plan", "(I)I"⟩
abbrev cX7_weightOf : ByteArray := prog_9_method_34_code
def yX7_weightOf : MethodName := ⟨RX7, "weightOf", "(II)I"⟩
abbrev cX7_oneMore : ByteArray := prog_9_method_35_code
def yX7_oneMore : MethodName := ⟨RX7, "oneMore", "(II)V"⟩
abbrev cX7_layValues : ByteArray := prog_9_method_36_code
def yX7_layValues : MethodName := ⟨RX7, "layValues", "(III)V"⟩
abbrev cX7_after : ByteArray := prog_9_method_37_code
def yX7_after : MethodName := ⟨RX7, "after", "(II)I"⟩
abbrev cX7_nearest : ByteArray := prog_9_method_38_code
def yX7_nearest : MethodName := ⟨RX7, "nearest", "(I)V"⟩
abbrev cX7_mean : ByteArray := prog_9_method_39_code
def yX7_mean : MethodName := ⟨RX7, "mean", "(II)I"⟩
abbrev cX7_rate : ByteArray := prog_9_method_40_code
def yX7_rate : MethodName := ⟨RX7, "rate", "(IIII)I"⟩
abbrev cX7_tell : ByteArray := prog_9_method_41_code
def yX7_tell : MethodName := ⟨RX7, "tell", "(I)I"⟩
abbrev cX7_untell : ByteArray := prog_9_method_42_code
def yX7_untell : MethodName := ⟨RX7, "untell", "(I)I"⟩
abbrev cX7_layTold : ByteArray := prog_9_method_43_code
def yX7_layTold : MethodName := ⟨RX7, "layTold", "(I)V"⟩
abbrev cX7_reachFrom : ByteArray := prog_9_method_44_code
def yX7_reachFrom : MethodName := ⟨RX7, "reachFrom", "(II)I"⟩
abbrev cX7_badFor : ByteArray := prog_9_method_45_code
def yX7_badFor : MethodName := ⟨RX7, "badFor", "(I)I"⟩
abbrev cX7_rightOf : ByteArray := prog_9_method_46_code
def yX7_rightOf : MethodName := ⟨RX7, "rightOf", "(I)I"⟩
abbrev cX7_judged : ByteArray := prog_9_method_47_code
def yX7_judged : MethodName := ⟨RX7, "judged", "(I)I"⟩
abbrev cX7_placeIn : ByteArray := prog_9_method_48_code
def yX7_placeIn : MethodName := ⟨RX7, "placeIn", "(I)I"⟩
abbrev cX7_isBadFrom : ByteArray := prog_9_method_49_code
def yX7_isBadFrom : MethodName := ⟨RX7, "isBadFrom", "(II)Z"⟩
abbrev cX7_closes : ByteArray := prog_9_method_50_code
def yX7_closes : MethodName := ⟨RX7, "closes", "(III)Z"⟩
abbrev cX7_breaker : ByteArray := prog_9_method_51_code
def yX7_breaker : MethodName := ⟨RX7, "breaker", "(III)I"⟩
abbrev cX7_worth : ByteArray := prog_9_method_52_code
def yX7_worth : MethodName := ⟨RX7, "worth", "(III)I"⟩
abbrev cX7_addMoves : ByteArray := prog_9_method_53_code
def yX7_addMoves : MethodName := ⟨RX7, "addMoves", "(I)V"⟩
abbrev cX7_divisor : ByteArray := prog_9_method_54_code
def yX7_divisor : MethodName := ⟨RX7, "divisor", "(II)I"⟩
abbrev cX7_write : ByteArray := prog_9_method_55_code
def yX7_write : MethodName := ⟨RX7, "write", "(JI)I"⟩
abbrev cX7_erase : ByteArray := prog_9_method_56_code
def yX7_erase : MethodName := ⟨RX7, "erase", "()I"⟩
abbrev cX7_sort : ByteArray := prog_9_method_57_code
def yX7_sort : MethodName := ⟨RX7, "sort", "(I)I"⟩
abbrev cX7_token : ByteArray := prog_9_method_58_code
def yX7_token : MethodName := ⟨RX7, "token", "()V"⟩
abbrev cX7_isWord : ByteArray := prog_9_method_59_code
def yX7_isWord : MethodName := ⟨RX7, "isWord", "(II)Z"⟩
abbrev cX7_skips : ByteArray := prog_9_method_60_code
def yX7_skips : MethodName := ⟨RX7, "skips", "(II)Z"⟩
abbrev cX7_isSign : ByteArray := prog_9_method_61_code
def yX7_isSign : MethodName := ⟨RX7, "isSign", "(I)Z"⟩
abbrev cX7_isNumber : ByteArray := prog_9_method_62_code
def yX7_isNumber : MethodName := ⟨RX7, "isNumber", "(I)Z"⟩
abbrev cX7_emit : ByteArray := prog_9_method_63_code
def yX7_emit : MethodName := ⟨RX7, "emit", "(IIII)V"⟩
abbrev cX7_readsPlace : ByteArray := prog_9_method_64_code
def yX7_readsPlace : MethodName := ⟨RX7, "readsPlace", "()Z"⟩
abbrev cX7_readsFrom : ByteArray := prog_9_method_65_code
def yX7_readsFrom : MethodName := ⟨RX7, "readsFrom", "(III)Z"⟩
abbrev cX7_readsForce : ByteArray := prog_9_method_66_code
def yX7_readsForce : MethodName := ⟨RX7, "readsForce", "(I)Z"⟩
abbrev cX7_readsMean : ByteArray := prog_9_method_67_code
def yX7_readsMean : MethodName := ⟨RX7, "readsMean", "()Z"⟩
abbrev cX7_readsPlain : ByteArray := prog_9_method_68_code
def yX7_readsPlain : MethodName := ⟨RX7, "readsPlain", "()Z"⟩
abbrev cX7_emitWhile : ByteArray := prog_9_method_69_code
def yX7_emitWhile : MethodName := ⟨RX7, "emitWhile", "(I)V"⟩
abbrev cX7_readsUnit : ByteArray := prog_9_method_70_code
def yX7_readsUnit : MethodName := ⟨RX7, "readsUnit", "()Z"⟩
abbrev cX7_closeAll : ByteArray := prog_9_method_71_code
def yX7_closeAll : MethodName := ⟨RX7, "closeAll", "()V"⟩
abbrev cX7_fault : ByteArray := prog_9_method_72_code
def yX7_fault : MethodName := ⟨RX7, "fault", "()I"⟩
abbrev cX7_ask : ByteArray := prog_9_method_73_code
def yX7_ask : MethodName := ⟨RX7, "ask", "()I"⟩
abbrev cX7_plainHolds : ByteArray := prog_9_method_74_code
def yX7_plainHolds : MethodName := ⟨RX7, "plainHolds", "(I)Z"⟩
abbrev cX7_holdsNow : ByteArray := prog_9_method_75_code
def yX7_holdsNow : MethodName := ⟨RX7, "holdsNow", "()Z"⟩
abbrev cX7_holds : ByteArray := prog_9_method_76_code
def yX7_holds : MethodName := ⟨RX7, "holds", "()I"⟩
abbrev cX7_turned : ByteArray := prog_9_method_77_code
def yX7_turned : MethodName := ⟨RX7, "turned", "()I"⟩
abbrev cX7_change : ByteArray := prog_9_method_78_code
def yX7_change : MethodName := ⟨RX7, "change", "(I)V"⟩
abbrev cX7_bought : ByteArray := prog_9_method_79_code
def yX7_bought : MethodName := ⟨RX7, "bought", "()I"⟩
abbrev cX7_count : ByteArray := prog_9_method_80_code
def yX7_count : MethodName := ⟨RX7, "count", "(I)I"⟩
def RJ6 : String := "java/lang/Integer"
def TJ6 : u_T := fun k => match k with
  | _ => ("", "", "", false)
def tyJ6 : Nat → FieldType := fun k => match k with
  | _ => .int
abbrev wsJ60 : List Cond := u_ws RJ6 TJ6 0
theorem nmJ6 : ∀ a, a < 0 → ∀ b, b < 0 → a ≠ b → (TJ6 a).2.1 ≠ (TJ6 b).2.1 := by decide +kernel
theorem tyJ6_ok : ∀ k, k < 0 → parseFieldDescriptor (TJ6 k).2.2.1 = some (tyJ6 k) := by decide +kernel
abbrev cJ6_bitCount_0f7a4 : ByteArray := prog_10_method_49_code
def yJ6_bitCount_0f7a4 : MethodName := ⟨RJ6, "bitCount", "(I)I"⟩
def RJ9 : String := "java/lang/Math"
def TJ9 : u_T := fun k => match k with
  | _ => ("", "", "", false)
def tyJ9 : Nat → FieldType := fun k => match k with
  | _ => .int
abbrev wsJ90 : List Cond := u_ws RJ9 TJ9 0
theorem nmJ9 : ∀ a, a < 0 → ∀ b, b < 0 → a ≠ b → (TJ9 a).2.1 ≠ (TJ9 b).2.1 := by decide +kernel
theorem tyJ9_ok : ∀ k, k < 0 → parseFieldDescriptor (TJ9 k).2.2.1 = some (tyJ9 k) := by decide +kernel
abbrev cJ9_max_7cf53 : ByteArray := prog_11_method_65_code
def yJ9_max_7cf53 : MethodName := ⟨RJ9, "max", "(II)I"⟩
abbrev cJ9_min_7cf53 : ByteArray := prog_11_method_69_code
def yJ9_min_7cf53 : MethodName := ⟨RJ9, "min", "(II)I"⟩
def RJ0 : String := "java/lang/String"
def TJ0 : u_T := fun k => match k with
  | _ => ("", "", "", false)
def tyJ0 : Nat → FieldType := fun k => match k with
  | _ => .int
abbrev wsJ00 : List Cond := u_ws RJ0 TJ0 0
theorem nmJ0 : ∀ a, a < 0 → ∀ b, b < 0 → a ≠ b → (TJ0 a).2.1 ≠ (TJ0 b).2.1 := by decide +kernel
theorem tyJ0_ok : ∀ k, k < 0 → parseFieldDescriptor (TJ0 k).2.2.1 = some (tyJ0 k) := by decide +kernel
abbrev cJ0_length_8abf5 : ByteArray := prog_12_method_54_code
def yJ0_length_8abf5 : MethodName := ⟨RJ0, "length", "()I"⟩
abbrev cJ0_charAt_5068e : ByteArray := prog_12_method_56_code
def yJ0_charAt_5068e : MethodName := ⟨RJ0, "charAt", "(I)C"⟩
abbrev cJ0_coder_7d493 : ByteArray := prog_12_method_152_code
def yJ0_coder_7d493 : MethodName := ⟨RJ0, "coder", "()B"⟩
abbrev cJ0_isLatin1_aae02 : ByteArray := prog_12_method_154_code
def yJ0_isLatin1_aae02 : MethodName := ⟨RJ0, "isLatin1", "()Z"⟩
abbrev cJ0_checkIndex_df160 : ByteArray := prog_12_method_155_code
def yJ0_checkIndex_df160 : MethodName := ⟨RJ0, "checkIndex", "(II)V"⟩
def RJ1 : String := "java/lang/StringLatin1"
def TJ1 : u_T := fun k => match k with
  | _ => ("", "", "", false)
def tyJ1 : Nat → FieldType := fun k => match k with
  | _ => .int
abbrev wsJ10 : List Cond := u_ws RJ1 TJ1 0
theorem nmJ1 : ∀ a, a < 0 → ∀ b, b < 0 → a ≠ b → (TJ1 a).2.1 ≠ (TJ1 b).2.1 := by decide +kernel
theorem tyJ1_ok : ∀ k, k < 0 → parseFieldDescriptor (TJ1 k).2.2.1 = some (tyJ1 k) := by decide +kernel
abbrev cJ1_charAt_3b067 : ByteArray := prog_13_method_2_code
def yJ1_charAt_3b067 : MethodName := ⟨RJ1, "charAt", "([BI)C"⟩
def RJ2 : String := "java/lang/StringUTF16"
def TJ2 : u_T := fun k => match k with
  | _ => ("", "", "", false)
def tyJ2 : Nat → FieldType := fun k => match k with
  | _ => .int
abbrev wsJ20 : List Cond := u_ws RJ2 TJ2 0
theorem nmJ2 : ∀ a, a < 0 → ∀ b, b < 0 → a ≠ b → (TJ2 a).2.1 ≠ (TJ2 b).2.1 := by decide +kernel
theorem tyJ2_ok : ∀ k, k < 0 → parseFieldDescriptor (TJ2 k).2.2.1 = some (tyJ2 k) := by decide +kernel
abbrev cJ2_getChar_3b067 : ByteArray := prog_14_method_5_code
def yJ2_getChar_3b067 : MethodName := ⟨RJ2, "getChar", "([BI)C"⟩
abbrev cJ2_length_9d52b : ByteArray := prog_14_method_6_code
def yJ2_length_9d52b : MethodName := ⟨RJ2, "length", "([B)I"⟩
abbrev cJ2_charAt_3b067 : ByteArray := prog_14_method_83_code
def yJ2_charAt_3b067 : MethodName := ⟨RJ2, "charAt", "([BI)C"⟩
abbrev cJ2_checkIndex_2214a : ByteArray := prog_14_method_91_code
def yJ2_checkIndex_2214a : MethodName := ⟨RJ2, "checkIndex", "(I[B)V"⟩
def RJ10 : String := "java/lang/System"
def TJ10 : u_T := fun k => match k with
  | _ => ("", "", "", false)
def tyJ10 : Nat → FieldType := fun k => match k with
  | _ => .int
abbrev wsJ100 : List Cond := u_ws RJ10 TJ10 0
theorem nmJ10 : ∀ a, a < 0 → ∀ b, b < 0 → a ≠ b → (TJ10 a).2.1 ≠ (TJ10 b).2.1 := by decide +kernel
theorem tyJ10_ok : ∀ k, k < 0 → parseFieldDescriptor (TJ10 k).2.2.1 = some (tyJ10 k) := by decide +kernel
def RJ3 : String := "jdk/internal/util/Preconditions"
def TJ3 : u_T := fun k => match k with
  | _ => ("", "", "", false)
def tyJ3 : Nat → FieldType := fun k => match k with
  | _ => .int
abbrev wsJ30 : List Cond := u_ws RJ3 TJ3 0
theorem nmJ3 : ∀ a, a < 0 → ∀ b, b < 0 → a ≠ b → (TJ3 a).2.1 ≠ (TJ3 b).2.1 := by decide +kernel
theorem tyJ3_ok : ∀ k, k < 0 → parseFieldDescriptor (TJ3 k).2.2.1 = some (tyJ3 k) := by decide +kernel
abbrev cJ3_checkIndex_8e157 : ByteArray := prog_16_method_11_code
def yJ3_checkIndex_8e157 : MethodName := ⟨RJ3, "checkIndex", "(IILjava/util/function/BiFunction;)I"⟩
def RL : String := "OneMarkLaw"
abbrev cL_law : ByteArray := code
def yL_law : MethodName := ⟨RL, "law", "([I)Z"⟩
abbrev vwCl : List vw_C := [(RX0, TX0, 8), (RX1, TX1, 2), (RX2, TX2, 8), (RX3, TX3, 7), (RX4, TX4, 11), (RX5, TX5, 8), (RX6, TX6, 7), (RX7, TX7, 37)]
def om_sr : List (String × Nat × String) := [("OneMark$Reader", 127, "not"), ("OneMark$Reader", 133, "and"), ("OneMark$Reader", 135, "or"), ("OneMark$Reader", 137, "one"), ("OneMark$Reader", 139, "other"), ("OneMark$Reader", 141, "from"), ("OneMark$Reader", 143, "forces"), ("OneMark$Reader", 145, "keeps"), ("OneMark$Reader", 147, "again"), ("OneMark$Reader", 149, "even"), ("OneMark$Reader", 151, "mean"), ("OneMark$Reader", 153, "above"), ("OneMark$Reader", 155, "below")]
def om_sn : Nat := 13
def om_st : List (List Int32) := [[110, 111, 116], [97, 110, 100], [111, 114], [111, 110, 101], [111, 116, 104, 101, 114], [102, 114, 111, 109], [102, 111, 114, 99, 101, 115], [107, 101, 101, 112, 115], [97, 103, 97, 105, 110], [101, 118, 101, 110], [109, 101, 97, 110], [97, 98, 111, 118, 101], [98, 101, 108, 111, 119]]
def om_kd : List (Nat × Nat × Nat) := [(5, 6, 0), (5, 0, 0), (1, 8, 0), (1, 8, 0), (1, 20, 0), (1, 20, 0), (1, 20, 0), (5, 3, 0), (1, 28, 0), (1, 28, 0), (1, 28, 0), (1, 8, 0), (5, 1, 0), (1, 9, 0), (5, 2, 0), (1, 8, 0), (3, 9, 3), (1, 8, 0), (1, 8, 0), (1, 8, 0), (1, 8, 0), (1, 8, 0), (1, 8, 0), (1, 8, 0), (1, 8, 0), (1, 8, 0), (1, 8, 0), (1, 8, 0), (5, 5, 0), (1, 120, 0), (5, 4, 0), (1, 10, 0), (1, 10, 0), (1, 10, 0), (1, 10, 0), (1, 10, 0), (1, 120, 0), (1, 120, 0), (5, 4, 0), (1, 10, 0), (1, 10, 0), (1, 10, 0), (1, 10, 0), (1, 10, 0), (1, 120, 0), (1, 120, 0), (5, 7, 0), (1, 8, 0), (1, 8, 0), (1, 20, 0), (1, 20, 0), (1, 20, 0), (1, 8, 0), (1, 120, 0), (1, 240, 0), (1, 240, 0), (1, 240, 0), (1, 240, 0), (1, 8, 0), (1, 8, 0), (1, 8, 0), (1, 4, 0), (1, 8, 0), (1, 8, 0), (1, 10, 0), (1, 64, 0), (1, 64, 0), (1, 120, 0), (2, 120, 0)]
def om_N : Nat := 69
theorem om_kd_len : om_kd.length = om_N := rfl
def om_kof (a : Nat) : Nat × Nat × Nat := om_kd.getD a (0, 0, 0)
def om_isA (a c : Nat) : Bool := Nat.beq (om_kof a).1 c
def om_ln (a : Nat) : Nat := (om_kof a).2.1
def om_of (a : Nat) : Nat := (om_kof a).2.2
def om_obj (a c : Nat) : Bool := bif Nat.beq c 99 then (Nat.ble 1000 a && Nat.blt a (1000 + om_sn)) else (Nat.beq (om_kof a).1 5 && Nat.beq (om_kof a).2.1 c)
def om_isB (a : Nat) : Bool := Nat.ble 2000 a && Nat.blt a (2000 + om_sn)
def om_bl (a : Nat) : Nat := (om_st.getD (a - 2000) []).length
def om_bt (a j : Nat) : Int32 := (om_st.getD (a - 2000) []).getD j 0
/-- a class's fields by kind -/
def om_fdl : List (List Nat) := [[0, 0, 0, 4, 5, 6, 7, 8], [4, 0], [0, 0, 0, 0, 4, 5, 6, 7], [0, 0, 0, 4, 5, 6, 7], [0, 4, 5, 6, 7, 8, 0, 9, 0, 10, 0], [0, 4, 0, 0, 0, 0, 0, 1], [4, 10, 15, 17, 31, 1, 1], [4, 5, 0, 6, 7, 8, 0, 9, 10, 0, 11, 12, 13, 14, 0, 0, 15, 16, 0, 17, 18, 19, 20, 0, 0, 21, 0, 22, 23, 0, 0, 0, 0, 24, 0, 0, 25]]
def om_fds (c : Nat) : List Nat := om_fdl.getD c []
abbrev om_Sg : Type := MethodName × ByteArray × Nat × Option FieldType × Nat × Bool × Nat
def om_sig : List om_Sg := [
  (yX0_giveTo, cX0_giveTo, 3, none, 0, false, 2),
  (yX0_addPlace, cX0_addPlace, 4, some .int, 0, false, 2),
  (yX0_addArrow, cX0_addArrow, 5, some .int, 0, false, 3),
  (yX0_removeArrow, cX0_removeArrow, 3, none, 0, false, 1),
  (yX0_find, cX0_find, 4, some .int, 0, false, 2),
  (yX0_ownerOf, cX0_ownerOf, 2, some .int, 0, false, 1),
  (yX0_isOpen, cX0_isOpen, 4, some .boolean, 1, false, 2),
  (yX0_toldPlaces, cX0_toldPlaces, 3, some .int, 0, false, 0),
  (yX1_isLeastOfLoop, cX1_isLeastOfLoop, 8, some .boolean, 1, false, 3),
  (yX1_wrongPlaces, cX1_wrongPlaces, 7, some .int, 0, false, 3),
  (yX1_indexOf, cX1_indexOf, 4, some .int, 0, false, 2),
  (yX1_leastOf, cX1_leastOf, 6, some .int, 0, false, 3),
  (yX1_isExtended, cX1_isExtended, 8, some .boolean, 1, true, 5),
  (yX1_findBreaker, cX1_findBreaker, 6, none, 0, false, 4),
  (yX2_addMove, cX2_addMove, 6, none, 0, false, 1),
  (yX2_sumAfter, cX2_sumAfter, 5, some .int, 0, false, 3),
  (yX3_placesOf, cX3_placesOf, 2, some .int, 0, false, 1),
  (yJ6_bitCount_0f7a4, cJ6_bitCount_0f7a4, 1, some .int, 0, true, 1),
  (yX2_plansOf, cX2_plansOf, 6, some .int, 0, false, 2),
  (yX2_bitAt, cX2_bitAt, 4, some .int, 0, true, 2),
  (yX2_choosePlan, cX2_choosePlan, 8, none, 0, false, 3),
  (yX2_walk, cX2_walk, 9, none, 0, false, 3),
  (yX2_findLeastLoop, cX2_findLeastLoop, 12, none, 0, false, 3),
  (yX2_findBest, cX2_findBest, 7, none, 0, false, 5),
  (yX2_findSure, cX2_findSure, 6, none, 0, false, 3),
  (yX2_isRaised, cX2_isRaised, 12, some .boolean, 1, false, 4),
  (yX2_isHeld, cX2_isHeld, 7, some .boolean, 1, false, 4),
  (yX2_findLeft, cX2_findLeft, 4, none, 0, false, 3),
  (yX3_clear, cX3_clear, 4, none, 0, false, 2),
  (yX3_add, cX3_add, 4, none, 0, false, 3),
  (yX3_addStays, cX3_addStays, 2, none, 0, false, 0),
  (yX3_load, cX3_load, 5, none, 0, false, 3),
  (yX3_loadTold, cX3_loadTold, 4, none, 0, false, 2),
  (yX3_weighBySet, cX3_weighBySet, 3, none, 0, false, 1),
  (yX3_everywhere, cX3_everywhere, 1, some .int, 0, false, 0),
  (yX3_branching, cX3_branching, 3, some .int, 0, false, 0),
  (yX3_oneMoveFrom, cX3_oneMoveFrom, 9, some .int, 0, false, 3),
  (yX3_attracted, cX3_attracted, 7, some .int, 0, false, 3),
  (yX3_movesInto, cX3_movesInto, 6, some .int, 0, false, 3),
  (yX3_keeping, cX3_keeping, 4, some .int, 0, false, 2),
  (yX3_withoutLost, cX3_withoutLost, 5, some .int, 0, false, 3),
  (yX3_meeting, cX3_meeting, 7, some .int, 0, false, 3),
  (yX3_leastNumber, cX3_leastNumber, 5, some .int, 0, true, 3),
  (yX3_holders, cX3_holders, 6, some .int, 0, true, 4),
  (yX3_evenPlaces, cX3_evenPlaces, 12, some .int, 0, true, 4),
  (yX3_wonBy, cX3_wonBy, 4, some .int, 0, false, 2),
  (yX4_clear, cX4_clear, 1, none, 0, false, 0),
  (yX4_begin, cX4_begin, 3, none, 0, false, 2),
  (yX4_emit, cX4_emit, 2, none, 0, false, 1),
  (yX4_lastHeld, cX4_lastHeld, 1, some .int, 0, false, 0),
  (yX4_emitNots, cX4_emitNots, 2, none, 0, false, 0),
  (yX4_endUnit, cX4_endUnit, 1, none, 0, false, 0),
  (yX4_hold, cX4_hold, 2, none, 0, false, 1),
  (yX4_join, cX4_join, 4, none, 0, false, 1),
  (yX4_emitHeld, cX4_emitHeld, 2, none, 0, false, 0),
  (yX4_closeParenthesis, cX4_closeParenthesis, 1, none, 0, false, 0),
  (yX4_isUnitTrue, cX4_isUnitTrue, 6, some .boolean, 1, false, 4),
  (yX4_isTrue, cX4_isTrue, 12, some .boolean, 1, false, 5),
  (yX5_add, cX5_add, 2, none, 0, false, 1),
  (yX5_isLetter, cX5_isLetter, 1, some .boolean, 1, true, 1),
  (yJ0_coder_7d493, cJ0_coder_7d493, 1, some .byte, 2, false, 0),
  (yJ0_length_8abf5, cJ0_length_8abf5, 1, some .int, 0, false, 0),
  (yJ0_isLatin1_aae02, cJ0_isLatin1_aae02, 1, some .boolean, 1, false, 0),
  (yJ1_charAt_3b067, cJ1_charAt_3b067, 2, some .char, 3, true, 2),
  (yJ0_charAt_5068e, cJ0_charAt_5068e, 2, some .char, 3, false, 1),
  (yX5_isWord, cX5_isWord, 3, some .boolean, 1, false, 1),
  (yX5_wordToken, cX5_wordToken, 1, some .int, 0, false, 0),
  (yX5_isDigit, cX5_isDigit, 1, some .boolean, 1, true, 1),
  (yX5_numberValue, cX5_numberValue, 3, some .int, 0, false, 0),
  (yX5_readToken, cX5_readToken, 2, none, 0, false, 0),
  (yX5_beginUnit, cX5_beginUnit, 1, some .int, 0, false, 0),
  (yX5_joinUnits, cX5_joinUnits, 1, some .int, 0, false, 0),
  (yX5_takeVerb, cX5_takeVerb, 1, some .int, 0, false, 0),
  (yX5_isPlaceNumber, cX5_isPlaceNumber, 2, some .boolean, 1, false, 1),
  (yX5_takeMember, cX5_takeMember, 2, some .int, 0, false, 1),
  (yX5_takePlace, cX5_takePlace, 2, some .boolean, 1, false, 1),
  (yX5_endUnit, cX5_endUnit, 1, some .int, 0, false, 0),
  (yX5_takeSide, cX5_takeSide, 1, some .int, 0, false, 0),
  (yX5_takeBound, cX5_takeBound, 1, some .boolean, 1, false, 0),
  (yX5_stateAfter, cX5_stateAfter, 3, some .int, 0, false, 2),
  (yX5_read, cX5_read, 5, some .int, 0, false, 2),
  (yX6_isPlayer, cX6_isPlayer, 1, some .boolean, 1, true, 1),
  (yX6_isNumber, cX6_isNumber, 1, some .boolean, 1, true, 1),
  (yX6_place, cX6_place, 3, some .int, 0, false, 2),
  (yX6_isPlace, cX6_isPlace, 2, some .boolean, 1, false, 1),
  (yX6_isWeight, cX6_isWeight, 1, some .boolean, 1, true, 1),
  (yX6_arrow, cX6_arrow, 4, some .int, 0, false, 3),
  (yX6_isArrow, cX6_isArrow, 2, some .boolean, 1, false, 1),
  (yX6_cut, cX6_cut, 2, some .int, 0, false, 1),
  (yX6_give, cX6_give, 4, some .int, 0, false, 2),
  (yX6_set, cX6_set, 5, some .int, 0, false, 3),
  (yX6_from, cX6_from, 3, some .int, 0, false, 2),
  (yX6_isSet, cX6_isSet, 2, some .boolean, 1, false, 1),
  (yX6_forced, cX6_forced, 3, some .int, 0, false, 2),
  (yX6_steps, cX6_steps, 4, some .int, 0, false, 3),
  (yX6_kept, cX6_kept, 3, some .int, 0, false, 2),
  (yX6_both, cX6_both, 4, some .int, 0, false, 3),
  (yX6_again, cX6_again, 3, some .int, 0, false, 2),
  (yX6_won, cX6_won, 1, some .int, 0, false, 0),
  (yX6_narrowed, cX6_narrowed, 5, some .int, 0, false, 3),
  (yX6_plan, cX6_plan, 7, some .int, 0, false, 1),
  (yX6_after, cX6_after, 3, some .int, 0, false, 2),
  (yX6_isPart, cX6_isPart, 1, some .boolean, 1, true, 1),
  (yX6_mean, cX6_mean, 3, some .int, 0, false, 2),
  (yX6_rate, cX6_rate, 5, some .int, 0, false, 4),
  (yX6_tell, cX6_tell, 4, some .int, 0, false, 1),
  (yX6_untell, cX6_untell, 3, some .int, 0, false, 1),
  (yX6_oddness, cX6_oddness, 1, some .int, 0, true, 1),
  (yX6_judged, cX6_judged, 2, some .int, 0, false, 1),
  (yX6_breaker, cX6_breaker, 5, some .int, 0, false, 3),
  (yX6_worth, cX6_worth, 4, some .int, 0, false, 3),
  (yX6_write, cX6_write, 5, some .int, 0, false, 2),
  (yX6_erase, cX6_erase, 2, some .int, 0, false, 0),
  (yX6_fault, cX6_fault, 1, some .int, 0, false, 0),
  (yX6_ask, cX6_ask, 2, some .int, 0, false, 0),
  (yX6_holds, cX6_holds, 1, some .int, 0, false, 0),
  (yX6_turned, cX6_turned, 4, some .int, 0, false, 0),
  (yX6_bought, cX6_bought, 4, some .int, 0, false, 0),
  (yX6_count, cX6_count, 2, some .int, 0, false, 1),
  (yX7_in, cX7_in, 6, some .boolean, 1, true, 3),
  (yX7_isPlace, cX7_isPlace, 2, some .boolean, 1, false, 1),
  (yX7_isArrow, cX7_isArrow, 2, some .boolean, 1, false, 1),
  (yX7_isSet, cX7_isSet, 2, some .boolean, 1, false, 1),
  (yX7_isPlayer, cX7_isPlayer, 1, some .boolean, 1, true, 1),
  (yX7_place, cX7_place, 3, some .int, 0, false, 2),
  (yX7_arrowOf, cX7_arrowOf, 5, some .int, 0, false, 2),
  (yX7_arrow, cX7_arrow, 4, some .int, 0, false, 3),
  (yX7_cut, cX7_cut, 3, some .int, 0, false, 1),
  (yX7_give, cX7_give, 4, some .int, 0, false, 2),
  (yX7_set, cX7_set, 6, some .int, 0, false, 3),
  (yX7_from, cX7_from, 3, some .int, 0, false, 2),
  (yX7_isUsed, cX7_isUsed, 2, some .boolean, 1, false, 1),
  (yX7_layMoves, cX7_layMoves, 2, none, 0, false, 0),
  (yX7_noneAlone, cX7_noneAlone, 2, none, 0, false, 0),
  (yX7_bring, cX7_bring, 6, some .int, 0, false, 2),
  (yX7_forcedTo, cX7_forcedTo, 5, some .int, 0, false, 2),
  (yX7_forced, cX7_forced, 3, some .int, 0, false, 2),
  (yX7_steps, cX7_steps, 6, some .int, 0, false, 3),
  (yX7_keptIn, cX7_keptIn, 5, some .int, 0, false, 2),
  (yX7_kept, cX7_kept, 3, some .int, 0, false, 2),
  (yX7_bothOf, cX7_bothOf, 7, some .int, 0, false, 3),
  (yX7_again, cX7_again, 3, some .int, 0, false, 2),
  (yX7_both, cX7_both, 4, some .int, 0, false, 3),
  (yX7_unit, cX7_unit, 1, some .int, 0, true, 1),
  (yX7_needed, cX7_needed, 6, some .int, 0, false, 2),
  (yX7_liftOf, cX7_liftOf, 5, some .int, 0, false, 1),
  (yX7_wonNow, cX7_wonNow, 4, some .int, 0, false, 0),
  (yX7_won, cX7_won, 1, some .int, 0, false, 0),
  (yX7_wonBy, cX7_wonBy, 3, some .int, 0, false, 1),
  (yX7_hasArrows, cX7_hasArrows, 4, some .boolean, 1, false, 1),
  (yX7_plan, cX7_plan, 7, some .int, 0, false, 1),
  (yX7_weightOf, cX7_weightOf, 3, some .int, 0, false, 2),
  (yX7_oneMore, cX7_oneMore, 9, none, 0, false, 2),
  (yX7_layValues, cX7_layValues, 5, none, 0, false, 3),
  (yX7_after, cX7_after, 3, some .int, 0, false, 2),
  (yX7_nearest, cX7_nearest, 7, none, 0, false, 1),
  (yX7_mean, cX7_mean, 3, some .int, 0, false, 2),
  (yX7_rate, cX7_rate, 5, some .int, 0, false, 4),
  (yX7_tell, cX7_tell, 3, some .int, 0, false, 1),
  (yX7_untell, cX7_untell, 3, some .int, 0, false, 1),
  (yX7_layTold, cX7_layTold, 3, none, 0, false, 1),
  (yX7_reachFrom, cX7_reachFrom, 6, some .int, 0, false, 2),
  (yX7_badFor, cX7_badFor, 6, some .int, 0, false, 1),
  (yX7_rightOf, cX7_rightOf, 5, some .int, 0, false, 1),
  (yX7_judged, cX7_judged, 2, some .int, 0, false, 1),
  (yX7_placeIn, cX7_placeIn, 4, some .int, 0, false, 1),
  (yX7_isBadFrom, cX7_isBadFrom, 5, some .boolean, 1, false, 2),
  (yX7_closes, cX7_closes, 6, some .boolean, 1, false, 3),
  (yX7_breaker, cX7_breaker, 5, some .int, 0, false, 3),
  (yX7_addMoves, cX7_addMoves, 6, none, 0, false, 1),
  (yX7_divisor, cX7_divisor, 5, some .int, 0, true, 2),
  (yX7_worth, cX7_worth, 9, some .int, 0, false, 3),
  (yX7_write, cX7_write, 5, some .int, 0, false, 2),
  (yX7_erase, cX7_erase, 2, some .int, 0, false, 0),
  (yX7_sort, cX7_sort, 1, some .int, 0, true, 1),
  (yX7_token, cX7_token, 1, none, 0, false, 0),
  (yX7_isWord, cX7_isWord, 5, some .boolean, 1, false, 2),
  (yX7_skips, cX7_skips, 4, some .boolean, 1, false, 2),
  (yX7_isSign, cX7_isSign, 2, some .boolean, 1, false, 1),
  (yX7_isNumber, cX7_isNumber, 4, some .boolean, 1, false, 1),
  (yX7_emit, cX7_emit, 5, none, 0, false, 4),
  (yX7_readsPlace, cX7_readsPlace, 1, some .boolean, 1, false, 0),
  (yX7_readsFrom, cX7_readsFrom, 4, some .boolean, 1, false, 3),
  (yX7_readsForce, cX7_readsForce, 5, some .boolean, 1, false, 1),
  (yX7_readsMean, cX7_readsMean, 3, some .boolean, 1, false, 0),
  (yX7_readsPlain, cX7_readsPlain, 1, some .boolean, 1, false, 0),
  (yX7_emitWhile, cX7_emitWhile, 2, none, 0, false, 1),
  (yX7_readsUnit, cX7_readsUnit, 2, some .boolean, 1, false, 0),
  (yX7_closeAll, cX7_closeAll, 1, none, 0, false, 0),
  (yX7_fault, cX7_fault, 2, some .int, 0, false, 0),
  (yX7_plainHolds, cX7_plainHolds, 5, some .boolean, 1, false, 1),
  (yX7_holdsNow, cX7_holdsNow, 4, some .boolean, 1, false, 0),
  (yX7_ask, cX7_ask, 2, some .int, 0, false, 0),
  (yX7_holds, cX7_holds, 1, some .int, 0, false, 0),
  (yX7_turned, cX7_turned, 4, some .int, 0, false, 0),
  (yX7_change, cX7_change, 3, none, 0, false, 1),
  (yX7_bought, cX7_bought, 5, some .int, 0, false, 0),
  (yX7_count, cX7_count, 4, some .int, 0, false, 1)]
def om_nth {α : Type} : List α → Nat → Option α
  | [], _ => none
  | a :: _, 0 => some a
  | _ :: r, n + 1 => om_nth r n
def om_cnl : List String := [RX0, RX1, RX2, RX3, RX4, RX5, RX6, RX7, RJ0, RJ1, RJ3, RJ6, RL]
def om_cn (c : Nat) : String := om_cnl.getD c ""
def om_Tl : List u_T := [TX0, TX1, TX2, TX3, TX4, TX5, TX6, TX7]
def om_Tf (c : Nat) : u_T := om_Tl.getD c TX0
def om_fwl : List (Nat × Nat × Nat × Nat) := [(0, 27, 0, 0), (0, 35, 0, 1), (0, 38, 0, 2), (0, 9, 0, 3), (0, 15, 0, 4), (0, 18, 0, 5), (0, 21, 0, 6), (0, 24, 0, 7), (3, 51, 3, 0), (3, 55, 3, 1), (3, 56, 3, 2), (3, 9, 3, 3), (3, 15, 3, 4), (3, 18, 3, 5), (3, 21, 3, 6), (1, 9, 1, 0), (1, 28, 1, 1), (2, 106, 2, 0), (2, 9, 2, 1), (2, 103, 2, 2), (2, 15, 2, 3), (2, 18, 2, 4), (2, 24, 2, 5), (2, 27, 2, 6), (2, 30, 2, 7), (5, 15, 5, 0), (5, 9, 5, 1), (5, 28, 5, 2), (5, 44, 5, 3), (5, 37, 5, 4), (5, 104, 5, 5), (5, 31, 5, 6), (5, 19, 5, 7), (4, 33, 4, 0), (4, 9, 4, 1), (4, 15, 4, 2), (4, 18, 4, 3), (4, 21, 4, 4), (4, 24, 4, 5), (4, 37, 4, 6), (4, 27, 4, 7), (4, 40, 4, 8), (4, 30, 4, 9), (4, 43, 4, 10), (6, 12, 6, 0), (6, 19, 6, 1), (6, 26, 6, 2), (6, 33, 6, 3), (6, 40, 6, 4), (6, 47, 6, 5), (6, 51, 6, 6), (7, 7, 7, 0), (7, 13, 7, 1), (7, 81, 7, 2), (7, 16, 7, 3), (7, 19, 7, 4), (7, 22, 7, 5), (7, 88, 7, 6), (7, 25, 7, 7), (7, 28, 7, 8), (7, 223, 7, 9), (7, 31, 7, 10), (7, 34, 7, 11), (7, 37, 7, 12), (7, 40, 7, 13), (7, 249, 7, 14), (7, 308, 7, 15), (7, 43, 7, 16), (7, 46, 7, 17), (7, 49, 7, 18), (7, 53, 7, 19), (7, 56, 7, 20), (7, 59, 7, 21), (7, 62, 7, 22), (7, 180, 7, 23), (7, 171, 7, 24), (7, 65, 7, 25), (7, 201, 7, 26), (7, 68, 7, 27), (7, 71, 7, 28), (7, 228, 7, 29), (7, 231, 7, 30), (7, 237, 7, 31), (7, 246, 7, 32), (7, 74, 7, 33), (7, 284, 7, 34), (7, 290, 7, 35), (7, 77, 7, 36)]
def om_fnl : List (Nat × Nat × Nat × Nat) := [(6, 61, 0, 0), (3, 48, 0, 0), (3, 28, 0, 1), (6, 78, 0, 1), (3, 52, 0, 2), (6, 227, 0, 2), (6, 100, 0, 3), (4, 75, 0, 3), (6, 170, 0, 4), (3, 34, 0, 5), (6, 141, 0, 5), (3, 35, 0, 6), (6, 147, 0, 6), (3, 36, 0, 7), (6, 104, 0, 7), (2, 33, 3, 0), (1, 15, 3, 0), (2, 60, 3, 1), (2, 48, 3, 2), (2, 51, 3, 3), (2, 57, 3, 4), (2, 54, 3, 5), (1, 25, 3, 6), (2, 88, 3, 6), (6, 144, 3, 6), (6, 191, 1, 0), (6, 188, 1, 1), (6, 161, 2, 0), (6, 164, 2, 1), (6, 197, 5, 0), (6, 216, 4, 0), (5, 92, 4, 1), (5, 101, 4, 3), (5, 107, 4, 4), (5, 110, 4, 5), (5, 95, 4, 10)]
def om_mwl : List (Nat × Nat × Nat) := [(12, 13, 83), (6, 54, 81), (6, 58, 82), (0, 31, 0), (12, 18, 86), (6, 69, 84), (6, 72, 85), (12, 23, 88), (6, 85, 87), (12, 28, 89), (12, 32, 90), (12, 36, 91), (12, 40, 93), (6, 108, 92), (3, 24, 28), (3, 37, 29), (3, 41, 30), (3, 65, 36), (12, 44, 94), (3, 69, 34), (12, 48, 95), (3, 73, 37), (12, 52, 97), (6, 128, 96), (3, 76, 40), (12, 56, 96), (12, 60, 98), (3, 79, 44), (3, 83, 42), (3, 87, 43), (12, 65, 100), (6, 138, 99), (12, 69, 101), (2, 38, 14), (12, 73, 103), (6, 154, 102), (2, 72, 18), (2, 91, 17), (2, 76, 23), (2, 96, 20), (2, 109, 19), (2, 100, 22), (2, 112, 21), (12, 77, 104), (12, 82, 105), (12, 86, 106), (12, 90, 108), (0, 41, 5), (6, 177, 107), (1, 21, 8), (12, 94, 109), (1, 31, 12), (1, 35, 10), (1, 39, 11), (12, 98, 110), (12, 104, 111), (12, 109, 112), (12, 113, 113), (5, 34, 69), (5, 115, 59), (5, 118, 66), (5, 129, 65), (5, 157, 61), (8, 335, 60), (5, 161, 64), (8, 492, 62), (8, 495, 63), (5, 121, 67), (5, 124, 68), (5, 40, 79), (5, 50, 70), (5, 54, 71), (4, 59, 49), (4, 52, 48), (4, 63, 52), (4, 66, 54), (4, 56, 50), (5, 57, 72), (5, 60, 74), (5, 98, 73), (5, 64, 75), (5, 68, 76), (5, 71, 77), (5, 74, 78), (12, 117, 114), (4, 80, 56), (2, 80, 25), (12, 121, 115), (12, 125, 116), (12, 129, 117), (3, 59, 17), (6, 222, 17), (12, 133, 118), (12, 17, 124), (7, 91, 123), (7, 84, 119), (12, 22, 126), (7, 97, 120), (7, 104, 125), (12, 27, 127), (7, 108, 121), (12, 31, 128), (12, 35, 129), (12, 39, 130), (12, 43, 136), (7, 118, 122), (7, 121, 132), (7, 112, 131), (7, 124, 135), (7, 115, 134), (12, 47, 137), (12, 51, 139), (7, 127, 138), (12, 55, 141), (7, 130, 140), (12, 59, 142), (12, 64, 147), (7, 145, 146), (7, 142, 145), (7, 139, 144), (7, 135, 143), (12, 68, 150), (7, 149, 148), (7, 152, 149), (7, 155, 133), (12, 72, 154), (7, 167, 153), (7, 161, 152), (7, 158, 151), (12, 76, 156), (7, 185, 155), (12, 81, 157), (12, 85, 158), (12, 89, 159), (12, 93, 164), (7, 198, 163), (7, 192, 160), (7, 195, 162), (7, 189, 161), (12, 97, 168), (7, 211, 167), (7, 204, 165), (7, 207, 166), (12, 101, 171), (7, 215, 169), (7, 218, 170), (12, 108, 172), (12, 112, 173), (12, 116, 189), (7, 243, 175), (7, 234, 174), (7, 299, 187), (7, 256, 177), (7, 240, 176), (7, 287, 178), (7, 293, 185), (7, 270, 182), (7, 259, 181), (7, 252, 179), (7, 263, 180), (7, 277, 184), (7, 280, 183), (7, 302, 188), (7, 296, 186), (12, 120, 192), (7, 305, 189), (7, 311, 191), (7, 314, 190), (12, 124, 193), (12, 128, 194), (12, 132, 196), (7, 317, 195), (12, 136, 197)]
def om_mnl : List (Nat × Nat × Nat) := [(6, 65, 1), (6, 75, 4), (6, 81, 2), (6, 88, 3), (6, 92, 5), (6, 96, 0), (6, 111, 31), (6, 115, 34), (6, 119, 37), (6, 122, 38), (6, 125, 39), (6, 131, 41), (6, 134, 45), (6, 150, 15), (6, 157, 24), (2, 84, 16), (6, 167, 33), (6, 173, 32), (3, 44, 6), (6, 180, 9), (6, 184, 13), (6, 194, 27), (6, 202, 58), (6, 205, 80), (5, 23, 46), (5, 78, 52), (5, 82, 47), (5, 86, 53), (5, 89, 55), (5, 113, 51), (5, 47, 54), (6, 209, 46), (6, 212, 57), (4, 69, 31), (4, 86, 34), (4, 89, 37), (4, 93, 39), (4, 96, 41), (4, 99, 45), (4, 103, 26), (6, 219, 35), (6, 230, 7)]
def om_cil : List (Nat × Nat × Int32) := [(6, 107, (-2147483648)), (11, 265, (1431655765)), (11, 266, (858993459)), (11, 267, (252645135)), (2, 115, (1000000)), (7, 111, (-2147483648)), (7, 134, (100000)), (7, 275, (464581)), (7, 255, (441926)), (7, 276, (459949)), (7, 273, (5979201)), (7, 274, (24621218)), (7, 267, (642894310)), (7, 268, (20452523)), (7, 269, (14976225)), (7, 283, (19047055))]
def om_cll : List (Nat × Nat × Int64) := [(6, 200, (255)), (4, 84, (-2)), (7, 95, (7)), (7, 100, (-5)), (7, 102, (5)), (7, 165, (500)), (7, 174, (2)), (7, 176, (9000)), (7, 178, (18000)), (7, 183, (80)), (7, 221, (8)), (7, 226, (255)), (12, 102, (4294967295))]
def om_iwl : List (Nat × Nat × Nat) := [(3, 90, 1), (2, 63, 2), (2, 69, 1), (2, 42, 3), (1, 43, 1), (9, 9, 4), (4, 46, 1)]
def om_xw : List Cond := [(Jvm.Cond.fieldLink "java/lang/String" (9 : Nat) "java/lang/String" "value" "[B"),
  (Jvm.Cond.fieldLink "java/lang/String" (15 : Nat) "java/lang/String" "coder" "B"),
  (Jvm.Cond.fieldLink "java/lang/String" (38 : Nat) "java/lang/String" "COMPACT_STRINGS" "Z"),
  (Jvm.Cond.fieldLink "java/lang/String" (1053 : Nat) "jdk/internal/util/Preconditions" "SIOOBE_FORMATTER" "Ljava/util/function/BiFunction;"),
  (Jvm.Cond.static ({ cls := "java/lang/Math", name := "min", desc := "(II)I" } : Jvm.MethodName)),
  (Jvm.Cond.code ({ cls := "java/lang/Math", name := "min", desc := "(II)I" } : Jvm.MethodName) prog_11_method_69_code (2 : Nat) (Option.some Jvm.ClassFile.FieldType.int)),
  (Jvm.Cond.static ({ cls := "java/lang/Math", name := "max", desc := "(II)I" } : Jvm.MethodName)),
  (Jvm.Cond.code ({ cls := "java/lang/Math", name := "max", desc := "(II)I" } : Jvm.MethodName) prog_11_method_65_code (2 : Nat) (Option.some Jvm.ClassFile.FieldType.int)),
  (Jvm.Cond.initialized "java/lang/Math"),
  (Jvm.Cond.initialized "java/lang/System"),
  (Jvm.Cond.static ({ cls := "java/lang/System", name := "arraycopy", desc := "(Ljava/lang/Object;ILjava/lang/Object;II)V" } : Jvm.MethodName)),
  (Jvm.Cond.native ({ cls := "java/lang/System", name := "arraycopy", desc := "(Ljava/lang/Object;ILjava/lang/Object;II)V" } : Jvm.MethodName)),
  (Jvm.Cond.static ({ cls := "java/lang/String", name := "checkIndex", desc := "(II)V" } : Jvm.MethodName)),
  (Jvm.Cond.code ({ cls := "java/lang/String", name := "checkIndex", desc := "(II)V" } : Jvm.MethodName) prog_12_method_155_code (2 : Nat) (Option.none : Option Jvm.ClassFile.FieldType)),
  (Jvm.Cond.static ({ cls := "jdk/internal/util/Preconditions", name := "checkIndex", desc := "(IILjava/util/function/BiFunction;)I" } : Jvm.MethodName)),
  (Jvm.Cond.code ({ cls := "jdk/internal/util/Preconditions", name := "checkIndex", desc := "(IILjava/util/function/BiFunction;)I" } : Jvm.MethodName) prog_16_method_11_code (3 : Nat) (Option.some Jvm.ClassFile.FieldType.int)),
  (Jvm.Cond.initialized "java/lang/String"),
  (Jvm.Cond.initialized "jdk/internal/util/Preconditions"),
  (Jvm.Cond.methodLink "java/lang/String" (1059 : Nat) ({ cls := "jdk/internal/util/Preconditions", name := "checkIndex", desc := "(IILjava/util/function/BiFunction;)I" } : Jvm.MethodName))]
def om_iy : Nat → MethodName
  | 1 => Lib.Math.min.name
  | 2 => Lib.Math.max.name
  | 3 => arraycopyName
  | _ => yJ0_checkIndex_df160
def om_sy (k : Nat) : MethodName := ((om_nth om_sig k).getD (om_iy 1, ByteArray.mk #[], 0, none, 0, false, 0)).1
def om_fw (q : Nat × Nat × Nat × Nat) : Cond := .fieldLink (om_cn q.1) q.2.1 (om_cn q.2.2.1) (om_Tf q.2.2.1 q.2.2.2).2.1 (om_Tf q.2.2.1 q.2.2.2).2.2.1
def om_fn (q : Nat × Nat × Nat × Nat) : Cond := .fieldLinkNest (om_cn q.1) q.2.1 (om_cn q.2.2.1) (om_Tf q.2.2.1 q.2.2.2).2.1 (om_Tf q.2.2.1 q.2.2.2).2.2.1 "OneMark"
def om_mw (q : Nat × Nat × Nat) : Cond := .methodLink (om_cn q.1) q.2.1 (om_sy q.2.2)
def om_mn (q : Nat × Nat × Nat) : Cond := .methodLinkNest (om_cn q.1) q.2.1 (om_sy q.2.2) "OneMark"
def om_iw (q : Nat × Nat × Nat) : Cond := .methodLink (om_cn q.1) q.2.1 (om_iy q.2.2)
def om_ci (q : Nat × Nat × Int32) : Cond := .constant (om_cn q.1) q.2.1 q.2.2
def om_cj (q : Nat × Nat × Int64) : Cond := .constantLong (om_cn q.1) q.2.1 q.2.2
def om_sw4 (q : om_Sg) : List Cond := .code q.1 q.2.1 q.2.2.1 q.2.2.2.1 :: .initialized q.1.cls :: (bif q.2.2.2.2.2.1 then [.static q.1] else [.instanceMethod q.1, .selects q.1.cls q.1 q.1])
def om_cw : List Cond := wsX00 ++ (wsX10 ++ (wsX20 ++ (wsX30 ++ (wsX40 ++ (wsX50 ++ (wsX60 ++ wsX70))))))
def om_tb : List Cond := om_fwl.map om_fw ++ (om_mwl.map om_mw ++ (om_iwl.map om_iw ++ (om_cil.map om_ci ++ (om_cll.map om_cj ++ (om_xw ++ (om_cw ++ om_sig.flatMap om_sw4))))))
def om_nw : List Cond := om_fnl.map om_fn ++ om_mnl.map om_mn
def om_tix : List (List Nat) := [[147, 151, 154, 156, 159, 161, 164, 167, 196, 198, 200, 201, 203, 205, 207, 232, 234, 249, 251, 253, 254, 255, 256, 257, 258, 282, 284, 285, 286, 287, 288, 289, 290, 314, 316, 318, 319, 321, 323, 325, 326, 327, 328, 329, 354, 355, 356, 357, 358, 359, 360, 922, 923, 924, 925, 926, 927, 928, 929, 930, 931, 932, 933, 934, 935, 936, 937, 938, 939, 940, 941, 942, 943, 944, 945, 946, 947, 948, 949, 950, 951, 952, 953, 954, 955, 956, 957, 958], [376, 380, 383, 390, 394, 398, 402, 413, 417, 425, 434, 439, 443, 447, 455, 459, 463, 475, 479, 487, 488, 496, 497, 501, 509, 513, 514, 522, 525, 531, 534, 538, 542, 550, 561, 565, 572, 580, 586, 590, 594, 597, 601, 606, 614, 618, 622, 634, 635, 642, 646, 654, 657, 661, 666, 674, 683, 687, 699, 703, 706, 711, 715, 719, 725, 729, 733, 775, 778, 782, 786, 799, 807, 811, 815, 820, 824, 828, 832, 836, 840, 844, 852, 856, 862, 872, 885, 890, 894, 898, 906, 907, 908, 1035, 1039, 1042, 1046, 1050, 1056, 1060, 1064, 1068, 1072, 1077, 1081, 1085, 1089, 1093, 1097, 1101, 1105, 1109, 1113, 1117, 1121, 1125, 1129, 1133, 1137, 1142, 1146, 1149, 1153, 1157, 1161, 1165, 1170, 1174, 1178, 1182, 1186, 1194, 1198, 1202, 1206, 1210, 1214, 1218, 1222, 1226, 1230, 1234, 1238, 1242, 1246, 1250, 1253, 1259, 1263, 1267, 1271, 1274, 1278, 1282, 1286, 1290, 1295, 1300, 1304, 1308, 1313, 1319, 1327, 1331, 1335, 1339, 1340, 1344, 1348, 1352, 1356, 1360, 1364], [528, 554, 557, 558, 665, 736, 798], [438, 583, 584, 585, 605, 1076, 1141, 1294, 1299, 1312, 1317, 1318, 1323, 1324, 1325, 1326], [678, 889, 1045, 1054, 1055, 1169, 1190, 1191, 1192, 1193, 1257, 1258, 1368], [1369, 1370, 723, 739, 529, 530, 555, 556, 126, 127, 559, 560, 737, 738, 742, 743, 129, 131, 741], [170, 172, 174, 176, 178, 180, 182, 184, 236, 238, 259, 261, 263, 265, 267, 269, 271, 273, 211, 213, 215, 217, 219, 221, 223, 331, 333, 335, 337, 339, 341, 343, 345, 347, 349, 351, 291, 293, 295, 297, 299, 301, 303, 305, 361, 363, 365, 367, 369, 371, 373, 959, 961, 963, 965, 967, 969, 971, 973, 975, 977, 979, 981, 983, 985, 987, 989, 991, 993, 995, 997, 999, 1001, 1003, 1005, 1007, 1009, 1011, 1013, 1015, 1017, 1019, 1021, 1023, 1025, 1027, 1029, 1031], [393, 119, 392, 1, 389, 119, 388, 0, 412, 119, 411, 4, 424, 119, 423, 6, 408, 119, 407, 3, 432, 119, 431, 7, 633, 119, 632, 33, 915, 119, 914, 71, 645, 121, 644, 35, 641, 121, 640, 34, 660, 121, 659, 37, 664, 121, 663, 38, 656, 121, 655, 653, 121, 652, 36, 553, 122, 552, 23, 549, 122, 548, 22, 579, 120, 578, 26, 582, 128, 581, 575, 122, 574, 25, 596, 122, 595, 593, 122, 592, 28, 604, 122, 603, 30, 600, 122, 599, 29, 589, 122, 588, 27, 571, 122, 570, 24, 888, 122, 887, 69, 884, 122, 883, 68, 673, 122, 672, 39, 458, 120, 457, 10, 462, 120, 461, 11, 466, 120, 465, 12, 454, 120, 453, 9, 629, 120, 628, 32, 613, 120, 612, 31, 470, 120, 469, 13, 905, 120, 904, 70, 478, 120, 477, 15, 474, 120, 473, 14, 486, 120, 485, 16, 495, 120, 494, 17, 512, 120, 511, 19, 508, 120, 507, 18, 527, 120, 526, 533, 120, 532, 524, 120, 523, 521, 120, 520, 20, 698, 124, 697, 42, 797, 124, 796, 50, 814, 124, 813, 54, 810, 124, 809, 53, 827, 124, 826, 57, 851, 124, 850, 63, 793, 124, 792, 49, 806, 124, 805, 52, 823, 124, 822, 56, 819, 124, 818, 55, 875, 124, 874, 67, 870, 124, 869, 66, 682, 123, 681, 40, 705, 123, 704, 722, 129, 720, 721, 718, 129, 716, 717, 732, 129, 730, 731, 735, 130, 734, 728, 129, 726, 727, 714, 123, 713, 45, 709, 123, 708, 44, 777, 123, 776, 781, 123, 780, 46, 702, 123, 701, 43, 789, 123, 788, 48, 802, 123, 801, 51, 831, 123, 830, 58, 839, 123, 838, 60, 835, 123, 834, 59, 843, 123, 842, 61, 847, 123, 846, 62, 855, 123, 854, 64, 859, 123, 858, 65, 785, 123, 784, 47, 694, 123, 693, 41, 382, 118, 381, 385, 118, 384, 379, 118, 377, 378, 401, 118, 400, 2, 404, 118, 403, 397, 118, 395, 396, 420, 118, 419, 5, 416, 118, 414, 415, 428, 118, 426, 427, 437, 118, 435, 436, 442, 118, 440, 441, 450, 118, 449, 8, 446, 118, 444, 445, 482, 118, 480, 481, 491, 118, 489, 490, 504, 118, 502, 503, 500, 118, 498, 499, 517, 118, 515, 516, 541, 118, 540, 21, 537, 118, 535, 536, 545, 118, 543, 544, 567, 118, 566, 564, 118, 562, 563, 609, 118, 607, 608, 617, 118, 615, 616, 621, 118, 619, 620, 637, 118, 636, 625, 118, 623, 624, 649, 118, 647, 648, 669, 118, 667, 668, 677, 118, 675, 676, 686, 118, 684, 685, 690, 118, 688, 689, 865, 118, 863, 864, 893, 118, 891, 892, 897, 118, 895, 896, 901, 118, 899, 900, 911, 118, 909, 910, 1044, 125, 1043, 1053, 125, 1052, 72, 1067, 125, 1066, 74, 1088, 125, 1087, 75, 1041, 125, 1040, 1038, 125, 1036, 1037, 1059, 125, 1058, 73, 1049, 125, 1047, 1048, 1063, 125, 1061, 1062, 1071, 125, 1069, 1070, 1075, 125, 1073, 1074, 1080, 125, 1078, 1079, 1096, 125, 1095, 77, 1092, 125, 1091, 76, 1164, 125, 1163, 87, 1104, 125, 1103, 79, 1100, 125, 1099, 78, 1084, 125, 1082, 1083, 1108, 125, 1106, 1107, 1116, 125, 1115, 80, 1112, 125, 1110, 1111, 1124, 125, 1123, 81, 1120, 125, 1118, 1119, 1128, 125, 1126, 1127, 1148, 125, 1147, 1145, 125, 1144, 84, 1140, 125, 1139, 83, 1136, 125, 1135, 82, 1132, 125, 1130, 1131, 1156, 125, 1155, 85, 1160, 125, 1159, 86, 1152, 125, 1150, 1151, 1181, 125, 1180, 90, 1177, 125, 1176, 89, 1173, 125, 1172, 88, 1168, 125, 1166, 1167, 1189, 125, 1188, 91, 1185, 125, 1183, 1184, 1197, 125, 1195, 1196, 1201, 125, 1199, 1200, 1205, 125, 1203, 1204, 1217, 125, 1216, 93, 1225, 125, 1224, 95, 1221, 125, 1220, 94, 1213, 125, 1212, 92, 1209, 125, 1207, 1208, 1237, 125, 1236, 97, 1241, 125, 1240, 98, 1233, 125, 1232, 96, 1229, 125, 1227, 1228, 1249, 125, 1248, 99, 1252, 125, 1251, 1245, 125, 1243, 1244, 1256, 125, 1254, 1255, 1262, 125, 1260, 1261, 1273, 125, 1272, 1270, 125, 1269, 100, 1285, 125, 1284, 103, 1281, 125, 1280, 102, 1289, 125, 1288, 104, 1307, 125, 1306, 108, 1311, 125, 1310, 109, 1303, 125, 1302, 107, 1298, 125, 1297, 106, 1322, 125, 1321, 111, 1316, 125, 1315, 110, 1293, 125, 1292, 105, 1334, 125, 1333, 113, 1277, 125, 1276, 101, 1330, 125, 1329, 112, 1266, 125, 1264, 1265, 1347, 125, 1346, 115, 1343, 125, 1342, 114, 1338, 125, 1336, 1337, 1351, 125, 1349, 1350, 1355, 125, 1353, 1354, 1363, 125, 1362, 116, 1359, 125, 1357, 1358, 1367, 125, 1365, 1366], [148, 149, 150, 152, 153, 155, 157, 158, 160, 162, 163, 165, 166, 168, 169, 194, 195, 197, 199, 202, 204, 206, 208, 209, 210, 233, 235, 250, 252, 283, 315, 317, 320, 322, 324, 330], [386, 405, 409, 421, 429, 433, 451, 467, 471, 483, 492, 505, 518, 546, 568, 576, 610, 626, 630, 638, 650, 670, 679, 691, 695, 790, 794, 803, 816, 848, 860, 866, 867, 871, 876, 877, 878, 879, 880, 881, 902, 912]]
/-! ===== the small machine: values, memory, locals, one method's instructions as a function ===== -/
abbrev om_V : Type := Int32 ⊕ (Int64 ⊕ Nat)
abbrev om_M : Type := (Nat → Nat → Int32) × (Nat → Nat → Option Nat)
abbrev om_L : Type := List (Option om_V)
abbrev om_i (x : Int32) : om_V := .inl x
abbrev om_l (x : Int64) : om_V := .inr (.inl x)
abbrev om_r (a : Nat) : om_V := .inr (.inr a)
def om_up (M : om_M) (a j : Nat) (x : Int32) : om_M := (fun b k => if b = a then (if k = j then x else M.1 b k) else M.1 b k, M.2)
def om_upR (M : om_M) (a j : Nat) (x : Nat) : om_M := (M.1, fun b k => if b = a then (if k = j then some x else M.2 b k) else M.2 b k)
def om_cpy (M : om_M) (a1 sp a2 dp n : Nat) : om_M := (fun b k => if b = a2 then va_cpy (M.1 a1) (M.1 a2) sp dp n k else M.1 b k, M.2)
/-- an instruction with what it resolves to: pc, instruction, length, constant, target, (class or kind, slot or method, field's kind, place of its word), switch -/
abbrev om_E : Type := Nat × Instr × Nat × om_V × Nat × (Nat × Nat × Nat × Nat) × List (Int32 × Nat)
abbrev om_e (pc : Nat) (i : Instr) (n : Nat) : om_E := (pc, i, n, .inl 0, 0, (0, 0, 0, 0), [])
abbrev om_ec (pc : Nat) (i : Instr) (n : Nat) (c : om_V) : om_E := (pc, i, n, c, 0, (0, 0, 0, 0), [])
abbrev om_ew (pc : Nat) (i : Instr) (n : Nat) (c : om_V) (w : Nat) : om_E := (pc, i, n, c, 0, (0, 0, 0, w), [])
abbrev om_et (pc : Nat) (i : Instr) (n : Nat) (t : Nat) : om_E := (pc, i, n, .inl 0, t, (0, 0, 0, 0), [])
abbrev om_ef (pc : Nat) (i : Instr) (n : Nat) (c k d w : Nat) : om_E := (pc, i, n, .inl 0, 0, (c, k, d, w), [])
abbrev om_es (pc : Nat) (i : Instr) (n : Nat) (t : Nat) (s : List (Int32 × Nat)) : om_E := (pc, i, n, .inl 0, t, (0, 0, 0, 0), s)
/-- what a block ends in: a jump, a call (method, arguments, where it goes on, locals, rest of the stack), a return; or it is stuck -/
abbrev om_R : Type := (Nat × om_L × List om_V × om_M) ⊕ ((Nat × List om_V × Nat × om_L × List om_V × om_M) ⊕ ((Option om_V × om_M) ⊕ Unit))
abbrev om_go (l : Nat) (L : om_L) (st : List om_V) (M : om_M) : om_R := .inl (l, L, st, M)
abbrev om_ca (k : Nat) (as : List om_V) (l : Nat) (L : om_L) (st : List om_V) (M : om_M) : om_R := .inr (.inl (k, as, l, L, st, M))
abbrev om_rt (v : Option om_V) (M : om_M) : om_R := .inr (.inr (.inl (v, M)))
abbrev om_no : om_R := .inr (.inr (.inr ()))
def om_p1 (st : List om_V) (k : Int32 → List om_V → om_R) : om_R := match st with
  | .inl x :: r => k x r
  | _ => om_no
def om_p2 (st : List om_V) (k : Int32 → Int32 → List om_V → om_R) : om_R := match st with
  | .inl y :: .inl x :: r => k x y r
  | _ => om_no
def om_q1 (st : List om_V) (k : Int64 → List om_V → om_R) : om_R := match st with
  | .inr (.inl x) :: r => k x r
  | _ => om_no
def om_q2 (st : List om_V) (k : Int64 → Int64 → List om_V → om_R) : om_R := match st with
  | .inr (.inl y) :: .inr (.inl x) :: r => k x y r
  | _ => om_no
def om_qi (st : List om_V) (k : Int64 → Int32 → List om_V → om_R) : om_R := match st with
  | .inl y :: .inr (.inl x) :: r => k x y r
  | _ => om_no
def om_a1 (st : List om_V) (k : Nat → List om_V → om_R) : om_R := match st with
  | .inr (.inr a) :: r => k a r
  | _ => om_no
def om_ai (st : List om_V) (k : Nat → Int32 → List om_V → om_R) : om_R := match st with
  | .inl i :: .inr (.inr a) :: r => k a i r
  | _ => om_no
def om_aii (st : List om_V) (k : Nat → Int32 → Int32 → List om_V → om_R) : om_R := match st with
  | .inl x :: .inl i :: .inr (.inr a) :: r => k a i x r
  | _ => om_no
def om_ar (st : List om_V) (k : Nat → Nat → List om_V → om_R) : om_R := match st with
  | .inr (.inr b) :: .inr (.inr a) :: r => k a b r
  | _ => om_no
def om_li (L : om_L) (i : Nat) (k : Int32 → om_R) : om_R := match L.getD i none with
  | some (.inl x) => k x
  | _ => om_no
def om_ll (L : om_L) (i : Nat) (k : Int64 → om_R) : om_R := match L.getD i none with
  | some (.inr (.inl x)) => k x
  | _ => om_no
def om_lr (L : om_L) (i : Nat) (k : Nat → om_R) : om_R := match L.getD i none with
  | some (.inr (.inr x)) => k x
  | _ => om_no
def om_isL : Option om_V → Bool
  | some (.inr (.inl _)) => true
  | _ => false
/-- a value of one slot is stored: a long that began one place ahead is gone -/
def om_s1 : om_L → Nat → om_V → om_L
  | [], _, _ => []
  | _ :: t, 0, v => some v :: t
  | h :: t, 1, v => (bif om_isL h then none else h) :: om_s1 t 0 v
  | h :: t, (i + 2), v => h :: om_s1 t (i + 1) v
def om_s2 : om_L → Nat → om_V → om_L
  | [], _, _ => []
  | [_], 0, _ => []
  | _ :: _ :: t, 0, v => some v :: none :: t
  | h :: t, 1, v => (bif om_isL h then none else h) :: om_s2 t 0 v
  | h :: t, (i + 2), v => h :: om_s2 t (i + 1) v
def om_tr : List Bool → om_L → om_L
  | b :: bs, v :: vs => (bif b then v else none) :: om_tr bs vs
  | _, _ => []
def om_in (i : Int32) (n : Nat) : Bool := decide (0 ≤ i) && decide (i.toNatClampNeg < n)
def om_cg (a : Nat) (sp : Int32) (b : Nat) (dp n : Int32) : Bool := om_isA a 1 && (om_isA b 1 && (decide (0 ≤ sp) && (decide (0 ≤ dp) && (decide (0 ≤ n) && (Nat.ble (sp.toNatClampNeg + n.toNatClampNeg) (om_ln a) && Nat.ble (dp.toNatClampNeg + n.toNatClampNeg) (om_ln b))))))
def om_oe (o : Option Nat) (k : Nat → om_R) : om_R := match o with
  | some q => k q
  | none => om_no
def om_sw (x : Int32) (d : Nat) (L : om_L) (st : List om_V) (M : om_M) : List (Int32 × Nat) → om_R
  | [] => om_go d L st M
  | q :: r => if x = q.1 then om_go q.2 L st M else om_sw x d L st M r
def om_nr : Nat → Int32 → Bool
  | 0, _ => true
  | 1, v => decide (v = 0) || decide (v = 1)
  | 2, v => decide (v = 0)
  | _, v => decide (0 ≤ v) && decide (v ≤ 255)
def om_take : Nat → List om_V → Option (List om_V × List om_V)
  | 0, st => some ([], st)
  | n + 1, v :: st => match om_take n st with
    | some (as, r) => some (as ++ [v], r)
    | none => none
  | _ + 1, [] => none
def om_cp (st : List om_V) (k : Nat → Int32 → Nat → Int32 → Int32 → List om_V → om_R) : om_R := match st with
  | .inl n9 :: .inl dp :: .inr (.inr b) :: .inl sp :: .inr (.inr a) :: st => k a sp b dp n9 st
  | _ => om_no
def om_rc : List om_V → Option Nat
  | .inr (.inr a) :: _ => some a
  | _ => none
/-- a call: n arguments (a receiver counts), its class told by code (0: none) -/
def om_cl (k n ci nx : Nat) (L : om_L) (st : List om_V) (M : om_M) : om_R := match om_take n st with
  | some (as, r) => bif Nat.ble r.length 4 then (match ci with
    | 0 => om_ca k as nx L r M
    | c + 1 => om_oe (om_rc as) fun a => bif om_obj a c then om_ca k as nx L r M else om_no) else om_no
  | none => om_no
def om_getf (a k : Nat) (M : om_M) (K : om_V → om_R) : Nat → om_R
  | 0 => K (om_i (M.1 a k))
  | 1 => om_oe (M.2 a k) fun q => K (om_r q)
  | 2 => K (om_r (a + 1000))
  | 3 => K (om_i 0)
  | d + 4 => K (om_r (a + (d + 1)))
def om_ex (rt nx : Nat) : List om_E → om_L → List om_V → om_M → om_R
  | [], L, st, M => om_go nx L st M
  | (pc, i, n, c, t, f, sw) :: r, L, st, M => match i with
    | .iconst _ | .bipush _ | .sipush _ | .lconst _ | .ldc _ | .ldc_w _ | .ldc2_w _ | .getstatic _ => om_ex rt nx r L (c :: st) M
    | .iload_n k => om_li L k fun x => om_ex rt nx r L (om_i x :: st) M
    | .iload k => om_li L k fun x => om_ex rt nx r L (om_i x :: st) M
    | .lload_n k => om_ll L k fun x => om_ex rt nx r L (om_l x :: st) M
    | .lload k => om_ll L k fun x => om_ex rt nx r L (om_l x :: st) M
    | .aload_n k => om_lr L k fun x => om_ex rt nx r L (om_r x :: st) M
    | .aload k => om_lr L k fun x => om_ex rt nx r L (om_r x :: st) M
    | .istore_n k => om_p1 st fun x st => om_ex rt nx r (om_s1 L k (om_i x)) st M
    | .istore k => om_p1 st fun x st => om_ex rt nx r (om_s1 L k (om_i x)) st M
    | .lstore_n k => om_q1 st fun x st => om_ex rt nx r (om_s2 L k (om_l x)) st M
    | .lstore k => om_q1 st fun x st => om_ex rt nx r (om_s2 L k (om_l x)) st M
    | .astore_n k => om_a1 st fun x st => om_ex rt nx r (om_s1 L k (om_r x)) st M
    | .iinc k _ => om_li L k fun x => match c with
      | .inl y => om_ex rt nx r (om_s1 L k (om_i (x + y))) st M
      | _ => om_no
    | .iadd => om_p2 st fun x y st => om_ex rt nx r L (om_i (x + y) :: st) M
    | .isub => om_p2 st fun x y st => om_ex rt nx r L (om_i (x - y) :: st) M
    | .imul => om_p2 st fun x y st => om_ex rt nx r L (om_i (x * y) :: st) M
    | .idiv => om_p2 st fun x y st => bif decide (y = 0) then om_no else om_ex rt nx r L (om_i (x / y) :: st) M
    | .irem => om_p2 st fun x y st => bif decide (y = 0) then om_no else om_ex rt nx r L (om_i (x - x / y * y) :: st) M
    | .ineg => om_p1 st fun x st => om_ex rt nx r L (om_i (-x) :: st) M
    | .iand => om_p2 st fun x y st => om_ex rt nx r L (om_i (x &&& y) :: st) M
    | .ior => om_p2 st fun x y st => om_ex rt nx r L (om_i (x ||| y) :: st) M
    | .ixor => om_p2 st fun x y st => om_ex rt nx r L (om_i (x ^^^ y) :: st) M
    | .ishl => om_p2 st fun x y st => om_ex rt nx r L (om_i (x <<< (y &&& 31)) :: st) M
    | .ishr => om_p2 st fun x y st => om_ex rt nx r L (om_i (x >>> (y &&& 31)) :: st) M
    | .iushr => om_p2 st fun x y st => om_ex rt nx r L (om_i (x.toUInt32 >>> (y.toUInt32 &&& Int32.toUInt32 31)).toInt32 :: st) M
    | .ladd => om_q2 st fun x y st => om_ex rt nx r L (om_l (x + y) :: st) M
    | .lsub => om_q2 st fun x y st => om_ex rt nx r L (om_l (x - y) :: st) M
    | .lmul => om_q2 st fun x y st => om_ex rt nx r L (om_l (x * y) :: st) M
    | .ldiv => om_q2 st fun x y st => bif decide (y = 0) then om_no else om_ex rt nx r L (om_l (x / y) :: st) M
    | .lneg => om_q1 st fun x st => om_ex rt nx r L (om_l (-x) :: st) M
    | .land => om_q2 st fun x y st => om_ex rt nx r L (om_l (x &&& y) :: st) M
    | .lor => om_q2 st fun x y st => om_ex rt nx r L (om_l (x ||| y) :: st) M
    | .lxor => om_q2 st fun x y st => om_ex rt nx r L (om_l (x ^^^ y) :: st) M
    | .lshl => om_qi st fun x y st => om_ex rt nx r L (om_l (x <<< (y.toInt64 &&& 63)) :: st) M
    | .lshr => om_qi st fun x y st => om_ex rt nx r L (om_l (x >>> (y.toInt64 &&& 63)) :: st) M
    | .lcmp => om_q2 st fun x y st => om_ex rt nx r L (om_i (lg_cmp x y) :: st) M
    | .i2l => om_p1 st fun x st => om_ex rt nx r L (om_l x.toInt64 :: st) M
    | .l2i => om_q1 st fun x st => om_ex rt nx r L (om_i x.toInt32 :: st) M
    | .i2c => om_p1 st fun x st => om_ex rt nx r L (om_i (x.toUInt32 % 65536).toInt32 :: st) M
    | .pop => om_p1 st fun _ st => om_ex rt nx r L st M
    | .dup => match st with
      | .inl x :: st => om_ex rt nx r L (om_i x :: om_i x :: st) M
      | .inr (.inr x) :: st => om_ex rt nx r L (om_r x :: om_r x :: st) M
      | _ => om_no
    | .dup_x1 => match st with
      | .inl x :: .inr (.inr y) :: st => om_ex rt nx r L (om_i x :: om_r y :: om_i x :: st) M
      | .inl x :: .inl y :: st => om_ex rt nx r L (om_i x :: om_i y :: om_i x :: st) M
      | _ => om_no
    | .dup2 => om_ai st fun a i st => om_ex rt nx r L (om_i i :: om_r a :: om_i i :: om_r a :: st) M
    | .goto _ => om_go t L st M
    | .ifCond .eq _ => om_p1 st fun x st => if x = 0 then om_go t L st M else om_go (pc + n) L st M
    | .ifCond .ne _ => om_p1 st fun x st => if x = 0 then om_go (pc + n) L st M else om_go t L st M
    | .ifCond .lt _ => om_p1 st fun x st => if x < 0 then om_go t L st M else om_go (pc + n) L st M
    | .ifCond .ge _ => om_p1 st fun x st => if 0 ≤ x then om_go t L st M else om_go (pc + n) L st M
    | .ifCond .gt _ => om_p1 st fun x st => if 0 < x then om_go t L st M else om_go (pc + n) L st M
    | .ifCond .le _ => om_p1 st fun x st => if x ≤ 0 then om_go t L st M else om_go (pc + n) L st M
    | .if_icmp .eq _ => om_p2 st fun x y st => if x = y then om_go t L st M else om_go (pc + n) L st M
    | .if_icmp .ne _ => om_p2 st fun x y st => if x = y then om_go (pc + n) L st M else om_go t L st M
    | .if_icmp .lt _ => om_p2 st fun x y st => if x < y then om_go t L st M else om_go (pc + n) L st M
    | .if_icmp .ge _ => om_p2 st fun x y st => if y ≤ x then om_go t L st M else om_go (pc + n) L st M
    | .if_icmp .gt _ => om_p2 st fun x y st => if y < x then om_go t L st M else om_go (pc + n) L st M
    | .if_icmp .le _ => om_p2 st fun x y st => if x ≤ y then om_go t L st M else om_go (pc + n) L st M
    | .tableswitch _ _ _ _ => om_p1 st fun x st => om_sw x t L st M sw
    | .getfield _ => om_a1 st fun a st => bif om_obj a f.1 then om_getf a f.2.1 M (fun v => om_ex rt nx r L (v :: st) M) f.2.2.1 else om_no
    | .putfield _ => match f.2.2.1 with
      | 0 => om_ai st fun a x st => bif om_obj a f.1 then om_ex rt nx r L st (om_up M a f.2.1 x) else om_no
      | 1 => om_ar st fun a q st => bif om_obj a f.1 then om_ex rt nx r L st (om_upR M a f.2.1 q) else om_no
      | _ => om_no
    | .arraylength => om_a1 st fun a st => bif om_isB a then om_ex rt nx r L (om_i (Int32.ofNat (om_bl a)) :: st) M else om_no
    | .iaload => om_ai st fun a i st => bif om_isA a 1 && om_in i (om_ln a) then om_ex rt nx r L (om_i (M.1 a i.toNatClampNeg) :: st) M else om_no
    | .baload => om_ai st fun a i st => bif om_isA a 2 && om_in i (om_ln a) then om_ex rt nx r L (om_i (M.1 a i.toNatClampNeg) :: st) M else
        bif om_isB a && om_in i (om_bl a) then om_ex rt nx r L (om_i (om_bt a i.toNatClampNeg) :: st) M else om_no
    | .aaload => om_ai st fun a i st => bif om_isA a 3 && om_in i (om_ln a) then om_ex rt nx r L (om_r (a + (om_of a + i.toNatClampNeg)) :: st) M else om_no
    | .iastore => om_aii st fun a i x st => bif om_isA a 1 && om_in i (om_ln a) then om_ex rt nx r L st (om_up M a i.toNatClampNeg x) else om_no
    | .bastore => om_aii st fun a i x st => bif om_isA a 2 && om_in i (om_ln a) then (bif om_nr 1 x then om_ex rt nx r L st (om_up M a i.toNatClampNeg x) else om_no) else om_no
    | .invokevirtual _ => om_cl f.2.1 f.2.2.1 (f.1 + 1) (pc + n) L st M
    | .invokestatic _ => match f.1 with
      | 0 => om_cl f.2.1 f.2.2.1 0 (pc + n) L st M
      | 1 => om_p2 st fun x y st => bif Nat.ble st.length 4 then om_ex rt nx r L (om_i (if y < x then y else x) :: st) M else om_no
      | 2 => om_p2 st fun x y st => bif Nat.ble st.length 4 then om_ex rt nx r L (om_i (if x < y then y else x) :: st) M else om_no
      | 3 => om_cp st fun a sp b dp n9 st => bif Nat.ble st.length 4 then (bif om_cg a sp b dp n9 then om_ex rt nx r L st (om_cpy M a sp.toNatClampNeg b dp.toNatClampNeg n9.toNatClampNeg) else om_no) else om_no
      | 4 => om_p2 st fun x y st => bif Nat.ble st.length 4 then (bif decide (0 ≤ x) && decide (x < y) then om_ex rt nx r L st M else om_no) else om_no
      | _ => om_no
    | .ireturn => match st with
      | [.inl x] => bif om_nr rt x then om_rt (some (om_i x)) M else om_no
      | _ => om_no
    | .return_ => match st with
      | [] => om_rt none M
      | _ => om_no
    | _ => om_no

/-! ===== runs of blocks ===== -/
abbrev om_Bk : Type := Nat × List Bool × List om_E × Nat
abbrev om_C : Type := Nat → List om_V → om_M → Option om_V → om_M → Prop
abbrev om_GT : Type := Nat → om_L → List om_V → om_M → Option om_V → om_M → Prop
def om_fb : List om_Bk → Nat → Option (List Bool × List om_E × Nat)
  | [], _ => none
  | q :: r, l => bif Nat.beq q.1 l then some q.2 else om_fb r l
def om_Kr0 (C : om_C) (G : om_GT) (r : Option om_V) (Mf : om_M) : om_R → Prop
  | .inl (l, L, st, M) => G l L st M r Mf
  | .inr (.inl (k, as, l, L, st, M)) => ∃ v M1, C k as M v M1 ∧ G l L (v.toList ++ st) M1 r Mf
  | .inr (.inr (.inl (v, M))) => r = v ∧ Mf = M
  | .inr (.inr (.inr _)) => False
/-- (so that no unfolding looks into the result) -/
def om_Kr (C : om_C) (G : om_GT) (r : Option om_V) (Mf : om_M) (R : om_R) : Prop := ∃ R', R' = R ∧ om_Kr0 C G r Mf R'
def om_Go (C : om_C) (rt : Nat) (B : List om_Bk) : Nat → om_GT
  | 0 => fun _ _ _ _ _ _ => False
  | n + 1 => fun l L st M r Mf => ∃ kp es nx, om_fb B l = some (kp, es, nx) ∧ om_Kr C (om_Go C rt B n) r Mf (om_ex rt nx es (om_tr kp L) st M)
def om_G (C : om_C) (rt : Nat) (B : List om_Bk) : om_GT := fun l L st M r Mf => ∃ n, om_Go C rt B n l L st M r Mf
theorem om_Kr_ex {C : om_C} {rt : Nat} {B : List om_Bk} {r : Option om_V} {Mf : om_M} {R : om_R} (h : om_Kr C (om_G C rt B) r Mf R) : ∃ n, om_Kr C (om_Go C rt B n) r Mf R := by
  obtain ⟨R', h0, h⟩ := h
  subst h0
  match R', h with
  | .inl (l, L, st, M), ⟨n, h⟩ => exact ⟨n, _, rfl, h⟩
  | .inr (.inl (k, as, l, L, st, M)), ⟨v, M1, h1, n, h2⟩ => exact ⟨n, _, rfl, v, M1, h1, h2⟩
  | .inr (.inr (.inl (v, M))), h => exact ⟨0, _, rfl, h⟩
  | .inr (.inr (.inr _)), h => exact h.elim
theorem om_gb {C : om_C} {rt : Nat} {B : List om_Bk} {l : Nat} {kp : List Bool} {es : List om_E} {nx : Nat} {L L' : om_L} {st : List om_V} {M : om_M} {r : Option om_V} {Mf : om_M} (hb : om_fb B l = some (kp, es, nx)) (hL : om_tr kp L = L') {X : om_R} (he : om_ex rt nx es L' st M = X) (hk : om_Kr C (om_G C rt B) r Mf X) : om_G C rt B l L st M r Mf := by
  obtain ⟨n, h⟩ := om_Kr_ex hk
  exact ⟨n + 1, kp, es, nx, hb, by rw [hL, he]; exact h⟩
def om_it {α β : Type} (f : α → Option (α ⊕ β)) : Nat → α → Option β
  | 0, _ => none
  | n + 1, x => (f x).bind (Sum.elim (om_it f n) some)
theorem om_it_ok {α β : Type} {f : α → Option (α ⊕ β)} {P : α → Prop} {Q : β → Prop} (hf : ∀ x e, f x = some e → Sum.elim P Q e → P x) : ∀ n x z, om_it f n x = some z → Q z → P x
  | 0, _, _, h, _ => nomatch h
  | n + 1, x, z, h, hq => by
    unfold om_it at h
    cases hx : f x with
    | none => rw [hx] at h; cases h
    | some e =>
      rw [hx] at h
      refine hf x e hx ?_
      cases e with
      | inl y => exact om_it_ok hf n y z h hq
      | inr y => cases h; exact hq
section KK
variable {C : om_C} {G : om_GT} {r : Option om_V} {Mf : om_M} {ε : Type} {e : ε}
theorem om_ki {c : Prop} {inst : Decidable c} {A B : Option ε} {X Y : om_R} (h : (if c then A else B) = some e) (ka : A = some e → om_Kr C G r Mf X) (kb : B = some e → om_Kr C G r Mf Y) : om_Kr C G r Mf (if c then X else Y) := by
  by_cases hc : c
  · rw [if_pos hc] at h ⊢; exact ka h
  · rw [if_neg hc] at h ⊢; exact kb h
theorem om_kb {g g' : Bool} {A : Option ε} {X : om_R} (h : (bif g then A else none) = some e) (hg : g' = g) (k : A = some e → om_Kr C G r Mf X) : om_Kr C G r Mf (bif g' then X else om_no) := by
  subst hg
  cases g' with
  | true => exact k h
  | false => cases h
theorem om_kdv {g : Bool} {A : Option ε} {X : om_R} (h : (bif !g then A else none) = some e) (k : A = some e → om_Kr C G r Mf X) : om_Kr C G r Mf (bif g then om_no else X) := by
  cases g with
  | false => exact k h
  | true => cases h
theorem om_k2 {g g2 : Bool} {A B : Option ε} {X Y : om_R} (h : (bif g then A else bif g2 then B else none) = some e) (k : A = some e → om_Kr C G r Mf X) (k2 : B = some e → om_Kr C G r Mf Y) : om_Kr C G r Mf (bif g then X else bif g2 then Y else om_no) := by
  cases g with
  | true => exact k h
  | false => cases g2 with
    | true => exact k2 h
    | false => cases h
theorem om_ko {o : Option Nat} {f : Nat → Option ε} {K : Nat → om_R} (h : o.bind f = some e) (k : ∀ q, f q = some e → om_Kr C G r Mf (K q)) : om_Kr C G r Mf (om_oe o K) := by
  cases o with
  | none => cases h
  | some q => exact k q h
theorem om_kc {o : Option (Int32 × om_M)} {f : Int32 × om_M → Option ε} {k : Nat} {as : List om_V} {l : Nat} {L : om_L} {st : List om_V} {M : om_M} (h : o.bind f = some e) (hC : ∀ q, o = some q → C k as M (some (om_i q.1)) q.2) (kk : ∀ q, f q = some e → G l L (om_i q.1 :: st) q.2 r Mf) : om_Kr C G r Mf (om_ca k as l L st M) := by
  cases o with
  | none => cases h
  | some q => exact ⟨_, rfl, some (om_i q.1), q.2, hC q rfl, kk q h⟩
theorem om_kcv {o : Option om_M} {f : om_M → Option ε} {k : Nat} {as : List om_V} {l : Nat} {L : om_L} {st : List om_V} {M : om_M} (h : o.bind f = some e) (hC : ∀ q, o = some q → C k as M none q) (kk : ∀ q, f q = some e → G l L st q r Mf) : om_Kr C G r Mf (om_ca k as l L st M) := by
  cases o with
  | none => cases h
  | some q => exact ⟨_, rfl, none, q, hC q rfl, kk q h⟩
theorem om_cm {v : Int32} {M : om_M} {e : Int32 × om_M} (h : some (v, M) = some e) (hk : r = some (om_i e.1) ∧ Mf = e.2) : om_Kr C G r Mf (om_rt (some (om_i v)) M) := by
  cases h; exact ⟨_, rfl, hk⟩
theorem om_cmv {M : om_M} {e : om_M} (h : some M = some e) (hk : r = none ∧ Mf = e) : om_Kr C G r Mf (om_rt none M) := by
  cases h; exact ⟨_, rfl, hk⟩
theorem om_kg {l : Nat} {L : om_L} {st : List om_V} {M : om_M} (h : G l L st M r Mf) : om_Kr C G r Mf (om_go l L st M) := ⟨_, rfl, h⟩
theorem om_km {v : Option om_V} {M : om_M} (h : r = v ∧ Mf = M) : om_Kr C G r Mf (om_rt v M) := ⟨_, rfl, h⟩
theorem om_cq {v : Int32} {M : om_M} {e : Int32 × om_M} (h : some (v, M) = some e) (hk : r = some (om_i e.1) ∧ Mf = e.2) : r = some (om_i v) ∧ Mf = M := by
  cases h; exact hk
theorem om_cqv {M : om_M} {e : om_M} (h : some M = some e) (hk : r = none ∧ Mf = e) : r = none ∧ Mf = M := by
  cases h; exact hk
theorem om_cin {α β : Type} {P : α → Prop} {Q : β → Prop} {x : α} {e : α ⊕ β} (h : some (Sum.inl x) = some e) (hk : Sum.elim P Q e) : P x := by
  cases h; exact hk
theorem om_cir {α β : Type} {P : α → Prop} {Q : β → Prop} {y : β} {e : α ⊕ β} (h : some (Sum.inr y) = some e) (hk : Sum.elim P Q e) : Q y := by
  cases h; exact hk
theorem om_sd {α β : Type} {f : α → Option ε} {g : β → Option ε} {Q1 : α → Prop} {Q2 : β → Prop} {q : α ⊕ β} (h : Sum.elim f g q = some e) (h1 : ∀ z, f z = some e → Q1 z) (h2 : ∀ z, g z = some e → Q2 z) : Sum.elim Q1 Q2 q := by
  cases q with
  | inl z => exact h1 z h
  | inr z => exact h2 z h
theorem om_kL {α β : Type} {f : α → Option (α ⊕ β)} {P : α → Prop} {Q : β → Prop} {F : Nat} {x : α} {D : β → Option ε} (h : (om_it f F x).bind D = some e) (hf : ∀ x e, f x = some e → Sum.elim P Q e → P x) (hd : ∀ z, D z = some e → Q z) : P x := by
  cases hi : om_it f F x with
  | none => rw [hi] at h; cases h
  | some z => rw [hi] at h; exact om_it_ok hf F x z hi (hd z h)
end KK
theorem om_ga {a c n : Nat} {i : Int32} (h1 : om_isA a c = true) (h2 : om_ln a = n) : (om_isA a c && om_in i (om_ln a)) = om_in i n := by rw [h1, h2]; rfl

theorem om_x_nil {rt nx : Nat} {L : om_L} {st : List om_V} {M : om_M} : om_ex rt nx [] L st M = om_go nx L st M := rfl
theorem om_x_iconst {rt nx pc n : Nat} {r : List om_E} {L : om_L} {st : List om_V} {M : om_M} {i : Int} {c : om_V} {w : Nat} : om_ex rt nx (om_ew pc (.iconst i) n c w :: r) L st M = om_ex rt nx r L (c :: st) M := rfl
theorem om_x_bipush {rt nx pc n : Nat} {r : List om_E} {L : om_L} {st : List om_V} {M : om_M} {i : Int} {c : om_V} {w : Nat} : om_ex rt nx (om_ew pc (.bipush i) n c w :: r) L st M = om_ex rt nx r L (c :: st) M := rfl
theorem om_x_sipush {rt nx pc n : Nat} {r : List om_E} {L : om_L} {st : List om_V} {M : om_M} {i : Int} {c : om_V} {w : Nat} : om_ex rt nx (om_ew pc (.sipush i) n c w :: r) L st M = om_ex rt nx r L (c :: st) M := rfl
theorem om_x_lconst {rt nx pc n : Nat} {r : List om_E} {L : om_L} {st : List om_V} {M : om_M} {i : Fin 2} {c : om_V} {w : Nat} : om_ex rt nx (om_ew pc (.lconst i) n c w :: r) L st M = om_ex rt nx r L (c :: st) M := rfl
theorem om_x_ldc {rt nx pc n : Nat} {r : List om_E} {L : om_L} {st : List om_V} {M : om_M} {i : Nat} {c : om_V} {w : Nat} : om_ex rt nx (om_ew pc (.ldc i) n c w :: r) L st M = om_ex rt nx r L (c :: st) M := rfl
theorem om_x_ldc_w {rt nx pc n : Nat} {r : List om_E} {L : om_L} {st : List om_V} {M : om_M} {i : Nat} {c : om_V} {w : Nat} : om_ex rt nx (om_ew pc (.ldc_w i) n c w :: r) L st M = om_ex rt nx r L (c :: st) M := rfl
theorem om_x_ldc2_w {rt nx pc n : Nat} {r : List om_E} {L : om_L} {st : List om_V} {M : om_M} {i : Nat} {c : om_V} {w : Nat} : om_ex rt nx (om_ew pc (.ldc2_w i) n c w :: r) L st M = om_ex rt nx r L (c :: st) M := rfl
theorem om_x_getstatic {rt nx pc n : Nat} {r : List om_E} {L : om_L} {st : List om_V} {M : om_M} {i : Nat} {c : om_V} {w : Nat} : om_ex rt nx (om_ew pc (.getstatic i) n c w :: r) L st M = om_ex rt nx r L (c :: st) M := rfl
theorem om_x_iload_n {rt nx pc n : Nat} {r : List om_E} {L : om_L} {st : List om_V} {M : om_M} {i : Fin 4} {x : Int32} (h : L.getD i none = some (om_i x)) : om_ex rt nx (om_e pc (.iload_n i) n :: r) L st M = om_ex rt nx r L (om_i x :: st) M := by
  show om_li L i _ = _
  unfold om_li
  rw [h]
theorem om_x_iload {rt nx pc n : Nat} {r : List om_E} {L : om_L} {st : List om_V} {M : om_M} {i : Nat} {x : Int32} (h : L.getD i none = some (om_i x)) : om_ex rt nx (om_e pc (.iload i) n :: r) L st M = om_ex rt nx r L (om_i x :: st) M := by
  show om_li L i _ = _
  unfold om_li
  rw [h]
theorem om_x_lload_n {rt nx pc n : Nat} {r : List om_E} {L : om_L} {st : List om_V} {M : om_M} {i : Fin 4} {x : Int64} (h : L.getD i none = some (om_l x)) : om_ex rt nx (om_e pc (.lload_n i) n :: r) L st M = om_ex rt nx r L (om_l x :: st) M := by
  show om_ll L i _ = _
  unfold om_ll
  rw [h]
theorem om_x_lload {rt nx pc n : Nat} {r : List om_E} {L : om_L} {st : List om_V} {M : om_M} {i : Nat} {x : Int64} (h : L.getD i none = some (om_l x)) : om_ex rt nx (om_e pc (.lload i) n :: r) L st M = om_ex rt nx r L (om_l x :: st) M := by
  show om_ll L i _ = _
  unfold om_ll
  rw [h]
theorem om_x_aload_n {rt nx pc n : Nat} {r : List om_E} {L : om_L} {st : List om_V} {M : om_M} {i : Fin 4} {x : Nat} (h : L.getD i none = some (om_r x)) : om_ex rt nx (om_e pc (.aload_n i) n :: r) L st M = om_ex rt nx r L (om_r x :: st) M := by
  show om_lr L i _ = _
  unfold om_lr
  rw [h]
theorem om_x_aload {rt nx pc n : Nat} {r : List om_E} {L : om_L} {st : List om_V} {M : om_M} {i : Nat} {x : Nat} (h : L.getD i none = some (om_r x)) : om_ex rt nx (om_e pc (.aload i) n :: r) L st M = om_ex rt nx r L (om_r x :: st) M := by
  show om_lr L i _ = _
  unfold om_lr
  rw [h]
theorem om_x_istore_n {rt nx pc n : Nat} {r : List om_E} {L : om_L} {st : List om_V} {M : om_M} {i : Fin 4} {x : Int32} (L' : om_L) (h : om_s1 L i (om_i x) = L') : om_ex rt nx (om_e pc (.istore_n i) n :: r) L (om_i x :: st) M = om_ex rt nx r L' (st) M := by
  subst h
  rfl
theorem om_x_istore {rt nx pc n : Nat} {r : List om_E} {L : om_L} {st : List om_V} {M : om_M} {i : Nat} {x : Int32} (L' : om_L) (h : om_s1 L i (om_i x) = L') : om_ex rt nx (om_e pc (.istore i) n :: r) L (om_i x :: st) M = om_ex rt nx r L' (st) M := by
  subst h
  rfl
theorem om_x_lstore_n {rt nx pc n : Nat} {r : List om_E} {L : om_L} {st : List om_V} {M : om_M} {i : Fin 4} {x : Int64} (L' : om_L) (h : om_s2 L i (om_l x) = L') : om_ex rt nx (om_e pc (.lstore_n i) n :: r) L (om_l x :: st) M = om_ex rt nx r L' (st) M := by
  subst h
  rfl
theorem om_x_lstore {rt nx pc n : Nat} {r : List om_E} {L : om_L} {st : List om_V} {M : om_M} {i : Nat} {x : Int64} (L' : om_L) (h : om_s2 L i (om_l x) = L') : om_ex rt nx (om_e pc (.lstore i) n :: r) L (om_l x :: st) M = om_ex rt nx r L' (st) M := by
  subst h
  rfl
theorem om_x_astore_n {rt nx pc n : Nat} {r : List om_E} {L : om_L} {st : List om_V} {M : om_M} {i : Fin 4} {x : Nat} (L' : om_L) (h : om_s1 L i (om_r x) = L') : om_ex rt nx (om_e pc (.astore_n i) n :: r) L (om_r x :: st) M = om_ex rt nx r L' (st) M := by
  subst h
  rfl
theorem om_x_iinc {rt nx pc n : Nat} {r : List om_E} {L : om_L} {st : List om_V} {M : om_M} {i : Nat} {d : Int} {x y : Int32} (L' : om_L) (h : L.getD i none = some (om_i x)) (h2 : om_s1 L i (om_i (x + y)) = L') : om_ex rt nx (om_ec pc (.iinc i d) n (om_i y) :: r) L st M = om_ex rt nx r L' (st) M := by
  subst h2
  show om_li L i _ = _
  unfold om_li
  rw [h]
theorem om_x_iadd {rt nx pc n : Nat} {r : List om_E} {L : om_L} {st : List om_V} {M : om_M} {x y : Int32} : om_ex rt nx (om_e pc .iadd n :: r) L (om_i y :: om_i x :: st) M = om_ex rt nx r L (om_i (x + y) :: st) M := rfl
theorem om_x_isub {rt nx pc n : Nat} {r : List om_E} {L : om_L} {st : List om_V} {M : om_M} {x y : Int32} : om_ex rt nx (om_e pc .isub n :: r) L (om_i y :: om_i x :: st) M = om_ex rt nx r L (om_i (x - y) :: st) M := rfl
theorem om_x_imul {rt nx pc n : Nat} {r : List om_E} {L : om_L} {st : List om_V} {M : om_M} {x y : Int32} : om_ex rt nx (om_e pc .imul n :: r) L (om_i y :: om_i x :: st) M = om_ex rt nx r L (om_i (x * y) :: st) M := rfl
theorem om_x_iand {rt nx pc n : Nat} {r : List om_E} {L : om_L} {st : List om_V} {M : om_M} {x y : Int32} : om_ex rt nx (om_e pc .iand n :: r) L (om_i y :: om_i x :: st) M = om_ex rt nx r L (om_i (x &&& y) :: st) M := rfl
theorem om_x_ior {rt nx pc n : Nat} {r : List om_E} {L : om_L} {st : List om_V} {M : om_M} {x y : Int32} : om_ex rt nx (om_e pc .ior n :: r) L (om_i y :: om_i x :: st) M = om_ex rt nx r L (om_i (x ||| y) :: st) M := rfl
theorem om_x_ixor {rt nx pc n : Nat} {r : List om_E} {L : om_L} {st : List om_V} {M : om_M} {x y : Int32} : om_ex rt nx (om_e pc .ixor n :: r) L (om_i y :: om_i x :: st) M = om_ex rt nx r L (om_i (x ^^^ y) :: st) M := rfl
theorem om_x_ishl {rt nx pc n : Nat} {r : List om_E} {L : om_L} {st : List om_V} {M : om_M} {x y : Int32} : om_ex rt nx (om_e pc .ishl n :: r) L (om_i y :: om_i x :: st) M = om_ex rt nx r L (om_i (x <<< (y &&& 31)) :: st) M := rfl
theorem om_x_ishr {rt nx pc n : Nat} {r : List om_E} {L : om_L} {st : List om_V} {M : om_M} {x y : Int32} : om_ex rt nx (om_e pc .ishr n :: r) L (om_i y :: om_i x :: st) M = om_ex rt nx r L (om_i (x >>> (y &&& 31)) :: st) M := rfl
theorem om_x_iushr {rt nx pc n : Nat} {r : List om_E} {L : om_L} {st : List om_V} {M : om_M} {x y : Int32} : om_ex rt nx (om_e pc .iushr n :: r) L (om_i y :: om_i x :: st) M = om_ex rt nx r L (om_i ((x.toUInt32 >>> (y.toUInt32 &&& Int32.toUInt32 31)).toInt32) :: st) M := rfl
theorem om_x_idiv {rt nx pc n : Nat} {r : List om_E} {L : om_L} {st : List om_V} {M : om_M} {x y : Int32} : om_ex rt nx (om_e pc .idiv n :: r) L (om_i y :: om_i x :: st) M = (bif decide (y = (0 : Int32)) then om_no else om_ex rt nx r L (om_i (x / y) :: st) M) := rfl
theorem om_x_irem {rt nx pc n : Nat} {r : List om_E} {L : om_L} {st : List om_V} {M : om_M} {x y : Int32} : om_ex rt nx (om_e pc .irem n :: r) L (om_i y :: om_i x :: st) M = (bif decide (y = (0 : Int32)) then om_no else om_ex rt nx r L (om_i (x - x / y * y) :: st) M) := rfl
theorem om_x_ladd {rt nx pc n : Nat} {r : List om_E} {L : om_L} {st : List om_V} {M : om_M} {x y : Int64} : om_ex rt nx (om_e pc .ladd n :: r) L (om_l y :: om_l x :: st) M = om_ex rt nx r L (om_l (x + y) :: st) M := rfl
theorem om_x_lsub {rt nx pc n : Nat} {r : List om_E} {L : om_L} {st : List om_V} {M : om_M} {x y : Int64} : om_ex rt nx (om_e pc .lsub n :: r) L (om_l y :: om_l x :: st) M = om_ex rt nx r L (om_l (x - y) :: st) M := rfl
theorem om_x_lmul {rt nx pc n : Nat} {r : List om_E} {L : om_L} {st : List om_V} {M : om_M} {x y : Int64} : om_ex rt nx (om_e pc .lmul n :: r) L (om_l y :: om_l x :: st) M = om_ex rt nx r L (om_l (x * y) :: st) M := rfl
theorem om_x_land {rt nx pc n : Nat} {r : List om_E} {L : om_L} {st : List om_V} {M : om_M} {x y : Int64} : om_ex rt nx (om_e pc .land n :: r) L (om_l y :: om_l x :: st) M = om_ex rt nx r L (om_l (x &&& y) :: st) M := rfl
theorem om_x_lor {rt nx pc n : Nat} {r : List om_E} {L : om_L} {st : List om_V} {M : om_M} {x y : Int64} : om_ex rt nx (om_e pc .lor n :: r) L (om_l y :: om_l x :: st) M = om_ex rt nx r L (om_l (x ||| y) :: st) M := rfl
theorem om_x_lxor {rt nx pc n : Nat} {r : List om_E} {L : om_L} {st : List om_V} {M : om_M} {x y : Int64} : om_ex rt nx (om_e pc .lxor n :: r) L (om_l y :: om_l x :: st) M = om_ex rt nx r L (om_l (x ^^^ y) :: st) M := rfl
theorem om_x_ldiv {rt nx pc n : Nat} {r : List om_E} {L : om_L} {st : List om_V} {M : om_M} {x y : Int64} : om_ex rt nx (om_e pc .ldiv n :: r) L (om_l y :: om_l x :: st) M = (bif decide (y = (0 : Int64)) then om_no else om_ex rt nx r L (om_l (x / y) :: st) M) := rfl
theorem om_x_lcmp {rt nx pc n : Nat} {r : List om_E} {L : om_L} {st : List om_V} {M : om_M} {x y : Int64} : om_ex rt nx (om_e pc .lcmp n :: r) L (om_l y :: om_l x :: st) M = om_ex rt nx r L (om_i (lg_cmp x y) :: st) M := rfl
theorem om_x_lshl {rt nx pc n : Nat} {r : List om_E} {L : om_L} {st : List om_V} {M : om_M} {x : Int64} {y : Int32} : om_ex rt nx (om_e pc .lshl n :: r) L (om_i y :: om_l x :: st) M = om_ex rt nx r L (om_l (x <<< (y.toInt64 &&& 63)) :: st) M := rfl
theorem om_x_lshr {rt nx pc n : Nat} {r : List om_E} {L : om_L} {st : List om_V} {M : om_M} {x : Int64} {y : Int32} : om_ex rt nx (om_e pc .lshr n :: r) L (om_i y :: om_l x :: st) M = om_ex rt nx r L (om_l (x >>> (y.toInt64 &&& 63)) :: st) M := rfl
theorem om_x_ineg {rt nx pc n : Nat} {r : List om_E} {L : om_L} {st : List om_V} {M : om_M} {x : Int32} : om_ex rt nx (om_e pc .ineg n :: r) L (om_i x :: st) M = om_ex rt nx r L (om_i (-x) :: st) M := rfl
theorem om_x_lneg {rt nx pc n : Nat} {r : List om_E} {L : om_L} {st : List om_V} {M : om_M} {x : Int64} : om_ex rt nx (om_e pc .lneg n :: r) L (om_l x :: st) M = om_ex rt nx r L (om_l (-x) :: st) M := rfl
theorem om_x_i2l {rt nx pc n : Nat} {r : List om_E} {L : om_L} {st : List om_V} {M : om_M} {x : Int32} : om_ex rt nx (om_e pc .i2l n :: r) L (om_i x :: st) M = om_ex rt nx r L (om_l x.toInt64 :: st) M := rfl
theorem om_x_l2i {rt nx pc n : Nat} {r : List om_E} {L : om_L} {st : List om_V} {M : om_M} {x : Int64} : om_ex rt nx (om_e pc .l2i n :: r) L (om_l x :: st) M = om_ex rt nx r L (om_i x.toInt32 :: st) M := rfl
theorem om_x_i2c {rt nx pc n : Nat} {r : List om_E} {L : om_L} {st : List om_V} {M : om_M} {x : Int32} : om_ex rt nx (om_e pc .i2c n :: r) L (om_i x :: st) M = om_ex rt nx r L (om_i (x.toUInt32 % 65536).toInt32 :: st) M := rfl
theorem om_x_pop {rt nx pc n : Nat} {r : List om_E} {L : om_L} {st : List om_V} {M : om_M} {x : Int32} : om_ex rt nx (om_e pc .pop n :: r) L (om_i x :: st) M = om_ex rt nx r L (st) M := rfl
theorem om_x_dup_i {rt nx pc n : Nat} {r : List om_E} {L : om_L} {st : List om_V} {M : om_M} {x : Int32} : om_ex rt nx (om_e pc .dup n :: r) L (om_i x :: st) M = om_ex rt nx r L (om_i x :: om_i x :: st) M := rfl
theorem om_x_dup_r {rt nx pc n : Nat} {r : List om_E} {L : om_L} {st : List om_V} {M : om_M} {x : Nat} : om_ex rt nx (om_e pc .dup n :: r) L (om_r x :: st) M = om_ex rt nx r L (om_r x :: om_r x :: st) M := rfl
theorem om_x_dup_x1_ir {rt nx pc n : Nat} {r : List om_E} {L : om_L} {st : List om_V} {M : om_M} {x : Int32} {y : Nat} : om_ex rt nx (om_e pc .dup_x1 n :: r) L (om_i x :: om_r y :: st) M = om_ex rt nx r L (om_i x :: om_r y :: om_i x :: st) M := rfl
theorem om_x_dup2 {rt nx pc n : Nat} {r : List om_E} {L : om_L} {st : List om_V} {M : om_M} {x : Int32} {y : Nat} : om_ex rt nx (om_e pc .dup2 n :: r) L (om_i x :: om_r y :: st) M = om_ex rt nx r L (om_i x :: om_r y :: om_i x :: om_r y :: st) M := rfl
theorem om_x_goto {rt nx pc n : Nat} {r : List om_E} {L : om_L} {st : List om_V} {M : om_M} {t : Nat} {d : Int} : om_ex rt nx (om_et pc (.goto d) n t :: r) L st M = om_go t L st M := rfl
theorem om_x_if_eq {rt nx pc n : Nat} {r : List om_E} {L : om_L} {st : List om_V} {M : om_M} {t u : Nat} {d : Int} {x : Int32} (h : pc + n = u) : om_ex rt nx (om_et pc (.ifCond .eq d) n t :: r) L (om_i x :: st) M = if x = 0 then om_go t L st M else om_go u L st M := by
  subst h
  rfl
theorem om_x_if_ne {rt nx pc n : Nat} {r : List om_E} {L : om_L} {st : List om_V} {M : om_M} {t u : Nat} {d : Int} {x : Int32} (h : pc + n = u) : om_ex rt nx (om_et pc (.ifCond .ne d) n t :: r) L (om_i x :: st) M = if x = 0 then om_go u L st M else om_go t L st M := by
  subst h
  rfl
theorem om_x_if_lt {rt nx pc n : Nat} {r : List om_E} {L : om_L} {st : List om_V} {M : om_M} {t u : Nat} {d : Int} {x : Int32} (h : pc + n = u) : om_ex rt nx (om_et pc (.ifCond .lt d) n t :: r) L (om_i x :: st) M = if x < 0 then om_go t L st M else om_go u L st M := by
  subst h
  rfl
theorem om_x_if_ge {rt nx pc n : Nat} {r : List om_E} {L : om_L} {st : List om_V} {M : om_M} {t u : Nat} {d : Int} {x : Int32} (h : pc + n = u) : om_ex rt nx (om_et pc (.ifCond .ge d) n t :: r) L (om_i x :: st) M = if 0 ≤ x then om_go t L st M else om_go u L st M := by
  subst h
  rfl
theorem om_x_if_gt {rt nx pc n : Nat} {r : List om_E} {L : om_L} {st : List om_V} {M : om_M} {t u : Nat} {d : Int} {x : Int32} (h : pc + n = u) : om_ex rt nx (om_et pc (.ifCond .gt d) n t :: r) L (om_i x :: st) M = if 0 < x then om_go t L st M else om_go u L st M := by
  subst h
  rfl
theorem om_x_if_le {rt nx pc n : Nat} {r : List om_E} {L : om_L} {st : List om_V} {M : om_M} {t u : Nat} {d : Int} {x : Int32} (h : pc + n = u) : om_ex rt nx (om_et pc (.ifCond .le d) n t :: r) L (om_i x :: st) M = if x ≤ 0 then om_go t L st M else om_go u L st M := by
  subst h
  rfl
theorem om_x_icmp_eq {rt nx pc n : Nat} {r : List om_E} {L : om_L} {st : List om_V} {M : om_M} {t u : Nat} {d : Int} {x y : Int32} (h : pc + n = u) : om_ex rt nx (om_et pc (.if_icmp .eq d) n t :: r) L (om_i y :: om_i x :: st) M = if x = y then om_go t L st M else om_go u L st M := by
  subst h
  rfl
theorem om_x_icmp_ne {rt nx pc n : Nat} {r : List om_E} {L : om_L} {st : List om_V} {M : om_M} {t u : Nat} {d : Int} {x y : Int32} (h : pc + n = u) : om_ex rt nx (om_et pc (.if_icmp .ne d) n t :: r) L (om_i y :: om_i x :: st) M = if x = y then om_go u L st M else om_go t L st M := by
  subst h
  rfl
theorem om_x_icmp_lt {rt nx pc n : Nat} {r : List om_E} {L : om_L} {st : List om_V} {M : om_M} {t u : Nat} {d : Int} {x y : Int32} (h : pc + n = u) : om_ex rt nx (om_et pc (.if_icmp .lt d) n t :: r) L (om_i y :: om_i x :: st) M = if x < y then om_go t L st M else om_go u L st M := by
  subst h
  rfl
theorem om_x_icmp_ge {rt nx pc n : Nat} {r : List om_E} {L : om_L} {st : List om_V} {M : om_M} {t u : Nat} {d : Int} {x y : Int32} (h : pc + n = u) : om_ex rt nx (om_et pc (.if_icmp .ge d) n t :: r) L (om_i y :: om_i x :: st) M = if y ≤ x then om_go t L st M else om_go u L st M := by
  subst h
  rfl
theorem om_x_icmp_gt {rt nx pc n : Nat} {r : List om_E} {L : om_L} {st : List om_V} {M : om_M} {t u : Nat} {d : Int} {x y : Int32} (h : pc + n = u) : om_ex rt nx (om_et pc (.if_icmp .gt d) n t :: r) L (om_i y :: om_i x :: st) M = if y < x then om_go t L st M else om_go u L st M := by
  subst h
  rfl
theorem om_x_icmp_le {rt nx pc n : Nat} {r : List om_E} {L : om_L} {st : List om_V} {M : om_M} {t u : Nat} {d : Int} {x y : Int32} (h : pc + n = u) : om_ex rt nx (om_et pc (.if_icmp .le d) n t :: r) L (om_i y :: om_i x :: st) M = if x ≤ y then om_go t L st M else om_go u L st M := by
  subst h
  rfl
theorem om_x_switch {rt nx pc n : Nat} {r : List om_E} {L : om_L} {st : List om_V} {M : om_M} {t : Nat} {a b c : Int} {os : Array Int} {sw : List (Int32 × Nat)} {x : Int32} : om_ex rt nx (om_es pc (.tableswitch a b c os) n t sw :: r) L (om_i x :: st) M = om_sw x t L st M sw := rfl
theorem om_x_sw0 {x : Int32} {t : Nat} {L : om_L} {st : List om_V} {M : om_M} : om_sw x t L st M [] = om_go t L st M := rfl
theorem om_x_sw1 {x v : Int32} {t u : Nat} {L : om_L} {st : List om_V} {M : om_M} {r : List (Int32 × Nat)} {X : om_R} (h : om_sw x t L st M r = X) : om_sw x t L st M ((v, u) :: r) = if x = v then om_go u L st M else X := by
  subst h
  rfl
theorem om_x_getf0 {rt nx pc n : Nat} {r : List om_E} {L : om_L} {st : List om_V} {M : om_M} {a i c k w : Nat} (h : om_obj a c = true) : om_ex rt nx (om_ef pc (.getfield i) n c k 0 w :: r) L (om_r a :: st) M = om_ex rt nx r L (om_i (M.1 a k) :: st) M := by
  show (bif om_obj a c then _ else _) = _
  rw [h]
  rfl
theorem om_x_getf1 {rt nx pc n : Nat} {r : List om_E} {L : om_L} {st : List om_V} {M : om_M} {a i c k w : Nat} (h : om_obj a c = true) : om_ex rt nx (om_ef pc (.getfield i) n c k 1 w :: r) L (om_r a :: st) M = om_oe (M.2 a k) fun q => om_ex rt nx r L (om_r q :: st) M := by
  show (bif om_obj a c then _ else _) = _
  rw [h]
  rfl
theorem om_x_getfr {rt nx pc n : Nat} {r : List om_E} {L : om_L} {st : List om_V} {M : om_M} {a i c k w d b : Nat} (h : om_obj a c = true) (hb : a + (d + 1) = b) : om_ex rt nx (om_ef pc (.getfield i) n c k (d + 4) w :: r) L (om_r a :: st) M = om_ex rt nx r L (om_r b :: st) M := by
  subst hb
  show (bif om_obj a c then _ else _) = _
  rw [h]
  rfl
theorem om_x_getf0s {rt nx pc n : Nat} {r : List om_E} {L : om_L} {st : List om_V} {M : om_M} {a i c k w : Nat} : om_ex rt nx (om_ef pc (.getfield i) n c k 0 w :: r) L (om_r a :: st) M = bif om_obj a c then om_ex rt nx r L (om_i (M.1 a k) :: st) M else om_no := rfl
theorem om_x_getf2s {rt nx pc n : Nat} {r : List om_E} {L : om_L} {st : List om_V} {M : om_M} {a i c k w : Nat} : om_ex rt nx (om_ef pc (.getfield i) n c k 2 w :: r) L (om_r a :: st) M = bif om_obj a c then om_ex rt nx r L (om_r (a + 1000) :: st) M else om_no := rfl
theorem om_x_getf3s {rt nx pc n : Nat} {r : List om_E} {L : om_L} {st : List om_V} {M : om_M} {a i c k w : Nat} : om_ex rt nx (om_ef pc (.getfield i) n c k 3 w :: r) L (om_r a :: st) M = bif om_obj a c then om_ex rt nx r L (om_i 0 :: st) M else om_no := rfl
theorem om_x_getfrs {rt nx pc n : Nat} {r : List om_E} {L : om_L} {st : List om_V} {M : om_M} {a i c k w d e : Nat} (hd : d + 1 = e) : om_ex rt nx (om_ef pc (.getfield i) n c k (d + 4) w :: r) L (om_r a :: st) M = bif om_obj a c then om_ex rt nx r L (om_r (a + e) :: st) M else om_no := by
  subst hd
  rfl
theorem om_x_putf0 {rt nx pc n : Nat} {r : List om_E} {L : om_L} {st : List om_V} {M : om_M} {a i c k w : Nat} {x : Int32} (h : om_obj a c = true) : om_ex rt nx (om_ef pc (.putfield i) n c k 0 w :: r) L (om_i x :: om_r a :: st) M = om_ex rt nx r L (st) (om_up M a k x) := by
  show (bif om_obj a c then _ else _) = _
  rw [h]
  rfl
theorem om_x_putf1 {rt nx pc n : Nat} {r : List om_E} {L : om_L} {st : List om_V} {M : om_M} {a i c k w : Nat} {q : Nat} (h : om_obj a c = true) : om_ex rt nx (om_ef pc (.putfield i) n c k 1 w :: r) L (om_r q :: om_r a :: st) M = om_ex rt nx r L (st) (om_upR M a k q) := by
  show (bif om_obj a c then _ else _) = _
  rw [h]
  rfl
theorem om_x_putf0s {rt nx pc n : Nat} {r : List om_E} {L : om_L} {st : List om_V} {M : om_M} {a i c k w : Nat} {x : Int32} : om_ex rt nx (om_ef pc (.putfield i) n c k 0 w :: r) L (om_i x :: om_r a :: st) M = bif om_obj a c then om_ex rt nx r L (st) (om_up M a k x) else om_no := rfl
theorem om_x_alen {rt nx pc n : Nat} {r : List om_E} {L : om_L} {st : List om_V} {M : om_M} {a : Nat} : om_ex rt nx (om_e pc .arraylength n :: r) L (om_r a :: st) M = bif om_isB a then om_ex rt nx r L (om_i (Int32.ofNat (om_bl a)) :: st) M else om_no := rfl
theorem om_x_iaload {rt nx pc n : Nat} {r : List om_E} {L : om_L} {st : List om_V} {M : om_M} {a : Nat} {i : Int32} : om_ex rt nx (om_e pc .iaload n :: r) L (om_i i :: om_r a :: st) M = bif om_isA a 1 && om_in i (om_ln a) then om_ex rt nx r L (om_i (M.1 a i.toNatClampNeg) :: st) M else om_no := rfl
theorem om_x_aaload {rt nx pc n : Nat} {r : List om_E} {L : om_L} {st : List om_V} {M : om_M} {a b : Nat} {i : Int32} (h : a + om_of a = b) : om_ex rt nx (om_e pc .aaload n :: r) L (om_i i :: om_r a :: st) M = bif om_isA a 3 && om_in i (om_ln a) then om_ex rt nx r L (om_r (b + i.toNatClampNeg) :: st) M else om_no := by
  subst h
  rw [Nat.add_assoc]
  rfl
theorem om_x_zaload {rt nx pc n : Nat} {r : List om_E} {L : om_L} {st : List om_V} {M : om_M} {a : Nat} {i : Int32} (h : om_isB a = false) : om_ex rt nx (om_e pc .baload n :: r) L (om_i i :: om_r a :: st) M = bif om_isA a 2 && om_in i (om_ln a) then om_ex rt nx r L (om_i (M.1 a i.toNatClampNeg) :: st) M else om_no := by
  show (bif _ then _ else bif om_isB a && _ then _ else _) = _
  rw [h]
  rfl
theorem om_x_baload {rt nx pc n : Nat} {r : List om_E} {L : om_L} {st : List om_V} {M : om_M} {a : Nat} {i : Int32} : om_ex rt nx (om_e pc .baload n :: r) L (om_i i :: om_r a :: st) M = bif om_isA a 2 && om_in i (om_ln a) then om_ex rt nx r L (om_i (M.1 a i.toNatClampNeg) :: st) M else bif om_isB a && om_in i (om_bl a) then om_ex rt nx r L (om_i (om_bt a i.toNatClampNeg) :: st) M else om_no := rfl
theorem om_x_iastore {rt nx pc n : Nat} {r : List om_E} {L : om_L} {st : List om_V} {M : om_M} {a : Nat} {i x : Int32} : om_ex rt nx (om_e pc .iastore n :: r) L (om_i x :: om_i i :: om_r a :: st) M = bif om_isA a 1 && om_in i (om_ln a) then om_ex rt nx r L (st) (om_up M a i.toNatClampNeg x) else om_no := rfl
theorem om_x_bastore {rt nx pc n : Nat} {r : List om_E} {L : om_L} {st : List om_V} {M : om_M} {a : Nat} {i x : Int32} : om_ex rt nx (om_e pc .bastore n :: r) L (om_i x :: om_i i :: om_r a :: st) M = bif om_isA a 2 && om_in i (om_ln a) then (bif om_nr 1 x then om_ex rt nx r L (st) (om_up M a i.toNatClampNeg x) else om_no) else om_no := rfl
theorem om_x_callv {rt nx pc n : Nat} {r : List om_E} {L : om_L} {st : List om_V} {M : om_M} {i c k na w u a : Nat} {as r' : List om_V} (h : om_take na st = some (as, r')) (h2 : Nat.ble r'.length 4 = true) (h3 : om_rc as = some a) (h4 : om_obj a c = true) (h5 : pc + n = u) : om_ex rt nx (om_ef pc (.invokevirtual i) n c k na w :: r) L st M = om_ca k as u L r' M := by
  subst h5
  show om_cl k na (c + 1) _ L st M = _
  simp only [om_cl, h, h2, h3, h4, om_oe, cond_true]
theorem om_x_callvs {rt nx pc n : Nat} {r : List om_E} {L : om_L} {st : List om_V} {M : om_M} {i c k na w u a : Nat} {as r' : List om_V} (h : om_take na st = some (as, r')) (h2 : Nat.ble r'.length 4 = true) (h3 : om_rc as = some a) (h5 : pc + n = u) : om_ex rt nx (om_ef pc (.invokevirtual i) n c k na w :: r) L st M = bif om_obj a c then om_ca k as u L r' M else om_no := by
  subst h5
  show om_cl k na (c + 1) _ L st M = _
  simp only [om_cl, h, h2, h3, om_oe, cond_true]
theorem om_x_calls {rt nx pc n : Nat} {r : List om_E} {L : om_L} {st : List om_V} {M : om_M} {i k na w u : Nat} {as r' : List om_V} (h : om_take na st = some (as, r')) (h2 : Nat.ble r'.length 4 = true) (h5 : pc + n = u) : om_ex rt nx (om_ef pc (.invokestatic i) n 0 k na w :: r) L st M = om_ca k as u L r' M := by
  subst h5
  show om_cl k na 0 _ L st M = _
  simp only [om_cl, h, h2, cond_true]
theorem om_x_min {rt nx pc n : Nat} {r : List om_E} {L : om_L} {st : List om_V} {M : om_M} {i w : Nat} {x y : Int32} (h : Nat.ble st.length 4 = true) : om_ex rt nx (om_ef pc (.invokestatic i) n 1 0 0 w :: r) L (om_i y :: om_i x :: st) M = om_ex rt nx r L (om_i (if y < x then y else x) :: st) M := by
  show (bif _ then _ else _) = _
  rw [h]
  rfl
theorem om_x_max {rt nx pc n : Nat} {r : List om_E} {L : om_L} {st : List om_V} {M : om_M} {i w : Nat} {x y : Int32} (h : Nat.ble st.length 4 = true) : om_ex rt nx (om_ef pc (.invokestatic i) n 2 0 0 w :: r) L (om_i y :: om_i x :: st) M = om_ex rt nx r L (om_i (if x < y then y else x) :: st) M := by
  show (bif _ then _ else _) = _
  rw [h]
  rfl
theorem om_x_copy {rt nx pc n : Nat} {r : List om_E} {L : om_L} {st : List om_V} {M : om_M} {i w a b : Nat} {x y z : Int32} (h : Nat.ble st.length 4 = true) : om_ex rt nx (om_ef pc (.invokestatic i) n 3 0 0 w :: r) L (om_i z :: om_i y :: om_r b :: om_i x :: om_r a :: st) M = bif om_cg a x b y z then om_ex rt nx r L (st) (om_cpy M a x.toNatClampNeg b y.toNatClampNeg z.toNatClampNeg) else om_no := by
  show (bif Nat.ble st.length 4 then _ else _) = _
  rw [h]
  rfl
theorem om_x_ck {rt nx pc n : Nat} {r : List om_E} {L : om_L} {st : List om_V} {M : om_M} {i w : Nat} {x y : Int32} (h : Nat.ble st.length 4 = true) : om_ex rt nx (om_ef pc (.invokestatic i) n 4 0 0 w :: r) L (om_i y :: om_i x :: st) M = bif decide (0 ≤ x) && decide (x < y) then om_ex rt nx r L (st) M else om_no := by
  show (bif Nat.ble st.length 4 then _ else _) = _
  rw [h]
  rfl
theorem om_x_ireturn {nx pc n : Nat} {r : List om_E} {L : om_L} {x : Int32} {M : om_M} : om_ex 0 nx (om_e pc .ireturn n :: r) L [om_i x] M = om_rt (some (om_i x)) M := rfl
theorem om_x_zreturn {rt nx pc n : Nat} {r : List om_E} {L : om_L} {x : Int32} {M : om_M} : om_ex rt nx (om_e pc .ireturn n :: r) L [om_i x] M = bif om_nr rt x then om_rt (some (om_i x)) M else om_no := rfl
theorem om_x_return {rt nx pc n : Nat} {r : List om_E} {L : om_L} {M : om_M} : om_ex rt nx (om_e pc .return_ n :: r) L [] M = om_rt none M := rfl
theorem om_cb {g : Bool} {A B : om_R} (h : A = B) : (bif g then A else om_no) = (bif g then B else om_no) := by rw [h]
theorem om_cb2 {g g2 : Bool} {A B A2 B2 : om_R} (h : A = B) (h2 : A2 = B2) : (bif g then A else bif g2 then A2 else om_no) = (bif g then B else bif g2 then B2 else om_no) := by rw [h, h2]
theorem om_cd {g : Bool} {A B : om_R} (h : A = B) : (bif g then om_no else A) = (bif g then om_no else B) := by rw [h]
theorem om_co {v : Option Nat} {A B : Nat → om_R} (h : ∀ q, A q = B q) : om_oe v A = om_oe v B := by rw [show A = B from funext h]
