/-! ===== BEGIN printed: names, fields, word lists, decode rows ===== -/
def RX0 : String := "GrammarAmbiguity$Counts"
def TX0 : u_T := fun k => match k with
  | _ => ("", "", "", false)
def tyX0 : Nat → FieldType := fun k => match k with
  | _ => .int
abbrev wsX00 : List Cond := u_ws RX0 TX0 0
theorem nmX0 : ∀ a, a < 0 → ∀ b, b < 0 → a ≠ b → (TX0 a).2.1 ≠ (TX0 b).2.1 := by decide +kernel
theorem tyX0_ok : ∀ k, k < 0 → parseFieldDescriptor (TX0 k).2.2.1 = some (tyX0 k) := by decide +kernel
abbrev cX0_init : ByteArray := prog_2_method_1_code
def yX0_init : MethodName := ⟨RX0, "<init>", "(LGrammarAmbiguity$Grammar;I)V"⟩
abbrev cX0_fill : ByteArray := prog_2_method_6_code
def yX0_fill : MethodName := ⟨RX0, "fill", "(I)V"⟩
abbrev cX0_forget : ByteArray := prog_2_method_7_code
def yX0_forget : MethodName := ⟨RX0, "forget", "()V"⟩
abbrev cX0_put : ByteArray := prog_2_method_8_code
def yX0_put : MethodName := ⟨RX0, "put", "(IIIJ)V"⟩
abbrev cX0_count : ByteArray := prog_2_method_9_code
def yX0_count : MethodName := ⟨RX0, "count", "(III)J"⟩
abbrev cX0_ofProduction : ByteArray := prog_2_method_10_code
def yX0_ofProduction : MethodName := ⟨RX0, "ofProduction", "(IIII)J"⟩
abbrev cX0_ofFirst : ByteArray := prog_2_method_11_code
def yX0_ofFirst : MethodName := ⟨RX0, "ofFirst", "(IIII)J"⟩
abbrev cX0_ofSecond : ByteArray := prog_2_method_12_code
def yX0_ofSecond : MethodName := ⟨RX0, "ofSecond", "(IIIII)J"⟩
abbrev cX0_tailsOf : ByteArray := prog_2_method_13_code
def yX0_tailsOf : MethodName := ⟨RX0, "tailsOf", "(IIIII)J"⟩
def RX1 : String := "GrammarAmbiguity$Grammar"
def TX1 : u_T := fun k => match k with
  | 0 => ("GrammarAmbiguity$Grammar", "nonterminals", "I", false)
  | 1 => ("GrammarAmbiguity$Grammar", "terminals", "I", false)
  | 2 => ("GrammarAmbiguity$Grammar", "start", "I", false)
  | 3 => ("GrammarAmbiguity$Grammar", "productions", "I", false)
  | 4 => ("GrammarAmbiguity$Grammar", "symbols", "[I", true)
  | 5 => ("GrammarAmbiguity$Grammar", "shortest", "[I", true)
  | _ => ("GrammarAmbiguity$Grammar", "reached", "[Z", true)
def tyX1 : Nat → FieldType := fun k => match k with
  | 0 => .int
  | 1 => .int
  | 2 => .int
  | 3 => .int
  | 4 => .array .int
  | 5 => .array .int
  | _ => .array .boolean
abbrev wsX10 : List Cond := u_ws RX1 TX1 7
theorem nmX1 : ∀ a, a < 7 → ∀ b, b < 7 → a ≠ b → (TX1 a).2.1 ≠ (TX1 b).2.1 := by decide +kernel
theorem tyX1_ok : ∀ k, k < 7 → parseFieldDescriptor (TX1 k).2.2.1 = some (tyX1 k) := by decide +kernel
abbrev cX1_init : ByteArray := prog_3_method_1_code
def yX1_init : MethodName := ⟨RX1, "<init>", "()V"⟩
abbrev cX1_begin : ByteArray := prog_3_method_2_code
def yX1_begin : MethodName := ⟨RX1, "begin", "(II)V"⟩
abbrev cX1_copy : ByteArray := prog_3_method_3_code
def yX1_copy : MethodName := ⟨RX1, "copy", "(LGrammarAmbiguity$Grammar;)V"⟩
abbrev cX1_isNonterminal : ByteArray := prog_3_method_4_code
def yX1_isNonterminal : MethodName := ⟨RX1, "isNonterminal", "(I)Z"⟩
abbrev cX1_isTerminal : ByteArray := prog_3_method_5_code
def yX1_isTerminal : MethodName := ⟨RX1, "isTerminal", "(I)Z"⟩
abbrev cX1_isSymbol : ByteArray := prog_3_method_6_code
def yX1_isSymbol : MethodName := ⟨RX1, "isSymbol", "(I)Z"⟩
abbrev cX1_isRightSide : ByteArray := prog_3_method_7_code
def yX1_isRightSide : MethodName := ⟨RX1, "isRightSide", "(III)Z"⟩
abbrev cX1_symbol : ByteArray := prog_3_method_8_code
def yX1_symbol : MethodName := ⟨RX1, "symbol", "(II)I"⟩
abbrev cX1_holds : ByteArray := prog_3_method_9_code
def yX1_holds : MethodName := ⟨RX1, "holds", "(IIII)Z"⟩
abbrev cX1_add : ByteArray := prog_3_method_10_code
def yX1_add : MethodName := ⟨RX1, "add", "(IIII)V"⟩
abbrev cX1_remove : ByteArray := prog_3_method_11_code
def yX1_remove : MethodName := ⟨RX1, "remove", "(I)V"⟩
abbrev cX1_measure : ByteArray := prog_3_method_12_code
def yX1_measure : MethodName := ⟨RX1, "measure", "()V"⟩
abbrev cX1_shorten : ByteArray := prog_3_method_13_code
def yX1_shorten : MethodName := ⟨RX1, "shorten", "(II)V"⟩
abbrev cX1_shortestOf : ByteArray := prog_3_method_14_code
def yX1_shortestOf : MethodName := ⟨RX1, "shortestOf", "(I)I"⟩
abbrev cX1_shortestPart : ByteArray := prog_3_method_15_code
def yX1_shortestPart : MethodName := ⟨RX1, "shortestPart", "(I)I"⟩
abbrev cX1_removeUnused : ByteArray := prog_3_method_16_code
def yX1_removeUnused : MethodName := ⟨RX1, "removeUnused", "()I"⟩
abbrev cX1_isUsed : ByteArray := prog_3_method_17_code
def yX1_isUsed : MethodName := ⟨RX1, "isUsed", "(I)Z"⟩
abbrev cX1_reach : ByteArray := prog_3_method_18_code
def yX1_reach : MethodName := ⟨RX1, "reach", "()V"⟩
abbrev cX1_reachParts : ByteArray := prog_3_method_19_code
def yX1_reachParts : MethodName := ⟨RX1, "reachParts", "(I)V"⟩
def RX2 : String := "GrammarAmbiguity$LengthCounts"
def TX2 : u_T := fun k => match k with
  | 0 => ("GrammarAmbiguity$Counts", "grammar", "LGrammarAmbiguity$Grammar;", true)
  | 1 => ("GrammarAmbiguity$Counts", "rows", "[J", true)
  | _ => ("GrammarAmbiguity$Counts", "filled", "I", false)
def tyX2 : Nat → FieldType := fun k => match k with
  | 0 => .object "GrammarAmbiguity$Grammar"
  | 1 => .array .long
  | _ => .int
abbrev wsX20 : List Cond := u_ws RX2 TX2 3
theorem nmX2 : ∀ a, a < 3 → ∀ b, b < 3 → a ≠ b → (TX2 a).2.1 ≠ (TX2 b).2.1 := by decide +kernel
theorem tyX2_ok : ∀ k, k < 3 → parseFieldDescriptor (TX2 k).2.2.1 = some (tyX2 k) := by decide +kernel
abbrev cX2_init : ByteArray := prog_4_method_1_code
def yX2_init : MethodName := ⟨RX2, "<init>", "(LGrammarAmbiguity$Grammar;)V"⟩
abbrev cX2_pieces : ByteArray := prog_4_method_2_code
def yX2_pieces : MethodName := ⟨RX2, "pieces", "(I)I"⟩
abbrev cX2_place : ByteArray := prog_4_method_3_code
def yX2_place : MethodName := ⟨RX2, "place", "(II)I"⟩
abbrev cX2_part : ByteArray := prog_4_method_4_code
def yX2_part : MethodName := ⟨RX2, "part", "(II)I"⟩
abbrev cX2_fits : ByteArray := prog_4_method_5_code
def yX2_fits : MethodName := ⟨RX2, "fits", "(II)Z"⟩
def RX3 : String := "GrammarAmbiguity$Slots"
def TX3 : u_T := fun k => match k with
  | 0 => ("GrammarAmbiguity$Slots", "held", "[Z", true)
  | 1 => ("GrammarAmbiguity$Slots", "wide", "[Z", true)
  | 2 => ("GrammarAmbiguity$Slots", "lengths", "[I", true)
  | _ => ("GrammarAmbiguity$Slots", "elements", "[I", true)
def tyX3 : Nat → FieldType := fun k => match k with
  | 0 => .array .boolean
  | 1 => .array .boolean
  | 2 => .array .int
  | _ => .array .int
abbrev wsX30 : List Cond := u_ws RX3 TX3 4
theorem nmX3 : ∀ a, a < 4 → ∀ b, b < 4 → a ≠ b → (TX3 a).2.1 ≠ (TX3 b).2.1 := by decide +kernel
theorem tyX3_ok : ∀ k, k < 4 → parseFieldDescriptor (TX3 k).2.2.1 = some (tyX3 k) := by decide +kernel
abbrev cX3_init : ByteArray := prog_5_method_1_code
def yX3_init : MethodName := ⟨RX3, "<init>", "()V"⟩
abbrev cX3_begin : ByteArray := prog_5_method_2_code
def yX3_begin : MethodName := ⟨RX3, "begin", "(IZI)V"⟩
abbrev cX3_isHeld : ByteArray := prog_5_method_3_code
def yX3_isHeld : MethodName := ⟨RX3, "isHeld", "(I)Z"⟩
abbrev cX3_length : ByteArray := prog_5_method_4_code
def yX3_length : MethodName := ⟨RX3, "length", "(I)I"⟩
abbrev cX3_isElement : ByteArray := prog_5_method_5_code
def yX3_isElement : MethodName := ⟨RX3, "isElement", "(II)Z"⟩
abbrev cX3_element : ByteArray := prog_5_method_6_code
def yX3_element : MethodName := ⟨RX3, "element", "(II)I"⟩
abbrev cX3_put : ByteArray := prog_5_method_7_code
def yX3_put : MethodName := ⟨RX3, "put", "(III)V"⟩
def RX4 : String := "GrammarAmbiguity$SpanCounts"
def TX4 : u_T := fun k => match k with
  | 0 => ("GrammarAmbiguity$Counts", "grammar", "LGrammarAmbiguity$Grammar;", true)
  | 1 => ("GrammarAmbiguity$Counts", "rows", "[J", true)
  | 2 => ("GrammarAmbiguity$Counts", "filled", "I", false)
  | _ => ("GrammarAmbiguity$SpanCounts", "word", "LGrammarAmbiguity$Word;", true)
def tyX4 : Nat → FieldType := fun k => match k with
  | 0 => .object "GrammarAmbiguity$Grammar"
  | 1 => .array .long
  | 2 => .int
  | _ => .object "GrammarAmbiguity$Word"
abbrev wsX40 : List Cond := u_ws RX4 TX4 4
theorem nmX4 : ∀ a, a < 4 → ∀ b, b < 4 → a ≠ b → (TX4 a).2.1 ≠ (TX4 b).2.1 := by decide +kernel
theorem tyX4_ok : ∀ k, k < 4 → parseFieldDescriptor (TX4 k).2.2.1 = some (tyX4 k) := by decide +kernel
abbrev cX4_init : ByteArray := prog_6_method_1_code
def yX4_init : MethodName := ⟨RX4, "<init>", "(LGrammarAmbiguity$Grammar;LGrammarAmbiguity$Word;)V"⟩
abbrev cX4_pieces : ByteArray := prog_6_method_2_code
def yX4_pieces : MethodName := ⟨RX4, "pieces", "(I)I"⟩
abbrev cX4_place : ByteArray := prog_6_method_3_code
def yX4_place : MethodName := ⟨RX4, "place", "(II)I"⟩
abbrev cX4_part : ByteArray := prog_6_method_4_code
def yX4_part : MethodName := ⟨RX4, "part", "(II)I"⟩
abbrev cX4_fits : ByteArray := prog_6_method_5_code
def yX4_fits : MethodName := ⟨RX4, "fits", "(II)Z"⟩
def RX5 : String := "GrammarAmbiguity$Tree"
def TX5 : u_T := fun k => match k with
  | 0 => ("GrammarAmbiguity$Tree", "grammar", "LGrammarAmbiguity$Grammar;", true)
  | 1 => ("GrammarAmbiguity$Tree", "present", "Z", false)
  | 2 => ("GrammarAmbiguity$Tree", "number", "J", false)
  | 3 => ("GrammarAmbiguity$Tree", "size", "I", false)
  | 4 => ("GrammarAmbiguity$Tree", "productions", "[I", true)
  | 5 => ("GrammarAmbiguity$Tree", "begins", "[I", true)
  | 6 => ("GrammarAmbiguity$Tree", "lengths", "[I", true)
  | 7 => ("GrammarAmbiguity$Tree", "firsts", "[I", true)
  | 8 => ("GrammarAmbiguity$Tree", "seconds", "[I", true)
  | 9 => ("GrammarAmbiguity$Tree", "ends", "[I", true)
  | _ => ("GrammarAmbiguity$Tree", "numbers", "[J", true)
def tyX5 : Nat → FieldType := fun k => match k with
  | 0 => .object "GrammarAmbiguity$Grammar"
  | 1 => .boolean
  | 2 => .long
  | 3 => .int
  | 4 => .array .int
  | 5 => .array .int
  | 6 => .array .int
  | 7 => .array .int
  | 8 => .array .int
  | 9 => .array .int
  | _ => .array .long
abbrev wsX50 : List Cond := u_ws RX5 TX5 11
theorem nmX5 : ∀ a, a < 11 → ∀ b, b < 11 → a ≠ b → (TX5 a).2.1 ≠ (TX5 b).2.1 := by decide +kernel
theorem tyX5_ok : ∀ k, k < 11 → parseFieldDescriptor (TX5 k).2.2.1 = some (tyX5 k) := by decide +kernel
abbrev cX5_init : ByteArray := prog_7_method_1_code
def yX5_init : MethodName := ⟨RX5, "<init>", "(LGrammarAmbiguity$Grammar;)V"⟩
abbrev cX5_grow : ByteArray := prog_7_method_2_code
def yX5_grow : MethodName := ⟨RX5, "grow", "(LGrammarAmbiguity$Counts;IIIIJ)V"⟩
abbrev cX5_choose : ByteArray := prog_7_method_3_code
def yX5_choose : MethodName := ⟨RX5, "choose", "(LGrammarAmbiguity$Counts;IIIJ)J"⟩
abbrev cX5_spell : ByteArray := prog_7_method_4_code
def yX5_spell : MethodName := ⟨RX5, "spell", "(LGrammarAmbiguity$Word;)V"⟩
abbrev cX5_spellPart : ByteArray := prog_7_method_5_code
def yX5_spellPart : MethodName := ⟨RX5, "spellPart", "(LGrammarAmbiguity$Word;II)V"⟩
abbrev cX5_findNumber : ByteArray := prog_7_method_6_code
def yX5_findNumber : MethodName := ⟨RX5, "findNumber", "(LGrammarAmbiguity$SpanCounts;)J"⟩
abbrev cX5_countBefore : ByteArray := prog_7_method_7_code
def yX5_countBefore : MethodName := ⟨RX5, "countBefore", "(LGrammarAmbiguity$SpanCounts;I)J"⟩
def RX6 : String := "GrammarAmbiguity$Word"
def TX6 : u_T := fun k => match k with
  | 0 => ("GrammarAmbiguity$Word", "length", "I", false)
  | _ => ("GrammarAmbiguity$Word", "letters", "[I", true)
def tyX6 : Nat → FieldType := fun k => match k with
  | 0 => .int
  | _ => .array .int
abbrev wsX60 : List Cond := u_ws RX6 TX6 2
theorem nmX6 : ∀ a, a < 2 → ∀ b, b < 2 → a ≠ b → (TX6 a).2.1 ≠ (TX6 b).2.1 := by decide +kernel
theorem tyX6_ok : ∀ k, k < 2 → parseFieldDescriptor (TX6 k).2.2.1 = some (tyX6 k) := by decide +kernel
abbrev cX6_init : ByteArray := prog_8_method_1_code
def yX6_init : MethodName := ⟨RX6, "<init>", "()V"⟩
abbrev cX6_copy : ByteArray := prog_8_method_2_code
def yX6_copy : MethodName := ⟨RX6, "copy", "(LGrammarAmbiguity$Word;)V"⟩
abbrev cX6_letter : ByteArray := prog_8_method_3_code
def yX6_letter : MethodName := ⟨RX6, "letter", "(I)I"⟩
abbrev cX6_put : ByteArray := prog_8_method_4_code
def yX6_put : MethodName := ⟨RX6, "put", "(II)V"⟩
abbrev cX6_key : ByteArray := prog_8_method_5_code
def yX6_key : MethodName := ⟨RX6, "key", "(I)I"⟩
abbrev cX6_set : ByteArray := prog_8_method_6_code
def yX6_set : MethodName := ⟨RX6, "set", "(III)V"⟩
def RX7 : String := "GrammarAmbiguity$WordCounts"
def TX7 : u_T := fun k => match k with
  | 0 => ("GrammarAmbiguity$WordCounts", "grammar", "LGrammarAmbiguity$Grammar;", true)
  | 1 => ("GrammarAmbiguity$WordCounts", "lengths", "LGrammarAmbiguity$LengthCounts;", true)
  | 2 => ("GrammarAmbiguity$WordCounts", "rows", "[J", true)
  | _ => ("GrammarAmbiguity$WordCounts", "filled", "I", false)
def tyX7 : Nat → FieldType := fun k => match k with
  | 0 => .object "GrammarAmbiguity$Grammar"
  | 1 => .object "GrammarAmbiguity$LengthCounts"
  | 2 => .array .long
  | _ => .int
abbrev wsX70 : List Cond := u_ws RX7 TX7 4
theorem nmX7 : ∀ a, a < 4 → ∀ b, b < 4 → a ≠ b → (TX7 a).2.1 ≠ (TX7 b).2.1 := by decide +kernel
theorem tyX7_ok : ∀ k, k < 4 → parseFieldDescriptor (TX7 k).2.2.1 = some (tyX7 k) := by decide +kernel
abbrev cX7_init : ByteArray := prog_9_method_1_code
def yX7_init : MethodName := ⟨RX7, "<init>", "(LGrammarAmbiguity$Grammar;LGrammarAmbiguity$LengthCounts;)V"⟩
abbrev cX7_forget : ByteArray := prog_9_method_2_code
def yX7_forget : MethodName := ⟨RX7, "forget", "()V"⟩
abbrev cX7_fill : ByteArray := prog_9_method_3_code
def yX7_fill : MethodName := ⟨RX7, "fill", "(I)V"⟩
abbrev cX7_begin : ByteArray := prog_9_method_4_code
def yX7_begin : MethodName := ⟨RX7, "begin", "(II)I"⟩
abbrev cX7_ofLength : ByteArray := prog_9_method_5_code
def yX7_ofLength : MethodName := ⟨RX7, "ofLength", "(I)I"⟩
abbrev cX7_clear : ByteArray := prog_9_method_6_code
def yX7_clear : MethodName := ⟨RX7, "clear", "(II)V"⟩
abbrev cX7_addWords : ByteArray := prog_9_method_7_code
def yX7_addWords : MethodName := ⟨RX7, "addWords", "(IIII)V"⟩
abbrev cX7_addTimes : ByteArray := prog_9_method_8_code
def yX7_addTimes : MethodName := ⟨RX7, "addTimes", "(IIIJ)V"⟩
abbrev cX7_atLeast : ByteArray := prog_9_method_9_code
def yX7_atLeast : MethodName := ⟨RX7, "atLeast", "(II)I"⟩
abbrev cX7_atLeastBefore : ByteArray := prog_9_method_10_code
def yX7_atLeastBefore : MethodName := ⟨RX7, "atLeastBefore", "(III)I"⟩
abbrev cX7_find : ByteArray := prog_9_method_11_code
def yX7_find : MethodName := ⟨RX7, "find", "(III)I"⟩
abbrev cX7_count : ByteArray := prog_9_method_12_code
def yX7_count : MethodName := ⟨RX7, "count", "(II)J"⟩
def RX8 : String := "GrammarAmbiguity"
def TX8 : u_T := fun k => match k with
  | 0 => ("GrammarAmbiguity", "grammar", "LGrammarAmbiguity$Grammar;", true)
  | 1 => ("GrammarAmbiguity", "word", "LGrammarAmbiguity$Word;", true)
  | 2 => ("GrammarAmbiguity", "savedGrammar", "LGrammarAmbiguity$Grammar;", true)
  | 3 => ("GrammarAmbiguity", "savedWord", "LGrammarAmbiguity$Word;", true)
  | 4 => ("GrammarAmbiguity", "lengths", "LGrammarAmbiguity$LengthCounts;", true)
  | 5 => ("GrammarAmbiguity", "spans", "LGrammarAmbiguity$SpanCounts;", true)
  | 6 => ("GrammarAmbiguity", "words", "LGrammarAmbiguity$WordCounts;", true)
  | 7 => ("GrammarAmbiguity", "tree", "LGrammarAmbiguity$Tree;", true)
  | 8 => ("GrammarAmbiguity", "slots", "LGrammarAmbiguity$Slots;", true)
  | _ => ("GrammarAmbiguity", "saved", "Z", false)
def tyX8 : Nat → FieldType := fun k => match k with
  | 0 => .object "GrammarAmbiguity$Grammar"
  | 1 => .object "GrammarAmbiguity$Word"
  | 2 => .object "GrammarAmbiguity$Grammar"
  | 3 => .object "GrammarAmbiguity$Word"
  | 4 => .object "GrammarAmbiguity$LengthCounts"
  | 5 => .object "GrammarAmbiguity$SpanCounts"
  | 6 => .object "GrammarAmbiguity$WordCounts"
  | 7 => .object "GrammarAmbiguity$Tree"
  | 8 => .object "GrammarAmbiguity$Slots"
  | _ => .boolean
abbrev wsX80 : List Cond := u_ws RX8 TX8 10
theorem nmX8 : ∀ a, a < 10 → ∀ b, b < 10 → a ≠ b → (TX8 a).2.1 ≠ (TX8 b).2.1 := by decide +kernel
theorem tyX8_ok : ∀ k, k < 10 → parseFieldDescriptor (TX8 k).2.2.1 = some (tyX8 k) := by decide +kernel
abbrev cX8_init : ByteArray := prog_1_method_1_code
def yX8_init : MethodName := ⟨RX8, "<init>", "()V"⟩
abbrev cX8_reset : ByteArray := prog_1_method_2_code
def yX8_reset : MethodName := ⟨RX8, "reset", "(II)V"⟩
abbrev cX8_addProduction : ByteArray := prog_1_method_3_code
def yX8_addProduction : MethodName := ⟨RX8, "addProduction", "(IIII)I"⟩
abbrev cX8_removeProduction : ByteArray := prog_1_method_4_code
def yX8_removeProduction : MethodName := ⟨RX8, "removeProduction", "(I)I"⟩
abbrev cX8_removeUseless : ByteArray := prog_1_method_5_code
def yX8_removeUseless : MethodName := ⟨RX8, "removeUseless", "()I"⟩
abbrev cX8_productionCount : ByteArray := prog_1_method_6_code
def yX8_productionCount : MethodName := ⟨RX8, "productionCount", "()I"⟩
abbrev cX8_productionSymbol : ByteArray := prog_1_method_7_code
def yX8_productionSymbol : MethodName := ⟨RX8, "productionSymbol", "(II)I"⟩
abbrev cX8_setStart : ByteArray := prog_1_method_8_code
def yX8_setStart : MethodName := ⟨RX8, "setStart", "(I)I"⟩
abbrev cX8_shortestLength : ByteArray := prog_1_method_9_code
def yX8_shortestLength : MethodName := ⟨RX8, "shortestLength", "(I)I"⟩
abbrev cX8_append : ByteArray := prog_1_method_10_code
def yX8_append : MethodName := ⟨RX8, "append", "(I)I"⟩
abbrev cX8_clearWord : ByteArray := prog_1_method_11_code
def yX8_clearWord : MethodName := ⟨RX8, "clearWord", "()I"⟩
abbrev cX8_wordLength : ByteArray := prog_1_method_12_code
def yX8_wordLength : MethodName := ⟨RX8, "wordLength", "()I"⟩
abbrev cX8_terminalAt : ByteArray := prog_1_method_13_code
def yX8_terminalAt : MethodName := ⟨RX8, "terminalAt", "(I)I"⟩
abbrev cX8_treeCount : ByteArray := prog_1_method_14_code
def yX8_treeCount : MethodName := ⟨RX8, "treeCount", "()J"⟩
abbrev cX8_treesOfLength : ByteArray := prog_1_method_15_code
def yX8_treesOfLength : MethodName := ⟨RX8, "treesOfLength", "(I)J"⟩
abbrev cX8_wordsOfLength : ByteArray := prog_1_method_16_code
def yX8_wordsOfLength : MethodName := ⟨RX8, "wordsOfLength", "(II)I"⟩
abbrev cX8_unambiguousShare : ByteArray := prog_1_method_17_code
def yX8_unambiguousShare : MethodName := ⟨RX8, "unambiguousShare", "(I)D"⟩
abbrev cX8_averageTrees : ByteArray := prog_1_method_18_code
def yX8_averageTrees : MethodName := ⟨RX8, "averageTrees", "(I)D"⟩
abbrev cX8_firstAmbiguous : ByteArray := prog_1_method_19_code
def yX8_firstAmbiguous : MethodName := ⟨RX8, "firstAmbiguous", "(I)I"⟩
abbrev cX8_wordRank : ByteArray := prog_1_method_20_code
def yX8_wordRank : MethodName := ⟨RX8, "wordRank", "()I"⟩
abbrev cX8_takeWord : ByteArray := prog_1_method_21_code
def yX8_takeWord : MethodName := ⟨RX8, "takeWord", "(II)V"⟩
abbrev cX8_drawWord : ByteArray := prog_1_method_22_code
def yX8_drawWord : MethodName := ⟨RX8, "drawWord", "(JI)I"⟩
abbrev cX8_drawTree : ByteArray := prog_1_method_23_code
def yX8_drawTree : MethodName := ⟨RX8, "drawTree", "(JI)J"⟩
abbrev cX8_takeTree : ByteArray := prog_1_method_24_code
def yX8_takeTree : MethodName := ⟨RX8, "takeTree", "(J)I"⟩
abbrev cX8_treeNumber : ByteArray := prog_1_method_25_code
def yX8_treeNumber : MethodName := ⟨RX8, "treeNumber", "()J"⟩
abbrev cX8_treeSize : ByteArray := prog_1_method_26_code
def yX8_treeSize : MethodName := ⟨RX8, "treeSize", "()I"⟩
abbrev cX8_treeNode : ByteArray := prog_1_method_27_code
def yX8_treeNode : MethodName := ⟨RX8, "treeNode", "(II)I"⟩
abbrev cX8_allocate : ByteArray := prog_1_method_28_code
def yX8_allocate : MethodName := ⟨RX8, "allocate", "(IZI)V"⟩
abbrev cX8_setElement : ByteArray := prog_1_method_29_code
def yX8_setElement : MethodName := ⟨RX8, "setElement", "(III)I"⟩
abbrev cX8_storeCounts : ByteArray := prog_1_method_30_code
def yX8_storeCounts : MethodName := ⟨RX8, "storeCounts", "(II)V"⟩
abbrev cX8_loadWord : ByteArray := prog_1_method_31_code
def yX8_loadWord : MethodName := ⟨RX8, "loadWord", "(III)V"⟩
abbrev cX8_snapshot : ByteArray := prog_1_method_32_code
def yX8_snapshot : MethodName := ⟨RX8, "snapshot", "()V"⟩
abbrev cX8_restore : ByteArray := prog_1_method_33_code
def yX8_restore : MethodName := ⟨RX8, "restore", "()V"⟩
abbrev cX8_forgetGrammar : ByteArray := prog_1_method_34_code
def yX8_forgetGrammar : MethodName := ⟨RX8, "forgetGrammar", "()V"⟩
abbrev cX8_countSpans : ByteArray := prog_1_method_35_code
def yX8_countSpans : MethodName := ⟨RX8, "countSpans", "()V"⟩
abbrev cX8_allTrees : ByteArray := prog_1_method_36_code
def yX8_allTrees : MethodName := ⟨RX8, "allTrees", "(I)J"⟩
abbrev cX8_countWords : ByteArray := prog_1_method_37_code
def yX8_countWords : MethodName := ⟨RX8, "countWords", "(I)V"⟩
abbrev cX8_setWord : ByteArray := prog_1_method_38_code
def yX8_setWord : MethodName := ⟨RX8, "setWord", "(II)V"⟩
abbrev cX8_draw : ByteArray := prog_1_method_39_code
def yX8_draw : MethodName := ⟨RX8, "draw", "(JJ)J"⟩
abbrev cX8_checkProduction : ByteArray := prog_1_method_40_code
def yX8_checkProduction : MethodName := ⟨RX8, "checkProduction", "(I)V"⟩
abbrev cX8_checkNonterminal : ByteArray := prog_1_method_41_code
def yX8_checkNonterminal : MethodName := ⟨RX8, "checkNonterminal", "(I)V"⟩
abbrev cX8_checkLength : ByteArray := prog_1_method_42_code
def yX8_checkLength : MethodName := ⟨RX8, "checkLength", "(II)V"⟩
abbrev cX8_checkTree : ByteArray := prog_1_method_43_code
def yX8_checkTree : MethodName := ⟨RX8, "checkTree", "()V"⟩
abbrev cX8_checkSlot : ByteArray := prog_1_method_44_code
def yX8_checkSlot : MethodName := ⟨RX8, "checkSlot", "(I)V"⟩
abbrev cX8_checkArray : ByteArray := prog_1_method_45_code
def yX8_checkArray : MethodName := ⟨RX8, "checkArray", "(I)V"⟩
abbrev cX8_checkIndexes : ByteArray := prog_1_method_46_code
def yX8_checkIndexes : MethodName := ⟨RX8, "checkIndexes", "(III)V"⟩
def RX9 : String := "GrammarAmbiguityModel"
def TX9 : u_T := fun k => match k with
  | 0 => ("GrammarAmbiguityModel", "thrown", "I", false)
  | 1 => ("GrammarAmbiguityModel", "nonterminals", "I", false)
  | 2 => ("GrammarAmbiguityModel", "terminals", "I", false)
  | 3 => ("GrammarAmbiguityModel", "start", "I", false)
  | 4 => ("GrammarAmbiguityModel", "productions", "I", false)
  | 5 => ("GrammarAmbiguityModel", "symbols", "[[I", true)
  | 6 => ("GrammarAmbiguityModel", "word", "[I", true)
  | 7 => ("GrammarAmbiguityModel", "length", "I", false)
  | 8 => ("GrammarAmbiguityModel", "shortest", "[I", true)
  | 9 => ("GrammarAmbiguityModel", "isReached", "[Z", true)
  | 10 => ("GrammarAmbiguityModel", "byLength", "[[J", true)
  | 11 => ("GrammarAmbiguityModel", "read", "[I", true)
  | 12 => ("GrammarAmbiguityModel", "byPart", "[[[J", true)
  | 13 => ("GrammarAmbiguityModel", "nodes", "I", false)
  | 14 => ("GrammarAmbiguityModel", "nodeProduction", "[I", true)
  | 15 => ("GrammarAmbiguityModel", "nodeFrom", "[I", true)
  | 16 => ("GrammarAmbiguityModel", "nodeSize", "[I", true)
  | 17 => ("GrammarAmbiguityModel", "isByPart", "Z", false)
  | 18 => ("GrammarAmbiguityModel", "at", "I", false)
  | 19 => ("GrammarAmbiguityModel", "sizes", "[I", true)
  | 20 => ("GrammarAmbiguityModel", "isWide", "[Z", true)
  | 21 => ("GrammarAmbiguityModel", "elements", "[[I", true)
  | 22 => ("GrammarAmbiguityModel", "isSaved", "Z", false)
  | 23 => ("GrammarAmbiguityModel", "savedNonterminals", "I", false)
  | 24 => ("GrammarAmbiguityModel", "savedTerminals", "I", false)
  | 25 => ("GrammarAmbiguityModel", "savedStart", "I", false)
  | 26 => ("GrammarAmbiguityModel", "savedProductions", "I", false)
  | 27 => ("GrammarAmbiguityModel", "savedLength", "I", false)
  | 28 => ("GrammarAmbiguityModel", "savedSymbols", "[[I", true)
  | _ => ("GrammarAmbiguityModel", "savedWord", "[I", true)
def tyX9 : Nat → FieldType := fun k => match k with
  | 0 => .int
  | 1 => .int
  | 2 => .int
  | 3 => .int
  | 4 => .int
  | 5 => .array (.array .int)
  | 6 => .array .int
  | 7 => .int
  | 8 => .array .int
  | 9 => .array .boolean
  | 10 => .array (.array .long)
  | 11 => .array .int
  | 12 => .array (.array (.array .long))
  | 13 => .int
  | 14 => .array .int
  | 15 => .array .int
  | 16 => .array .int
  | 17 => .boolean
  | 18 => .int
  | 19 => .array .int
  | 20 => .array .boolean
  | 21 => .array (.array .int)
  | 22 => .boolean
  | 23 => .int
  | 24 => .int
  | 25 => .int
  | 26 => .int
  | 27 => .int
  | 28 => .array (.array .int)
  | _ => .array .int
abbrev wsX90 : List Cond := u_ws RX9 TX9 30
theorem nmX9 : ∀ a, a < 30 → ∀ b, b < 30 → a ≠ b → (TX9 a).2.1 ≠ (TX9 b).2.1 := by decide +kernel
theorem tyX9_ok : ∀ k, k < 30 → parseFieldDescriptor (TX9 k).2.2.1 = some (tyX9 k) := by decide +kernel
abbrev cX9_init : ByteArray := prog_11_method_1_code
def yX9_init : MethodName := ⟨RX9, "<init>", "()V"⟩
abbrev cX9_thrown : ByteArray := prog_11_method_2_code
def yX9_thrown : MethodName := ⟨RX9, "thrown", "()I"⟩
abbrev cX9_isBetween : ByteArray := prog_11_method_3_code
def yX9_isBetween : MethodName := ⟨RX9, "isBetween", "(III)Z"⟩
abbrev cX9_fails : ByteArray := prog_11_method_4_code
def yX9_fails : MethodName := ⟨RX9, "fails", "(IZ)Z"⟩
abbrev cX9_isNonterminal : ByteArray := prog_11_method_5_code
def yX9_isNonterminal : MethodName := ⟨RX9, "isNonterminal", "(I)Z"⟩
abbrev cX9_isTerminal : ByteArray := prog_11_method_6_code
def yX9_isTerminal : MethodName := ⟨RX9, "isTerminal", "(I)Z"⟩
abbrev cX9_isProduction : ByteArray := prog_11_method_7_code
def yX9_isProduction : MethodName := ⟨RX9, "isProduction", "(I)Z"⟩
abbrev cX9_reset : ByteArray := prog_11_method_8_code
def yX9_reset : MethodName := ⟨RX9, "reset", "(II)V"⟩
abbrev cX9_isSymbol : ByteArray := prog_11_method_9_code
def yX9_isSymbol : MethodName := ⟨RX9, "isSymbol", "(I)Z"⟩
abbrev cX9_isWrong : ByteArray := prog_11_method_10_code
def yX9_isWrong : MethodName := ⟨RX9, "isWrong", "(IIII)Z"⟩
abbrev cX9_addProduction : ByteArray := prog_11_method_11_code
def yX9_addProduction : MethodName := ⟨RX9, "addProduction", "(IIII)I"⟩
abbrev cX9_remove : ByteArray := prog_11_method_12_code
def yX9_remove : MethodName := ⟨RX9, "remove", "(I)V"⟩
abbrev cX9_removeProduction : ByteArray := prog_11_method_13_code
def yX9_removeProduction : MethodName := ⟨RX9, "removeProduction", "(I)I"⟩
abbrev cX9_shortestOf : ByteArray := prog_11_method_14_code
def yX9_shortestOf : MethodName := ⟨RX9, "shortestOf", "(I)I"⟩
abbrev cX9_findShortest : ByteArray := prog_11_method_15_code
def yX9_findShortest : MethodName := ⟨RX9, "findShortest", "()V"⟩
abbrev cX9_removeUseless : ByteArray := prog_11_method_16_code
def yX9_removeUseless : MethodName := ⟨RX9, "removeUseless", "()I"⟩
abbrev cX9_productionCount : ByteArray := prog_11_method_17_code
def yX9_productionCount : MethodName := ⟨RX9, "productionCount", "()I"⟩
abbrev cX9_productionSymbol : ByteArray := prog_11_method_18_code
def yX9_productionSymbol : MethodName := ⟨RX9, "productionSymbol", "(II)I"⟩
abbrev cX9_setStart : ByteArray := prog_11_method_19_code
def yX9_setStart : MethodName := ⟨RX9, "setStart", "(I)I"⟩
abbrev cX9_shortestLength : ByteArray := prog_11_method_20_code
def yX9_shortestLength : MethodName := ⟨RX9, "shortestLength", "(I)I"⟩
abbrev cX9_append : ByteArray := prog_11_method_21_code
def yX9_append : MethodName := ⟨RX9, "append", "(I)I"⟩
abbrev cX9_clearWord : ByteArray := prog_11_method_22_code
def yX9_clearWord : MethodName := ⟨RX9, "clearWord", "()I"⟩
abbrev cX9_wordLength : ByteArray := prog_11_method_23_code
def yX9_wordLength : MethodName := ⟨RX9, "wordLength", "()I"⟩
abbrev cX9_terminalAt : ByteArray := prog_11_method_24_code
def yX9_terminalAt : MethodName := ⟨RX9, "terminalAt", "(I)I"⟩
abbrev cX9_partsOfLength : ByteArray := prog_11_method_25_code
def yX9_partsOfLength : MethodName := ⟨RX9, "partsOfLength", "(II)J"⟩
abbrev cX9_countByLength : ByteArray := prog_11_method_26_code
def yX9_countByLength : MethodName := ⟨RX9, "countByLength", "()V"⟩
abbrev cX9_treesWith : ByteArray := prog_11_method_27_code
def yX9_treesWith : MethodName := ⟨RX9, "treesWith", "(IIII)J"⟩
abbrev cX9_treesOfLength : ByteArray := prog_11_method_28_code
def yX9_treesOfLength : MethodName := ⟨RX9, "treesOfLength", "(I)J"⟩
abbrev cX9_treesOfPart : ByteArray := prog_11_method_29_code
def yX9_treesOfPart : MethodName := ⟨RX9, "treesOfPart", "(III)J"⟩
abbrev cX9_treesFrom : ByteArray := prog_11_method_30_code
def yX9_treesFrom : MethodName := ⟨RX9, "treesFrom", "(IIIII)J"⟩
abbrev cX9_treesOfProduction : ByteArray := prog_11_method_31_code
def yX9_treesOfProduction : MethodName := ⟨RX9, "treesOfProduction", "(III)J"⟩
abbrev cX9_countByPart : ByteArray := prog_11_method_32_code
def yX9_countByPart : MethodName := ⟨RX9, "countByPart", "(I)J"⟩
abbrev cX9_countCurrent : ByteArray := prog_11_method_33_code
def yX9_countCurrent : MethodName := ⟨RX9, "countCurrent", "()J"⟩
abbrev cX9_treeCount : ByteArray := prog_11_method_34_code
def yX9_treeCount : MethodName := ⟨RX9, "treeCount", "()J"⟩
abbrev cX9_wordsOf : ByteArray := prog_11_method_35_code
def yX9_wordsOf : MethodName := ⟨RX9, "wordsOf", "(I)I"⟩
abbrev cX9_countNumbered : ByteArray := prog_11_method_36_code
def yX9_countNumbered : MethodName := ⟨RX9, "countNumbered", "(II)J"⟩
abbrev cX9_countWords : ByteArray := prog_11_method_37_code
def yX9_countWords : MethodName := ⟨RX9, "countWords", "(II)I"⟩
abbrev cX9_isListed : ByteArray := prog_11_method_38_code
def yX9_isListed : MethodName := ⟨RX9, "isListed", "(I)Z"⟩
abbrev cX9_wordsOfLength : ByteArray := prog_11_method_39_code
def yX9_wordsOfLength : MethodName := ⟨RX9, "wordsOfLength", "(II)I"⟩
abbrev cX9_unambiguousShare : ByteArray := prog_11_method_40_code
def yX9_unambiguousShare : MethodName := ⟨RX9, "unambiguousShare", "(I)D"⟩
abbrev cX9_averageTrees : ByteArray := prog_11_method_41_code
def yX9_averageTrees : MethodName := ⟨RX9, "averageTrees", "(I)D"⟩
abbrev cX9_take : ByteArray := prog_11_method_42_code
def yX9_take : MethodName := ⟨RX9, "take", "(I)V"⟩
abbrev cX9_firstAmbiguous : ByteArray := prog_11_method_43_code
def yX9_firstAmbiguous : MethodName := ⟨RX9, "firstAmbiguous", "(I)I"⟩
abbrev cX9_wordRank : ByteArray := prog_11_method_44_code
def yX9_wordRank : MethodName := ⟨RX9, "wordRank", "()I"⟩
abbrev cX9_takeRanked : ByteArray := prog_11_method_45_code
def yX9_takeRanked : MethodName := ⟨RX9, "takeRanked", "(II)Z"⟩
abbrev cX9_takeWord : ByteArray := prog_11_method_46_code
def yX9_takeWord : MethodName := ⟨RX9, "takeWord", "(II)V"⟩
abbrev cX9_drawn : ByteArray := prog_11_method_47_code
def yX9_drawn : MethodName := ⟨RX9, "drawn", "(JJ)J"⟩
abbrev cX9_drawWord : ByteArray := prog_11_method_48_code
def yX9_drawWord : MethodName := ⟨RX9, "drawWord", "(JI)I"⟩
abbrev cX9_treesOf : ByteArray := prog_11_method_49_code
def yX9_treesOf : MethodName := ⟨RX9, "treesOf", "(III)J"⟩
abbrev cX9_productOf : ByteArray := prog_11_method_50_code
def yX9_productOf : MethodName := ⟨RX9, "productOf", "(IIIII)J"⟩
abbrev cX9_build : ByteArray := prog_11_method_51_code
def yX9_build : MethodName := ⟨RX9, "build", "(IIIJ)V"⟩
abbrev cX9_buildNode : ByteArray := prog_11_method_52_code
def yX9_buildNode : MethodName := ⟨RX9, "buildNode", "(IIIIIJ)V"⟩
abbrev cX9_drawTree : ByteArray := prog_11_method_53_code
def yX9_drawTree : MethodName := ⟨RX9, "drawTree", "(JI)J"⟩
abbrev cX9_takeTree : ByteArray := prog_11_method_54_code
def yX9_takeTree : MethodName := ⟨RX9, "takeTree", "(J)I"⟩
abbrev cX9_numberOf : ByteArray := prog_11_method_55_code
def yX9_numberOf : MethodName := ⟨RX9, "numberOf", "(III)J"⟩
abbrev cX9_sizeOfPart : ByteArray := prog_11_method_56_code
def yX9_sizeOfPart : MethodName := ⟨RX9, "sizeOfPart", "(III)I"⟩
abbrev cX9_skip : ByteArray := prog_11_method_57_code
def yX9_skip : MethodName := ⟨RX9, "skip", "(I)I"⟩
abbrev cX9_treeNumber : ByteArray := prog_11_method_58_code
def yX9_treeNumber : MethodName := ⟨RX9, "treeNumber", "()J"⟩
abbrev cX9_treeSize : ByteArray := prog_11_method_59_code
def yX9_treeSize : MethodName := ⟨RX9, "treeSize", "()I"⟩
abbrev cX9_treeNode : ByteArray := prog_11_method_60_code
def yX9_treeNode : MethodName := ⟨RX9, "treeNode", "(II)I"⟩
abbrev cX9_isSlot : ByteArray := prog_11_method_61_code
def yX9_isSlot : MethodName := ⟨RX9, "isSlot", "(I)Z"⟩
abbrev cX9_allocate : ByteArray := prog_11_method_62_code
def yX9_allocate : MethodName := ⟨RX9, "allocate", "(IZI)V"⟩
abbrev cX9_narrowed : ByteArray := prog_11_method_63_code
def yX9_narrowed : MethodName := ⟨RX9, "narrowed", "(II)I"⟩
abbrev cX9_setElement : ByteArray := prog_11_method_64_code
def yX9_setElement : MethodName := ⟨RX9, "setElement", "(III)I"⟩
abbrev cX9_storeCounts : ByteArray := prog_11_method_65_code
def yX9_storeCounts : MethodName := ⟨RX9, "storeCounts", "(II)V"⟩
abbrev cX9_areTerminals : ByteArray := prog_11_method_66_code
def yX9_areTerminals : MethodName := ⟨RX9, "areTerminals", "(III)Z"⟩
abbrev cX9_loadWord : ByteArray := prog_11_method_67_code
def yX9_loadWord : MethodName := ⟨RX9, "loadWord", "(III)V"⟩
abbrev cX9_copyTable : ByteArray := prog_11_method_68_code
def yX9_copyTable : MethodName := ⟨RX9, "copyTable", "([[I[[I)V"⟩
abbrev cX9_snapshot : ByteArray := prog_11_method_69_code
def yX9_snapshot : MethodName := ⟨RX9, "snapshot", "()V"⟩
abbrev cX9_restore : ByteArray := prog_11_method_70_code
def yX9_restore : MethodName := ⟨RX9, "restore", "()V"⟩
def RJx145de : String := "java/io/Serializable"
def TJx145de : u_T := fun k => match k with
  | _ => ("", "", "", false)
def tyJx145de : Nat → FieldType := fun k => match k with
  | _ => .int
abbrev wsJx145de0 : List Cond := u_ws RJx145de TJx145de 0
theorem nmJx145de : ∀ a, a < 0 → ∀ b, b < 0 → a ≠ b → (TJx145de a).2.1 ≠ (TJx145de b).2.1 := by decide +kernel
theorem tyJx145de_ok : ∀ k, k < 0 → parseFieldDescriptor (TJx145de k).2.2.1 = some (tyJx145de k) := by decide +kernel
def RJ9 : String := "java/lang/Math"
def TJ9 : u_T := fun k => match k with
  | _ => ("", "", "", false)
def tyJ9 : Nat → FieldType := fun k => match k with
  | _ => .int
abbrev wsJ90 : List Cond := u_ws RJ9 TJ9 0
theorem nmJ9 : ∀ a, a < 0 → ∀ b, b < 0 → a ≠ b → (TJ9 a).2.1 ≠ (TJ9 b).2.1 := by decide +kernel
theorem tyJ9_ok : ∀ k, k < 0 → parseFieldDescriptor (TJ9 k).2.2.1 = some (tyJ9 k) := by decide +kernel
abbrev cJ9_max_7cf53 : ByteArray := prog_17_method_65_code
def yJ9_max_7cf53 : MethodName := ⟨RJ9, "max", "(II)I"⟩
abbrev cJ9_max_f86c9 : ByteArray := prog_17_method_66_code
def yJ9_max_f86c9 : MethodName := ⟨RJ9, "max", "(JJ)J"⟩
abbrev cJ9_min_7cf53 : ByteArray := prog_17_method_69_code
def yJ9_min_7cf53 : MethodName := ⟨RJ9, "min", "(II)I"⟩
def RJ0 : String := "java/lang/String"
def TJ0 : u_T := fun k => match k with
  | _ => ("", "", "", false)
def tyJ0 : Nat → FieldType := fun k => match k with
  | _ => .int
abbrev wsJ00 : List Cond := u_ws RJ0 TJ0 0
theorem nmJ0 : ∀ a, a < 0 → ∀ b, b < 0 → a ≠ b → (TJ0 a).2.1 ≠ (TJ0 b).2.1 := by decide +kernel
theorem tyJ0_ok : ∀ k, k < 0 → parseFieldDescriptor (TJ0 k).2.2.1 = some (tyJ0 k) := by decide +kernel
def RL : String := "GrammarAmbiguityLaw"
abbrev cL_reset : ByteArray := method_3_code
def yL_reset : MethodName := ⟨RL, "reset", "(LGrammarAmbiguity;II)I"⟩
abbrev cL_addProduction : ByteArray := method_4_code
def yL_addProduction : MethodName := ⟨RL, "addProduction", "(LGrammarAmbiguity;IIII[J)I"⟩
abbrev cL_removeProduction : ByteArray := method_5_code
def yL_removeProduction : MethodName := ⟨RL, "removeProduction", "(LGrammarAmbiguity;I[J)I"⟩
abbrev cL_productionSymbol : ByteArray := method_6_code
def yL_productionSymbol : MethodName := ⟨RL, "productionSymbol", "(LGrammarAmbiguity;II[J)I"⟩
abbrev cL_setStart : ByteArray := method_7_code
def yL_setStart : MethodName := ⟨RL, "setStart", "(LGrammarAmbiguity;I[J)I"⟩
abbrev cL_shortestLength : ByteArray := method_8_code
def yL_shortestLength : MethodName := ⟨RL, "shortestLength", "(LGrammarAmbiguity;I[J)I"⟩
abbrev cL_append : ByteArray := method_9_code
def yL_append : MethodName := ⟨RL, "append", "(LGrammarAmbiguity;I[J)I"⟩
abbrev cL_terminalAt : ByteArray := method_10_code
def yL_terminalAt : MethodName := ⟨RL, "terminalAt", "(LGrammarAmbiguity;I[J)I"⟩
abbrev cL_treesOfLength : ByteArray := method_11_code
def yL_treesOfLength : MethodName := ⟨RL, "treesOfLength", "(LGrammarAmbiguity;I[J)I"⟩
abbrev cL_wordsOfLength : ByteArray := method_12_code
def yL_wordsOfLength : MethodName := ⟨RL, "wordsOfLength", "(LGrammarAmbiguity;II[J)I"⟩
abbrev cL_unambiguousShare : ByteArray := method_13_code
def yL_unambiguousShare : MethodName := ⟨RL, "unambiguousShare", "(LGrammarAmbiguity;I[D)I"⟩
abbrev cL_averageTrees : ByteArray := method_14_code
def yL_averageTrees : MethodName := ⟨RL, "averageTrees", "(LGrammarAmbiguity;I[D)I"⟩
abbrev cL_firstAmbiguous : ByteArray := method_15_code
def yL_firstAmbiguous : MethodName := ⟨RL, "firstAmbiguous", "(LGrammarAmbiguity;I[J)I"⟩
abbrev cL_wordRank : ByteArray := method_16_code
def yL_wordRank : MethodName := ⟨RL, "wordRank", "(LGrammarAmbiguity;[J)I"⟩
abbrev cL_takeWord : ByteArray := method_17_code
def yL_takeWord : MethodName := ⟨RL, "takeWord", "(LGrammarAmbiguity;II)I"⟩
abbrev cL_drawWord : ByteArray := method_18_code
def yL_drawWord : MethodName := ⟨RL, "drawWord", "(LGrammarAmbiguity;JI[J)I"⟩
abbrev cL_drawTree : ByteArray := method_19_code
def yL_drawTree : MethodName := ⟨RL, "drawTree", "(LGrammarAmbiguity;JI[J)I"⟩
abbrev cL_takeTree : ByteArray := method_20_code
def yL_takeTree : MethodName := ⟨RL, "takeTree", "(LGrammarAmbiguity;J[J)I"⟩
abbrev cL_treeNumber : ByteArray := method_21_code
def yL_treeNumber : MethodName := ⟨RL, "treeNumber", "(LGrammarAmbiguity;[J)I"⟩
abbrev cL_treeSize : ByteArray := method_22_code
def yL_treeSize : MethodName := ⟨RL, "treeSize", "(LGrammarAmbiguity;[J)I"⟩
abbrev cL_treeNode : ByteArray := method_23_code
def yL_treeNode : MethodName := ⟨RL, "treeNode", "(LGrammarAmbiguity;II[J)I"⟩
abbrev cL_allocate : ByteArray := method_24_code
def yL_allocate : MethodName := ⟨RL, "allocate", "(LGrammarAmbiguity;IZI)I"⟩
abbrev cL_setElement : ByteArray := method_25_code
def yL_setElement : MethodName := ⟨RL, "setElement", "(LGrammarAmbiguity;III[J)I"⟩
abbrev cL_storeCounts : ByteArray := method_26_code
def yL_storeCounts : MethodName := ⟨RL, "storeCounts", "(LGrammarAmbiguity;II)I"⟩
abbrev cL_loadWord : ByteArray := method_27_code
def yL_loadWord : MethodName := ⟨RL, "loadWord", "(LGrammarAmbiguity;III)I"⟩
abbrev cL_restore : ByteArray := method_28_code
def yL_restore : MethodName := ⟨RL, "restore", "(LGrammarAmbiguity;)I"⟩
abbrev cL_law : ByteArray := code
def yL_law : MethodName := ⟨RL, "law", "([I)Z"⟩
abbrev vwCl : List vw_C := [(RX1, TX1, 7), (RX2, TX2, 3), (RX3, TX3, 4), (RX4, TX4, 4), (RX5, TX5, 11), (RX6, TX6, 2), (RX7, TX7, 4), (RX8, TX8, 10), (RX9, TX9, 30)]
def WS_0 : List Cond := [Cond.classLink RL 8 RX8, Cond.instantiable RX8 10, Cond.initialized RX8, Cond.classLink RL 110 RX9, Cond.instantiable RX9 30, Cond.initialized RX9, Cond.arrayClass .long, Cond.arrayClass .double, Cond.constantLong RL 189 (4294967295), Cond.methodLink RL 109 yX8_init, Cond.instanceMethod yX8_init, Cond.code yX8_init cX8_init 1 none, Cond.methodLink RX8 3 objectInit, Cond.instanceMethod objectInit, Cond.code objectInit ⟨#[0xb1]⟩ 1 none, Cond.classLink RX8 9 RX1, Cond.instantiable RX1 7, Cond.initialized RX1, Cond.fieldLink RX8 12 "GrammarAmbiguity" "grammar" "LGrammarAmbiguity$Grammar;", Cond.classLink RX8 16 RX6, Cond.instantiable RX6 2, Cond.initialized RX6, Cond.fieldLink RX8 19 "GrammarAmbiguity" "word" "LGrammarAmbiguity$Word;", Cond.fieldLink RX8 23 "GrammarAmbiguity" "savedGrammar" "LGrammarAmbiguity$Grammar;", Cond.fieldLink RX8 26 "GrammarAmbiguity" "savedWord" "LGrammarAmbiguity$Word;", Cond.classLink RX8 29 RX2, Cond.instantiable RX2 3, Cond.initialized RX2, Cond.fieldLink RX8 34 "GrammarAmbiguity" "lengths" "LGrammarAmbiguity$LengthCounts;", Cond.classLink RX8 38 RX4, Cond.instantiable RX4 4, Cond.initialized RX4, Cond.fieldLink RX8 43 "GrammarAmbiguity" "spans" "LGrammarAmbiguity$SpanCounts;", Cond.classLink RX8 47 RX7, Cond.instantiable RX7 4, Cond.initialized RX7, Cond.fieldLink RX8 52 "GrammarAmbiguity" "words" "LGrammarAmbiguity$WordCounts;", Cond.classLink RX8 56 RX5, Cond.instantiable RX5 11, Cond.initialized RX5]
def WS_1 : List Cond := [Cond.fieldLink RX8 59 "GrammarAmbiguity" "tree" "LGrammarAmbiguity$Tree;", Cond.classLink RX8 63 RX3, Cond.instantiable RX3 4, Cond.initialized RX3, Cond.fieldLink RX8 66 "GrammarAmbiguity" "slots" "LGrammarAmbiguity$Slots;", Cond.fieldLink RX8 70 "GrammarAmbiguity" "saved" "Z", Cond.instanceMethod yX1_init, Cond.code yX1_init cX1_init 1 none, Cond.methodLink RX1 3 objectInit, Cond.fieldLink RX1 9 "GrammarAmbiguity$Grammar" "nonterminals" "I", Cond.fieldLink RX1 15 "GrammarAmbiguity$Grammar" "terminals" "I", Cond.fieldLink RX1 18 "GrammarAmbiguity$Grammar" "start" "I", Cond.fieldLink RX1 21 "GrammarAmbiguity$Grammar" "productions" "I", Cond.arrayClass .int, Cond.fieldLink RX1 24 "GrammarAmbiguity$Grammar" "symbols" "[I", Cond.fieldLink RX1 28 "GrammarAmbiguity$Grammar" "shortest" "[I", Cond.arrayClass .boolean, Cond.fieldLink RX1 31 "GrammarAmbiguity$Grammar" "reached" "[Z", Cond.instanceMethod yX6_init, Cond.code yX6_init cX6_init 1 none, Cond.methodLink RX6 3 objectInit, Cond.fieldLink RX6 9 "GrammarAmbiguity$Word" "length" "I", Cond.fieldLink RX6 15 "GrammarAmbiguity$Word" "letters" "[I", Cond.instanceMethod yX2_init, Cond.code yX2_init cX2_init 2 none, Cond.instanceMethod yX0_init, Cond.initialized RX0, Cond.code yX0_init cX0_init 3 none, Cond.methodLink RX0 3 objectInit, Cond.fieldLink RX0 9 "GrammarAmbiguity$Counts" "grammar" "LGrammarAmbiguity$Grammar;", Cond.fieldLink RX0 15 "GrammarAmbiguity$Counts" "rows" "[J", Cond.fieldLink RX0 19 "GrammarAmbiguity$Counts" "filled" "I", Cond.instanceMethod yX4_init, Cond.code yX4_init cX4_init 3 none, Cond.fieldLink RX4 9 "GrammarAmbiguity$SpanCounts" "word" "LGrammarAmbiguity$Word;", Cond.instanceMethod yX7_init, Cond.code yX7_init cX7_init 4 none, Cond.methodLink RX7 3 objectInit, Cond.fieldLink RX7 9 "GrammarAmbiguity$WordCounts" "grammar" "LGrammarAmbiguity$Grammar;", Cond.fieldLink RX7 15 "GrammarAmbiguity$WordCounts" "lengths" "LGrammarAmbiguity$LengthCounts;"]
def WS_2 : List Cond := [Cond.fieldLink RX7 19 "GrammarAmbiguity$WordCounts" "rows" "[J", Cond.fieldLink RX7 23 "GrammarAmbiguity$WordCounts" "filled" "I", Cond.instanceMethod yX5_init, Cond.code yX5_init cX5_init 2 none, Cond.methodLink RX5 3 objectInit, Cond.fieldLink RX5 9 "GrammarAmbiguity$Tree" "grammar" "LGrammarAmbiguity$Grammar;", Cond.fieldLink RX5 15 "GrammarAmbiguity$Tree" "present" "Z", Cond.fieldLink RX5 19 "GrammarAmbiguity$Tree" "number" "J", Cond.fieldLink RX5 23 "GrammarAmbiguity$Tree" "size" "I", Cond.fieldLink RX5 27 "GrammarAmbiguity$Tree" "productions" "[I", Cond.fieldLink RX5 31 "GrammarAmbiguity$Tree" "begins" "[I", Cond.fieldLink RX5 34 "GrammarAmbiguity$Tree" "lengths" "[I", Cond.fieldLink RX5 37 "GrammarAmbiguity$Tree" "firsts" "[I", Cond.fieldLink RX5 40 "GrammarAmbiguity$Tree" "seconds" "[I", Cond.fieldLink RX5 43 "GrammarAmbiguity$Tree" "ends" "[I", Cond.fieldLink RX5 46 "GrammarAmbiguity$Tree" "numbers" "[J", Cond.instanceMethod yX3_init, Cond.code yX3_init cX3_init 1 none, Cond.methodLink RX3 3 objectInit, Cond.fieldLink RX3 9 "GrammarAmbiguity$Slots" "held" "[Z", Cond.fieldLink RX3 15 "GrammarAmbiguity$Slots" "wide" "[Z", Cond.fieldLink RX3 18 "GrammarAmbiguity$Slots" "lengths" "[I", Cond.fieldLink RX3 22 "GrammarAmbiguity$Slots" "elements" "[I", Cond.methodLink RL 112 yX9_init, Cond.instanceMethod yX9_init, Cond.code yX9_init cX9_init 1 none, Cond.methodLink RX9 1 objectInit, Cond.fieldLink RX9 7 "GrammarAmbiguityModel" "nonterminals" "I", Cond.fieldLink RX9 13 "GrammarAmbiguityModel" "terminals" "I", Cond.classLink RX9 16 "[[I", Cond.fieldLink RX9 18 "GrammarAmbiguityModel" "symbols" "[[I", Cond.fieldLink RX9 21 "GrammarAmbiguityModel" "word" "[I", Cond.fieldLink RX9 25 "GrammarAmbiguityModel" "shortest" "[I", Cond.fieldLink RX9 28 "GrammarAmbiguityModel" "isReached" "[Z", Cond.classLink RX9 32 "[[J", Cond.fieldLink RX9 34 "GrammarAmbiguityModel" "byLength" "[[J", Cond.fieldLink RX9 37 "GrammarAmbiguityModel" "read" "[I", Cond.fieldLink RX9 42 "GrammarAmbiguityModel" "byPart" "[[[J", Cond.fieldLink RX9 45 "GrammarAmbiguityModel" "nodeProduction" "[I", Cond.fieldLink RX9 48 "GrammarAmbiguityModel" "nodeFrom" "[I"]
def WS_3 : List Cond := [Cond.fieldLink RX9 51 "GrammarAmbiguityModel" "nodeSize" "[I", Cond.fieldLink RX9 54 "GrammarAmbiguityModel" "sizes" "[I", Cond.fieldLink RX9 57 "GrammarAmbiguityModel" "isWide" "[Z", Cond.fieldLink RX9 60 "GrammarAmbiguityModel" "elements" "[[I", Cond.fieldLink RX9 63 "GrammarAmbiguityModel" "savedSymbols" "[[I", Cond.fieldLink RX9 66 "GrammarAmbiguityModel" "savedWord" "[I", Cond.methodLink RL 113 yL_reset, Cond.static yL_reset, Cond.initialized RL, Cond.codeWith yL_reset cL_reset 4 (some .int) [(0, 6, 9, 13)], Cond.classLink RL 13 "java/lang/IllegalArgumentException", Cond.methodLink RL 7 yX8_reset, Cond.instanceMethod yX8_reset, Cond.selects RX8 yX8_reset yX8_reset, Cond.code yX8_reset cX8_reset 3 none, Cond.classLink RX8 74 "java/lang/IllegalArgumentException", Cond.initialized "java/lang/IllegalArgumentException", Cond.instanceMethod yX1_begin, Cond.selects RX1 yX1_begin yX1_begin, Cond.code yX1_begin cX1_begin 3 none, Cond.methodLink RX8 91 yX8_forgetGrammar, Cond.instanceMethod yX8_forgetGrammar, Cond.selects RX8 yX8_forgetGrammar yX8_forgetGrammar, Cond.code yX8_forgetGrammar cX8_forgetGrammar 1 none, Cond.methodLink RX8 305 ⟨"GrammarAmbiguity$LengthCounts", "forget", "()V"⟩, Cond.sameMethod "GrammarAmbiguity$LengthCounts" "GrammarAmbiguity$Counts" "forget" "()V", Cond.selects RX2 ⟨"GrammarAmbiguity$LengthCounts", "forget", "()V"⟩ yX0_forget, Cond.instanceMethod yX0_forget, Cond.code yX0_forget cX0_forget 1 none, Cond.instanceMethod yX7_forget, Cond.selects RX7 yX7_forget yX7_forget, Cond.code yX7_forget cX7_forget 1 none, Cond.methodLink RL 118 yX9_reset, Cond.instanceMethod yX9_reset, Cond.selects RX9 yX9_reset yX9_reset, Cond.code yX9_reset cX9_reset 3 none, Cond.fieldLink RX9 83 "GrammarAmbiguityModel" "start" "I", Cond.fieldLink RX9 76 "GrammarAmbiguityModel" "productions" "I", Cond.fieldLink RX9 86 "GrammarAmbiguityModel" "length" "I", Cond.fieldLink RX9 89 "GrammarAmbiguityModel" "nodes" "I"]
def WS_4 : List Cond := [Cond.methodLink RX9 72 yX9_isBetween, Cond.static yX9_isBetween, Cond.code yX9_isBetween cX9_isBetween 3 (some .boolean), Cond.methodLink RX9 79 yX9_fails, Cond.instanceMethod yX9_fails, Cond.selects RX9 yX9_fails yX9_fails, Cond.code yX9_fails cX9_fails 3 (some .boolean), Cond.fieldLink RX9 69 "GrammarAmbiguityModel" "thrown" "I", Cond.methodLink RL 119 yX9_thrown, Cond.instanceMethod yX9_thrown, Cond.selects RX9 yX9_thrown yX9_thrown, Cond.code yX9_thrown cX9_thrown 1 (some .int), Cond.methodLink RL 122 yL_addProduction, Cond.static yL_addProduction, Cond.codeWith yL_addProduction cL_addProduction 7 (some .int) [(0, 14, 17, 13), (0, 14, 21, 19)], Cond.methodLink RL 15 yX8_addProduction, Cond.instanceMethod yX8_addProduction, Cond.selects RX8 yX8_addProduction yX8_addProduction, Cond.code yX8_addProduction cX8_addProduction 6 (some .int), Cond.classLink RX8 113 "java/lang/IllegalStateException", Cond.initialized "java/lang/IllegalStateException", Cond.instanceMethod yX1_isNonterminal, Cond.selects RX1 yX1_isNonterminal yX1_isNonterminal, Cond.code yX1_isNonterminal cX1_isNonterminal 2 (some .boolean), Cond.instanceMethod yX1_isRightSide, Cond.selects RX1 yX1_isRightSide yX1_isRightSide, Cond.code yX1_isRightSide cX1_isRightSide 4 (some .boolean), Cond.methodLink RX1 42 yX1_isSymbol, Cond.instanceMethod yX1_isSymbol, Cond.selects RX1 yX1_isSymbol yX1_isSymbol, Cond.code yX1_isSymbol cX1_isSymbol 2 (some .boolean), Cond.methodLink RX1 35 yX1_isNonterminal, Cond.methodLink RX1 39 yX1_isTerminal, Cond.instanceMethod yX1_isTerminal, Cond.selects RX1 yX1_isTerminal yX1_isTerminal, Cond.code yX1_isTerminal cX1_isTerminal 2 (some .boolean), Cond.instanceMethod yX1_holds, Cond.selects RX1 yX1_holds yX1_holds, Cond.code yX1_holds cX1_holds 6 (some .boolean), Cond.methodLink RX1 45 yX1_symbol]
def WS_5 : List Cond := [Cond.instanceMethod yX1_symbol, Cond.selects RX1 yX1_symbol yX1_symbol, Cond.code yX1_symbol cX1_symbol 3 (some .int), Cond.instanceMethod yX1_add, Cond.selects RX1 yX1_add yX1_add, Cond.code yX1_add cX1_add 6 none, Cond.methodLink RL 125 yX9_addProduction, Cond.instanceMethod yX9_addProduction, Cond.selects RX9 yX9_addProduction yX9_addProduction, Cond.code yX9_addProduction cX9_addProduction 5 (some .int), Cond.methodLink RX9 102 yX9_isWrong, Cond.instanceMethod yX9_isWrong, Cond.selects RX9 yX9_isWrong yX9_isWrong, Cond.code yX9_isWrong cX9_isWrong 7 (some .boolean), Cond.methodLink RX9 92 yX9_isNonterminal, Cond.instanceMethod yX9_isNonterminal, Cond.selects RX9 yX9_isNonterminal yX9_isNonterminal, Cond.code yX9_isNonterminal cX9_isNonterminal 2 (some .boolean), Cond.methodLink RX9 99 yX9_isSymbol, Cond.instanceMethod yX9_isSymbol, Cond.selects RX9 yX9_isSymbol yX9_isSymbol, Cond.code yX9_isSymbol cX9_isSymbol 2 (some .boolean), Cond.methodLink RX9 96 yX9_isTerminal, Cond.instanceMethod yX9_isTerminal, Cond.selects RX9 yX9_isTerminal yX9_isTerminal, Cond.code yX9_isTerminal cX9_isTerminal 2 (some .boolean), Cond.methodLink RL 126 yL_removeProduction, Cond.static yL_removeProduction, Cond.codeWith yL_removeProduction cL_removeProduction 4 (some .int) [(0, 9, 12, 13)], Cond.methodLink RL 21 yX8_removeProduction, Cond.instanceMethod yX8_removeProduction, Cond.selects RX8 yX8_removeProduction yX8_removeProduction, Cond.code yX8_removeProduction cX8_removeProduction 2 (some .int), Cond.methodLink RX8 122 yX8_checkProduction, Cond.instanceMethod yX8_checkProduction, Cond.selects RX8 yX8_checkProduction yX8_checkProduction, Cond.code yX8_checkProduction cX8_checkProduction 2 none, Cond.instanceMethod yX1_remove, Cond.selects RX1 yX1_remove yX1_remove, Cond.code yX1_remove cX1_remove 4 none]
def WS_6 : List Cond := [Cond.methodLink RL 129 yX9_removeProduction, Cond.instanceMethod yX9_removeProduction, Cond.selects RX9 yX9_removeProduction yX9_removeProduction, Cond.code yX9_removeProduction cX9_removeProduction 2 (some .int), Cond.methodLink RX9 106 yX9_isProduction, Cond.instanceMethod yX9_isProduction, Cond.selects RX9 yX9_isProduction yX9_isProduction, Cond.code yX9_isProduction cX9_isProduction 2 (some .boolean), Cond.methodLink RX9 109 yX9_remove, Cond.instanceMethod yX9_remove, Cond.selects RX9 yX9_remove yX9_remove, Cond.code yX9_remove cX9_remove 4 none, Cond.methodLink RL 130 yX8_removeUseless, Cond.instanceMethod yX8_removeUseless, Cond.selects RX8 yX8_removeUseless yX8_removeUseless, Cond.code yX8_removeUseless cX8_removeUseless 2 (some .int), Cond.instanceMethod yX1_removeUnused, Cond.selects RX1 yX1_removeUnused yX1_removeUnused, Cond.code yX1_removeUnused cX1_removeUnused 3 (some .int), Cond.methodLink RX1 60 yX1_measure, Cond.instanceMethod yX1_measure, Cond.selects RX1 yX1_measure yX1_measure, Cond.code yX1_measure cX1_measure 3 none, Cond.methodLink RX1 49 yX1_shortestOf, Cond.instanceMethod yX1_shortestOf, Cond.selects RX1 yX1_shortestOf yX1_shortestOf, Cond.code yX1_shortestOf cX1_shortestOf 6 (some .int), Cond.methodLink RX1 57 yX1_shortestPart, Cond.instanceMethod yX1_shortestPart, Cond.selects RX1 yX1_shortestPart yX1_shortestPart, Cond.code yX1_shortestPart cX1_shortestPart 2 (some .int), Cond.methodLink RX1 53 yX1_shorten, Cond.instanceMethod yX1_shorten, Cond.selects RX1 yX1_shorten yX1_shorten, Cond.code yX1_shorten cX1_shorten 3 none, Cond.methodLink RX1 63 yX1_reach, Cond.instanceMethod yX1_reach, Cond.selects RX1 yX1_reach yX1_reach, Cond.code yX1_reach cX1_reach 3 none, Cond.methodLink RX1 66 yX1_isUsed]
def WS_7 : List Cond := [Cond.instanceMethod yX1_isUsed, Cond.selects RX1 yX1_isUsed yX1_isUsed, Cond.code yX1_isUsed cX1_isUsed 3 (some .boolean), Cond.methodLink RX1 73 yX1_reachParts, Cond.instanceMethod yX1_reachParts, Cond.selects RX1 yX1_reachParts yX1_reachParts, Cond.code yX1_reachParts cX1_reachParts 4 none, Cond.methodLink RX1 69 yX1_remove, Cond.methodLink RL 133 yX9_removeUseless, Cond.instanceMethod yX9_removeUseless, Cond.selects RX9 yX9_removeUseless yX9_removeUseless, Cond.code yX9_removeUseless cX9_removeUseless 5 (some .int), Cond.methodLink RX9 117 yX9_findShortest, Cond.instanceMethod yX9_findShortest, Cond.selects RX9 yX9_findShortest yX9_findShortest, Cond.code yX9_findShortest cX9_findShortest 5 none, Cond.methodLink RX9 113 yX9_shortestOf, Cond.instanceMethod yX9_shortestOf, Cond.selects RX9 yX9_shortestOf yX9_shortestOf, Cond.code yX9_shortestOf cX9_shortestOf 5 (some .int), Cond.methodLink RL 134 yX8_productionCount, Cond.instanceMethod yX8_productionCount, Cond.selects RX8 yX8_productionCount yX8_productionCount, Cond.code yX8_productionCount cX8_productionCount 1 (some .int), Cond.methodLink RL 137 yX9_productionCount, Cond.instanceMethod yX9_productionCount, Cond.selects RX9 yX9_productionCount yX9_productionCount, Cond.code yX9_productionCount cX9_productionCount 1 (some .int), Cond.methodLink RL 138 yL_productionSymbol, Cond.static yL_productionSymbol, Cond.codeWith yL_productionSymbol cL_productionSymbol 5 (some .int) [(0, 10, 13, 13), (0, 10, 17, 29)], Cond.methodLink RL 25 yX8_productionSymbol, Cond.instanceMethod yX8_productionSymbol, Cond.selects RX8 yX8_productionSymbol yX8_productionSymbol, Cond.code yX8_productionSymbol cX8_productionSymbol 3 (some .int), Cond.classLink RX8 133 "java/lang/IndexOutOfBoundsException", Cond.initialized "java/lang/IndexOutOfBoundsException", Cond.methodLink RL 141 yX9_productionSymbol, Cond.instanceMethod yX9_productionSymbol, Cond.selects RX9 yX9_productionSymbol yX9_productionSymbol]
def WS_8 : List Cond := [Cond.code yX9_productionSymbol cX9_productionSymbol 3 (some .int), Cond.methodLink RL 142 yL_setStart, Cond.static yL_setStart, Cond.codeWith yL_setStart cL_setStart 4 (some .int) [(0, 9, 12, 13)], Cond.methodLink RL 31 yX8_setStart, Cond.instanceMethod yX8_setStart, Cond.selects RX8 yX8_setStart yX8_setStart, Cond.code yX8_setStart cX8_setStart 3 (some .int), Cond.methodLink RX8 142 yX8_checkNonterminal, Cond.instanceMethod yX8_checkNonterminal, Cond.selects RX8 yX8_checkNonterminal yX8_checkNonterminal, Cond.code yX8_checkNonterminal cX8_checkNonterminal 2 none, Cond.methodLink RL 144 yX9_setStart, Cond.instanceMethod yX9_setStart, Cond.selects RX9 yX9_setStart yX9_setStart, Cond.code yX9_setStart cX9_setStart 3 (some .int), Cond.methodLink RL 145 yL_shortestLength, Cond.static yL_shortestLength, Cond.codeWith yL_shortestLength cL_shortestLength 4 (some .int) [(0, 9, 12, 13)], Cond.methodLink RL 34 yX8_shortestLength, Cond.instanceMethod yX8_shortestLength, Cond.selects RX8 yX8_shortestLength yX8_shortestLength, Cond.code yX8_shortestLength cX8_shortestLength 2 (some .int), Cond.methodLink RL 147 yX9_shortestLength, Cond.instanceMethod yX9_shortestLength, Cond.selects RX9 yX9_shortestLength yX9_shortestLength, Cond.code yX9_shortestLength cX9_shortestLength 2 (some .int), Cond.methodLink RL 148 yL_append, Cond.static yL_append, Cond.codeWith yL_append cL_append 4 (some .int) [(0, 9, 12, 13), (0, 9, 15, 19)], Cond.methodLink RL 37 yX8_append, Cond.instanceMethod yX8_append, Cond.selects RX8 yX8_append yX8_append, Cond.code yX8_append cX8_append 2 (some .int), Cond.instanceMethod yX6_put, Cond.selects RX6 yX6_put yX6_put, Cond.code yX6_put cX6_put 3 none, Cond.methodLink RL 150 yX9_append, Cond.instanceMethod yX9_append, Cond.selects RX9 yX9_append yX9_append]
def WS_9 : List Cond := [Cond.code yX9_append cX9_append 2 (some .int), Cond.methodLink RL 151 yX8_clearWord, Cond.instanceMethod yX8_clearWord, Cond.selects RX8 yX8_clearWord yX8_clearWord, Cond.code yX8_clearWord cX8_clearWord 2 (some .int), Cond.methodLink RL 154 yX9_clearWord, Cond.instanceMethod yX9_clearWord, Cond.selects RX9 yX9_clearWord yX9_clearWord, Cond.code yX9_clearWord cX9_clearWord 2 (some .int), Cond.methodLink RL 155 yX8_wordLength, Cond.instanceMethod yX8_wordLength, Cond.selects RX8 yX8_wordLength yX8_wordLength, Cond.code yX8_wordLength cX8_wordLength 1 (some .int), Cond.methodLink RL 158 yX9_wordLength, Cond.instanceMethod yX9_wordLength, Cond.selects RX9 yX9_wordLength yX9_wordLength, Cond.code yX9_wordLength cX9_wordLength 1 (some .int), Cond.methodLink RL 159 yL_terminalAt, Cond.static yL_terminalAt, Cond.codeWith yL_terminalAt cL_terminalAt 4 (some .int) [(0, 9, 12, 29)], Cond.classLink RL 29 "java/lang/IndexOutOfBoundsException", Cond.methodLink RL 40 yX8_terminalAt, Cond.instanceMethod yX8_terminalAt, Cond.selects RX8 yX8_terminalAt yX8_terminalAt, Cond.code yX8_terminalAt cX8_terminalAt 2 (some .int), Cond.instanceMethod yX6_letter, Cond.selects RX6 yX6_letter yX6_letter, Cond.code yX6_letter cX6_letter 2 (some .int), Cond.methodLink RL 161 yX9_terminalAt, Cond.instanceMethod yX9_terminalAt, Cond.selects RX9 yX9_terminalAt yX9_terminalAt, Cond.code yX9_terminalAt cX9_terminalAt 2 (some .int), Cond.methodLink RL 162 yX8_treeCount, Cond.instanceMethod yX8_treeCount, Cond.selects RX8 yX8_treeCount yX8_treeCount, Cond.code yX8_treeCount cX8_treeCount 1 (some .long), Cond.methodLink RX8 173 yX8_countSpans, Cond.instanceMethod yX8_countSpans, Cond.selects RX8 yX8_countSpans yX8_countSpans, Cond.code yX8_countSpans cX8_countSpans 1 none]
def WS_10 : List Cond := [Cond.methodLink RX8 309 ⟨"GrammarAmbiguity$SpanCounts", "forget", "()V"⟩, Cond.sameMethod "GrammarAmbiguity$SpanCounts" "GrammarAmbiguity$Counts" "forget" "()V", Cond.selects RX4 ⟨"GrammarAmbiguity$SpanCounts", "forget", "()V"⟩ yX0_forget, Cond.methodLink RX8 310 ⟨"GrammarAmbiguity$SpanCounts", "fill", "(I)V"⟩, Cond.sameMethod "GrammarAmbiguity$SpanCounts" "GrammarAmbiguity$Counts" "fill" "(I)V", Cond.selects RX4 ⟨"GrammarAmbiguity$SpanCounts", "fill", "(I)V"⟩ yX0_fill, Cond.instanceMethod yX0_fill, Cond.code yX0_fill cX0_fill 9 none, Cond.methodLink RX0 43 Lib.Math.max.name, Cond.static Lib.Math.max.name, Cond.initialized "java/lang/Math", Cond.code Lib.Math.max.name Lib.Math.max.code 2 (some .int), Cond.methodLink RX0 23 ⟨"GrammarAmbiguity$Counts", "pieces", "(I)I"⟩, Cond.sameMethod "GrammarAmbiguity$Counts" "GrammarAmbiguity$Counts" "pieces" "(I)I", Cond.selects RX2 ⟨"GrammarAmbiguity$Counts", "pieces", "(I)I"⟩ yX2_pieces, Cond.instanceMethod yX2_pieces, Cond.code yX2_pieces cX2_pieces 2 (some .int), Cond.selects RX4 ⟨"GrammarAmbiguity$Counts", "pieces", "(I)I"⟩ yX4_pieces, Cond.instanceMethod yX4_pieces, Cond.code yX4_pieces cX4_pieces 2 (some .int), Cond.methodLink RX0 35 ⟨"GrammarAmbiguity$Counts", "ofProduction", "(IIII)J"⟩, Cond.sameMethod "GrammarAmbiguity$Counts" "GrammarAmbiguity$Counts" "ofProduction" "(IIII)J", Cond.selects RX2 ⟨"GrammarAmbiguity$Counts", "ofProduction", "(IIII)J"⟩ yX0_ofProduction, Cond.instanceMethod yX0_ofProduction, Cond.code yX0_ofProduction cX0_ofProduction 8 (some .long), Cond.methodLink RX0 59 ⟨"GrammarAmbiguity$Counts", "ofFirst", "(IIII)J"⟩, Cond.sameMethod "GrammarAmbiguity$Counts" "GrammarAmbiguity$Counts" "ofFirst" "(IIII)J", Cond.selects RX2 ⟨"GrammarAmbiguity$Counts", "ofFirst", "(IIII)J"⟩ yX0_ofFirst, Cond.instanceMethod yX0_ofFirst, Cond.code yX0_ofFirst cX0_ofFirst 14 (some .long), Cond.methodLink RX0 62 ⟨"GrammarAmbiguity$Counts", "part", "(II)I"⟩, Cond.sameMethod "GrammarAmbiguity$Counts" "GrammarAmbiguity$Counts" "part" "(II)I", Cond.selects RX2 ⟨"GrammarAmbiguity$Counts", "part", "(II)I"⟩ yX2_part, Cond.instanceMethod yX2_part, Cond.code yX2_part cX2_part 3 (some .int), Cond.selects RX4 ⟨"GrammarAmbiguity$Counts", "part", "(II)I"⟩ yX4_part, Cond.instanceMethod yX4_part, Cond.code yX4_part cX4_part 3 (some .int), Cond.methodLink RX0 65 ⟨"GrammarAmbiguity$Counts", "count", "(III)J"⟩, Cond.sameMethod "GrammarAmbiguity$Counts" "GrammarAmbiguity$Counts" "count" "(III)J"]
def WS_11 : List Cond := [Cond.selects RX2 ⟨"GrammarAmbiguity$Counts", "count", "(III)J"⟩ yX0_count, Cond.instanceMethod yX0_count, Cond.code yX0_count cX0_count 5 (some .long), Cond.methodLink RX0 52 ⟨"GrammarAmbiguity$Counts", "fits", "(II)Z"⟩, Cond.sameMethod "GrammarAmbiguity$Counts" "GrammarAmbiguity$Counts" "fits" "(II)Z", Cond.selects RX2 ⟨"GrammarAmbiguity$Counts", "fits", "(II)Z"⟩ yX2_fits, Cond.instanceMethod yX2_fits, Cond.code yX2_fits cX2_fits 3 (some .boolean), Cond.selects RX4 ⟨"GrammarAmbiguity$Counts", "fits", "(II)Z"⟩ yX4_fits, Cond.instanceMethod yX4_fits, Cond.code yX4_fits cX4_fits 3 (some .boolean), Cond.methodLink RX0 49 ⟨"GrammarAmbiguity$Counts", "place", "(II)I"⟩, Cond.sameMethod "GrammarAmbiguity$Counts" "GrammarAmbiguity$Counts" "place" "(II)I", Cond.selects RX2 ⟨"GrammarAmbiguity$Counts", "place", "(II)I"⟩ yX2_place, Cond.instanceMethod yX2_place, Cond.code yX2_place cX2_place 3 (some .int), Cond.selects RX4 ⟨"GrammarAmbiguity$Counts", "place", "(II)I"⟩ yX4_place, Cond.instanceMethod yX4_place, Cond.code yX4_place cX4_place 3 (some .int), Cond.selects RX4 ⟨"GrammarAmbiguity$Counts", "count", "(III)J"⟩ yX0_count, Cond.methodLink RX0 69 ⟨"GrammarAmbiguity$Counts", "tailsOf", "(IIIII)J"⟩, Cond.sameMethod "GrammarAmbiguity$Counts" "GrammarAmbiguity$Counts" "tailsOf" "(IIIII)J", Cond.selects RX2 ⟨"GrammarAmbiguity$Counts", "tailsOf", "(IIIII)J"⟩ yX0_tailsOf, Cond.instanceMethod yX0_tailsOf, Cond.code yX0_tailsOf cX0_tailsOf 9 (some .long), Cond.selects RX4 ⟨"GrammarAmbiguity$Counts", "tailsOf", "(IIIII)J"⟩ yX0_tailsOf, Cond.selects RX4 ⟨"GrammarAmbiguity$Counts", "ofFirst", "(IIII)J"⟩ yX0_ofFirst, Cond.selects RX4 ⟨"GrammarAmbiguity$Counts", "ofProduction", "(IIII)J"⟩ yX0_ofProduction, Cond.methodLink RX0 39 ⟨"GrammarAmbiguity$Counts", "put", "(IIIJ)V"⟩, Cond.sameMethod "GrammarAmbiguity$Counts" "GrammarAmbiguity$Counts" "put" "(IIIJ)V", Cond.selects RX2 ⟨"GrammarAmbiguity$Counts", "put", "(IIIJ)V"⟩ yX0_put, Cond.instanceMethod yX0_put, Cond.code yX0_put cX0_put 7 none, Cond.selects RX4 ⟨"GrammarAmbiguity$Counts", "put", "(IIIJ)V"⟩ yX0_put, Cond.methodLink RX8 176 ⟨"GrammarAmbiguity$SpanCounts", "count", "(III)J"⟩, Cond.sameMethod "GrammarAmbiguity$SpanCounts" "GrammarAmbiguity$Counts" "count" "(III)J", Cond.selects RX4 ⟨"GrammarAmbiguity$SpanCounts", "count", "(III)J"⟩ yX0_count, Cond.methodLink RL 165 yX9_treeCount, Cond.instanceMethod yX9_treeCount, Cond.selects RX9 yX9_treeCount yX9_treeCount]
def WS_12 : List Cond := [Cond.code yX9_treeCount cX9_treeCount 1 (some .long), Cond.methodLink RX9 146 yX9_countCurrent, Cond.instanceMethod yX9_countCurrent, Cond.selects RX9 yX9_countCurrent yX9_countCurrent, Cond.code yX9_countCurrent cX9_countCurrent 2 (some .long), Cond.methodLink RX9 142 yX9_countByPart, Cond.instanceMethod yX9_countByPart, Cond.selects RX9 yX9_countByPart yX9_countByPart, Cond.code yX9_countByPart cX9_countByPart 5 (some .long), Cond.methodLink RX9 139 yX9_treesOfProduction, Cond.instanceMethod yX9_treesOfProduction, Cond.selects RX9 yX9_treesOfProduction yX9_treesOfProduction, Cond.code yX9_treesOfProduction cX9_treesOfProduction 9 (some .long), Cond.methodLink RX9 135 yX9_treesFrom, Cond.instanceMethod yX9_treesFrom, Cond.selects RX9 yX9_treesFrom yX9_treesFrom, Cond.code yX9_treesFrom cX9_treesFrom 8 (some .long), Cond.methodLink RX9 131 yX9_treesOfPart, Cond.instanceMethod yX9_treesOfPart, Cond.selects RX9 yX9_treesOfPart yX9_treesOfPart, Cond.code yX9_treesOfPart cX9_treesOfPart 4 (some .long), Cond.methodLink RL 166 yL_treesOfLength, Cond.static yL_treesOfLength, Cond.codeWith yL_treesOfLength cL_treesOfLength 4 (some .int) [(0, 8, 11, 13)], Cond.methodLink RL 43 yX8_treesOfLength, Cond.instanceMethod yX8_treesOfLength, Cond.selects RX8 yX8_treesOfLength yX8_treesOfLength, Cond.code yX8_treesOfLength cX8_treesOfLength 2 (some .long), Cond.methodLink RX8 180 yX8_checkLength, Cond.static yX8_checkLength, Cond.code yX8_checkLength cX8_checkLength 2 none, Cond.methodLink RX8 183 yX8_allTrees, Cond.instanceMethod yX8_allTrees, Cond.selects RX8 yX8_allTrees yX8_allTrees, Cond.code yX8_allTrees cX8_allTrees 2 (some .long), Cond.methodLink RX8 313 ⟨"GrammarAmbiguity$LengthCounts", "fill", "(I)V"⟩, Cond.sameMethod "GrammarAmbiguity$LengthCounts" "GrammarAmbiguity$Counts" "fill" "(I)V", Cond.selects RX2 ⟨"GrammarAmbiguity$LengthCounts", "fill", "(I)V"⟩ yX0_fill, Cond.methodLink RX8 314 ⟨"GrammarAmbiguity$LengthCounts", "count", "(III)J"⟩, Cond.sameMethod "GrammarAmbiguity$LengthCounts" "GrammarAmbiguity$Counts" "count" "(III)J"]
def WS_13 : List Cond := [Cond.selects RX2 ⟨"GrammarAmbiguity$LengthCounts", "count", "(III)J"⟩ yX0_count, Cond.methodLink RL 168 yX9_treesOfLength, Cond.instanceMethod yX9_treesOfLength, Cond.selects RX9 yX9_treesOfLength yX9_treesOfLength, Cond.code yX9_treesOfLength cX9_treesOfLength 2 (some .long), Cond.methodLink RX9 128 yX9_countByLength, Cond.instanceMethod yX9_countByLength, Cond.selects RX9 yX9_countByLength yX9_countByLength, Cond.code yX9_countByLength cX9_countByLength 8 none, Cond.methodLink RX9 120 yX9_treesWith, Cond.instanceMethod yX9_treesWith, Cond.selects RX9 yX9_treesWith yX9_treesWith, Cond.code yX9_treesWith cX9_treesWith 7 (some .long), Cond.methodLink RX9 124 yX9_partsOfLength, Cond.instanceMethod yX9_partsOfLength, Cond.selects RX9 yX9_partsOfLength yX9_partsOfLength, Cond.code yX9_partsOfLength cX9_partsOfLength 3 (some .long), Cond.methodLink RL 169 yL_wordsOfLength, Cond.static yL_wordsOfLength, Cond.codeWith yL_wordsOfLength cL_wordsOfLength 5 (some .int) [(0, 10, 13, 13)], Cond.methodLink RL 47 yX8_wordsOfLength, Cond.instanceMethod yX8_wordsOfLength, Cond.selects RX8 yX8_wordsOfLength yX8_wordsOfLength, Cond.code yX8_wordsOfLength cX8_wordsOfLength 5 (some .int), Cond.methodLink RX8 189 yX8_countWords, Cond.instanceMethod yX8_countWords, Cond.selects RX8 yX8_countWords yX8_countWords, Cond.code yX8_countWords cX8_countWords 2 none, Cond.instanceMethod yX7_fill, Cond.selects RX7 yX7_fill yX7_fill, Cond.code yX7_fill cX7_fill 6 none, Cond.methodLink RX7 53 Lib.Math.max.name, Cond.methodLink RX7 36 yX7_clear, Cond.instanceMethod yX7_clear, Cond.selects RX7 yX7_clear yX7_clear, Cond.code yX7_clear cX7_clear 6 none, Cond.methodLink RX7 65 yX7_begin, Cond.instanceMethod yX7_begin, Cond.selects RX7 yX7_begin yX7_begin, Cond.code yX7_begin cX7_begin 4 (some .int)]
def WS_14 : List Cond := [Cond.methodLink RX7 68 yX7_ofLength, Cond.instanceMethod yX7_ofLength, Cond.selects RX7 yX7_ofLength yX7_ofLength, Cond.code yX7_ofLength cX7_ofLength 3 (some .int), Cond.methodLink RX7 43 ⟨"GrammarAmbiguity$LengthCounts", "ofSecond", "(IIIII)J"⟩, Cond.sameMethod "GrammarAmbiguity$LengthCounts" "GrammarAmbiguity$Counts" "ofSecond" "(IIIII)J", Cond.selects RX2 ⟨"GrammarAmbiguity$LengthCounts", "ofSecond", "(IIIII)J"⟩ yX0_ofSecond, Cond.instanceMethod yX0_ofSecond, Cond.code yX0_ofSecond cX0_ofSecond 6 (some .long), Cond.methodLink RX7 49 yX7_addWords, Cond.instanceMethod yX7_addWords, Cond.selects RX7 yX7_addWords yX7_addWords, Cond.code yX7_addWords cX7_addWords 15 none, Cond.methodLink RX7 75 yX7_addTimes, Cond.instanceMethod yX7_addTimes, Cond.selects RX7 yX7_addTimes yX7_addTimes, Cond.code yX7_addTimes cX7_addTimes 7 none, Cond.instanceMethod yX7_atLeast, Cond.selects RX7 yX7_atLeast yX7_atLeast, Cond.code yX7_atLeast cX7_atLeast 3 (some .int), Cond.methodLink RX7 79 yX7_atLeastBefore, Cond.instanceMethod yX7_atLeastBefore, Cond.selects RX7 yX7_atLeastBefore yX7_atLeastBefore, Cond.code yX7_atLeastBefore cX7_atLeastBefore 6 (some .int), Cond.methodLink RX7 83 yX7_count, Cond.instanceMethod yX7_count, Cond.selects RX7 yX7_count yX7_count, Cond.code yX7_count cX7_count 4 (some .long), Cond.methodLink RL 171 yX9_wordsOfLength, Cond.instanceMethod yX9_wordsOfLength, Cond.selects RX9 yX9_wordsOfLength yX9_wordsOfLength, Cond.code yX9_wordsOfLength cX9_wordsOfLength 3 (some .int), Cond.methodLink RX9 156 yX9_isListed, Cond.static yX9_isListed, Cond.code yX9_isListed cX9_isListed 1 (some .boolean), Cond.methodLink RX9 159 yX9_countWords, Cond.instanceMethod yX9_countWords, Cond.selects RX9 yX9_countWords yX9_countWords, Cond.code yX9_countWords cX9_countWords 8 (some .int), Cond.methodLink RX9 150 yX9_wordsOf]
def WS_15 : List Cond := [Cond.instanceMethod yX9_wordsOf, Cond.selects RX9 yX9_wordsOf yX9_wordsOf, Cond.code yX9_wordsOf cX9_wordsOf 4 (some .int), Cond.methodLink RX9 153 yX9_countNumbered, Cond.instanceMethod yX9_countNumbered, Cond.selects RX9 yX9_countNumbered yX9_countNumbered, Cond.code yX9_countNumbered cX9_countNumbered 5 (some .long), Cond.methodLink RL 172 yL_unambiguousShare, Cond.static yL_unambiguousShare, Cond.codeWith yL_unambiguousShare cL_unambiguousShare 4 (some .int) [(0, 8, 11, 13)], Cond.methodLink RL 50 yX8_unambiguousShare, Cond.instanceMethod yX8_unambiguousShare, Cond.selects RX8 yX8_unambiguousShare yX8_unambiguousShare, Cond.code yX8_unambiguousShare cX8_unambiguousShare 4 (some .double), Cond.methodLink RL 175 yX9_unambiguousShare, Cond.instanceMethod yX9_unambiguousShare, Cond.selects RX9 yX9_unambiguousShare yX9_unambiguousShare, Cond.code yX9_unambiguousShare cX9_unambiguousShare 3 (some .double), Cond.methodLink RL 176 yL_averageTrees, Cond.static yL_averageTrees, Cond.codeWith yL_averageTrees cL_averageTrees 4 (some .int) [(0, 8, 11, 13), (0, 8, 14, 57)], Cond.methodLink RL 54 yX8_averageTrees, Cond.instanceMethod yX8_averageTrees, Cond.selects RX8 yX8_averageTrees yX8_averageTrees, Cond.code yX8_averageTrees cX8_averageTrees 3 (some .double), Cond.classLink RX8 198 "java/util/NoSuchElementException", Cond.initialized "java/util/NoSuchElementException", Cond.methodLink RL 178 yX9_averageTrees, Cond.instanceMethod yX9_averageTrees, Cond.selects RX9 yX9_averageTrees yX9_averageTrees, Cond.code yX9_averageTrees cX9_averageTrees 3 (some .double), Cond.methodLink RL 179 yL_firstAmbiguous, Cond.static yL_firstAmbiguous, Cond.codeWith yL_firstAmbiguous cL_firstAmbiguous 4 (some .int) [(0, 9, 12, 13), (0, 9, 15, 57)], Cond.methodLink RL 59 yX8_firstAmbiguous, Cond.instanceMethod yX8_firstAmbiguous, Cond.selects RX8 yX8_firstAmbiguous yX8_firstAmbiguous, Cond.code yX8_firstAmbiguous cX8_firstAmbiguous 4 (some .int), Cond.instanceMethod yX7_find, Cond.selects RX7 yX7_find yX7_find]
def WS_16 : List Cond := [Cond.code yX7_find cX7_find 7 (some .int), Cond.methodLink RX8 207 yX8_setWord, Cond.instanceMethod yX8_setWord, Cond.selects RX8 yX8_setWord yX8_setWord, Cond.code yX8_setWord cX8_setWord 3 none, Cond.instanceMethod yX6_set, Cond.selects RX6 yX6_set yX6_set, Cond.code yX6_set cX6_set 7 none, Cond.methodLink RX6 23 Lib.Math.max.name, Cond.methodLink RX6 29 yX6_put, Cond.methodLink RL 181 yX9_firstAmbiguous, Cond.instanceMethod yX9_firstAmbiguous, Cond.selects RX9 yX9_firstAmbiguous yX9_firstAmbiguous, Cond.code yX9_firstAmbiguous cX9_firstAmbiguous 4 (some .int), Cond.methodLink RX9 163 yX9_take, Cond.instanceMethod yX9_take, Cond.selects RX9 yX9_take yX9_take, Cond.code yX9_take cX9_take 3 none, Cond.methodLink RL 182 yL_wordRank, Cond.static yL_wordRank, Cond.codeWith yL_wordRank cL_wordRank 3 (some .int) [(0, 8, 11, 19), (0, 8, 14, 57)], Cond.classLink RL 19 "java/lang/IllegalStateException", Cond.methodLink RL 62 yX8_wordRank, Cond.instanceMethod yX8_wordRank, Cond.selects RX8 yX8_wordRank yX8_wordRank, Cond.code yX8_wordRank cX8_wordRank 2 (some .int), Cond.instanceMethod yX6_key, Cond.selects RX6 yX6_key yX6_key, Cond.code yX6_key cX6_key 4 (some .int), Cond.methodLink RX6 19 yX6_letter, Cond.methodLink RL 185 yX9_wordRank, Cond.instanceMethod yX9_wordRank, Cond.selects RX9 yX9_wordRank yX9_wordRank, Cond.code yX9_wordRank cX9_wordRank 4 (some .int), Cond.methodLink RL 186 yL_takeWord, Cond.static yL_takeWord, Cond.codeWith yL_takeWord cL_takeWord 4 (some .int) [(0, 6, 9, 13), (0, 6, 12, 57)], Cond.methodLink RL 66 yX8_takeWord, Cond.instanceMethod yX8_takeWord, Cond.selects RX8 yX8_takeWord yX8_takeWord]
def WS_17 : List Cond := [Cond.code yX8_takeWord cX8_takeWord 4 none, Cond.methodLink RL 188 yX9_takeWord, Cond.instanceMethod yX9_takeWord, Cond.selects RX9 yX9_takeWord yX9_takeWord, Cond.code yX9_takeWord cX9_takeWord 3 none, Cond.methodLink RX9 166 yX9_takeRanked, Cond.instanceMethod yX9_takeRanked, Cond.selects RX9 yX9_takeRanked yX9_takeRanked, Cond.code yX9_takeRanked cX9_takeRanked 5 (some .boolean), Cond.methodLink RL 191 yL_drawWord, Cond.static yL_drawWord, Cond.codeWith yL_drawWord cL_drawWord 6 (some .int) [(0, 11, 14, 13), (0, 11, 18, 57)], Cond.methodLink RL 69 yX8_drawWord, Cond.instanceMethod yX8_drawWord, Cond.selects RX8 yX8_drawWord yX8_drawWord, Cond.code yX8_drawWord cX8_drawWord 6 (some .int), Cond.methodLink RX8 232 yX8_draw, Cond.static yX8_draw, Cond.code yX8_draw cX8_draw 4 (some .long), Cond.constantLong RX8 319 (6364136223846793005), Cond.constantLong RX8 321 (1442695040888963407), Cond.methodLink RL 194 yX9_drawWord, Cond.instanceMethod yX9_drawWord, Cond.selects RX9 yX9_drawWord yX9_drawWord, Cond.code yX9_drawWord cX9_drawWord 6 (some .int), Cond.methodLink RX9 174 yX9_drawn, Cond.static yX9_drawn, Cond.code yX9_drawn cX9_drawn 6 (some .long), Cond.constantLong RX9 170 (6364136223846793005), Cond.constantLong RX9 172 (1442695040888963407), Cond.methodLink RL 195 yL_drawTree, Cond.static yL_drawTree, Cond.codeWith yL_drawTree cL_drawTree 6 (some .int) [(0, 10, 13, 13), (0, 10, 17, 57)], Cond.methodLink RL 73 yX8_drawTree, Cond.instanceMethod yX8_drawTree, Cond.selects RX8 yX8_drawTree yX8_drawTree, Cond.code yX8_drawTree cX8_drawTree 8 (some .long), Cond.instanceMethod yX5_grow, Cond.selects RX5 yX5_grow yX5_grow, Cond.code yX5_grow cX5_grow 23 none]
def WS_18 : List Cond := [Cond.methodLink RX5 73 Lib.MathLoose.max_long.x, Cond.static Lib.MathLoose.max_long.x, Cond.code Lib.MathLoose.max_long.x Lib.MathLoose.max_long.code 4 (some .long), Cond.methodLink RX5 56 yX5_choose, Cond.instanceMethod yX5_choose, Cond.selects RX5 yX5_choose yX5_choose, Cond.code yX5_choose cX5_choose 15 (some .long), Cond.methodLink RX5 85 ⟨"GrammarAmbiguity$Counts", "ofProduction", "(IIII)J"⟩, Cond.methodLink RX5 89 ⟨"GrammarAmbiguity$Counts", "ofFirst", "(IIII)J"⟩, Cond.methodLink RX5 92 ⟨"GrammarAmbiguity$Counts", "ofSecond", "(IIIII)J"⟩, Cond.sameMethod "GrammarAmbiguity$Counts" "GrammarAmbiguity$Counts" "ofSecond" "(IIIII)J", Cond.selects RX2 ⟨"GrammarAmbiguity$Counts", "ofSecond", "(IIIII)J"⟩ yX0_ofSecond, Cond.selects RX4 ⟨"GrammarAmbiguity$Counts", "ofSecond", "(IIIII)J"⟩ yX0_ofSecond, Cond.methodLink RX5 60 ⟨"GrammarAmbiguity$Counts", "part", "(II)I"⟩, Cond.methodLink RX5 69 ⟨"GrammarAmbiguity$Counts", "count", "(III)J"⟩, Cond.methodLink RX5 79 yX5_grow, Cond.instanceMethod yX5_spell, Cond.selects RX5 yX5_spell yX5_spell, Cond.code yX5_spell cX5_spell 4 none, Cond.methodLink RX5 96 yX5_spellPart, Cond.static yX5_spellPart, Cond.code yX5_spellPart cX5_spellPart 3 none, Cond.instanceMethod yX5_findNumber, Cond.selects RX5 yX5_findNumber yX5_findNumber, Cond.code yX5_findNumber cX5_findNumber 8 (some .long), Cond.methodLink RX5 106 Lib.Math.min.name, Cond.static Lib.Math.min.name, Cond.code Lib.Math.min.name Lib.Math.min.code 2 (some .int), Cond.methodLink RX5 109 ⟨"GrammarAmbiguity$SpanCounts", "count", "(III)J"⟩, Cond.methodLink RX5 112 yX5_countBefore, Cond.instanceMethod yX5_countBefore, Cond.selects RX5 yX5_countBefore yX5_countBefore, Cond.code yX5_countBefore cX5_countBefore 10 (some .long), Cond.methodLink RX5 116 ⟨"GrammarAmbiguity$SpanCounts", "ofProduction", "(IIII)J"⟩, Cond.sameMethod "GrammarAmbiguity$SpanCounts" "GrammarAmbiguity$Counts" "ofProduction" "(IIII)J", Cond.selects RX4 ⟨"GrammarAmbiguity$SpanCounts", "ofProduction", "(IIII)J"⟩ yX0_ofProduction, Cond.methodLink RX5 117 ⟨"GrammarAmbiguity$SpanCounts", "ofFirst", "(IIII)J"⟩, Cond.sameMethod "GrammarAmbiguity$SpanCounts" "GrammarAmbiguity$Counts" "ofFirst" "(IIII)J", Cond.selects RX4 ⟨"GrammarAmbiguity$SpanCounts", "ofFirst", "(IIII)J"⟩ yX0_ofFirst, Cond.methodLink RX5 118 ⟨"GrammarAmbiguity$SpanCounts", "ofSecond", "(IIIII)J"⟩]
def WS_19 : List Cond := [Cond.sameMethod "GrammarAmbiguity$SpanCounts" "GrammarAmbiguity$Counts" "ofSecond" "(IIIII)J", Cond.selects RX4 ⟨"GrammarAmbiguity$SpanCounts", "ofSecond", "(IIIII)J"⟩ yX0_ofSecond, Cond.methodLink RL 197 yX9_drawTree, Cond.instanceMethod yX9_drawTree, Cond.selects RX9 yX9_drawTree yX9_drawTree, Cond.code yX9_drawTree cX9_drawTree 7 (some .long), Cond.fieldLink RX9 178 "GrammarAmbiguityModel" "isByPart" "Z", Cond.methodLink RX9 192 yX9_build, Cond.instanceMethod yX9_build, Cond.selects RX9 yX9_build yX9_build, Cond.code yX9_build cX9_build 15 none, Cond.methodLink RX9 185 yX9_productOf, Cond.instanceMethod yX9_productOf, Cond.selects RX9 yX9_productOf yX9_productOf, Cond.code yX9_productOf cX9_productOf 8 (some .long), Cond.methodLink RX9 182 yX9_treesOf, Cond.instanceMethod yX9_treesOf, Cond.selects RX9 yX9_treesOf yX9_treesOf, Cond.code yX9_treesOf cX9_treesOf 4 (some .long), Cond.methodLink RX9 188 yX9_buildNode, Cond.instanceMethod yX9_buildNode, Cond.selects RX9 yX9_buildNode yX9_buildNode, Cond.code yX9_buildNode cX9_buildNode 12 none, Cond.methodLink RL 198 yL_takeTree, Cond.static yL_takeTree, Cond.codeWith yL_takeTree cL_takeTree 5 (some .int) [(0, 9, 12, 57)], Cond.classLink RL 57 "java/util/NoSuchElementException", Cond.methodLink RL 77 yX8_takeTree, Cond.instanceMethod yX8_takeTree, Cond.selects RX8 yX8_takeTree yX8_takeTree, Cond.code yX8_takeTree cX8_takeTree 3 (some .int), Cond.methodLink RL 201 yX9_takeTree, Cond.instanceMethod yX9_takeTree, Cond.selects RX9 yX9_takeTree yX9_takeTree, Cond.code yX9_takeTree cX9_takeTree 5 (some .int), Cond.methodLink RL 202 yL_treeNumber, Cond.static yL_treeNumber, Cond.codeWith yL_treeNumber cL_treeNumber 3 (some .int) [(0, 7, 10, 19)], Cond.methodLink RL 81 yX8_treeNumber, Cond.instanceMethod yX8_treeNumber]
def WS_20 : List Cond := [Cond.selects RX8 yX8_treeNumber yX8_treeNumber, Cond.code yX8_treeNumber cX8_treeNumber 1 (some .long), Cond.methodLink RX8 259 yX8_checkTree, Cond.instanceMethod yX8_checkTree, Cond.selects RX8 yX8_checkTree yX8_checkTree, Cond.code yX8_checkTree cX8_checkTree 1 none, Cond.methodLink RL 204 yX9_treeNumber, Cond.instanceMethod yX9_treeNumber, Cond.selects RX9 yX9_treeNumber yX9_treeNumber, Cond.code yX9_treeNumber cX9_treeNumber 1 (some .long), Cond.fieldLink RX9 196 "GrammarAmbiguityModel" "at" "I", Cond.methodLink RX9 206 yX9_numberOf, Cond.instanceMethod yX9_numberOf, Cond.selects RX9 yX9_numberOf yX9_numberOf, Cond.code yX9_numberOf cX9_numberOf 15 (some .long), Cond.methodLink RX9 199 yX9_sizeOfPart, Cond.instanceMethod yX9_sizeOfPart, Cond.selects RX9 yX9_sizeOfPart yX9_sizeOfPart, Cond.code yX9_sizeOfPart cX9_sizeOfPart 4 (some .int), Cond.methodLink RX9 203 yX9_skip, Cond.instanceMethod yX9_skip, Cond.selects RX9 yX9_skip yX9_skip, Cond.code yX9_skip cX9_skip 5 (some .int), Cond.methodLink RL 205 yL_treeSize, Cond.static yL_treeSize, Cond.codeWith yL_treeSize cL_treeSize 3 (some .int) [(0, 8, 11, 19)], Cond.methodLink RL 85 yX8_treeSize, Cond.instanceMethod yX8_treeSize, Cond.selects RX8 yX8_treeSize yX8_treeSize, Cond.code yX8_treeSize cX8_treeSize 1 (some .int), Cond.methodLink RL 207 yX9_treeSize, Cond.instanceMethod yX9_treeSize, Cond.selects RX9 yX9_treeSize yX9_treeSize, Cond.code yX9_treeSize cX9_treeSize 1 (some .int), Cond.methodLink RL 208 yL_treeNode, Cond.static yL_treeNode, Cond.codeWith yL_treeNode cL_treeNode 5 (some .int) [(0, 10, 13, 19), (0, 10, 17, 29), (0, 10, 21, 13)], Cond.methodLink RL 88 yX8_treeNode, Cond.instanceMethod yX8_treeNode, Cond.selects RX8 yX8_treeNode yX8_treeNode]
def WS_21 : List Cond := [Cond.code yX8_treeNode cX8_treeNode 3 (some .int), Cond.methodLink RL 210 yX9_treeNode, Cond.instanceMethod yX9_treeNode, Cond.selects RX9 yX9_treeNode yX9_treeNode, Cond.code yX9_treeNode cX9_treeNode 3 (some .int), Cond.methodLink RL 211 yL_allocate, Cond.static yL_allocate, Cond.codeWith yL_allocate cL_allocate 5 (some .int) [(0, 7, 10, 13)], Cond.methodLink RL 91 yX8_allocate, Cond.instanceMethod yX8_allocate, Cond.selects RX8 yX8_allocate yX8_allocate, Cond.code yX8_allocate cX8_allocate 4 none, Cond.methodLink RX8 274 yX8_checkSlot, Cond.static yX8_checkSlot, Cond.code yX8_checkSlot cX8_checkSlot 1 none, Cond.instanceMethod yX3_begin, Cond.selects RX3 yX3_begin yX3_begin, Cond.code yX3_begin cX3_begin 5 none, Cond.methodLink RL 214 yX9_allocate, Cond.instanceMethod yX9_allocate, Cond.selects RX9 yX9_allocate yX9_allocate, Cond.code yX9_allocate cX9_allocate 5 none, Cond.methodLink RX9 209 yX9_isSlot, Cond.static yX9_isSlot, Cond.code yX9_isSlot cX9_isSlot 1 (some .boolean), Cond.methodLink RL 215 yL_setElement, Cond.static yL_setElement, Cond.codeWith yL_setElement cL_setElement 6 (some .int) [(0, 12, 15, 13), (0, 12, 19, 19), (0, 12, 23, 29)], Cond.methodLink RL 95 yX8_setElement, Cond.instanceMethod yX8_setElement, Cond.selects RX8 yX8_setElement yX8_setElement, Cond.code yX8_setElement cX8_setElement 5 (some .int), Cond.methodLink RX8 282 yX8_checkArray, Cond.instanceMethod yX8_checkArray, Cond.selects RX8 yX8_checkArray yX8_checkArray, Cond.code yX8_checkArray cX8_checkArray 2 none, Cond.instanceMethod yX3_isHeld, Cond.selects RX3 yX3_isHeld yX3_isHeld, Cond.code yX3_isHeld cX3_isHeld 2 (some .boolean), Cond.methodLink RX8 285 yX8_checkIndexes]
def WS_22 : List Cond := [Cond.instanceMethod yX8_checkIndexes, Cond.selects RX8 yX8_checkIndexes yX8_checkIndexes, Cond.code yX8_checkIndexes cX8_checkIndexes 4 none, Cond.instanceMethod yX3_length, Cond.selects RX3 yX3_length yX3_length, Cond.code yX3_length cX3_length 2 (some .int), Cond.methodLink RX3 25 yX3_isHeld, Cond.instanceMethod yX3_element, Cond.selects RX3 yX3_element yX3_element, Cond.code yX3_element cX3_element 3 (some .int), Cond.methodLink RX3 29 yX3_isElement, Cond.instanceMethod yX3_isElement, Cond.selects RX3 yX3_isElement yX3_isElement, Cond.code yX3_isElement cX3_isElement 3 (some .boolean), Cond.instanceMethod yX3_put, Cond.selects RX3 yX3_put yX3_put, Cond.code yX3_put cX3_put 4 none, Cond.methodLink RL 218 yX9_setElement, Cond.instanceMethod yX9_setElement, Cond.selects RX9 yX9_setElement yX9_setElement, Cond.code yX9_setElement cX9_setElement 5 (some .int), Cond.methodLink RX9 212 yX9_narrowed, Cond.instanceMethod yX9_narrowed, Cond.selects RX9 yX9_narrowed yX9_narrowed, Cond.code yX9_narrowed cX9_narrowed 3 (some .int), Cond.methodLink RL 219 yL_storeCounts, Cond.static yL_storeCounts, Cond.codeWith yL_storeCounts cL_storeCounts 4 (some .int) [(0, 6, 9, 13), (0, 6, 12, 19), (0, 6, 15, 29)], Cond.methodLink RL 99 yX8_storeCounts, Cond.instanceMethod yX8_storeCounts, Cond.selects RX8 yX8_storeCounts yX8_storeCounts, Cond.code yX8_storeCounts cX8_storeCounts 4 none, Cond.methodLink RL 221 yX9_storeCounts, Cond.instanceMethod yX9_storeCounts, Cond.selects RX9 yX9_storeCounts yX9_storeCounts, Cond.code yX9_storeCounts cX9_storeCounts 4 none, Cond.methodLink RL 222 yL_loadWord, Cond.static yL_loadWord, Cond.codeWith yL_loadWord cL_loadWord 5 (some .int) [(0, 7, 10, 13), (0, 7, 14, 19), (0, 7, 18, 29), (0, 7, 22, 57)], Cond.methodLink RL 102 yX8_loadWord]
def WS_23 : List Cond := [Cond.instanceMethod yX8_loadWord, Cond.selects RX8 yX8_loadWord yX8_loadWord, Cond.code yX8_loadWord cX8_loadWord 5 none, Cond.methodLink RL 225 yX9_loadWord, Cond.instanceMethod yX9_loadWord, Cond.selects RX9 yX9_loadWord yX9_loadWord, Cond.code yX9_loadWord cX9_loadWord 6 none, Cond.methodLink RX9 215 yX9_areTerminals, Cond.instanceMethod yX9_areTerminals, Cond.selects RX9 yX9_areTerminals yX9_areTerminals, Cond.code yX9_areTerminals cX9_areTerminals 5 (some .boolean), Cond.methodLink RL 226 yX8_snapshot, Cond.instanceMethod yX8_snapshot, Cond.selects RX8 yX8_snapshot yX8_snapshot, Cond.code yX8_snapshot cX8_snapshot 1 none, Cond.instanceMethod yX1_copy, Cond.selects RX1 yX1_copy yX1_copy, Cond.code yX1_copy cX1_copy 3 none, Cond.instanceMethod yX6_copy, Cond.selects RX6 yX6_copy yX6_copy, Cond.code yX6_copy cX6_copy 3 none, Cond.methodLink RL 229 yX9_snapshot, Cond.instanceMethod yX9_snapshot, Cond.selects RX9 yX9_snapshot yX9_snapshot, Cond.code yX9_snapshot cX9_snapshot 2 none, Cond.fieldLink RX9 218 "GrammarAmbiguityModel" "isSaved" "Z", Cond.fieldLink RX9 221 "GrammarAmbiguityModel" "savedNonterminals" "I", Cond.fieldLink RX9 224 "GrammarAmbiguityModel" "savedTerminals" "I", Cond.fieldLink RX9 227 "GrammarAmbiguityModel" "savedStart" "I", Cond.fieldLink RX9 230 "GrammarAmbiguityModel" "savedProductions" "I", Cond.fieldLink RX9 233 "GrammarAmbiguityModel" "savedLength" "I", Cond.methodLink RX9 236 yX9_copyTable, Cond.static yX9_copyTable, Cond.code yX9_copyTable cX9_copyTable 4 none, Cond.methodLink RL 230 yL_restore, Cond.static yL_restore, Cond.codeWith yL_restore cL_restore 2 (some .int) [(0, 4, 7, 19)], Cond.methodLink RL 106 yX8_restore, Cond.instanceMethod yX8_restore, Cond.selects RX8 yX8_restore yX8_restore]
def WS_24 : List Cond := [Cond.code yX8_restore cX8_restore 1 none, Cond.methodLink RL 233 yX9_restore, Cond.instanceMethod yX9_restore, Cond.selects RX9 yX9_restore yX9_restore, Cond.code yX9_restore cX9_restore 2 none]
def WS_25 : List Cond := wsX10 ++ (wsX20 ++ (wsX30 ++ (wsX40 ++ (wsX50 ++ (wsX60 ++ (wsX70 ++ (wsX80 ++ (wsX90))))))))
/-- the words of the tables that the methods use, in one list -/
def WS : List Cond := WS_0 ++ (WS_1 ++ (WS_2 ++ (WS_3 ++ (WS_4 ++ (WS_5 ++ (WS_6 ++ (WS_7 ++ (WS_8 ++ (WS_9 ++ (WS_10 ++ (WS_11 ++ (WS_12 ++ (WS_13 ++ (WS_14 ++ (WS_15 ++ (WS_16 ++ (WS_17 ++ (WS_18 ++ (WS_19 ++ (WS_20 ++ (WS_21 ++ (WS_22 ++ (WS_23 ++ (WS_24 ++ (WS_25)))))))))))))))))))))))))
theorem inWS_0 : ∀ w ∈ WS_0, w ∈ WS := fun w h => List.mem_append_left _ h
theorem inWS_1 : ∀ w ∈ WS_1, w ∈ WS := fun w h => List.mem_append_right _ (List.mem_append_left _ h)
theorem inWS_2 : ∀ w ∈ WS_2, w ∈ WS := fun w h => List.mem_append_right _ (List.mem_append_right _ (List.mem_append_left _ h))
theorem inWS_3 : ∀ w ∈ WS_3, w ∈ WS := fun w h => List.mem_append_right _ (List.mem_append_right _ (List.mem_append_right _ (List.mem_append_left _ h)))
theorem inWS_4 : ∀ w ∈ WS_4, w ∈ WS := fun w h => List.mem_append_right _ (List.mem_append_right _ (List.mem_append_right _ (List.mem_append_right _ (List.mem_append_left _ h))))
theorem inWS_5 : ∀ w ∈ WS_5, w ∈ WS := fun w h => List.mem_append_right _ (List.mem_append_right _ (List.mem_append_right _ (List.mem_append_right _ (List.mem_append_right _ (List.mem_append_left _ h)))))
theorem inWS_6 : ∀ w ∈ WS_6, w ∈ WS := fun w h => List.mem_append_right _ (List.mem_append_right _ (List.mem_append_right _ (List.mem_append_right _ (List.mem_append_right _ (List.mem_append_right _ (List.mem_append_left _ h))))))
theorem inWS_7 : ∀ w ∈ WS_7, w ∈ WS := fun w h => List.mem_append_right _ (List.mem_append_right _ (List.mem_append_right _ (List.mem_append_right _ (List.mem_append_right _ (List.mem_append_right _ (List.mem_append_right _ (List.mem_append_left _ h)))))))
theorem inWS_8 : ∀ w ∈ WS_8, w ∈ WS := fun w h => List.mem_append_right _ (List.mem_append_right _ (List.mem_append_right _ (List.mem_append_right _ (List.mem_append_right _ (List.mem_append_right _ (List.mem_append_right _ (List.mem_append_right _ (List.mem_append_left _ h))))))))
theorem inWS_9 : ∀ w ∈ WS_9, w ∈ WS := fun w h => List.mem_append_right _ (List.mem_append_right _ (List.mem_append_right _ (List.mem_append_right _ (List.mem_append_right _ (List.mem_append_right _ (List.mem_append_right _ (List.mem_append_right _ (List.mem_append_right _ (List.mem_append_left _ h)))))))))
theorem inWS_10 : ∀ w ∈ WS_10, w ∈ WS := fun w h => List.mem_append_right _ (List.mem_append_right _ (List.mem_append_right _ (List.mem_append_right _ (List.mem_append_right _ (List.mem_append_right _ (List.mem_append_right _ (List.mem_append_right _ (List.mem_append_right _ (List.mem_append_right _ (List.mem_append_left _ h))))))))))
theorem inWS_11 : ∀ w ∈ WS_11, w ∈ WS := fun w h => List.mem_append_right _ (List.mem_append_right _ (List.mem_append_right _ (List.mem_append_right _ (List.mem_append_right _ (List.mem_append_right _ (List.mem_append_right _ (List.mem_append_right _ (List.mem_append_right _ (List.mem_append_right _ (List.mem_append_right _ (List.mem_append_left _ h)))))))))))
theorem inWS_12 : ∀ w ∈ WS_12, w ∈ WS := fun w h => List.mem_append_right _ (List.mem_append_right _ (List.mem_append_right _ (List.mem_append_right _ (List.mem_append_right _ (List.mem_append_right _ (List.mem_append_right _ (List.mem_append_right _ (List.mem_append_right _ (List.mem_append_right _ (List.mem_append_right _ (List.mem_append_right _ (List.mem_append_left _ h))))))))))))
theorem inWS_13 : ∀ w ∈ WS_13, w ∈ WS := fun w h => List.mem_append_right _ (List.mem_append_right _ (List.mem_append_right _ (List.mem_append_right _ (List.mem_append_right _ (List.mem_append_right _ (List.mem_append_right _ (List.mem_append_right _ (List.mem_append_right _ (List.mem_append_right _ (List.mem_append_right _ (List.mem_append_right _ (List.mem_append_right _ (List.mem_append_left _ h)))))))))))))
theorem inWS_14 : ∀ w ∈ WS_14, w ∈ WS := fun w h => List.mem_append_right _ (List.mem_append_right _ (List.mem_append_right _ (List.mem_append_right _ (List.mem_append_right _ (List.mem_append_right _ (List.mem_append_right _ (List.mem_append_right _ (List.mem_append_right _ (List.mem_append_right _ (List.mem_append_right _ (List.mem_append_right _ (List.mem_append_right _ (List.mem_append_right _ (List.mem_append_left _ h))))))))))))))
theorem inWS_15 : ∀ w ∈ WS_15, w ∈ WS := fun w h => List.mem_append_right _ (List.mem_append_right _ (List.mem_append_right _ (List.mem_append_right _ (List.mem_append_right _ (List.mem_append_right _ (List.mem_append_right _ (List.mem_append_right _ (List.mem_append_right _ (List.mem_append_right _ (List.mem_append_right _ (List.mem_append_right _ (List.mem_append_right _ (List.mem_append_right _ (List.mem_append_right _ (List.mem_append_left _ h)))))))))))))))
theorem inWS_16 : ∀ w ∈ WS_16, w ∈ WS := fun w h => List.mem_append_right _ (List.mem_append_right _ (List.mem_append_right _ (List.mem_append_right _ (List.mem_append_right _ (List.mem_append_right _ (List.mem_append_right _ (List.mem_append_right _ (List.mem_append_right _ (List.mem_append_right _ (List.mem_append_right _ (List.mem_append_right _ (List.mem_append_right _ (List.mem_append_right _ (List.mem_append_right _ (List.mem_append_right _ (List.mem_append_left _ h))))))))))))))))
theorem inWS_17 : ∀ w ∈ WS_17, w ∈ WS := fun w h => List.mem_append_right _ (List.mem_append_right _ (List.mem_append_right _ (List.mem_append_right _ (List.mem_append_right _ (List.mem_append_right _ (List.mem_append_right _ (List.mem_append_right _ (List.mem_append_right _ (List.mem_append_right _ (List.mem_append_right _ (List.mem_append_right _ (List.mem_append_right _ (List.mem_append_right _ (List.mem_append_right _ (List.mem_append_right _ (List.mem_append_right _ (List.mem_append_left _ h)))))))))))))))))
theorem inWS_18 : ∀ w ∈ WS_18, w ∈ WS := fun w h => List.mem_append_right _ (List.mem_append_right _ (List.mem_append_right _ (List.mem_append_right _ (List.mem_append_right _ (List.mem_append_right _ (List.mem_append_right _ (List.mem_append_right _ (List.mem_append_right _ (List.mem_append_right _ (List.mem_append_right _ (List.mem_append_right _ (List.mem_append_right _ (List.mem_append_right _ (List.mem_append_right _ (List.mem_append_right _ (List.mem_append_right _ (List.mem_append_right _ (List.mem_append_left _ h))))))))))))))))))
theorem inWS_19 : ∀ w ∈ WS_19, w ∈ WS := fun w h => List.mem_append_right _ (List.mem_append_right _ (List.mem_append_right _ (List.mem_append_right _ (List.mem_append_right _ (List.mem_append_right _ (List.mem_append_right _ (List.mem_append_right _ (List.mem_append_right _ (List.mem_append_right _ (List.mem_append_right _ (List.mem_append_right _ (List.mem_append_right _ (List.mem_append_right _ (List.mem_append_right _ (List.mem_append_right _ (List.mem_append_right _ (List.mem_append_right _ (List.mem_append_right _ (List.mem_append_left _ h)))))))))))))))))))
theorem inWS_20 : ∀ w ∈ WS_20, w ∈ WS := fun w h => List.mem_append_right _ (List.mem_append_right _ (List.mem_append_right _ (List.mem_append_right _ (List.mem_append_right _ (List.mem_append_right _ (List.mem_append_right _ (List.mem_append_right _ (List.mem_append_right _ (List.mem_append_right _ (List.mem_append_right _ (List.mem_append_right _ (List.mem_append_right _ (List.mem_append_right _ (List.mem_append_right _ (List.mem_append_right _ (List.mem_append_right _ (List.mem_append_right _ (List.mem_append_right _ (List.mem_append_right _ (List.mem_append_left _ h))))))))))))))))))))
theorem inWS_21 : ∀ w ∈ WS_21, w ∈ WS := fun w h => List.mem_append_right _ (List.mem_append_right _ (List.mem_append_right _ (List.mem_append_right _ (List.mem_append_right _ (List.mem_append_right _ (List.mem_append_right _ (List.mem_append_right _ (List.mem_append_right _ (List.mem_append_right _ (List.mem_append_right _ (List.mem_append_right _ (List.mem_append_right _ (List.mem_append_right _ (List.mem_append_right _ (List.mem_append_right _ (List.mem_append_right _ (List.mem_append_right _ (List.mem_append_right _ (List.mem_append_right _ (List.mem_append_right _ (List.mem_append_left _ h)))))))))))))))))))))
theorem inWS_22 : ∀ w ∈ WS_22, w ∈ WS := fun w h => List.mem_append_right _ (List.mem_append_right _ (List.mem_append_right _ (List.mem_append_right _ (List.mem_append_right _ (List.mem_append_right _ (List.mem_append_right _ (List.mem_append_right _ (List.mem_append_right _ (List.mem_append_right _ (List.mem_append_right _ (List.mem_append_right _ (List.mem_append_right _ (List.mem_append_right _ (List.mem_append_right _ (List.mem_append_right _ (List.mem_append_right _ (List.mem_append_right _ (List.mem_append_right _ (List.mem_append_right _ (List.mem_append_right _ (List.mem_append_right _ (List.mem_append_left _ h))))))))))))))))))))))
theorem inWS_23 : ∀ w ∈ WS_23, w ∈ WS := fun w h => List.mem_append_right _ (List.mem_append_right _ (List.mem_append_right _ (List.mem_append_right _ (List.mem_append_right _ (List.mem_append_right _ (List.mem_append_right _ (List.mem_append_right _ (List.mem_append_right _ (List.mem_append_right _ (List.mem_append_right _ (List.mem_append_right _ (List.mem_append_right _ (List.mem_append_right _ (List.mem_append_right _ (List.mem_append_right _ (List.mem_append_right _ (List.mem_append_right _ (List.mem_append_right _ (List.mem_append_right _ (List.mem_append_right _ (List.mem_append_right _ (List.mem_append_right _ (List.mem_append_left _ h)))))))))))))))))))))))
theorem inWS_24 : ∀ w ∈ WS_24, w ∈ WS := fun w h => List.mem_append_right _ (List.mem_append_right _ (List.mem_append_right _ (List.mem_append_right _ (List.mem_append_right _ (List.mem_append_right _ (List.mem_append_right _ (List.mem_append_right _ (List.mem_append_right _ (List.mem_append_right _ (List.mem_append_right _ (List.mem_append_right _ (List.mem_append_right _ (List.mem_append_right _ (List.mem_append_right _ (List.mem_append_right _ (List.mem_append_right _ (List.mem_append_right _ (List.mem_append_right _ (List.mem_append_right _ (List.mem_append_right _ (List.mem_append_right _ (List.mem_append_right _ (List.mem_append_right _ (List.mem_append_left _ h))))))))))))))))))))))))
theorem inWS_25 : ∀ w ∈ WS_25, w ∈ WS := fun w h => List.mem_append_right _ (List.mem_append_right _ (List.mem_append_right _ (List.mem_append_right _ (List.mem_append_right _ (List.mem_append_right _ (List.mem_append_right _ (List.mem_append_right _ (List.mem_append_right _ (List.mem_append_right _ (List.mem_append_right _ (List.mem_append_right _ (List.mem_append_right _ (List.mem_append_right _ (List.mem_append_right _ (List.mem_append_right _ (List.mem_append_right _ (List.mem_append_right _ (List.mem_append_right _ (List.mem_append_right _ (List.mem_append_right _ (List.mem_append_right _ (List.mem_append_right _ (List.mem_append_right _ (List.mem_append_right _ (h)))))))))))))))))))))))))
theorem goodWS_0 : WS_0.all goodWord = true := by decide +kernel
theorem goodWS_1 : WS_1.all goodWord = true := by decide +kernel
theorem goodWS_2 : WS_2.all goodWord = true := by decide +kernel
theorem goodWS_3 : WS_3.all goodWord = true := by decide +kernel
theorem goodWS_4 : WS_4.all goodWord = true := by decide +kernel
theorem goodWS_5 : WS_5.all goodWord = true := by decide +kernel
theorem goodWS_6 : WS_6.all goodWord = true := by decide +kernel
theorem goodWS_7 : WS_7.all goodWord = true := by decide +kernel
theorem goodWS_8 : WS_8.all goodWord = true := by decide +kernel
theorem goodWS_9 : WS_9.all goodWord = true := by decide +kernel
theorem goodWS_10 : WS_10.all goodWord = true := by decide +kernel
theorem goodWS_11 : WS_11.all goodWord = true := by decide +kernel
theorem goodWS_12 : WS_12.all goodWord = true := by decide +kernel
theorem goodWS_13 : WS_13.all goodWord = true := by decide +kernel
theorem goodWS_14 : WS_14.all goodWord = true := by decide +kernel
theorem goodWS_15 : WS_15.all goodWord = true := by decide +kernel
theorem goodWS_16 : WS_16.all goodWord = true := by decide +kernel
theorem goodWS_17 : WS_17.all goodWord = true := by decide +kernel
theorem goodWS_18 : WS_18.all goodWord = true := by decide +kernel
theorem goodWS_19 : WS_19.all goodWord = true := by decide +kernel
theorem goodWS_20 : WS_20.all goodWord = true := by decide +kernel
theorem goodWS_21 : WS_21.all goodWord = true := by decide +kernel
theorem goodWS_22 : WS_22.all goodWord = true := by decide +kernel
theorem goodWS_23 : WS_23.all goodWord = true := by decide +kernel
theorem goodWS_24 : WS_24.all goodWord = true := by decide +kernel
theorem goodWS_25 : WS_25.all goodWord = true := by decide +kernel
theorem goodWS : ∀ w ∈ WS, goodWord w = true := by
  intro w h
  simp only [WS, List.mem_append] at h
  rcases h with h | h | h | h | h | h | h | h | h | h | h | h | h | h | h | h | h | h | h | h | h | h | h | h | h | h
  · exact List.all_eq_true.mp goodWS_0 w h
  · exact List.all_eq_true.mp goodWS_1 w h
  · exact List.all_eq_true.mp goodWS_2 w h
  · exact List.all_eq_true.mp goodWS_3 w h
  · exact List.all_eq_true.mp goodWS_4 w h
  · exact List.all_eq_true.mp goodWS_5 w h
  · exact List.all_eq_true.mp goodWS_6 w h
  · exact List.all_eq_true.mp goodWS_7 w h
  · exact List.all_eq_true.mp goodWS_8 w h
  · exact List.all_eq_true.mp goodWS_9 w h
  · exact List.all_eq_true.mp goodWS_10 w h
  · exact List.all_eq_true.mp goodWS_11 w h
  · exact List.all_eq_true.mp goodWS_12 w h
  · exact List.all_eq_true.mp goodWS_13 w h
  · exact List.all_eq_true.mp goodWS_14 w h
  · exact List.all_eq_true.mp goodWS_15 w h
  · exact List.all_eq_true.mp goodWS_16 w h
  · exact List.all_eq_true.mp goodWS_17 w h
  · exact List.all_eq_true.mp goodWS_18 w h
  · exact List.all_eq_true.mp goodWS_19 w h
  · exact List.all_eq_true.mp goodWS_20 w h
  · exact List.all_eq_true.mp goodWS_21 w h
  · exact List.all_eq_true.mp goodWS_22 w h
  · exact List.all_eq_true.mp goodWS_23 w h
  · exact List.all_eq_true.mp goodWS_24 w h
  · exact List.all_eq_true.mp goodWS_25 w h
theorem q_0 : Cond.classLink RL 8 RX8 ∈ WS := inWS_0 _ (List.mem_of_getElem? (i := 0) (by decide +kernel))
theorem q_1 : Cond.instantiable RX8 10 ∈ WS := inWS_0 _ (List.mem_of_getElem? (i := 1) (by decide +kernel))
theorem q_2 : Cond.initialized RX8 ∈ WS := inWS_0 _ (List.mem_of_getElem? (i := 2) (by decide +kernel))
theorem q_3 : Cond.classLink RL 110 RX9 ∈ WS := inWS_0 _ (List.mem_of_getElem? (i := 3) (by decide +kernel))
theorem q_4 : Cond.instantiable RX9 30 ∈ WS := inWS_0 _ (List.mem_of_getElem? (i := 4) (by decide +kernel))
theorem q_5 : Cond.initialized RX9 ∈ WS := inWS_0 _ (List.mem_of_getElem? (i := 5) (by decide +kernel))
theorem q_6 : Cond.arrayClass .long ∈ WS := inWS_0 _ (List.mem_of_getElem? (i := 6) (by decide +kernel))
theorem q_7 : Cond.arrayClass .double ∈ WS := inWS_0 _ (List.mem_of_getElem? (i := 7) (by decide +kernel))
theorem q_8 : Cond.constantLong RL 189 (4294967295) ∈ WS := inWS_0 _ (List.mem_of_getElem? (i := 8) (by decide +kernel))
theorem q_9 : Cond.methodLink RL 109 yX8_init ∈ WS := inWS_0 _ (List.mem_of_getElem? (i := 9) (by decide +kernel))
theorem q_10 : Cond.instanceMethod yX8_init ∈ WS := inWS_0 _ (List.mem_of_getElem? (i := 10) (by decide +kernel))
theorem q_11 : Cond.code yX8_init cX8_init 1 none ∈ WS := inWS_0 _ (List.mem_of_getElem? (i := 11) (by decide +kernel))
theorem q_12 : Cond.methodLink RX8 3 objectInit ∈ WS := inWS_0 _ (List.mem_of_getElem? (i := 12) (by decide +kernel))
theorem q_13 : Cond.instanceMethod objectInit ∈ WS := inWS_0 _ (List.mem_of_getElem? (i := 13) (by decide +kernel))
theorem q_14 : Cond.code objectInit ⟨#[0xb1]⟩ 1 none ∈ WS := inWS_0 _ (List.mem_of_getElem? (i := 14) (by decide +kernel))
theorem q_15 : Cond.classLink RX8 9 RX1 ∈ WS := inWS_0 _ (List.mem_of_getElem? (i := 15) (by decide +kernel))
theorem q_16 : Cond.instantiable RX1 7 ∈ WS := inWS_0 _ (List.mem_of_getElem? (i := 16) (by decide +kernel))
theorem q_17 : Cond.initialized RX1 ∈ WS := inWS_0 _ (List.mem_of_getElem? (i := 17) (by decide +kernel))
theorem q_18 : Cond.fieldLink RX8 12 "GrammarAmbiguity" "grammar" "LGrammarAmbiguity$Grammar;" ∈ WS := inWS_0 _ (List.mem_of_getElem? (i := 18) (by decide +kernel))
theorem q_19 : Cond.classLink RX8 16 RX6 ∈ WS := inWS_0 _ (List.mem_of_getElem? (i := 19) (by decide +kernel))
theorem q_20 : Cond.instantiable RX6 2 ∈ WS := inWS_0 _ (List.mem_of_getElem? (i := 20) (by decide +kernel))
theorem q_21 : Cond.initialized RX6 ∈ WS := inWS_0 _ (List.mem_of_getElem? (i := 21) (by decide +kernel))
theorem q_22 : Cond.fieldLink RX8 19 "GrammarAmbiguity" "word" "LGrammarAmbiguity$Word;" ∈ WS := inWS_0 _ (List.mem_of_getElem? (i := 22) (by decide +kernel))
theorem q_23 : Cond.fieldLink RX8 23 "GrammarAmbiguity" "savedGrammar" "LGrammarAmbiguity$Grammar;" ∈ WS := inWS_0 _ (List.mem_of_getElem? (i := 23) (by decide +kernel))
theorem q_24 : Cond.fieldLink RX8 26 "GrammarAmbiguity" "savedWord" "LGrammarAmbiguity$Word;" ∈ WS := inWS_0 _ (List.mem_of_getElem? (i := 24) (by decide +kernel))
theorem q_25 : Cond.classLink RX8 29 RX2 ∈ WS := inWS_0 _ (List.mem_of_getElem? (i := 25) (by decide +kernel))
theorem q_26 : Cond.instantiable RX2 3 ∈ WS := inWS_0 _ (List.mem_of_getElem? (i := 26) (by decide +kernel))
theorem q_27 : Cond.initialized RX2 ∈ WS := inWS_0 _ (List.mem_of_getElem? (i := 27) (by decide +kernel))
theorem q_28 : Cond.fieldLink RX8 34 "GrammarAmbiguity" "lengths" "LGrammarAmbiguity$LengthCounts;" ∈ WS := inWS_0 _ (List.mem_of_getElem? (i := 28) (by decide +kernel))
theorem q_29 : Cond.classLink RX8 38 RX4 ∈ WS := inWS_0 _ (List.mem_of_getElem? (i := 29) (by decide +kernel))
theorem q_30 : Cond.instantiable RX4 4 ∈ WS := inWS_0 _ (List.mem_of_getElem? (i := 30) (by decide +kernel))
theorem q_31 : Cond.initialized RX4 ∈ WS := inWS_0 _ (List.mem_of_getElem? (i := 31) (by decide +kernel))
theorem q_32 : Cond.fieldLink RX8 43 "GrammarAmbiguity" "spans" "LGrammarAmbiguity$SpanCounts;" ∈ WS := inWS_0 _ (List.mem_of_getElem? (i := 32) (by decide +kernel))
theorem q_33 : Cond.classLink RX8 47 RX7 ∈ WS := inWS_0 _ (List.mem_of_getElem? (i := 33) (by decide +kernel))
theorem q_34 : Cond.instantiable RX7 4 ∈ WS := inWS_0 _ (List.mem_of_getElem? (i := 34) (by decide +kernel))
theorem q_35 : Cond.initialized RX7 ∈ WS := inWS_0 _ (List.mem_of_getElem? (i := 35) (by decide +kernel))
theorem q_36 : Cond.fieldLink RX8 52 "GrammarAmbiguity" "words" "LGrammarAmbiguity$WordCounts;" ∈ WS := inWS_0 _ (List.mem_of_getElem? (i := 36) (by decide +kernel))
theorem q_37 : Cond.classLink RX8 56 RX5 ∈ WS := inWS_0 _ (List.mem_of_getElem? (i := 37) (by decide +kernel))
theorem q_38 : Cond.instantiable RX5 11 ∈ WS := inWS_0 _ (List.mem_of_getElem? (i := 38) (by decide +kernel))
theorem q_39 : Cond.initialized RX5 ∈ WS := inWS_0 _ (List.mem_of_getElem? (i := 39) (by decide +kernel))
theorem q_40 : Cond.fieldLink RX8 59 "GrammarAmbiguity" "tree" "LGrammarAmbiguity$Tree;" ∈ WS := inWS_1 _ (List.mem_of_getElem? (i := 0) (by decide +kernel))
theorem q_41 : Cond.classLink RX8 63 RX3 ∈ WS := inWS_1 _ (List.mem_of_getElem? (i := 1) (by decide +kernel))
theorem q_42 : Cond.instantiable RX3 4 ∈ WS := inWS_1 _ (List.mem_of_getElem? (i := 2) (by decide +kernel))
theorem q_43 : Cond.initialized RX3 ∈ WS := inWS_1 _ (List.mem_of_getElem? (i := 3) (by decide +kernel))
theorem q_44 : Cond.fieldLink RX8 66 "GrammarAmbiguity" "slots" "LGrammarAmbiguity$Slots;" ∈ WS := inWS_1 _ (List.mem_of_getElem? (i := 4) (by decide +kernel))
theorem q_45 : Cond.fieldLink RX8 70 "GrammarAmbiguity" "saved" "Z" ∈ WS := inWS_1 _ (List.mem_of_getElem? (i := 5) (by decide +kernel))
theorem q_46 : Cond.instanceMethod yX1_init ∈ WS := inWS_1 _ (List.mem_of_getElem? (i := 6) (by decide +kernel))
theorem q_47 : Cond.code yX1_init cX1_init 1 none ∈ WS := inWS_1 _ (List.mem_of_getElem? (i := 7) (by decide +kernel))
theorem q_48 : Cond.methodLink RX1 3 objectInit ∈ WS := inWS_1 _ (List.mem_of_getElem? (i := 8) (by decide +kernel))
theorem q_49 : Cond.fieldLink RX1 9 "GrammarAmbiguity$Grammar" "nonterminals" "I" ∈ WS := inWS_1 _ (List.mem_of_getElem? (i := 9) (by decide +kernel))
theorem q_50 : Cond.fieldLink RX1 15 "GrammarAmbiguity$Grammar" "terminals" "I" ∈ WS := inWS_1 _ (List.mem_of_getElem? (i := 10) (by decide +kernel))
theorem q_51 : Cond.fieldLink RX1 18 "GrammarAmbiguity$Grammar" "start" "I" ∈ WS := inWS_1 _ (List.mem_of_getElem? (i := 11) (by decide +kernel))
theorem q_52 : Cond.fieldLink RX1 21 "GrammarAmbiguity$Grammar" "productions" "I" ∈ WS := inWS_1 _ (List.mem_of_getElem? (i := 12) (by decide +kernel))
theorem q_53 : Cond.arrayClass .int ∈ WS := inWS_1 _ (List.mem_of_getElem? (i := 13) (by decide +kernel))
theorem q_54 : Cond.fieldLink RX1 24 "GrammarAmbiguity$Grammar" "symbols" "[I" ∈ WS := inWS_1 _ (List.mem_of_getElem? (i := 14) (by decide +kernel))
theorem q_55 : Cond.fieldLink RX1 28 "GrammarAmbiguity$Grammar" "shortest" "[I" ∈ WS := inWS_1 _ (List.mem_of_getElem? (i := 15) (by decide +kernel))
theorem q_56 : Cond.arrayClass .boolean ∈ WS := inWS_1 _ (List.mem_of_getElem? (i := 16) (by decide +kernel))
theorem q_57 : Cond.fieldLink RX1 31 "GrammarAmbiguity$Grammar" "reached" "[Z" ∈ WS := inWS_1 _ (List.mem_of_getElem? (i := 17) (by decide +kernel))
theorem q_58 : Cond.instanceMethod yX6_init ∈ WS := inWS_1 _ (List.mem_of_getElem? (i := 18) (by decide +kernel))
theorem q_59 : Cond.code yX6_init cX6_init 1 none ∈ WS := inWS_1 _ (List.mem_of_getElem? (i := 19) (by decide +kernel))
theorem q_60 : Cond.methodLink RX6 3 objectInit ∈ WS := inWS_1 _ (List.mem_of_getElem? (i := 20) (by decide +kernel))
theorem q_61 : Cond.fieldLink RX6 9 "GrammarAmbiguity$Word" "length" "I" ∈ WS := inWS_1 _ (List.mem_of_getElem? (i := 21) (by decide +kernel))
theorem q_62 : Cond.fieldLink RX6 15 "GrammarAmbiguity$Word" "letters" "[I" ∈ WS := inWS_1 _ (List.mem_of_getElem? (i := 22) (by decide +kernel))
theorem q_63 : Cond.instanceMethod yX2_init ∈ WS := inWS_1 _ (List.mem_of_getElem? (i := 23) (by decide +kernel))
theorem q_64 : Cond.code yX2_init cX2_init 2 none ∈ WS := inWS_1 _ (List.mem_of_getElem? (i := 24) (by decide +kernel))
theorem q_65 : Cond.instanceMethod yX0_init ∈ WS := inWS_1 _ (List.mem_of_getElem? (i := 25) (by decide +kernel))
theorem q_66 : Cond.initialized RX0 ∈ WS := inWS_1 _ (List.mem_of_getElem? (i := 26) (by decide +kernel))
theorem q_67 : Cond.code yX0_init cX0_init 3 none ∈ WS := inWS_1 _ (List.mem_of_getElem? (i := 27) (by decide +kernel))
theorem q_68 : Cond.methodLink RX0 3 objectInit ∈ WS := inWS_1 _ (List.mem_of_getElem? (i := 28) (by decide +kernel))
theorem q_69 : Cond.fieldLink RX0 9 "GrammarAmbiguity$Counts" "grammar" "LGrammarAmbiguity$Grammar;" ∈ WS := inWS_1 _ (List.mem_of_getElem? (i := 29) (by decide +kernel))
theorem q_70 : Cond.fieldLink RX0 15 "GrammarAmbiguity$Counts" "rows" "[J" ∈ WS := inWS_1 _ (List.mem_of_getElem? (i := 30) (by decide +kernel))
theorem q_71 : Cond.fieldLink RX0 19 "GrammarAmbiguity$Counts" "filled" "I" ∈ WS := inWS_1 _ (List.mem_of_getElem? (i := 31) (by decide +kernel))
theorem q_72 : Cond.instanceMethod yX4_init ∈ WS := inWS_1 _ (List.mem_of_getElem? (i := 32) (by decide +kernel))
theorem q_73 : Cond.code yX4_init cX4_init 3 none ∈ WS := inWS_1 _ (List.mem_of_getElem? (i := 33) (by decide +kernel))
theorem q_74 : Cond.fieldLink RX4 9 "GrammarAmbiguity$SpanCounts" "word" "LGrammarAmbiguity$Word;" ∈ WS := inWS_1 _ (List.mem_of_getElem? (i := 34) (by decide +kernel))
theorem q_75 : Cond.instanceMethod yX7_init ∈ WS := inWS_1 _ (List.mem_of_getElem? (i := 35) (by decide +kernel))
theorem q_76 : Cond.code yX7_init cX7_init 4 none ∈ WS := inWS_1 _ (List.mem_of_getElem? (i := 36) (by decide +kernel))
theorem q_77 : Cond.methodLink RX7 3 objectInit ∈ WS := inWS_1 _ (List.mem_of_getElem? (i := 37) (by decide +kernel))
theorem q_78 : Cond.fieldLink RX7 9 "GrammarAmbiguity$WordCounts" "grammar" "LGrammarAmbiguity$Grammar;" ∈ WS := inWS_1 _ (List.mem_of_getElem? (i := 38) (by decide +kernel))
theorem q_79 : Cond.fieldLink RX7 15 "GrammarAmbiguity$WordCounts" "lengths" "LGrammarAmbiguity$LengthCounts;" ∈ WS := inWS_1 _ (List.mem_of_getElem? (i := 39) (by decide +kernel))
theorem q_80 : Cond.fieldLink RX7 19 "GrammarAmbiguity$WordCounts" "rows" "[J" ∈ WS := inWS_2 _ (List.mem_of_getElem? (i := 0) (by decide +kernel))
theorem q_81 : Cond.fieldLink RX7 23 "GrammarAmbiguity$WordCounts" "filled" "I" ∈ WS := inWS_2 _ (List.mem_of_getElem? (i := 1) (by decide +kernel))
theorem q_82 : Cond.instanceMethod yX5_init ∈ WS := inWS_2 _ (List.mem_of_getElem? (i := 2) (by decide +kernel))
theorem q_83 : Cond.code yX5_init cX5_init 2 none ∈ WS := inWS_2 _ (List.mem_of_getElem? (i := 3) (by decide +kernel))
theorem q_84 : Cond.methodLink RX5 3 objectInit ∈ WS := inWS_2 _ (List.mem_of_getElem? (i := 4) (by decide +kernel))
theorem q_85 : Cond.fieldLink RX5 9 "GrammarAmbiguity$Tree" "grammar" "LGrammarAmbiguity$Grammar;" ∈ WS := inWS_2 _ (List.mem_of_getElem? (i := 5) (by decide +kernel))
theorem q_86 : Cond.fieldLink RX5 15 "GrammarAmbiguity$Tree" "present" "Z" ∈ WS := inWS_2 _ (List.mem_of_getElem? (i := 6) (by decide +kernel))
theorem q_87 : Cond.fieldLink RX5 19 "GrammarAmbiguity$Tree" "number" "J" ∈ WS := inWS_2 _ (List.mem_of_getElem? (i := 7) (by decide +kernel))
theorem q_88 : Cond.fieldLink RX5 23 "GrammarAmbiguity$Tree" "size" "I" ∈ WS := inWS_2 _ (List.mem_of_getElem? (i := 8) (by decide +kernel))
theorem q_89 : Cond.fieldLink RX5 27 "GrammarAmbiguity$Tree" "productions" "[I" ∈ WS := inWS_2 _ (List.mem_of_getElem? (i := 9) (by decide +kernel))
theorem q_90 : Cond.fieldLink RX5 31 "GrammarAmbiguity$Tree" "begins" "[I" ∈ WS := inWS_2 _ (List.mem_of_getElem? (i := 10) (by decide +kernel))
theorem q_91 : Cond.fieldLink RX5 34 "GrammarAmbiguity$Tree" "lengths" "[I" ∈ WS := inWS_2 _ (List.mem_of_getElem? (i := 11) (by decide +kernel))
theorem q_92 : Cond.fieldLink RX5 37 "GrammarAmbiguity$Tree" "firsts" "[I" ∈ WS := inWS_2 _ (List.mem_of_getElem? (i := 12) (by decide +kernel))
theorem q_93 : Cond.fieldLink RX5 40 "GrammarAmbiguity$Tree" "seconds" "[I" ∈ WS := inWS_2 _ (List.mem_of_getElem? (i := 13) (by decide +kernel))
theorem q_94 : Cond.fieldLink RX5 43 "GrammarAmbiguity$Tree" "ends" "[I" ∈ WS := inWS_2 _ (List.mem_of_getElem? (i := 14) (by decide +kernel))
theorem q_95 : Cond.fieldLink RX5 46 "GrammarAmbiguity$Tree" "numbers" "[J" ∈ WS := inWS_2 _ (List.mem_of_getElem? (i := 15) (by decide +kernel))
theorem q_96 : Cond.instanceMethod yX3_init ∈ WS := inWS_2 _ (List.mem_of_getElem? (i := 16) (by decide +kernel))
theorem q_97 : Cond.code yX3_init cX3_init 1 none ∈ WS := inWS_2 _ (List.mem_of_getElem? (i := 17) (by decide +kernel))
theorem q_98 : Cond.methodLink RX3 3 objectInit ∈ WS := inWS_2 _ (List.mem_of_getElem? (i := 18) (by decide +kernel))
theorem q_99 : Cond.fieldLink RX3 9 "GrammarAmbiguity$Slots" "held" "[Z" ∈ WS := inWS_2 _ (List.mem_of_getElem? (i := 19) (by decide +kernel))
theorem q_100 : Cond.fieldLink RX3 15 "GrammarAmbiguity$Slots" "wide" "[Z" ∈ WS := inWS_2 _ (List.mem_of_getElem? (i := 20) (by decide +kernel))
theorem q_101 : Cond.fieldLink RX3 18 "GrammarAmbiguity$Slots" "lengths" "[I" ∈ WS := inWS_2 _ (List.mem_of_getElem? (i := 21) (by decide +kernel))
theorem q_102 : Cond.fieldLink RX3 22 "GrammarAmbiguity$Slots" "elements" "[I" ∈ WS := inWS_2 _ (List.mem_of_getElem? (i := 22) (by decide +kernel))
theorem q_103 : Cond.methodLink RL 112 yX9_init ∈ WS := inWS_2 _ (List.mem_of_getElem? (i := 23) (by decide +kernel))
theorem q_104 : Cond.instanceMethod yX9_init ∈ WS := inWS_2 _ (List.mem_of_getElem? (i := 24) (by decide +kernel))
theorem q_105 : Cond.code yX9_init cX9_init 1 none ∈ WS := inWS_2 _ (List.mem_of_getElem? (i := 25) (by decide +kernel))
theorem q_106 : Cond.methodLink RX9 1 objectInit ∈ WS := inWS_2 _ (List.mem_of_getElem? (i := 26) (by decide +kernel))
theorem q_107 : Cond.fieldLink RX9 7 "GrammarAmbiguityModel" "nonterminals" "I" ∈ WS := inWS_2 _ (List.mem_of_getElem? (i := 27) (by decide +kernel))
theorem q_108 : Cond.fieldLink RX9 13 "GrammarAmbiguityModel" "terminals" "I" ∈ WS := inWS_2 _ (List.mem_of_getElem? (i := 28) (by decide +kernel))
theorem q_109 : Cond.classLink RX9 16 "[[I" ∈ WS := inWS_2 _ (List.mem_of_getElem? (i := 29) (by decide +kernel))
theorem q_110 : Cond.fieldLink RX9 18 "GrammarAmbiguityModel" "symbols" "[[I" ∈ WS := inWS_2 _ (List.mem_of_getElem? (i := 30) (by decide +kernel))
theorem q_111 : Cond.fieldLink RX9 21 "GrammarAmbiguityModel" "word" "[I" ∈ WS := inWS_2 _ (List.mem_of_getElem? (i := 31) (by decide +kernel))
theorem q_112 : Cond.fieldLink RX9 25 "GrammarAmbiguityModel" "shortest" "[I" ∈ WS := inWS_2 _ (List.mem_of_getElem? (i := 32) (by decide +kernel))
theorem q_113 : Cond.fieldLink RX9 28 "GrammarAmbiguityModel" "isReached" "[Z" ∈ WS := inWS_2 _ (List.mem_of_getElem? (i := 33) (by decide +kernel))
theorem q_114 : Cond.classLink RX9 32 "[[J" ∈ WS := inWS_2 _ (List.mem_of_getElem? (i := 34) (by decide +kernel))
theorem q_115 : Cond.fieldLink RX9 34 "GrammarAmbiguityModel" "byLength" "[[J" ∈ WS := inWS_2 _ (List.mem_of_getElem? (i := 35) (by decide +kernel))
theorem q_116 : Cond.fieldLink RX9 37 "GrammarAmbiguityModel" "read" "[I" ∈ WS := inWS_2 _ (List.mem_of_getElem? (i := 36) (by decide +kernel))
theorem q_117 : Cond.fieldLink RX9 42 "GrammarAmbiguityModel" "byPart" "[[[J" ∈ WS := inWS_2 _ (List.mem_of_getElem? (i := 37) (by decide +kernel))
theorem q_118 : Cond.fieldLink RX9 45 "GrammarAmbiguityModel" "nodeProduction" "[I" ∈ WS := inWS_2 _ (List.mem_of_getElem? (i := 38) (by decide +kernel))
theorem q_119 : Cond.fieldLink RX9 48 "GrammarAmbiguityModel" "nodeFrom" "[I" ∈ WS := inWS_2 _ (List.mem_of_getElem? (i := 39) (by decide +kernel))
theorem q_120 : Cond.fieldLink RX9 51 "GrammarAmbiguityModel" "nodeSize" "[I" ∈ WS := inWS_3 _ (List.mem_of_getElem? (i := 0) (by decide +kernel))
theorem q_121 : Cond.fieldLink RX9 54 "GrammarAmbiguityModel" "sizes" "[I" ∈ WS := inWS_3 _ (List.mem_of_getElem? (i := 1) (by decide +kernel))
theorem q_122 : Cond.fieldLink RX9 57 "GrammarAmbiguityModel" "isWide" "[Z" ∈ WS := inWS_3 _ (List.mem_of_getElem? (i := 2) (by decide +kernel))
theorem q_123 : Cond.fieldLink RX9 60 "GrammarAmbiguityModel" "elements" "[[I" ∈ WS := inWS_3 _ (List.mem_of_getElem? (i := 3) (by decide +kernel))
theorem q_124 : Cond.fieldLink RX9 63 "GrammarAmbiguityModel" "savedSymbols" "[[I" ∈ WS := inWS_3 _ (List.mem_of_getElem? (i := 4) (by decide +kernel))
theorem q_125 : Cond.fieldLink RX9 66 "GrammarAmbiguityModel" "savedWord" "[I" ∈ WS := inWS_3 _ (List.mem_of_getElem? (i := 5) (by decide +kernel))
theorem q_126 : Cond.methodLink RL 113 yL_reset ∈ WS := inWS_3 _ (List.mem_of_getElem? (i := 6) (by decide +kernel))
theorem q_127 : Cond.static yL_reset ∈ WS := inWS_3 _ (List.mem_of_getElem? (i := 7) (by decide +kernel))
theorem q_128 : Cond.initialized RL ∈ WS := inWS_3 _ (List.mem_of_getElem? (i := 8) (by decide +kernel))
theorem q_129 : Cond.codeWith yL_reset cL_reset 4 (some .int) [(0, 6, 9, 13)] ∈ WS := inWS_3 _ (List.mem_of_getElem? (i := 9) (by decide +kernel))
theorem q_130 : Cond.classLink RL 13 "java/lang/IllegalArgumentException" ∈ WS := inWS_3 _ (List.mem_of_getElem? (i := 10) (by decide +kernel))
theorem q_131 : Cond.methodLink RL 7 yX8_reset ∈ WS := inWS_3 _ (List.mem_of_getElem? (i := 11) (by decide +kernel))
theorem q_132 : Cond.instanceMethod yX8_reset ∈ WS := inWS_3 _ (List.mem_of_getElem? (i := 12) (by decide +kernel))
theorem q_133 : Cond.selects RX8 yX8_reset yX8_reset ∈ WS := inWS_3 _ (List.mem_of_getElem? (i := 13) (by decide +kernel))
theorem q_134 : Cond.code yX8_reset cX8_reset 3 none ∈ WS := inWS_3 _ (List.mem_of_getElem? (i := 14) (by decide +kernel))
theorem q_135 : Cond.classLink RX8 74 "java/lang/IllegalArgumentException" ∈ WS := inWS_3 _ (List.mem_of_getElem? (i := 15) (by decide +kernel))
theorem q_136 : Cond.initialized "java/lang/IllegalArgumentException" ∈ WS := inWS_3 _ (List.mem_of_getElem? (i := 16) (by decide +kernel))
theorem q_137 : Cond.instanceMethod yX1_begin ∈ WS := inWS_3 _ (List.mem_of_getElem? (i := 17) (by decide +kernel))
theorem q_138 : Cond.selects RX1 yX1_begin yX1_begin ∈ WS := inWS_3 _ (List.mem_of_getElem? (i := 18) (by decide +kernel))
theorem q_139 : Cond.code yX1_begin cX1_begin 3 none ∈ WS := inWS_3 _ (List.mem_of_getElem? (i := 19) (by decide +kernel))
theorem q_140 : Cond.methodLink RX8 91 yX8_forgetGrammar ∈ WS := inWS_3 _ (List.mem_of_getElem? (i := 20) (by decide +kernel))
theorem q_141 : Cond.instanceMethod yX8_forgetGrammar ∈ WS := inWS_3 _ (List.mem_of_getElem? (i := 21) (by decide +kernel))
theorem q_142 : Cond.selects RX8 yX8_forgetGrammar yX8_forgetGrammar ∈ WS := inWS_3 _ (List.mem_of_getElem? (i := 22) (by decide +kernel))
theorem q_143 : Cond.code yX8_forgetGrammar cX8_forgetGrammar 1 none ∈ WS := inWS_3 _ (List.mem_of_getElem? (i := 23) (by decide +kernel))
theorem q_144 : Cond.methodLink RX8 305 ⟨"GrammarAmbiguity$LengthCounts", "forget", "()V"⟩ ∈ WS := inWS_3 _ (List.mem_of_getElem? (i := 24) (by decide +kernel))
theorem q_145 : Cond.sameMethod "GrammarAmbiguity$LengthCounts" "GrammarAmbiguity$Counts" "forget" "()V" ∈ WS := inWS_3 _ (List.mem_of_getElem? (i := 25) (by decide +kernel))
theorem q_146 : Cond.selects RX2 ⟨"GrammarAmbiguity$LengthCounts", "forget", "()V"⟩ yX0_forget ∈ WS := inWS_3 _ (List.mem_of_getElem? (i := 26) (by decide +kernel))
theorem q_147 : Cond.instanceMethod yX0_forget ∈ WS := inWS_3 _ (List.mem_of_getElem? (i := 27) (by decide +kernel))
theorem q_148 : Cond.code yX0_forget cX0_forget 1 none ∈ WS := inWS_3 _ (List.mem_of_getElem? (i := 28) (by decide +kernel))
theorem q_149 : Cond.instanceMethod yX7_forget ∈ WS := inWS_3 _ (List.mem_of_getElem? (i := 29) (by decide +kernel))
theorem q_150 : Cond.selects RX7 yX7_forget yX7_forget ∈ WS := inWS_3 _ (List.mem_of_getElem? (i := 30) (by decide +kernel))
theorem q_151 : Cond.code yX7_forget cX7_forget 1 none ∈ WS := inWS_3 _ (List.mem_of_getElem? (i := 31) (by decide +kernel))
theorem q_152 : Cond.methodLink RL 118 yX9_reset ∈ WS := inWS_3 _ (List.mem_of_getElem? (i := 32) (by decide +kernel))
theorem q_153 : Cond.instanceMethod yX9_reset ∈ WS := inWS_3 _ (List.mem_of_getElem? (i := 33) (by decide +kernel))
theorem q_154 : Cond.selects RX9 yX9_reset yX9_reset ∈ WS := inWS_3 _ (List.mem_of_getElem? (i := 34) (by decide +kernel))
theorem q_155 : Cond.code yX9_reset cX9_reset 3 none ∈ WS := inWS_3 _ (List.mem_of_getElem? (i := 35) (by decide +kernel))
theorem q_156 : Cond.fieldLink RX9 83 "GrammarAmbiguityModel" "start" "I" ∈ WS := inWS_3 _ (List.mem_of_getElem? (i := 36) (by decide +kernel))
theorem q_157 : Cond.fieldLink RX9 76 "GrammarAmbiguityModel" "productions" "I" ∈ WS := inWS_3 _ (List.mem_of_getElem? (i := 37) (by decide +kernel))
theorem q_158 : Cond.fieldLink RX9 86 "GrammarAmbiguityModel" "length" "I" ∈ WS := inWS_3 _ (List.mem_of_getElem? (i := 38) (by decide +kernel))
theorem q_159 : Cond.fieldLink RX9 89 "GrammarAmbiguityModel" "nodes" "I" ∈ WS := inWS_3 _ (List.mem_of_getElem? (i := 39) (by decide +kernel))
theorem q_160 : Cond.methodLink RX9 72 yX9_isBetween ∈ WS := inWS_4 _ (List.mem_of_getElem? (i := 0) (by decide +kernel))
theorem q_161 : Cond.static yX9_isBetween ∈ WS := inWS_4 _ (List.mem_of_getElem? (i := 1) (by decide +kernel))
theorem q_162 : Cond.code yX9_isBetween cX9_isBetween 3 (some .boolean) ∈ WS := inWS_4 _ (List.mem_of_getElem? (i := 2) (by decide +kernel))
theorem q_163 : Cond.methodLink RX9 79 yX9_fails ∈ WS := inWS_4 _ (List.mem_of_getElem? (i := 3) (by decide +kernel))
theorem q_164 : Cond.instanceMethod yX9_fails ∈ WS := inWS_4 _ (List.mem_of_getElem? (i := 4) (by decide +kernel))
theorem q_165 : Cond.selects RX9 yX9_fails yX9_fails ∈ WS := inWS_4 _ (List.mem_of_getElem? (i := 5) (by decide +kernel))
theorem q_166 : Cond.code yX9_fails cX9_fails 3 (some .boolean) ∈ WS := inWS_4 _ (List.mem_of_getElem? (i := 6) (by decide +kernel))
theorem q_167 : Cond.fieldLink RX9 69 "GrammarAmbiguityModel" "thrown" "I" ∈ WS := inWS_4 _ (List.mem_of_getElem? (i := 7) (by decide +kernel))
theorem q_168 : Cond.methodLink RL 119 yX9_thrown ∈ WS := inWS_4 _ (List.mem_of_getElem? (i := 8) (by decide +kernel))
theorem q_169 : Cond.instanceMethod yX9_thrown ∈ WS := inWS_4 _ (List.mem_of_getElem? (i := 9) (by decide +kernel))
theorem q_170 : Cond.selects RX9 yX9_thrown yX9_thrown ∈ WS := inWS_4 _ (List.mem_of_getElem? (i := 10) (by decide +kernel))
theorem q_171 : Cond.code yX9_thrown cX9_thrown 1 (some .int) ∈ WS := inWS_4 _ (List.mem_of_getElem? (i := 11) (by decide +kernel))
theorem q_172 : Cond.methodLink RL 122 yL_addProduction ∈ WS := inWS_4 _ (List.mem_of_getElem? (i := 12) (by decide +kernel))
theorem q_173 : Cond.static yL_addProduction ∈ WS := inWS_4 _ (List.mem_of_getElem? (i := 13) (by decide +kernel))
theorem q_174 : Cond.codeWith yL_addProduction cL_addProduction 7 (some .int) [(0, 14, 17, 13), (0, 14, 21, 19)] ∈ WS := inWS_4 _ (List.mem_of_getElem? (i := 14) (by decide +kernel))
theorem q_175 : Cond.methodLink RL 15 yX8_addProduction ∈ WS := inWS_4 _ (List.mem_of_getElem? (i := 15) (by decide +kernel))
theorem q_176 : Cond.instanceMethod yX8_addProduction ∈ WS := inWS_4 _ (List.mem_of_getElem? (i := 16) (by decide +kernel))
theorem q_177 : Cond.selects RX8 yX8_addProduction yX8_addProduction ∈ WS := inWS_4 _ (List.mem_of_getElem? (i := 17) (by decide +kernel))
theorem q_178 : Cond.code yX8_addProduction cX8_addProduction 6 (some .int) ∈ WS := inWS_4 _ (List.mem_of_getElem? (i := 18) (by decide +kernel))
theorem q_179 : Cond.classLink RX8 113 "java/lang/IllegalStateException" ∈ WS := inWS_4 _ (List.mem_of_getElem? (i := 19) (by decide +kernel))
theorem q_180 : Cond.initialized "java/lang/IllegalStateException" ∈ WS := inWS_4 _ (List.mem_of_getElem? (i := 20) (by decide +kernel))
theorem q_181 : Cond.instanceMethod yX1_isNonterminal ∈ WS := inWS_4 _ (List.mem_of_getElem? (i := 21) (by decide +kernel))
theorem q_182 : Cond.selects RX1 yX1_isNonterminal yX1_isNonterminal ∈ WS := inWS_4 _ (List.mem_of_getElem? (i := 22) (by decide +kernel))
theorem q_183 : Cond.code yX1_isNonterminal cX1_isNonterminal 2 (some .boolean) ∈ WS := inWS_4 _ (List.mem_of_getElem? (i := 23) (by decide +kernel))
theorem q_184 : Cond.instanceMethod yX1_isRightSide ∈ WS := inWS_4 _ (List.mem_of_getElem? (i := 24) (by decide +kernel))
theorem q_185 : Cond.selects RX1 yX1_isRightSide yX1_isRightSide ∈ WS := inWS_4 _ (List.mem_of_getElem? (i := 25) (by decide +kernel))
theorem q_186 : Cond.code yX1_isRightSide cX1_isRightSide 4 (some .boolean) ∈ WS := inWS_4 _ (List.mem_of_getElem? (i := 26) (by decide +kernel))
theorem q_187 : Cond.methodLink RX1 42 yX1_isSymbol ∈ WS := inWS_4 _ (List.mem_of_getElem? (i := 27) (by decide +kernel))
theorem q_188 : Cond.instanceMethod yX1_isSymbol ∈ WS := inWS_4 _ (List.mem_of_getElem? (i := 28) (by decide +kernel))
theorem q_189 : Cond.selects RX1 yX1_isSymbol yX1_isSymbol ∈ WS := inWS_4 _ (List.mem_of_getElem? (i := 29) (by decide +kernel))
theorem q_190 : Cond.code yX1_isSymbol cX1_isSymbol 2 (some .boolean) ∈ WS := inWS_4 _ (List.mem_of_getElem? (i := 30) (by decide +kernel))
theorem q_191 : Cond.methodLink RX1 35 yX1_isNonterminal ∈ WS := inWS_4 _ (List.mem_of_getElem? (i := 31) (by decide +kernel))
theorem q_192 : Cond.methodLink RX1 39 yX1_isTerminal ∈ WS := inWS_4 _ (List.mem_of_getElem? (i := 32) (by decide +kernel))
theorem q_193 : Cond.instanceMethod yX1_isTerminal ∈ WS := inWS_4 _ (List.mem_of_getElem? (i := 33) (by decide +kernel))
theorem q_194 : Cond.selects RX1 yX1_isTerminal yX1_isTerminal ∈ WS := inWS_4 _ (List.mem_of_getElem? (i := 34) (by decide +kernel))
theorem q_195 : Cond.code yX1_isTerminal cX1_isTerminal 2 (some .boolean) ∈ WS := inWS_4 _ (List.mem_of_getElem? (i := 35) (by decide +kernel))
theorem q_196 : Cond.instanceMethod yX1_holds ∈ WS := inWS_4 _ (List.mem_of_getElem? (i := 36) (by decide +kernel))
theorem q_197 : Cond.selects RX1 yX1_holds yX1_holds ∈ WS := inWS_4 _ (List.mem_of_getElem? (i := 37) (by decide +kernel))
theorem q_198 : Cond.code yX1_holds cX1_holds 6 (some .boolean) ∈ WS := inWS_4 _ (List.mem_of_getElem? (i := 38) (by decide +kernel))
theorem q_199 : Cond.methodLink RX1 45 yX1_symbol ∈ WS := inWS_4 _ (List.mem_of_getElem? (i := 39) (by decide +kernel))
theorem q_200 : Cond.instanceMethod yX1_symbol ∈ WS := inWS_5 _ (List.mem_of_getElem? (i := 0) (by decide +kernel))
theorem q_201 : Cond.selects RX1 yX1_symbol yX1_symbol ∈ WS := inWS_5 _ (List.mem_of_getElem? (i := 1) (by decide +kernel))
theorem q_202 : Cond.code yX1_symbol cX1_symbol 3 (some .int) ∈ WS := inWS_5 _ (List.mem_of_getElem? (i := 2) (by decide +kernel))
theorem q_203 : Cond.instanceMethod yX1_add ∈ WS := inWS_5 _ (List.mem_of_getElem? (i := 3) (by decide +kernel))
theorem q_204 : Cond.selects RX1 yX1_add yX1_add ∈ WS := inWS_5 _ (List.mem_of_getElem? (i := 4) (by decide +kernel))
theorem q_205 : Cond.code yX1_add cX1_add 6 none ∈ WS := inWS_5 _ (List.mem_of_getElem? (i := 5) (by decide +kernel))
theorem q_206 : Cond.methodLink RL 125 yX9_addProduction ∈ WS := inWS_5 _ (List.mem_of_getElem? (i := 6) (by decide +kernel))
theorem q_207 : Cond.instanceMethod yX9_addProduction ∈ WS := inWS_5 _ (List.mem_of_getElem? (i := 7) (by decide +kernel))
theorem q_208 : Cond.selects RX9 yX9_addProduction yX9_addProduction ∈ WS := inWS_5 _ (List.mem_of_getElem? (i := 8) (by decide +kernel))
theorem q_209 : Cond.code yX9_addProduction cX9_addProduction 5 (some .int) ∈ WS := inWS_5 _ (List.mem_of_getElem? (i := 9) (by decide +kernel))
theorem q_210 : Cond.methodLink RX9 102 yX9_isWrong ∈ WS := inWS_5 _ (List.mem_of_getElem? (i := 10) (by decide +kernel))
theorem q_211 : Cond.instanceMethod yX9_isWrong ∈ WS := inWS_5 _ (List.mem_of_getElem? (i := 11) (by decide +kernel))
theorem q_212 : Cond.selects RX9 yX9_isWrong yX9_isWrong ∈ WS := inWS_5 _ (List.mem_of_getElem? (i := 12) (by decide +kernel))
theorem q_213 : Cond.code yX9_isWrong cX9_isWrong 7 (some .boolean) ∈ WS := inWS_5 _ (List.mem_of_getElem? (i := 13) (by decide +kernel))
theorem q_214 : Cond.methodLink RX9 92 yX9_isNonterminal ∈ WS := inWS_5 _ (List.mem_of_getElem? (i := 14) (by decide +kernel))
theorem q_215 : Cond.instanceMethod yX9_isNonterminal ∈ WS := inWS_5 _ (List.mem_of_getElem? (i := 15) (by decide +kernel))
theorem q_216 : Cond.selects RX9 yX9_isNonterminal yX9_isNonterminal ∈ WS := inWS_5 _ (List.mem_of_getElem? (i := 16) (by decide +kernel))
theorem q_217 : Cond.code yX9_isNonterminal cX9_isNonterminal 2 (some .boolean) ∈ WS := inWS_5 _ (List.mem_of_getElem? (i := 17) (by decide +kernel))
theorem q_218 : Cond.methodLink RX9 99 yX9_isSymbol ∈ WS := inWS_5 _ (List.mem_of_getElem? (i := 18) (by decide +kernel))
theorem q_219 : Cond.instanceMethod yX9_isSymbol ∈ WS := inWS_5 _ (List.mem_of_getElem? (i := 19) (by decide +kernel))
theorem q_220 : Cond.selects RX9 yX9_isSymbol yX9_isSymbol ∈ WS := inWS_5 _ (List.mem_of_getElem? (i := 20) (by decide +kernel))
theorem q_221 : Cond.code yX9_isSymbol cX9_isSymbol 2 (some .boolean) ∈ WS := inWS_5 _ (List.mem_of_getElem? (i := 21) (by decide +kernel))
theorem q_222 : Cond.methodLink RX9 96 yX9_isTerminal ∈ WS := inWS_5 _ (List.mem_of_getElem? (i := 22) (by decide +kernel))
theorem q_223 : Cond.instanceMethod yX9_isTerminal ∈ WS := inWS_5 _ (List.mem_of_getElem? (i := 23) (by decide +kernel))
theorem q_224 : Cond.selects RX9 yX9_isTerminal yX9_isTerminal ∈ WS := inWS_5 _ (List.mem_of_getElem? (i := 24) (by decide +kernel))
theorem q_225 : Cond.code yX9_isTerminal cX9_isTerminal 2 (some .boolean) ∈ WS := inWS_5 _ (List.mem_of_getElem? (i := 25) (by decide +kernel))
theorem q_226 : Cond.methodLink RL 126 yL_removeProduction ∈ WS := inWS_5 _ (List.mem_of_getElem? (i := 26) (by decide +kernel))
theorem q_227 : Cond.static yL_removeProduction ∈ WS := inWS_5 _ (List.mem_of_getElem? (i := 27) (by decide +kernel))
theorem q_228 : Cond.codeWith yL_removeProduction cL_removeProduction 4 (some .int) [(0, 9, 12, 13)] ∈ WS := inWS_5 _ (List.mem_of_getElem? (i := 28) (by decide +kernel))
theorem q_229 : Cond.methodLink RL 21 yX8_removeProduction ∈ WS := inWS_5 _ (List.mem_of_getElem? (i := 29) (by decide +kernel))
theorem q_230 : Cond.instanceMethod yX8_removeProduction ∈ WS := inWS_5 _ (List.mem_of_getElem? (i := 30) (by decide +kernel))
theorem q_231 : Cond.selects RX8 yX8_removeProduction yX8_removeProduction ∈ WS := inWS_5 _ (List.mem_of_getElem? (i := 31) (by decide +kernel))
theorem q_232 : Cond.code yX8_removeProduction cX8_removeProduction 2 (some .int) ∈ WS := inWS_5 _ (List.mem_of_getElem? (i := 32) (by decide +kernel))
theorem q_233 : Cond.methodLink RX8 122 yX8_checkProduction ∈ WS := inWS_5 _ (List.mem_of_getElem? (i := 33) (by decide +kernel))
theorem q_234 : Cond.instanceMethod yX8_checkProduction ∈ WS := inWS_5 _ (List.mem_of_getElem? (i := 34) (by decide +kernel))
theorem q_235 : Cond.selects RX8 yX8_checkProduction yX8_checkProduction ∈ WS := inWS_5 _ (List.mem_of_getElem? (i := 35) (by decide +kernel))
theorem q_236 : Cond.code yX8_checkProduction cX8_checkProduction 2 none ∈ WS := inWS_5 _ (List.mem_of_getElem? (i := 36) (by decide +kernel))
theorem q_237 : Cond.instanceMethod yX1_remove ∈ WS := inWS_5 _ (List.mem_of_getElem? (i := 37) (by decide +kernel))
theorem q_238 : Cond.selects RX1 yX1_remove yX1_remove ∈ WS := inWS_5 _ (List.mem_of_getElem? (i := 38) (by decide +kernel))
theorem q_239 : Cond.code yX1_remove cX1_remove 4 none ∈ WS := inWS_5 _ (List.mem_of_getElem? (i := 39) (by decide +kernel))
theorem q_240 : Cond.methodLink RL 129 yX9_removeProduction ∈ WS := inWS_6 _ (List.mem_of_getElem? (i := 0) (by decide +kernel))
theorem q_241 : Cond.instanceMethod yX9_removeProduction ∈ WS := inWS_6 _ (List.mem_of_getElem? (i := 1) (by decide +kernel))
theorem q_242 : Cond.selects RX9 yX9_removeProduction yX9_removeProduction ∈ WS := inWS_6 _ (List.mem_of_getElem? (i := 2) (by decide +kernel))
theorem q_243 : Cond.code yX9_removeProduction cX9_removeProduction 2 (some .int) ∈ WS := inWS_6 _ (List.mem_of_getElem? (i := 3) (by decide +kernel))
theorem q_244 : Cond.methodLink RX9 106 yX9_isProduction ∈ WS := inWS_6 _ (List.mem_of_getElem? (i := 4) (by decide +kernel))
theorem q_245 : Cond.instanceMethod yX9_isProduction ∈ WS := inWS_6 _ (List.mem_of_getElem? (i := 5) (by decide +kernel))
theorem q_246 : Cond.selects RX9 yX9_isProduction yX9_isProduction ∈ WS := inWS_6 _ (List.mem_of_getElem? (i := 6) (by decide +kernel))
theorem q_247 : Cond.code yX9_isProduction cX9_isProduction 2 (some .boolean) ∈ WS := inWS_6 _ (List.mem_of_getElem? (i := 7) (by decide +kernel))
theorem q_248 : Cond.methodLink RX9 109 yX9_remove ∈ WS := inWS_6 _ (List.mem_of_getElem? (i := 8) (by decide +kernel))
theorem q_249 : Cond.instanceMethod yX9_remove ∈ WS := inWS_6 _ (List.mem_of_getElem? (i := 9) (by decide +kernel))
theorem q_250 : Cond.selects RX9 yX9_remove yX9_remove ∈ WS := inWS_6 _ (List.mem_of_getElem? (i := 10) (by decide +kernel))
theorem q_251 : Cond.code yX9_remove cX9_remove 4 none ∈ WS := inWS_6 _ (List.mem_of_getElem? (i := 11) (by decide +kernel))
theorem q_252 : Cond.methodLink RL 130 yX8_removeUseless ∈ WS := inWS_6 _ (List.mem_of_getElem? (i := 12) (by decide +kernel))
theorem q_253 : Cond.instanceMethod yX8_removeUseless ∈ WS := inWS_6 _ (List.mem_of_getElem? (i := 13) (by decide +kernel))
theorem q_254 : Cond.selects RX8 yX8_removeUseless yX8_removeUseless ∈ WS := inWS_6 _ (List.mem_of_getElem? (i := 14) (by decide +kernel))
theorem q_255 : Cond.code yX8_removeUseless cX8_removeUseless 2 (some .int) ∈ WS := inWS_6 _ (List.mem_of_getElem? (i := 15) (by decide +kernel))
theorem q_256 : Cond.instanceMethod yX1_removeUnused ∈ WS := inWS_6 _ (List.mem_of_getElem? (i := 16) (by decide +kernel))
theorem q_257 : Cond.selects RX1 yX1_removeUnused yX1_removeUnused ∈ WS := inWS_6 _ (List.mem_of_getElem? (i := 17) (by decide +kernel))
theorem q_258 : Cond.code yX1_removeUnused cX1_removeUnused 3 (some .int) ∈ WS := inWS_6 _ (List.mem_of_getElem? (i := 18) (by decide +kernel))
theorem q_259 : Cond.methodLink RX1 60 yX1_measure ∈ WS := inWS_6 _ (List.mem_of_getElem? (i := 19) (by decide +kernel))
theorem q_260 : Cond.instanceMethod yX1_measure ∈ WS := inWS_6 _ (List.mem_of_getElem? (i := 20) (by decide +kernel))
theorem q_261 : Cond.selects RX1 yX1_measure yX1_measure ∈ WS := inWS_6 _ (List.mem_of_getElem? (i := 21) (by decide +kernel))
theorem q_262 : Cond.code yX1_measure cX1_measure 3 none ∈ WS := inWS_6 _ (List.mem_of_getElem? (i := 22) (by decide +kernel))
theorem q_263 : Cond.methodLink RX1 49 yX1_shortestOf ∈ WS := inWS_6 _ (List.mem_of_getElem? (i := 23) (by decide +kernel))
theorem q_264 : Cond.instanceMethod yX1_shortestOf ∈ WS := inWS_6 _ (List.mem_of_getElem? (i := 24) (by decide +kernel))
theorem q_265 : Cond.selects RX1 yX1_shortestOf yX1_shortestOf ∈ WS := inWS_6 _ (List.mem_of_getElem? (i := 25) (by decide +kernel))
theorem q_266 : Cond.code yX1_shortestOf cX1_shortestOf 6 (some .int) ∈ WS := inWS_6 _ (List.mem_of_getElem? (i := 26) (by decide +kernel))
theorem q_267 : Cond.methodLink RX1 57 yX1_shortestPart ∈ WS := inWS_6 _ (List.mem_of_getElem? (i := 27) (by decide +kernel))
theorem q_268 : Cond.instanceMethod yX1_shortestPart ∈ WS := inWS_6 _ (List.mem_of_getElem? (i := 28) (by decide +kernel))
theorem q_269 : Cond.selects RX1 yX1_shortestPart yX1_shortestPart ∈ WS := inWS_6 _ (List.mem_of_getElem? (i := 29) (by decide +kernel))
theorem q_270 : Cond.code yX1_shortestPart cX1_shortestPart 2 (some .int) ∈ WS := inWS_6 _ (List.mem_of_getElem? (i := 30) (by decide +kernel))
theorem q_271 : Cond.methodLink RX1 53 yX1_shorten ∈ WS := inWS_6 _ (List.mem_of_getElem? (i := 31) (by decide +kernel))
theorem q_272 : Cond.instanceMethod yX1_shorten ∈ WS := inWS_6 _ (List.mem_of_getElem? (i := 32) (by decide +kernel))
theorem q_273 : Cond.selects RX1 yX1_shorten yX1_shorten ∈ WS := inWS_6 _ (List.mem_of_getElem? (i := 33) (by decide +kernel))
theorem q_274 : Cond.code yX1_shorten cX1_shorten 3 none ∈ WS := inWS_6 _ (List.mem_of_getElem? (i := 34) (by decide +kernel))
theorem q_275 : Cond.methodLink RX1 63 yX1_reach ∈ WS := inWS_6 _ (List.mem_of_getElem? (i := 35) (by decide +kernel))
theorem q_276 : Cond.instanceMethod yX1_reach ∈ WS := inWS_6 _ (List.mem_of_getElem? (i := 36) (by decide +kernel))
theorem q_277 : Cond.selects RX1 yX1_reach yX1_reach ∈ WS := inWS_6 _ (List.mem_of_getElem? (i := 37) (by decide +kernel))
theorem q_278 : Cond.code yX1_reach cX1_reach 3 none ∈ WS := inWS_6 _ (List.mem_of_getElem? (i := 38) (by decide +kernel))
theorem q_279 : Cond.methodLink RX1 66 yX1_isUsed ∈ WS := inWS_6 _ (List.mem_of_getElem? (i := 39) (by decide +kernel))
theorem q_280 : Cond.instanceMethod yX1_isUsed ∈ WS := inWS_7 _ (List.mem_of_getElem? (i := 0) (by decide +kernel))
theorem q_281 : Cond.selects RX1 yX1_isUsed yX1_isUsed ∈ WS := inWS_7 _ (List.mem_of_getElem? (i := 1) (by decide +kernel))
theorem q_282 : Cond.code yX1_isUsed cX1_isUsed 3 (some .boolean) ∈ WS := inWS_7 _ (List.mem_of_getElem? (i := 2) (by decide +kernel))
theorem q_283 : Cond.methodLink RX1 73 yX1_reachParts ∈ WS := inWS_7 _ (List.mem_of_getElem? (i := 3) (by decide +kernel))
theorem q_284 : Cond.instanceMethod yX1_reachParts ∈ WS := inWS_7 _ (List.mem_of_getElem? (i := 4) (by decide +kernel))
theorem q_285 : Cond.selects RX1 yX1_reachParts yX1_reachParts ∈ WS := inWS_7 _ (List.mem_of_getElem? (i := 5) (by decide +kernel))
theorem q_286 : Cond.code yX1_reachParts cX1_reachParts 4 none ∈ WS := inWS_7 _ (List.mem_of_getElem? (i := 6) (by decide +kernel))
theorem q_287 : Cond.methodLink RX1 69 yX1_remove ∈ WS := inWS_7 _ (List.mem_of_getElem? (i := 7) (by decide +kernel))
theorem q_288 : Cond.methodLink RL 133 yX9_removeUseless ∈ WS := inWS_7 _ (List.mem_of_getElem? (i := 8) (by decide +kernel))
theorem q_289 : Cond.instanceMethod yX9_removeUseless ∈ WS := inWS_7 _ (List.mem_of_getElem? (i := 9) (by decide +kernel))
theorem q_290 : Cond.selects RX9 yX9_removeUseless yX9_removeUseless ∈ WS := inWS_7 _ (List.mem_of_getElem? (i := 10) (by decide +kernel))
theorem q_291 : Cond.code yX9_removeUseless cX9_removeUseless 5 (some .int) ∈ WS := inWS_7 _ (List.mem_of_getElem? (i := 11) (by decide +kernel))
theorem q_292 : Cond.methodLink RX9 117 yX9_findShortest ∈ WS := inWS_7 _ (List.mem_of_getElem? (i := 12) (by decide +kernel))
theorem q_293 : Cond.instanceMethod yX9_findShortest ∈ WS := inWS_7 _ (List.mem_of_getElem? (i := 13) (by decide +kernel))
theorem q_294 : Cond.selects RX9 yX9_findShortest yX9_findShortest ∈ WS := inWS_7 _ (List.mem_of_getElem? (i := 14) (by decide +kernel))
theorem q_295 : Cond.code yX9_findShortest cX9_findShortest 5 none ∈ WS := inWS_7 _ (List.mem_of_getElem? (i := 15) (by decide +kernel))
theorem q_296 : Cond.methodLink RX9 113 yX9_shortestOf ∈ WS := inWS_7 _ (List.mem_of_getElem? (i := 16) (by decide +kernel))
theorem q_297 : Cond.instanceMethod yX9_shortestOf ∈ WS := inWS_7 _ (List.mem_of_getElem? (i := 17) (by decide +kernel))
theorem q_298 : Cond.selects RX9 yX9_shortestOf yX9_shortestOf ∈ WS := inWS_7 _ (List.mem_of_getElem? (i := 18) (by decide +kernel))
theorem q_299 : Cond.code yX9_shortestOf cX9_shortestOf 5 (some .int) ∈ WS := inWS_7 _ (List.mem_of_getElem? (i := 19) (by decide +kernel))
theorem q_300 : Cond.methodLink RL 134 yX8_productionCount ∈ WS := inWS_7 _ (List.mem_of_getElem? (i := 20) (by decide +kernel))
theorem q_301 : Cond.instanceMethod yX8_productionCount ∈ WS := inWS_7 _ (List.mem_of_getElem? (i := 21) (by decide +kernel))
theorem q_302 : Cond.selects RX8 yX8_productionCount yX8_productionCount ∈ WS := inWS_7 _ (List.mem_of_getElem? (i := 22) (by decide +kernel))
theorem q_303 : Cond.code yX8_productionCount cX8_productionCount 1 (some .int) ∈ WS := inWS_7 _ (List.mem_of_getElem? (i := 23) (by decide +kernel))
theorem q_304 : Cond.methodLink RL 137 yX9_productionCount ∈ WS := inWS_7 _ (List.mem_of_getElem? (i := 24) (by decide +kernel))
theorem q_305 : Cond.instanceMethod yX9_productionCount ∈ WS := inWS_7 _ (List.mem_of_getElem? (i := 25) (by decide +kernel))
theorem q_306 : Cond.selects RX9 yX9_productionCount yX9_productionCount ∈ WS := inWS_7 _ (List.mem_of_getElem? (i := 26) (by decide +kernel))
theorem q_307 : Cond.code yX9_productionCount cX9_productionCount 1 (some .int) ∈ WS := inWS_7 _ (List.mem_of_getElem? (i := 27) (by decide +kernel))
theorem q_308 : Cond.methodLink RL 138 yL_productionSymbol ∈ WS := inWS_7 _ (List.mem_of_getElem? (i := 28) (by decide +kernel))
theorem q_309 : Cond.static yL_productionSymbol ∈ WS := inWS_7 _ (List.mem_of_getElem? (i := 29) (by decide +kernel))
theorem q_310 : Cond.codeWith yL_productionSymbol cL_productionSymbol 5 (some .int) [(0, 10, 13, 13), (0, 10, 17, 29)] ∈ WS := inWS_7 _ (List.mem_of_getElem? (i := 30) (by decide +kernel))
theorem q_311 : Cond.methodLink RL 25 yX8_productionSymbol ∈ WS := inWS_7 _ (List.mem_of_getElem? (i := 31) (by decide +kernel))
theorem q_312 : Cond.instanceMethod yX8_productionSymbol ∈ WS := inWS_7 _ (List.mem_of_getElem? (i := 32) (by decide +kernel))
theorem q_313 : Cond.selects RX8 yX8_productionSymbol yX8_productionSymbol ∈ WS := inWS_7 _ (List.mem_of_getElem? (i := 33) (by decide +kernel))
theorem q_314 : Cond.code yX8_productionSymbol cX8_productionSymbol 3 (some .int) ∈ WS := inWS_7 _ (List.mem_of_getElem? (i := 34) (by decide +kernel))
theorem q_315 : Cond.classLink RX8 133 "java/lang/IndexOutOfBoundsException" ∈ WS := inWS_7 _ (List.mem_of_getElem? (i := 35) (by decide +kernel))
theorem q_316 : Cond.initialized "java/lang/IndexOutOfBoundsException" ∈ WS := inWS_7 _ (List.mem_of_getElem? (i := 36) (by decide +kernel))
theorem q_317 : Cond.methodLink RL 141 yX9_productionSymbol ∈ WS := inWS_7 _ (List.mem_of_getElem? (i := 37) (by decide +kernel))
theorem q_318 : Cond.instanceMethod yX9_productionSymbol ∈ WS := inWS_7 _ (List.mem_of_getElem? (i := 38) (by decide +kernel))
theorem q_319 : Cond.selects RX9 yX9_productionSymbol yX9_productionSymbol ∈ WS := inWS_7 _ (List.mem_of_getElem? (i := 39) (by decide +kernel))
theorem q_320 : Cond.code yX9_productionSymbol cX9_productionSymbol 3 (some .int) ∈ WS := inWS_8 _ (List.mem_of_getElem? (i := 0) (by decide +kernel))
theorem q_321 : Cond.methodLink RL 142 yL_setStart ∈ WS := inWS_8 _ (List.mem_of_getElem? (i := 1) (by decide +kernel))
theorem q_322 : Cond.static yL_setStart ∈ WS := inWS_8 _ (List.mem_of_getElem? (i := 2) (by decide +kernel))
theorem q_323 : Cond.codeWith yL_setStart cL_setStart 4 (some .int) [(0, 9, 12, 13)] ∈ WS := inWS_8 _ (List.mem_of_getElem? (i := 3) (by decide +kernel))
theorem q_324 : Cond.methodLink RL 31 yX8_setStart ∈ WS := inWS_8 _ (List.mem_of_getElem? (i := 4) (by decide +kernel))
theorem q_325 : Cond.instanceMethod yX8_setStart ∈ WS := inWS_8 _ (List.mem_of_getElem? (i := 5) (by decide +kernel))
theorem q_326 : Cond.selects RX8 yX8_setStart yX8_setStart ∈ WS := inWS_8 _ (List.mem_of_getElem? (i := 6) (by decide +kernel))
theorem q_327 : Cond.code yX8_setStart cX8_setStart 3 (some .int) ∈ WS := inWS_8 _ (List.mem_of_getElem? (i := 7) (by decide +kernel))
theorem q_328 : Cond.methodLink RX8 142 yX8_checkNonterminal ∈ WS := inWS_8 _ (List.mem_of_getElem? (i := 8) (by decide +kernel))
theorem q_329 : Cond.instanceMethod yX8_checkNonterminal ∈ WS := inWS_8 _ (List.mem_of_getElem? (i := 9) (by decide +kernel))
theorem q_330 : Cond.selects RX8 yX8_checkNonterminal yX8_checkNonterminal ∈ WS := inWS_8 _ (List.mem_of_getElem? (i := 10) (by decide +kernel))
theorem q_331 : Cond.code yX8_checkNonterminal cX8_checkNonterminal 2 none ∈ WS := inWS_8 _ (List.mem_of_getElem? (i := 11) (by decide +kernel))
theorem q_332 : Cond.methodLink RL 144 yX9_setStart ∈ WS := inWS_8 _ (List.mem_of_getElem? (i := 12) (by decide +kernel))
theorem q_333 : Cond.instanceMethod yX9_setStart ∈ WS := inWS_8 _ (List.mem_of_getElem? (i := 13) (by decide +kernel))
theorem q_334 : Cond.selects RX9 yX9_setStart yX9_setStart ∈ WS := inWS_8 _ (List.mem_of_getElem? (i := 14) (by decide +kernel))
theorem q_335 : Cond.code yX9_setStart cX9_setStart 3 (some .int) ∈ WS := inWS_8 _ (List.mem_of_getElem? (i := 15) (by decide +kernel))
theorem q_336 : Cond.methodLink RL 145 yL_shortestLength ∈ WS := inWS_8 _ (List.mem_of_getElem? (i := 16) (by decide +kernel))
theorem q_337 : Cond.static yL_shortestLength ∈ WS := inWS_8 _ (List.mem_of_getElem? (i := 17) (by decide +kernel))
theorem q_338 : Cond.codeWith yL_shortestLength cL_shortestLength 4 (some .int) [(0, 9, 12, 13)] ∈ WS := inWS_8 _ (List.mem_of_getElem? (i := 18) (by decide +kernel))
theorem q_339 : Cond.methodLink RL 34 yX8_shortestLength ∈ WS := inWS_8 _ (List.mem_of_getElem? (i := 19) (by decide +kernel))
theorem q_340 : Cond.instanceMethod yX8_shortestLength ∈ WS := inWS_8 _ (List.mem_of_getElem? (i := 20) (by decide +kernel))
theorem q_341 : Cond.selects RX8 yX8_shortestLength yX8_shortestLength ∈ WS := inWS_8 _ (List.mem_of_getElem? (i := 21) (by decide +kernel))
theorem q_342 : Cond.code yX8_shortestLength cX8_shortestLength 2 (some .int) ∈ WS := inWS_8 _ (List.mem_of_getElem? (i := 22) (by decide +kernel))
theorem q_343 : Cond.methodLink RL 147 yX9_shortestLength ∈ WS := inWS_8 _ (List.mem_of_getElem? (i := 23) (by decide +kernel))
theorem q_344 : Cond.instanceMethod yX9_shortestLength ∈ WS := inWS_8 _ (List.mem_of_getElem? (i := 24) (by decide +kernel))
theorem q_345 : Cond.selects RX9 yX9_shortestLength yX9_shortestLength ∈ WS := inWS_8 _ (List.mem_of_getElem? (i := 25) (by decide +kernel))
theorem q_346 : Cond.code yX9_shortestLength cX9_shortestLength 2 (some .int) ∈ WS := inWS_8 _ (List.mem_of_getElem? (i := 26) (by decide +kernel))
theorem q_347 : Cond.methodLink RL 148 yL_append ∈ WS := inWS_8 _ (List.mem_of_getElem? (i := 27) (by decide +kernel))
theorem q_348 : Cond.static yL_append ∈ WS := inWS_8 _ (List.mem_of_getElem? (i := 28) (by decide +kernel))
theorem q_349 : Cond.codeWith yL_append cL_append 4 (some .int) [(0, 9, 12, 13), (0, 9, 15, 19)] ∈ WS := inWS_8 _ (List.mem_of_getElem? (i := 29) (by decide +kernel))
theorem q_350 : Cond.methodLink RL 37 yX8_append ∈ WS := inWS_8 _ (List.mem_of_getElem? (i := 30) (by decide +kernel))
theorem q_351 : Cond.instanceMethod yX8_append ∈ WS := inWS_8 _ (List.mem_of_getElem? (i := 31) (by decide +kernel))
theorem q_352 : Cond.selects RX8 yX8_append yX8_append ∈ WS := inWS_8 _ (List.mem_of_getElem? (i := 32) (by decide +kernel))
theorem q_353 : Cond.code yX8_append cX8_append 2 (some .int) ∈ WS := inWS_8 _ (List.mem_of_getElem? (i := 33) (by decide +kernel))
theorem q_354 : Cond.instanceMethod yX6_put ∈ WS := inWS_8 _ (List.mem_of_getElem? (i := 34) (by decide +kernel))
theorem q_355 : Cond.selects RX6 yX6_put yX6_put ∈ WS := inWS_8 _ (List.mem_of_getElem? (i := 35) (by decide +kernel))
theorem q_356 : Cond.code yX6_put cX6_put 3 none ∈ WS := inWS_8 _ (List.mem_of_getElem? (i := 36) (by decide +kernel))
theorem q_357 : Cond.methodLink RL 150 yX9_append ∈ WS := inWS_8 _ (List.mem_of_getElem? (i := 37) (by decide +kernel))
theorem q_358 : Cond.instanceMethod yX9_append ∈ WS := inWS_8 _ (List.mem_of_getElem? (i := 38) (by decide +kernel))
theorem q_359 : Cond.selects RX9 yX9_append yX9_append ∈ WS := inWS_8 _ (List.mem_of_getElem? (i := 39) (by decide +kernel))
theorem q_360 : Cond.code yX9_append cX9_append 2 (some .int) ∈ WS := inWS_9 _ (List.mem_of_getElem? (i := 0) (by decide +kernel))
theorem q_361 : Cond.methodLink RL 151 yX8_clearWord ∈ WS := inWS_9 _ (List.mem_of_getElem? (i := 1) (by decide +kernel))
theorem q_362 : Cond.instanceMethod yX8_clearWord ∈ WS := inWS_9 _ (List.mem_of_getElem? (i := 2) (by decide +kernel))
theorem q_363 : Cond.selects RX8 yX8_clearWord yX8_clearWord ∈ WS := inWS_9 _ (List.mem_of_getElem? (i := 3) (by decide +kernel))
theorem q_364 : Cond.code yX8_clearWord cX8_clearWord 2 (some .int) ∈ WS := inWS_9 _ (List.mem_of_getElem? (i := 4) (by decide +kernel))
theorem q_365 : Cond.methodLink RL 154 yX9_clearWord ∈ WS := inWS_9 _ (List.mem_of_getElem? (i := 5) (by decide +kernel))
theorem q_366 : Cond.instanceMethod yX9_clearWord ∈ WS := inWS_9 _ (List.mem_of_getElem? (i := 6) (by decide +kernel))
theorem q_367 : Cond.selects RX9 yX9_clearWord yX9_clearWord ∈ WS := inWS_9 _ (List.mem_of_getElem? (i := 7) (by decide +kernel))
theorem q_368 : Cond.code yX9_clearWord cX9_clearWord 2 (some .int) ∈ WS := inWS_9 _ (List.mem_of_getElem? (i := 8) (by decide +kernel))
theorem q_369 : Cond.methodLink RL 155 yX8_wordLength ∈ WS := inWS_9 _ (List.mem_of_getElem? (i := 9) (by decide +kernel))
theorem q_370 : Cond.instanceMethod yX8_wordLength ∈ WS := inWS_9 _ (List.mem_of_getElem? (i := 10) (by decide +kernel))
theorem q_371 : Cond.selects RX8 yX8_wordLength yX8_wordLength ∈ WS := inWS_9 _ (List.mem_of_getElem? (i := 11) (by decide +kernel))
theorem q_372 : Cond.code yX8_wordLength cX8_wordLength 1 (some .int) ∈ WS := inWS_9 _ (List.mem_of_getElem? (i := 12) (by decide +kernel))
theorem q_373 : Cond.methodLink RL 158 yX9_wordLength ∈ WS := inWS_9 _ (List.mem_of_getElem? (i := 13) (by decide +kernel))
theorem q_374 : Cond.instanceMethod yX9_wordLength ∈ WS := inWS_9 _ (List.mem_of_getElem? (i := 14) (by decide +kernel))
theorem q_375 : Cond.selects RX9 yX9_wordLength yX9_wordLength ∈ WS := inWS_9 _ (List.mem_of_getElem? (i := 15) (by decide +kernel))
theorem q_376 : Cond.code yX9_wordLength cX9_wordLength 1 (some .int) ∈ WS := inWS_9 _ (List.mem_of_getElem? (i := 16) (by decide +kernel))
theorem q_377 : Cond.methodLink RL 159 yL_terminalAt ∈ WS := inWS_9 _ (List.mem_of_getElem? (i := 17) (by decide +kernel))
theorem q_378 : Cond.static yL_terminalAt ∈ WS := inWS_9 _ (List.mem_of_getElem? (i := 18) (by decide +kernel))
theorem q_379 : Cond.codeWith yL_terminalAt cL_terminalAt 4 (some .int) [(0, 9, 12, 29)] ∈ WS := inWS_9 _ (List.mem_of_getElem? (i := 19) (by decide +kernel))
theorem q_380 : Cond.classLink RL 29 "java/lang/IndexOutOfBoundsException" ∈ WS := inWS_9 _ (List.mem_of_getElem? (i := 20) (by decide +kernel))
theorem q_381 : Cond.methodLink RL 40 yX8_terminalAt ∈ WS := inWS_9 _ (List.mem_of_getElem? (i := 21) (by decide +kernel))
theorem q_382 : Cond.instanceMethod yX8_terminalAt ∈ WS := inWS_9 _ (List.mem_of_getElem? (i := 22) (by decide +kernel))
theorem q_383 : Cond.selects RX8 yX8_terminalAt yX8_terminalAt ∈ WS := inWS_9 _ (List.mem_of_getElem? (i := 23) (by decide +kernel))
theorem q_384 : Cond.code yX8_terminalAt cX8_terminalAt 2 (some .int) ∈ WS := inWS_9 _ (List.mem_of_getElem? (i := 24) (by decide +kernel))
theorem q_385 : Cond.instanceMethod yX6_letter ∈ WS := inWS_9 _ (List.mem_of_getElem? (i := 25) (by decide +kernel))
theorem q_386 : Cond.selects RX6 yX6_letter yX6_letter ∈ WS := inWS_9 _ (List.mem_of_getElem? (i := 26) (by decide +kernel))
theorem q_387 : Cond.code yX6_letter cX6_letter 2 (some .int) ∈ WS := inWS_9 _ (List.mem_of_getElem? (i := 27) (by decide +kernel))
theorem q_388 : Cond.methodLink RL 161 yX9_terminalAt ∈ WS := inWS_9 _ (List.mem_of_getElem? (i := 28) (by decide +kernel))
theorem q_389 : Cond.instanceMethod yX9_terminalAt ∈ WS := inWS_9 _ (List.mem_of_getElem? (i := 29) (by decide +kernel))
theorem q_390 : Cond.selects RX9 yX9_terminalAt yX9_terminalAt ∈ WS := inWS_9 _ (List.mem_of_getElem? (i := 30) (by decide +kernel))
theorem q_391 : Cond.code yX9_terminalAt cX9_terminalAt 2 (some .int) ∈ WS := inWS_9 _ (List.mem_of_getElem? (i := 31) (by decide +kernel))
theorem q_392 : Cond.methodLink RL 162 yX8_treeCount ∈ WS := inWS_9 _ (List.mem_of_getElem? (i := 32) (by decide +kernel))
theorem q_393 : Cond.instanceMethod yX8_treeCount ∈ WS := inWS_9 _ (List.mem_of_getElem? (i := 33) (by decide +kernel))
theorem q_394 : Cond.selects RX8 yX8_treeCount yX8_treeCount ∈ WS := inWS_9 _ (List.mem_of_getElem? (i := 34) (by decide +kernel))
theorem q_395 : Cond.code yX8_treeCount cX8_treeCount 1 (some .long) ∈ WS := inWS_9 _ (List.mem_of_getElem? (i := 35) (by decide +kernel))
theorem q_396 : Cond.methodLink RX8 173 yX8_countSpans ∈ WS := inWS_9 _ (List.mem_of_getElem? (i := 36) (by decide +kernel))
theorem q_397 : Cond.instanceMethod yX8_countSpans ∈ WS := inWS_9 _ (List.mem_of_getElem? (i := 37) (by decide +kernel))
theorem q_398 : Cond.selects RX8 yX8_countSpans yX8_countSpans ∈ WS := inWS_9 _ (List.mem_of_getElem? (i := 38) (by decide +kernel))
theorem q_399 : Cond.code yX8_countSpans cX8_countSpans 1 none ∈ WS := inWS_9 _ (List.mem_of_getElem? (i := 39) (by decide +kernel))
theorem q_400 : Cond.methodLink RX8 309 ⟨"GrammarAmbiguity$SpanCounts", "forget", "()V"⟩ ∈ WS := inWS_10 _ (List.mem_of_getElem? (i := 0) (by decide +kernel))
theorem q_401 : Cond.sameMethod "GrammarAmbiguity$SpanCounts" "GrammarAmbiguity$Counts" "forget" "()V" ∈ WS := inWS_10 _ (List.mem_of_getElem? (i := 1) (by decide +kernel))
theorem q_402 : Cond.selects RX4 ⟨"GrammarAmbiguity$SpanCounts", "forget", "()V"⟩ yX0_forget ∈ WS := inWS_10 _ (List.mem_of_getElem? (i := 2) (by decide +kernel))
theorem q_403 : Cond.methodLink RX8 310 ⟨"GrammarAmbiguity$SpanCounts", "fill", "(I)V"⟩ ∈ WS := inWS_10 _ (List.mem_of_getElem? (i := 3) (by decide +kernel))
theorem q_404 : Cond.sameMethod "GrammarAmbiguity$SpanCounts" "GrammarAmbiguity$Counts" "fill" "(I)V" ∈ WS := inWS_10 _ (List.mem_of_getElem? (i := 4) (by decide +kernel))
theorem q_405 : Cond.selects RX4 ⟨"GrammarAmbiguity$SpanCounts", "fill", "(I)V"⟩ yX0_fill ∈ WS := inWS_10 _ (List.mem_of_getElem? (i := 5) (by decide +kernel))
theorem q_406 : Cond.instanceMethod yX0_fill ∈ WS := inWS_10 _ (List.mem_of_getElem? (i := 6) (by decide +kernel))
theorem q_407 : Cond.code yX0_fill cX0_fill 9 none ∈ WS := inWS_10 _ (List.mem_of_getElem? (i := 7) (by decide +kernel))
theorem q_408 : Cond.methodLink RX0 43 Lib.Math.max.name ∈ WS := inWS_10 _ (List.mem_of_getElem? (i := 8) (by decide +kernel))
theorem q_409 : Cond.static Lib.Math.max.name ∈ WS := inWS_10 _ (List.mem_of_getElem? (i := 9) (by decide +kernel))
theorem q_410 : Cond.initialized "java/lang/Math" ∈ WS := inWS_10 _ (List.mem_of_getElem? (i := 10) (by decide +kernel))
theorem q_411 : Cond.code Lib.Math.max.name Lib.Math.max.code 2 (some .int) ∈ WS := inWS_10 _ (List.mem_of_getElem? (i := 11) (by decide +kernel))
theorem q_412 : Cond.methodLink RX0 23 ⟨"GrammarAmbiguity$Counts", "pieces", "(I)I"⟩ ∈ WS := inWS_10 _ (List.mem_of_getElem? (i := 12) (by decide +kernel))
theorem q_413 : Cond.sameMethod "GrammarAmbiguity$Counts" "GrammarAmbiguity$Counts" "pieces" "(I)I" ∈ WS := inWS_10 _ (List.mem_of_getElem? (i := 13) (by decide +kernel))
theorem q_414 : Cond.selects RX2 ⟨"GrammarAmbiguity$Counts", "pieces", "(I)I"⟩ yX2_pieces ∈ WS := inWS_10 _ (List.mem_of_getElem? (i := 14) (by decide +kernel))
theorem q_415 : Cond.instanceMethod yX2_pieces ∈ WS := inWS_10 _ (List.mem_of_getElem? (i := 15) (by decide +kernel))
theorem q_416 : Cond.code yX2_pieces cX2_pieces 2 (some .int) ∈ WS := inWS_10 _ (List.mem_of_getElem? (i := 16) (by decide +kernel))
theorem q_417 : Cond.selects RX4 ⟨"GrammarAmbiguity$Counts", "pieces", "(I)I"⟩ yX4_pieces ∈ WS := inWS_10 _ (List.mem_of_getElem? (i := 17) (by decide +kernel))
theorem q_418 : Cond.instanceMethod yX4_pieces ∈ WS := inWS_10 _ (List.mem_of_getElem? (i := 18) (by decide +kernel))
theorem q_419 : Cond.code yX4_pieces cX4_pieces 2 (some .int) ∈ WS := inWS_10 _ (List.mem_of_getElem? (i := 19) (by decide +kernel))
theorem q_420 : Cond.methodLink RX0 35 ⟨"GrammarAmbiguity$Counts", "ofProduction", "(IIII)J"⟩ ∈ WS := inWS_10 _ (List.mem_of_getElem? (i := 20) (by decide +kernel))
theorem q_421 : Cond.sameMethod "GrammarAmbiguity$Counts" "GrammarAmbiguity$Counts" "ofProduction" "(IIII)J" ∈ WS := inWS_10 _ (List.mem_of_getElem? (i := 21) (by decide +kernel))
theorem q_422 : Cond.selects RX2 ⟨"GrammarAmbiguity$Counts", "ofProduction", "(IIII)J"⟩ yX0_ofProduction ∈ WS := inWS_10 _ (List.mem_of_getElem? (i := 22) (by decide +kernel))
theorem q_423 : Cond.instanceMethod yX0_ofProduction ∈ WS := inWS_10 _ (List.mem_of_getElem? (i := 23) (by decide +kernel))
theorem q_424 : Cond.code yX0_ofProduction cX0_ofProduction 8 (some .long) ∈ WS := inWS_10 _ (List.mem_of_getElem? (i := 24) (by decide +kernel))
theorem q_425 : Cond.methodLink RX0 59 ⟨"GrammarAmbiguity$Counts", "ofFirst", "(IIII)J"⟩ ∈ WS := inWS_10 _ (List.mem_of_getElem? (i := 25) (by decide +kernel))
theorem q_426 : Cond.sameMethod "GrammarAmbiguity$Counts" "GrammarAmbiguity$Counts" "ofFirst" "(IIII)J" ∈ WS := inWS_10 _ (List.mem_of_getElem? (i := 26) (by decide +kernel))
theorem q_427 : Cond.selects RX2 ⟨"GrammarAmbiguity$Counts", "ofFirst", "(IIII)J"⟩ yX0_ofFirst ∈ WS := inWS_10 _ (List.mem_of_getElem? (i := 27) (by decide +kernel))
theorem q_428 : Cond.instanceMethod yX0_ofFirst ∈ WS := inWS_10 _ (List.mem_of_getElem? (i := 28) (by decide +kernel))
theorem q_429 : Cond.code yX0_ofFirst cX0_ofFirst 14 (some .long) ∈ WS := inWS_10 _ (List.mem_of_getElem? (i := 29) (by decide +kernel))
theorem q_430 : Cond.methodLink RX0 62 ⟨"GrammarAmbiguity$Counts", "part", "(II)I"⟩ ∈ WS := inWS_10 _ (List.mem_of_getElem? (i := 30) (by decide +kernel))
theorem q_431 : Cond.sameMethod "GrammarAmbiguity$Counts" "GrammarAmbiguity$Counts" "part" "(II)I" ∈ WS := inWS_10 _ (List.mem_of_getElem? (i := 31) (by decide +kernel))
theorem q_432 : Cond.selects RX2 ⟨"GrammarAmbiguity$Counts", "part", "(II)I"⟩ yX2_part ∈ WS := inWS_10 _ (List.mem_of_getElem? (i := 32) (by decide +kernel))
theorem q_433 : Cond.instanceMethod yX2_part ∈ WS := inWS_10 _ (List.mem_of_getElem? (i := 33) (by decide +kernel))
theorem q_434 : Cond.code yX2_part cX2_part 3 (some .int) ∈ WS := inWS_10 _ (List.mem_of_getElem? (i := 34) (by decide +kernel))
theorem q_435 : Cond.selects RX4 ⟨"GrammarAmbiguity$Counts", "part", "(II)I"⟩ yX4_part ∈ WS := inWS_10 _ (List.mem_of_getElem? (i := 35) (by decide +kernel))
theorem q_436 : Cond.instanceMethod yX4_part ∈ WS := inWS_10 _ (List.mem_of_getElem? (i := 36) (by decide +kernel))
theorem q_437 : Cond.code yX4_part cX4_part 3 (some .int) ∈ WS := inWS_10 _ (List.mem_of_getElem? (i := 37) (by decide +kernel))
theorem q_438 : Cond.methodLink RX0 65 ⟨"GrammarAmbiguity$Counts", "count", "(III)J"⟩ ∈ WS := inWS_10 _ (List.mem_of_getElem? (i := 38) (by decide +kernel))
theorem q_439 : Cond.sameMethod "GrammarAmbiguity$Counts" "GrammarAmbiguity$Counts" "count" "(III)J" ∈ WS := inWS_10 _ (List.mem_of_getElem? (i := 39) (by decide +kernel))
theorem q_440 : Cond.selects RX2 ⟨"GrammarAmbiguity$Counts", "count", "(III)J"⟩ yX0_count ∈ WS := inWS_11 _ (List.mem_of_getElem? (i := 0) (by decide +kernel))
theorem q_441 : Cond.instanceMethod yX0_count ∈ WS := inWS_11 _ (List.mem_of_getElem? (i := 1) (by decide +kernel))
theorem q_442 : Cond.code yX0_count cX0_count 5 (some .long) ∈ WS := inWS_11 _ (List.mem_of_getElem? (i := 2) (by decide +kernel))
theorem q_443 : Cond.methodLink RX0 52 ⟨"GrammarAmbiguity$Counts", "fits", "(II)Z"⟩ ∈ WS := inWS_11 _ (List.mem_of_getElem? (i := 3) (by decide +kernel))
theorem q_444 : Cond.sameMethod "GrammarAmbiguity$Counts" "GrammarAmbiguity$Counts" "fits" "(II)Z" ∈ WS := inWS_11 _ (List.mem_of_getElem? (i := 4) (by decide +kernel))
theorem q_445 : Cond.selects RX2 ⟨"GrammarAmbiguity$Counts", "fits", "(II)Z"⟩ yX2_fits ∈ WS := inWS_11 _ (List.mem_of_getElem? (i := 5) (by decide +kernel))
theorem q_446 : Cond.instanceMethod yX2_fits ∈ WS := inWS_11 _ (List.mem_of_getElem? (i := 6) (by decide +kernel))
theorem q_447 : Cond.code yX2_fits cX2_fits 3 (some .boolean) ∈ WS := inWS_11 _ (List.mem_of_getElem? (i := 7) (by decide +kernel))
theorem q_448 : Cond.selects RX4 ⟨"GrammarAmbiguity$Counts", "fits", "(II)Z"⟩ yX4_fits ∈ WS := inWS_11 _ (List.mem_of_getElem? (i := 8) (by decide +kernel))
theorem q_449 : Cond.instanceMethod yX4_fits ∈ WS := inWS_11 _ (List.mem_of_getElem? (i := 9) (by decide +kernel))
theorem q_450 : Cond.code yX4_fits cX4_fits 3 (some .boolean) ∈ WS := inWS_11 _ (List.mem_of_getElem? (i := 10) (by decide +kernel))
theorem q_451 : Cond.methodLink RX0 49 ⟨"GrammarAmbiguity$Counts", "place", "(II)I"⟩ ∈ WS := inWS_11 _ (List.mem_of_getElem? (i := 11) (by decide +kernel))
theorem q_452 : Cond.sameMethod "GrammarAmbiguity$Counts" "GrammarAmbiguity$Counts" "place" "(II)I" ∈ WS := inWS_11 _ (List.mem_of_getElem? (i := 12) (by decide +kernel))
theorem q_453 : Cond.selects RX2 ⟨"GrammarAmbiguity$Counts", "place", "(II)I"⟩ yX2_place ∈ WS := inWS_11 _ (List.mem_of_getElem? (i := 13) (by decide +kernel))
theorem q_454 : Cond.instanceMethod yX2_place ∈ WS := inWS_11 _ (List.mem_of_getElem? (i := 14) (by decide +kernel))
theorem q_455 : Cond.code yX2_place cX2_place 3 (some .int) ∈ WS := inWS_11 _ (List.mem_of_getElem? (i := 15) (by decide +kernel))
theorem q_456 : Cond.selects RX4 ⟨"GrammarAmbiguity$Counts", "place", "(II)I"⟩ yX4_place ∈ WS := inWS_11 _ (List.mem_of_getElem? (i := 16) (by decide +kernel))
theorem q_457 : Cond.instanceMethod yX4_place ∈ WS := inWS_11 _ (List.mem_of_getElem? (i := 17) (by decide +kernel))
theorem q_458 : Cond.code yX4_place cX4_place 3 (some .int) ∈ WS := inWS_11 _ (List.mem_of_getElem? (i := 18) (by decide +kernel))
theorem q_459 : Cond.selects RX4 ⟨"GrammarAmbiguity$Counts", "count", "(III)J"⟩ yX0_count ∈ WS := inWS_11 _ (List.mem_of_getElem? (i := 19) (by decide +kernel))
theorem q_460 : Cond.methodLink RX0 69 ⟨"GrammarAmbiguity$Counts", "tailsOf", "(IIIII)J"⟩ ∈ WS := inWS_11 _ (List.mem_of_getElem? (i := 20) (by decide +kernel))
theorem q_461 : Cond.sameMethod "GrammarAmbiguity$Counts" "GrammarAmbiguity$Counts" "tailsOf" "(IIIII)J" ∈ WS := inWS_11 _ (List.mem_of_getElem? (i := 21) (by decide +kernel))
theorem q_462 : Cond.selects RX2 ⟨"GrammarAmbiguity$Counts", "tailsOf", "(IIIII)J"⟩ yX0_tailsOf ∈ WS := inWS_11 _ (List.mem_of_getElem? (i := 22) (by decide +kernel))
theorem q_463 : Cond.instanceMethod yX0_tailsOf ∈ WS := inWS_11 _ (List.mem_of_getElem? (i := 23) (by decide +kernel))
theorem q_464 : Cond.code yX0_tailsOf cX0_tailsOf 9 (some .long) ∈ WS := inWS_11 _ (List.mem_of_getElem? (i := 24) (by decide +kernel))
theorem q_465 : Cond.selects RX4 ⟨"GrammarAmbiguity$Counts", "tailsOf", "(IIIII)J"⟩ yX0_tailsOf ∈ WS := inWS_11 _ (List.mem_of_getElem? (i := 25) (by decide +kernel))
theorem q_466 : Cond.selects RX4 ⟨"GrammarAmbiguity$Counts", "ofFirst", "(IIII)J"⟩ yX0_ofFirst ∈ WS := inWS_11 _ (List.mem_of_getElem? (i := 26) (by decide +kernel))
theorem q_467 : Cond.selects RX4 ⟨"GrammarAmbiguity$Counts", "ofProduction", "(IIII)J"⟩ yX0_ofProduction ∈ WS := inWS_11 _ (List.mem_of_getElem? (i := 27) (by decide +kernel))
theorem q_468 : Cond.methodLink RX0 39 ⟨"GrammarAmbiguity$Counts", "put", "(IIIJ)V"⟩ ∈ WS := inWS_11 _ (List.mem_of_getElem? (i := 28) (by decide +kernel))
theorem q_469 : Cond.sameMethod "GrammarAmbiguity$Counts" "GrammarAmbiguity$Counts" "put" "(IIIJ)V" ∈ WS := inWS_11 _ (List.mem_of_getElem? (i := 29) (by decide +kernel))
theorem q_470 : Cond.selects RX2 ⟨"GrammarAmbiguity$Counts", "put", "(IIIJ)V"⟩ yX0_put ∈ WS := inWS_11 _ (List.mem_of_getElem? (i := 30) (by decide +kernel))
theorem q_471 : Cond.instanceMethod yX0_put ∈ WS := inWS_11 _ (List.mem_of_getElem? (i := 31) (by decide +kernel))
theorem q_472 : Cond.code yX0_put cX0_put 7 none ∈ WS := inWS_11 _ (List.mem_of_getElem? (i := 32) (by decide +kernel))
theorem q_473 : Cond.selects RX4 ⟨"GrammarAmbiguity$Counts", "put", "(IIIJ)V"⟩ yX0_put ∈ WS := inWS_11 _ (List.mem_of_getElem? (i := 33) (by decide +kernel))
theorem q_474 : Cond.methodLink RX8 176 ⟨"GrammarAmbiguity$SpanCounts", "count", "(III)J"⟩ ∈ WS := inWS_11 _ (List.mem_of_getElem? (i := 34) (by decide +kernel))
theorem q_475 : Cond.sameMethod "GrammarAmbiguity$SpanCounts" "GrammarAmbiguity$Counts" "count" "(III)J" ∈ WS := inWS_11 _ (List.mem_of_getElem? (i := 35) (by decide +kernel))
theorem q_476 : Cond.selects RX4 ⟨"GrammarAmbiguity$SpanCounts", "count", "(III)J"⟩ yX0_count ∈ WS := inWS_11 _ (List.mem_of_getElem? (i := 36) (by decide +kernel))
theorem q_477 : Cond.methodLink RL 165 yX9_treeCount ∈ WS := inWS_11 _ (List.mem_of_getElem? (i := 37) (by decide +kernel))
theorem q_478 : Cond.instanceMethod yX9_treeCount ∈ WS := inWS_11 _ (List.mem_of_getElem? (i := 38) (by decide +kernel))
theorem q_479 : Cond.selects RX9 yX9_treeCount yX9_treeCount ∈ WS := inWS_11 _ (List.mem_of_getElem? (i := 39) (by decide +kernel))
theorem q_480 : Cond.code yX9_treeCount cX9_treeCount 1 (some .long) ∈ WS := inWS_12 _ (List.mem_of_getElem? (i := 0) (by decide +kernel))
theorem q_481 : Cond.methodLink RX9 146 yX9_countCurrent ∈ WS := inWS_12 _ (List.mem_of_getElem? (i := 1) (by decide +kernel))
theorem q_482 : Cond.instanceMethod yX9_countCurrent ∈ WS := inWS_12 _ (List.mem_of_getElem? (i := 2) (by decide +kernel))
theorem q_483 : Cond.selects RX9 yX9_countCurrent yX9_countCurrent ∈ WS := inWS_12 _ (List.mem_of_getElem? (i := 3) (by decide +kernel))
theorem q_484 : Cond.code yX9_countCurrent cX9_countCurrent 2 (some .long) ∈ WS := inWS_12 _ (List.mem_of_getElem? (i := 4) (by decide +kernel))
theorem q_485 : Cond.methodLink RX9 142 yX9_countByPart ∈ WS := inWS_12 _ (List.mem_of_getElem? (i := 5) (by decide +kernel))
theorem q_486 : Cond.instanceMethod yX9_countByPart ∈ WS := inWS_12 _ (List.mem_of_getElem? (i := 6) (by decide +kernel))
theorem q_487 : Cond.selects RX9 yX9_countByPart yX9_countByPart ∈ WS := inWS_12 _ (List.mem_of_getElem? (i := 7) (by decide +kernel))
theorem q_488 : Cond.code yX9_countByPart cX9_countByPart 5 (some .long) ∈ WS := inWS_12 _ (List.mem_of_getElem? (i := 8) (by decide +kernel))
theorem q_489 : Cond.methodLink RX9 139 yX9_treesOfProduction ∈ WS := inWS_12 _ (List.mem_of_getElem? (i := 9) (by decide +kernel))
theorem q_490 : Cond.instanceMethod yX9_treesOfProduction ∈ WS := inWS_12 _ (List.mem_of_getElem? (i := 10) (by decide +kernel))
theorem q_491 : Cond.selects RX9 yX9_treesOfProduction yX9_treesOfProduction ∈ WS := inWS_12 _ (List.mem_of_getElem? (i := 11) (by decide +kernel))
theorem q_492 : Cond.code yX9_treesOfProduction cX9_treesOfProduction 9 (some .long) ∈ WS := inWS_12 _ (List.mem_of_getElem? (i := 12) (by decide +kernel))
theorem q_493 : Cond.methodLink RX9 135 yX9_treesFrom ∈ WS := inWS_12 _ (List.mem_of_getElem? (i := 13) (by decide +kernel))
theorem q_494 : Cond.instanceMethod yX9_treesFrom ∈ WS := inWS_12 _ (List.mem_of_getElem? (i := 14) (by decide +kernel))
theorem q_495 : Cond.selects RX9 yX9_treesFrom yX9_treesFrom ∈ WS := inWS_12 _ (List.mem_of_getElem? (i := 15) (by decide +kernel))
theorem q_496 : Cond.code yX9_treesFrom cX9_treesFrom 8 (some .long) ∈ WS := inWS_12 _ (List.mem_of_getElem? (i := 16) (by decide +kernel))
theorem q_497 : Cond.methodLink RX9 131 yX9_treesOfPart ∈ WS := inWS_12 _ (List.mem_of_getElem? (i := 17) (by decide +kernel))
theorem q_498 : Cond.instanceMethod yX9_treesOfPart ∈ WS := inWS_12 _ (List.mem_of_getElem? (i := 18) (by decide +kernel))
theorem q_499 : Cond.selects RX9 yX9_treesOfPart yX9_treesOfPart ∈ WS := inWS_12 _ (List.mem_of_getElem? (i := 19) (by decide +kernel))
theorem q_500 : Cond.code yX9_treesOfPart cX9_treesOfPart 4 (some .long) ∈ WS := inWS_12 _ (List.mem_of_getElem? (i := 20) (by decide +kernel))
theorem q_501 : Cond.methodLink RL 166 yL_treesOfLength ∈ WS := inWS_12 _ (List.mem_of_getElem? (i := 21) (by decide +kernel))
theorem q_502 : Cond.static yL_treesOfLength ∈ WS := inWS_12 _ (List.mem_of_getElem? (i := 22) (by decide +kernel))
theorem q_503 : Cond.codeWith yL_treesOfLength cL_treesOfLength 4 (some .int) [(0, 8, 11, 13)] ∈ WS := inWS_12 _ (List.mem_of_getElem? (i := 23) (by decide +kernel))
theorem q_504 : Cond.methodLink RL 43 yX8_treesOfLength ∈ WS := inWS_12 _ (List.mem_of_getElem? (i := 24) (by decide +kernel))
theorem q_505 : Cond.instanceMethod yX8_treesOfLength ∈ WS := inWS_12 _ (List.mem_of_getElem? (i := 25) (by decide +kernel))
theorem q_506 : Cond.selects RX8 yX8_treesOfLength yX8_treesOfLength ∈ WS := inWS_12 _ (List.mem_of_getElem? (i := 26) (by decide +kernel))
theorem q_507 : Cond.code yX8_treesOfLength cX8_treesOfLength 2 (some .long) ∈ WS := inWS_12 _ (List.mem_of_getElem? (i := 27) (by decide +kernel))
theorem q_508 : Cond.methodLink RX8 180 yX8_checkLength ∈ WS := inWS_12 _ (List.mem_of_getElem? (i := 28) (by decide +kernel))
theorem q_509 : Cond.static yX8_checkLength ∈ WS := inWS_12 _ (List.mem_of_getElem? (i := 29) (by decide +kernel))
theorem q_510 : Cond.code yX8_checkLength cX8_checkLength 2 none ∈ WS := inWS_12 _ (List.mem_of_getElem? (i := 30) (by decide +kernel))
theorem q_511 : Cond.methodLink RX8 183 yX8_allTrees ∈ WS := inWS_12 _ (List.mem_of_getElem? (i := 31) (by decide +kernel))
theorem q_512 : Cond.instanceMethod yX8_allTrees ∈ WS := inWS_12 _ (List.mem_of_getElem? (i := 32) (by decide +kernel))
theorem q_513 : Cond.selects RX8 yX8_allTrees yX8_allTrees ∈ WS := inWS_12 _ (List.mem_of_getElem? (i := 33) (by decide +kernel))
theorem q_514 : Cond.code yX8_allTrees cX8_allTrees 2 (some .long) ∈ WS := inWS_12 _ (List.mem_of_getElem? (i := 34) (by decide +kernel))
theorem q_515 : Cond.methodLink RX8 313 ⟨"GrammarAmbiguity$LengthCounts", "fill", "(I)V"⟩ ∈ WS := inWS_12 _ (List.mem_of_getElem? (i := 35) (by decide +kernel))
theorem q_516 : Cond.sameMethod "GrammarAmbiguity$LengthCounts" "GrammarAmbiguity$Counts" "fill" "(I)V" ∈ WS := inWS_12 _ (List.mem_of_getElem? (i := 36) (by decide +kernel))
theorem q_517 : Cond.selects RX2 ⟨"GrammarAmbiguity$LengthCounts", "fill", "(I)V"⟩ yX0_fill ∈ WS := inWS_12 _ (List.mem_of_getElem? (i := 37) (by decide +kernel))
theorem q_518 : Cond.methodLink RX8 314 ⟨"GrammarAmbiguity$LengthCounts", "count", "(III)J"⟩ ∈ WS := inWS_12 _ (List.mem_of_getElem? (i := 38) (by decide +kernel))
theorem q_519 : Cond.sameMethod "GrammarAmbiguity$LengthCounts" "GrammarAmbiguity$Counts" "count" "(III)J" ∈ WS := inWS_12 _ (List.mem_of_getElem? (i := 39) (by decide +kernel))
theorem q_520 : Cond.selects RX2 ⟨"GrammarAmbiguity$LengthCounts", "count", "(III)J"⟩ yX0_count ∈ WS := inWS_13 _ (List.mem_of_getElem? (i := 0) (by decide +kernel))
theorem q_521 : Cond.methodLink RL 168 yX9_treesOfLength ∈ WS := inWS_13 _ (List.mem_of_getElem? (i := 1) (by decide +kernel))
theorem q_522 : Cond.instanceMethod yX9_treesOfLength ∈ WS := inWS_13 _ (List.mem_of_getElem? (i := 2) (by decide +kernel))
theorem q_523 : Cond.selects RX9 yX9_treesOfLength yX9_treesOfLength ∈ WS := inWS_13 _ (List.mem_of_getElem? (i := 3) (by decide +kernel))
theorem q_524 : Cond.code yX9_treesOfLength cX9_treesOfLength 2 (some .long) ∈ WS := inWS_13 _ (List.mem_of_getElem? (i := 4) (by decide +kernel))
theorem q_525 : Cond.methodLink RX9 128 yX9_countByLength ∈ WS := inWS_13 _ (List.mem_of_getElem? (i := 5) (by decide +kernel))
theorem q_526 : Cond.instanceMethod yX9_countByLength ∈ WS := inWS_13 _ (List.mem_of_getElem? (i := 6) (by decide +kernel))
theorem q_527 : Cond.selects RX9 yX9_countByLength yX9_countByLength ∈ WS := inWS_13 _ (List.mem_of_getElem? (i := 7) (by decide +kernel))
theorem q_528 : Cond.code yX9_countByLength cX9_countByLength 8 none ∈ WS := inWS_13 _ (List.mem_of_getElem? (i := 8) (by decide +kernel))
theorem q_529 : Cond.methodLink RX9 120 yX9_treesWith ∈ WS := inWS_13 _ (List.mem_of_getElem? (i := 9) (by decide +kernel))
theorem q_530 : Cond.instanceMethod yX9_treesWith ∈ WS := inWS_13 _ (List.mem_of_getElem? (i := 10) (by decide +kernel))
theorem q_531 : Cond.selects RX9 yX9_treesWith yX9_treesWith ∈ WS := inWS_13 _ (List.mem_of_getElem? (i := 11) (by decide +kernel))
theorem q_532 : Cond.code yX9_treesWith cX9_treesWith 7 (some .long) ∈ WS := inWS_13 _ (List.mem_of_getElem? (i := 12) (by decide +kernel))
theorem q_533 : Cond.methodLink RX9 124 yX9_partsOfLength ∈ WS := inWS_13 _ (List.mem_of_getElem? (i := 13) (by decide +kernel))
theorem q_534 : Cond.instanceMethod yX9_partsOfLength ∈ WS := inWS_13 _ (List.mem_of_getElem? (i := 14) (by decide +kernel))
theorem q_535 : Cond.selects RX9 yX9_partsOfLength yX9_partsOfLength ∈ WS := inWS_13 _ (List.mem_of_getElem? (i := 15) (by decide +kernel))
theorem q_536 : Cond.code yX9_partsOfLength cX9_partsOfLength 3 (some .long) ∈ WS := inWS_13 _ (List.mem_of_getElem? (i := 16) (by decide +kernel))
theorem q_537 : Cond.methodLink RL 169 yL_wordsOfLength ∈ WS := inWS_13 _ (List.mem_of_getElem? (i := 17) (by decide +kernel))
theorem q_538 : Cond.static yL_wordsOfLength ∈ WS := inWS_13 _ (List.mem_of_getElem? (i := 18) (by decide +kernel))
theorem q_539 : Cond.codeWith yL_wordsOfLength cL_wordsOfLength 5 (some .int) [(0, 10, 13, 13)] ∈ WS := inWS_13 _ (List.mem_of_getElem? (i := 19) (by decide +kernel))
theorem q_540 : Cond.methodLink RL 47 yX8_wordsOfLength ∈ WS := inWS_13 _ (List.mem_of_getElem? (i := 20) (by decide +kernel))
theorem q_541 : Cond.instanceMethod yX8_wordsOfLength ∈ WS := inWS_13 _ (List.mem_of_getElem? (i := 21) (by decide +kernel))
theorem q_542 : Cond.selects RX8 yX8_wordsOfLength yX8_wordsOfLength ∈ WS := inWS_13 _ (List.mem_of_getElem? (i := 22) (by decide +kernel))
theorem q_543 : Cond.code yX8_wordsOfLength cX8_wordsOfLength 5 (some .int) ∈ WS := inWS_13 _ (List.mem_of_getElem? (i := 23) (by decide +kernel))
theorem q_544 : Cond.methodLink RX8 189 yX8_countWords ∈ WS := inWS_13 _ (List.mem_of_getElem? (i := 24) (by decide +kernel))
theorem q_545 : Cond.instanceMethod yX8_countWords ∈ WS := inWS_13 _ (List.mem_of_getElem? (i := 25) (by decide +kernel))
theorem q_546 : Cond.selects RX8 yX8_countWords yX8_countWords ∈ WS := inWS_13 _ (List.mem_of_getElem? (i := 26) (by decide +kernel))
theorem q_547 : Cond.code yX8_countWords cX8_countWords 2 none ∈ WS := inWS_13 _ (List.mem_of_getElem? (i := 27) (by decide +kernel))
theorem q_548 : Cond.instanceMethod yX7_fill ∈ WS := inWS_13 _ (List.mem_of_getElem? (i := 28) (by decide +kernel))
theorem q_549 : Cond.selects RX7 yX7_fill yX7_fill ∈ WS := inWS_13 _ (List.mem_of_getElem? (i := 29) (by decide +kernel))
theorem q_550 : Cond.code yX7_fill cX7_fill 6 none ∈ WS := inWS_13 _ (List.mem_of_getElem? (i := 30) (by decide +kernel))
theorem q_551 : Cond.methodLink RX7 53 Lib.Math.max.name ∈ WS := inWS_13 _ (List.mem_of_getElem? (i := 31) (by decide +kernel))
theorem q_552 : Cond.methodLink RX7 36 yX7_clear ∈ WS := inWS_13 _ (List.mem_of_getElem? (i := 32) (by decide +kernel))
theorem q_553 : Cond.instanceMethod yX7_clear ∈ WS := inWS_13 _ (List.mem_of_getElem? (i := 33) (by decide +kernel))
theorem q_554 : Cond.selects RX7 yX7_clear yX7_clear ∈ WS := inWS_13 _ (List.mem_of_getElem? (i := 34) (by decide +kernel))
theorem q_555 : Cond.code yX7_clear cX7_clear 6 none ∈ WS := inWS_13 _ (List.mem_of_getElem? (i := 35) (by decide +kernel))
theorem q_556 : Cond.methodLink RX7 65 yX7_begin ∈ WS := inWS_13 _ (List.mem_of_getElem? (i := 36) (by decide +kernel))
theorem q_557 : Cond.instanceMethod yX7_begin ∈ WS := inWS_13 _ (List.mem_of_getElem? (i := 37) (by decide +kernel))
theorem q_558 : Cond.selects RX7 yX7_begin yX7_begin ∈ WS := inWS_13 _ (List.mem_of_getElem? (i := 38) (by decide +kernel))
theorem q_559 : Cond.code yX7_begin cX7_begin 4 (some .int) ∈ WS := inWS_13 _ (List.mem_of_getElem? (i := 39) (by decide +kernel))
theorem q_560 : Cond.methodLink RX7 68 yX7_ofLength ∈ WS := inWS_14 _ (List.mem_of_getElem? (i := 0) (by decide +kernel))
theorem q_561 : Cond.instanceMethod yX7_ofLength ∈ WS := inWS_14 _ (List.mem_of_getElem? (i := 1) (by decide +kernel))
theorem q_562 : Cond.selects RX7 yX7_ofLength yX7_ofLength ∈ WS := inWS_14 _ (List.mem_of_getElem? (i := 2) (by decide +kernel))
theorem q_563 : Cond.code yX7_ofLength cX7_ofLength 3 (some .int) ∈ WS := inWS_14 _ (List.mem_of_getElem? (i := 3) (by decide +kernel))
theorem q_564 : Cond.methodLink RX7 43 ⟨"GrammarAmbiguity$LengthCounts", "ofSecond", "(IIIII)J"⟩ ∈ WS := inWS_14 _ (List.mem_of_getElem? (i := 4) (by decide +kernel))
theorem q_565 : Cond.sameMethod "GrammarAmbiguity$LengthCounts" "GrammarAmbiguity$Counts" "ofSecond" "(IIIII)J" ∈ WS := inWS_14 _ (List.mem_of_getElem? (i := 5) (by decide +kernel))
theorem q_566 : Cond.selects RX2 ⟨"GrammarAmbiguity$LengthCounts", "ofSecond", "(IIIII)J"⟩ yX0_ofSecond ∈ WS := inWS_14 _ (List.mem_of_getElem? (i := 6) (by decide +kernel))
theorem q_567 : Cond.instanceMethod yX0_ofSecond ∈ WS := inWS_14 _ (List.mem_of_getElem? (i := 7) (by decide +kernel))
theorem q_568 : Cond.code yX0_ofSecond cX0_ofSecond 6 (some .long) ∈ WS := inWS_14 _ (List.mem_of_getElem? (i := 8) (by decide +kernel))
theorem q_569 : Cond.methodLink RX7 49 yX7_addWords ∈ WS := inWS_14 _ (List.mem_of_getElem? (i := 9) (by decide +kernel))
theorem q_570 : Cond.instanceMethod yX7_addWords ∈ WS := inWS_14 _ (List.mem_of_getElem? (i := 10) (by decide +kernel))
theorem q_571 : Cond.selects RX7 yX7_addWords yX7_addWords ∈ WS := inWS_14 _ (List.mem_of_getElem? (i := 11) (by decide +kernel))
theorem q_572 : Cond.code yX7_addWords cX7_addWords 15 none ∈ WS := inWS_14 _ (List.mem_of_getElem? (i := 12) (by decide +kernel))
theorem q_573 : Cond.methodLink RX7 75 yX7_addTimes ∈ WS := inWS_14 _ (List.mem_of_getElem? (i := 13) (by decide +kernel))
theorem q_574 : Cond.instanceMethod yX7_addTimes ∈ WS := inWS_14 _ (List.mem_of_getElem? (i := 14) (by decide +kernel))
theorem q_575 : Cond.selects RX7 yX7_addTimes yX7_addTimes ∈ WS := inWS_14 _ (List.mem_of_getElem? (i := 15) (by decide +kernel))
theorem q_576 : Cond.code yX7_addTimes cX7_addTimes 7 none ∈ WS := inWS_14 _ (List.mem_of_getElem? (i := 16) (by decide +kernel))
theorem q_577 : Cond.instanceMethod yX7_atLeast ∈ WS := inWS_14 _ (List.mem_of_getElem? (i := 17) (by decide +kernel))
theorem q_578 : Cond.selects RX7 yX7_atLeast yX7_atLeast ∈ WS := inWS_14 _ (List.mem_of_getElem? (i := 18) (by decide +kernel))
theorem q_579 : Cond.code yX7_atLeast cX7_atLeast 3 (some .int) ∈ WS := inWS_14 _ (List.mem_of_getElem? (i := 19) (by decide +kernel))
theorem q_580 : Cond.methodLink RX7 79 yX7_atLeastBefore ∈ WS := inWS_14 _ (List.mem_of_getElem? (i := 20) (by decide +kernel))
theorem q_581 : Cond.instanceMethod yX7_atLeastBefore ∈ WS := inWS_14 _ (List.mem_of_getElem? (i := 21) (by decide +kernel))
theorem q_582 : Cond.selects RX7 yX7_atLeastBefore yX7_atLeastBefore ∈ WS := inWS_14 _ (List.mem_of_getElem? (i := 22) (by decide +kernel))
theorem q_583 : Cond.code yX7_atLeastBefore cX7_atLeastBefore 6 (some .int) ∈ WS := inWS_14 _ (List.mem_of_getElem? (i := 23) (by decide +kernel))
theorem q_584 : Cond.methodLink RX7 83 yX7_count ∈ WS := inWS_14 _ (List.mem_of_getElem? (i := 24) (by decide +kernel))
theorem q_585 : Cond.instanceMethod yX7_count ∈ WS := inWS_14 _ (List.mem_of_getElem? (i := 25) (by decide +kernel))
theorem q_586 : Cond.selects RX7 yX7_count yX7_count ∈ WS := inWS_14 _ (List.mem_of_getElem? (i := 26) (by decide +kernel))
theorem q_587 : Cond.code yX7_count cX7_count 4 (some .long) ∈ WS := inWS_14 _ (List.mem_of_getElem? (i := 27) (by decide +kernel))
theorem q_588 : Cond.methodLink RL 171 yX9_wordsOfLength ∈ WS := inWS_14 _ (List.mem_of_getElem? (i := 28) (by decide +kernel))
theorem q_589 : Cond.instanceMethod yX9_wordsOfLength ∈ WS := inWS_14 _ (List.mem_of_getElem? (i := 29) (by decide +kernel))
theorem q_590 : Cond.selects RX9 yX9_wordsOfLength yX9_wordsOfLength ∈ WS := inWS_14 _ (List.mem_of_getElem? (i := 30) (by decide +kernel))
theorem q_591 : Cond.code yX9_wordsOfLength cX9_wordsOfLength 3 (some .int) ∈ WS := inWS_14 _ (List.mem_of_getElem? (i := 31) (by decide +kernel))
theorem q_592 : Cond.methodLink RX9 156 yX9_isListed ∈ WS := inWS_14 _ (List.mem_of_getElem? (i := 32) (by decide +kernel))
theorem q_593 : Cond.static yX9_isListed ∈ WS := inWS_14 _ (List.mem_of_getElem? (i := 33) (by decide +kernel))
theorem q_594 : Cond.code yX9_isListed cX9_isListed 1 (some .boolean) ∈ WS := inWS_14 _ (List.mem_of_getElem? (i := 34) (by decide +kernel))
theorem q_595 : Cond.methodLink RX9 159 yX9_countWords ∈ WS := inWS_14 _ (List.mem_of_getElem? (i := 35) (by decide +kernel))
theorem q_596 : Cond.instanceMethod yX9_countWords ∈ WS := inWS_14 _ (List.mem_of_getElem? (i := 36) (by decide +kernel))
theorem q_597 : Cond.selects RX9 yX9_countWords yX9_countWords ∈ WS := inWS_14 _ (List.mem_of_getElem? (i := 37) (by decide +kernel))
theorem q_598 : Cond.code yX9_countWords cX9_countWords 8 (some .int) ∈ WS := inWS_14 _ (List.mem_of_getElem? (i := 38) (by decide +kernel))
theorem q_599 : Cond.methodLink RX9 150 yX9_wordsOf ∈ WS := inWS_14 _ (List.mem_of_getElem? (i := 39) (by decide +kernel))
theorem q_600 : Cond.instanceMethod yX9_wordsOf ∈ WS := inWS_15 _ (List.mem_of_getElem? (i := 0) (by decide +kernel))
theorem q_601 : Cond.selects RX9 yX9_wordsOf yX9_wordsOf ∈ WS := inWS_15 _ (List.mem_of_getElem? (i := 1) (by decide +kernel))
theorem q_602 : Cond.code yX9_wordsOf cX9_wordsOf 4 (some .int) ∈ WS := inWS_15 _ (List.mem_of_getElem? (i := 2) (by decide +kernel))
theorem q_603 : Cond.methodLink RX9 153 yX9_countNumbered ∈ WS := inWS_15 _ (List.mem_of_getElem? (i := 3) (by decide +kernel))
theorem q_604 : Cond.instanceMethod yX9_countNumbered ∈ WS := inWS_15 _ (List.mem_of_getElem? (i := 4) (by decide +kernel))
theorem q_605 : Cond.selects RX9 yX9_countNumbered yX9_countNumbered ∈ WS := inWS_15 _ (List.mem_of_getElem? (i := 5) (by decide +kernel))
theorem q_606 : Cond.code yX9_countNumbered cX9_countNumbered 5 (some .long) ∈ WS := inWS_15 _ (List.mem_of_getElem? (i := 6) (by decide +kernel))
theorem q_607 : Cond.methodLink RL 172 yL_unambiguousShare ∈ WS := inWS_15 _ (List.mem_of_getElem? (i := 7) (by decide +kernel))
theorem q_608 : Cond.static yL_unambiguousShare ∈ WS := inWS_15 _ (List.mem_of_getElem? (i := 8) (by decide +kernel))
theorem q_609 : Cond.codeWith yL_unambiguousShare cL_unambiguousShare 4 (some .int) [(0, 8, 11, 13)] ∈ WS := inWS_15 _ (List.mem_of_getElem? (i := 9) (by decide +kernel))
theorem q_610 : Cond.methodLink RL 50 yX8_unambiguousShare ∈ WS := inWS_15 _ (List.mem_of_getElem? (i := 10) (by decide +kernel))
theorem q_611 : Cond.instanceMethod yX8_unambiguousShare ∈ WS := inWS_15 _ (List.mem_of_getElem? (i := 11) (by decide +kernel))
theorem q_612 : Cond.selects RX8 yX8_unambiguousShare yX8_unambiguousShare ∈ WS := inWS_15 _ (List.mem_of_getElem? (i := 12) (by decide +kernel))
theorem q_613 : Cond.code yX8_unambiguousShare cX8_unambiguousShare 4 (some .double) ∈ WS := inWS_15 _ (List.mem_of_getElem? (i := 13) (by decide +kernel))
theorem q_614 : Cond.methodLink RL 175 yX9_unambiguousShare ∈ WS := inWS_15 _ (List.mem_of_getElem? (i := 14) (by decide +kernel))
theorem q_615 : Cond.instanceMethod yX9_unambiguousShare ∈ WS := inWS_15 _ (List.mem_of_getElem? (i := 15) (by decide +kernel))
theorem q_616 : Cond.selects RX9 yX9_unambiguousShare yX9_unambiguousShare ∈ WS := inWS_15 _ (List.mem_of_getElem? (i := 16) (by decide +kernel))
theorem q_617 : Cond.code yX9_unambiguousShare cX9_unambiguousShare 3 (some .double) ∈ WS := inWS_15 _ (List.mem_of_getElem? (i := 17) (by decide +kernel))
theorem q_618 : Cond.methodLink RL 176 yL_averageTrees ∈ WS := inWS_15 _ (List.mem_of_getElem? (i := 18) (by decide +kernel))
theorem q_619 : Cond.static yL_averageTrees ∈ WS := inWS_15 _ (List.mem_of_getElem? (i := 19) (by decide +kernel))
theorem q_620 : Cond.codeWith yL_averageTrees cL_averageTrees 4 (some .int) [(0, 8, 11, 13), (0, 8, 14, 57)] ∈ WS := inWS_15 _ (List.mem_of_getElem? (i := 20) (by decide +kernel))
theorem q_621 : Cond.methodLink RL 54 yX8_averageTrees ∈ WS := inWS_15 _ (List.mem_of_getElem? (i := 21) (by decide +kernel))
theorem q_622 : Cond.instanceMethod yX8_averageTrees ∈ WS := inWS_15 _ (List.mem_of_getElem? (i := 22) (by decide +kernel))
theorem q_623 : Cond.selects RX8 yX8_averageTrees yX8_averageTrees ∈ WS := inWS_15 _ (List.mem_of_getElem? (i := 23) (by decide +kernel))
theorem q_624 : Cond.code yX8_averageTrees cX8_averageTrees 3 (some .double) ∈ WS := inWS_15 _ (List.mem_of_getElem? (i := 24) (by decide +kernel))
theorem q_625 : Cond.classLink RX8 198 "java/util/NoSuchElementException" ∈ WS := inWS_15 _ (List.mem_of_getElem? (i := 25) (by decide +kernel))
theorem q_626 : Cond.initialized "java/util/NoSuchElementException" ∈ WS := inWS_15 _ (List.mem_of_getElem? (i := 26) (by decide +kernel))
theorem q_627 : Cond.methodLink RL 178 yX9_averageTrees ∈ WS := inWS_15 _ (List.mem_of_getElem? (i := 27) (by decide +kernel))
theorem q_628 : Cond.instanceMethod yX9_averageTrees ∈ WS := inWS_15 _ (List.mem_of_getElem? (i := 28) (by decide +kernel))
theorem q_629 : Cond.selects RX9 yX9_averageTrees yX9_averageTrees ∈ WS := inWS_15 _ (List.mem_of_getElem? (i := 29) (by decide +kernel))
theorem q_630 : Cond.code yX9_averageTrees cX9_averageTrees 3 (some .double) ∈ WS := inWS_15 _ (List.mem_of_getElem? (i := 30) (by decide +kernel))
theorem q_631 : Cond.methodLink RL 179 yL_firstAmbiguous ∈ WS := inWS_15 _ (List.mem_of_getElem? (i := 31) (by decide +kernel))
theorem q_632 : Cond.static yL_firstAmbiguous ∈ WS := inWS_15 _ (List.mem_of_getElem? (i := 32) (by decide +kernel))
theorem q_633 : Cond.codeWith yL_firstAmbiguous cL_firstAmbiguous 4 (some .int) [(0, 9, 12, 13), (0, 9, 15, 57)] ∈ WS := inWS_15 _ (List.mem_of_getElem? (i := 33) (by decide +kernel))
theorem q_634 : Cond.methodLink RL 59 yX8_firstAmbiguous ∈ WS := inWS_15 _ (List.mem_of_getElem? (i := 34) (by decide +kernel))
theorem q_635 : Cond.instanceMethod yX8_firstAmbiguous ∈ WS := inWS_15 _ (List.mem_of_getElem? (i := 35) (by decide +kernel))
theorem q_636 : Cond.selects RX8 yX8_firstAmbiguous yX8_firstAmbiguous ∈ WS := inWS_15 _ (List.mem_of_getElem? (i := 36) (by decide +kernel))
theorem q_637 : Cond.code yX8_firstAmbiguous cX8_firstAmbiguous 4 (some .int) ∈ WS := inWS_15 _ (List.mem_of_getElem? (i := 37) (by decide +kernel))
theorem q_638 : Cond.instanceMethod yX7_find ∈ WS := inWS_15 _ (List.mem_of_getElem? (i := 38) (by decide +kernel))
theorem q_639 : Cond.selects RX7 yX7_find yX7_find ∈ WS := inWS_15 _ (List.mem_of_getElem? (i := 39) (by decide +kernel))
theorem q_640 : Cond.code yX7_find cX7_find 7 (some .int) ∈ WS := inWS_16 _ (List.mem_of_getElem? (i := 0) (by decide +kernel))
theorem q_641 : Cond.methodLink RX8 207 yX8_setWord ∈ WS := inWS_16 _ (List.mem_of_getElem? (i := 1) (by decide +kernel))
theorem q_642 : Cond.instanceMethod yX8_setWord ∈ WS := inWS_16 _ (List.mem_of_getElem? (i := 2) (by decide +kernel))
theorem q_643 : Cond.selects RX8 yX8_setWord yX8_setWord ∈ WS := inWS_16 _ (List.mem_of_getElem? (i := 3) (by decide +kernel))
theorem q_644 : Cond.code yX8_setWord cX8_setWord 3 none ∈ WS := inWS_16 _ (List.mem_of_getElem? (i := 4) (by decide +kernel))
theorem q_645 : Cond.instanceMethod yX6_set ∈ WS := inWS_16 _ (List.mem_of_getElem? (i := 5) (by decide +kernel))
theorem q_646 : Cond.selects RX6 yX6_set yX6_set ∈ WS := inWS_16 _ (List.mem_of_getElem? (i := 6) (by decide +kernel))
theorem q_647 : Cond.code yX6_set cX6_set 7 none ∈ WS := inWS_16 _ (List.mem_of_getElem? (i := 7) (by decide +kernel))
theorem q_648 : Cond.methodLink RX6 23 Lib.Math.max.name ∈ WS := inWS_16 _ (List.mem_of_getElem? (i := 8) (by decide +kernel))
theorem q_649 : Cond.methodLink RX6 29 yX6_put ∈ WS := inWS_16 _ (List.mem_of_getElem? (i := 9) (by decide +kernel))
theorem q_650 : Cond.methodLink RL 181 yX9_firstAmbiguous ∈ WS := inWS_16 _ (List.mem_of_getElem? (i := 10) (by decide +kernel))
theorem q_651 : Cond.instanceMethod yX9_firstAmbiguous ∈ WS := inWS_16 _ (List.mem_of_getElem? (i := 11) (by decide +kernel))
theorem q_652 : Cond.selects RX9 yX9_firstAmbiguous yX9_firstAmbiguous ∈ WS := inWS_16 _ (List.mem_of_getElem? (i := 12) (by decide +kernel))
theorem q_653 : Cond.code yX9_firstAmbiguous cX9_firstAmbiguous 4 (some .int) ∈ WS := inWS_16 _ (List.mem_of_getElem? (i := 13) (by decide +kernel))
theorem q_654 : Cond.methodLink RX9 163 yX9_take ∈ WS := inWS_16 _ (List.mem_of_getElem? (i := 14) (by decide +kernel))
theorem q_655 : Cond.instanceMethod yX9_take ∈ WS := inWS_16 _ (List.mem_of_getElem? (i := 15) (by decide +kernel))
theorem q_656 : Cond.selects RX9 yX9_take yX9_take ∈ WS := inWS_16 _ (List.mem_of_getElem? (i := 16) (by decide +kernel))
theorem q_657 : Cond.code yX9_take cX9_take 3 none ∈ WS := inWS_16 _ (List.mem_of_getElem? (i := 17) (by decide +kernel))
theorem q_658 : Cond.methodLink RL 182 yL_wordRank ∈ WS := inWS_16 _ (List.mem_of_getElem? (i := 18) (by decide +kernel))
theorem q_659 : Cond.static yL_wordRank ∈ WS := inWS_16 _ (List.mem_of_getElem? (i := 19) (by decide +kernel))
theorem q_660 : Cond.codeWith yL_wordRank cL_wordRank 3 (some .int) [(0, 8, 11, 19), (0, 8, 14, 57)] ∈ WS := inWS_16 _ (List.mem_of_getElem? (i := 20) (by decide +kernel))
theorem q_661 : Cond.classLink RL 19 "java/lang/IllegalStateException" ∈ WS := inWS_16 _ (List.mem_of_getElem? (i := 21) (by decide +kernel))
theorem q_662 : Cond.methodLink RL 62 yX8_wordRank ∈ WS := inWS_16 _ (List.mem_of_getElem? (i := 22) (by decide +kernel))
theorem q_663 : Cond.instanceMethod yX8_wordRank ∈ WS := inWS_16 _ (List.mem_of_getElem? (i := 23) (by decide +kernel))
theorem q_664 : Cond.selects RX8 yX8_wordRank yX8_wordRank ∈ WS := inWS_16 _ (List.mem_of_getElem? (i := 24) (by decide +kernel))
theorem q_665 : Cond.code yX8_wordRank cX8_wordRank 2 (some .int) ∈ WS := inWS_16 _ (List.mem_of_getElem? (i := 25) (by decide +kernel))
theorem q_666 : Cond.instanceMethod yX6_key ∈ WS := inWS_16 _ (List.mem_of_getElem? (i := 26) (by decide +kernel))
theorem q_667 : Cond.selects RX6 yX6_key yX6_key ∈ WS := inWS_16 _ (List.mem_of_getElem? (i := 27) (by decide +kernel))
theorem q_668 : Cond.code yX6_key cX6_key 4 (some .int) ∈ WS := inWS_16 _ (List.mem_of_getElem? (i := 28) (by decide +kernel))
theorem q_669 : Cond.methodLink RX6 19 yX6_letter ∈ WS := inWS_16 _ (List.mem_of_getElem? (i := 29) (by decide +kernel))
theorem q_670 : Cond.methodLink RL 185 yX9_wordRank ∈ WS := inWS_16 _ (List.mem_of_getElem? (i := 30) (by decide +kernel))
theorem q_671 : Cond.instanceMethod yX9_wordRank ∈ WS := inWS_16 _ (List.mem_of_getElem? (i := 31) (by decide +kernel))
theorem q_672 : Cond.selects RX9 yX9_wordRank yX9_wordRank ∈ WS := inWS_16 _ (List.mem_of_getElem? (i := 32) (by decide +kernel))
theorem q_673 : Cond.code yX9_wordRank cX9_wordRank 4 (some .int) ∈ WS := inWS_16 _ (List.mem_of_getElem? (i := 33) (by decide +kernel))
theorem q_674 : Cond.methodLink RL 186 yL_takeWord ∈ WS := inWS_16 _ (List.mem_of_getElem? (i := 34) (by decide +kernel))
theorem q_675 : Cond.static yL_takeWord ∈ WS := inWS_16 _ (List.mem_of_getElem? (i := 35) (by decide +kernel))
theorem q_676 : Cond.codeWith yL_takeWord cL_takeWord 4 (some .int) [(0, 6, 9, 13), (0, 6, 12, 57)] ∈ WS := inWS_16 _ (List.mem_of_getElem? (i := 36) (by decide +kernel))
theorem q_677 : Cond.methodLink RL 66 yX8_takeWord ∈ WS := inWS_16 _ (List.mem_of_getElem? (i := 37) (by decide +kernel))
theorem q_678 : Cond.instanceMethod yX8_takeWord ∈ WS := inWS_16 _ (List.mem_of_getElem? (i := 38) (by decide +kernel))
theorem q_679 : Cond.selects RX8 yX8_takeWord yX8_takeWord ∈ WS := inWS_16 _ (List.mem_of_getElem? (i := 39) (by decide +kernel))
theorem q_680 : Cond.code yX8_takeWord cX8_takeWord 4 none ∈ WS := inWS_17 _ (List.mem_of_getElem? (i := 0) (by decide +kernel))
theorem q_681 : Cond.methodLink RL 188 yX9_takeWord ∈ WS := inWS_17 _ (List.mem_of_getElem? (i := 1) (by decide +kernel))
theorem q_682 : Cond.instanceMethod yX9_takeWord ∈ WS := inWS_17 _ (List.mem_of_getElem? (i := 2) (by decide +kernel))
theorem q_683 : Cond.selects RX9 yX9_takeWord yX9_takeWord ∈ WS := inWS_17 _ (List.mem_of_getElem? (i := 3) (by decide +kernel))
theorem q_684 : Cond.code yX9_takeWord cX9_takeWord 3 none ∈ WS := inWS_17 _ (List.mem_of_getElem? (i := 4) (by decide +kernel))
theorem q_685 : Cond.methodLink RX9 166 yX9_takeRanked ∈ WS := inWS_17 _ (List.mem_of_getElem? (i := 5) (by decide +kernel))
theorem q_686 : Cond.instanceMethod yX9_takeRanked ∈ WS := inWS_17 _ (List.mem_of_getElem? (i := 6) (by decide +kernel))
theorem q_687 : Cond.selects RX9 yX9_takeRanked yX9_takeRanked ∈ WS := inWS_17 _ (List.mem_of_getElem? (i := 7) (by decide +kernel))
theorem q_688 : Cond.code yX9_takeRanked cX9_takeRanked 5 (some .boolean) ∈ WS := inWS_17 _ (List.mem_of_getElem? (i := 8) (by decide +kernel))
theorem q_689 : Cond.methodLink RL 191 yL_drawWord ∈ WS := inWS_17 _ (List.mem_of_getElem? (i := 9) (by decide +kernel))
theorem q_690 : Cond.static yL_drawWord ∈ WS := inWS_17 _ (List.mem_of_getElem? (i := 10) (by decide +kernel))
theorem q_691 : Cond.codeWith yL_drawWord cL_drawWord 6 (some .int) [(0, 11, 14, 13), (0, 11, 18, 57)] ∈ WS := inWS_17 _ (List.mem_of_getElem? (i := 11) (by decide +kernel))
theorem q_692 : Cond.methodLink RL 69 yX8_drawWord ∈ WS := inWS_17 _ (List.mem_of_getElem? (i := 12) (by decide +kernel))
theorem q_693 : Cond.instanceMethod yX8_drawWord ∈ WS := inWS_17 _ (List.mem_of_getElem? (i := 13) (by decide +kernel))
theorem q_694 : Cond.selects RX8 yX8_drawWord yX8_drawWord ∈ WS := inWS_17 _ (List.mem_of_getElem? (i := 14) (by decide +kernel))
theorem q_695 : Cond.code yX8_drawWord cX8_drawWord 6 (some .int) ∈ WS := inWS_17 _ (List.mem_of_getElem? (i := 15) (by decide +kernel))
theorem q_696 : Cond.methodLink RX8 232 yX8_draw ∈ WS := inWS_17 _ (List.mem_of_getElem? (i := 16) (by decide +kernel))
theorem q_697 : Cond.static yX8_draw ∈ WS := inWS_17 _ (List.mem_of_getElem? (i := 17) (by decide +kernel))
theorem q_698 : Cond.code yX8_draw cX8_draw 4 (some .long) ∈ WS := inWS_17 _ (List.mem_of_getElem? (i := 18) (by decide +kernel))
theorem q_699 : Cond.constantLong RX8 319 (6364136223846793005) ∈ WS := inWS_17 _ (List.mem_of_getElem? (i := 19) (by decide +kernel))
theorem q_700 : Cond.constantLong RX8 321 (1442695040888963407) ∈ WS := inWS_17 _ (List.mem_of_getElem? (i := 20) (by decide +kernel))
theorem q_701 : Cond.methodLink RL 194 yX9_drawWord ∈ WS := inWS_17 _ (List.mem_of_getElem? (i := 21) (by decide +kernel))
theorem q_702 : Cond.instanceMethod yX9_drawWord ∈ WS := inWS_17 _ (List.mem_of_getElem? (i := 22) (by decide +kernel))
theorem q_703 : Cond.selects RX9 yX9_drawWord yX9_drawWord ∈ WS := inWS_17 _ (List.mem_of_getElem? (i := 23) (by decide +kernel))
theorem q_704 : Cond.code yX9_drawWord cX9_drawWord 6 (some .int) ∈ WS := inWS_17 _ (List.mem_of_getElem? (i := 24) (by decide +kernel))
theorem q_705 : Cond.methodLink RX9 174 yX9_drawn ∈ WS := inWS_17 _ (List.mem_of_getElem? (i := 25) (by decide +kernel))
theorem q_706 : Cond.static yX9_drawn ∈ WS := inWS_17 _ (List.mem_of_getElem? (i := 26) (by decide +kernel))
theorem q_707 : Cond.code yX9_drawn cX9_drawn 6 (some .long) ∈ WS := inWS_17 _ (List.mem_of_getElem? (i := 27) (by decide +kernel))
theorem q_708 : Cond.constantLong RX9 170 (6364136223846793005) ∈ WS := inWS_17 _ (List.mem_of_getElem? (i := 28) (by decide +kernel))
theorem q_709 : Cond.constantLong RX9 172 (1442695040888963407) ∈ WS := inWS_17 _ (List.mem_of_getElem? (i := 29) (by decide +kernel))
theorem q_710 : Cond.methodLink RL 195 yL_drawTree ∈ WS := inWS_17 _ (List.mem_of_getElem? (i := 30) (by decide +kernel))
theorem q_711 : Cond.static yL_drawTree ∈ WS := inWS_17 _ (List.mem_of_getElem? (i := 31) (by decide +kernel))
theorem q_712 : Cond.codeWith yL_drawTree cL_drawTree 6 (some .int) [(0, 10, 13, 13), (0, 10, 17, 57)] ∈ WS := inWS_17 _ (List.mem_of_getElem? (i := 32) (by decide +kernel))
theorem q_713 : Cond.methodLink RL 73 yX8_drawTree ∈ WS := inWS_17 _ (List.mem_of_getElem? (i := 33) (by decide +kernel))
theorem q_714 : Cond.instanceMethod yX8_drawTree ∈ WS := inWS_17 _ (List.mem_of_getElem? (i := 34) (by decide +kernel))
theorem q_715 : Cond.selects RX8 yX8_drawTree yX8_drawTree ∈ WS := inWS_17 _ (List.mem_of_getElem? (i := 35) (by decide +kernel))
theorem q_716 : Cond.code yX8_drawTree cX8_drawTree 8 (some .long) ∈ WS := inWS_17 _ (List.mem_of_getElem? (i := 36) (by decide +kernel))
theorem q_717 : Cond.instanceMethod yX5_grow ∈ WS := inWS_17 _ (List.mem_of_getElem? (i := 37) (by decide +kernel))
theorem q_718 : Cond.selects RX5 yX5_grow yX5_grow ∈ WS := inWS_17 _ (List.mem_of_getElem? (i := 38) (by decide +kernel))
theorem q_719 : Cond.code yX5_grow cX5_grow 23 none ∈ WS := inWS_17 _ (List.mem_of_getElem? (i := 39) (by decide +kernel))
theorem q_720 : Cond.methodLink RX5 73 Lib.MathLoose.max_long.x ∈ WS := inWS_18 _ (List.mem_of_getElem? (i := 0) (by decide +kernel))
theorem q_721 : Cond.static Lib.MathLoose.max_long.x ∈ WS := inWS_18 _ (List.mem_of_getElem? (i := 1) (by decide +kernel))
theorem q_722 : Cond.code Lib.MathLoose.max_long.x Lib.MathLoose.max_long.code 4 (some .long) ∈ WS := inWS_18 _ (List.mem_of_getElem? (i := 2) (by decide +kernel))
theorem q_723 : Cond.methodLink RX5 56 yX5_choose ∈ WS := inWS_18 _ (List.mem_of_getElem? (i := 3) (by decide +kernel))
theorem q_724 : Cond.instanceMethod yX5_choose ∈ WS := inWS_18 _ (List.mem_of_getElem? (i := 4) (by decide +kernel))
theorem q_725 : Cond.selects RX5 yX5_choose yX5_choose ∈ WS := inWS_18 _ (List.mem_of_getElem? (i := 5) (by decide +kernel))
theorem q_726 : Cond.code yX5_choose cX5_choose 15 (some .long) ∈ WS := inWS_18 _ (List.mem_of_getElem? (i := 6) (by decide +kernel))
theorem q_727 : Cond.methodLink RX5 85 ⟨"GrammarAmbiguity$Counts", "ofProduction", "(IIII)J"⟩ ∈ WS := inWS_18 _ (List.mem_of_getElem? (i := 7) (by decide +kernel))
theorem q_728 : Cond.methodLink RX5 89 ⟨"GrammarAmbiguity$Counts", "ofFirst", "(IIII)J"⟩ ∈ WS := inWS_18 _ (List.mem_of_getElem? (i := 8) (by decide +kernel))
theorem q_729 : Cond.methodLink RX5 92 ⟨"GrammarAmbiguity$Counts", "ofSecond", "(IIIII)J"⟩ ∈ WS := inWS_18 _ (List.mem_of_getElem? (i := 9) (by decide +kernel))
theorem q_730 : Cond.sameMethod "GrammarAmbiguity$Counts" "GrammarAmbiguity$Counts" "ofSecond" "(IIIII)J" ∈ WS := inWS_18 _ (List.mem_of_getElem? (i := 10) (by decide +kernel))
theorem q_731 : Cond.selects RX2 ⟨"GrammarAmbiguity$Counts", "ofSecond", "(IIIII)J"⟩ yX0_ofSecond ∈ WS := inWS_18 _ (List.mem_of_getElem? (i := 11) (by decide +kernel))
theorem q_732 : Cond.selects RX4 ⟨"GrammarAmbiguity$Counts", "ofSecond", "(IIIII)J"⟩ yX0_ofSecond ∈ WS := inWS_18 _ (List.mem_of_getElem? (i := 12) (by decide +kernel))
theorem q_733 : Cond.methodLink RX5 60 ⟨"GrammarAmbiguity$Counts", "part", "(II)I"⟩ ∈ WS := inWS_18 _ (List.mem_of_getElem? (i := 13) (by decide +kernel))
theorem q_734 : Cond.methodLink RX5 69 ⟨"GrammarAmbiguity$Counts", "count", "(III)J"⟩ ∈ WS := inWS_18 _ (List.mem_of_getElem? (i := 14) (by decide +kernel))
theorem q_735 : Cond.methodLink RX5 79 yX5_grow ∈ WS := inWS_18 _ (List.mem_of_getElem? (i := 15) (by decide +kernel))
theorem q_736 : Cond.instanceMethod yX5_spell ∈ WS := inWS_18 _ (List.mem_of_getElem? (i := 16) (by decide +kernel))
theorem q_737 : Cond.selects RX5 yX5_spell yX5_spell ∈ WS := inWS_18 _ (List.mem_of_getElem? (i := 17) (by decide +kernel))
theorem q_738 : Cond.code yX5_spell cX5_spell 4 none ∈ WS := inWS_18 _ (List.mem_of_getElem? (i := 18) (by decide +kernel))
theorem q_739 : Cond.methodLink RX5 96 yX5_spellPart ∈ WS := inWS_18 _ (List.mem_of_getElem? (i := 19) (by decide +kernel))
theorem q_740 : Cond.static yX5_spellPart ∈ WS := inWS_18 _ (List.mem_of_getElem? (i := 20) (by decide +kernel))
theorem q_741 : Cond.code yX5_spellPart cX5_spellPart 3 none ∈ WS := inWS_18 _ (List.mem_of_getElem? (i := 21) (by decide +kernel))
theorem q_742 : Cond.instanceMethod yX5_findNumber ∈ WS := inWS_18 _ (List.mem_of_getElem? (i := 22) (by decide +kernel))
theorem q_743 : Cond.selects RX5 yX5_findNumber yX5_findNumber ∈ WS := inWS_18 _ (List.mem_of_getElem? (i := 23) (by decide +kernel))
theorem q_744 : Cond.code yX5_findNumber cX5_findNumber 8 (some .long) ∈ WS := inWS_18 _ (List.mem_of_getElem? (i := 24) (by decide +kernel))
theorem q_745 : Cond.methodLink RX5 106 Lib.Math.min.name ∈ WS := inWS_18 _ (List.mem_of_getElem? (i := 25) (by decide +kernel))
theorem q_746 : Cond.static Lib.Math.min.name ∈ WS := inWS_18 _ (List.mem_of_getElem? (i := 26) (by decide +kernel))
theorem q_747 : Cond.code Lib.Math.min.name Lib.Math.min.code 2 (some .int) ∈ WS := inWS_18 _ (List.mem_of_getElem? (i := 27) (by decide +kernel))
theorem q_748 : Cond.methodLink RX5 109 ⟨"GrammarAmbiguity$SpanCounts", "count", "(III)J"⟩ ∈ WS := inWS_18 _ (List.mem_of_getElem? (i := 28) (by decide +kernel))
theorem q_749 : Cond.methodLink RX5 112 yX5_countBefore ∈ WS := inWS_18 _ (List.mem_of_getElem? (i := 29) (by decide +kernel))
theorem q_750 : Cond.instanceMethod yX5_countBefore ∈ WS := inWS_18 _ (List.mem_of_getElem? (i := 30) (by decide +kernel))
theorem q_751 : Cond.selects RX5 yX5_countBefore yX5_countBefore ∈ WS := inWS_18 _ (List.mem_of_getElem? (i := 31) (by decide +kernel))
theorem q_752 : Cond.code yX5_countBefore cX5_countBefore 10 (some .long) ∈ WS := inWS_18 _ (List.mem_of_getElem? (i := 32) (by decide +kernel))
theorem q_753 : Cond.methodLink RX5 116 ⟨"GrammarAmbiguity$SpanCounts", "ofProduction", "(IIII)J"⟩ ∈ WS := inWS_18 _ (List.mem_of_getElem? (i := 33) (by decide +kernel))
theorem q_754 : Cond.sameMethod "GrammarAmbiguity$SpanCounts" "GrammarAmbiguity$Counts" "ofProduction" "(IIII)J" ∈ WS := inWS_18 _ (List.mem_of_getElem? (i := 34) (by decide +kernel))
theorem q_755 : Cond.selects RX4 ⟨"GrammarAmbiguity$SpanCounts", "ofProduction", "(IIII)J"⟩ yX0_ofProduction ∈ WS := inWS_18 _ (List.mem_of_getElem? (i := 35) (by decide +kernel))
theorem q_756 : Cond.methodLink RX5 117 ⟨"GrammarAmbiguity$SpanCounts", "ofFirst", "(IIII)J"⟩ ∈ WS := inWS_18 _ (List.mem_of_getElem? (i := 36) (by decide +kernel))
theorem q_757 : Cond.sameMethod "GrammarAmbiguity$SpanCounts" "GrammarAmbiguity$Counts" "ofFirst" "(IIII)J" ∈ WS := inWS_18 _ (List.mem_of_getElem? (i := 37) (by decide +kernel))
theorem q_758 : Cond.selects RX4 ⟨"GrammarAmbiguity$SpanCounts", "ofFirst", "(IIII)J"⟩ yX0_ofFirst ∈ WS := inWS_18 _ (List.mem_of_getElem? (i := 38) (by decide +kernel))
theorem q_759 : Cond.methodLink RX5 118 ⟨"GrammarAmbiguity$SpanCounts", "ofSecond", "(IIIII)J"⟩ ∈ WS := inWS_18 _ (List.mem_of_getElem? (i := 39) (by decide +kernel))
theorem q_760 : Cond.sameMethod "GrammarAmbiguity$SpanCounts" "GrammarAmbiguity$Counts" "ofSecond" "(IIIII)J" ∈ WS := inWS_19 _ (List.mem_of_getElem? (i := 0) (by decide +kernel))
theorem q_761 : Cond.selects RX4 ⟨"GrammarAmbiguity$SpanCounts", "ofSecond", "(IIIII)J"⟩ yX0_ofSecond ∈ WS := inWS_19 _ (List.mem_of_getElem? (i := 1) (by decide +kernel))
theorem q_762 : Cond.methodLink RL 197 yX9_drawTree ∈ WS := inWS_19 _ (List.mem_of_getElem? (i := 2) (by decide +kernel))
theorem q_763 : Cond.instanceMethod yX9_drawTree ∈ WS := inWS_19 _ (List.mem_of_getElem? (i := 3) (by decide +kernel))
theorem q_764 : Cond.selects RX9 yX9_drawTree yX9_drawTree ∈ WS := inWS_19 _ (List.mem_of_getElem? (i := 4) (by decide +kernel))
theorem q_765 : Cond.code yX9_drawTree cX9_drawTree 7 (some .long) ∈ WS := inWS_19 _ (List.mem_of_getElem? (i := 5) (by decide +kernel))
theorem q_766 : Cond.fieldLink RX9 178 "GrammarAmbiguityModel" "isByPart" "Z" ∈ WS := inWS_19 _ (List.mem_of_getElem? (i := 6) (by decide +kernel))
theorem q_767 : Cond.methodLink RX9 192 yX9_build ∈ WS := inWS_19 _ (List.mem_of_getElem? (i := 7) (by decide +kernel))
theorem q_768 : Cond.instanceMethod yX9_build ∈ WS := inWS_19 _ (List.mem_of_getElem? (i := 8) (by decide +kernel))
theorem q_769 : Cond.selects RX9 yX9_build yX9_build ∈ WS := inWS_19 _ (List.mem_of_getElem? (i := 9) (by decide +kernel))
theorem q_770 : Cond.code yX9_build cX9_build 15 none ∈ WS := inWS_19 _ (List.mem_of_getElem? (i := 10) (by decide +kernel))
theorem q_771 : Cond.methodLink RX9 185 yX9_productOf ∈ WS := inWS_19 _ (List.mem_of_getElem? (i := 11) (by decide +kernel))
theorem q_772 : Cond.instanceMethod yX9_productOf ∈ WS := inWS_19 _ (List.mem_of_getElem? (i := 12) (by decide +kernel))
theorem q_773 : Cond.selects RX9 yX9_productOf yX9_productOf ∈ WS := inWS_19 _ (List.mem_of_getElem? (i := 13) (by decide +kernel))
theorem q_774 : Cond.code yX9_productOf cX9_productOf 8 (some .long) ∈ WS := inWS_19 _ (List.mem_of_getElem? (i := 14) (by decide +kernel))
theorem q_775 : Cond.methodLink RX9 182 yX9_treesOf ∈ WS := inWS_19 _ (List.mem_of_getElem? (i := 15) (by decide +kernel))
theorem q_776 : Cond.instanceMethod yX9_treesOf ∈ WS := inWS_19 _ (List.mem_of_getElem? (i := 16) (by decide +kernel))
theorem q_777 : Cond.selects RX9 yX9_treesOf yX9_treesOf ∈ WS := inWS_19 _ (List.mem_of_getElem? (i := 17) (by decide +kernel))
theorem q_778 : Cond.code yX9_treesOf cX9_treesOf 4 (some .long) ∈ WS := inWS_19 _ (List.mem_of_getElem? (i := 18) (by decide +kernel))
theorem q_779 : Cond.methodLink RX9 188 yX9_buildNode ∈ WS := inWS_19 _ (List.mem_of_getElem? (i := 19) (by decide +kernel))
theorem q_780 : Cond.instanceMethod yX9_buildNode ∈ WS := inWS_19 _ (List.mem_of_getElem? (i := 20) (by decide +kernel))
theorem q_781 : Cond.selects RX9 yX9_buildNode yX9_buildNode ∈ WS := inWS_19 _ (List.mem_of_getElem? (i := 21) (by decide +kernel))
theorem q_782 : Cond.code yX9_buildNode cX9_buildNode 12 none ∈ WS := inWS_19 _ (List.mem_of_getElem? (i := 22) (by decide +kernel))
theorem q_783 : Cond.methodLink RL 198 yL_takeTree ∈ WS := inWS_19 _ (List.mem_of_getElem? (i := 23) (by decide +kernel))
theorem q_784 : Cond.static yL_takeTree ∈ WS := inWS_19 _ (List.mem_of_getElem? (i := 24) (by decide +kernel))
theorem q_785 : Cond.codeWith yL_takeTree cL_takeTree 5 (some .int) [(0, 9, 12, 57)] ∈ WS := inWS_19 _ (List.mem_of_getElem? (i := 25) (by decide +kernel))
theorem q_786 : Cond.classLink RL 57 "java/util/NoSuchElementException" ∈ WS := inWS_19 _ (List.mem_of_getElem? (i := 26) (by decide +kernel))
theorem q_787 : Cond.methodLink RL 77 yX8_takeTree ∈ WS := inWS_19 _ (List.mem_of_getElem? (i := 27) (by decide +kernel))
theorem q_788 : Cond.instanceMethod yX8_takeTree ∈ WS := inWS_19 _ (List.mem_of_getElem? (i := 28) (by decide +kernel))
theorem q_789 : Cond.selects RX8 yX8_takeTree yX8_takeTree ∈ WS := inWS_19 _ (List.mem_of_getElem? (i := 29) (by decide +kernel))
theorem q_790 : Cond.code yX8_takeTree cX8_takeTree 3 (some .int) ∈ WS := inWS_19 _ (List.mem_of_getElem? (i := 30) (by decide +kernel))
theorem q_791 : Cond.methodLink RL 201 yX9_takeTree ∈ WS := inWS_19 _ (List.mem_of_getElem? (i := 31) (by decide +kernel))
theorem q_792 : Cond.instanceMethod yX9_takeTree ∈ WS := inWS_19 _ (List.mem_of_getElem? (i := 32) (by decide +kernel))
theorem q_793 : Cond.selects RX9 yX9_takeTree yX9_takeTree ∈ WS := inWS_19 _ (List.mem_of_getElem? (i := 33) (by decide +kernel))
theorem q_794 : Cond.code yX9_takeTree cX9_takeTree 5 (some .int) ∈ WS := inWS_19 _ (List.mem_of_getElem? (i := 34) (by decide +kernel))
theorem q_795 : Cond.methodLink RL 202 yL_treeNumber ∈ WS := inWS_19 _ (List.mem_of_getElem? (i := 35) (by decide +kernel))
theorem q_796 : Cond.static yL_treeNumber ∈ WS := inWS_19 _ (List.mem_of_getElem? (i := 36) (by decide +kernel))
theorem q_797 : Cond.codeWith yL_treeNumber cL_treeNumber 3 (some .int) [(0, 7, 10, 19)] ∈ WS := inWS_19 _ (List.mem_of_getElem? (i := 37) (by decide +kernel))
theorem q_798 : Cond.methodLink RL 81 yX8_treeNumber ∈ WS := inWS_19 _ (List.mem_of_getElem? (i := 38) (by decide +kernel))
theorem q_799 : Cond.instanceMethod yX8_treeNumber ∈ WS := inWS_19 _ (List.mem_of_getElem? (i := 39) (by decide +kernel))
theorem q_800 : Cond.selects RX8 yX8_treeNumber yX8_treeNumber ∈ WS := inWS_20 _ (List.mem_of_getElem? (i := 0) (by decide +kernel))
theorem q_801 : Cond.code yX8_treeNumber cX8_treeNumber 1 (some .long) ∈ WS := inWS_20 _ (List.mem_of_getElem? (i := 1) (by decide +kernel))
theorem q_802 : Cond.methodLink RX8 259 yX8_checkTree ∈ WS := inWS_20 _ (List.mem_of_getElem? (i := 2) (by decide +kernel))
theorem q_803 : Cond.instanceMethod yX8_checkTree ∈ WS := inWS_20 _ (List.mem_of_getElem? (i := 3) (by decide +kernel))
theorem q_804 : Cond.selects RX8 yX8_checkTree yX8_checkTree ∈ WS := inWS_20 _ (List.mem_of_getElem? (i := 4) (by decide +kernel))
theorem q_805 : Cond.code yX8_checkTree cX8_checkTree 1 none ∈ WS := inWS_20 _ (List.mem_of_getElem? (i := 5) (by decide +kernel))
theorem q_806 : Cond.methodLink RL 204 yX9_treeNumber ∈ WS := inWS_20 _ (List.mem_of_getElem? (i := 6) (by decide +kernel))
theorem q_807 : Cond.instanceMethod yX9_treeNumber ∈ WS := inWS_20 _ (List.mem_of_getElem? (i := 7) (by decide +kernel))
theorem q_808 : Cond.selects RX9 yX9_treeNumber yX9_treeNumber ∈ WS := inWS_20 _ (List.mem_of_getElem? (i := 8) (by decide +kernel))
theorem q_809 : Cond.code yX9_treeNumber cX9_treeNumber 1 (some .long) ∈ WS := inWS_20 _ (List.mem_of_getElem? (i := 9) (by decide +kernel))
theorem q_810 : Cond.fieldLink RX9 196 "GrammarAmbiguityModel" "at" "I" ∈ WS := inWS_20 _ (List.mem_of_getElem? (i := 10) (by decide +kernel))
theorem q_811 : Cond.methodLink RX9 206 yX9_numberOf ∈ WS := inWS_20 _ (List.mem_of_getElem? (i := 11) (by decide +kernel))
theorem q_812 : Cond.instanceMethod yX9_numberOf ∈ WS := inWS_20 _ (List.mem_of_getElem? (i := 12) (by decide +kernel))
theorem q_813 : Cond.selects RX9 yX9_numberOf yX9_numberOf ∈ WS := inWS_20 _ (List.mem_of_getElem? (i := 13) (by decide +kernel))
theorem q_814 : Cond.code yX9_numberOf cX9_numberOf 15 (some .long) ∈ WS := inWS_20 _ (List.mem_of_getElem? (i := 14) (by decide +kernel))
theorem q_815 : Cond.methodLink RX9 199 yX9_sizeOfPart ∈ WS := inWS_20 _ (List.mem_of_getElem? (i := 15) (by decide +kernel))
theorem q_816 : Cond.instanceMethod yX9_sizeOfPart ∈ WS := inWS_20 _ (List.mem_of_getElem? (i := 16) (by decide +kernel))
theorem q_817 : Cond.selects RX9 yX9_sizeOfPart yX9_sizeOfPart ∈ WS := inWS_20 _ (List.mem_of_getElem? (i := 17) (by decide +kernel))
theorem q_818 : Cond.code yX9_sizeOfPart cX9_sizeOfPart 4 (some .int) ∈ WS := inWS_20 _ (List.mem_of_getElem? (i := 18) (by decide +kernel))
theorem q_819 : Cond.methodLink RX9 203 yX9_skip ∈ WS := inWS_20 _ (List.mem_of_getElem? (i := 19) (by decide +kernel))
theorem q_820 : Cond.instanceMethod yX9_skip ∈ WS := inWS_20 _ (List.mem_of_getElem? (i := 20) (by decide +kernel))
theorem q_821 : Cond.selects RX9 yX9_skip yX9_skip ∈ WS := inWS_20 _ (List.mem_of_getElem? (i := 21) (by decide +kernel))
theorem q_822 : Cond.code yX9_skip cX9_skip 5 (some .int) ∈ WS := inWS_20 _ (List.mem_of_getElem? (i := 22) (by decide +kernel))
theorem q_823 : Cond.methodLink RL 205 yL_treeSize ∈ WS := inWS_20 _ (List.mem_of_getElem? (i := 23) (by decide +kernel))
theorem q_824 : Cond.static yL_treeSize ∈ WS := inWS_20 _ (List.mem_of_getElem? (i := 24) (by decide +kernel))
theorem q_825 : Cond.codeWith yL_treeSize cL_treeSize 3 (some .int) [(0, 8, 11, 19)] ∈ WS := inWS_20 _ (List.mem_of_getElem? (i := 25) (by decide +kernel))
theorem q_826 : Cond.methodLink RL 85 yX8_treeSize ∈ WS := inWS_20 _ (List.mem_of_getElem? (i := 26) (by decide +kernel))
theorem q_827 : Cond.instanceMethod yX8_treeSize ∈ WS := inWS_20 _ (List.mem_of_getElem? (i := 27) (by decide +kernel))
theorem q_828 : Cond.selects RX8 yX8_treeSize yX8_treeSize ∈ WS := inWS_20 _ (List.mem_of_getElem? (i := 28) (by decide +kernel))
theorem q_829 : Cond.code yX8_treeSize cX8_treeSize 1 (some .int) ∈ WS := inWS_20 _ (List.mem_of_getElem? (i := 29) (by decide +kernel))
theorem q_830 : Cond.methodLink RL 207 yX9_treeSize ∈ WS := inWS_20 _ (List.mem_of_getElem? (i := 30) (by decide +kernel))
theorem q_831 : Cond.instanceMethod yX9_treeSize ∈ WS := inWS_20 _ (List.mem_of_getElem? (i := 31) (by decide +kernel))
theorem q_832 : Cond.selects RX9 yX9_treeSize yX9_treeSize ∈ WS := inWS_20 _ (List.mem_of_getElem? (i := 32) (by decide +kernel))
theorem q_833 : Cond.code yX9_treeSize cX9_treeSize 1 (some .int) ∈ WS := inWS_20 _ (List.mem_of_getElem? (i := 33) (by decide +kernel))
theorem q_834 : Cond.methodLink RL 208 yL_treeNode ∈ WS := inWS_20 _ (List.mem_of_getElem? (i := 34) (by decide +kernel))
theorem q_835 : Cond.static yL_treeNode ∈ WS := inWS_20 _ (List.mem_of_getElem? (i := 35) (by decide +kernel))
theorem q_836 : Cond.codeWith yL_treeNode cL_treeNode 5 (some .int) [(0, 10, 13, 19), (0, 10, 17, 29), (0, 10, 21, 13)] ∈ WS := inWS_20 _ (List.mem_of_getElem? (i := 36) (by decide +kernel))
theorem q_837 : Cond.methodLink RL 88 yX8_treeNode ∈ WS := inWS_20 _ (List.mem_of_getElem? (i := 37) (by decide +kernel))
theorem q_838 : Cond.instanceMethod yX8_treeNode ∈ WS := inWS_20 _ (List.mem_of_getElem? (i := 38) (by decide +kernel))
theorem q_839 : Cond.selects RX8 yX8_treeNode yX8_treeNode ∈ WS := inWS_20 _ (List.mem_of_getElem? (i := 39) (by decide +kernel))
theorem q_840 : Cond.code yX8_treeNode cX8_treeNode 3 (some .int) ∈ WS := inWS_21 _ (List.mem_of_getElem? (i := 0) (by decide +kernel))
theorem q_841 : Cond.methodLink RL 210 yX9_treeNode ∈ WS := inWS_21 _ (List.mem_of_getElem? (i := 1) (by decide +kernel))
theorem q_842 : Cond.instanceMethod yX9_treeNode ∈ WS := inWS_21 _ (List.mem_of_getElem? (i := 2) (by decide +kernel))
theorem q_843 : Cond.selects RX9 yX9_treeNode yX9_treeNode ∈ WS := inWS_21 _ (List.mem_of_getElem? (i := 3) (by decide +kernel))
theorem q_844 : Cond.code yX9_treeNode cX9_treeNode 3 (some .int) ∈ WS := inWS_21 _ (List.mem_of_getElem? (i := 4) (by decide +kernel))
theorem q_845 : Cond.methodLink RL 211 yL_allocate ∈ WS := inWS_21 _ (List.mem_of_getElem? (i := 5) (by decide +kernel))
theorem q_846 : Cond.static yL_allocate ∈ WS := inWS_21 _ (List.mem_of_getElem? (i := 6) (by decide +kernel))
theorem q_847 : Cond.codeWith yL_allocate cL_allocate 5 (some .int) [(0, 7, 10, 13)] ∈ WS := inWS_21 _ (List.mem_of_getElem? (i := 7) (by decide +kernel))
theorem q_848 : Cond.methodLink RL 91 yX8_allocate ∈ WS := inWS_21 _ (List.mem_of_getElem? (i := 8) (by decide +kernel))
theorem q_849 : Cond.instanceMethod yX8_allocate ∈ WS := inWS_21 _ (List.mem_of_getElem? (i := 9) (by decide +kernel))
theorem q_850 : Cond.selects RX8 yX8_allocate yX8_allocate ∈ WS := inWS_21 _ (List.mem_of_getElem? (i := 10) (by decide +kernel))
theorem q_851 : Cond.code yX8_allocate cX8_allocate 4 none ∈ WS := inWS_21 _ (List.mem_of_getElem? (i := 11) (by decide +kernel))
theorem q_852 : Cond.methodLink RX8 274 yX8_checkSlot ∈ WS := inWS_21 _ (List.mem_of_getElem? (i := 12) (by decide +kernel))
theorem q_853 : Cond.static yX8_checkSlot ∈ WS := inWS_21 _ (List.mem_of_getElem? (i := 13) (by decide +kernel))
theorem q_854 : Cond.code yX8_checkSlot cX8_checkSlot 1 none ∈ WS := inWS_21 _ (List.mem_of_getElem? (i := 14) (by decide +kernel))
theorem q_855 : Cond.instanceMethod yX3_begin ∈ WS := inWS_21 _ (List.mem_of_getElem? (i := 15) (by decide +kernel))
theorem q_856 : Cond.selects RX3 yX3_begin yX3_begin ∈ WS := inWS_21 _ (List.mem_of_getElem? (i := 16) (by decide +kernel))
theorem q_857 : Cond.code yX3_begin cX3_begin 5 none ∈ WS := inWS_21 _ (List.mem_of_getElem? (i := 17) (by decide +kernel))
theorem q_858 : Cond.methodLink RL 214 yX9_allocate ∈ WS := inWS_21 _ (List.mem_of_getElem? (i := 18) (by decide +kernel))
theorem q_859 : Cond.instanceMethod yX9_allocate ∈ WS := inWS_21 _ (List.mem_of_getElem? (i := 19) (by decide +kernel))
theorem q_860 : Cond.selects RX9 yX9_allocate yX9_allocate ∈ WS := inWS_21 _ (List.mem_of_getElem? (i := 20) (by decide +kernel))
theorem q_861 : Cond.code yX9_allocate cX9_allocate 5 none ∈ WS := inWS_21 _ (List.mem_of_getElem? (i := 21) (by decide +kernel))
theorem q_862 : Cond.methodLink RX9 209 yX9_isSlot ∈ WS := inWS_21 _ (List.mem_of_getElem? (i := 22) (by decide +kernel))
theorem q_863 : Cond.static yX9_isSlot ∈ WS := inWS_21 _ (List.mem_of_getElem? (i := 23) (by decide +kernel))
theorem q_864 : Cond.code yX9_isSlot cX9_isSlot 1 (some .boolean) ∈ WS := inWS_21 _ (List.mem_of_getElem? (i := 24) (by decide +kernel))
theorem q_865 : Cond.methodLink RL 215 yL_setElement ∈ WS := inWS_21 _ (List.mem_of_getElem? (i := 25) (by decide +kernel))
theorem q_866 : Cond.static yL_setElement ∈ WS := inWS_21 _ (List.mem_of_getElem? (i := 26) (by decide +kernel))
theorem q_867 : Cond.codeWith yL_setElement cL_setElement 6 (some .int) [(0, 12, 15, 13), (0, 12, 19, 19), (0, 12, 23, 29)] ∈ WS := inWS_21 _ (List.mem_of_getElem? (i := 27) (by decide +kernel))
theorem q_868 : Cond.methodLink RL 95 yX8_setElement ∈ WS := inWS_21 _ (List.mem_of_getElem? (i := 28) (by decide +kernel))
theorem q_869 : Cond.instanceMethod yX8_setElement ∈ WS := inWS_21 _ (List.mem_of_getElem? (i := 29) (by decide +kernel))
theorem q_870 : Cond.selects RX8 yX8_setElement yX8_setElement ∈ WS := inWS_21 _ (List.mem_of_getElem? (i := 30) (by decide +kernel))
theorem q_871 : Cond.code yX8_setElement cX8_setElement 5 (some .int) ∈ WS := inWS_21 _ (List.mem_of_getElem? (i := 31) (by decide +kernel))
theorem q_872 : Cond.methodLink RX8 282 yX8_checkArray ∈ WS := inWS_21 _ (List.mem_of_getElem? (i := 32) (by decide +kernel))
theorem q_873 : Cond.instanceMethod yX8_checkArray ∈ WS := inWS_21 _ (List.mem_of_getElem? (i := 33) (by decide +kernel))
theorem q_874 : Cond.selects RX8 yX8_checkArray yX8_checkArray ∈ WS := inWS_21 _ (List.mem_of_getElem? (i := 34) (by decide +kernel))
theorem q_875 : Cond.code yX8_checkArray cX8_checkArray 2 none ∈ WS := inWS_21 _ (List.mem_of_getElem? (i := 35) (by decide +kernel))
theorem q_876 : Cond.instanceMethod yX3_isHeld ∈ WS := inWS_21 _ (List.mem_of_getElem? (i := 36) (by decide +kernel))
theorem q_877 : Cond.selects RX3 yX3_isHeld yX3_isHeld ∈ WS := inWS_21 _ (List.mem_of_getElem? (i := 37) (by decide +kernel))
theorem q_878 : Cond.code yX3_isHeld cX3_isHeld 2 (some .boolean) ∈ WS := inWS_21 _ (List.mem_of_getElem? (i := 38) (by decide +kernel))
theorem q_879 : Cond.methodLink RX8 285 yX8_checkIndexes ∈ WS := inWS_21 _ (List.mem_of_getElem? (i := 39) (by decide +kernel))
theorem q_880 : Cond.instanceMethod yX8_checkIndexes ∈ WS := inWS_22 _ (List.mem_of_getElem? (i := 0) (by decide +kernel))
theorem q_881 : Cond.selects RX8 yX8_checkIndexes yX8_checkIndexes ∈ WS := inWS_22 _ (List.mem_of_getElem? (i := 1) (by decide +kernel))
theorem q_882 : Cond.code yX8_checkIndexes cX8_checkIndexes 4 none ∈ WS := inWS_22 _ (List.mem_of_getElem? (i := 2) (by decide +kernel))
theorem q_883 : Cond.instanceMethod yX3_length ∈ WS := inWS_22 _ (List.mem_of_getElem? (i := 3) (by decide +kernel))
theorem q_884 : Cond.selects RX3 yX3_length yX3_length ∈ WS := inWS_22 _ (List.mem_of_getElem? (i := 4) (by decide +kernel))
theorem q_885 : Cond.code yX3_length cX3_length 2 (some .int) ∈ WS := inWS_22 _ (List.mem_of_getElem? (i := 5) (by decide +kernel))
theorem q_886 : Cond.methodLink RX3 25 yX3_isHeld ∈ WS := inWS_22 _ (List.mem_of_getElem? (i := 6) (by decide +kernel))
theorem q_887 : Cond.instanceMethod yX3_element ∈ WS := inWS_22 _ (List.mem_of_getElem? (i := 7) (by decide +kernel))
theorem q_888 : Cond.selects RX3 yX3_element yX3_element ∈ WS := inWS_22 _ (List.mem_of_getElem? (i := 8) (by decide +kernel))
theorem q_889 : Cond.code yX3_element cX3_element 3 (some .int) ∈ WS := inWS_22 _ (List.mem_of_getElem? (i := 9) (by decide +kernel))
theorem q_890 : Cond.methodLink RX3 29 yX3_isElement ∈ WS := inWS_22 _ (List.mem_of_getElem? (i := 10) (by decide +kernel))
theorem q_891 : Cond.instanceMethod yX3_isElement ∈ WS := inWS_22 _ (List.mem_of_getElem? (i := 11) (by decide +kernel))
theorem q_892 : Cond.selects RX3 yX3_isElement yX3_isElement ∈ WS := inWS_22 _ (List.mem_of_getElem? (i := 12) (by decide +kernel))
theorem q_893 : Cond.code yX3_isElement cX3_isElement 3 (some .boolean) ∈ WS := inWS_22 _ (List.mem_of_getElem? (i := 13) (by decide +kernel))
theorem q_894 : Cond.instanceMethod yX3_put ∈ WS := inWS_22 _ (List.mem_of_getElem? (i := 14) (by decide +kernel))
theorem q_895 : Cond.selects RX3 yX3_put yX3_put ∈ WS := inWS_22 _ (List.mem_of_getElem? (i := 15) (by decide +kernel))
theorem q_896 : Cond.code yX3_put cX3_put 4 none ∈ WS := inWS_22 _ (List.mem_of_getElem? (i := 16) (by decide +kernel))
theorem q_897 : Cond.methodLink RL 218 yX9_setElement ∈ WS := inWS_22 _ (List.mem_of_getElem? (i := 17) (by decide +kernel))
theorem q_898 : Cond.instanceMethod yX9_setElement ∈ WS := inWS_22 _ (List.mem_of_getElem? (i := 18) (by decide +kernel))
theorem q_899 : Cond.selects RX9 yX9_setElement yX9_setElement ∈ WS := inWS_22 _ (List.mem_of_getElem? (i := 19) (by decide +kernel))
theorem q_900 : Cond.code yX9_setElement cX9_setElement 5 (some .int) ∈ WS := inWS_22 _ (List.mem_of_getElem? (i := 20) (by decide +kernel))
theorem q_901 : Cond.methodLink RX9 212 yX9_narrowed ∈ WS := inWS_22 _ (List.mem_of_getElem? (i := 21) (by decide +kernel))
theorem q_902 : Cond.instanceMethod yX9_narrowed ∈ WS := inWS_22 _ (List.mem_of_getElem? (i := 22) (by decide +kernel))
theorem q_903 : Cond.selects RX9 yX9_narrowed yX9_narrowed ∈ WS := inWS_22 _ (List.mem_of_getElem? (i := 23) (by decide +kernel))
theorem q_904 : Cond.code yX9_narrowed cX9_narrowed 3 (some .int) ∈ WS := inWS_22 _ (List.mem_of_getElem? (i := 24) (by decide +kernel))
theorem q_905 : Cond.methodLink RL 219 yL_storeCounts ∈ WS := inWS_22 _ (List.mem_of_getElem? (i := 25) (by decide +kernel))
theorem q_906 : Cond.static yL_storeCounts ∈ WS := inWS_22 _ (List.mem_of_getElem? (i := 26) (by decide +kernel))
theorem q_907 : Cond.codeWith yL_storeCounts cL_storeCounts 4 (some .int) [(0, 6, 9, 13), (0, 6, 12, 19), (0, 6, 15, 29)] ∈ WS := inWS_22 _ (List.mem_of_getElem? (i := 27) (by decide +kernel))
theorem q_908 : Cond.methodLink RL 99 yX8_storeCounts ∈ WS := inWS_22 _ (List.mem_of_getElem? (i := 28) (by decide +kernel))
theorem q_909 : Cond.instanceMethod yX8_storeCounts ∈ WS := inWS_22 _ (List.mem_of_getElem? (i := 29) (by decide +kernel))
theorem q_910 : Cond.selects RX8 yX8_storeCounts yX8_storeCounts ∈ WS := inWS_22 _ (List.mem_of_getElem? (i := 30) (by decide +kernel))
theorem q_911 : Cond.code yX8_storeCounts cX8_storeCounts 4 none ∈ WS := inWS_22 _ (List.mem_of_getElem? (i := 31) (by decide +kernel))
theorem q_912 : Cond.methodLink RL 221 yX9_storeCounts ∈ WS := inWS_22 _ (List.mem_of_getElem? (i := 32) (by decide +kernel))
theorem q_913 : Cond.instanceMethod yX9_storeCounts ∈ WS := inWS_22 _ (List.mem_of_getElem? (i := 33) (by decide +kernel))
theorem q_914 : Cond.selects RX9 yX9_storeCounts yX9_storeCounts ∈ WS := inWS_22 _ (List.mem_of_getElem? (i := 34) (by decide +kernel))
theorem q_915 : Cond.code yX9_storeCounts cX9_storeCounts 4 none ∈ WS := inWS_22 _ (List.mem_of_getElem? (i := 35) (by decide +kernel))
theorem q_916 : Cond.methodLink RL 222 yL_loadWord ∈ WS := inWS_22 _ (List.mem_of_getElem? (i := 36) (by decide +kernel))
theorem q_917 : Cond.static yL_loadWord ∈ WS := inWS_22 _ (List.mem_of_getElem? (i := 37) (by decide +kernel))
theorem q_918 : Cond.codeWith yL_loadWord cL_loadWord 5 (some .int) [(0, 7, 10, 13), (0, 7, 14, 19), (0, 7, 18, 29), (0, 7, 22, 57)] ∈ WS := inWS_22 _ (List.mem_of_getElem? (i := 38) (by decide +kernel))
theorem q_919 : Cond.methodLink RL 102 yX8_loadWord ∈ WS := inWS_22 _ (List.mem_of_getElem? (i := 39) (by decide +kernel))
theorem q_920 : Cond.instanceMethod yX8_loadWord ∈ WS := inWS_23 _ (List.mem_of_getElem? (i := 0) (by decide +kernel))
theorem q_921 : Cond.selects RX8 yX8_loadWord yX8_loadWord ∈ WS := inWS_23 _ (List.mem_of_getElem? (i := 1) (by decide +kernel))
theorem q_922 : Cond.code yX8_loadWord cX8_loadWord 5 none ∈ WS := inWS_23 _ (List.mem_of_getElem? (i := 2) (by decide +kernel))
theorem q_923 : Cond.methodLink RL 225 yX9_loadWord ∈ WS := inWS_23 _ (List.mem_of_getElem? (i := 3) (by decide +kernel))
theorem q_924 : Cond.instanceMethod yX9_loadWord ∈ WS := inWS_23 _ (List.mem_of_getElem? (i := 4) (by decide +kernel))
theorem q_925 : Cond.selects RX9 yX9_loadWord yX9_loadWord ∈ WS := inWS_23 _ (List.mem_of_getElem? (i := 5) (by decide +kernel))
theorem q_926 : Cond.code yX9_loadWord cX9_loadWord 6 none ∈ WS := inWS_23 _ (List.mem_of_getElem? (i := 6) (by decide +kernel))
theorem q_927 : Cond.methodLink RX9 215 yX9_areTerminals ∈ WS := inWS_23 _ (List.mem_of_getElem? (i := 7) (by decide +kernel))
theorem q_928 : Cond.instanceMethod yX9_areTerminals ∈ WS := inWS_23 _ (List.mem_of_getElem? (i := 8) (by decide +kernel))
theorem q_929 : Cond.selects RX9 yX9_areTerminals yX9_areTerminals ∈ WS := inWS_23 _ (List.mem_of_getElem? (i := 9) (by decide +kernel))
theorem q_930 : Cond.code yX9_areTerminals cX9_areTerminals 5 (some .boolean) ∈ WS := inWS_23 _ (List.mem_of_getElem? (i := 10) (by decide +kernel))
theorem q_931 : Cond.methodLink RL 226 yX8_snapshot ∈ WS := inWS_23 _ (List.mem_of_getElem? (i := 11) (by decide +kernel))
theorem q_932 : Cond.instanceMethod yX8_snapshot ∈ WS := inWS_23 _ (List.mem_of_getElem? (i := 12) (by decide +kernel))
theorem q_933 : Cond.selects RX8 yX8_snapshot yX8_snapshot ∈ WS := inWS_23 _ (List.mem_of_getElem? (i := 13) (by decide +kernel))
theorem q_934 : Cond.code yX8_snapshot cX8_snapshot 1 none ∈ WS := inWS_23 _ (List.mem_of_getElem? (i := 14) (by decide +kernel))
theorem q_935 : Cond.instanceMethod yX1_copy ∈ WS := inWS_23 _ (List.mem_of_getElem? (i := 15) (by decide +kernel))
theorem q_936 : Cond.selects RX1 yX1_copy yX1_copy ∈ WS := inWS_23 _ (List.mem_of_getElem? (i := 16) (by decide +kernel))
theorem q_937 : Cond.code yX1_copy cX1_copy 3 none ∈ WS := inWS_23 _ (List.mem_of_getElem? (i := 17) (by decide +kernel))
theorem q_938 : Cond.instanceMethod yX6_copy ∈ WS := inWS_23 _ (List.mem_of_getElem? (i := 18) (by decide +kernel))
theorem q_939 : Cond.selects RX6 yX6_copy yX6_copy ∈ WS := inWS_23 _ (List.mem_of_getElem? (i := 19) (by decide +kernel))
theorem q_940 : Cond.code yX6_copy cX6_copy 3 none ∈ WS := inWS_23 _ (List.mem_of_getElem? (i := 20) (by decide +kernel))
theorem q_941 : Cond.methodLink RL 229 yX9_snapshot ∈ WS := inWS_23 _ (List.mem_of_getElem? (i := 21) (by decide +kernel))
theorem q_942 : Cond.instanceMethod yX9_snapshot ∈ WS := inWS_23 _ (List.mem_of_getElem? (i := 22) (by decide +kernel))
theorem q_943 : Cond.selects RX9 yX9_snapshot yX9_snapshot ∈ WS := inWS_23 _ (List.mem_of_getElem? (i := 23) (by decide +kernel))
theorem q_944 : Cond.code yX9_snapshot cX9_snapshot 2 none ∈ WS := inWS_23 _ (List.mem_of_getElem? (i := 24) (by decide +kernel))
theorem q_945 : Cond.fieldLink RX9 218 "GrammarAmbiguityModel" "isSaved" "Z" ∈ WS := inWS_23 _ (List.mem_of_getElem? (i := 25) (by decide +kernel))
theorem q_946 : Cond.fieldLink RX9 221 "GrammarAmbiguityModel" "savedNonterminals" "I" ∈ WS := inWS_23 _ (List.mem_of_getElem? (i := 26) (by decide +kernel))
theorem q_947 : Cond.fieldLink RX9 224 "GrammarAmbiguityModel" "savedTerminals" "I" ∈ WS := inWS_23 _ (List.mem_of_getElem? (i := 27) (by decide +kernel))
theorem q_948 : Cond.fieldLink RX9 227 "GrammarAmbiguityModel" "savedStart" "I" ∈ WS := inWS_23 _ (List.mem_of_getElem? (i := 28) (by decide +kernel))
theorem q_949 : Cond.fieldLink RX9 230 "GrammarAmbiguityModel" "savedProductions" "I" ∈ WS := inWS_23 _ (List.mem_of_getElem? (i := 29) (by decide +kernel))
theorem q_950 : Cond.fieldLink RX9 233 "GrammarAmbiguityModel" "savedLength" "I" ∈ WS := inWS_23 _ (List.mem_of_getElem? (i := 30) (by decide +kernel))
theorem q_951 : Cond.methodLink RX9 236 yX9_copyTable ∈ WS := inWS_23 _ (List.mem_of_getElem? (i := 31) (by decide +kernel))
theorem q_952 : Cond.static yX9_copyTable ∈ WS := inWS_23 _ (List.mem_of_getElem? (i := 32) (by decide +kernel))
theorem q_953 : Cond.code yX9_copyTable cX9_copyTable 4 none ∈ WS := inWS_23 _ (List.mem_of_getElem? (i := 33) (by decide +kernel))
theorem q_954 : Cond.methodLink RL 230 yL_restore ∈ WS := inWS_23 _ (List.mem_of_getElem? (i := 34) (by decide +kernel))
theorem q_955 : Cond.static yL_restore ∈ WS := inWS_23 _ (List.mem_of_getElem? (i := 35) (by decide +kernel))
theorem q_956 : Cond.codeWith yL_restore cL_restore 2 (some .int) [(0, 4, 7, 19)] ∈ WS := inWS_23 _ (List.mem_of_getElem? (i := 36) (by decide +kernel))
theorem q_957 : Cond.methodLink RL 106 yX8_restore ∈ WS := inWS_23 _ (List.mem_of_getElem? (i := 37) (by decide +kernel))
theorem q_958 : Cond.instanceMethod yX8_restore ∈ WS := inWS_23 _ (List.mem_of_getElem? (i := 38) (by decide +kernel))
theorem q_959 : Cond.selects RX8 yX8_restore yX8_restore ∈ WS := inWS_23 _ (List.mem_of_getElem? (i := 39) (by decide +kernel))
theorem q_960 : Cond.code yX8_restore cX8_restore 1 none ∈ WS := inWS_24 _ (List.mem_of_getElem? (i := 0) (by decide +kernel))
theorem q_961 : Cond.methodLink RL 233 yX9_restore ∈ WS := inWS_24 _ (List.mem_of_getElem? (i := 1) (by decide +kernel))
theorem q_962 : Cond.instanceMethod yX9_restore ∈ WS := inWS_24 _ (List.mem_of_getElem? (i := 2) (by decide +kernel))
theorem q_963 : Cond.selects RX9 yX9_restore yX9_restore ∈ WS := inWS_24 _ (List.mem_of_getElem? (i := 3) (by decide +kernel))
theorem q_964 : Cond.code yX9_restore cX9_restore 2 none ∈ WS := inWS_24 _ (List.mem_of_getElem? (i := 4) (by decide +kernel))
theorem i_X1 : ∀ w ∈ wsX10, w ∈ WS := fun w h => inWS_25 w (List.mem_append_left _ h)
theorem i_X2 : ∀ w ∈ wsX20, w ∈ WS := fun w h => inWS_25 w (List.mem_append_right _ (List.mem_append_left _ h))
theorem i_X3 : ∀ w ∈ wsX30, w ∈ WS := fun w h => inWS_25 w (List.mem_append_right _ (List.mem_append_right _ (List.mem_append_left _ h)))
theorem i_X4 : ∀ w ∈ wsX40, w ∈ WS := fun w h => inWS_25 w (List.mem_append_right _ (List.mem_append_right _ (List.mem_append_right _ (List.mem_append_left _ h))))
theorem i_X5 : ∀ w ∈ wsX50, w ∈ WS := fun w h => inWS_25 w (List.mem_append_right _ (List.mem_append_right _ (List.mem_append_right _ (List.mem_append_right _ (List.mem_append_left _ h)))))
theorem i_X6 : ∀ w ∈ wsX60, w ∈ WS := fun w h => inWS_25 w (List.mem_append_right _ (List.mem_append_right _ (List.mem_append_right _ (List.mem_append_right _ (List.mem_append_right _ (List.mem_append_left _ h))))))
theorem i_X7 : ∀ w ∈ wsX70, w ∈ WS := fun w h => inWS_25 w (List.mem_append_right _ (List.mem_append_right _ (List.mem_append_right _ (List.mem_append_right _ (List.mem_append_right _ (List.mem_append_right _ (List.mem_append_left _ h)))))))
theorem i_X8 : ∀ w ∈ wsX80, w ∈ WS := fun w h => inWS_25 w (List.mem_append_right _ (List.mem_append_right _ (List.mem_append_right _ (List.mem_append_right _ (List.mem_append_right _ (List.mem_append_right _ (List.mem_append_right _ (List.mem_append_left _ h))))))))
theorem i_X9 : ∀ w ∈ wsX90, w ∈ WS := fun w h => inWS_25 w (List.mem_append_right _ (List.mem_append_right _ (List.mem_append_right _ (List.mem_append_right _ (List.mem_append_right _ (List.mem_append_right _ (List.mem_append_right _ (List.mem_append_right _ (h)))))))))
