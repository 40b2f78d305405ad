/-! ===== BEGIN printed: names, fields, word lists, decode rows ===== -/
def RX0 : String := "FaultShrinker$Recipe"
def TX0 : u_T := fun k => match k with
  | 0 => ("FaultShrinker$Recipe", "kinds", "[I", true)
  | _ => ("FaultShrinker$Recipe", "size", "I", false)
def tyX0 : Nat → FieldType := fun k => match k with
  | 0 => .array .int
  | _ => .int
abbrev wsX00 : List Cond := u_ws RX0 TX0 2
theorem nmX0 : ∀ a, a < 2 → ∀ b, b < 2 → a ≠ b → (TX0 a).2.1 ≠ (TX0 b).2.1 := by decide +kernel
theorem tyX0_ok : ∀ k, k < 2 → parseFieldDescriptor (TX0 k).2.2.1 = some (tyX0 k) := by decide +kernel
abbrev cX0_init : ByteArray := prog_2_method_1_code
def yX0_init : MethodName := ⟨RX0, "<init>", "()V"⟩
abbrev cX0_size : ByteArray := prog_2_method_2_code
def yX0_size : MethodName := ⟨RX0, "size", "()I"⟩
abbrev cX0_isFull : ByteArray := prog_2_method_3_code
def yX0_isFull : MethodName := ⟨RX0, "isFull", "()Z"⟩
abbrev cX0_hasPlace : ByteArray := prog_2_method_4_code
def yX0_hasPlace : MethodName := ⟨RX0, "hasPlace", "(I)Z"⟩
abbrev cX0_hasDish : ByteArray := prog_2_method_5_code
def yX0_hasDish : MethodName := ⟨RX0, "hasDish", "(I)Z"⟩
abbrev cX0_wholeDish : ByteArray := prog_2_method_6_code
def yX0_wholeDish : MethodName := ⟨RX0, "wholeDish", "()I"⟩
abbrev cX0_kindAt : ByteArray := prog_2_method_7_code
def yX0_kindAt : MethodName := ⟨RX0, "kindAt", "(I)I"⟩
abbrev cX0_append : ByteArray := prog_2_method_8_code
def yX0_append : MethodName := ⟨RX0, "append", "(I)V"⟩
abbrev cX0_takeOut : ByteArray := prog_2_method_9_code
def yX0_takeOut : MethodName := ⟨RX0, "takeOut", "(I)V"⟩
abbrev cX0_kindsOf : ByteArray := prog_2_method_10_code
def yX0_kindsOf : MethodName := ⟨RX0, "kindsOf", "(I)I"⟩
def RX1 : String := "FaultShrinker$RuleBook"
def TX1 : u_T := fun k => match k with
  | 0 => ("FaultShrinker$RuleBook", "needed", "[I", true)
  | 1 => ("FaultShrinker$RuleBook", "spared", "[I", true)
  | _ => ("FaultShrinker$RuleBook", "size", "I", false)
def tyX1 : Nat → FieldType := fun k => match k with
  | 0 => .array .int
  | 1 => .array .int
  | _ => .int
abbrev wsX10 : List Cond := u_ws RX1 TX1 3
theorem nmX1 : ∀ a, a < 3 → ∀ b, b < 3 → a ≠ b → (TX1 a).2.1 ≠ (TX1 b).2.1 := by decide +kernel
theorem tyX1_ok : ∀ k, k < 3 → parseFieldDescriptor (TX1 k).2.2.1 = some (tyX1 k) := by decide +kernel
abbrev cX1_init : ByteArray := prog_3_method_1_code
def yX1_init : MethodName := ⟨RX1, "<init>", "()V"⟩
abbrev cX1_size : ByteArray := prog_3_method_2_code
def yX1_size : MethodName := ⟨RX1, "size", "()I"⟩
abbrev cX1_isFull : ByteArray := prog_3_method_3_code
def yX1_isFull : MethodName := ⟨RX1, "isFull", "()Z"⟩
abbrev cX1_hasRule : ByteArray := prog_3_method_4_code
def yX1_hasRule : MethodName := ⟨RX1, "hasRule", "(I)Z"⟩
abbrev cX1_append : ByteArray := prog_3_method_5_code
def yX1_append : MethodName := ⟨RX1, "append", "()V"⟩
abbrev cX1_neededBy : ByteArray := prog_3_method_6_code
def yX1_neededBy : MethodName := ⟨RX1, "neededBy", "(I)I"⟩
abbrev cX1_sparedBy : ByteArray := prog_3_method_7_code
def yX1_sparedBy : MethodName := ⟨RX1, "sparedBy", "(I)I"⟩
abbrev cX1_putNeeded : ByteArray := prog_3_method_8_code
def yX1_putNeeded : MethodName := ⟨RX1, "putNeeded", "(II)V"⟩
abbrev cX1_putSpared : ByteArray := prog_3_method_9_code
def yX1_putSpared : MethodName := ⟨RX1, "putSpared", "(II)V"⟩
abbrev cX1_holds : ByteArray := prog_3_method_10_code
def yX1_holds : MethodName := ⟨RX1, "holds", "(II)Z"⟩
abbrev cX1_holding : ByteArray := prog_3_method_11_code
def yX1_holding : MethodName := ⟨RX1, "holding", "(I)I"⟩
abbrev cX1_leastNeeded : ByteArray := prog_3_method_12_code
def yX1_leastNeeded : MethodName := ⟨RX1, "leastNeeded", "(I)I"⟩
def RX2 : String := "FaultShrinker$Search"
def TX2 : u_T := fun k => match k with
  | 0 => ("FaultShrinker$Search", "facts", "[I", true)
  | 1 => ("FaultShrinker$Search", "firstPlaces", "[I", true)
  | 2 => ("FaultShrinker$Search", "dish", "I", false)
  | 3 => ("FaultShrinker$Search", "parts", "I", false)
  | 4 => ("FaultShrinker$Search", "steps", "I", false)
  | _ => ("FaultShrinker$Search", "tastings", "I", false)
def tyX2 : Nat → FieldType := fun k => match k with
  | 0 => .array .int
  | 1 => .array .int
  | 2 => .int
  | 3 => .int
  | 4 => .int
  | _ => .int
abbrev wsX20 : List Cond := u_ws RX2 TX2 6
theorem nmX2 : ∀ a, a < 6 → ∀ b, b < 6 → a ≠ b → (TX2 a).2.1 ≠ (TX2 b).2.1 := by decide +kernel
theorem tyX2_ok : ∀ k, k < 6 → parseFieldDescriptor (TX2 k).2.2.1 = some (tyX2 k) := by decide +kernel
abbrev cX2_init : ByteArray := prog_4_method_1_code
def yX2_init : MethodName := ⟨RX2, "<init>", "()V"⟩
abbrev cX2_list : ByteArray := prog_4_method_2_code
def yX2_list : MethodName := ⟨RX2, "list", "()I"⟩
abbrev cX2_listSize : ByteArray := prog_4_method_3_code
def yX2_listSize : MethodName := ⟨RX2, "listSize", "()I"⟩
abbrev cX2_steps : ByteArray := prog_4_method_4_code
def yX2_steps : MethodName := ⟨RX2, "steps", "()I"⟩
abbrev cX2_tastings : ByteArray := prog_4_method_5_code
def yX2_tastings : MethodName := ⟨RX2, "tastings", "()I"⟩
abbrev cX2_listPlace : ByteArray := prog_4_method_6_code
def yX2_listPlace : MethodName := ⟨RX2, "listPlace", "(I)I"⟩
abbrev cX2_stepFact : ByteArray := prog_4_method_7_code
def yX2_stepFact : MethodName := ⟨RX2, "stepFact", "(II)I"⟩
abbrev cX2_goByHalves : ByteArray := prog_4_method_8_code
def yX2_goByHalves : MethodName := ⟨RX2, "goByHalves", "(LFaultShrinker$Taster;I)V"⟩
abbrev cX2_goOneByOne : ByteArray := prog_4_method_9_code
def yX2_goOneByOne : MethodName := ⟨RX2, "goOneByOne", "(LFaultShrinker$Taster;I)V"⟩
abbrev cX2_begin : ByteArray := prog_4_method_10_code
def yX2_begin : MethodName := ⟨RX2, "begin", "(LFaultShrinker$Taster;I)Z"⟩
abbrev cX2_makeStep : ByteArray := prog_4_method_11_code
def yX2_makeStep : MethodName := ⟨RX2, "makeStep", "(LFaultShrinker$Taster;)Z"⟩
abbrev cX2_countPlaces : ByteArray := prog_4_method_12_code
def yX2_countPlaces : MethodName := ⟨RX2, "countPlaces", "()V"⟩
abbrev cX2_firstSpoiledPart : ByteArray := prog_4_method_13_code
def yX2_firstSpoiledPart : MethodName := ⟨RX2, "firstSpoiledPart", "(LFaultShrinker$Taster;I)I"⟩
abbrev cX2_firstSparedPart : ByteArray := prog_4_method_14_code
def yX2_firstSparedPart : MethodName := ⟨RX2, "firstSparedPart", "(LFaultShrinker$Taster;I)I"⟩
abbrev cX2_partAt : ByteArray := prog_4_method_15_code
def yX2_partAt : MethodName := ⟨RX2, "partAt", "(II)I"⟩
abbrev cX2_note : ByteArray := prog_4_method_16_code
def yX2_note : MethodName := ⟨RX2, "note", "(IIII)V"⟩
def RX3 : String := "FaultShrinker$Taster"
def TX3 : u_T := fun k => match k with
  | 0 => ("FaultShrinker$Taster", "recipe", "LFaultShrinker$Recipe;", true)
  | 1 => ("FaultShrinker$Taster", "rules", "LFaultShrinker$RuleBook;", true)
  | 2 => ("FaultShrinker$Taster", "known", "[J", true)
  | 3 => ("FaultShrinker$Taster", "search", "J", false)
  | _ => ("FaultShrinker$Taster", "tastings", "I", false)
def tyX3 : Nat → FieldType := fun k => match k with
  | 0 => .object "FaultShrinker$Recipe"
  | 1 => .object "FaultShrinker$RuleBook"
  | 2 => .array .long
  | 3 => .long
  | _ => .int
abbrev wsX30 : List Cond := u_ws RX3 TX3 5
theorem nmX3 : ∀ a, a < 5 → ∀ b, b < 5 → a ≠ b → (TX3 a).2.1 ≠ (TX3 b).2.1 := by decide +kernel
theorem tyX3_ok : ∀ k, k < 5 → parseFieldDescriptor (TX3 k).2.2.1 = some (tyX3 k) := by decide +kernel
abbrev cX3_init : ByteArray := prog_5_method_1_code
def yX3_init : MethodName := ⟨RX3, "<init>", "(LFaultShrinker$Recipe;LFaultShrinker$RuleBook;)V"⟩
abbrev cX3_begin : ByteArray := prog_5_method_2_code
def yX3_begin : MethodName := ⟨RX3, "begin", "()V"⟩
abbrev cX3_tastings : ByteArray := prog_5_method_3_code
def yX3_tastings : MethodName := ⟨RX3, "tastings", "()I"⟩
abbrev cX3_looksSpoiled : ByteArray := prog_5_method_4_code
def yX3_looksSpoiled : MethodName := ⟨RX3, "looksSpoiled", "(I)Z"⟩
abbrev cX3_learn : ByteArray := prog_5_method_5_code
def yX3_learn : MethodName := ⟨RX3, "learn", "(I)Z"⟩
def RX4 : String := "FaultShrinker"
def TX4 : u_T := fun k => match k with
  | 0 => ("FaultShrinker", "recipe", "LFaultShrinker$Recipe;", true)
  | 1 => ("FaultShrinker", "rules", "LFaultShrinker$RuleBook;", true)
  | 2 => ("FaultShrinker", "taster", "LFaultShrinker$Taster;", true)
  | 3 => ("FaultShrinker", "keptSearch", "LFaultShrinker$Search;", true)
  | 4 => ("FaultShrinker", "trialSearch", "LFaultShrinker$Search;", true)
  | 5 => ("FaultShrinker", "keptListKinds", "I", false)
  | _ => ("FaultShrinker", "keptTastings", "I", false)
def tyX4 : Nat → FieldType := fun k => match k with
  | 0 => .object "FaultShrinker$Recipe"
  | 1 => .object "FaultShrinker$RuleBook"
  | 2 => .object "FaultShrinker$Taster"
  | 3 => .object "FaultShrinker$Search"
  | 4 => .object "FaultShrinker$Search"
  | 5 => .int
  | _ => .int
abbrev wsX40 : List Cond := u_ws RX4 TX4 7
theorem nmX4 : ∀ a, a < 7 → ∀ b, b < 7 → a ≠ b → (TX4 a).2.1 ≠ (TX4 b).2.1 := by decide +kernel
theorem tyX4_ok : ∀ k, k < 7 → parseFieldDescriptor (TX4 k).2.2.1 = some (tyX4 k) := by decide +kernel
abbrev cX4_init : ByteArray := prog_1_method_1_code
def yX4_init : MethodName := ⟨RX4, "<init>", "()V"⟩
abbrev cX4_add : ByteArray := prog_1_method_2_code
def yX4_add : MethodName := ⟨RX4, "add", "(I)I"⟩
abbrev cX4_drop : ByteArray := prog_1_method_3_code
def yX4_drop : MethodName := ⟨RX4, "drop", "(I)I"⟩
abbrev cX4_kind : ByteArray := prog_1_method_4_code
def yX4_kind : MethodName := ⟨RX4, "kind", "(I)I"⟩
abbrev cX4_rule : ByteArray := prog_1_method_5_code
def yX4_rule : MethodName := ⟨RX4, "rule", "()I"⟩
abbrev cX4_setNeeds : ByteArray := prog_1_method_6_code
def yX4_setNeeds : MethodName := ⟨RX4, "setNeeds", "(IIZ)Z"⟩
abbrev cX4_setSpares : ByteArray := prog_1_method_7_code
def yX4_setSpares : MethodName := ⟨RX4, "setSpares", "(IIZ)Z"⟩
abbrev cX4_told : ByteArray := prog_1_method_8_code
def yX4_told : MethodName := ⟨RX4, "told", "(II)I"⟩
abbrev cX4_spoils : ByteArray := prog_1_method_9_code
def yX4_spoils : MethodName := ⟨RX4, "spoils", "(I)Z"⟩
abbrev cX4_shrink : ByteArray := prog_1_method_10_code
def yX4_shrink : MethodName := ⟨RX4, "shrink", "()I"⟩
abbrev cX4_kept : ByteArray := prog_1_method_11_code
def yX4_kept : MethodName := ⟨RX4, "kept", "(I)I"⟩
abbrev cX4_step : ByteArray := prog_1_method_12_code
def yX4_step : MethodName := ⟨RX4, "step", "(II)I"⟩
abbrev cX4_count : ByteArray := prog_1_method_13_code
def yX4_count : MethodName := ⟨RX4, "count", "(I)I"⟩
abbrev cX4_would : ByteArray := prog_1_method_14_code
def yX4_would : MethodName := ⟨RX4, "would", "(I)I"⟩
abbrev cX4_least : ByteArray := prog_1_method_15_code
def yX4_least : MethodName := ⟨RX4, "least", "()I"⟩
abbrev cX4_isTight : ByteArray := prog_1_method_16_code
def yX4_isTight : MethodName := ⟨RX4, "isTight", "(I)Z"⟩
abbrev cX4_advise : ByteArray := prog_1_method_17_code
def yX4_advise : MethodName := ⟨RX4, "advise", "()I"⟩
abbrev cX4_mean : ByteArray := prog_1_method_18_code
def yX4_mean : MethodName := ⟨RX4, "mean", "()D"⟩
abbrev cX4_digest : ByteArray := prog_1_method_19_code
def yX4_digest : MethodName := ⟨RX4, "digest", "()J"⟩
abbrev cX4_digestState : ByteArray := prog_1_method_20_code
def yX4_digestState : MethodName := ⟨RX4, "digestState", "(J)J"⟩
abbrev cX4_digestKept : ByteArray := prog_1_method_21_code
def yX4_digestKept : MethodName := ⟨RX4, "digestKept", "(J)J"⟩
abbrev cX4_ruleFact : ByteArray := prog_1_method_22_code
def yX4_ruleFact : MethodName := ⟨RX4, "ruleFact", "(II)I"⟩
abbrev cX4_countFact : ByteArray := prog_1_method_23_code
def yX4_countFact : MethodName := ⟨RX4, "countFact", "(I)I"⟩
abbrev cX4_isSpoiled : ByteArray := prog_1_method_24_code
def yX4_isSpoiled : MethodName := ⟨RX4, "isSpoiled", "(I)Z"⟩
abbrev cX4_isKind : ByteArray := prog_1_method_25_code
def yX4_isKind : MethodName := ⟨RX4, "isKind", "(I)Z"⟩
abbrev cX4_hasBit : ByteArray := prog_1_method_26_code
def yX4_hasBit : MethodName := ⟨RX4, "hasBit", "(II)Z"⟩
abbrev cX4_withBit : ByteArray := prog_1_method_27_code
def yX4_withBit : MethodName := ⟨RX4, "withBit", "(IIZ)I"⟩
abbrev cX4_mixed : ByteArray := prog_1_method_28_code
def yX4_mixed : MethodName := ⟨RX4, "mixed", "(JJ)J"⟩
def RX5 : String := "FaultShrinkerLaw$Sim"
def TX5 : u_T := fun k => match k with
  | 0 => ("FaultShrinkerLaw$Sim", "kinds", "[I", false)
  | 1 => ("FaultShrinkerLaw$Sim", "rules", "[[I", false)
  | 2 => ("FaultShrinkerLaw$Sim", "list", "[I", false)
  | 3 => ("FaultShrinkerLaw$Sim", "listKinds", "[I", false)
  | 4 => ("FaultShrinkerLaw$Sim", "tasted", "I", false)
  | 5 => ("FaultShrinkerLaw$Sim", "steps", "[[I", false)
  | 6 => ("FaultShrinkerLaw$Sim", "all", "I", false)
  | 7 => ("FaultShrinkerLaw$Sim", "seen", "[[I", false)
  | _ => ("FaultShrinkerLaw$Sim", "made", "[[I", false)
def tyX5 : Nat → FieldType := fun k => match k with
  | 0 => .array .int
  | 1 => .array (.array .int)
  | 2 => .array .int
  | 3 => .array .int
  | 4 => .int
  | 5 => .array (.array .int)
  | 6 => .int
  | 7 => .array (.array .int)
  | _ => .array (.array .int)
abbrev wsX50 : List Cond := u_ws RX5 TX5 9
theorem nmX5 : ∀ a, a < 9 → ∀ b, b < 9 → a ≠ b → (TX5 a).2.1 ≠ (TX5 b).2.1 := by decide +kernel
theorem tyX5_ok : ∀ k, k < 9 → parseFieldDescriptor (TX5 k).2.2.1 = some (tyX5 k) := by decide +kernel
abbrev cX5_init : ByteArray := prog_7_method_1_code
def yX5_init : MethodName := ⟨RX5, "<init>", "()V"⟩
abbrev cX5_more : ByteArray := prog_7_method_2_code
def yX5_more : MethodName := ⟨RX5, "more", "([[I[I)[[I"⟩
abbrev cX5_has : ByteArray := prog_7_method_3_code
def yX5_has : MethodName := ⟨RX5, "has", "([II)Z"⟩
abbrev cX5_isSame : ByteArray := prog_7_method_4_code
def yX5_isSame : MethodName := ⟨RX5, "isSame", "([I[I)Z"⟩
abbrev cX5_kindsOf : ByteArray := prog_7_method_5_code
def yX5_kindsOf : MethodName := ⟨RX5, "kindsOf", "([I)[I"⟩
abbrev cX5_holds : ByteArray := prog_7_method_6_code
def yX5_holds : MethodName := ⟨RX5, "holds", "(I[I)Z"⟩
abbrev cX5_spoils : ByteArray := prog_7_method_7_code
def yX5_spoils : MethodName := ⟨RX5, "spoils", "([I)Z"⟩
abbrev cX5_taste : ByteArray := prog_7_method_8_code
def yX5_taste : MethodName := ⟨RX5, "taste", "([I)Z"⟩
abbrev cX5_whole : ByteArray := prog_7_method_9_code
def yX5_whole : MethodName := ⟨RX5, "whole", "()[I"⟩
abbrev cX5_piece : ByteArray := prog_7_method_10_code
def yX5_piece : MethodName := ⟨RX5, "piece", "([III)[I"⟩
abbrev cX5_rest : ByteArray := prog_7_method_11_code
def yX5_rest : MethodName := ⟨RX5, "rest", "([III)[I"⟩
abbrev cX5_bits : ByteArray := prog_7_method_12_code
def yX5_bits : MethodName := ⟨RX5, "bits", "([I)I"⟩
abbrev cX5_halve : ByteArray := prog_7_method_13_code
def yX5_halve : MethodName := ⟨RX5, "halve", "([II)[I"⟩
abbrev cX5_search : ByteArray := prog_7_method_14_code
def yX5_search : MethodName := ⟨RX5, "search", "()[I"⟩
abbrev cX5_oneByOne : ByteArray := prog_7_method_16_code
def yX5_oneByOne : MethodName := ⟨RX5, "oneByOne", "()[I"⟩
abbrev cX5_shrink : ByteArray := prog_7_method_17_code
def yX5_shrink : MethodName := ⟨RX5, "shrink", "()I"⟩
abbrev cX5_needs : ByteArray := prog_7_method_19_code
def yX5_needs : MethodName := ⟨RX5, "needs", "(II)I"⟩
abbrev cX5_isSame_ : ByteArray := prog_7_method_20_code
def yX5_isSame_ : MethodName := ⟨RX5, "isSame", "(LFaultShrinker;)Z"⟩
abbrev cX5_isAlike : ByteArray := prog_7_method_21_code
def yX5_isAlike : MethodName := ⟨RX5, "isAlike", "(LFaultShrinker;)Z"⟩
def RX6 : String := "FaultShrinkerModel"
def TX6 : u_T := fun k => match k with
  | _ => ("", "", "", false)
def tyX6 : Nat → FieldType := fun k => match k with
  | _ => .int
abbrev wsX60 : List Cond := u_ws RX6 TX6 0
theorem nmX6 : ∀ a, a < 0 → ∀ b, b < 0 → a ≠ b → (TX6 a).2.1 ≠ (TX6 b).2.1 := by decide +kernel
theorem tyX6_ok : ∀ k, k < 0 → parseFieldDescriptor (TX6 k).2.2.1 = some (tyX6 k) := by decide +kernel
def RJ6 : String := "java/lang/Integer"
def TJ6 : u_T := fun k => match k with
  | _ => ("", "", "", false)
def tyJ6 : Nat → FieldType := fun k => match k with
  | _ => .int
abbrev wsJ60 : List Cond := u_ws RJ6 TJ6 0
theorem nmJ6 : ∀ a, a < 0 → ∀ b, b < 0 → a ≠ b → (TJ6 a).2.1 ≠ (TJ6 b).2.1 := by decide +kernel
theorem tyJ6_ok : ∀ k, k < 0 → parseFieldDescriptor (TJ6 k).2.2.1 = some (tyJ6 k) := by decide +kernel
abbrev cJ6_bitCount_0f7a4 : ByteArray := prog_13_method_49_code
def yJ6_bitCount_0f7a4 : MethodName := ⟨RJ6, "bitCount", "(I)I"⟩
def RJ9 : String := "java/lang/Math"
def TJ9 : u_T := fun k => match k with
  | _ => ("", "", "", false)
def tyJ9 : Nat → FieldType := fun k => match k with
  | _ => .int
abbrev wsJ90 : List Cond := u_ws RJ9 TJ9 0
theorem nmJ9 : ∀ a, a < 0 → ∀ b, b < 0 → a ≠ b → (TJ9 a).2.1 ≠ (TJ9 b).2.1 := by decide +kernel
theorem tyJ9_ok : ∀ k, k < 0 → parseFieldDescriptor (TJ9 k).2.2.1 = some (tyJ9 k) := by decide +kernel
abbrev cJ9_max_7cf53 : ByteArray := prog_14_method_65_code
def yJ9_max_7cf53 : MethodName := ⟨RJ9, "max", "(II)I"⟩
abbrev cJ9_min_7cf53 : ByteArray := prog_14_method_69_code
def yJ9_min_7cf53 : MethodName := ⟨RJ9, "min", "(II)I"⟩
def RJ0 : String := "java/lang/String"
def TJ0 : u_T := fun k => match k with
  | _ => ("", "", "", false)
def tyJ0 : Nat → FieldType := fun k => match k with
  | _ => .int
abbrev wsJ00 : List Cond := u_ws RJ0 TJ0 0
theorem nmJ0 : ∀ a, a < 0 → ∀ b, b < 0 → a ≠ b → (TJ0 a).2.1 ≠ (TJ0 b).2.1 := by decide +kernel
theorem tyJ0_ok : ∀ k, k < 0 → parseFieldDescriptor (TJ0 k).2.2.1 = some (tyJ0 k) := by decide +kernel
def RL : String := "FaultShrinkerLaw"
abbrev cL_below : ByteArray := method_2_code
def yL_below : MethodName := ⟨RL, "below", "(II)I"⟩
abbrev cL_cell : ByteArray := method_3_code
def yL_cell : MethodName := ⟨RL, "cell", "([II)I"⟩
abbrev cL_act : ByteArray := method_4_code
def yL_act : MethodName := ⟨RL, "act", "(LFaultShrinker;LFaultShrinkerLaw$Sim;I)Z"⟩
abbrev cL_build : ByteArray := method_5_code
def yL_build : MethodName := ⟨RL, "build", "(LFaultShrinker;[I)LFaultShrinkerLaw$Sim;"⟩
abbrev cL_law : ByteArray := code
def yL_law : MethodName := ⟨RL, "law", "([I)Z"⟩
def wsX0_init : List Cond := .code yX0_init cX0_init 1 none :: ([.methodLink RX0 3 objectInit, .instanceMethod objectInit, .code objectInit ⟨#[0xb1]⟩ 1 none, .arrayClass .int, .fieldLink RX0 9 "FaultShrinker$Recipe" "kinds" "[I"] ++ wsX00)
def wsX0_size : List Cond := .code yX0_size cX0_size 1 (some .int) :: ([.fieldLink RX0 15 "FaultShrinker$Recipe" "size" "I"] ++ wsX00)
def wsX0_isFull : List Cond := .code yX0_isFull cX0_isFull 1 (some .boolean) :: ([.fieldLink RX0 15 "FaultShrinker$Recipe" "size" "I", .fieldLink RX0 9 "FaultShrinker$Recipe" "kinds" "[I"] ++ wsX00)
def wsX0_hasPlace : List Cond := .code yX0_hasPlace cX0_hasPlace 2 (some .boolean) :: ([.fieldLink RX0 15 "FaultShrinker$Recipe" "size" "I"] ++ wsX00)
def wsX0_hasDish : List Cond := .code yX0_hasDish cX0_hasDish 2 (some .boolean) :: ([.fieldLink RX0 15 "FaultShrinker$Recipe" "size" "I"] ++ wsX00)
def wsX0_wholeDish : List Cond := .code yX0_wholeDish cX0_wholeDish 1 (some .int) :: ([.fieldLink RX0 15 "FaultShrinker$Recipe" "size" "I"] ++ wsX00)
def wsX0_kindAt : List Cond := .code yX0_kindAt cX0_kindAt 2 (some .int) :: ([.fieldLink RX0 9 "FaultShrinker$Recipe" "kinds" "[I", .methodLink RX0 19 yX0_hasPlace, .instanceMethod yX0_hasPlace, .selects RX0 yX0_hasPlace yX0_hasPlace, .initialized RX0, .code yX0_hasPlace cX0_hasPlace 2 (some .boolean), .fieldLink RX0 15 "FaultShrinker$Recipe" "size" "I"] ++ wsX00)
def wsX0_append : List Cond := .code yX0_append cX0_append 2 none :: ([.fieldLink RX0 9 "FaultShrinker$Recipe" "kinds" "[I", .fieldLink RX0 15 "FaultShrinker$Recipe" "size" "I", .methodLink RX0 23 yX0_isFull, .instanceMethod yX0_isFull, .selects RX0 yX0_isFull yX0_isFull, .initialized RX0, .code yX0_isFull cX0_isFull 1 (some .boolean)] ++ wsX00)
def wsX0_takeOut : List Cond := .code yX0_takeOut cX0_takeOut 3 none :: ([.fieldLink RX0 15 "FaultShrinker$Recipe" "size" "I", .fieldLink RX0 9 "FaultShrinker$Recipe" "kinds" "[I", .methodLink RX0 19 yX0_hasPlace, .instanceMethod yX0_hasPlace, .selects RX0 yX0_hasPlace yX0_hasPlace, .initialized RX0, .code yX0_hasPlace cX0_hasPlace 2 (some .boolean)] ++ wsX00)
def wsX0_kindsOf : List Cond := .code yX0_kindsOf cX0_kindsOf 4 (some .int) :: ([.fieldLink RX0 15 "FaultShrinker$Recipe" "size" "I", .fieldLink RX0 9 "FaultShrinker$Recipe" "kinds" "[I"] ++ wsX00)
def wsX1_init : List Cond := .code yX1_init cX1_init 1 none :: ([.methodLink RX1 3 objectInit, .instanceMethod objectInit, .code objectInit ⟨#[0xb1]⟩ 1 none, .arrayClass .int, .fieldLink RX1 9 "FaultShrinker$RuleBook" "needed" "[I", .fieldLink RX1 15 "FaultShrinker$RuleBook" "spared" "[I"] ++ wsX10)
def wsX1_size : List Cond := .code yX1_size cX1_size 1 (some .int) :: ([.fieldLink RX1 18 "FaultShrinker$RuleBook" "size" "I"] ++ wsX10)
def wsX1_isFull : List Cond := .code yX1_isFull cX1_isFull 1 (some .boolean) :: ([.fieldLink RX1 18 "FaultShrinker$RuleBook" "size" "I"] ++ wsX10)
def wsX1_hasRule : List Cond := .code yX1_hasRule cX1_hasRule 2 (some .boolean) :: ([.fieldLink RX1 18 "FaultShrinker$RuleBook" "size" "I"] ++ wsX10)
def wsX1_append : List Cond := .code yX1_append cX1_append 1 none :: ([.fieldLink RX1 18 "FaultShrinker$RuleBook" "size" "I", .methodLink RX1 22 yX1_isFull, .instanceMethod yX1_isFull, .selects RX1 yX1_isFull yX1_isFull, .initialized RX1, .code yX1_isFull cX1_isFull 1 (some .boolean)] ++ wsX10)
def wsX1_neededBy : List Cond := .code yX1_neededBy cX1_neededBy 2 (some .int) :: ([.fieldLink RX1 9 "FaultShrinker$RuleBook" "needed" "[I", .methodLink RX1 26 yX1_hasRule, .instanceMethod yX1_hasRule, .selects RX1 yX1_hasRule yX1_hasRule, .initialized RX1, .code yX1_hasRule cX1_hasRule 2 (some .boolean), .fieldLink RX1 18 "FaultShrinker$RuleBook" "size" "I"] ++ wsX10)
def wsX1_sparedBy : List Cond := .code yX1_sparedBy cX1_sparedBy 2 (some .int) :: ([.fieldLink RX1 15 "FaultShrinker$RuleBook" "spared" "[I", .methodLink RX1 26 yX1_hasRule, .instanceMethod yX1_hasRule, .selects RX1 yX1_hasRule yX1_hasRule, .initialized RX1, .code yX1_hasRule cX1_hasRule 2 (some .boolean), .fieldLink RX1 18 "FaultShrinker$RuleBook" "size" "I"] ++ wsX10)
def wsX1_putNeeded : List Cond := .code yX1_putNeeded cX1_putNeeded 3 none :: ([.fieldLink RX1 9 "FaultShrinker$RuleBook" "needed" "[I", .methodLink RX1 26 yX1_hasRule, .instanceMethod yX1_hasRule, .selects RX1 yX1_hasRule yX1_hasRule, .initialized RX1, .code yX1_hasRule cX1_hasRule 2 (some .boolean), .fieldLink RX1 18 "FaultShrinker$RuleBook" "size" "I"] ++ wsX10)
def wsX1_putSpared : List Cond := .code yX1_putSpared cX1_putSpared 3 none :: ([.fieldLink RX1 15 "FaultShrinker$RuleBook" "spared" "[I", .methodLink RX1 26 yX1_hasRule, .instanceMethod yX1_hasRule, .selects RX1 yX1_hasRule yX1_hasRule, .initialized RX1, .code yX1_hasRule cX1_hasRule 2 (some .boolean), .fieldLink RX1 18 "FaultShrinker$RuleBook" "size" "I"] ++ wsX10)
def wsX1_holds : List Cond := .code yX1_holds cX1_holds 3 (some .boolean) :: ([.fieldLink RX1 18 "FaultShrinker$RuleBook" "size" "I", .fieldLink RX1 9 "FaultShrinker$RuleBook" "needed" "[I", .fieldLink RX1 15 "FaultShrinker$RuleBook" "spared" "[I"] ++ wsX10)
def wsX1_holding : List Cond := .code yX1_holding cX1_holding 4 (some .int) :: ([.fieldLink RX1 18 "FaultShrinker$RuleBook" "size" "I", .methodLink RX1 30 yX1_holds, .instanceMethod yX1_holds, .selects RX1 yX1_holds yX1_holds, .initialized RX1, .code yX1_holds cX1_holds 3 (some .boolean), .fieldLink RX1 9 "FaultShrinker$RuleBook" "needed" "[I", .fieldLink RX1 15 "FaultShrinker$RuleBook" "spared" "[I"] ++ wsX10)
def wsJ6_bitCount_0f7a4 : List Cond := .code yJ6_bitCount_0f7a4 cJ6_bitCount_0f7a4 1 (some .int) :: ([.constant RJ6 265 (1431655765), .constant RJ6 266 (858993459), .constant RJ6 267 (252645135)])
def wsX1_leastNeeded : List Cond := .code yX1_leastNeeded cX1_leastNeeded 6 (some .int) :: ([.fieldLink RX1 18 "FaultShrinker$RuleBook" "size" "I", .fieldLink RX1 9 "FaultShrinker$RuleBook" "needed" "[I", .methodLink RX1 34 yJ6_bitCount_0f7a4, .static yJ6_bitCount_0f7a4, .initialized RJ6, .code yJ6_bitCount_0f7a4 cJ6_bitCount_0f7a4 1 (some .int), .constant RJ6 265 (1431655765), .constant RJ6 266 (858993459), .constant RJ6 267 (252645135)] ++ wsX10)
def wsX2_init : List Cond := .code yX2_init cX2_init 1 none :: ([.methodLink RX2 3 objectInit, .instanceMethod objectInit, .code objectInit ⟨#[0xb1]⟩ 1 none, .arrayClass .int, .fieldLink RX2 11 "FaultShrinker$Search" "facts" "[I", .fieldLink RX2 15 "FaultShrinker$Search" "firstPlaces" "[I"] ++ wsX20)
def wsX2_list : List Cond := .code yX2_list cX2_list 1 (some .int) :: ([.fieldLink RX2 18 "FaultShrinker$Search" "dish" "I"] ++ wsX20)
def wsX2_listSize : List Cond := .code yX2_listSize cX2_listSize 1 (some .int) :: ([.fieldLink RX2 18 "FaultShrinker$Search" "dish" "I", .methodLink RX2 22 yJ6_bitCount_0f7a4, .static yJ6_bitCount_0f7a4, .initialized RJ6, .code yJ6_bitCount_0f7a4 cJ6_bitCount_0f7a4 1 (some .int), .constant RJ6 265 (1431655765), .constant RJ6 266 (858993459), .constant RJ6 267 (252645135)] ++ wsX20)
def wsX2_steps : List Cond := .code yX2_steps cX2_steps 1 (some .int) :: ([.fieldLink RX2 28 "FaultShrinker$Search" "steps" "I"] ++ wsX20)
def wsX2_tastings : List Cond := .code yX2_tastings cX2_tastings 1 (some .int) :: ([.fieldLink RX2 31 "FaultShrinker$Search" "tastings" "I"] ++ wsX20)
def wsX2_listPlace : List Cond := .code yX2_listPlace cX2_listPlace 5 (some .int) :: ([.fieldLink RX2 18 "FaultShrinker$Search" "dish" "I"] ++ wsX20)
def wsX2_stepFact : List Cond := .code yX2_stepFact cX2_stepFact 4 (some .int) :: ([.fieldLink RX2 28 "FaultShrinker$Search" "steps" "I", .fieldLink RX2 11 "FaultShrinker$Search" "facts" "[I"] ++ wsX20)
def wsX3_begin : List Cond := .code yX3_begin cX3_begin 1 none :: ([.fieldLink RX3 23 "FaultShrinker$Taster" "search" "J", .fieldLink RX3 27 "FaultShrinker$Taster" "tastings" "I"] ++ wsX30)
def wsX3_learn : List Cond := .code yX3_learn cX3_learn 7 (some .boolean) :: ([.fieldLink RX3 23 "FaultShrinker$Taster" "search" "J", .constant RX3 46 (-1640531535), .fieldLink RX3 11 "FaultShrinker$Taster" "known" "[J"] ++ wsX30)
def wsX3_looksSpoiled_r1 : List Cond := [Cond.fieldLink RX3 27 "FaultShrinker$Taster" "tastings" "I", Cond.fieldLink RX3 19 "FaultShrinker$Taster" "rules" "LFaultShrinker$RuleBook;", Cond.fieldLink RX3 15 "FaultShrinker$Taster" "recipe" "LFaultShrinker$Recipe;", Cond.methodLink RX3 31 yX3_learn, Cond.instanceMethod yX3_learn, Cond.selects RX3 yX3_learn yX3_learn, Cond.initialized RX3, Cond.code yX3_learn cX3_learn 7 (some .boolean), Cond.fieldLink RX3 23 "FaultShrinker$Taster" "search" "J", Cond.constant RX3 46 (-1640531535), Cond.fieldLink RX3 11 "FaultShrinker$Taster" "known" "[J", Cond.methodLink RX3 35 yX0_kindsOf, Cond.instanceMethod yX0_kindsOf, Cond.selects RX0 yX0_kindsOf yX0_kindsOf, Cond.initialized RX0, Cond.code yX0_kindsOf cX0_kindsOf 4 (some .int), Cond.fieldLink RX0 15 "FaultShrinker$Recipe" "size" "I", Cond.fieldLink RX0 9 "FaultShrinker$Recipe" "kinds" "[I", Cond.methodLink RX3 41 yX1_holding, Cond.instanceMethod yX1_holding, Cond.selects RX1 yX1_holding yX1_holding, Cond.initialized RX1, Cond.code yX1_holding cX1_holding 4 (some .int), Cond.fieldLink RX1 18 "FaultShrinker$RuleBook" "size" "I"]
def wsX3_looksSpoiled_r2 : List Cond := [Cond.methodLink RX1 30 yX1_holds, Cond.instanceMethod yX1_holds, Cond.selects RX1 yX1_holds yX1_holds, Cond.code yX1_holds cX1_holds 3 (some .boolean), Cond.fieldLink RX1 9 "FaultShrinker$RuleBook" "needed" "[I", Cond.fieldLink RX1 15 "FaultShrinker$RuleBook" "spared" "[I"]
def wsX3_looksSpoiled : List Cond := .code yX3_looksSpoiled cX3_looksSpoiled 2 (some .boolean) :: ((wsX3_looksSpoiled_r1 ++ wsX3_looksSpoiled_r2) ++ wsX30 ++ wsX00 ++ wsX10)
def wsX2_begin_r1 : List Cond := [Cond.fieldLink RX2 18 "FaultShrinker$Search" "dish" "I", Cond.fieldLink RX2 53 "FaultShrinker$Search" "parts" "I", Cond.fieldLink RX2 28 "FaultShrinker$Search" "steps" "I", Cond.methodLink RX2 51 yX3_begin, Cond.instanceMethod yX3_begin, Cond.selects RX3 yX3_begin yX3_begin, Cond.initialized RX3, Cond.code yX3_begin cX3_begin 1 none, Cond.fieldLink RX3 23 "FaultShrinker$Taster" "search" "J", Cond.fieldLink RX3 27 "FaultShrinker$Taster" "tastings" "I", Cond.methodLink RX2 47 yX3_looksSpoiled, Cond.instanceMethod yX3_looksSpoiled, Cond.selects RX3 yX3_looksSpoiled yX3_looksSpoiled, Cond.code yX3_looksSpoiled cX3_looksSpoiled 2 (some .boolean), Cond.fieldLink RX3 19 "FaultShrinker$Taster" "rules" "LFaultShrinker$RuleBook;", Cond.fieldLink RX3 15 "FaultShrinker$Taster" "recipe" "LFaultShrinker$Recipe;", Cond.methodLink RX3 31 yX3_learn, Cond.instanceMethod yX3_learn, Cond.selects RX3 yX3_learn yX3_learn, Cond.code yX3_learn cX3_learn 7 (some .boolean), Cond.constant RX3 46 (-1640531535), Cond.fieldLink RX3 11 "FaultShrinker$Taster" "known" "[J", Cond.methodLink RX3 35 yX0_kindsOf, Cond.instanceMethod yX0_kindsOf]
def wsX2_begin_r2 : List Cond := [Cond.selects RX0 yX0_kindsOf yX0_kindsOf, Cond.initialized RX0, Cond.code yX0_kindsOf cX0_kindsOf 4 (some .int), Cond.fieldLink RX0 15 "FaultShrinker$Recipe" "size" "I", Cond.fieldLink RX0 9 "FaultShrinker$Recipe" "kinds" "[I", Cond.methodLink RX3 41 yX1_holding, Cond.instanceMethod yX1_holding, Cond.selects RX1 yX1_holding yX1_holding, Cond.initialized RX1, Cond.code yX1_holding cX1_holding 4 (some .int), Cond.fieldLink RX1 18 "FaultShrinker$RuleBook" "size" "I", Cond.methodLink RX1 30 yX1_holds, Cond.instanceMethod yX1_holds, Cond.selects RX1 yX1_holds yX1_holds, Cond.code yX1_holds cX1_holds 3 (some .boolean), Cond.fieldLink RX1 9 "FaultShrinker$RuleBook" "needed" "[I", Cond.fieldLink RX1 15 "FaultShrinker$RuleBook" "spared" "[I"]
def wsX2_begin : List Cond := .code yX2_begin cX2_begin 4 (some .boolean) :: ((wsX2_begin_r1 ++ wsX2_begin_r2) ++ wsX20 ++ wsX30 ++ wsX00 ++ wsX10)
def wsX2_countPlaces : List Cond := .code yX2_countPlaces cX2_countPlaces 4 none :: ([.fieldLink RX2 18 "FaultShrinker$Search" "dish" "I", .fieldLink RX2 15 "FaultShrinker$Search" "firstPlaces" "[I"] ++ wsX20)
def wsX2_partAt : List Cond := .code yX2_partAt cX2_partAt 5 (some .int) :: ([.fieldLink RX2 53 "FaultShrinker$Search" "parts" "I", .fieldLink RX2 15 "FaultShrinker$Search" "firstPlaces" "[I"] ++ wsX20)
def wsX2_firstSpoiledPart_r1 : List Cond := [Cond.fieldLink RX2 53 "FaultShrinker$Search" "parts" "I", Cond.methodLink RX2 63 yX2_partAt, Cond.instanceMethod yX2_partAt, Cond.selects RX2 yX2_partAt yX2_partAt, Cond.initialized RX2, Cond.code yX2_partAt cX2_partAt 5 (some .int), Cond.fieldLink RX2 15 "FaultShrinker$Search" "firstPlaces" "[I", Cond.methodLink RX2 47 yX3_looksSpoiled, Cond.instanceMethod yX3_looksSpoiled, Cond.selects RX3 yX3_looksSpoiled yX3_looksSpoiled, Cond.initialized RX3, Cond.code yX3_looksSpoiled cX3_looksSpoiled 2 (some .boolean), Cond.fieldLink RX3 27 "FaultShrinker$Taster" "tastings" "I", Cond.fieldLink RX3 19 "FaultShrinker$Taster" "rules" "LFaultShrinker$RuleBook;", Cond.fieldLink RX3 15 "FaultShrinker$Taster" "recipe" "LFaultShrinker$Recipe;", Cond.methodLink RX3 31 yX3_learn, Cond.instanceMethod yX3_learn, Cond.selects RX3 yX3_learn yX3_learn, Cond.code yX3_learn cX3_learn 7 (some .boolean), Cond.fieldLink RX3 23 "FaultShrinker$Taster" "search" "J", Cond.constant RX3 46 (-1640531535), Cond.fieldLink RX3 11 "FaultShrinker$Taster" "known" "[J", Cond.methodLink RX3 35 yX0_kindsOf, Cond.instanceMethod yX0_kindsOf]
def wsX2_firstSpoiledPart_r2 : List Cond := [Cond.selects RX0 yX0_kindsOf yX0_kindsOf, Cond.initialized RX0, Cond.code yX0_kindsOf cX0_kindsOf 4 (some .int), Cond.fieldLink RX0 15 "FaultShrinker$Recipe" "size" "I", Cond.fieldLink RX0 9 "FaultShrinker$Recipe" "kinds" "[I", Cond.methodLink RX3 41 yX1_holding, Cond.instanceMethod yX1_holding, Cond.selects RX1 yX1_holding yX1_holding, Cond.initialized RX1, Cond.code yX1_holding cX1_holding 4 (some .int), Cond.fieldLink RX1 18 "FaultShrinker$RuleBook" "size" "I", Cond.methodLink RX1 30 yX1_holds, Cond.instanceMethod yX1_holds, Cond.selects RX1 yX1_holds yX1_holds, Cond.code yX1_holds cX1_holds 3 (some .boolean), Cond.fieldLink RX1 9 "FaultShrinker$RuleBook" "needed" "[I", Cond.fieldLink RX1 15 "FaultShrinker$RuleBook" "spared" "[I"]
def wsX2_firstSpoiledPart : List Cond := .code yX2_firstSpoiledPart cX2_firstSpoiledPart 4 (some .int) :: ((wsX2_firstSpoiledPart_r1 ++ wsX2_firstSpoiledPart_r2) ++ wsX20 ++ wsX30 ++ wsX00 ++ wsX10)
def wsX2_note : List Cond := .code yX2_note cX2_note 6 none :: ([.fieldLink RX2 28 "FaultShrinker$Search" "steps" "I", .fieldLink RX2 11 "FaultShrinker$Search" "facts" "[I", .fieldLink RX2 53 "FaultShrinker$Search" "parts" "I", .fieldLink RX2 18 "FaultShrinker$Search" "dish" "I"] ++ wsX20)
def wsX2_firstSparedPart_r1 : List Cond := [Cond.fieldLink RX2 53 "FaultShrinker$Search" "parts" "I", Cond.fieldLink RX2 18 "FaultShrinker$Search" "dish" "I", Cond.methodLink RX2 63 yX2_partAt, Cond.instanceMethod yX2_partAt, Cond.selects RX2 yX2_partAt yX2_partAt, Cond.initialized RX2, Cond.code yX2_partAt cX2_partAt 5 (some .int), Cond.fieldLink RX2 15 "FaultShrinker$Search" "firstPlaces" "[I", Cond.methodLink RX2 47 yX3_looksSpoiled, Cond.instanceMethod yX3_looksSpoiled, Cond.selects RX3 yX3_looksSpoiled yX3_looksSpoiled, Cond.initialized RX3, Cond.code yX3_looksSpoiled cX3_looksSpoiled 2 (some .boolean), Cond.fieldLink RX3 27 "FaultShrinker$Taster" "tastings" "I", Cond.fieldLink RX3 19 "FaultShrinker$Taster" "rules" "LFaultShrinker$RuleBook;", Cond.fieldLink RX3 15 "FaultShrinker$Taster" "recipe" "LFaultShrinker$Recipe;", Cond.methodLink RX3 31 yX3_learn, Cond.instanceMethod yX3_learn, Cond.selects RX3 yX3_learn yX3_learn, Cond.code yX3_learn cX3_learn 7 (some .boolean), Cond.fieldLink RX3 23 "FaultShrinker$Taster" "search" "J", Cond.constant RX3 46 (-1640531535), Cond.fieldLink RX3 11 "FaultShrinker$Taster" "known" "[J", Cond.methodLink RX3 35 yX0_kindsOf]
def wsX2_firstSparedPart_r2 : List Cond := [Cond.instanceMethod yX0_kindsOf, Cond.selects RX0 yX0_kindsOf yX0_kindsOf, Cond.initialized RX0, Cond.code yX0_kindsOf cX0_kindsOf 4 (some .int), Cond.fieldLink RX0 15 "FaultShrinker$Recipe" "size" "I", Cond.fieldLink RX0 9 "FaultShrinker$Recipe" "kinds" "[I", Cond.methodLink RX3 41 yX1_holding, Cond.instanceMethod yX1_holding, Cond.selects RX1 yX1_holding yX1_holding, Cond.initialized RX1, Cond.code yX1_holding cX1_holding 4 (some .int), Cond.fieldLink RX1 18 "FaultShrinker$RuleBook" "size" "I", Cond.methodLink RX1 30 yX1_holds, Cond.instanceMethod yX1_holds, Cond.selects RX1 yX1_holds yX1_holds, Cond.code yX1_holds cX1_holds 3 (some .boolean), Cond.fieldLink RX1 9 "FaultShrinker$RuleBook" "needed" "[I", Cond.fieldLink RX1 15 "FaultShrinker$RuleBook" "spared" "[I"]
def wsX2_firstSparedPart : List Cond := .code yX2_firstSparedPart cX2_firstSparedPart 4 (some .int) :: ((wsX2_firstSparedPart_r1 ++ wsX2_firstSparedPart_r2) ++ wsX20 ++ wsX30 ++ wsX00 ++ wsX10)
def wsX2_makeStep_r1 : List Cond := [Cond.fieldLink RX2 18 "FaultShrinker$Search" "dish" "I", Cond.fieldLink RX2 53 "FaultShrinker$Search" "parts" "I", Cond.methodLink RX2 74 Lib.Math.max.name, Cond.static Lib.Math.max.name, Cond.initialized "java/lang/Math", Cond.code Lib.Math.max.name Lib.Math.max.code 2 (some .int), Cond.methodLink RX2 79 Lib.Math.min.name, Cond.static Lib.Math.min.name, Cond.code Lib.Math.min.name Lib.Math.min.code 2 (some .int), Cond.methodLink RX2 22 yJ6_bitCount_0f7a4, Cond.static yJ6_bitCount_0f7a4, Cond.initialized RJ6, Cond.code yJ6_bitCount_0f7a4 cJ6_bitCount_0f7a4 1 (some .int), Cond.constant RJ6 265 (1431655765), Cond.constant RJ6 266 (858993459), Cond.constant RJ6 267 (252645135), Cond.methodLink RX2 56 yX2_countPlaces, Cond.instanceMethod yX2_countPlaces, Cond.selects RX2 yX2_countPlaces yX2_countPlaces, Cond.initialized RX2, Cond.code yX2_countPlaces cX2_countPlaces 4 none, Cond.fieldLink RX2 15 "FaultShrinker$Search" "firstPlaces" "[I", Cond.methodLink RX2 59 yX2_firstSpoiledPart, Cond.instanceMethod yX2_firstSpoiledPart]
def wsX2_makeStep_r2 : List Cond := [Cond.selects RX2 yX2_firstSpoiledPart yX2_firstSpoiledPart, Cond.code yX2_firstSpoiledPart cX2_firstSpoiledPart 4 (some .int), Cond.methodLink RX2 63 yX2_partAt, Cond.instanceMethod yX2_partAt, Cond.selects RX2 yX2_partAt yX2_partAt, Cond.code yX2_partAt cX2_partAt 5 (some .int), Cond.methodLink RX2 47 yX3_looksSpoiled, Cond.instanceMethod yX3_looksSpoiled, Cond.selects RX3 yX3_looksSpoiled yX3_looksSpoiled, Cond.initialized RX3, Cond.code yX3_looksSpoiled cX3_looksSpoiled 2 (some .boolean), Cond.fieldLink RX3 27 "FaultShrinker$Taster" "tastings" "I", Cond.fieldLink RX3 19 "FaultShrinker$Taster" "rules" "LFaultShrinker$RuleBook;", Cond.fieldLink RX3 15 "FaultShrinker$Taster" "recipe" "LFaultShrinker$Recipe;", Cond.methodLink RX3 31 yX3_learn, Cond.instanceMethod yX3_learn, Cond.selects RX3 yX3_learn yX3_learn, Cond.code yX3_learn cX3_learn 7 (some .boolean), Cond.fieldLink RX3 23 "FaultShrinker$Taster" "search" "J", Cond.constant RX3 46 (-1640531535), Cond.fieldLink RX3 11 "FaultShrinker$Taster" "known" "[J", Cond.methodLink RX3 35 yX0_kindsOf, Cond.instanceMethod yX0_kindsOf, Cond.selects RX0 yX0_kindsOf yX0_kindsOf]
def wsX2_makeStep_r3 : List Cond := [Cond.initialized RX0, Cond.code yX0_kindsOf cX0_kindsOf 4 (some .int), Cond.fieldLink RX0 15 "FaultShrinker$Recipe" "size" "I", Cond.fieldLink RX0 9 "FaultShrinker$Recipe" "kinds" "[I", Cond.methodLink RX3 41 yX1_holding, Cond.instanceMethod yX1_holding, Cond.selects RX1 yX1_holding yX1_holding, Cond.initialized RX1, Cond.code yX1_holding cX1_holding 4 (some .int), Cond.fieldLink RX1 18 "FaultShrinker$RuleBook" "size" "I", Cond.methodLink RX1 30 yX1_holds, Cond.instanceMethod yX1_holds, Cond.selects RX1 yX1_holds yX1_holds, Cond.code yX1_holds cX1_holds 3 (some .boolean), Cond.fieldLink RX1 9 "FaultShrinker$RuleBook" "needed" "[I", Cond.fieldLink RX1 15 "FaultShrinker$RuleBook" "spared" "[I", Cond.methodLink RX2 67 yX2_note, Cond.instanceMethod yX2_note, Cond.selects RX2 yX2_note yX2_note, Cond.code yX2_note cX2_note 6 none, Cond.fieldLink RX2 28 "FaultShrinker$Search" "steps" "I", Cond.fieldLink RX2 11 "FaultShrinker$Search" "facts" "[I", Cond.methodLink RX2 71 yX2_firstSparedPart, Cond.instanceMethod yX2_firstSparedPart]
def wsX2_makeStep_r4 : List Cond := [Cond.selects RX2 yX2_firstSparedPart yX2_firstSparedPart, Cond.code yX2_firstSparedPart cX2_firstSparedPart 4 (some .int)]
def wsX2_makeStep : List Cond := .code yX2_makeStep cX2_makeStep 5 (some .boolean) :: ((wsX2_makeStep_r1 ++ (wsX2_makeStep_r2 ++ (wsX2_makeStep_r3 ++ wsX2_makeStep_r4))) ++ wsX20 ++ wsX30 ++ wsX00 ++ wsX10)
def wsX3_tastings : List Cond := .code yX3_tastings cX3_tastings 1 (some .int) :: ([.fieldLink RX3 27 "FaultShrinker$Taster" "tastings" "I"] ++ wsX30)
def wsX2_goByHalves_r1 : List Cond := [Cond.fieldLink RX2 31 "FaultShrinker$Search" "tastings" "I", Cond.methodLink RX2 34 yX2_begin, Cond.instanceMethod yX2_begin, Cond.selects RX2 yX2_begin yX2_begin, Cond.initialized RX2, Cond.code yX2_begin cX2_begin 4 (some .boolean), Cond.fieldLink RX2 18 "FaultShrinker$Search" "dish" "I", Cond.fieldLink RX2 53 "FaultShrinker$Search" "parts" "I", Cond.fieldLink RX2 28 "FaultShrinker$Search" "steps" "I", Cond.methodLink RX2 51 yX3_begin, Cond.instanceMethod yX3_begin, Cond.selects RX3 yX3_begin yX3_begin, Cond.initialized RX3, Cond.code yX3_begin cX3_begin 1 none, Cond.fieldLink RX3 23 "FaultShrinker$Taster" "search" "J", Cond.fieldLink RX3 27 "FaultShrinker$Taster" "tastings" "I", Cond.methodLink RX2 47 yX3_looksSpoiled, Cond.instanceMethod yX3_looksSpoiled, Cond.selects RX3 yX3_looksSpoiled yX3_looksSpoiled, Cond.code yX3_looksSpoiled cX3_looksSpoiled 2 (some .boolean), Cond.fieldLink RX3 19 "FaultShrinker$Taster" "rules" "LFaultShrinker$RuleBook;", Cond.fieldLink RX3 15 "FaultShrinker$Taster" "recipe" "LFaultShrinker$Recipe;", Cond.methodLink RX3 31 yX3_learn, Cond.instanceMethod yX3_learn]
def wsX2_goByHalves_r2 : List Cond := [Cond.selects RX3 yX3_learn yX3_learn, Cond.code yX3_learn cX3_learn 7 (some .boolean), Cond.constant RX3 46 (-1640531535), Cond.fieldLink RX3 11 "FaultShrinker$Taster" "known" "[J", Cond.methodLink RX3 35 yX0_kindsOf, Cond.instanceMethod yX0_kindsOf, Cond.selects RX0 yX0_kindsOf yX0_kindsOf, Cond.initialized RX0, Cond.code yX0_kindsOf cX0_kindsOf 4 (some .int), Cond.fieldLink RX0 15 "FaultShrinker$Recipe" "size" "I", Cond.fieldLink RX0 9 "FaultShrinker$Recipe" "kinds" "[I", Cond.methodLink RX3 41 yX1_holding, Cond.instanceMethod yX1_holding, Cond.selects RX1 yX1_holding yX1_holding, Cond.initialized RX1, Cond.code yX1_holding cX1_holding 4 (some .int), Cond.fieldLink RX1 18 "FaultShrinker$RuleBook" "size" "I", Cond.methodLink RX1 30 yX1_holds, Cond.instanceMethod yX1_holds, Cond.selects RX1 yX1_holds yX1_holds, Cond.code yX1_holds cX1_holds 3 (some .boolean), Cond.fieldLink RX1 9 "FaultShrinker$RuleBook" "needed" "[I", Cond.fieldLink RX1 15 "FaultShrinker$RuleBook" "spared" "[I", Cond.methodLink RX2 38 yX2_makeStep]
def wsX2_goByHalves_r3 : List Cond := [Cond.instanceMethod yX2_makeStep, Cond.selects RX2 yX2_makeStep yX2_makeStep, Cond.code yX2_makeStep cX2_makeStep 5 (some .boolean), Cond.methodLink RX2 74 Lib.Math.max.name, Cond.static Lib.Math.max.name, Cond.initialized "java/lang/Math", Cond.code Lib.Math.max.name Lib.Math.max.code 2 (some .int), Cond.methodLink RX2 79 Lib.Math.min.name, Cond.static Lib.Math.min.name, Cond.code Lib.Math.min.name Lib.Math.min.code 2 (some .int), Cond.methodLink RX2 22 yJ6_bitCount_0f7a4, Cond.static yJ6_bitCount_0f7a4, Cond.initialized RJ6, Cond.code yJ6_bitCount_0f7a4 cJ6_bitCount_0f7a4 1 (some .int), Cond.constant RJ6 265 (1431655765), Cond.constant RJ6 266 (858993459), Cond.constant RJ6 267 (252645135), Cond.methodLink RX2 56 yX2_countPlaces, Cond.instanceMethod yX2_countPlaces, Cond.selects RX2 yX2_countPlaces yX2_countPlaces, Cond.code yX2_countPlaces cX2_countPlaces 4 none, Cond.fieldLink RX2 15 "FaultShrinker$Search" "firstPlaces" "[I", Cond.methodLink RX2 59 yX2_firstSpoiledPart, Cond.instanceMethod yX2_firstSpoiledPart]
def wsX2_goByHalves_r4 : List Cond := [Cond.selects RX2 yX2_firstSpoiledPart yX2_firstSpoiledPart, Cond.code yX2_firstSpoiledPart cX2_firstSpoiledPart 4 (some .int), Cond.methodLink RX2 63 yX2_partAt, Cond.instanceMethod yX2_partAt, Cond.selects RX2 yX2_partAt yX2_partAt, Cond.code yX2_partAt cX2_partAt 5 (some .int), Cond.methodLink RX2 67 yX2_note, Cond.instanceMethod yX2_note, Cond.selects RX2 yX2_note yX2_note, Cond.code yX2_note cX2_note 6 none, Cond.fieldLink RX2 11 "FaultShrinker$Search" "facts" "[I", Cond.methodLink RX2 71 yX2_firstSparedPart, Cond.instanceMethod yX2_firstSparedPart, Cond.selects RX2 yX2_firstSparedPart yX2_firstSparedPart, Cond.code yX2_firstSparedPart cX2_firstSparedPart 4 (some .int), Cond.methodLink RX2 42 yX3_tastings, Cond.instanceMethod yX3_tastings, Cond.selects RX3 yX3_tastings yX3_tastings, Cond.code yX3_tastings cX3_tastings 1 (some .int)]
def wsX2_goByHalves : List Cond := .code yX2_goByHalves cX2_goByHalves 5 none :: ((wsX2_goByHalves_r1 ++ (wsX2_goByHalves_r2 ++ (wsX2_goByHalves_r3 ++ wsX2_goByHalves_r4))) ++ wsX20 ++ wsX30 ++ wsX00 ++ wsX10)
def wsX2_goOneByOne_r1 : List Cond := [Cond.fieldLink RX2 18 "FaultShrinker$Search" "dish" "I", Cond.fieldLink RX2 31 "FaultShrinker$Search" "tastings" "I", Cond.methodLink RX2 34 yX2_begin, Cond.instanceMethod yX2_begin, Cond.selects RX2 yX2_begin yX2_begin, Cond.initialized RX2, Cond.code yX2_begin cX2_begin 4 (some .boolean), Cond.fieldLink RX2 53 "FaultShrinker$Search" "parts" "I", Cond.fieldLink RX2 28 "FaultShrinker$Search" "steps" "I", Cond.methodLink RX2 51 yX3_begin, Cond.instanceMethod yX3_begin, Cond.selects RX3 yX3_begin yX3_begin, Cond.initialized RX3, Cond.code yX3_begin cX3_begin 1 none, Cond.fieldLink RX3 23 "FaultShrinker$Taster" "search" "J", Cond.fieldLink RX3 27 "FaultShrinker$Taster" "tastings" "I", Cond.methodLink RX2 47 yX3_looksSpoiled, Cond.instanceMethod yX3_looksSpoiled, Cond.selects RX3 yX3_looksSpoiled yX3_looksSpoiled, Cond.code yX3_looksSpoiled cX3_looksSpoiled 2 (some .boolean), Cond.fieldLink RX3 19 "FaultShrinker$Taster" "rules" "LFaultShrinker$RuleBook;", Cond.fieldLink RX3 15 "FaultShrinker$Taster" "recipe" "LFaultShrinker$Recipe;", Cond.methodLink RX3 31 yX3_learn, Cond.instanceMethod yX3_learn]
def wsX2_goOneByOne_r2 : List Cond := [Cond.selects RX3 yX3_learn yX3_learn, Cond.code yX3_learn cX3_learn 7 (some .boolean), Cond.constant RX3 46 (-1640531535), Cond.fieldLink RX3 11 "FaultShrinker$Taster" "known" "[J", Cond.methodLink RX3 35 yX0_kindsOf, Cond.instanceMethod yX0_kindsOf, Cond.selects RX0 yX0_kindsOf yX0_kindsOf, Cond.initialized RX0, Cond.code yX0_kindsOf cX0_kindsOf 4 (some .int), Cond.fieldLink RX0 15 "FaultShrinker$Recipe" "size" "I", Cond.fieldLink RX0 9 "FaultShrinker$Recipe" "kinds" "[I", Cond.methodLink RX3 41 yX1_holding, Cond.instanceMethod yX1_holding, Cond.selects RX1 yX1_holding yX1_holding, Cond.initialized RX1, Cond.code yX1_holding cX1_holding 4 (some .int), Cond.fieldLink RX1 18 "FaultShrinker$RuleBook" "size" "I", Cond.methodLink RX1 30 yX1_holds, Cond.instanceMethod yX1_holds, Cond.selects RX1 yX1_holds yX1_holds, Cond.code yX1_holds cX1_holds 3 (some .boolean), Cond.fieldLink RX1 9 "FaultShrinker$RuleBook" "needed" "[I", Cond.fieldLink RX1 15 "FaultShrinker$RuleBook" "spared" "[I", Cond.methodLink RX2 42 yX3_tastings]
def wsX2_goOneByOne_r3 : List Cond := [Cond.instanceMethod yX3_tastings, Cond.selects RX3 yX3_tastings yX3_tastings, Cond.code yX3_tastings cX3_tastings 1 (some .int)]
def wsX2_goOneByOne : List Cond := .code yX2_goOneByOne cX2_goOneByOne 6 none :: ((wsX2_goOneByOne_r1 ++ (wsX2_goOneByOne_r2 ++ wsX2_goOneByOne_r3)) ++ wsX20 ++ wsX30 ++ wsX00 ++ wsX10)
def wsX3_init : List Cond := .code yX3_init cX3_init 3 none :: ([.methodLink RX3 5 objectInit, .instanceMethod objectInit, .code objectInit ⟨#[0xb1]⟩ 1 none, .arrayClass .long, .fieldLink RX3 11 "FaultShrinker$Taster" "known" "[J", .fieldLink RX3 15 "FaultShrinker$Taster" "recipe" "LFaultShrinker$Recipe;", .fieldLink RX3 19 "FaultShrinker$Taster" "rules" "LFaultShrinker$RuleBook;"] ++ wsX30)
def wsX4_init_r1 : List Cond := [Cond.methodLink RX4 1 objectInit, Cond.instanceMethod objectInit, Cond.code objectInit ⟨#[0xb1]⟩ 1 none, Cond.classLink RX4 7 RX0, Cond.instantiable RX0 2, Cond.initialized RX0, Cond.fieldLink RX4 10 "FaultShrinker" "recipe" "LFaultShrinker$Recipe;", Cond.classLink RX4 16 RX1, Cond.instantiable RX1 3, Cond.initialized RX1, Cond.fieldLink RX4 19 "FaultShrinker" "rules" "LFaultShrinker$RuleBook;", Cond.classLink RX4 23 RX3, Cond.instantiable RX3 5, Cond.initialized RX3, Cond.fieldLink RX4 28 "FaultShrinker" "taster" "LFaultShrinker$Taster;", Cond.classLink RX4 32 RX2, Cond.instantiable RX2 6, Cond.initialized RX2, Cond.fieldLink RX4 35 "FaultShrinker" "keptSearch" "LFaultShrinker$Search;", Cond.fieldLink RX4 39 "FaultShrinker" "trialSearch" "LFaultShrinker$Search;", Cond.instanceMethod yX0_init, Cond.code yX0_init cX0_init 1 none, Cond.methodLink RX0 3 objectInit, Cond.arrayClass .int]
def wsX4_init_r2 : List Cond := [Cond.fieldLink RX0 9 "FaultShrinker$Recipe" "kinds" "[I", Cond.instanceMethod yX1_init, Cond.code yX1_init cX1_init 1 none, Cond.methodLink RX1 3 objectInit, Cond.fieldLink RX1 9 "FaultShrinker$RuleBook" "needed" "[I", Cond.fieldLink RX1 15 "FaultShrinker$RuleBook" "spared" "[I", Cond.methodLink RX4 25 yX3_init, Cond.instanceMethod yX3_init, Cond.code yX3_init cX3_init 3 none, Cond.methodLink RX3 5 objectInit, Cond.arrayClass .long, Cond.fieldLink RX3 11 "FaultShrinker$Taster" "known" "[J", Cond.fieldLink RX3 15 "FaultShrinker$Taster" "recipe" "LFaultShrinker$Recipe;", Cond.fieldLink RX3 19 "FaultShrinker$Taster" "rules" "LFaultShrinker$RuleBook;", Cond.instanceMethod yX2_init, Cond.code yX2_init cX2_init 1 none, Cond.methodLink RX2 3 objectInit, Cond.fieldLink RX2 11 "FaultShrinker$Search" "facts" "[I", Cond.fieldLink RX2 15 "FaultShrinker$Search" "firstPlaces" "[I"]
def wsX4_init : List Cond := .code yX4_init cX4_init 1 none :: ((wsX4_init_r1 ++ wsX4_init_r2) ++ wsX00 ++ wsX40 ++ wsX10 ++ wsX30 ++ wsX20)
def wsX4_isKind : List Cond := .code yX4_isKind cX4_isKind 1 (some .boolean) :: ([])
def wsX4_add_r1 : List Cond := [Cond.classLink RX4 46 "java/lang/IndexOutOfBoundsException", Cond.initialized "java/lang/IndexOutOfBoundsException", Cond.classLink RX4 57 "java/lang/IllegalStateException", Cond.initialized "java/lang/IllegalStateException", Cond.fieldLink RX4 10 "FaultShrinker" "recipe" "LFaultShrinker$Recipe;", Cond.methodLink RX4 42 yX4_isKind, Cond.static yX4_isKind, Cond.initialized RX4, Cond.code yX4_isKind cX4_isKind 1 (some .boolean), Cond.methodLink RX4 53 yX0_isFull, Cond.instanceMethod yX0_isFull, Cond.selects RX0 yX0_isFull yX0_isFull, Cond.initialized RX0, Cond.code yX0_isFull cX0_isFull 1 (some .boolean), Cond.fieldLink RX0 15 "FaultShrinker$Recipe" "size" "I", Cond.fieldLink RX0 9 "FaultShrinker$Recipe" "kinds" "[I", Cond.methodLink RX4 62 yX0_append, Cond.instanceMethod yX0_append, Cond.selects RX0 yX0_append yX0_append, Cond.code yX0_append cX0_append 2 none, Cond.methodLink RX0 23 yX0_isFull, Cond.methodLink RX4 66 yX0_size, Cond.instanceMethod yX0_size, Cond.selects RX0 yX0_size yX0_size]
def wsX4_add_r2 : List Cond := [Cond.code yX0_size cX0_size 1 (some .int)]
def wsX4_add : List Cond := .code yX4_add cX4_add 2 (some .int) :: ((wsX4_add_r1 ++ wsX4_add_r2) ++ wsX40 ++ wsX00 ++ (vx_atS RX4 50 "java/lang/IndexOutOfBoundsException" ["java/lang/RuntimeException", "java/lang/Exception"]).filter goodWord ++ (vx_atS RX4 61 "java/lang/IllegalStateException" ["java/lang/RuntimeException", "java/lang/Exception"]).filter goodWord)
def wsX4_drop : List Cond := .code yX4_drop cX4_drop 3 (some .int) :: ([.classLink RX4 46 "java/lang/IndexOutOfBoundsException", .initialized "java/lang/IndexOutOfBoundsException", .fieldLink RX4 10 "FaultShrinker" "recipe" "LFaultShrinker$Recipe;", .methodLink RX4 70 yX0_hasPlace, .instanceMethod yX0_hasPlace, .selects RX0 yX0_hasPlace yX0_hasPlace, .initialized RX0, .code yX0_hasPlace cX0_hasPlace 2 (some .boolean), .fieldLink RX0 15 "FaultShrinker$Recipe" "size" "I", .methodLink RX4 75 yX0_kindAt, .instanceMethod yX0_kindAt, .selects RX0 yX0_kindAt yX0_kindAt, .code yX0_kindAt cX0_kindAt 2 (some .int), .fieldLink RX0 9 "FaultShrinker$Recipe" "kinds" "[I", .methodLink RX0 19 yX0_hasPlace, .methodLink RX4 79 yX0_takeOut, .instanceMethod yX0_takeOut, .selects RX0 yX0_takeOut yX0_takeOut, .code yX0_takeOut cX0_takeOut 3 none] ++ wsX40 ++ wsX00 ++ (vx_atS RX4 50 "java/lang/IndexOutOfBoundsException" ["java/lang/RuntimeException", "java/lang/Exception"]).filter goodWord)
def wsX4_kind : List Cond := .code yX4_kind cX4_kind 2 (some .int) :: ([.classLink RX4 46 "java/lang/IndexOutOfBoundsException", .initialized "java/lang/IndexOutOfBoundsException", .fieldLink RX4 10 "FaultShrinker" "recipe" "LFaultShrinker$Recipe;", .methodLink RX4 70 yX0_hasPlace, .instanceMethod yX0_hasPlace, .selects RX0 yX0_hasPlace yX0_hasPlace, .initialized RX0, .code yX0_hasPlace cX0_hasPlace 2 (some .boolean), .fieldLink RX0 15 "FaultShrinker$Recipe" "size" "I", .methodLink RX4 75 yX0_kindAt, .instanceMethod yX0_kindAt, .selects RX0 yX0_kindAt yX0_kindAt, .code yX0_kindAt cX0_kindAt 2 (some .int), .fieldLink RX0 9 "FaultShrinker$Recipe" "kinds" "[I", .methodLink RX0 19 yX0_hasPlace] ++ wsX40 ++ wsX00 ++ (vx_atS RX4 50 "java/lang/IndexOutOfBoundsException" ["java/lang/RuntimeException", "java/lang/Exception"]).filter goodWord)
def wsX4_rule : List Cond := .code yX4_rule cX4_rule 1 (some .int) :: ([.classLink RX4 57 "java/lang/IllegalStateException", .initialized "java/lang/IllegalStateException", .fieldLink RX4 19 "FaultShrinker" "rules" "LFaultShrinker$RuleBook;", .methodLink RX4 82 yX1_isFull, .instanceMethod yX1_isFull, .selects RX1 yX1_isFull yX1_isFull, .initialized RX1, .code yX1_isFull cX1_isFull 1 (some .boolean), .fieldLink RX1 18 "FaultShrinker$RuleBook" "size" "I", .methodLink RX4 85 yX1_append, .instanceMethod yX1_append, .selects RX1 yX1_append yX1_append, .code yX1_append cX1_append 1 none, .methodLink RX1 22 yX1_isFull, .methodLink RX4 87 yX1_size, .instanceMethod yX1_size, .selects RX1 yX1_size yX1_size, .code yX1_size cX1_size 1 (some .int)] ++ wsX40 ++ wsX10 ++ (vx_atS RX4 61 "java/lang/IllegalStateException" ["java/lang/RuntimeException", "java/lang/Exception"]).filter goodWord)
def wsX4_hasBit : List Cond := .code yX4_hasBit cX4_hasBit 2 (some .boolean) :: ([])
def wsX4_withBit : List Cond := .code yX4_withBit cX4_withBit 3 (some .int) :: ([])
def wsX4_setNeeds_r1 : List Cond := [Cond.classLink RX4 46 "java/lang/IndexOutOfBoundsException", Cond.initialized "java/lang/IndexOutOfBoundsException", Cond.classLink RX4 57 "java/lang/IllegalStateException", Cond.initialized "java/lang/IllegalStateException", Cond.fieldLink RX4 19 "FaultShrinker" "rules" "LFaultShrinker$RuleBook;", Cond.methodLink RX4 88 yX1_hasRule, Cond.instanceMethod yX1_hasRule, Cond.selects RX1 yX1_hasRule yX1_hasRule, Cond.initialized RX1, Cond.code yX1_hasRule cX1_hasRule 2 (some .boolean), Cond.fieldLink RX1 18 "FaultShrinker$RuleBook" "size" "I", Cond.methodLink RX4 42 yX4_isKind, Cond.static yX4_isKind, Cond.initialized RX4, Cond.code yX4_isKind cX4_isKind 1 (some .boolean), Cond.methodLink RX4 93 yX1_sparedBy, Cond.instanceMethod yX1_sparedBy, Cond.selects RX1 yX1_sparedBy yX1_sparedBy, Cond.code yX1_sparedBy cX1_sparedBy 2 (some .int), Cond.fieldLink RX1 15 "FaultShrinker$RuleBook" "spared" "[I", Cond.methodLink RX1 26 yX1_hasRule, Cond.methodLink RX4 96 yX4_hasBit, Cond.static yX4_hasBit, Cond.code yX4_hasBit cX4_hasBit 2 (some .boolean)]
def wsX4_setNeeds_r2 : List Cond := [Cond.methodLink RX4 102 yX1_neededBy, Cond.instanceMethod yX1_neededBy, Cond.selects RX1 yX1_neededBy yX1_neededBy, Cond.code yX1_neededBy cX1_neededBy 2 (some .int), Cond.fieldLink RX1 9 "FaultShrinker$RuleBook" "needed" "[I", Cond.methodLink RX4 105 yX4_withBit, Cond.static yX4_withBit, Cond.code yX4_withBit cX4_withBit 3 (some .int), Cond.methodLink RX4 109 yX1_putNeeded, Cond.instanceMethod yX1_putNeeded, Cond.selects RX1 yX1_putNeeded yX1_putNeeded, Cond.code yX1_putNeeded cX1_putNeeded 3 none]
def wsX4_setNeeds : List Cond := .code yX4_setNeeds cX4_setNeeds 5 (some .boolean) :: ((wsX4_setNeeds_r1 ++ wsX4_setNeeds_r2) ++ wsX40 ++ wsX10 ++ (vx_atS RX4 50 "java/lang/IndexOutOfBoundsException" ["java/lang/RuntimeException", "java/lang/Exception"]).filter goodWord ++ (vx_atS RX4 61 "java/lang/IllegalStateException" ["java/lang/RuntimeException", "java/lang/Exception"]).filter goodWord)
def wsX4_setSpares_r1 : List Cond := [Cond.classLink RX4 46 "java/lang/IndexOutOfBoundsException", Cond.initialized "java/lang/IndexOutOfBoundsException", Cond.classLink RX4 57 "java/lang/IllegalStateException", Cond.initialized "java/lang/IllegalStateException", Cond.fieldLink RX4 19 "FaultShrinker" "rules" "LFaultShrinker$RuleBook;", Cond.methodLink RX4 88 yX1_hasRule, Cond.instanceMethod yX1_hasRule, Cond.selects RX1 yX1_hasRule yX1_hasRule, Cond.initialized RX1, Cond.code yX1_hasRule cX1_hasRule 2 (some .boolean), Cond.fieldLink RX1 18 "FaultShrinker$RuleBook" "size" "I", Cond.methodLink RX4 42 yX4_isKind, Cond.static yX4_isKind, Cond.initialized RX4, Cond.code yX4_isKind cX4_isKind 1 (some .boolean), Cond.methodLink RX4 102 yX1_neededBy, Cond.instanceMethod yX1_neededBy, Cond.selects RX1 yX1_neededBy yX1_neededBy, Cond.code yX1_neededBy cX1_neededBy 2 (some .int), Cond.fieldLink RX1 9 "FaultShrinker$RuleBook" "needed" "[I", Cond.methodLink RX1 26 yX1_hasRule, Cond.methodLink RX4 96 yX4_hasBit, Cond.static yX4_hasBit, Cond.code yX4_hasBit cX4_hasBit 2 (some .boolean)]
def wsX4_setSpares_r2 : List Cond := [Cond.methodLink RX4 93 yX1_sparedBy, Cond.instanceMethod yX1_sparedBy, Cond.selects RX1 yX1_sparedBy yX1_sparedBy, Cond.code yX1_sparedBy cX1_sparedBy 2 (some .int), Cond.fieldLink RX1 15 "FaultShrinker$RuleBook" "spared" "[I", Cond.methodLink RX4 105 yX4_withBit, Cond.static yX4_withBit, Cond.code yX4_withBit cX4_withBit 3 (some .int), Cond.methodLink RX4 115 yX1_putSpared, Cond.instanceMethod yX1_putSpared, Cond.selects RX1 yX1_putSpared yX1_putSpared, Cond.code yX1_putSpared cX1_putSpared 3 none]
def wsX4_setSpares : List Cond := .code yX4_setSpares cX4_setSpares 5 (some .boolean) :: ((wsX4_setSpares_r1 ++ wsX4_setSpares_r2) ++ wsX40 ++ wsX10 ++ (vx_atS RX4 50 "java/lang/IndexOutOfBoundsException" ["java/lang/RuntimeException", "java/lang/Exception"]).filter goodWord ++ (vx_atS RX4 61 "java/lang/IllegalStateException" ["java/lang/RuntimeException", "java/lang/Exception"]).filter goodWord)
def wsX4_ruleFact_r1 : List Cond := [Cond.fieldLink RX4 19 "FaultShrinker" "rules" "LFaultShrinker$RuleBook;", Cond.fieldLink RX4 10 "FaultShrinker" "recipe" "LFaultShrinker$Recipe;", Cond.fieldLink RX4 148 "FaultShrinker" "keptListKinds" "I", Cond.methodLink RX4 102 yX1_neededBy, Cond.instanceMethod yX1_neededBy, Cond.selects RX1 yX1_neededBy yX1_neededBy, Cond.initialized RX1, Cond.code yX1_neededBy cX1_neededBy 2 (some .int), Cond.fieldLink RX1 9 "FaultShrinker$RuleBook" "needed" "[I", Cond.methodLink RX1 26 yX1_hasRule, Cond.instanceMethod yX1_hasRule, Cond.selects RX1 yX1_hasRule yX1_hasRule, Cond.code yX1_hasRule cX1_hasRule 2 (some .boolean), Cond.fieldLink RX1 18 "FaultShrinker$RuleBook" "size" "I", Cond.methodLink RX4 93 yX1_sparedBy, Cond.instanceMethod yX1_sparedBy, Cond.selects RX1 yX1_sparedBy yX1_sparedBy, Cond.code yX1_sparedBy cX1_sparedBy 2 (some .int), Cond.fieldLink RX1 15 "FaultShrinker$RuleBook" "spared" "[I", Cond.methodLink RX4 187 yJ6_bitCount_0f7a4, Cond.static yJ6_bitCount_0f7a4, Cond.initialized RJ6, Cond.code yJ6_bitCount_0f7a4 cJ6_bitCount_0f7a4 1 (some .int), Cond.constant RJ6 265 (1431655765)]
def wsX4_ruleFact_r2 : List Cond := [Cond.constant RJ6 266 (858993459), Cond.constant RJ6 267 (252645135), Cond.methodLink RX4 135 yX0_wholeDish, Cond.instanceMethod yX0_wholeDish, Cond.selects RX0 yX0_wholeDish yX0_wholeDish, Cond.initialized RX0, Cond.code yX0_wholeDish cX0_wholeDish 1 (some .int), Cond.fieldLink RX0 15 "FaultShrinker$Recipe" "size" "I", Cond.methodLink RX4 145 yX0_kindsOf, Cond.instanceMethod yX0_kindsOf, Cond.selects RX0 yX0_kindsOf yX0_kindsOf, Cond.code yX0_kindsOf cX0_kindsOf 4 (some .int), Cond.fieldLink RX0 9 "FaultShrinker$Recipe" "kinds" "[I", Cond.methodLink RX4 205 yX1_holds, Cond.instanceMethod yX1_holds, Cond.selects RX1 yX1_holds yX1_holds, Cond.code yX1_holds cX1_holds 3 (some .boolean)]
def wsX4_ruleFact : List Cond := .code yX4_ruleFact cX4_ruleFact 3 (some .int) :: ((wsX4_ruleFact_r1 ++ wsX4_ruleFact_r2) ++ wsX40 ++ wsX10 ++ wsX00)
def wsX4_told_r1 : List Cond := [Cond.classLink RX4 46 "java/lang/IndexOutOfBoundsException", Cond.initialized "java/lang/IndexOutOfBoundsException", Cond.fieldLink RX4 19 "FaultShrinker" "rules" "LFaultShrinker$RuleBook;", Cond.methodLink RX4 88 yX1_hasRule, Cond.instanceMethod yX1_hasRule, Cond.selects RX1 yX1_hasRule yX1_hasRule, Cond.initialized RX1, Cond.code yX1_hasRule cX1_hasRule 2 (some .boolean), Cond.fieldLink RX1 18 "FaultShrinker$RuleBook" "size" "I", Cond.methodLink RX4 120 yX4_ruleFact, Cond.instanceMethod yX4_ruleFact, Cond.selects RX4 yX4_ruleFact yX4_ruleFact, Cond.initialized RX4, Cond.code yX4_ruleFact cX4_ruleFact 3 (some .int), Cond.fieldLink RX4 10 "FaultShrinker" "recipe" "LFaultShrinker$Recipe;", Cond.fieldLink RX4 148 "FaultShrinker" "keptListKinds" "I", Cond.methodLink RX4 102 yX1_neededBy, Cond.instanceMethod yX1_neededBy, Cond.selects RX1 yX1_neededBy yX1_neededBy, Cond.code yX1_neededBy cX1_neededBy 2 (some .int), Cond.fieldLink RX1 9 "FaultShrinker$RuleBook" "needed" "[I", Cond.methodLink RX1 26 yX1_hasRule, Cond.methodLink RX4 93 yX1_sparedBy, Cond.instanceMethod yX1_sparedBy]
def wsX4_told_r2 : List Cond := [Cond.selects RX1 yX1_sparedBy yX1_sparedBy, Cond.code yX1_sparedBy cX1_sparedBy 2 (some .int), Cond.fieldLink RX1 15 "FaultShrinker$RuleBook" "spared" "[I", Cond.methodLink RX4 187 yJ6_bitCount_0f7a4, Cond.static yJ6_bitCount_0f7a4, Cond.initialized RJ6, Cond.code yJ6_bitCount_0f7a4 cJ6_bitCount_0f7a4 1 (some .int), Cond.constant RJ6 265 (1431655765), Cond.constant RJ6 266 (858993459), Cond.constant RJ6 267 (252645135), Cond.methodLink RX4 135 yX0_wholeDish, Cond.instanceMethod yX0_wholeDish, Cond.selects RX0 yX0_wholeDish yX0_wholeDish, Cond.initialized RX0, Cond.code yX0_wholeDish cX0_wholeDish 1 (some .int), Cond.fieldLink RX0 15 "FaultShrinker$Recipe" "size" "I", Cond.methodLink RX4 145 yX0_kindsOf, Cond.instanceMethod yX0_kindsOf, Cond.selects RX0 yX0_kindsOf yX0_kindsOf, Cond.code yX0_kindsOf cX0_kindsOf 4 (some .int), Cond.fieldLink RX0 9 "FaultShrinker$Recipe" "kinds" "[I", Cond.methodLink RX4 205 yX1_holds, Cond.instanceMethod yX1_holds, Cond.selects RX1 yX1_holds yX1_holds]
def wsX4_told_r3 : List Cond := [Cond.code yX1_holds cX1_holds 3 (some .boolean)]
def wsX4_told : List Cond := .code yX4_told cX4_told 3 (some .int) :: ((wsX4_told_r1 ++ (wsX4_told_r2 ++ wsX4_told_r3)) ++ wsX40 ++ wsX10 ++ wsX00 ++ (vx_atS RX4 50 "java/lang/IndexOutOfBoundsException" ["java/lang/RuntimeException", "java/lang/Exception"]).filter goodWord)
def wsX4_isSpoiled : List Cond := .code yX4_isSpoiled cX4_isSpoiled 2 (some .boolean) :: ([.fieldLink RX4 19 "FaultShrinker" "rules" "LFaultShrinker$RuleBook;", .fieldLink RX4 10 "FaultShrinker" "recipe" "LFaultShrinker$Recipe;", .methodLink RX4 145 yX0_kindsOf, .instanceMethod yX0_kindsOf, .selects RX0 yX0_kindsOf yX0_kindsOf, .initialized RX0, .code yX0_kindsOf cX0_kindsOf 4 (some .int), .fieldLink RX0 15 "FaultShrinker$Recipe" "size" "I", .fieldLink RX0 9 "FaultShrinker$Recipe" "kinds" "[I", .methodLink RX4 208 yX1_holding, .instanceMethod yX1_holding, .selects RX1 yX1_holding yX1_holding, .initialized RX1, .code yX1_holding cX1_holding 4 (some .int), .fieldLink RX1 18 "FaultShrinker$RuleBook" "size" "I", .methodLink RX1 30 yX1_holds, .instanceMethod yX1_holds, .selects RX1 yX1_holds yX1_holds, .code yX1_holds cX1_holds 3 (some .boolean), .fieldLink RX1 9 "FaultShrinker$RuleBook" "needed" "[I", .fieldLink RX1 15 "FaultShrinker$RuleBook" "spared" "[I"] ++ wsX40 ++ wsX00 ++ wsX10)
def wsX4_spoils_r1 : List Cond := [Cond.classLink RX4 127 "java/lang/IllegalArgumentException", Cond.initialized "java/lang/IllegalArgumentException", Cond.fieldLink RX4 10 "FaultShrinker" "recipe" "LFaultShrinker$Recipe;", Cond.methodLink RX4 124 yX0_hasDish, Cond.instanceMethod yX0_hasDish, Cond.selects RX0 yX0_hasDish yX0_hasDish, Cond.initialized RX0, Cond.code yX0_hasDish cX0_hasDish 2 (some .boolean), Cond.fieldLink RX0 15 "FaultShrinker$Recipe" "size" "I", Cond.methodLink RX4 132 yX4_isSpoiled, Cond.instanceMethod yX4_isSpoiled, Cond.selects RX4 yX4_isSpoiled yX4_isSpoiled, Cond.initialized RX4, Cond.code yX4_isSpoiled cX4_isSpoiled 2 (some .boolean), Cond.fieldLink RX4 19 "FaultShrinker" "rules" "LFaultShrinker$RuleBook;", Cond.methodLink RX4 145 yX0_kindsOf, Cond.instanceMethod yX0_kindsOf, Cond.selects RX0 yX0_kindsOf yX0_kindsOf, Cond.code yX0_kindsOf cX0_kindsOf 4 (some .int), Cond.fieldLink RX0 9 "FaultShrinker$Recipe" "kinds" "[I", Cond.methodLink RX4 208 yX1_holding, Cond.instanceMethod yX1_holding, Cond.selects RX1 yX1_holding yX1_holding, Cond.initialized RX1]
def wsX4_spoils_r2 : List Cond := [Cond.code yX1_holding cX1_holding 4 (some .int), Cond.fieldLink RX1 18 "FaultShrinker$RuleBook" "size" "I", Cond.methodLink RX1 30 yX1_holds, Cond.instanceMethod yX1_holds, Cond.selects RX1 yX1_holds yX1_holds, Cond.code yX1_holds cX1_holds 3 (some .boolean), Cond.fieldLink RX1 9 "FaultShrinker$RuleBook" "needed" "[I", Cond.fieldLink RX1 15 "FaultShrinker$RuleBook" "spared" "[I"]
def wsX4_spoils : List Cond := .code yX4_spoils cX4_spoils 2 (some .boolean) :: ((wsX4_spoils_r1 ++ wsX4_spoils_r2) ++ wsX40 ++ wsX00 ++ wsX10 ++ (vx_atS RX4 131 "java/lang/IllegalArgumentException" ["java/lang/RuntimeException", "java/lang/Exception"]).filter goodWord)
def wsX4_shrink_r1 : List Cond := [Cond.fieldLink RX4 35 "FaultShrinker" "keptSearch" "LFaultShrinker$Search;", Cond.fieldLink RX4 28 "FaultShrinker" "taster" "LFaultShrinker$Taster;", Cond.fieldLink RX4 10 "FaultShrinker" "recipe" "LFaultShrinker$Recipe;", Cond.fieldLink RX4 148 "FaultShrinker" "keptListKinds" "I", Cond.fieldLink RX4 152 "FaultShrinker" "keptTastings" "I", Cond.methodLink RX4 135 yX0_wholeDish, Cond.instanceMethod yX0_wholeDish, Cond.selects RX0 yX0_wholeDish yX0_wholeDish, Cond.initialized RX0, Cond.code yX0_wholeDish cX0_wholeDish 1 (some .int), Cond.fieldLink RX0 15 "FaultShrinker$Recipe" "size" "I", Cond.methodLink RX4 138 yX2_goByHalves, Cond.instanceMethod yX2_goByHalves, Cond.selects RX2 yX2_goByHalves yX2_goByHalves, Cond.initialized RX2, Cond.code yX2_goByHalves cX2_goByHalves 5 none, Cond.fieldLink RX2 31 "FaultShrinker$Search" "tastings" "I", Cond.methodLink RX2 34 yX2_begin, Cond.instanceMethod yX2_begin, Cond.selects RX2 yX2_begin yX2_begin, Cond.code yX2_begin cX2_begin 4 (some .boolean), Cond.fieldLink RX2 18 "FaultShrinker$Search" "dish" "I", Cond.fieldLink RX2 53 "FaultShrinker$Search" "parts" "I", Cond.fieldLink RX2 28 "FaultShrinker$Search" "steps" "I"]
def wsX4_shrink_r2 : List Cond := [Cond.methodLink RX2 51 yX3_begin, Cond.instanceMethod yX3_begin, Cond.selects RX3 yX3_begin yX3_begin, Cond.initialized RX3, Cond.code yX3_begin cX3_begin 1 none, Cond.fieldLink RX3 23 "FaultShrinker$Taster" "search" "J", Cond.fieldLink RX3 27 "FaultShrinker$Taster" "tastings" "I", Cond.methodLink RX2 47 yX3_looksSpoiled, Cond.instanceMethod yX3_looksSpoiled, Cond.selects RX3 yX3_looksSpoiled yX3_looksSpoiled, Cond.code yX3_looksSpoiled cX3_looksSpoiled 2 (some .boolean), Cond.fieldLink RX3 19 "FaultShrinker$Taster" "rules" "LFaultShrinker$RuleBook;", Cond.fieldLink RX3 15 "FaultShrinker$Taster" "recipe" "LFaultShrinker$Recipe;", Cond.methodLink RX3 31 yX3_learn, Cond.instanceMethod yX3_learn, Cond.selects RX3 yX3_learn yX3_learn, Cond.code yX3_learn cX3_learn 7 (some .boolean), Cond.constant RX3 46 (-1640531535), Cond.fieldLink RX3 11 "FaultShrinker$Taster" "known" "[J", Cond.methodLink RX3 35 yX0_kindsOf, Cond.instanceMethod yX0_kindsOf, Cond.selects RX0 yX0_kindsOf yX0_kindsOf, Cond.code yX0_kindsOf cX0_kindsOf 4 (some .int), Cond.fieldLink RX0 9 "FaultShrinker$Recipe" "kinds" "[I"]
def wsX4_shrink_r3 : List Cond := [Cond.methodLink RX3 41 yX1_holding, Cond.instanceMethod yX1_holding, Cond.selects RX1 yX1_holding yX1_holding, Cond.initialized RX1, Cond.code yX1_holding cX1_holding 4 (some .int), Cond.fieldLink RX1 18 "FaultShrinker$RuleBook" "size" "I", Cond.methodLink RX1 30 yX1_holds, Cond.instanceMethod yX1_holds, Cond.selects RX1 yX1_holds yX1_holds, Cond.code yX1_holds cX1_holds 3 (some .boolean), Cond.fieldLink RX1 9 "FaultShrinker$RuleBook" "needed" "[I", Cond.fieldLink RX1 15 "FaultShrinker$RuleBook" "spared" "[I", Cond.methodLink RX2 38 yX2_makeStep, Cond.instanceMethod yX2_makeStep, Cond.selects RX2 yX2_makeStep yX2_makeStep, Cond.code yX2_makeStep cX2_makeStep 5 (some .boolean), Cond.methodLink RX2 74 Lib.Math.max.name, Cond.static Lib.Math.max.name, Cond.initialized "java/lang/Math", Cond.code Lib.Math.max.name Lib.Math.max.code 2 (some .int), Cond.methodLink RX2 79 Lib.Math.min.name, Cond.static Lib.Math.min.name, Cond.code Lib.Math.min.name Lib.Math.min.code 2 (some .int), Cond.methodLink RX2 22 yJ6_bitCount_0f7a4]
def wsX4_shrink_r4 : List Cond := [Cond.static yJ6_bitCount_0f7a4, Cond.initialized RJ6, Cond.code yJ6_bitCount_0f7a4 cJ6_bitCount_0f7a4 1 (some .int), Cond.constant RJ6 265 (1431655765), Cond.constant RJ6 266 (858993459), Cond.constant RJ6 267 (252645135), Cond.methodLink RX2 56 yX2_countPlaces, Cond.instanceMethod yX2_countPlaces, Cond.selects RX2 yX2_countPlaces yX2_countPlaces, Cond.code yX2_countPlaces cX2_countPlaces 4 none, Cond.fieldLink RX2 15 "FaultShrinker$Search" "firstPlaces" "[I", Cond.methodLink RX2 59 yX2_firstSpoiledPart, Cond.instanceMethod yX2_firstSpoiledPart, Cond.selects RX2 yX2_firstSpoiledPart yX2_firstSpoiledPart, Cond.code yX2_firstSpoiledPart cX2_firstSpoiledPart 4 (some .int), Cond.methodLink RX2 63 yX2_partAt, Cond.instanceMethod yX2_partAt, Cond.selects RX2 yX2_partAt yX2_partAt, Cond.code yX2_partAt cX2_partAt 5 (some .int), Cond.methodLink RX2 67 yX2_note, Cond.instanceMethod yX2_note, Cond.selects RX2 yX2_note yX2_note, Cond.code yX2_note cX2_note 6 none, Cond.fieldLink RX2 11 "FaultShrinker$Search" "facts" "[I"]
def wsX4_shrink_r5 : List Cond := [Cond.methodLink RX2 71 yX2_firstSparedPart, Cond.instanceMethod yX2_firstSparedPart, Cond.selects RX2 yX2_firstSparedPart yX2_firstSparedPart, Cond.code yX2_firstSparedPart cX2_firstSparedPart 4 (some .int), Cond.methodLink RX2 42 yX3_tastings, Cond.instanceMethod yX3_tastings, Cond.selects RX3 yX3_tastings yX3_tastings, Cond.code yX3_tastings cX3_tastings 1 (some .int), Cond.methodLink RX4 142 yX2_list, Cond.instanceMethod yX2_list, Cond.selects RX2 yX2_list yX2_list, Cond.code yX2_list cX2_list 1 (some .int), Cond.methodLink RX4 145 yX0_kindsOf, Cond.methodLink RX4 155 yX2_tastings, Cond.instanceMethod yX2_tastings, Cond.selects RX2 yX2_tastings yX2_tastings, Cond.code yX2_tastings cX2_tastings 1 (some .int)]
def wsX4_shrink : List Cond := .code yX4_shrink cX4_shrink 1 (some .int) :: ((wsX4_shrink_r1 ++ (wsX4_shrink_r2 ++ (wsX4_shrink_r3 ++ (wsX4_shrink_r4 ++ wsX4_shrink_r5)))) ++ wsX40 ++ wsX00 ++ wsX20 ++ wsX30 ++ wsX10)
def wsX4_kept : List Cond := .code yX4_kept cX4_kept 2 (some .int) :: ([.classLink RX4 46 "java/lang/IndexOutOfBoundsException", .initialized "java/lang/IndexOutOfBoundsException", .fieldLink RX4 35 "FaultShrinker" "keptSearch" "LFaultShrinker$Search;", .methodLink RX4 158 yX2_listSize, .instanceMethod yX2_listSize, .selects RX2 yX2_listSize yX2_listSize, .initialized RX2, .code yX2_listSize cX2_listSize 1 (some .int), .fieldLink RX2 18 "FaultShrinker$Search" "dish" "I", .methodLink RX2 22 yJ6_bitCount_0f7a4, .static yJ6_bitCount_0f7a4, .initialized RJ6, .code yJ6_bitCount_0f7a4 cJ6_bitCount_0f7a4 1 (some .int), .constant RJ6 265 (1431655765), .constant RJ6 266 (858993459), .constant RJ6 267 (252645135), .methodLink RX4 163 yX2_listPlace, .instanceMethod yX2_listPlace, .selects RX2 yX2_listPlace yX2_listPlace, .code yX2_listPlace cX2_listPlace 5 (some .int)] ++ wsX40 ++ wsX20 ++ (vx_atS RX4 50 "java/lang/IndexOutOfBoundsException" ["java/lang/RuntimeException", "java/lang/Exception"]).filter goodWord)
def wsX4_step : List Cond := .code yX4_step cX4_step 3 (some .int) :: ([.classLink RX4 46 "java/lang/IndexOutOfBoundsException", .initialized "java/lang/IndexOutOfBoundsException", .fieldLink RX4 35 "FaultShrinker" "keptSearch" "LFaultShrinker$Search;", .methodLink RX4 166 yX2_steps, .instanceMethod yX2_steps, .selects RX2 yX2_steps yX2_steps, .initialized RX2, .code yX2_steps cX2_steps 1 (some .int), .fieldLink RX2 28 "FaultShrinker$Search" "steps" "I", .methodLink RX4 171 yX2_stepFact, .instanceMethod yX2_stepFact, .selects RX2 yX2_stepFact yX2_stepFact, .code yX2_stepFact cX2_stepFact 4 (some .int), .fieldLink RX2 11 "FaultShrinker$Search" "facts" "[I"] ++ wsX40 ++ wsX20 ++ (vx_atS RX4 50 "java/lang/IndexOutOfBoundsException" ["java/lang/RuntimeException", "java/lang/Exception"]).filter goodWord)
def wsX4_countFact_r1 : List Cond := [Cond.fieldLink RX4 10 "FaultShrinker" "recipe" "LFaultShrinker$Recipe;", Cond.fieldLink RX4 19 "FaultShrinker" "rules" "LFaultShrinker$RuleBook;", Cond.fieldLink RX4 35 "FaultShrinker" "keptSearch" "LFaultShrinker$Search;", Cond.fieldLink RX4 152 "FaultShrinker" "keptTastings" "I", Cond.methodLink RX4 66 yX0_size, Cond.instanceMethod yX0_size, Cond.selects RX0 yX0_size yX0_size, Cond.initialized RX0, Cond.code yX0_size cX0_size 1 (some .int), Cond.fieldLink RX0 15 "FaultShrinker$Recipe" "size" "I", Cond.methodLink RX4 87 yX1_size, Cond.instanceMethod yX1_size, Cond.selects RX1 yX1_size yX1_size, Cond.initialized RX1, Cond.code yX1_size cX1_size 1 (some .int), Cond.fieldLink RX1 18 "FaultShrinker$RuleBook" "size" "I", Cond.methodLink RX4 135 yX0_wholeDish, Cond.instanceMethod yX0_wholeDish, Cond.selects RX0 yX0_wholeDish yX0_wholeDish, Cond.code yX0_wholeDish cX0_wholeDish 1 (some .int), Cond.methodLink RX4 145 yX0_kindsOf, Cond.instanceMethod yX0_kindsOf, Cond.selects RX0 yX0_kindsOf yX0_kindsOf, Cond.code yX0_kindsOf cX0_kindsOf 4 (some .int)]
def wsX4_countFact_r2 : List Cond := [Cond.fieldLink RX0 9 "FaultShrinker$Recipe" "kinds" "[I", Cond.methodLink RX4 208 yX1_holding, Cond.instanceMethod yX1_holding, Cond.selects RX1 yX1_holding yX1_holding, Cond.code yX1_holding cX1_holding 4 (some .int), Cond.methodLink RX1 30 yX1_holds, Cond.instanceMethod yX1_holds, Cond.selects RX1 yX1_holds yX1_holds, Cond.code yX1_holds cX1_holds 3 (some .boolean), Cond.fieldLink RX1 9 "FaultShrinker$RuleBook" "needed" "[I", Cond.fieldLink RX1 15 "FaultShrinker$RuleBook" "spared" "[I", Cond.methodLink RX4 158 yX2_listSize, Cond.instanceMethod yX2_listSize, Cond.selects RX2 yX2_listSize yX2_listSize, Cond.initialized RX2, Cond.code yX2_listSize cX2_listSize 1 (some .int), Cond.fieldLink RX2 18 "FaultShrinker$Search" "dish" "I", Cond.methodLink RX2 22 yJ6_bitCount_0f7a4, Cond.static yJ6_bitCount_0f7a4, Cond.initialized RJ6, Cond.code yJ6_bitCount_0f7a4 cJ6_bitCount_0f7a4 1 (some .int), Cond.constant RJ6 265 (1431655765), Cond.constant RJ6 266 (858993459), Cond.constant RJ6 267 (252645135)]
def wsX4_countFact_r3 : List Cond := [Cond.methodLink RX4 166 yX2_steps, Cond.instanceMethod yX2_steps, Cond.selects RX2 yX2_steps yX2_steps, Cond.code yX2_steps cX2_steps 1 (some .int), Cond.fieldLink RX2 28 "FaultShrinker$Search" "steps" "I", Cond.methodLink RX4 155 yX2_tastings, Cond.instanceMethod yX2_tastings, Cond.selects RX2 yX2_tastings yX2_tastings, Cond.code yX2_tastings cX2_tastings 1 (some .int), Cond.fieldLink RX2 31 "FaultShrinker$Search" "tastings" "I"]
def wsX4_countFact : List Cond := .code yX4_countFact cX4_countFact 2 (some .int) :: ((wsX4_countFact_r1 ++ (wsX4_countFact_r2 ++ wsX4_countFact_r3)) ++ wsX40 ++ wsX00 ++ wsX10 ++ wsX20)
def wsX4_count_r1 : List Cond := [Cond.classLink RX4 46 "java/lang/IndexOutOfBoundsException", Cond.initialized "java/lang/IndexOutOfBoundsException", Cond.methodLink RX4 176 yX4_countFact, Cond.instanceMethod yX4_countFact, Cond.selects RX4 yX4_countFact yX4_countFact, Cond.initialized RX4, Cond.code yX4_countFact cX4_countFact 2 (some .int), Cond.fieldLink RX4 10 "FaultShrinker" "recipe" "LFaultShrinker$Recipe;", Cond.fieldLink RX4 19 "FaultShrinker" "rules" "LFaultShrinker$RuleBook;", Cond.fieldLink RX4 35 "FaultShrinker" "keptSearch" "LFaultShrinker$Search;", Cond.fieldLink RX4 152 "FaultShrinker" "keptTastings" "I", Cond.methodLink RX4 66 yX0_size, Cond.instanceMethod yX0_size, Cond.selects RX0 yX0_size yX0_size, Cond.initialized RX0, Cond.code yX0_size cX0_size 1 (some .int), Cond.fieldLink RX0 15 "FaultShrinker$Recipe" "size" "I", Cond.methodLink RX4 87 yX1_size, Cond.instanceMethod yX1_size, Cond.selects RX1 yX1_size yX1_size, Cond.initialized RX1, Cond.code yX1_size cX1_size 1 (some .int), Cond.fieldLink RX1 18 "FaultShrinker$RuleBook" "size" "I", Cond.methodLink RX4 135 yX0_wholeDish]
def wsX4_count_r2 : List Cond := [Cond.instanceMethod yX0_wholeDish, Cond.selects RX0 yX0_wholeDish yX0_wholeDish, Cond.code yX0_wholeDish cX0_wholeDish 1 (some .int), Cond.methodLink RX4 145 yX0_kindsOf, Cond.instanceMethod yX0_kindsOf, Cond.selects RX0 yX0_kindsOf yX0_kindsOf, Cond.code yX0_kindsOf cX0_kindsOf 4 (some .int), Cond.fieldLink RX0 9 "FaultShrinker$Recipe" "kinds" "[I", Cond.methodLink RX4 208 yX1_holding, Cond.instanceMethod yX1_holding, Cond.selects RX1 yX1_holding yX1_holding, Cond.code yX1_holding cX1_holding 4 (some .int), Cond.methodLink RX1 30 yX1_holds, Cond.instanceMethod yX1_holds, Cond.selects RX1 yX1_holds yX1_holds, Cond.code yX1_holds cX1_holds 3 (some .boolean), Cond.fieldLink RX1 9 "FaultShrinker$RuleBook" "needed" "[I", Cond.fieldLink RX1 15 "FaultShrinker$RuleBook" "spared" "[I", Cond.methodLink RX4 158 yX2_listSize, Cond.instanceMethod yX2_listSize, Cond.selects RX2 yX2_listSize yX2_listSize, Cond.initialized RX2, Cond.code yX2_listSize cX2_listSize 1 (some .int), Cond.fieldLink RX2 18 "FaultShrinker$Search" "dish" "I"]
def wsX4_count_r3 : List Cond := [Cond.methodLink RX2 22 yJ6_bitCount_0f7a4, Cond.static yJ6_bitCount_0f7a4, Cond.initialized RJ6, Cond.code yJ6_bitCount_0f7a4 cJ6_bitCount_0f7a4 1 (some .int), Cond.constant RJ6 265 (1431655765), Cond.constant RJ6 266 (858993459), Cond.constant RJ6 267 (252645135), Cond.methodLink RX4 166 yX2_steps, Cond.instanceMethod yX2_steps, Cond.selects RX2 yX2_steps yX2_steps, Cond.code yX2_steps cX2_steps 1 (some .int), Cond.fieldLink RX2 28 "FaultShrinker$Search" "steps" "I", Cond.methodLink RX4 155 yX2_tastings, Cond.instanceMethod yX2_tastings, Cond.selects RX2 yX2_tastings yX2_tastings, Cond.code yX2_tastings cX2_tastings 1 (some .int), Cond.fieldLink RX2 31 "FaultShrinker$Search" "tastings" "I"]
def wsX4_count : List Cond := .code yX4_count cX4_count 2 (some .int) :: ((wsX4_count_r1 ++ (wsX4_count_r2 ++ wsX4_count_r3)) ++ wsX40 ++ wsX00 ++ wsX10 ++ wsX20 ++ (vx_atS RX4 50 "java/lang/IndexOutOfBoundsException" ["java/lang/RuntimeException", "java/lang/Exception"]).filter goodWord)
def wsX4_would_r1 : List Cond := [Cond.classLink RX4 46 "java/lang/IndexOutOfBoundsException", Cond.initialized "java/lang/IndexOutOfBoundsException", Cond.fieldLink RX4 39 "FaultShrinker" "trialSearch" "LFaultShrinker$Search;", Cond.fieldLink RX4 28 "FaultShrinker" "taster" "LFaultShrinker$Taster;", Cond.fieldLink RX4 10 "FaultShrinker" "recipe" "LFaultShrinker$Recipe;", Cond.methodLink RX4 135 yX0_wholeDish, Cond.instanceMethod yX0_wholeDish, Cond.selects RX0 yX0_wholeDish yX0_wholeDish, Cond.initialized RX0, Cond.code yX0_wholeDish cX0_wholeDish 1 (some .int), Cond.fieldLink RX0 15 "FaultShrinker$Recipe" "size" "I", Cond.methodLink RX4 138 yX2_goByHalves, Cond.instanceMethod yX2_goByHalves, Cond.selects RX2 yX2_goByHalves yX2_goByHalves, Cond.initialized RX2, Cond.code yX2_goByHalves cX2_goByHalves 5 none, Cond.fieldLink RX2 31 "FaultShrinker$Search" "tastings" "I", Cond.methodLink RX2 34 yX2_begin, Cond.instanceMethod yX2_begin, Cond.selects RX2 yX2_begin yX2_begin, Cond.code yX2_begin cX2_begin 4 (some .boolean), Cond.fieldLink RX2 18 "FaultShrinker$Search" "dish" "I", Cond.fieldLink RX2 53 "FaultShrinker$Search" "parts" "I", Cond.fieldLink RX2 28 "FaultShrinker$Search" "steps" "I"]
def wsX4_would_r2 : List Cond := [Cond.methodLink RX2 51 yX3_begin, Cond.instanceMethod yX3_begin, Cond.selects RX3 yX3_begin yX3_begin, Cond.initialized RX3, Cond.code yX3_begin cX3_begin 1 none, Cond.fieldLink RX3 23 "FaultShrinker$Taster" "search" "J", Cond.fieldLink RX3 27 "FaultShrinker$Taster" "tastings" "I", Cond.methodLink RX2 47 yX3_looksSpoiled, Cond.instanceMethod yX3_looksSpoiled, Cond.selects RX3 yX3_looksSpoiled yX3_looksSpoiled, Cond.code yX3_looksSpoiled cX3_looksSpoiled 2 (some .boolean), Cond.fieldLink RX3 19 "FaultShrinker$Taster" "rules" "LFaultShrinker$RuleBook;", Cond.fieldLink RX3 15 "FaultShrinker$Taster" "recipe" "LFaultShrinker$Recipe;", Cond.methodLink RX3 31 yX3_learn, Cond.instanceMethod yX3_learn, Cond.selects RX3 yX3_learn yX3_learn, Cond.code yX3_learn cX3_learn 7 (some .boolean), Cond.constant RX3 46 (-1640531535), Cond.fieldLink RX3 11 "FaultShrinker$Taster" "known" "[J", Cond.methodLink RX3 35 yX0_kindsOf, Cond.instanceMethod yX0_kindsOf, Cond.selects RX0 yX0_kindsOf yX0_kindsOf, Cond.code yX0_kindsOf cX0_kindsOf 4 (some .int), Cond.fieldLink RX0 9 "FaultShrinker$Recipe" "kinds" "[I"]
def wsX4_would_r3 : List Cond := [Cond.methodLink RX3 41 yX1_holding, Cond.instanceMethod yX1_holding, Cond.selects RX1 yX1_holding yX1_holding, Cond.initialized RX1, Cond.code yX1_holding cX1_holding 4 (some .int), Cond.fieldLink RX1 18 "FaultShrinker$RuleBook" "size" "I", Cond.methodLink RX1 30 yX1_holds, Cond.instanceMethod yX1_holds, Cond.selects RX1 yX1_holds yX1_holds, Cond.code yX1_holds cX1_holds 3 (some .boolean), Cond.fieldLink RX1 9 "FaultShrinker$RuleBook" "needed" "[I", Cond.fieldLink RX1 15 "FaultShrinker$RuleBook" "spared" "[I", Cond.methodLink RX2 38 yX2_makeStep, Cond.instanceMethod yX2_makeStep, Cond.selects RX2 yX2_makeStep yX2_makeStep, Cond.code yX2_makeStep cX2_makeStep 5 (some .boolean), Cond.methodLink RX2 74 Lib.Math.max.name, Cond.static Lib.Math.max.name, Cond.initialized "java/lang/Math", Cond.code Lib.Math.max.name Lib.Math.max.code 2 (some .int), Cond.methodLink RX2 79 Lib.Math.min.name, Cond.static Lib.Math.min.name, Cond.code Lib.Math.min.name Lib.Math.min.code 2 (some .int), Cond.methodLink RX2 22 yJ6_bitCount_0f7a4]
def wsX4_would_r4 : List Cond := [Cond.static yJ6_bitCount_0f7a4, Cond.initialized RJ6, Cond.code yJ6_bitCount_0f7a4 cJ6_bitCount_0f7a4 1 (some .int), Cond.constant RJ6 265 (1431655765), Cond.constant RJ6 266 (858993459), Cond.constant RJ6 267 (252645135), Cond.methodLink RX2 56 yX2_countPlaces, Cond.instanceMethod yX2_countPlaces, Cond.selects RX2 yX2_countPlaces yX2_countPlaces, Cond.code yX2_countPlaces cX2_countPlaces 4 none, Cond.fieldLink RX2 15 "FaultShrinker$Search" "firstPlaces" "[I", Cond.methodLink RX2 59 yX2_firstSpoiledPart, Cond.instanceMethod yX2_firstSpoiledPart, Cond.selects RX2 yX2_firstSpoiledPart yX2_firstSpoiledPart, Cond.code yX2_firstSpoiledPart cX2_firstSpoiledPart 4 (some .int), Cond.methodLink RX2 63 yX2_partAt, Cond.instanceMethod yX2_partAt, Cond.selects RX2 yX2_partAt yX2_partAt, Cond.code yX2_partAt cX2_partAt 5 (some .int), Cond.methodLink RX2 67 yX2_note, Cond.instanceMethod yX2_note, Cond.selects RX2 yX2_note yX2_note, Cond.code yX2_note cX2_note 6 none, Cond.fieldLink RX2 11 "FaultShrinker$Search" "facts" "[I"]
def wsX4_would_r5 : List Cond := [Cond.methodLink RX2 71 yX2_firstSparedPart, Cond.instanceMethod yX2_firstSparedPart, Cond.selects RX2 yX2_firstSparedPart yX2_firstSparedPart, Cond.code yX2_firstSparedPart cX2_firstSparedPart 4 (some .int), Cond.methodLink RX2 42 yX3_tastings, Cond.instanceMethod yX3_tastings, Cond.selects RX3 yX3_tastings yX3_tastings, Cond.code yX3_tastings cX3_tastings 1 (some .int), Cond.methodLink RX4 181 yX2_goOneByOne, Cond.instanceMethod yX2_goOneByOne, Cond.selects RX2 yX2_goOneByOne yX2_goOneByOne, Cond.code yX2_goOneByOne cX2_goOneByOne 6 none, Cond.methodLink RX4 142 yX2_list, Cond.instanceMethod yX2_list, Cond.selects RX2 yX2_list yX2_list, Cond.code yX2_list cX2_list 1 (some .int), Cond.methodLink RX4 166 yX2_steps, Cond.instanceMethod yX2_steps, Cond.selects RX2 yX2_steps yX2_steps, Cond.code yX2_steps cX2_steps 1 (some .int), Cond.methodLink RX4 155 yX2_tastings, Cond.instanceMethod yX2_tastings, Cond.selects RX2 yX2_tastings yX2_tastings, Cond.code yX2_tastings cX2_tastings 1 (some .int)]
def wsX4_would : List Cond := .code yX4_would cX4_would 2 (some .int) :: ((wsX4_would_r1 ++ (wsX4_would_r2 ++ (wsX4_would_r3 ++ (wsX4_would_r4 ++ wsX4_would_r5)))) ++ wsX40 ++ wsX00 ++ wsX20 ++ wsX30 ++ wsX10 ++ (vx_atS RX4 50 "java/lang/IndexOutOfBoundsException" ["java/lang/RuntimeException", "java/lang/Exception"]).filter goodWord)
def wsX4_least_r1 : List Cond := [Cond.fieldLink RX4 19 "FaultShrinker" "rules" "LFaultShrinker$RuleBook;", Cond.fieldLink RX4 10 "FaultShrinker" "recipe" "LFaultShrinker$Recipe;", Cond.methodLink RX4 135 yX0_wholeDish, Cond.instanceMethod yX0_wholeDish, Cond.selects RX0 yX0_wholeDish yX0_wholeDish, Cond.initialized RX0, Cond.code yX0_wholeDish cX0_wholeDish 1 (some .int), Cond.fieldLink RX0 15 "FaultShrinker$Recipe" "size" "I", Cond.methodLink RX4 145 yX0_kindsOf, Cond.instanceMethod yX0_kindsOf, Cond.selects RX0 yX0_kindsOf yX0_kindsOf, Cond.code yX0_kindsOf cX0_kindsOf 4 (some .int), Cond.fieldLink RX0 9 "FaultShrinker$Recipe" "kinds" "[I", Cond.methodLink RX4 184 yX1_leastNeeded, Cond.instanceMethod yX1_leastNeeded, Cond.selects RX1 yX1_leastNeeded yX1_leastNeeded, Cond.initialized RX1, Cond.code yX1_leastNeeded cX1_leastNeeded 6 (some .int), Cond.fieldLink RX1 18 "FaultShrinker$RuleBook" "size" "I", Cond.fieldLink RX1 9 "FaultShrinker$RuleBook" "needed" "[I", Cond.methodLink RX1 34 yJ6_bitCount_0f7a4, Cond.static yJ6_bitCount_0f7a4, Cond.initialized RJ6, Cond.code yJ6_bitCount_0f7a4 cJ6_bitCount_0f7a4 1 (some .int)]
def wsX4_least_r2 : List Cond := [Cond.constant RJ6 265 (1431655765), Cond.constant RJ6 266 (858993459), Cond.constant RJ6 267 (252645135)]
def wsX4_least : List Cond := .code yX4_least cX4_least 1 (some .int) :: ((wsX4_least_r1 ++ wsX4_least_r2) ++ wsX40 ++ wsX00 ++ wsX10)
def wsX4_isTight_r1 : List Cond := [Cond.classLink RX4 127 "java/lang/IllegalArgumentException", Cond.initialized "java/lang/IllegalArgumentException", Cond.fieldLink RX4 10 "FaultShrinker" "recipe" "LFaultShrinker$Recipe;", Cond.methodLink RX4 124 yX0_hasDish, Cond.instanceMethod yX0_hasDish, Cond.selects RX0 yX0_hasDish yX0_hasDish, Cond.initialized RX0, Cond.code yX0_hasDish cX0_hasDish 2 (some .boolean), Cond.fieldLink RX0 15 "FaultShrinker$Recipe" "size" "I", Cond.methodLink RX4 132 yX4_isSpoiled, Cond.instanceMethod yX4_isSpoiled, Cond.selects RX4 yX4_isSpoiled yX4_isSpoiled, Cond.initialized RX4, Cond.code yX4_isSpoiled cX4_isSpoiled 2 (some .boolean), Cond.fieldLink RX4 19 "FaultShrinker" "rules" "LFaultShrinker$RuleBook;", Cond.methodLink RX4 145 yX0_kindsOf, Cond.instanceMethod yX0_kindsOf, Cond.selects RX0 yX0_kindsOf yX0_kindsOf, Cond.code yX0_kindsOf cX0_kindsOf 4 (some .int), Cond.fieldLink RX0 9 "FaultShrinker$Recipe" "kinds" "[I", Cond.methodLink RX4 208 yX1_holding, Cond.instanceMethod yX1_holding, Cond.selects RX1 yX1_holding yX1_holding, Cond.initialized RX1]
def wsX4_isTight_r2 : List Cond := [Cond.code yX1_holding cX1_holding 4 (some .int), Cond.fieldLink RX1 18 "FaultShrinker$RuleBook" "size" "I", Cond.methodLink RX1 30 yX1_holds, Cond.instanceMethod yX1_holds, Cond.selects RX1 yX1_holds yX1_holds, Cond.code yX1_holds cX1_holds 3 (some .boolean), Cond.fieldLink RX1 9 "FaultShrinker$RuleBook" "needed" "[I", Cond.fieldLink RX1 15 "FaultShrinker$RuleBook" "spared" "[I", Cond.methodLink RX4 96 yX4_hasBit, Cond.static yX4_hasBit, Cond.code yX4_hasBit cX4_hasBit 2 (some .boolean), Cond.methodLink RX4 105 yX4_withBit, Cond.static yX4_withBit, Cond.code yX4_withBit cX4_withBit 3 (some .int)]
def wsX4_isTight : List Cond := .code yX4_isTight cX4_isTight 3 (some .boolean) :: ((wsX4_isTight_r1 ++ wsX4_isTight_r2) ++ wsX40 ++ wsX00 ++ wsX10 ++ (vx_atS RX4 131 "java/lang/IllegalArgumentException" ["java/lang/RuntimeException", "java/lang/Exception"]).filter goodWord)
def wsX4_advise_r1 : List Cond := [Cond.fieldLink RX4 10 "FaultShrinker" "recipe" "LFaultShrinker$Recipe;", Cond.fieldLink RX4 39 "FaultShrinker" "trialSearch" "LFaultShrinker$Search;", Cond.fieldLink RX4 28 "FaultShrinker" "taster" "LFaultShrinker$Taster;", Cond.methodLink RX4 66 yX0_size, Cond.instanceMethod yX0_size, Cond.selects RX0 yX0_size yX0_size, Cond.initialized RX0, Cond.code yX0_size cX0_size 1 (some .int), Cond.fieldLink RX0 15 "FaultShrinker$Recipe" "size" "I", Cond.methodLink RX4 135 yX0_wholeDish, Cond.instanceMethod yX0_wholeDish, Cond.selects RX0 yX0_wholeDish yX0_wholeDish, Cond.code yX0_wholeDish cX0_wholeDish 1 (some .int), Cond.methodLink RX4 105 yX4_withBit, Cond.static yX4_withBit, Cond.initialized RX4, Cond.code yX4_withBit cX4_withBit 3 (some .int), Cond.methodLink RX4 138 yX2_goByHalves, Cond.instanceMethod yX2_goByHalves, Cond.selects RX2 yX2_goByHalves yX2_goByHalves, Cond.initialized RX2, Cond.code yX2_goByHalves cX2_goByHalves 5 none, Cond.fieldLink RX2 31 "FaultShrinker$Search" "tastings" "I", Cond.methodLink RX2 34 yX2_begin]
def wsX4_advise_r2 : List Cond := [Cond.instanceMethod yX2_begin, Cond.selects RX2 yX2_begin yX2_begin, Cond.code yX2_begin cX2_begin 4 (some .boolean), Cond.fieldLink RX2 18 "FaultShrinker$Search" "dish" "I", Cond.fieldLink RX2 53 "FaultShrinker$Search" "parts" "I", Cond.fieldLink RX2 28 "FaultShrinker$Search" "steps" "I", Cond.methodLink RX2 51 yX3_begin, Cond.instanceMethod yX3_begin, Cond.selects RX3 yX3_begin yX3_begin, Cond.initialized RX3, Cond.code yX3_begin cX3_begin 1 none, Cond.fieldLink RX3 23 "FaultShrinker$Taster" "search" "J", Cond.fieldLink RX3 27 "FaultShrinker$Taster" "tastings" "I", Cond.methodLink RX2 47 yX3_looksSpoiled, Cond.instanceMethod yX3_looksSpoiled, Cond.selects RX3 yX3_looksSpoiled yX3_looksSpoiled, Cond.code yX3_looksSpoiled cX3_looksSpoiled 2 (some .boolean), Cond.fieldLink RX3 19 "FaultShrinker$Taster" "rules" "LFaultShrinker$RuleBook;", Cond.fieldLink RX3 15 "FaultShrinker$Taster" "recipe" "LFaultShrinker$Recipe;", Cond.methodLink RX3 31 yX3_learn, Cond.instanceMethod yX3_learn, Cond.selects RX3 yX3_learn yX3_learn, Cond.code yX3_learn cX3_learn 7 (some .boolean), Cond.constant RX3 46 (-1640531535)]
def wsX4_advise_r3 : List Cond := [Cond.fieldLink RX3 11 "FaultShrinker$Taster" "known" "[J", Cond.methodLink RX3 35 yX0_kindsOf, Cond.instanceMethod yX0_kindsOf, Cond.selects RX0 yX0_kindsOf yX0_kindsOf, Cond.code yX0_kindsOf cX0_kindsOf 4 (some .int), Cond.fieldLink RX0 9 "FaultShrinker$Recipe" "kinds" "[I", Cond.methodLink RX3 41 yX1_holding, Cond.instanceMethod yX1_holding, Cond.selects RX1 yX1_holding yX1_holding, Cond.initialized RX1, Cond.code yX1_holding cX1_holding 4 (some .int), Cond.fieldLink RX1 18 "FaultShrinker$RuleBook" "size" "I", Cond.methodLink RX1 30 yX1_holds, Cond.instanceMethod yX1_holds, Cond.selects RX1 yX1_holds yX1_holds, Cond.code yX1_holds cX1_holds 3 (some .boolean), Cond.fieldLink RX1 9 "FaultShrinker$RuleBook" "needed" "[I", Cond.fieldLink RX1 15 "FaultShrinker$RuleBook" "spared" "[I", Cond.methodLink RX2 38 yX2_makeStep, Cond.instanceMethod yX2_makeStep, Cond.selects RX2 yX2_makeStep yX2_makeStep, Cond.code yX2_makeStep cX2_makeStep 5 (some .boolean), Cond.methodLink RX2 74 Lib.Math.max.name, Cond.static Lib.Math.max.name]
def wsX4_advise_r4 : List Cond := [Cond.initialized "java/lang/Math", Cond.code Lib.Math.max.name Lib.Math.max.code 2 (some .int), Cond.methodLink RX2 79 Lib.Math.min.name, Cond.static Lib.Math.min.name, Cond.code Lib.Math.min.name Lib.Math.min.code 2 (some .int), Cond.methodLink RX2 22 yJ6_bitCount_0f7a4, Cond.static yJ6_bitCount_0f7a4, Cond.initialized RJ6, Cond.code yJ6_bitCount_0f7a4 cJ6_bitCount_0f7a4 1 (some .int), Cond.constant RJ6 265 (1431655765), Cond.constant RJ6 266 (858993459), Cond.constant RJ6 267 (252645135), Cond.methodLink RX2 56 yX2_countPlaces, Cond.instanceMethod yX2_countPlaces, Cond.selects RX2 yX2_countPlaces yX2_countPlaces, Cond.code yX2_countPlaces cX2_countPlaces 4 none, Cond.fieldLink RX2 15 "FaultShrinker$Search" "firstPlaces" "[I", Cond.methodLink RX2 59 yX2_firstSpoiledPart, Cond.instanceMethod yX2_firstSpoiledPart, Cond.selects RX2 yX2_firstSpoiledPart yX2_firstSpoiledPart, Cond.code yX2_firstSpoiledPart cX2_firstSpoiledPart 4 (some .int), Cond.methodLink RX2 63 yX2_partAt, Cond.instanceMethod yX2_partAt, Cond.selects RX2 yX2_partAt yX2_partAt]
def wsX4_advise_r5 : List Cond := [Cond.code yX2_partAt cX2_partAt 5 (some .int), Cond.methodLink RX2 67 yX2_note, Cond.instanceMethod yX2_note, Cond.selects RX2 yX2_note yX2_note, Cond.code yX2_note cX2_note 6 none, Cond.fieldLink RX2 11 "FaultShrinker$Search" "facts" "[I", Cond.methodLink RX2 71 yX2_firstSparedPart, Cond.instanceMethod yX2_firstSparedPart, Cond.selects RX2 yX2_firstSparedPart yX2_firstSparedPart, Cond.code yX2_firstSparedPart cX2_firstSparedPart 4 (some .int), Cond.methodLink RX2 42 yX3_tastings, Cond.instanceMethod yX3_tastings, Cond.selects RX3 yX3_tastings yX3_tastings, Cond.code yX3_tastings cX3_tastings 1 (some .int), Cond.methodLink RX4 155 yX2_tastings, Cond.instanceMethod yX2_tastings, Cond.selects RX2 yX2_tastings yX2_tastings, Cond.code yX2_tastings cX2_tastings 1 (some .int)]
def wsX4_advise : List Cond := .code yX4_advise cX4_advise 4 (some .int) :: ((wsX4_advise_r1 ++ (wsX4_advise_r2 ++ (wsX4_advise_r3 ++ (wsX4_advise_r4 ++ wsX4_advise_r5)))) ++ wsX40 ++ wsX00 ++ wsX20 ++ wsX30 ++ wsX10)
def wsX4_mean : List Cond := .code yX4_mean cX4_mean 4 (some .double) :: ([.fieldLink RX4 19 "FaultShrinker" "rules" "LFaultShrinker$RuleBook;", .methodLink RX4 87 yX1_size, .instanceMethod yX1_size, .selects RX1 yX1_size yX1_size, .initialized RX1, .code yX1_size cX1_size 1 (some .int), .fieldLink RX1 18 "FaultShrinker$RuleBook" "size" "I", .methodLink RX4 102 yX1_neededBy, .instanceMethod yX1_neededBy, .selects RX1 yX1_neededBy yX1_neededBy, .code yX1_neededBy cX1_neededBy 2 (some .int), .fieldLink RX1 9 "FaultShrinker$RuleBook" "needed" "[I", .methodLink RX1 26 yX1_hasRule, .instanceMethod yX1_hasRule, .selects RX1 yX1_hasRule yX1_hasRule, .code yX1_hasRule cX1_hasRule 2 (some .boolean), .methodLink RX4 187 yJ6_bitCount_0f7a4, .static yJ6_bitCount_0f7a4, .initialized RJ6, .code yJ6_bitCount_0f7a4 cJ6_bitCount_0f7a4 1 (some .int), .constant RJ6 265 (1431655765), .constant RJ6 266 (858993459), .constant RJ6 267 (252645135)] ++ wsX40 ++ wsX10)
def wsX4_mixed : List Cond := .code yX4_mixed cX4_mixed 4 (some .long) :: ([.constantLong RX4 211 (31)])
def wsX4_digestState_r1 : List Cond := [Cond.fieldLink RX4 10 "FaultShrinker" "recipe" "LFaultShrinker$Recipe;", Cond.fieldLink RX4 19 "FaultShrinker" "rules" "LFaultShrinker$RuleBook;", Cond.methodLink RX4 176 yX4_countFact, Cond.instanceMethod yX4_countFact, Cond.selects RX4 yX4_countFact yX4_countFact, Cond.initialized RX4, Cond.code yX4_countFact cX4_countFact 2 (some .int), Cond.fieldLink RX4 35 "FaultShrinker" "keptSearch" "LFaultShrinker$Search;", Cond.fieldLink RX4 152 "FaultShrinker" "keptTastings" "I", Cond.methodLink RX4 66 yX0_size, Cond.instanceMethod yX0_size, Cond.selects RX0 yX0_size yX0_size, Cond.initialized RX0, Cond.code yX0_size cX0_size 1 (some .int), Cond.fieldLink RX0 15 "FaultShrinker$Recipe" "size" "I", Cond.methodLink RX4 87 yX1_size, Cond.instanceMethod yX1_size, Cond.selects RX1 yX1_size yX1_size, Cond.initialized RX1, Cond.code yX1_size cX1_size 1 (some .int), Cond.fieldLink RX1 18 "FaultShrinker$RuleBook" "size" "I", Cond.methodLink RX4 135 yX0_wholeDish, Cond.instanceMethod yX0_wholeDish, Cond.selects RX0 yX0_wholeDish yX0_wholeDish]
def wsX4_digestState_r2 : List Cond := [Cond.code yX0_wholeDish cX0_wholeDish 1 (some .int), Cond.methodLink RX4 145 yX0_kindsOf, Cond.instanceMethod yX0_kindsOf, Cond.selects RX0 yX0_kindsOf yX0_kindsOf, Cond.code yX0_kindsOf cX0_kindsOf 4 (some .int), Cond.fieldLink RX0 9 "FaultShrinker$Recipe" "kinds" "[I", Cond.methodLink RX4 208 yX1_holding, Cond.instanceMethod yX1_holding, Cond.selects RX1 yX1_holding yX1_holding, Cond.code yX1_holding cX1_holding 4 (some .int), Cond.methodLink RX1 30 yX1_holds, Cond.instanceMethod yX1_holds, Cond.selects RX1 yX1_holds yX1_holds, Cond.code yX1_holds cX1_holds 3 (some .boolean), Cond.fieldLink RX1 9 "FaultShrinker$RuleBook" "needed" "[I", Cond.fieldLink RX1 15 "FaultShrinker$RuleBook" "spared" "[I", Cond.methodLink RX4 158 yX2_listSize, Cond.instanceMethod yX2_listSize, Cond.selects RX2 yX2_listSize yX2_listSize, Cond.initialized RX2, Cond.code yX2_listSize cX2_listSize 1 (some .int), Cond.fieldLink RX2 18 "FaultShrinker$Search" "dish" "I", Cond.methodLink RX2 22 yJ6_bitCount_0f7a4, Cond.static yJ6_bitCount_0f7a4]
def wsX4_digestState_r3 : List Cond := [Cond.initialized RJ6, Cond.code yJ6_bitCount_0f7a4 cJ6_bitCount_0f7a4 1 (some .int), Cond.constant RJ6 265 (1431655765), Cond.constant RJ6 266 (858993459), Cond.constant RJ6 267 (252645135), Cond.methodLink RX4 166 yX2_steps, Cond.instanceMethod yX2_steps, Cond.selects RX2 yX2_steps yX2_steps, Cond.code yX2_steps cX2_steps 1 (some .int), Cond.fieldLink RX2 28 "FaultShrinker$Search" "steps" "I", Cond.methodLink RX4 155 yX2_tastings, Cond.instanceMethod yX2_tastings, Cond.selects RX2 yX2_tastings yX2_tastings, Cond.code yX2_tastings cX2_tastings 1 (some .int), Cond.fieldLink RX2 31 "FaultShrinker$Search" "tastings" "I", Cond.methodLink RX4 201 yX4_mixed, Cond.static yX4_mixed, Cond.code yX4_mixed cX4_mixed 4 (some .long), Cond.constantLong RX4 211 (31), Cond.methodLink RX4 75 yX0_kindAt, Cond.instanceMethod yX0_kindAt, Cond.selects RX0 yX0_kindAt yX0_kindAt, Cond.code yX0_kindAt cX0_kindAt 2 (some .int), Cond.methodLink RX0 19 yX0_hasPlace]
def wsX4_digestState_r4 : List Cond := [Cond.instanceMethod yX0_hasPlace, Cond.selects RX0 yX0_hasPlace yX0_hasPlace, Cond.code yX0_hasPlace cX0_hasPlace 2 (some .boolean), Cond.methodLink RX4 120 yX4_ruleFact, Cond.instanceMethod yX4_ruleFact, Cond.selects RX4 yX4_ruleFact yX4_ruleFact, Cond.code yX4_ruleFact cX4_ruleFact 3 (some .int), Cond.fieldLink RX4 148 "FaultShrinker" "keptListKinds" "I", Cond.methodLink RX4 102 yX1_neededBy, Cond.instanceMethod yX1_neededBy, Cond.selects RX1 yX1_neededBy yX1_neededBy, Cond.code yX1_neededBy cX1_neededBy 2 (some .int), Cond.methodLink RX1 26 yX1_hasRule, Cond.instanceMethod yX1_hasRule, Cond.selects RX1 yX1_hasRule yX1_hasRule, Cond.code yX1_hasRule cX1_hasRule 2 (some .boolean), Cond.methodLink RX4 93 yX1_sparedBy, Cond.instanceMethod yX1_sparedBy, Cond.selects RX1 yX1_sparedBy yX1_sparedBy, Cond.code yX1_sparedBy cX1_sparedBy 2 (some .int), Cond.methodLink RX4 187 yJ6_bitCount_0f7a4, Cond.methodLink RX4 205 yX1_holds]
def wsX4_digestState : List Cond := .code yX4_digestState cX4_digestState 7 (some .long) :: ((wsX4_digestState_r1 ++ (wsX4_digestState_r2 ++ (wsX4_digestState_r3 ++ wsX4_digestState_r4))) ++ wsX40 ++ wsX00 ++ wsX10 ++ wsX20)
def wsX4_digestKept_r1 : List Cond := [Cond.fieldLink RX4 35 "FaultShrinker" "keptSearch" "LFaultShrinker$Search;", Cond.methodLink RX4 158 yX2_listSize, Cond.instanceMethod yX2_listSize, Cond.selects RX2 yX2_listSize yX2_listSize, Cond.initialized RX2, Cond.code yX2_listSize cX2_listSize 1 (some .int), Cond.fieldLink RX2 18 "FaultShrinker$Search" "dish" "I", Cond.methodLink RX2 22 yJ6_bitCount_0f7a4, Cond.static yJ6_bitCount_0f7a4, Cond.initialized RJ6, Cond.code yJ6_bitCount_0f7a4 cJ6_bitCount_0f7a4 1 (some .int), Cond.constant RJ6 265 (1431655765), Cond.constant RJ6 266 (858993459), Cond.constant RJ6 267 (252645135), Cond.methodLink RX4 163 yX2_listPlace, Cond.instanceMethod yX2_listPlace, Cond.selects RX2 yX2_listPlace yX2_listPlace, Cond.code yX2_listPlace cX2_listPlace 5 (some .int), Cond.methodLink RX4 201 yX4_mixed, Cond.static yX4_mixed, Cond.initialized RX4, Cond.code yX4_mixed cX4_mixed 4 (some .long), Cond.constantLong RX4 211 (31), Cond.methodLink RX4 166 yX2_steps]
def wsX4_digestKept_r2 : List Cond := [Cond.instanceMethod yX2_steps, Cond.selects RX2 yX2_steps yX2_steps, Cond.code yX2_steps cX2_steps 1 (some .int), Cond.fieldLink RX2 28 "FaultShrinker$Search" "steps" "I", Cond.methodLink RX4 171 yX2_stepFact, Cond.instanceMethod yX2_stepFact, Cond.selects RX2 yX2_stepFact yX2_stepFact, Cond.code yX2_stepFact cX2_stepFact 4 (some .int), Cond.fieldLink RX2 11 "FaultShrinker$Search" "facts" "[I"]
def wsX4_digestKept : List Cond := .code yX4_digestKept cX4_digestKept 7 (some .long) :: ((wsX4_digestKept_r1 ++ wsX4_digestKept_r2) ++ wsX40 ++ wsX20)
def wsX4_digest_r1 : List Cond := [Cond.constantLong RX4 192 (1499), Cond.fieldLink RX4 39 "FaultShrinker" "trialSearch" "LFaultShrinker$Search;", Cond.fieldLink RX4 28 "FaultShrinker" "taster" "LFaultShrinker$Taster;", Cond.fieldLink RX4 10 "FaultShrinker" "recipe" "LFaultShrinker$Recipe;", Cond.fieldLink RX4 19 "FaultShrinker" "rules" "LFaultShrinker$RuleBook;", Cond.methodLink RX4 194 yX4_digestState, Cond.instanceMethod yX4_digestState, Cond.selects RX4 yX4_digestState yX4_digestState, Cond.initialized RX4, Cond.code yX4_digestState cX4_digestState 7 (some .long), Cond.methodLink RX4 176 yX4_countFact, Cond.instanceMethod yX4_countFact, Cond.selects RX4 yX4_countFact yX4_countFact, Cond.code yX4_countFact cX4_countFact 2 (some .int), Cond.fieldLink RX4 35 "FaultShrinker" "keptSearch" "LFaultShrinker$Search;", Cond.fieldLink RX4 152 "FaultShrinker" "keptTastings" "I", Cond.methodLink RX4 66 yX0_size, Cond.instanceMethod yX0_size, Cond.selects RX0 yX0_size yX0_size, Cond.initialized RX0, Cond.code yX0_size cX0_size 1 (some .int), Cond.fieldLink RX0 15 "FaultShrinker$Recipe" "size" "I", Cond.methodLink RX4 87 yX1_size, Cond.instanceMethod yX1_size]
def wsX4_digest_r2 : List Cond := [Cond.selects RX1 yX1_size yX1_size, Cond.initialized RX1, Cond.code yX1_size cX1_size 1 (some .int), Cond.fieldLink RX1 18 "FaultShrinker$RuleBook" "size" "I", Cond.methodLink RX4 135 yX0_wholeDish, Cond.instanceMethod yX0_wholeDish, Cond.selects RX0 yX0_wholeDish yX0_wholeDish, Cond.code yX0_wholeDish cX0_wholeDish 1 (some .int), Cond.methodLink RX4 145 yX0_kindsOf, Cond.instanceMethod yX0_kindsOf, Cond.selects RX0 yX0_kindsOf yX0_kindsOf, Cond.code yX0_kindsOf cX0_kindsOf 4 (some .int), Cond.fieldLink RX0 9 "FaultShrinker$Recipe" "kinds" "[I", Cond.methodLink RX4 208 yX1_holding, Cond.instanceMethod yX1_holding, Cond.selects RX1 yX1_holding yX1_holding, Cond.code yX1_holding cX1_holding 4 (some .int), Cond.methodLink RX1 30 yX1_holds, Cond.instanceMethod yX1_holds, Cond.selects RX1 yX1_holds yX1_holds, Cond.code yX1_holds cX1_holds 3 (some .boolean), Cond.fieldLink RX1 9 "FaultShrinker$RuleBook" "needed" "[I", Cond.fieldLink RX1 15 "FaultShrinker$RuleBook" "spared" "[I", Cond.methodLink RX4 158 yX2_listSize]
def wsX4_digest_r3 : List Cond := [Cond.instanceMethod yX2_listSize, Cond.selects RX2 yX2_listSize yX2_listSize, Cond.initialized RX2, Cond.code yX2_listSize cX2_listSize 1 (some .int), Cond.fieldLink RX2 18 "FaultShrinker$Search" "dish" "I", Cond.methodLink RX2 22 yJ6_bitCount_0f7a4, Cond.static yJ6_bitCount_0f7a4, Cond.initialized RJ6, Cond.code yJ6_bitCount_0f7a4 cJ6_bitCount_0f7a4 1 (some .int), Cond.constant RJ6 265 (1431655765), Cond.constant RJ6 266 (858993459), Cond.constant RJ6 267 (252645135), Cond.methodLink RX4 166 yX2_steps, Cond.instanceMethod yX2_steps, Cond.selects RX2 yX2_steps yX2_steps, Cond.code yX2_steps cX2_steps 1 (some .int), Cond.fieldLink RX2 28 "FaultShrinker$Search" "steps" "I", Cond.methodLink RX4 155 yX2_tastings, Cond.instanceMethod yX2_tastings, Cond.selects RX2 yX2_tastings yX2_tastings, Cond.code yX2_tastings cX2_tastings 1 (some .int), Cond.fieldLink RX2 31 "FaultShrinker$Search" "tastings" "I", Cond.methodLink RX4 201 yX4_mixed, Cond.static yX4_mixed]
def wsX4_digest_r4 : List Cond := [Cond.code yX4_mixed cX4_mixed 4 (some .long), Cond.constantLong RX4 211 (31), Cond.methodLink RX4 75 yX0_kindAt, Cond.instanceMethod yX0_kindAt, Cond.selects RX0 yX0_kindAt yX0_kindAt, Cond.code yX0_kindAt cX0_kindAt 2 (some .int), Cond.methodLink RX0 19 yX0_hasPlace, Cond.instanceMethod yX0_hasPlace, Cond.selects RX0 yX0_hasPlace yX0_hasPlace, Cond.code yX0_hasPlace cX0_hasPlace 2 (some .boolean), Cond.methodLink RX4 120 yX4_ruleFact, Cond.instanceMethod yX4_ruleFact, Cond.selects RX4 yX4_ruleFact yX4_ruleFact, Cond.code yX4_ruleFact cX4_ruleFact 3 (some .int), Cond.fieldLink RX4 148 "FaultShrinker" "keptListKinds" "I", Cond.methodLink RX4 102 yX1_neededBy, Cond.instanceMethod yX1_neededBy, Cond.selects RX1 yX1_neededBy yX1_neededBy, Cond.code yX1_neededBy cX1_neededBy 2 (some .int), Cond.methodLink RX1 26 yX1_hasRule, Cond.instanceMethod yX1_hasRule, Cond.selects RX1 yX1_hasRule yX1_hasRule, Cond.code yX1_hasRule cX1_hasRule 2 (some .boolean), Cond.methodLink RX4 93 yX1_sparedBy]
def wsX4_digest_r5 : List Cond := [Cond.instanceMethod yX1_sparedBy, Cond.selects RX1 yX1_sparedBy yX1_sparedBy, Cond.code yX1_sparedBy cX1_sparedBy 2 (some .int), Cond.methodLink RX4 187 yJ6_bitCount_0f7a4, Cond.methodLink RX4 205 yX1_holds, Cond.methodLink RX4 198 yX4_digestKept, Cond.instanceMethod yX4_digestKept, Cond.selects RX4 yX4_digestKept yX4_digestKept, Cond.code yX4_digestKept cX4_digestKept 7 (some .long), Cond.methodLink RX4 163 yX2_listPlace, Cond.instanceMethod yX2_listPlace, Cond.selects RX2 yX2_listPlace yX2_listPlace, Cond.code yX2_listPlace cX2_listPlace 5 (some .int), Cond.methodLink RX4 171 yX2_stepFact, Cond.instanceMethod yX2_stepFact, Cond.selects RX2 yX2_stepFact yX2_stepFact, Cond.code yX2_stepFact cX2_stepFact 4 (some .int), Cond.fieldLink RX2 11 "FaultShrinker$Search" "facts" "[I", Cond.methodLink RX4 138 yX2_goByHalves, Cond.instanceMethod yX2_goByHalves, Cond.selects RX2 yX2_goByHalves yX2_goByHalves, Cond.code yX2_goByHalves cX2_goByHalves 5 none, Cond.methodLink RX2 34 yX2_begin, Cond.instanceMethod yX2_begin]
def wsX4_digest_r6 : List Cond := [Cond.selects RX2 yX2_begin yX2_begin, Cond.code yX2_begin cX2_begin 4 (some .boolean), Cond.fieldLink RX2 53 "FaultShrinker$Search" "parts" "I", Cond.methodLink RX2 51 yX3_begin, Cond.instanceMethod yX3_begin, Cond.selects RX3 yX3_begin yX3_begin, Cond.initialized RX3, Cond.code yX3_begin cX3_begin 1 none, Cond.fieldLink RX3 23 "FaultShrinker$Taster" "search" "J", Cond.fieldLink RX3 27 "FaultShrinker$Taster" "tastings" "I", Cond.methodLink RX2 47 yX3_looksSpoiled, Cond.instanceMethod yX3_looksSpoiled, Cond.selects RX3 yX3_looksSpoiled yX3_looksSpoiled, Cond.code yX3_looksSpoiled cX3_looksSpoiled 2 (some .boolean), Cond.fieldLink RX3 19 "FaultShrinker$Taster" "rules" "LFaultShrinker$RuleBook;", Cond.fieldLink RX3 15 "FaultShrinker$Taster" "recipe" "LFaultShrinker$Recipe;", Cond.methodLink RX3 31 yX3_learn, Cond.instanceMethod yX3_learn, Cond.selects RX3 yX3_learn yX3_learn, Cond.code yX3_learn cX3_learn 7 (some .boolean), Cond.constant RX3 46 (-1640531535), Cond.fieldLink RX3 11 "FaultShrinker$Taster" "known" "[J", Cond.methodLink RX3 35 yX0_kindsOf, Cond.methodLink RX3 41 yX1_holding]
def wsX4_digest_r7 : List Cond := [Cond.methodLink RX2 38 yX2_makeStep, Cond.instanceMethod yX2_makeStep, Cond.selects RX2 yX2_makeStep yX2_makeStep, Cond.code yX2_makeStep cX2_makeStep 5 (some .boolean), Cond.methodLink RX2 74 Lib.Math.max.name, Cond.static Lib.Math.max.name, Cond.initialized "java/lang/Math", Cond.code Lib.Math.max.name Lib.Math.max.code 2 (some .int), Cond.methodLink RX2 79 Lib.Math.min.name, Cond.static Lib.Math.min.name, Cond.code Lib.Math.min.name Lib.Math.min.code 2 (some .int), Cond.methodLink RX2 56 yX2_countPlaces, Cond.instanceMethod yX2_countPlaces, Cond.selects RX2 yX2_countPlaces yX2_countPlaces, Cond.code yX2_countPlaces cX2_countPlaces 4 none, Cond.fieldLink RX2 15 "FaultShrinker$Search" "firstPlaces" "[I", Cond.methodLink RX2 59 yX2_firstSpoiledPart, Cond.instanceMethod yX2_firstSpoiledPart, Cond.selects RX2 yX2_firstSpoiledPart yX2_firstSpoiledPart, Cond.code yX2_firstSpoiledPart cX2_firstSpoiledPart 4 (some .int), Cond.methodLink RX2 63 yX2_partAt, Cond.instanceMethod yX2_partAt, Cond.selects RX2 yX2_partAt yX2_partAt, Cond.code yX2_partAt cX2_partAt 5 (some .int)]
def wsX4_digest_r8 : List Cond := [Cond.methodLink RX2 67 yX2_note, Cond.instanceMethod yX2_note, Cond.selects RX2 yX2_note yX2_note, Cond.code yX2_note cX2_note 6 none, Cond.methodLink RX2 71 yX2_firstSparedPart, Cond.instanceMethod yX2_firstSparedPart, Cond.selects RX2 yX2_firstSparedPart yX2_firstSparedPart, Cond.code yX2_firstSparedPart cX2_firstSparedPart 4 (some .int), Cond.methodLink RX2 42 yX3_tastings, Cond.instanceMethod yX3_tastings, Cond.selects RX3 yX3_tastings yX3_tastings, Cond.code yX3_tastings cX3_tastings 1 (some .int), Cond.methodLink RX4 142 yX2_list, Cond.instanceMethod yX2_list, Cond.selects RX2 yX2_list yX2_list, Cond.code yX2_list cX2_list 1 (some .int), Cond.methodLink RX4 181 yX2_goOneByOne, Cond.instanceMethod yX2_goOneByOne, Cond.selects RX2 yX2_goOneByOne yX2_goOneByOne, Cond.code yX2_goOneByOne cX2_goOneByOne 6 none, Cond.methodLink RX4 184 yX1_leastNeeded, Cond.instanceMethod yX1_leastNeeded, Cond.selects RX1 yX1_leastNeeded yX1_leastNeeded, Cond.code yX1_leastNeeded cX1_leastNeeded 6 (some .int)]
def wsX4_digest_r9 : List Cond := [Cond.methodLink RX1 34 yJ6_bitCount_0f7a4]
def wsX4_digest : List Cond := .code yX4_digest cX4_digest 3 (some .long) :: ((wsX4_digest_r1 ++ (wsX4_digest_r2 ++ (wsX4_digest_r3 ++ (wsX4_digest_r4 ++ (wsX4_digest_r5 ++ (wsX4_digest_r6 ++ (wsX4_digest_r7 ++ (wsX4_digest_r8 ++ wsX4_digest_r9)))))))) ++ wsX40 ++ wsX00 ++ wsX10 ++ wsX20 ++ wsX30)
def wsX5_init : List Cond := .code yX5_init cX5_init 1 none :: ([.methodLink RX5 1 objectInit, .instanceMethod objectInit, .code objectInit ⟨#[0xb1]⟩ 1 none, .arrayClass .int, .fieldLink RX5 7 "FaultShrinkerLaw$Sim" "kinds" "[I", .classLink RX5 13 "[I", .fieldLink RX5 14 "FaultShrinkerLaw$Sim" "rules" "[[I", .fieldLink RX5 18 "FaultShrinkerLaw$Sim" "list" "[I", .fieldLink RX5 21 "FaultShrinkerLaw$Sim" "listKinds" "[I", .fieldLink RX5 24 "FaultShrinkerLaw$Sim" "steps" "[[I", .fieldLink RX5 27 "FaultShrinkerLaw$Sim" "seen" "[[I", .fieldLink RX5 30 "FaultShrinkerLaw$Sim" "made" "[[I"] ++ wsX50)
def wsX5_more : List Cond := .code yX5_more cX5_more 4 (some (.array (.array .int))) :: ([.classLink RX5 13 "[I"])
def wsX5_has : List Cond := .code yX5_has cX5_has 6 (some .boolean) :: ([])
def wsX5_isSame : List Cond := .code yX5_isSame cX5_isSame 3 (some .boolean) :: ([])
def wsX5_kindsOf : List Cond := .code yX5_kindsOf cX5_kindsOf 4 (some (.array .int)) :: ([.arrayClass .int, .fieldLink RX5 7 "FaultShrinkerLaw$Sim" "kinds" "[I"] ++ wsX50)
def wsX5_holds : List Cond := .code yX5_holds cX5_holds 6 (some .boolean) :: ([.fieldLink RX5 14 "FaultShrinkerLaw$Sim" "rules" "[[I", .methodLink RX5 33 yX5_has, .static yX5_has, .initialized RX5, .code yX5_has cX5_has 6 (some .boolean)] ++ wsX50)
def wsX5_spoils : List Cond := .code yX5_spoils cX5_spoils 4 (some .boolean) :: ([.fieldLink RX5 14 "FaultShrinkerLaw$Sim" "rules" "[[I", .methodLink RX5 37 yX5_kindsOf, .instanceMethod yX5_kindsOf, .selects RX5 yX5_kindsOf yX5_kindsOf, .initialized RX5, .code yX5_kindsOf cX5_kindsOf 4 (some (.array .int)), .arrayClass .int, .fieldLink RX5 7 "FaultShrinkerLaw$Sim" "kinds" "[I", .methodLink RX5 41 yX5_holds, .instanceMethod yX5_holds, .selects RX5 yX5_holds yX5_holds, .code yX5_holds cX5_holds 6 (some .boolean), .methodLink RX5 33 yX5_has, .static yX5_has, .code yX5_has cX5_has 6 (some .boolean)] ++ wsX50)
def wsX5_taste_r1 : List Cond := [Cond.fieldLink RX5 27 "FaultShrinkerLaw$Sim" "seen" "[[I", Cond.methodLink RX5 45 yX5_isSame, Cond.static yX5_isSame, Cond.initialized RX5, Cond.code yX5_isSame cX5_isSame 3 (some .boolean), Cond.methodLink RX5 49 yX5_more, Cond.static yX5_more, Cond.code yX5_more cX5_more 4 (some (.array (.array .int))), Cond.classLink RX5 13 "[I", Cond.methodLink RX5 53 yX5_spoils, Cond.instanceMethod yX5_spoils, Cond.selects RX5 yX5_spoils yX5_spoils, Cond.code yX5_spoils cX5_spoils 4 (some .boolean), Cond.fieldLink RX5 14 "FaultShrinkerLaw$Sim" "rules" "[[I", Cond.methodLink RX5 37 yX5_kindsOf, Cond.instanceMethod yX5_kindsOf, Cond.selects RX5 yX5_kindsOf yX5_kindsOf, Cond.code yX5_kindsOf cX5_kindsOf 4 (some (.array .int)), Cond.arrayClass .int, Cond.fieldLink RX5 7 "FaultShrinkerLaw$Sim" "kinds" "[I", Cond.methodLink RX5 41 yX5_holds, Cond.instanceMethod yX5_holds, Cond.selects RX5 yX5_holds yX5_holds, Cond.code yX5_holds cX5_holds 6 (some .boolean)]
def wsX5_taste_r2 : List Cond := [Cond.methodLink RX5 33 yX5_has, Cond.static yX5_has, Cond.code yX5_has cX5_has 6 (some .boolean)]
def wsX5_taste : List Cond := .code yX5_taste cX5_taste 7 (some .boolean) :: ((wsX5_taste_r1 ++ wsX5_taste_r2) ++ wsX50)
def wsX5_whole : List Cond := .code yX5_whole cX5_whole 3 (some (.array .int)) :: ([.fieldLink RX5 7 "FaultShrinkerLaw$Sim" "kinds" "[I", .arrayClass .int] ++ wsX50)
def wsX5_piece : List Cond := .code yX5_piece cX5_piece 5 (some (.array .int)) :: ([.arrayClass .int])
def wsX5_rest : List Cond := .code yX5_rest cX5_rest 5 (some (.array .int)) :: ([.arrayClass .int])
def wsX5_bits : List Cond := .code yX5_bits cX5_bits 6 (some .int) :: ([])
def wsX5_halve_r1 : List Cond := [Cond.fieldLink RX5 30 "FaultShrinkerLaw$Sim" "made" "[[I", Cond.arrayClass .int, Cond.methodLink RX5 75 Lib.Math.min.name, Cond.static Lib.Math.min.name, Cond.initialized "java/lang/Math", Cond.code Lib.Math.min.name Lib.Math.min.code 2 (some .int), Cond.methodLink RX5 57 yX5_piece, Cond.static yX5_piece, Cond.initialized RX5, Cond.code yX5_piece cX5_piece 5 (some (.array .int)), Cond.methodLink RX5 61 yX5_taste, Cond.instanceMethod yX5_taste, Cond.selects RX5 yX5_taste yX5_taste, Cond.code yX5_taste cX5_taste 7 (some .boolean), Cond.fieldLink RX5 27 "FaultShrinkerLaw$Sim" "seen" "[[I", Cond.methodLink RX5 45 yX5_isSame, Cond.static yX5_isSame, Cond.code yX5_isSame cX5_isSame 3 (some .boolean), Cond.methodLink RX5 49 yX5_more, Cond.static yX5_more, Cond.code yX5_more cX5_more 4 (some (.array (.array .int))), Cond.classLink RX5 13 "[I", Cond.methodLink RX5 53 yX5_spoils, Cond.instanceMethod yX5_spoils]
def wsX5_halve_r2 : List Cond := [Cond.selects RX5 yX5_spoils yX5_spoils, Cond.code yX5_spoils cX5_spoils 4 (some .boolean), Cond.fieldLink RX5 14 "FaultShrinkerLaw$Sim" "rules" "[[I", Cond.methodLink RX5 37 yX5_kindsOf, Cond.instanceMethod yX5_kindsOf, Cond.selects RX5 yX5_kindsOf yX5_kindsOf, Cond.code yX5_kindsOf cX5_kindsOf 4 (some (.array .int)), Cond.fieldLink RX5 7 "FaultShrinkerLaw$Sim" "kinds" "[I", Cond.methodLink RX5 41 yX5_holds, Cond.instanceMethod yX5_holds, Cond.selects RX5 yX5_holds yX5_holds, Cond.code yX5_holds cX5_holds 6 (some .boolean), Cond.methodLink RX5 33 yX5_has, Cond.static yX5_has, Cond.code yX5_has cX5_has 6 (some .boolean), Cond.methodLink RX5 64 yX5_bits, Cond.static yX5_bits, Cond.code yX5_bits cX5_bits 6 (some .int), Cond.methodLink RX5 68 yX5_halve, Cond.instanceMethod yX5_halve, Cond.selects RX5 yX5_halve yX5_halve, Cond.methodLink RX5 72 yX5_rest, Cond.static yX5_rest, Cond.code yX5_rest cX5_rest 5 (some (.array .int))]
def wsX5_halve : List Cond := .code yX5_halve cX5_halve 6 (some (.array .int)) :: ((wsX5_halve_r1 ++ wsX5_halve_r2) ++ wsX50)
def wsX5_search_r1 : List Cond := [Cond.classLink RX5 13 "[I", Cond.fieldLink RX5 27 "FaultShrinkerLaw$Sim" "seen" "[[I", Cond.fieldLink RX5 30 "FaultShrinkerLaw$Sim" "made" "[[I", Cond.arrayClass .int, Cond.methodLink RX5 81 yX5_whole, Cond.instanceMethod yX5_whole, Cond.selects RX5 yX5_whole yX5_whole, Cond.initialized RX5, Cond.code yX5_whole cX5_whole 3 (some (.array .int)), Cond.fieldLink RX5 7 "FaultShrinkerLaw$Sim" "kinds" "[I", Cond.methodLink RX5 61 yX5_taste, Cond.instanceMethod yX5_taste, Cond.selects RX5 yX5_taste yX5_taste, Cond.code yX5_taste cX5_taste 7 (some .boolean), Cond.methodLink RX5 45 yX5_isSame, Cond.static yX5_isSame, Cond.code yX5_isSame cX5_isSame 3 (some .boolean), Cond.methodLink RX5 49 yX5_more, Cond.static yX5_more, Cond.code yX5_more cX5_more 4 (some (.array (.array .int))), Cond.methodLink RX5 53 yX5_spoils, Cond.instanceMethod yX5_spoils, Cond.selects RX5 yX5_spoils yX5_spoils, Cond.code yX5_spoils cX5_spoils 4 (some .boolean)]
def wsX5_search_r2 : List Cond := [Cond.fieldLink RX5 14 "FaultShrinkerLaw$Sim" "rules" "[[I", Cond.methodLink RX5 37 yX5_kindsOf, Cond.instanceMethod yX5_kindsOf, Cond.selects RX5 yX5_kindsOf yX5_kindsOf, Cond.code yX5_kindsOf cX5_kindsOf 4 (some (.array .int)), Cond.methodLink RX5 41 yX5_holds, Cond.instanceMethod yX5_holds, Cond.selects RX5 yX5_holds yX5_holds, Cond.code yX5_holds cX5_holds 6 (some .boolean), Cond.methodLink RX5 33 yX5_has, Cond.static yX5_has, Cond.code yX5_has cX5_has 6 (some .boolean), Cond.methodLink RX5 68 yX5_halve, Cond.instanceMethod yX5_halve, Cond.selects RX5 yX5_halve yX5_halve, Cond.code yX5_halve cX5_halve 6 (some (.array .int)), Cond.methodLink RX5 75 Lib.Math.min.name, Cond.static Lib.Math.min.name, Cond.initialized "java/lang/Math", Cond.code Lib.Math.min.name Lib.Math.min.code 2 (some .int), Cond.methodLink RX5 57 yX5_piece, Cond.static yX5_piece, Cond.code yX5_piece cX5_piece 5 (some (.array .int)), Cond.methodLink RX5 64 yX5_bits]
def wsX5_search_r3 : List Cond := [Cond.static yX5_bits, Cond.code yX5_bits cX5_bits 6 (some .int), Cond.methodLink RX5 72 yX5_rest, Cond.static yX5_rest, Cond.code yX5_rest cX5_rest 5 (some (.array .int))]
def wsX5_search : List Cond := .code yX5_search cX5_search 2 (some (.array .int)) :: ((wsX5_search_r1 ++ (wsX5_search_r2 ++ wsX5_search_r3)) ++ wsX50)
def wsX5_oneByOne_r1 : List Cond := [Cond.classLink RX5 13 "[I", Cond.fieldLink RX5 27 "FaultShrinkerLaw$Sim" "seen" "[[I", Cond.arrayClass .int, Cond.methodLink RX5 81 yX5_whole, Cond.instanceMethod yX5_whole, Cond.selects RX5 yX5_whole yX5_whole, Cond.initialized RX5, Cond.code yX5_whole cX5_whole 3 (some (.array .int)), Cond.fieldLink RX5 7 "FaultShrinkerLaw$Sim" "kinds" "[I", Cond.methodLink RX5 61 yX5_taste, Cond.instanceMethod yX5_taste, Cond.selects RX5 yX5_taste yX5_taste, Cond.code yX5_taste cX5_taste 7 (some .boolean), Cond.methodLink RX5 45 yX5_isSame, Cond.static yX5_isSame, Cond.code yX5_isSame cX5_isSame 3 (some .boolean), Cond.methodLink RX5 49 yX5_more, Cond.static yX5_more, Cond.code yX5_more cX5_more 4 (some (.array (.array .int))), Cond.methodLink RX5 53 yX5_spoils, Cond.instanceMethod yX5_spoils, Cond.selects RX5 yX5_spoils yX5_spoils, Cond.code yX5_spoils cX5_spoils 4 (some .boolean), Cond.fieldLink RX5 14 "FaultShrinkerLaw$Sim" "rules" "[[I"]
def wsX5_oneByOne_r2 : List Cond := [Cond.methodLink RX5 37 yX5_kindsOf, Cond.instanceMethod yX5_kindsOf, Cond.selects RX5 yX5_kindsOf yX5_kindsOf, Cond.code yX5_kindsOf cX5_kindsOf 4 (some (.array .int)), Cond.methodLink RX5 41 yX5_holds, Cond.instanceMethod yX5_holds, Cond.selects RX5 yX5_holds yX5_holds, Cond.code yX5_holds cX5_holds 6 (some .boolean), Cond.methodLink RX5 33 yX5_has, Cond.static yX5_has, Cond.code yX5_has cX5_has 6 (some .boolean), Cond.methodLink RX5 72 yX5_rest, Cond.static yX5_rest, Cond.code yX5_rest cX5_rest 5 (some (.array .int))]
def wsX5_oneByOne : List Cond := .code yX5_oneByOne cX5_oneByOne 5 (some (.array .int)) :: ((wsX5_oneByOne_r1 ++ wsX5_oneByOne_r2) ++ wsX50)
def wsX5_shrink_r1 : List Cond := [Cond.fieldLink RX5 18 "FaultShrinkerLaw$Sim" "list" "[I", Cond.fieldLink RX5 21 "FaultShrinkerLaw$Sim" "listKinds" "[I", Cond.fieldLink RX5 27 "FaultShrinkerLaw$Sim" "seen" "[[I", Cond.fieldLink RX5 88 "FaultShrinkerLaw$Sim" "tasted" "I", Cond.fieldLink RX5 30 "FaultShrinkerLaw$Sim" "made" "[[I", Cond.fieldLink RX5 24 "FaultShrinkerLaw$Sim" "steps" "[[I", Cond.fieldLink RX5 92 "FaultShrinkerLaw$Sim" "all" "I", Cond.methodLink RX5 85 yX5_search, Cond.instanceMethod yX5_search, Cond.selects RX5 yX5_search yX5_search, Cond.initialized RX5, Cond.code yX5_search cX5_search 2 (some (.array .int)), Cond.classLink RX5 13 "[I", Cond.arrayClass .int, Cond.methodLink RX5 81 yX5_whole, Cond.instanceMethod yX5_whole, Cond.selects RX5 yX5_whole yX5_whole, Cond.code yX5_whole cX5_whole 3 (some (.array .int)), Cond.fieldLink RX5 7 "FaultShrinkerLaw$Sim" "kinds" "[I", Cond.methodLink RX5 61 yX5_taste, Cond.instanceMethod yX5_taste, Cond.selects RX5 yX5_taste yX5_taste, Cond.code yX5_taste cX5_taste 7 (some .boolean), Cond.methodLink RX5 45 yX5_isSame]
def wsX5_shrink_r2 : List Cond := [Cond.static yX5_isSame, Cond.code yX5_isSame cX5_isSame 3 (some .boolean), Cond.methodLink RX5 49 yX5_more, Cond.static yX5_more, Cond.code yX5_more cX5_more 4 (some (.array (.array .int))), Cond.methodLink RX5 53 yX5_spoils, Cond.instanceMethod yX5_spoils, Cond.selects RX5 yX5_spoils yX5_spoils, Cond.code yX5_spoils cX5_spoils 4 (some .boolean), Cond.fieldLink RX5 14 "FaultShrinkerLaw$Sim" "rules" "[[I", Cond.methodLink RX5 37 yX5_kindsOf, Cond.instanceMethod yX5_kindsOf, Cond.selects RX5 yX5_kindsOf yX5_kindsOf, Cond.code yX5_kindsOf cX5_kindsOf 4 (some (.array .int)), Cond.methodLink RX5 41 yX5_holds, Cond.instanceMethod yX5_holds, Cond.selects RX5 yX5_holds yX5_holds, Cond.code yX5_holds cX5_holds 6 (some .boolean), Cond.methodLink RX5 33 yX5_has, Cond.static yX5_has, Cond.code yX5_has cX5_has 6 (some .boolean), Cond.methodLink RX5 68 yX5_halve, Cond.instanceMethod yX5_halve, Cond.selects RX5 yX5_halve yX5_halve]
def wsX5_shrink_r3 : List Cond := [Cond.code yX5_halve cX5_halve 6 (some (.array .int)), Cond.methodLink RX5 75 Lib.Math.min.name, Cond.static Lib.Math.min.name, Cond.initialized "java/lang/Math", Cond.code Lib.Math.min.name Lib.Math.min.code 2 (some .int), Cond.methodLink RX5 57 yX5_piece, Cond.static yX5_piece, Cond.code yX5_piece cX5_piece 5 (some (.array .int)), Cond.methodLink RX5 64 yX5_bits, Cond.static yX5_bits, Cond.code yX5_bits cX5_bits 6 (some .int), Cond.methodLink RX5 72 yX5_rest, Cond.static yX5_rest, Cond.code yX5_rest cX5_rest 5 (some (.array .int))]
def wsX5_shrink : List Cond := .code yX5_shrink cX5_shrink 1 (some .int) :: ((wsX5_shrink_r1 ++ (wsX5_shrink_r2 ++ wsX5_shrink_r3)) ++ wsX50)
def wsX5_needs : List Cond := .code yX5_needs cX5_needs 5 (some .int) :: ([.fieldLink RX5 14 "FaultShrinkerLaw$Sim" "rules" "[[I"] ++ wsX50)
def wsX5_isSame__r1 : List Cond := [Cond.fieldLink RX5 14 "FaultShrinkerLaw$Sim" "rules" "[[I", Cond.arrayClass .int, Cond.fieldLink RX5 21 "FaultShrinkerLaw$Sim" "listKinds" "[I", Cond.fieldLink RX5 7 "FaultShrinkerLaw$Sim" "kinds" "[I", Cond.fieldLink RX5 18 "FaultShrinkerLaw$Sim" "list" "[I", Cond.fieldLink RX5 24 "FaultShrinkerLaw$Sim" "steps" "[[I", Cond.fieldLink RX5 88 "FaultShrinkerLaw$Sim" "tasted" "I", Cond.fieldLink RX5 92 "FaultShrinkerLaw$Sim" "all" "I", Cond.methodLink RX5 95 yX5_needs, Cond.instanceMethod yX5_needs, Cond.selects RX5 yX5_needs yX5_needs, Cond.initialized RX5, Cond.code yX5_needs cX5_needs 5 (some .int), Cond.methodLink RX5 98 yJ6_bitCount_0f7a4, Cond.static yJ6_bitCount_0f7a4, Cond.initialized RJ6, Cond.code yJ6_bitCount_0f7a4 cJ6_bitCount_0f7a4 1 (some .int), Cond.constant RJ6 265 (1431655765), Cond.constant RJ6 266 (858993459), Cond.constant RJ6 267 (252645135), Cond.methodLink RX5 81 yX5_whole, Cond.instanceMethod yX5_whole, Cond.selects RX5 yX5_whole yX5_whole, Cond.code yX5_whole cX5_whole 3 (some (.array .int))]
def wsX5_isSame__r2 : List Cond := [Cond.methodLink RX5 37 yX5_kindsOf, Cond.instanceMethod yX5_kindsOf, Cond.selects RX5 yX5_kindsOf yX5_kindsOf, Cond.code yX5_kindsOf cX5_kindsOf 4 (some (.array .int)), Cond.methodLink RX5 41 yX5_holds, Cond.instanceMethod yX5_holds, Cond.selects RX5 yX5_holds yX5_holds, Cond.code yX5_holds cX5_holds 6 (some .boolean), Cond.methodLink RX5 33 yX5_has, Cond.static yX5_has, Cond.code yX5_has cX5_has 6 (some .boolean), Cond.methodLink RX5 104 yX4_told, Cond.instanceMethod yX4_told, Cond.selects RX4 yX4_told yX4_told, Cond.initialized RX4, Cond.code yX4_told cX4_told 3 (some .int), Cond.classLink RX4 46 "java/lang/IndexOutOfBoundsException", Cond.initialized "java/lang/IndexOutOfBoundsException", Cond.fieldLink RX4 19 "FaultShrinker" "rules" "LFaultShrinker$RuleBook;", Cond.methodLink RX4 88 yX1_hasRule, Cond.instanceMethod yX1_hasRule, Cond.selects RX1 yX1_hasRule yX1_hasRule, Cond.initialized RX1, Cond.code yX1_hasRule cX1_hasRule 2 (some .boolean)]
def wsX5_isSame__r3 : List Cond := [Cond.fieldLink RX1 18 "FaultShrinker$RuleBook" "size" "I", Cond.methodLink RX4 120 yX4_ruleFact, Cond.instanceMethod yX4_ruleFact, Cond.selects RX4 yX4_ruleFact yX4_ruleFact, Cond.code yX4_ruleFact cX4_ruleFact 3 (some .int), Cond.fieldLink RX4 10 "FaultShrinker" "recipe" "LFaultShrinker$Recipe;", Cond.fieldLink RX4 148 "FaultShrinker" "keptListKinds" "I", Cond.methodLink RX4 102 yX1_neededBy, Cond.instanceMethod yX1_neededBy, Cond.selects RX1 yX1_neededBy yX1_neededBy, Cond.code yX1_neededBy cX1_neededBy 2 (some .int), Cond.fieldLink RX1 9 "FaultShrinker$RuleBook" "needed" "[I", Cond.methodLink RX1 26 yX1_hasRule, Cond.methodLink RX4 93 yX1_sparedBy, Cond.instanceMethod yX1_sparedBy, Cond.selects RX1 yX1_sparedBy yX1_sparedBy, Cond.code yX1_sparedBy cX1_sparedBy 2 (some .int), Cond.fieldLink RX1 15 "FaultShrinker$RuleBook" "spared" "[I", Cond.methodLink RX4 187 yJ6_bitCount_0f7a4, Cond.methodLink RX4 135 yX0_wholeDish, Cond.instanceMethod yX0_wholeDish, Cond.selects RX0 yX0_wholeDish yX0_wholeDish, Cond.initialized RX0, Cond.code yX0_wholeDish cX0_wholeDish 1 (some .int)]
def wsX5_isSame__r4 : List Cond := [Cond.fieldLink RX0 15 "FaultShrinker$Recipe" "size" "I", Cond.methodLink RX4 145 yX0_kindsOf, Cond.instanceMethod yX0_kindsOf, Cond.selects RX0 yX0_kindsOf yX0_kindsOf, Cond.code yX0_kindsOf cX0_kindsOf 4 (some .int), Cond.fieldLink RX0 9 "FaultShrinker$Recipe" "kinds" "[I", Cond.methodLink RX4 205 yX1_holds, Cond.instanceMethod yX1_holds, Cond.selects RX1 yX1_holds yX1_holds, Cond.code yX1_holds cX1_holds 3 (some .boolean), Cond.methodLink RX5 109 yX4_count, Cond.instanceMethod yX4_count, Cond.selects RX4 yX4_count yX4_count, Cond.code yX4_count cX4_count 2 (some .int), Cond.methodLink RX4 176 yX4_countFact, Cond.instanceMethod yX4_countFact, Cond.selects RX4 yX4_countFact yX4_countFact, Cond.code yX4_countFact cX4_countFact 2 (some .int), Cond.fieldLink RX4 35 "FaultShrinker" "keptSearch" "LFaultShrinker$Search;", Cond.fieldLink RX4 152 "FaultShrinker" "keptTastings" "I", Cond.methodLink RX4 66 yX0_size, Cond.instanceMethod yX0_size, Cond.selects RX0 yX0_size yX0_size, Cond.code yX0_size cX0_size 1 (some .int)]
def wsX5_isSame__r5 : List Cond := [Cond.methodLink RX4 87 yX1_size, Cond.instanceMethod yX1_size, Cond.selects RX1 yX1_size yX1_size, Cond.code yX1_size cX1_size 1 (some .int), Cond.methodLink RX4 208 yX1_holding, Cond.instanceMethod yX1_holding, Cond.selects RX1 yX1_holding yX1_holding, Cond.code yX1_holding cX1_holding 4 (some .int), Cond.methodLink RX1 30 yX1_holds, Cond.methodLink RX4 158 yX2_listSize, Cond.instanceMethod yX2_listSize, Cond.selects RX2 yX2_listSize yX2_listSize, Cond.initialized RX2, Cond.code yX2_listSize cX2_listSize 1 (some .int), Cond.fieldLink RX2 18 "FaultShrinker$Search" "dish" "I", Cond.methodLink RX2 22 yJ6_bitCount_0f7a4, Cond.methodLink RX4 166 yX2_steps, Cond.instanceMethod yX2_steps, Cond.selects RX2 yX2_steps yX2_steps, Cond.code yX2_steps cX2_steps 1 (some .int), Cond.fieldLink RX2 28 "FaultShrinker$Search" "steps" "I", Cond.methodLink RX4 155 yX2_tastings, Cond.instanceMethod yX2_tastings, Cond.selects RX2 yX2_tastings yX2_tastings]
def wsX5_isSame__r6 : List Cond := [Cond.code yX2_tastings cX2_tastings 1 (some .int), Cond.fieldLink RX2 31 "FaultShrinker$Search" "tastings" "I", Cond.methodLink RX5 112 yX4_kind, Cond.instanceMethod yX4_kind, Cond.selects RX4 yX4_kind yX4_kind, Cond.code yX4_kind cX4_kind 2 (some .int), Cond.methodLink RX4 70 yX0_hasPlace, Cond.instanceMethod yX0_hasPlace, Cond.selects RX0 yX0_hasPlace yX0_hasPlace, Cond.code yX0_hasPlace cX0_hasPlace 2 (some .boolean), Cond.methodLink RX4 75 yX0_kindAt, Cond.instanceMethod yX0_kindAt, Cond.selects RX0 yX0_kindAt yX0_kindAt, Cond.code yX0_kindAt cX0_kindAt 2 (some .int), Cond.methodLink RX0 19 yX0_hasPlace, Cond.methodLink RX5 115 yX4_kept, Cond.instanceMethod yX4_kept, Cond.selects RX4 yX4_kept yX4_kept, Cond.code yX4_kept cX4_kept 2 (some .int), Cond.methodLink RX4 163 yX2_listPlace, Cond.instanceMethod yX2_listPlace, Cond.selects RX2 yX2_listPlace yX2_listPlace, Cond.code yX2_listPlace cX2_listPlace 5 (some .int), Cond.methodLink RX5 118 yX4_step]
def wsX5_isSame__r7 : List Cond := [Cond.instanceMethod yX4_step, Cond.selects RX4 yX4_step yX4_step, Cond.code yX4_step cX4_step 3 (some .int), Cond.methodLink RX4 171 yX2_stepFact, Cond.instanceMethod yX2_stepFact, Cond.selects RX2 yX2_stepFact yX2_stepFact, Cond.code yX2_stepFact cX2_stepFact 4 (some .int), Cond.fieldLink RX2 11 "FaultShrinker$Search" "facts" "[I", Cond.methodLink RX5 121 yX4_mean, Cond.instanceMethod yX4_mean, Cond.selects RX4 yX4_mean yX4_mean, Cond.code yX4_mean cX4_mean 4 (some .double)]
def wsX5_isSame_ : List Cond := .code yX5_isSame_ cX5_isSame_ 9 (some .boolean) :: ((wsX5_isSame__r1 ++ (wsX5_isSame__r2 ++ (wsX5_isSame__r3 ++ (wsX5_isSame__r4 ++ (wsX5_isSame__r5 ++ (wsX5_isSame__r6 ++ wsX5_isSame__r7)))))) ++ wsX50 ++ wsX40 ++ wsX10 ++ wsX00 ++ wsX20 ++ (vx_atS RX4 50 "java/lang/IndexOutOfBoundsException" ["java/lang/RuntimeException", "java/lang/Exception"]).filter goodWord)
def wsX5_isAlike_r1 : List Cond := [Cond.fieldLink RX5 27 "FaultShrinkerLaw$Sim" "seen" "[[I", Cond.fieldLink RX5 30 "FaultShrinkerLaw$Sim" "made" "[[I", Cond.methodLink RX5 85 yX5_search, Cond.instanceMethod yX5_search, Cond.selects RX5 yX5_search yX5_search, Cond.initialized RX5, Cond.code yX5_search cX5_search 2 (some (.array .int)), Cond.classLink RX5 13 "[I", Cond.arrayClass .int, Cond.methodLink RX5 81 yX5_whole, Cond.instanceMethod yX5_whole, Cond.selects RX5 yX5_whole yX5_whole, Cond.code yX5_whole cX5_whole 3 (some (.array .int)), Cond.fieldLink RX5 7 "FaultShrinkerLaw$Sim" "kinds" "[I", Cond.methodLink RX5 61 yX5_taste, Cond.instanceMethod yX5_taste, Cond.selects RX5 yX5_taste yX5_taste, Cond.code yX5_taste cX5_taste 7 (some .boolean), Cond.methodLink RX5 45 yX5_isSame, Cond.static yX5_isSame, Cond.code yX5_isSame cX5_isSame 3 (some .boolean), Cond.methodLink RX5 49 yX5_more, Cond.static yX5_more, Cond.code yX5_more cX5_more 4 (some (.array (.array .int)))]
def wsX5_isAlike_r2 : List Cond := [Cond.methodLink RX5 53 yX5_spoils, Cond.instanceMethod yX5_spoils, Cond.selects RX5 yX5_spoils yX5_spoils, Cond.code yX5_spoils cX5_spoils 4 (some .boolean), Cond.fieldLink RX5 14 "FaultShrinkerLaw$Sim" "rules" "[[I", Cond.methodLink RX5 37 yX5_kindsOf, Cond.instanceMethod yX5_kindsOf, Cond.selects RX5 yX5_kindsOf yX5_kindsOf, Cond.code yX5_kindsOf cX5_kindsOf 4 (some (.array .int)), Cond.methodLink RX5 41 yX5_holds, Cond.instanceMethod yX5_holds, Cond.selects RX5 yX5_holds yX5_holds, Cond.code yX5_holds cX5_holds 6 (some .boolean), Cond.methodLink RX5 33 yX5_has, Cond.static yX5_has, Cond.code yX5_has cX5_has 6 (some .boolean), Cond.methodLink RX5 68 yX5_halve, Cond.instanceMethod yX5_halve, Cond.selects RX5 yX5_halve yX5_halve, Cond.code yX5_halve cX5_halve 6 (some (.array .int)), Cond.methodLink RX5 75 Lib.Math.min.name, Cond.static Lib.Math.min.name, Cond.initialized "java/lang/Math", Cond.code Lib.Math.min.name Lib.Math.min.code 2 (some .int)]
def wsX5_isAlike_r3 : List Cond := [Cond.methodLink RX5 57 yX5_piece, Cond.static yX5_piece, Cond.code yX5_piece cX5_piece 5 (some (.array .int)), Cond.methodLink RX5 64 yX5_bits, Cond.static yX5_bits, Cond.code yX5_bits cX5_bits 6 (some .int), Cond.methodLink RX5 72 yX5_rest, Cond.static yX5_rest, Cond.code yX5_rest cX5_rest 5 (some (.array .int)), Cond.methodLink RX5 125 yX4_would, Cond.instanceMethod yX4_would, Cond.selects RX4 yX4_would yX4_would, Cond.initialized RX4, Cond.code yX4_would cX4_would 2 (some .int), Cond.classLink RX4 46 "java/lang/IndexOutOfBoundsException", Cond.initialized "java/lang/IndexOutOfBoundsException", Cond.fieldLink RX4 39 "FaultShrinker" "trialSearch" "LFaultShrinker$Search;", Cond.fieldLink RX4 28 "FaultShrinker" "taster" "LFaultShrinker$Taster;", Cond.fieldLink RX4 10 "FaultShrinker" "recipe" "LFaultShrinker$Recipe;", Cond.methodLink RX4 135 yX0_wholeDish, Cond.instanceMethod yX0_wholeDish, Cond.selects RX0 yX0_wholeDish yX0_wholeDish, Cond.initialized RX0, Cond.code yX0_wholeDish cX0_wholeDish 1 (some .int)]
def wsX5_isAlike_r4 : List Cond := [Cond.fieldLink RX0 15 "FaultShrinker$Recipe" "size" "I", Cond.methodLink RX4 138 yX2_goByHalves, Cond.instanceMethod yX2_goByHalves, Cond.selects RX2 yX2_goByHalves yX2_goByHalves, Cond.initialized RX2, Cond.code yX2_goByHalves cX2_goByHalves 5 none, Cond.fieldLink RX2 31 "FaultShrinker$Search" "tastings" "I", Cond.methodLink RX2 34 yX2_begin, Cond.instanceMethod yX2_begin, Cond.selects RX2 yX2_begin yX2_begin, Cond.code yX2_begin cX2_begin 4 (some .boolean), Cond.fieldLink RX2 18 "FaultShrinker$Search" "dish" "I", Cond.fieldLink RX2 53 "FaultShrinker$Search" "parts" "I", Cond.fieldLink RX2 28 "FaultShrinker$Search" "steps" "I", Cond.methodLink RX2 51 yX3_begin, Cond.instanceMethod yX3_begin, Cond.selects RX3 yX3_begin yX3_begin, Cond.initialized RX3, Cond.code yX3_begin cX3_begin 1 none, Cond.fieldLink RX3 23 "FaultShrinker$Taster" "search" "J", Cond.fieldLink RX3 27 "FaultShrinker$Taster" "tastings" "I", Cond.methodLink RX2 47 yX3_looksSpoiled, Cond.instanceMethod yX3_looksSpoiled, Cond.selects RX3 yX3_looksSpoiled yX3_looksSpoiled]
def wsX5_isAlike_r5 : List Cond := [Cond.code yX3_looksSpoiled cX3_looksSpoiled 2 (some .boolean), Cond.fieldLink RX3 19 "FaultShrinker$Taster" "rules" "LFaultShrinker$RuleBook;", Cond.fieldLink RX3 15 "FaultShrinker$Taster" "recipe" "LFaultShrinker$Recipe;", Cond.methodLink RX3 31 yX3_learn, Cond.instanceMethod yX3_learn, Cond.selects RX3 yX3_learn yX3_learn, Cond.code yX3_learn cX3_learn 7 (some .boolean), Cond.constant RX3 46 (-1640531535), Cond.fieldLink RX3 11 "FaultShrinker$Taster" "known" "[J", Cond.methodLink RX3 35 yX0_kindsOf, Cond.instanceMethod yX0_kindsOf, Cond.selects RX0 yX0_kindsOf yX0_kindsOf, Cond.code yX0_kindsOf cX0_kindsOf 4 (some .int), Cond.fieldLink RX0 9 "FaultShrinker$Recipe" "kinds" "[I", Cond.methodLink RX3 41 yX1_holding, Cond.instanceMethod yX1_holding, Cond.selects RX1 yX1_holding yX1_holding, Cond.initialized RX1, Cond.code yX1_holding cX1_holding 4 (some .int), Cond.fieldLink RX1 18 "FaultShrinker$RuleBook" "size" "I", Cond.methodLink RX1 30 yX1_holds, Cond.instanceMethod yX1_holds, Cond.selects RX1 yX1_holds yX1_holds, Cond.code yX1_holds cX1_holds 3 (some .boolean)]
def wsX5_isAlike_r6 : List Cond := [Cond.fieldLink RX1 9 "FaultShrinker$RuleBook" "needed" "[I", Cond.fieldLink RX1 15 "FaultShrinker$RuleBook" "spared" "[I", Cond.methodLink RX2 38 yX2_makeStep, Cond.instanceMethod yX2_makeStep, Cond.selects RX2 yX2_makeStep yX2_makeStep, Cond.code yX2_makeStep cX2_makeStep 5 (some .boolean), Cond.methodLink RX2 74 Lib.Math.max.name, Cond.static Lib.Math.max.name, Cond.code Lib.Math.max.name Lib.Math.max.code 2 (some .int), Cond.methodLink RX2 79 Lib.Math.min.name, Cond.methodLink RX2 22 yJ6_bitCount_0f7a4, Cond.static yJ6_bitCount_0f7a4, Cond.initialized RJ6, Cond.code yJ6_bitCount_0f7a4 cJ6_bitCount_0f7a4 1 (some .int), Cond.constant RJ6 265 (1431655765), Cond.constant RJ6 266 (858993459), Cond.constant RJ6 267 (252645135), Cond.methodLink RX2 56 yX2_countPlaces, Cond.instanceMethod yX2_countPlaces, Cond.selects RX2 yX2_countPlaces yX2_countPlaces, Cond.code yX2_countPlaces cX2_countPlaces 4 none, Cond.fieldLink RX2 15 "FaultShrinker$Search" "firstPlaces" "[I", Cond.methodLink RX2 59 yX2_firstSpoiledPart, Cond.instanceMethod yX2_firstSpoiledPart]
def wsX5_isAlike_r7 : List Cond := [Cond.selects RX2 yX2_firstSpoiledPart yX2_firstSpoiledPart, Cond.code yX2_firstSpoiledPart cX2_firstSpoiledPart 4 (some .int), Cond.methodLink RX2 63 yX2_partAt, Cond.instanceMethod yX2_partAt, Cond.selects RX2 yX2_partAt yX2_partAt, Cond.code yX2_partAt cX2_partAt 5 (some .int), Cond.methodLink RX2 67 yX2_note, Cond.instanceMethod yX2_note, Cond.selects RX2 yX2_note yX2_note, Cond.code yX2_note cX2_note 6 none, Cond.fieldLink RX2 11 "FaultShrinker$Search" "facts" "[I", Cond.methodLink RX2 71 yX2_firstSparedPart, Cond.instanceMethod yX2_firstSparedPart, Cond.selects RX2 yX2_firstSparedPart yX2_firstSparedPart, Cond.code yX2_firstSparedPart cX2_firstSparedPart 4 (some .int), Cond.methodLink RX2 42 yX3_tastings, Cond.instanceMethod yX3_tastings, Cond.selects RX3 yX3_tastings yX3_tastings, Cond.code yX3_tastings cX3_tastings 1 (some .int), Cond.methodLink RX4 181 yX2_goOneByOne, Cond.instanceMethod yX2_goOneByOne, Cond.selects RX2 yX2_goOneByOne yX2_goOneByOne, Cond.code yX2_goOneByOne cX2_goOneByOne 6 none, Cond.methodLink RX4 142 yX2_list]
def wsX5_isAlike_r8 : List Cond := [Cond.instanceMethod yX2_list, Cond.selects RX2 yX2_list yX2_list, Cond.code yX2_list cX2_list 1 (some .int), Cond.methodLink RX4 166 yX2_steps, Cond.instanceMethod yX2_steps, Cond.selects RX2 yX2_steps yX2_steps, Cond.code yX2_steps cX2_steps 1 (some .int), Cond.methodLink RX4 155 yX2_tastings, Cond.instanceMethod yX2_tastings, Cond.selects RX2 yX2_tastings yX2_tastings, Cond.code yX2_tastings cX2_tastings 1 (some .int), Cond.methodLink RX5 128 yX5_oneByOne, Cond.instanceMethod yX5_oneByOne, Cond.selects RX5 yX5_oneByOne yX5_oneByOne, Cond.code yX5_oneByOne cX5_oneByOne 5 (some (.array .int))]
def wsX5_isAlike : List Cond := .code yX5_isAlike cX5_isAlike 4 (some .boolean) :: ((wsX5_isAlike_r1 ++ (wsX5_isAlike_r2 ++ (wsX5_isAlike_r3 ++ (wsX5_isAlike_r4 ++ (wsX5_isAlike_r5 ++ (wsX5_isAlike_r6 ++ (wsX5_isAlike_r7 ++ wsX5_isAlike_r8))))))) ++ wsX50 ++ wsX40 ++ wsX00 ++ wsX20 ++ wsX30 ++ wsX10 ++ (vx_atS RX4 50 "java/lang/IndexOutOfBoundsException" ["java/lang/RuntimeException", "java/lang/Exception"]).filter goodWord)
def wsJ9_max_7cf53 : List Cond := .code yJ9_max_7cf53 cJ9_max_7cf53 2 (some .int) :: ([])
def wsJ9_min_7cf53 : List Cond := .code yJ9_min_7cf53 cJ9_min_7cf53 2 (some .int) :: ([])
def wsL_below : List Cond := .code yL_below cL_below 2 (some .int) :: ([.constant RL 7 (2147483647)])
def wsL_cell : List Cond := .code yL_cell cL_cell 2 (some .int) :: ([.constant RL 8 (790386105)])
def wsL_act_r1 : List Cond := [Cond.classLink RL 53 "java/lang/IllegalStateException", Cond.fieldLink RL 15 "FaultShrinkerLaw$Sim" "kinds" "[I", Cond.fieldLink RL 21 "FaultShrinkerLaw$Sim" "rules" "[[I", Cond.arrayClass .int, Cond.methodLink RL 9 yL_below, Cond.static yL_below, Cond.initialized RL, Cond.code yL_below cL_below 2 (some .int), Cond.constant RL 7 (2147483647), Cond.methodLink RL 25 yX4_add, Cond.instanceMethod yX4_add, Cond.selects RX4 yX4_add yX4_add, Cond.initialized RX4, Cond.code yX4_add cX4_add 2 (some .int), Cond.classLink RX4 46 "java/lang/IndexOutOfBoundsException", Cond.initialized "java/lang/IndexOutOfBoundsException", Cond.classLink RX4 57 "java/lang/IllegalStateException", Cond.initialized "java/lang/IllegalStateException", Cond.fieldLink RX4 10 "FaultShrinker" "recipe" "LFaultShrinker$Recipe;", Cond.methodLink RX4 42 yX4_isKind, Cond.static yX4_isKind, Cond.code yX4_isKind cX4_isKind 1 (some .boolean), Cond.methodLink RX4 53 yX0_isFull, Cond.instanceMethod yX0_isFull]
def wsL_act_r2 : List Cond := [Cond.selects RX0 yX0_isFull yX0_isFull, Cond.initialized RX0, Cond.code yX0_isFull cX0_isFull 1 (some .boolean), Cond.fieldLink RX0 15 "FaultShrinker$Recipe" "size" "I", Cond.fieldLink RX0 9 "FaultShrinker$Recipe" "kinds" "[I", Cond.methodLink RX4 62 yX0_append, Cond.instanceMethod yX0_append, Cond.selects RX0 yX0_append yX0_append, Cond.code yX0_append cX0_append 2 none, Cond.methodLink RX0 23 yX0_isFull, Cond.methodLink RX4 66 yX0_size, Cond.instanceMethod yX0_size, Cond.selects RX0 yX0_size yX0_size, Cond.code yX0_size cX0_size 1 (some .int), Cond.methodLink RL 31 yX5_rest, Cond.static yX5_rest, Cond.initialized RX5, Cond.code yX5_rest cX5_rest 5 (some (.array .int)), Cond.methodLink RL 35 yX4_drop, Cond.instanceMethod yX4_drop, Cond.selects RX4 yX4_drop yX4_drop, Cond.code yX4_drop cX4_drop 3 (some .int), Cond.methodLink RX4 70 yX0_hasPlace, Cond.instanceMethod yX0_hasPlace]
def wsL_act_r3 : List Cond := [Cond.selects RX0 yX0_hasPlace yX0_hasPlace, Cond.code yX0_hasPlace cX0_hasPlace 2 (some .boolean), Cond.methodLink RX4 75 yX0_kindAt, Cond.instanceMethod yX0_kindAt, Cond.selects RX0 yX0_kindAt yX0_kindAt, Cond.code yX0_kindAt cX0_kindAt 2 (some .int), Cond.methodLink RX0 19 yX0_hasPlace, Cond.methodLink RX4 79 yX0_takeOut, Cond.instanceMethod yX0_takeOut, Cond.selects RX0 yX0_takeOut yX0_takeOut, Cond.code yX0_takeOut cX0_takeOut 3 none, Cond.methodLink RL 38 yX5_more, Cond.static yX5_more, Cond.code yX5_more cX5_more 4 (some (.array (.array .int))), Cond.classLink RX5 13 "[I", Cond.methodLink RL 42 yX4_rule, Cond.instanceMethod yX4_rule, Cond.selects RX4 yX4_rule yX4_rule, Cond.code yX4_rule cX4_rule 1 (some .int), Cond.fieldLink RX4 19 "FaultShrinker" "rules" "LFaultShrinker$RuleBook;", Cond.methodLink RX4 82 yX1_isFull, Cond.instanceMethod yX1_isFull, Cond.selects RX1 yX1_isFull yX1_isFull, Cond.initialized RX1]
def wsL_act_r4 : List Cond := [Cond.code yX1_isFull cX1_isFull 1 (some .boolean), Cond.fieldLink RX1 18 "FaultShrinker$RuleBook" "size" "I", Cond.methodLink RX4 85 yX1_append, Cond.instanceMethod yX1_append, Cond.selects RX1 yX1_append yX1_append, Cond.code yX1_append cX1_append 1 none, Cond.methodLink RX1 22 yX1_isFull, Cond.methodLink RX4 87 yX1_size, Cond.instanceMethod yX1_size, Cond.selects RX1 yX1_size yX1_size, Cond.code yX1_size cX1_size 1 (some .int), Cond.methodLink RL 46 yX4_setNeeds, Cond.instanceMethod yX4_setNeeds, Cond.selects RX4 yX4_setNeeds yX4_setNeeds, Cond.code yX4_setNeeds cX4_setNeeds 5 (some .boolean), Cond.methodLink RX4 88 yX1_hasRule, Cond.instanceMethod yX1_hasRule, Cond.selects RX1 yX1_hasRule yX1_hasRule, Cond.code yX1_hasRule cX1_hasRule 2 (some .boolean), Cond.methodLink RX4 93 yX1_sparedBy, Cond.instanceMethod yX1_sparedBy, Cond.selects RX1 yX1_sparedBy yX1_sparedBy, Cond.code yX1_sparedBy cX1_sparedBy 2 (some .int), Cond.fieldLink RX1 15 "FaultShrinker$RuleBook" "spared" "[I"]
def wsL_act_r5 : List Cond := [Cond.methodLink RX1 26 yX1_hasRule, Cond.methodLink RX4 96 yX4_hasBit, Cond.static yX4_hasBit, Cond.code yX4_hasBit cX4_hasBit 2 (some .boolean), Cond.methodLink RX4 102 yX1_neededBy, Cond.instanceMethod yX1_neededBy, Cond.selects RX1 yX1_neededBy yX1_neededBy, Cond.code yX1_neededBy cX1_neededBy 2 (some .int), Cond.fieldLink RX1 9 "FaultShrinker$RuleBook" "needed" "[I", Cond.methodLink RX4 105 yX4_withBit, Cond.static yX4_withBit, Cond.code yX4_withBit cX4_withBit 3 (some .int), Cond.methodLink RX4 109 yX1_putNeeded, Cond.instanceMethod yX1_putNeeded, Cond.selects RX1 yX1_putNeeded yX1_putNeeded, Cond.code yX1_putNeeded cX1_putNeeded 3 none, Cond.methodLink RL 50 yX4_setSpares, Cond.instanceMethod yX4_setSpares, Cond.selects RX4 yX4_setSpares yX4_setSpares, Cond.code yX4_setSpares cX4_setSpares 5 (some .boolean), Cond.methodLink RX4 115 yX1_putSpared, Cond.instanceMethod yX1_putSpared, Cond.selects RX1 yX1_putSpared yX1_putSpared, Cond.code yX1_putSpared cX1_putSpared 3 none]
def wsL_act_r6 : List Cond := [Cond.methodLink RL 55 yX4_shrink, Cond.instanceMethod yX4_shrink, Cond.selects RX4 yX4_shrink yX4_shrink, Cond.code yX4_shrink cX4_shrink 1 (some .int), Cond.fieldLink RX4 35 "FaultShrinker" "keptSearch" "LFaultShrinker$Search;", Cond.fieldLink RX4 28 "FaultShrinker" "taster" "LFaultShrinker$Taster;", Cond.fieldLink RX4 148 "FaultShrinker" "keptListKinds" "I", Cond.fieldLink RX4 152 "FaultShrinker" "keptTastings" "I", Cond.methodLink RX4 135 yX0_wholeDish, Cond.instanceMethod yX0_wholeDish, Cond.selects RX0 yX0_wholeDish yX0_wholeDish, Cond.code yX0_wholeDish cX0_wholeDish 1 (some .int), Cond.methodLink RX4 138 yX2_goByHalves, Cond.instanceMethod yX2_goByHalves, Cond.selects RX2 yX2_goByHalves yX2_goByHalves, Cond.initialized RX2, Cond.code yX2_goByHalves cX2_goByHalves 5 none, Cond.fieldLink RX2 31 "FaultShrinker$Search" "tastings" "I", Cond.methodLink RX2 34 yX2_begin, Cond.instanceMethod yX2_begin, Cond.selects RX2 yX2_begin yX2_begin, Cond.code yX2_begin cX2_begin 4 (some .boolean), Cond.fieldLink RX2 18 "FaultShrinker$Search" "dish" "I", Cond.fieldLink RX2 53 "FaultShrinker$Search" "parts" "I"]
def wsL_act_r7 : List Cond := [Cond.fieldLink RX2 28 "FaultShrinker$Search" "steps" "I", Cond.methodLink RX2 51 yX3_begin, Cond.instanceMethod yX3_begin, Cond.selects RX3 yX3_begin yX3_begin, Cond.initialized RX3, Cond.code yX3_begin cX3_begin 1 none, Cond.fieldLink RX3 23 "FaultShrinker$Taster" "search" "J", Cond.fieldLink RX3 27 "FaultShrinker$Taster" "tastings" "I", Cond.methodLink RX2 47 yX3_looksSpoiled, Cond.instanceMethod yX3_looksSpoiled, Cond.selects RX3 yX3_looksSpoiled yX3_looksSpoiled, Cond.code yX3_looksSpoiled cX3_looksSpoiled 2 (some .boolean), Cond.fieldLink RX3 19 "FaultShrinker$Taster" "rules" "LFaultShrinker$RuleBook;", Cond.fieldLink RX3 15 "FaultShrinker$Taster" "recipe" "LFaultShrinker$Recipe;", Cond.methodLink RX3 31 yX3_learn, Cond.instanceMethod yX3_learn, Cond.selects RX3 yX3_learn yX3_learn, Cond.code yX3_learn cX3_learn 7 (some .boolean), Cond.constant RX3 46 (-1640531535), Cond.fieldLink RX3 11 "FaultShrinker$Taster" "known" "[J", Cond.methodLink RX3 35 yX0_kindsOf, Cond.instanceMethod yX0_kindsOf, Cond.selects RX0 yX0_kindsOf yX0_kindsOf, Cond.code yX0_kindsOf cX0_kindsOf 4 (some .int)]
def wsL_act_r8 : List Cond := [Cond.methodLink RX3 41 yX1_holding, Cond.instanceMethod yX1_holding, Cond.selects RX1 yX1_holding yX1_holding, Cond.code yX1_holding cX1_holding 4 (some .int), Cond.methodLink RX1 30 yX1_holds, Cond.instanceMethod yX1_holds, Cond.selects RX1 yX1_holds yX1_holds, Cond.code yX1_holds cX1_holds 3 (some .boolean), Cond.methodLink RX2 38 yX2_makeStep, Cond.instanceMethod yX2_makeStep, Cond.selects RX2 yX2_makeStep yX2_makeStep, Cond.code yX2_makeStep cX2_makeStep 5 (some .boolean), Cond.methodLink RX2 74 Lib.Math.max.name, Cond.static Lib.Math.max.name, Cond.initialized "java/lang/Math", Cond.code Lib.Math.max.name Lib.Math.max.code 2 (some .int), Cond.methodLink RX2 79 Lib.Math.min.name, Cond.static Lib.Math.min.name, Cond.code Lib.Math.min.name Lib.Math.min.code 2 (some .int), Cond.methodLink RX2 22 yJ6_bitCount_0f7a4, Cond.static yJ6_bitCount_0f7a4, Cond.initialized RJ6, Cond.code yJ6_bitCount_0f7a4 cJ6_bitCount_0f7a4 1 (some .int), Cond.constant RJ6 265 (1431655765)]
def wsL_act_r9 : List Cond := [Cond.constant RJ6 266 (858993459), Cond.constant RJ6 267 (252645135), Cond.methodLink RX2 56 yX2_countPlaces, Cond.instanceMethod yX2_countPlaces, Cond.selects RX2 yX2_countPlaces yX2_countPlaces, Cond.code yX2_countPlaces cX2_countPlaces 4 none, Cond.fieldLink RX2 15 "FaultShrinker$Search" "firstPlaces" "[I", Cond.methodLink RX2 59 yX2_firstSpoiledPart, Cond.instanceMethod yX2_firstSpoiledPart, Cond.selects RX2 yX2_firstSpoiledPart yX2_firstSpoiledPart, Cond.code yX2_firstSpoiledPart cX2_firstSpoiledPart 4 (some .int), Cond.methodLink RX2 63 yX2_partAt, Cond.instanceMethod yX2_partAt, Cond.selects RX2 yX2_partAt yX2_partAt, Cond.code yX2_partAt cX2_partAt 5 (some .int), Cond.methodLink RX2 67 yX2_note, Cond.instanceMethod yX2_note, Cond.selects RX2 yX2_note yX2_note, Cond.code yX2_note cX2_note 6 none, Cond.fieldLink RX2 11 "FaultShrinker$Search" "facts" "[I", Cond.methodLink RX2 71 yX2_firstSparedPart, Cond.instanceMethod yX2_firstSparedPart, Cond.selects RX2 yX2_firstSparedPart yX2_firstSparedPart, Cond.code yX2_firstSparedPart cX2_firstSparedPart 4 (some .int)]
def wsL_act_r10 : List Cond := [Cond.methodLink RX2 42 yX3_tastings, Cond.instanceMethod yX3_tastings, Cond.selects RX3 yX3_tastings yX3_tastings, Cond.code yX3_tastings cX3_tastings 1 (some .int), Cond.methodLink RX4 142 yX2_list, Cond.instanceMethod yX2_list, Cond.selects RX2 yX2_list yX2_list, Cond.code yX2_list cX2_list 1 (some .int), Cond.methodLink RX4 145 yX0_kindsOf, Cond.methodLink RX4 155 yX2_tastings, Cond.instanceMethod yX2_tastings, Cond.selects RX2 yX2_tastings yX2_tastings, Cond.code yX2_tastings cX2_tastings 1 (some .int), Cond.methodLink RL 58 yX5_shrink, Cond.instanceMethod yX5_shrink, Cond.selects RX5 yX5_shrink yX5_shrink, Cond.code yX5_shrink cX5_shrink 1 (some .int), Cond.fieldLink RX5 18 "FaultShrinkerLaw$Sim" "list" "[I", Cond.fieldLink RX5 21 "FaultShrinkerLaw$Sim" "listKinds" "[I", Cond.fieldLink RX5 27 "FaultShrinkerLaw$Sim" "seen" "[[I", Cond.fieldLink RX5 88 "FaultShrinkerLaw$Sim" "tasted" "I", Cond.fieldLink RX5 30 "FaultShrinkerLaw$Sim" "made" "[[I", Cond.fieldLink RX5 24 "FaultShrinkerLaw$Sim" "steps" "[[I", Cond.fieldLink RX5 92 "FaultShrinkerLaw$Sim" "all" "I"]
def wsL_act_r11 : List Cond := [Cond.methodLink RX5 85 yX5_search, Cond.instanceMethod yX5_search, Cond.selects RX5 yX5_search yX5_search, Cond.code yX5_search cX5_search 2 (some (.array .int)), Cond.methodLink RX5 81 yX5_whole, Cond.instanceMethod yX5_whole, Cond.selects RX5 yX5_whole yX5_whole, Cond.code yX5_whole cX5_whole 3 (some (.array .int)), Cond.fieldLink RX5 7 "FaultShrinkerLaw$Sim" "kinds" "[I", Cond.methodLink RX5 61 yX5_taste, Cond.instanceMethod yX5_taste, Cond.selects RX5 yX5_taste yX5_taste, Cond.code yX5_taste cX5_taste 7 (some .boolean), Cond.methodLink RX5 45 yX5_isSame, Cond.static yX5_isSame, Cond.code yX5_isSame cX5_isSame 3 (some .boolean), Cond.methodLink RX5 49 yX5_more, Cond.methodLink RX5 53 yX5_spoils, Cond.instanceMethod yX5_spoils, Cond.selects RX5 yX5_spoils yX5_spoils, Cond.code yX5_spoils cX5_spoils 4 (some .boolean), Cond.fieldLink RX5 14 "FaultShrinkerLaw$Sim" "rules" "[[I", Cond.methodLink RX5 37 yX5_kindsOf, Cond.instanceMethod yX5_kindsOf]
def wsL_act_r12 : List Cond := [Cond.selects RX5 yX5_kindsOf yX5_kindsOf, Cond.code yX5_kindsOf cX5_kindsOf 4 (some (.array .int)), Cond.methodLink RX5 41 yX5_holds, Cond.instanceMethod yX5_holds, Cond.selects RX5 yX5_holds yX5_holds, Cond.code yX5_holds cX5_holds 6 (some .boolean), Cond.methodLink RX5 33 yX5_has, Cond.static yX5_has, Cond.code yX5_has cX5_has 6 (some .boolean), Cond.methodLink RX5 68 yX5_halve, Cond.instanceMethod yX5_halve, Cond.selects RX5 yX5_halve yX5_halve, Cond.code yX5_halve cX5_halve 6 (some (.array .int)), Cond.methodLink RX5 75 Lib.Math.min.name, Cond.methodLink RX5 57 yX5_piece, Cond.static yX5_piece, Cond.code yX5_piece cX5_piece 5 (some (.array .int)), Cond.methodLink RX5 64 yX5_bits, Cond.static yX5_bits, Cond.code yX5_bits cX5_bits 6 (some .int), Cond.methodLink RX5 72 yX5_rest]
def wsL_act : List Cond := .codeWith yL_act cL_act 12 (some .boolean) [(392, 448, 449, 53)] :: ((wsL_act_r1 ++ (wsL_act_r2 ++ (wsL_act_r3 ++ (wsL_act_r4 ++ (wsL_act_r5 ++ (wsL_act_r6 ++ (wsL_act_r7 ++ (wsL_act_r8 ++ (wsL_act_r9 ++ (wsL_act_r10 ++ (wsL_act_r11 ++ wsL_act_r12))))))))))) ++ wsX50 ++ wsX40 ++ wsX00 ++ wsX10 ++ wsX20 ++ wsX30 ++ (vx_atS RX4 50 "java/lang/IndexOutOfBoundsException" ["java/lang/RuntimeException", "java/lang/Exception"]).filter goodWord ++ (vx_atS RX4 61 "java/lang/IllegalStateException" ["java/lang/RuntimeException", "java/lang/Exception"]).filter goodWord)
def wsL_build : List Cond := .code yL_build cL_build 5 (some (.object "FaultShrinkerLaw$Sim")) :: ([.classLink RL 16 RX5, .instantiable RX5 9, .initialized RX5, .constant RL 64 (100000), .instanceMethod yX5_init, .methodLink RL 60 yL_cell, .static yL_cell, .initialized RL, .methodLink RL 9 yL_below, .static yL_below, .methodLink RL 65 yL_act, .static yL_act] ++ wsX5_init ++ wsL_cell ++ wsL_below ++ wsL_act)
theorem inJ6 : ∀ w ∈ wsJ60, w ∈ lw_tbl := by decide +kernel
theorem inJ9 : ∀ w ∈ wsJ90, w ∈ lw_tbl := by decide +kernel
theorem inJ0 : ∀ w ∈ wsJ00, w ∈ lw_tbl := by decide +kernel
theorem dX0_init_0 : decode cX0_init 0 = .ok (.aload_n 0, 1) := by decide +kernel
theorem dX0_init_1 : decode cX0_init 1 = .ok (.invokespecial 3, 3) := by decide +kernel
theorem dX0_init_4 : decode cX0_init 4 = .ok (.aload_n 0, 1) := by decide +kernel
theorem dX0_init_5 : decode cX0_init 5 = .ok (.bipush 24, 2) := by decide +kernel
theorem dX0_init_7 : decode cX0_init 7 = .ok (.newarray .int, 2) := by decide +kernel
theorem dX0_init_9 : decode cX0_init 9 = .ok (.putfield 9, 3) := by decide +kernel
theorem dX0_init_12 : decode cX0_init 12 = .ok (.return_, 1) := by decide +kernel
theorem dX0_size_0 : decode cX0_size 0 = .ok (.aload_n 0, 1) := by decide +kernel
theorem dX0_size_1 : decode cX0_size 1 = .ok (.getfield 15, 3) := by decide +kernel
theorem dX0_size_4 : decode cX0_size 4 = .ok (.ireturn, 1) := by decide +kernel
theorem dX0_isFull_0 : decode cX0_isFull 0 = .ok (.aload_n 0, 1) := by decide +kernel
theorem dX0_isFull_1 : decode cX0_isFull 1 = .ok (.getfield 15, 3) := by decide +kernel
theorem dX0_isFull_4 : decode cX0_isFull 4 = .ok (.aload_n 0, 1) := by decide +kernel
theorem dX0_isFull_5 : decode cX0_isFull 5 = .ok (.getfield 9, 3) := by decide +kernel
theorem dX0_isFull_8 : decode cX0_isFull 8 = .ok (.arraylength, 1) := by decide +kernel
theorem dX0_isFull_9 : decode cX0_isFull 9 = .ok (.if_icmp .lt 7, 3) := by decide +kernel
theorem dX0_isFull_12 : decode cX0_isFull 12 = .ok (.iconst 1, 1) := by decide +kernel
theorem dX0_isFull_13 : decode cX0_isFull 13 = .ok (.goto 4, 3) := by decide +kernel
theorem dX0_isFull_16 : decode cX0_isFull 16 = .ok (.iconst 0, 1) := by decide +kernel
theorem dX0_isFull_17 : decode cX0_isFull 17 = .ok (.ireturn, 1) := by decide +kernel
theorem dX0_hasPlace_0 : decode cX0_hasPlace 0 = .ok (.iload_n 1, 1) := by decide +kernel
theorem dX0_hasPlace_1 : decode cX0_hasPlace 1 = .ok (.ifCond .lt 15, 3) := by decide +kernel
theorem dX0_hasPlace_4 : decode cX0_hasPlace 4 = .ok (.iload_n 1, 1) := by decide +kernel
theorem dX0_hasPlace_5 : decode cX0_hasPlace 5 = .ok (.aload_n 0, 1) := by decide +kernel
theorem dX0_hasPlace_6 : decode cX0_hasPlace 6 = .ok (.getfield 15, 3) := by decide +kernel
theorem dX0_hasPlace_9 : decode cX0_hasPlace 9 = .ok (.if_icmp .ge 7, 3) := by decide +kernel
theorem dX0_hasPlace_12 : decode cX0_hasPlace 12 = .ok (.iconst 1, 1) := by decide +kernel
theorem dX0_hasPlace_13 : decode cX0_hasPlace 13 = .ok (.goto 4, 3) := by decide +kernel
theorem dX0_hasPlace_16 : decode cX0_hasPlace 16 = .ok (.iconst 0, 1) := by decide +kernel
theorem dX0_hasPlace_17 : decode cX0_hasPlace 17 = .ok (.ireturn, 1) := by decide +kernel
theorem dX0_hasDish_0 : decode cX0_hasDish 0 = .ok (.iload_n 1, 1) := by decide +kernel
theorem dX0_hasDish_1 : decode cX0_hasDish 1 = .ok (.ifCond .lt 16, 3) := by decide +kernel
theorem dX0_hasDish_4 : decode cX0_hasDish 4 = .ok (.iload_n 1, 1) := by decide +kernel
theorem dX0_hasDish_5 : decode cX0_hasDish 5 = .ok (.aload_n 0, 1) := by decide +kernel
theorem dX0_hasDish_6 : decode cX0_hasDish 6 = .ok (.getfield 15, 3) := by decide +kernel
theorem dX0_hasDish_9 : decode cX0_hasDish 9 = .ok (.ishr, 1) := by decide +kernel
theorem dX0_hasDish_10 : decode cX0_hasDish 10 = .ok (.ifCond .ne 7, 3) := by decide +kernel
theorem dX0_hasDish_13 : decode cX0_hasDish 13 = .ok (.iconst 1, 1) := by decide +kernel
theorem dX0_hasDish_14 : decode cX0_hasDish 14 = .ok (.goto 4, 3) := by decide +kernel
theorem dX0_hasDish_17 : decode cX0_hasDish 17 = .ok (.iconst 0, 1) := by decide +kernel
theorem dX0_hasDish_18 : decode cX0_hasDish 18 = .ok (.ireturn, 1) := by decide +kernel
theorem dX0_wholeDish_0 : decode cX0_wholeDish 0 = .ok (.iconst 1, 1) := by decide +kernel
theorem dX0_wholeDish_1 : decode cX0_wholeDish 1 = .ok (.aload_n 0, 1) := by decide +kernel
theorem dX0_wholeDish_2 : decode cX0_wholeDish 2 = .ok (.getfield 15, 3) := by decide +kernel
theorem dX0_wholeDish_5 : decode cX0_wholeDish 5 = .ok (.ishl, 1) := by decide +kernel
theorem dX0_wholeDish_6 : decode cX0_wholeDish 6 = .ok (.iconst 1, 1) := by decide +kernel
theorem dX0_wholeDish_7 : decode cX0_wholeDish 7 = .ok (.isub, 1) := by decide +kernel
theorem dX0_wholeDish_8 : decode cX0_wholeDish 8 = .ok (.ireturn, 1) := by decide +kernel
set_option maxRecDepth 20000 in
theorem ggX0_kindAt_X0_hasPlace : GoodIn wsX0_kindAt wsX0_hasPlace := goodIn_r _ [6, 7, 8, 9] (by decide +kernel) (by decide +kernel)
set_option maxRecDepth 20000 in
theorem gX0_kindAt_X0_hasPlace : GoodIn wsX0_kindAt (wsV RX0 19 RX0 yX0_hasPlace wsX0_hasPlace) := goodIn_app (goodIn_of _ (by decide +kernel)) ggX0_kindAt_X0_hasPlace
theorem dX0_kindAt_0 : decode cX0_kindAt 0 = .ok (.aload_n 0, 1) := by decide +kernel
theorem dX0_kindAt_1 : decode cX0_kindAt 1 = .ok (.iload_n 1, 1) := by decide +kernel
theorem dX0_kindAt_2 : decode cX0_kindAt 2 = .ok (.invokevirtual 19, 3) := by decide +kernel
theorem dX0_kindAt_5 : decode cX0_kindAt 5 = .ok (.ifCond .eq 12, 3) := by decide +kernel
theorem dX0_kindAt_8 : decode cX0_kindAt 8 = .ok (.aload_n 0, 1) := by decide +kernel
theorem dX0_kindAt_9 : decode cX0_kindAt 9 = .ok (.getfield 9, 3) := by decide +kernel
theorem dX0_kindAt_12 : decode cX0_kindAt 12 = .ok (.iload_n 1, 1) := by decide +kernel
theorem dX0_kindAt_13 : decode cX0_kindAt 13 = .ok (.iaload, 1) := by decide +kernel
theorem dX0_kindAt_14 : decode cX0_kindAt 14 = .ok (.goto 4, 3) := by decide +kernel
theorem dX0_kindAt_17 : decode cX0_kindAt 17 = .ok (.iconst (-1), 1) := by decide +kernel
theorem dX0_kindAt_18 : decode cX0_kindAt 18 = .ok (.ireturn, 1) := by decide +kernel
set_option maxRecDepth 20000 in
theorem ggX0_append_X0_isFull : GoodIn wsX0_append wsX0_isFull := goodIn_r _ [7, 2, 1, 8, 9] (by decide +kernel) (by decide +kernel)
set_option maxRecDepth 20000 in
theorem gX0_append_X0_isFull : GoodIn wsX0_append (wsV RX0 23 RX0 yX0_isFull wsX0_isFull) := goodIn_app (goodIn_of _ (by decide +kernel)) ggX0_append_X0_isFull
theorem dX0_append_0 : decode cX0_append 0 = .ok (.aload_n 0, 1) := by decide +kernel
theorem dX0_append_1 : decode cX0_append 1 = .ok (.invokevirtual 23, 3) := by decide +kernel
theorem dX0_append_4 : decode cX0_append 4 = .ok (.ifCond .ne 23, 3) := by decide +kernel
theorem dX0_append_7 : decode cX0_append 7 = .ok (.aload_n 0, 1) := by decide +kernel
theorem dX0_append_8 : decode cX0_append 8 = .ok (.getfield 9, 3) := by decide +kernel
theorem dX0_append_11 : decode cX0_append 11 = .ok (.aload_n 0, 1) := by decide +kernel
theorem dX0_append_12 : decode cX0_append 12 = .ok (.getfield 15, 3) := by decide +kernel
theorem dX0_append_15 : decode cX0_append 15 = .ok (.iload_n 1, 1) := by decide +kernel
theorem dX0_append_16 : decode cX0_append 16 = .ok (.iastore, 1) := by decide +kernel
theorem dX0_append_17 : decode cX0_append 17 = .ok (.aload_n 0, 1) := by decide +kernel
theorem dX0_append_18 : decode cX0_append 18 = .ok (.dup, 1) := by decide +kernel
theorem dX0_append_19 : decode cX0_append 19 = .ok (.getfield 15, 3) := by decide +kernel
theorem dX0_append_22 : decode cX0_append 22 = .ok (.iconst 1, 1) := by decide +kernel
theorem dX0_append_23 : decode cX0_append 23 = .ok (.iadd, 1) := by decide +kernel
theorem dX0_append_24 : decode cX0_append 24 = .ok (.putfield 15, 3) := by decide +kernel
theorem dX0_append_27 : decode cX0_append 27 = .ok (.return_, 1) := by decide +kernel
set_option maxRecDepth 20000 in
theorem ggX0_takeOut_X0_hasPlace : GoodIn wsX0_takeOut wsX0_hasPlace := goodIn_r _ [7, 1, 8, 9] (by decide +kernel) (by decide +kernel)
set_option maxRecDepth 20000 in
theorem gX0_takeOut_X0_hasPlace : GoodIn wsX0_takeOut (wsV RX0 19 RX0 yX0_hasPlace wsX0_hasPlace) := goodIn_app (goodIn_of _ (by decide +kernel)) ggX0_takeOut_X0_hasPlace
theorem dX0_takeOut_0 : decode cX0_takeOut 0 = .ok (.aload_n 0, 1) := by decide +kernel
theorem dX0_takeOut_1 : decode cX0_takeOut 1 = .ok (.iload_n 1, 1) := by decide +kernel
theorem dX0_takeOut_2 : decode cX0_takeOut 2 = .ok (.invokevirtual 19, 3) := by decide +kernel
theorem dX0_takeOut_5 : decode cX0_takeOut 5 = .ok (.ifCond .ne 4, 3) := by decide +kernel
theorem dX0_takeOut_8 : decode cX0_takeOut 8 = .ok (.return_, 1) := by decide +kernel
theorem dX0_takeOut_9 : decode cX0_takeOut 9 = .ok (.iload_n 1, 1) := by decide +kernel
theorem dX0_takeOut_10 : decode cX0_takeOut 10 = .ok (.istore_n 2, 1) := by decide +kernel
theorem dX0_takeOut_11 : decode cX0_takeOut 11 = .ok (.iload_n 2, 1) := by decide +kernel
theorem dX0_takeOut_12 : decode cX0_takeOut 12 = .ok (.iconst 1, 1) := by decide +kernel
theorem dX0_takeOut_13 : decode cX0_takeOut 13 = .ok (.iadd, 1) := by decide +kernel
theorem dX0_takeOut_14 : decode cX0_takeOut 14 = .ok (.aload_n 0, 1) := by decide +kernel
theorem dX0_takeOut_15 : decode cX0_takeOut 15 = .ok (.getfield 15, 3) := by decide +kernel
theorem dX0_takeOut_18 : decode cX0_takeOut 18 = .ok (.if_icmp .ge 23, 3) := by decide +kernel
theorem dX0_takeOut_21 : decode cX0_takeOut 21 = .ok (.aload_n 0, 1) := by decide +kernel
theorem dX0_takeOut_22 : decode cX0_takeOut 22 = .ok (.getfield 9, 3) := by decide +kernel
theorem dX0_takeOut_25 : decode cX0_takeOut 25 = .ok (.iload_n 2, 1) := by decide +kernel
theorem dX0_takeOut_26 : decode cX0_takeOut 26 = .ok (.aload_n 0, 1) := by decide +kernel
theorem dX0_takeOut_27 : decode cX0_takeOut 27 = .ok (.getfield 9, 3) := by decide +kernel
theorem dX0_takeOut_30 : decode cX0_takeOut 30 = .ok (.iload_n 2, 1) := by decide +kernel
theorem dX0_takeOut_31 : decode cX0_takeOut 31 = .ok (.iconst 1, 1) := by decide +kernel
theorem dX0_takeOut_32 : decode cX0_takeOut 32 = .ok (.iadd, 1) := by decide +kernel
theorem dX0_takeOut_33 : decode cX0_takeOut 33 = .ok (.iaload, 1) := by decide +kernel
theorem dX0_takeOut_34 : decode cX0_takeOut 34 = .ok (.iastore, 1) := by decide +kernel
theorem dX0_takeOut_35 : decode cX0_takeOut 35 = .ok (.iinc 2 1, 3) := by decide +kernel
theorem dX0_takeOut_38 : decode cX0_takeOut 38 = .ok (.goto (-27), 3) := by decide +kernel
theorem dX0_takeOut_41 : decode cX0_takeOut 41 = .ok (.aload_n 0, 1) := by decide +kernel
theorem dX0_takeOut_42 : decode cX0_takeOut 42 = .ok (.dup, 1) := by decide +kernel
theorem dX0_takeOut_43 : decode cX0_takeOut 43 = .ok (.getfield 15, 3) := by decide +kernel
theorem dX0_takeOut_46 : decode cX0_takeOut 46 = .ok (.iconst 1, 1) := by decide +kernel
theorem dX0_takeOut_47 : decode cX0_takeOut 47 = .ok (.isub, 1) := by decide +kernel
theorem dX0_takeOut_48 : decode cX0_takeOut 48 = .ok (.putfield 15, 3) := by decide +kernel
theorem dX0_takeOut_51 : decode cX0_takeOut 51 = .ok (.return_, 1) := by decide +kernel
theorem dX0_kindsOf_0 : decode cX0_kindsOf 0 = .ok (.iconst 0, 1) := by decide +kernel
theorem dX0_kindsOf_1 : decode cX0_kindsOf 1 = .ok (.istore_n 2, 1) := by decide +kernel
theorem dX0_kindsOf_2 : decode cX0_kindsOf 2 = .ok (.iconst 0, 1) := by decide +kernel
theorem dX0_kindsOf_3 : decode cX0_kindsOf 3 = .ok (.istore_n 3, 1) := by decide +kernel
theorem dX0_kindsOf_4 : decode cX0_kindsOf 4 = .ok (.iload_n 3, 1) := by decide +kernel
theorem dX0_kindsOf_5 : decode cX0_kindsOf 5 = .ok (.aload_n 0, 1) := by decide +kernel
theorem dX0_kindsOf_6 : decode cX0_kindsOf 6 = .ok (.getfield 15, 3) := by decide +kernel
theorem dX0_kindsOf_9 : decode cX0_kindsOf 9 = .ok (.if_icmp .ge 28, 3) := by decide +kernel
theorem dX0_kindsOf_12 : decode cX0_kindsOf 12 = .ok (.iload_n 1, 1) := by decide +kernel
theorem dX0_kindsOf_13 : decode cX0_kindsOf 13 = .ok (.iload_n 3, 1) := by decide +kernel
theorem dX0_kindsOf_14 : decode cX0_kindsOf 14 = .ok (.ishr, 1) := by decide +kernel
theorem dX0_kindsOf_15 : decode cX0_kindsOf 15 = .ok (.iconst 1, 1) := by decide +kernel
theorem dX0_kindsOf_16 : decode cX0_kindsOf 16 = .ok (.iand, 1) := by decide +kernel
theorem dX0_kindsOf_17 : decode cX0_kindsOf 17 = .ok (.ifCond .eq 14, 3) := by decide +kernel
theorem dX0_kindsOf_20 : decode cX0_kindsOf 20 = .ok (.iload_n 2, 1) := by decide +kernel
theorem dX0_kindsOf_21 : decode cX0_kindsOf 21 = .ok (.iconst 1, 1) := by decide +kernel
theorem dX0_kindsOf_22 : decode cX0_kindsOf 22 = .ok (.aload_n 0, 1) := by decide +kernel
theorem dX0_kindsOf_23 : decode cX0_kindsOf 23 = .ok (.getfield 9, 3) := by decide +kernel
theorem dX0_kindsOf_26 : decode cX0_kindsOf 26 = .ok (.iload_n 3, 1) := by decide +kernel
theorem dX0_kindsOf_27 : decode cX0_kindsOf 27 = .ok (.iaload, 1) := by decide +kernel
theorem dX0_kindsOf_28 : decode cX0_kindsOf 28 = .ok (.ishl, 1) := by decide +kernel
theorem dX0_kindsOf_29 : decode cX0_kindsOf 29 = .ok (.ior, 1) := by decide +kernel
theorem dX0_kindsOf_30 : decode cX0_kindsOf 30 = .ok (.istore_n 2, 1) := by decide +kernel
theorem dX0_kindsOf_31 : decode cX0_kindsOf 31 = .ok (.iinc 3 1, 3) := by decide +kernel
theorem dX0_kindsOf_34 : decode cX0_kindsOf 34 = .ok (.goto (-30), 3) := by decide +kernel
theorem dX0_kindsOf_37 : decode cX0_kindsOf 37 = .ok (.iload_n 2, 1) := by decide +kernel
theorem dX0_kindsOf_38 : decode cX0_kindsOf 38 = .ok (.ireturn, 1) := by decide +kernel
theorem dX1_init_0 : decode cX1_init 0 = .ok (.aload_n 0, 1) := by decide +kernel
theorem dX1_init_1 : decode cX1_init 1 = .ok (.invokespecial 3, 3) := by decide +kernel
theorem dX1_init_4 : decode cX1_init 4 = .ok (.aload_n 0, 1) := by decide +kernel
theorem dX1_init_5 : decode cX1_init 5 = .ok (.bipush 6, 2) := by decide +kernel
theorem dX1_init_7 : decode cX1_init 7 = .ok (.newarray .int, 2) := by decide +kernel
theorem dX1_init_9 : decode cX1_init 9 = .ok (.putfield 9, 3) := by decide +kernel
theorem dX1_init_12 : decode cX1_init 12 = .ok (.aload_n 0, 1) := by decide +kernel
theorem dX1_init_13 : decode cX1_init 13 = .ok (.bipush 6, 2) := by decide +kernel
theorem dX1_init_15 : decode cX1_init 15 = .ok (.newarray .int, 2) := by decide +kernel
theorem dX1_init_17 : decode cX1_init 17 = .ok (.putfield 15, 3) := by decide +kernel
theorem dX1_init_20 : decode cX1_init 20 = .ok (.return_, 1) := by decide +kernel
theorem dX1_size_0 : decode cX1_size 0 = .ok (.aload_n 0, 1) := by decide +kernel
theorem dX1_size_1 : decode cX1_size 1 = .ok (.getfield 18, 3) := by decide +kernel
theorem dX1_size_4 : decode cX1_size 4 = .ok (.ireturn, 1) := by decide +kernel
theorem dX1_isFull_0 : decode cX1_isFull 0 = .ok (.aload_n 0, 1) := by decide +kernel
theorem dX1_isFull_1 : decode cX1_isFull 1 = .ok (.getfield 18, 3) := by decide +kernel
theorem dX1_isFull_4 : decode cX1_isFull 4 = .ok (.bipush 6, 2) := by decide +kernel
theorem dX1_isFull_6 : decode cX1_isFull 6 = .ok (.if_icmp .lt 7, 3) := by decide +kernel
theorem dX1_isFull_9 : decode cX1_isFull 9 = .ok (.iconst 1, 1) := by decide +kernel
theorem dX1_isFull_10 : decode cX1_isFull 10 = .ok (.goto 4, 3) := by decide +kernel
theorem dX1_isFull_13 : decode cX1_isFull 13 = .ok (.iconst 0, 1) := by decide +kernel
theorem dX1_isFull_14 : decode cX1_isFull 14 = .ok (.ireturn, 1) := by decide +kernel
theorem dX1_hasRule_0 : decode cX1_hasRule 0 = .ok (.iload_n 1, 1) := by decide +kernel
theorem dX1_hasRule_1 : decode cX1_hasRule 1 = .ok (.ifCond .lt 15, 3) := by decide +kernel
theorem dX1_hasRule_4 : decode cX1_hasRule 4 = .ok (.iload_n 1, 1) := by decide +kernel
theorem dX1_hasRule_5 : decode cX1_hasRule 5 = .ok (.aload_n 0, 1) := by decide +kernel
theorem dX1_hasRule_6 : decode cX1_hasRule 6 = .ok (.getfield 18, 3) := by decide +kernel
theorem dX1_hasRule_9 : decode cX1_hasRule 9 = .ok (.if_icmp .ge 7, 3) := by decide +kernel
theorem dX1_hasRule_12 : decode cX1_hasRule 12 = .ok (.iconst 1, 1) := by decide +kernel
theorem dX1_hasRule_13 : decode cX1_hasRule 13 = .ok (.goto 4, 3) := by decide +kernel
theorem dX1_hasRule_16 : decode cX1_hasRule 16 = .ok (.iconst 0, 1) := by decide +kernel
theorem dX1_hasRule_17 : decode cX1_hasRule 17 = .ok (.ireturn, 1) := by decide +kernel
set_option maxRecDepth 20000 in
theorem ggX1_append_X1_isFull : GoodIn wsX1_append wsX1_isFull := goodIn_r _ [6, 1, 7, 8, 9] (by decide +kernel) (by decide +kernel)
set_option maxRecDepth 20000 in
theorem gX1_append_X1_isFull : GoodIn wsX1_append (wsV RX1 22 RX1 yX1_isFull wsX1_isFull) := goodIn_app (goodIn_of _ (by decide +kernel)) ggX1_append_X1_isFull
theorem dX1_append_0 : decode cX1_append 0 = .ok (.aload_n 0, 1) := by decide +kernel
theorem dX1_append_1 : decode cX1_append 1 = .ok (.invokevirtual 22, 3) := by decide +kernel
theorem dX1_append_4 : decode cX1_append 4 = .ok (.ifCond .ne 13, 3) := by decide +kernel
theorem dX1_append_7 : decode cX1_append 7 = .ok (.aload_n 0, 1) := by decide +kernel
theorem dX1_append_8 : decode cX1_append 8 = .ok (.dup, 1) := by decide +kernel
theorem dX1_append_9 : decode cX1_append 9 = .ok (.getfield 18, 3) := by decide +kernel
theorem dX1_append_12 : decode cX1_append 12 = .ok (.iconst 1, 1) := by decide +kernel
theorem dX1_append_13 : decode cX1_append 13 = .ok (.iadd, 1) := by decide +kernel
theorem dX1_append_14 : decode cX1_append 14 = .ok (.putfield 18, 3) := by decide +kernel
theorem dX1_append_17 : decode cX1_append 17 = .ok (.return_, 1) := by decide +kernel
set_option maxRecDepth 20000 in
theorem ggX1_neededBy_X1_hasRule : GoodIn wsX1_neededBy wsX1_hasRule := goodIn_r _ [6, 7, 8, 9, 10] (by decide +kernel) (by decide +kernel)
set_option maxRecDepth 20000 in
theorem gX1_neededBy_X1_hasRule : GoodIn wsX1_neededBy (wsV RX1 26 RX1 yX1_hasRule wsX1_hasRule) := goodIn_app (goodIn_of _ (by decide +kernel)) ggX1_neededBy_X1_hasRule
theorem dX1_neededBy_0 : decode cX1_neededBy 0 = .ok (.aload_n 0, 1) := by decide +kernel
theorem dX1_neededBy_1 : decode cX1_neededBy 1 = .ok (.iload_n 1, 1) := by decide +kernel
theorem dX1_neededBy_2 : decode cX1_neededBy 2 = .ok (.invokevirtual 26, 3) := by decide +kernel
theorem dX1_neededBy_5 : decode cX1_neededBy 5 = .ok (.ifCond .eq 12, 3) := by decide +kernel
theorem dX1_neededBy_8 : decode cX1_neededBy 8 = .ok (.aload_n 0, 1) := by decide +kernel
theorem dX1_neededBy_9 : decode cX1_neededBy 9 = .ok (.getfield 9, 3) := by decide +kernel
theorem dX1_neededBy_12 : decode cX1_neededBy 12 = .ok (.iload_n 1, 1) := by decide +kernel
theorem dX1_neededBy_13 : decode cX1_neededBy 13 = .ok (.iaload, 1) := by decide +kernel
theorem dX1_neededBy_14 : decode cX1_neededBy 14 = .ok (.goto 4, 3) := by decide +kernel
theorem dX1_neededBy_17 : decode cX1_neededBy 17 = .ok (.iconst 0, 1) := by decide +kernel
theorem dX1_neededBy_18 : decode cX1_neededBy 18 = .ok (.ireturn, 1) := by decide +kernel
set_option maxRecDepth 20000 in
theorem ggX1_sparedBy_X1_hasRule : GoodIn wsX1_sparedBy wsX1_hasRule := goodIn_r _ [6, 7, 8, 9, 10] (by decide +kernel) (by decide +kernel)
set_option maxRecDepth 20000 in
theorem gX1_sparedBy_X1_hasRule : GoodIn wsX1_sparedBy (wsV RX1 26 RX1 yX1_hasRule wsX1_hasRule) := goodIn_app (goodIn_of _ (by decide +kernel)) ggX1_sparedBy_X1_hasRule
theorem dX1_sparedBy_0 : decode cX1_sparedBy 0 = .ok (.aload_n 0, 1) := by decide +kernel
theorem dX1_sparedBy_1 : decode cX1_sparedBy 1 = .ok (.iload_n 1, 1) := by decide +kernel
theorem dX1_sparedBy_2 : decode cX1_sparedBy 2 = .ok (.invokevirtual 26, 3) := by decide +kernel
theorem dX1_sparedBy_5 : decode cX1_sparedBy 5 = .ok (.ifCond .eq 12, 3) := by decide +kernel
theorem dX1_sparedBy_8 : decode cX1_sparedBy 8 = .ok (.aload_n 0, 1) := by decide +kernel
theorem dX1_sparedBy_9 : decode cX1_sparedBy 9 = .ok (.getfield 15, 3) := by decide +kernel
theorem dX1_sparedBy_12 : decode cX1_sparedBy 12 = .ok (.iload_n 1, 1) := by decide +kernel
theorem dX1_sparedBy_13 : decode cX1_sparedBy 13 = .ok (.iaload, 1) := by decide +kernel
theorem dX1_sparedBy_14 : decode cX1_sparedBy 14 = .ok (.goto 4, 3) := by decide +kernel
theorem dX1_sparedBy_17 : decode cX1_sparedBy 17 = .ok (.iconst 0, 1) := by decide +kernel
theorem dX1_sparedBy_18 : decode cX1_sparedBy 18 = .ok (.ireturn, 1) := by decide +kernel
set_option maxRecDepth 20000 in
theorem ggX1_putNeeded_X1_hasRule : GoodIn wsX1_putNeeded wsX1_hasRule := goodIn_r _ [6, 7, 8, 9, 10] (by decide +kernel) (by decide +kernel)
set_option maxRecDepth 20000 in
theorem gX1_putNeeded_X1_hasRule : GoodIn wsX1_putNeeded (wsV RX1 26 RX1 yX1_hasRule wsX1_hasRule) := goodIn_app (goodIn_of _ (by decide +kernel)) ggX1_putNeeded_X1_hasRule
theorem dX1_putNeeded_0 : decode cX1_putNeeded 0 = .ok (.aload_n 0, 1) := by decide +kernel
theorem dX1_putNeeded_1 : decode cX1_putNeeded 1 = .ok (.iload_n 1, 1) := by decide +kernel
theorem dX1_putNeeded_2 : decode cX1_putNeeded 2 = .ok (.invokevirtual 26, 3) := by decide +kernel
theorem dX1_putNeeded_5 : decode cX1_putNeeded 5 = .ok (.ifCond .eq 10, 3) := by decide +kernel
theorem dX1_putNeeded_8 : decode cX1_putNeeded 8 = .ok (.aload_n 0, 1) := by decide +kernel
theorem dX1_putNeeded_9 : decode cX1_putNeeded 9 = .ok (.getfield 9, 3) := by decide +kernel
theorem dX1_putNeeded_12 : decode cX1_putNeeded 12 = .ok (.iload_n 1, 1) := by decide +kernel
theorem dX1_putNeeded_13 : decode cX1_putNeeded 13 = .ok (.iload_n 2, 1) := by decide +kernel
theorem dX1_putNeeded_14 : decode cX1_putNeeded 14 = .ok (.iastore, 1) := by decide +kernel
theorem dX1_putNeeded_15 : decode cX1_putNeeded 15 = .ok (.return_, 1) := by decide +kernel
set_option maxRecDepth 20000 in
theorem ggX1_putSpared_X1_hasRule : GoodIn wsX1_putSpared wsX1_hasRule := goodIn_r _ [6, 7, 8, 9, 10] (by decide +kernel) (by decide +kernel)
set_option maxRecDepth 20000 in
theorem gX1_putSpared_X1_hasRule : GoodIn wsX1_putSpared (wsV RX1 26 RX1 yX1_hasRule wsX1_hasRule) := goodIn_app (goodIn_of _ (by decide +kernel)) ggX1_putSpared_X1_hasRule
theorem dX1_putSpared_0 : decode cX1_putSpared 0 = .ok (.aload_n 0, 1) := by decide +kernel
theorem dX1_putSpared_1 : decode cX1_putSpared 1 = .ok (.iload_n 1, 1) := by decide +kernel
theorem dX1_putSpared_2 : decode cX1_putSpared 2 = .ok (.invokevirtual 26, 3) := by decide +kernel
theorem dX1_putSpared_5 : decode cX1_putSpared 5 = .ok (.ifCond .eq 10, 3) := by decide +kernel
theorem dX1_putSpared_8 : decode cX1_putSpared 8 = .ok (.aload_n 0, 1) := by decide +kernel
theorem dX1_putSpared_9 : decode cX1_putSpared 9 = .ok (.getfield 15, 3) := by decide +kernel
theorem dX1_putSpared_12 : decode cX1_putSpared 12 = .ok (.iload_n 1, 1) := by decide +kernel
theorem dX1_putSpared_13 : decode cX1_putSpared 13 = .ok (.iload_n 2, 1) := by decide +kernel
theorem dX1_putSpared_14 : decode cX1_putSpared 14 = .ok (.iastore, 1) := by decide +kernel
theorem dX1_putSpared_15 : decode cX1_putSpared 15 = .ok (.return_, 1) := by decide +kernel
theorem dX1_holds_0 : decode cX1_holds 0 = .ok (.iload_n 1, 1) := by decide +kernel
theorem dX1_holds_1 : decode cX1_holds 1 = .ok (.ifCond .lt 52, 3) := by decide +kernel
theorem dX1_holds_4 : decode cX1_holds 4 = .ok (.iload_n 1, 1) := by decide +kernel
theorem dX1_holds_5 : decode cX1_holds 5 = .ok (.aload_n 0, 1) := by decide +kernel
theorem dX1_holds_6 : decode cX1_holds 6 = .ok (.getfield 18, 3) := by decide +kernel
theorem dX1_holds_9 : decode cX1_holds 9 = .ok (.if_icmp .ge 44, 3) := by decide +kernel
theorem dX1_holds_12 : decode cX1_holds 12 = .ok (.aload_n 0, 1) := by decide +kernel
theorem dX1_holds_13 : decode cX1_holds 13 = .ok (.getfield 9, 3) := by decide +kernel
theorem dX1_holds_16 : decode cX1_holds 16 = .ok (.iload_n 1, 1) := by decide +kernel
theorem dX1_holds_17 : decode cX1_holds 17 = .ok (.iaload, 1) := by decide +kernel
theorem dX1_holds_18 : decode cX1_holds 18 = .ok (.ifCond .eq 35, 3) := by decide +kernel
theorem dX1_holds_21 : decode cX1_holds 21 = .ok (.iload_n 2, 1) := by decide +kernel
theorem dX1_holds_22 : decode cX1_holds 22 = .ok (.aload_n 0, 1) := by decide +kernel
theorem dX1_holds_23 : decode cX1_holds 23 = .ok (.getfield 9, 3) := by decide +kernel
theorem dX1_holds_26 : decode cX1_holds 26 = .ok (.iload_n 1, 1) := by decide +kernel
theorem dX1_holds_27 : decode cX1_holds 27 = .ok (.iaload, 1) := by decide +kernel
theorem dX1_holds_28 : decode cX1_holds 28 = .ok (.iand, 1) := by decide +kernel
theorem dX1_holds_29 : decode cX1_holds 29 = .ok (.aload_n 0, 1) := by decide +kernel
theorem dX1_holds_30 : decode cX1_holds 30 = .ok (.getfield 9, 3) := by decide +kernel
theorem dX1_holds_33 : decode cX1_holds 33 = .ok (.iload_n 1, 1) := by decide +kernel
theorem dX1_holds_34 : decode cX1_holds 34 = .ok (.iaload, 1) := by decide +kernel
theorem dX1_holds_35 : decode cX1_holds 35 = .ok (.if_icmp .ne 18, 3) := by decide +kernel
theorem dX1_holds_38 : decode cX1_holds 38 = .ok (.iload_n 2, 1) := by decide +kernel
theorem dX1_holds_39 : decode cX1_holds 39 = .ok (.aload_n 0, 1) := by decide +kernel
theorem dX1_holds_40 : decode cX1_holds 40 = .ok (.getfield 15, 3) := by decide +kernel
theorem dX1_holds_43 : decode cX1_holds 43 = .ok (.iload_n 1, 1) := by decide +kernel
theorem dX1_holds_44 : decode cX1_holds 44 = .ok (.iaload, 1) := by decide +kernel
theorem dX1_holds_45 : decode cX1_holds 45 = .ok (.iand, 1) := by decide +kernel
theorem dX1_holds_46 : decode cX1_holds 46 = .ok (.ifCond .ne 7, 3) := by decide +kernel
theorem dX1_holds_49 : decode cX1_holds 49 = .ok (.iconst 1, 1) := by decide +kernel
theorem dX1_holds_50 : decode cX1_holds 50 = .ok (.goto 4, 3) := by decide +kernel
theorem dX1_holds_53 : decode cX1_holds 53 = .ok (.iconst 0, 1) := by decide +kernel
theorem dX1_holds_54 : decode cX1_holds 54 = .ok (.ireturn, 1) := by decide +kernel
set_option maxRecDepth 20000 in
theorem ggX1_holding_X1_holds : GoodIn wsX1_holding wsX1_holds := goodIn_r _ [6, 1, 7, 8, 9, 10, 11] (by decide +kernel) (by decide +kernel)
set_option maxRecDepth 20000 in
theorem gX1_holding_X1_holds : GoodIn wsX1_holding (wsV RX1 30 RX1 yX1_holds wsX1_holds) := goodIn_app (goodIn_of _ (by decide +kernel)) ggX1_holding_X1_holds
theorem dX1_holding_0 : decode cX1_holding 0 = .ok (.iconst 0, 1) := by decide +kernel
theorem dX1_holding_1 : decode cX1_holding 1 = .ok (.istore_n 2, 1) := by decide +kernel
theorem dX1_holding_2 : decode cX1_holding 2 = .ok (.iconst 0, 1) := by decide +kernel
theorem dX1_holding_3 : decode cX1_holding 3 = .ok (.istore_n 3, 1) := by decide +kernel
theorem dX1_holding_4 : decode cX1_holding 4 = .ok (.iload_n 3, 1) := by decide +kernel
theorem dX1_holding_5 : decode cX1_holding 5 = .ok (.aload_n 0, 1) := by decide +kernel
theorem dX1_holding_6 : decode cX1_holding 6 = .ok (.getfield 18, 3) := by decide +kernel
theorem dX1_holding_9 : decode cX1_holding 9 = .ok (.if_icmp .ge 21, 3) := by decide +kernel
theorem dX1_holding_12 : decode cX1_holding 12 = .ok (.aload_n 0, 1) := by decide +kernel
theorem dX1_holding_13 : decode cX1_holding 13 = .ok (.iload_n 3, 1) := by decide +kernel
theorem dX1_holding_14 : decode cX1_holding 14 = .ok (.iload_n 1, 1) := by decide +kernel
theorem dX1_holding_15 : decode cX1_holding 15 = .ok (.invokevirtual 30, 3) := by decide +kernel
theorem dX1_holding_18 : decode cX1_holding 18 = .ok (.ifCond .eq 6, 3) := by decide +kernel
theorem dX1_holding_21 : decode cX1_holding 21 = .ok (.iinc 2 1, 3) := by decide +kernel
theorem dX1_holding_24 : decode cX1_holding 24 = .ok (.iinc 3 1, 3) := by decide +kernel
theorem dX1_holding_27 : decode cX1_holding 27 = .ok (.goto (-23), 3) := by decide +kernel
theorem dX1_holding_30 : decode cX1_holding 30 = .ok (.iload_n 2, 1) := by decide +kernel
theorem dX1_holding_31 : decode cX1_holding 31 = .ok (.ireturn, 1) := by decide +kernel
set_option maxRecDepth 20000 in
theorem ggX1_leastNeeded_J6_bitCount_0f7a4 : GoodIn wsX1_leastNeeded wsJ6_bitCount_0f7a4 := goodIn_r _ [6, 7, 8, 9] (by decide +kernel) (by decide +kernel)
set_option maxRecDepth 20000 in
theorem gX1_leastNeeded_J6_bitCount_0f7a4 : GoodIn wsX1_leastNeeded (va_wsS RX1 34 yJ6_bitCount_0f7a4 wsJ6_bitCount_0f7a4) := goodIn_app (goodIn_of _ (by decide +kernel)) ggX1_leastNeeded_J6_bitCount_0f7a4
theorem dX1_leastNeeded_0 : decode cX1_leastNeeded 0 = .ok (.iconst 0, 1) := by decide +kernel
theorem dX1_leastNeeded_1 : decode cX1_leastNeeded 1 = .ok (.istore_n 2, 1) := by decide +kernel
theorem dX1_leastNeeded_2 : decode cX1_leastNeeded 2 = .ok (.iconst 0, 1) := by decide +kernel
theorem dX1_leastNeeded_3 : decode cX1_leastNeeded 3 = .ok (.istore_n 3, 1) := by decide +kernel
theorem dX1_leastNeeded_4 : decode cX1_leastNeeded 4 = .ok (.iload_n 3, 1) := by decide +kernel
theorem dX1_leastNeeded_5 : decode cX1_leastNeeded 5 = .ok (.aload_n 0, 1) := by decide +kernel
theorem dX1_leastNeeded_6 : decode cX1_leastNeeded 6 = .ok (.getfield 18, 3) := by decide +kernel
theorem dX1_leastNeeded_9 : decode cX1_leastNeeded 9 = .ok (.if_icmp .ge 67, 3) := by decide +kernel
theorem dX1_leastNeeded_12 : decode cX1_leastNeeded 12 = .ok (.aload_n 0, 1) := by decide +kernel
theorem dX1_leastNeeded_13 : decode cX1_leastNeeded 13 = .ok (.getfield 9, 3) := by decide +kernel
theorem dX1_leastNeeded_16 : decode cX1_leastNeeded 16 = .ok (.iload_n 3, 1) := by decide +kernel
theorem dX1_leastNeeded_17 : decode cX1_leastNeeded 17 = .ok (.iaload, 1) := by decide +kernel
theorem dX1_leastNeeded_18 : decode cX1_leastNeeded 18 = .ok (.invokestatic 34, 3) := by decide +kernel
theorem dX1_leastNeeded_21 : decode cX1_leastNeeded 21 = .ok (.istore 4, 2) := by decide +kernel
theorem dX1_leastNeeded_23 : decode cX1_leastNeeded 23 = .ok (.iload 4, 2) := by decide +kernel
theorem dX1_leastNeeded_25 : decode cX1_leastNeeded 25 = .ok (.ifCond .le 24, 3) := by decide +kernel
theorem dX1_leastNeeded_28 : decode cX1_leastNeeded 28 = .ok (.iload_n 1, 1) := by decide +kernel
theorem dX1_leastNeeded_29 : decode cX1_leastNeeded 29 = .ok (.aload_n 0, 1) := by decide +kernel
theorem dX1_leastNeeded_30 : decode cX1_leastNeeded 30 = .ok (.getfield 9, 3) := by decide +kernel
theorem dX1_leastNeeded_33 : decode cX1_leastNeeded 33 = .ok (.iload_n 3, 1) := by decide +kernel
theorem dX1_leastNeeded_34 : decode cX1_leastNeeded 34 = .ok (.iaload, 1) := by decide +kernel
theorem dX1_leastNeeded_35 : decode cX1_leastNeeded 35 = .ok (.iand, 1) := by decide +kernel
theorem dX1_leastNeeded_36 : decode cX1_leastNeeded 36 = .ok (.aload_n 0, 1) := by decide +kernel
theorem dX1_leastNeeded_37 : decode cX1_leastNeeded 37 = .ok (.getfield 9, 3) := by decide +kernel
theorem dX1_leastNeeded_40 : decode cX1_leastNeeded 40 = .ok (.iload_n 3, 1) := by decide +kernel
theorem dX1_leastNeeded_41 : decode cX1_leastNeeded 41 = .ok (.iaload, 1) := by decide +kernel
theorem dX1_leastNeeded_42 : decode cX1_leastNeeded 42 = .ok (.if_icmp .ne 7, 3) := by decide +kernel
theorem dX1_leastNeeded_45 : decode cX1_leastNeeded 45 = .ok (.iconst 1, 1) := by decide +kernel
theorem dX1_leastNeeded_46 : decode cX1_leastNeeded 46 = .ok (.goto 4, 3) := by decide +kernel
theorem dX1_leastNeeded_49 : decode cX1_leastNeeded 49 = .ok (.iconst 0, 1) := by decide +kernel
theorem dX1_leastNeeded_50 : decode cX1_leastNeeded 50 = .ok (.istore 5, 2) := by decide +kernel
theorem dX1_leastNeeded_52 : decode cX1_leastNeeded 52 = .ok (.iload 5, 2) := by decide +kernel
theorem dX1_leastNeeded_54 : decode cX1_leastNeeded 54 = .ok (.ifCond .eq 16, 3) := by decide +kernel
theorem dX1_leastNeeded_57 : decode cX1_leastNeeded 57 = .ok (.iload_n 2, 1) := by decide +kernel
theorem dX1_leastNeeded_58 : decode cX1_leastNeeded 58 = .ok (.ifCond .eq 9, 3) := by decide +kernel
theorem dX1_leastNeeded_61 : decode cX1_leastNeeded 61 = .ok (.iload 4, 2) := by decide +kernel
theorem dX1_leastNeeded_63 : decode cX1_leastNeeded 63 = .ok (.iload_n 2, 1) := by decide +kernel
theorem dX1_leastNeeded_64 : decode cX1_leastNeeded 64 = .ok (.if_icmp .ge 6, 3) := by decide +kernel
theorem dX1_leastNeeded_67 : decode cX1_leastNeeded 67 = .ok (.iload 4, 2) := by decide +kernel
theorem dX1_leastNeeded_69 : decode cX1_leastNeeded 69 = .ok (.istore_n 2, 1) := by decide +kernel
theorem dX1_leastNeeded_70 : decode cX1_leastNeeded 70 = .ok (.iinc 3 1, 3) := by decide +kernel
theorem dX1_leastNeeded_73 : decode cX1_leastNeeded 73 = .ok (.goto (-69), 3) := by decide +kernel
theorem dX1_leastNeeded_76 : decode cX1_leastNeeded 76 = .ok (.iload_n 2, 1) := by decide +kernel
theorem dX1_leastNeeded_77 : decode cX1_leastNeeded 77 = .ok (.ireturn, 1) := by decide +kernel
theorem dX2_init_0 : decode cX2_init 0 = .ok (.aload_n 0, 1) := by decide +kernel
theorem dX2_init_1 : decode cX2_init 1 = .ok (.invokespecial 3, 3) := by decide +kernel
theorem dX2_init_4 : decode cX2_init 4 = .ok (.aload_n 0, 1) := by decide +kernel
theorem dX2_init_5 : decode cX2_init 5 = .ok (.sipush 640, 3) := by decide +kernel
theorem dX2_init_8 : decode cX2_init 8 = .ok (.newarray .int, 2) := by decide +kernel
theorem dX2_init_10 : decode cX2_init 10 = .ok (.putfield 11, 3) := by decide +kernel
theorem dX2_init_13 : decode cX2_init 13 = .ok (.aload_n 0, 1) := by decide +kernel
theorem dX2_init_14 : decode cX2_init 14 = .ok (.bipush 25, 2) := by decide +kernel
theorem dX2_init_16 : decode cX2_init 16 = .ok (.newarray .int, 2) := by decide +kernel
theorem dX2_init_18 : decode cX2_init 18 = .ok (.putfield 15, 3) := by decide +kernel
theorem dX2_init_21 : decode cX2_init 21 = .ok (.return_, 1) := by decide +kernel
theorem dX2_list_0 : decode cX2_list 0 = .ok (.aload_n 0, 1) := by decide +kernel
theorem dX2_list_1 : decode cX2_list 1 = .ok (.getfield 18, 3) := by decide +kernel
theorem dX2_list_4 : decode cX2_list 4 = .ok (.ireturn, 1) := by decide +kernel
set_option maxRecDepth 20000 in
theorem ggX2_listSize_J6_bitCount_0f7a4 : GoodIn wsX2_listSize wsJ6_bitCount_0f7a4 := goodIn_r _ [5, 6, 7, 8] (by decide +kernel) (by decide +kernel)
set_option maxRecDepth 20000 in
theorem gX2_listSize_J6_bitCount_0f7a4 : GoodIn wsX2_listSize (va_wsS RX2 22 yJ6_bitCount_0f7a4 wsJ6_bitCount_0f7a4) := goodIn_app (goodIn_of _ (by decide +kernel)) ggX2_listSize_J6_bitCount_0f7a4
theorem dX2_listSize_0 : decode cX2_listSize 0 = .ok (.aload_n 0, 1) := by decide +kernel
theorem dX2_listSize_1 : decode cX2_listSize 1 = .ok (.getfield 18, 3) := by decide +kernel
theorem dX2_listSize_4 : decode cX2_listSize 4 = .ok (.invokestatic 22, 3) := by decide +kernel
theorem dX2_listSize_7 : decode cX2_listSize 7 = .ok (.ireturn, 1) := by decide +kernel
theorem dX2_steps_0 : decode cX2_steps 0 = .ok (.aload_n 0, 1) := by decide +kernel
theorem dX2_steps_1 : decode cX2_steps 1 = .ok (.getfield 28, 3) := by decide +kernel
theorem dX2_steps_4 : decode cX2_steps 4 = .ok (.ireturn, 1) := by decide +kernel
theorem dX2_tastings_0 : decode cX2_tastings 0 = .ok (.aload_n 0, 1) := by decide +kernel
theorem dX2_tastings_1 : decode cX2_tastings 1 = .ok (.getfield 31, 3) := by decide +kernel
theorem dX2_tastings_4 : decode cX2_tastings 4 = .ok (.ireturn, 1) := by decide +kernel
theorem dX2_listPlace_0 : decode cX2_listPlace 0 = .ok (.iconst 0, 1) := by decide +kernel
theorem dX2_listPlace_1 : decode cX2_listPlace 1 = .ok (.istore_n 2, 1) := by decide +kernel
theorem dX2_listPlace_2 : decode cX2_listPlace 2 = .ok (.iconst 0, 1) := by decide +kernel
theorem dX2_listPlace_3 : decode cX2_listPlace 3 = .ok (.istore_n 3, 1) := by decide +kernel
theorem dX2_listPlace_4 : decode cX2_listPlace 4 = .ok (.iload_n 3, 1) := by decide +kernel
theorem dX2_listPlace_5 : decode cX2_listPlace 5 = .ok (.bipush 24, 2) := by decide +kernel
theorem dX2_listPlace_7 : decode cX2_listPlace 7 = .ok (.if_icmp .ge 52, 3) := by decide +kernel
theorem dX2_listPlace_10 : decode cX2_listPlace 10 = .ok (.aload_n 0, 1) := by decide +kernel
theorem dX2_listPlace_11 : decode cX2_listPlace 11 = .ok (.getfield 18, 3) := by decide +kernel
theorem dX2_listPlace_14 : decode cX2_listPlace 14 = .ok (.iload_n 3, 1) := by decide +kernel
theorem dX2_listPlace_15 : decode cX2_listPlace 15 = .ok (.ishr, 1) := by decide +kernel
theorem dX2_listPlace_16 : decode cX2_listPlace 16 = .ok (.iconst 1, 1) := by decide +kernel
theorem dX2_listPlace_17 : decode cX2_listPlace 17 = .ok (.iand, 1) := by decide +kernel
theorem dX2_listPlace_18 : decode cX2_listPlace 18 = .ok (.ifCond .eq 7, 3) := by decide +kernel
theorem dX2_listPlace_21 : decode cX2_listPlace 21 = .ok (.iconst 1, 1) := by decide +kernel
theorem dX2_listPlace_22 : decode cX2_listPlace 22 = .ok (.goto 4, 3) := by decide +kernel
theorem dX2_listPlace_25 : decode cX2_listPlace 25 = .ok (.iconst 0, 1) := by decide +kernel
theorem dX2_listPlace_26 : decode cX2_listPlace 26 = .ok (.istore 4, 2) := by decide +kernel
theorem dX2_listPlace_28 : decode cX2_listPlace 28 = .ok (.iload 4, 2) := by decide +kernel
theorem dX2_listPlace_30 : decode cX2_listPlace 30 = .ok (.ifCond .eq 10, 3) := by decide +kernel
theorem dX2_listPlace_33 : decode cX2_listPlace 33 = .ok (.iload_n 2, 1) := by decide +kernel
theorem dX2_listPlace_34 : decode cX2_listPlace 34 = .ok (.iload_n 1, 1) := by decide +kernel
theorem dX2_listPlace_35 : decode cX2_listPlace 35 = .ok (.if_icmp .ne 5, 3) := by decide +kernel
theorem dX2_listPlace_38 : decode cX2_listPlace 38 = .ok (.iload_n 3, 1) := by decide +kernel
theorem dX2_listPlace_39 : decode cX2_listPlace 39 = .ok (.ireturn, 1) := by decide +kernel
theorem dX2_listPlace_40 : decode cX2_listPlace 40 = .ok (.iload_n 2, 1) := by decide +kernel
theorem dX2_listPlace_41 : decode cX2_listPlace 41 = .ok (.iload 4, 2) := by decide +kernel
theorem dX2_listPlace_43 : decode cX2_listPlace 43 = .ok (.ifCond .eq 7, 3) := by decide +kernel
theorem dX2_listPlace_46 : decode cX2_listPlace 46 = .ok (.iconst 1, 1) := by decide +kernel
theorem dX2_listPlace_47 : decode cX2_listPlace 47 = .ok (.goto 4, 3) := by decide +kernel
theorem dX2_listPlace_50 : decode cX2_listPlace 50 = .ok (.iconst 0, 1) := by decide +kernel
theorem dX2_listPlace_51 : decode cX2_listPlace 51 = .ok (.iadd, 1) := by decide +kernel
theorem dX2_listPlace_52 : decode cX2_listPlace 52 = .ok (.istore_n 2, 1) := by decide +kernel
theorem dX2_listPlace_53 : decode cX2_listPlace 53 = .ok (.iinc 3 1, 3) := by decide +kernel
theorem dX2_listPlace_56 : decode cX2_listPlace 56 = .ok (.goto (-52), 3) := by decide +kernel
theorem dX2_listPlace_59 : decode cX2_listPlace 59 = .ok (.iconst (-1), 1) := by decide +kernel
theorem dX2_listPlace_60 : decode cX2_listPlace 60 = .ok (.ireturn, 1) := by decide +kernel
theorem dX2_stepFact_0 : decode cX2_stepFact 0 = .ok (.iload_n 1, 1) := by decide +kernel
theorem dX2_stepFact_1 : decode cX2_stepFact 1 = .ok (.ifCond .lt 24, 3) := by decide +kernel
theorem dX2_stepFact_4 : decode cX2_stepFact 4 = .ok (.iload_n 1, 1) := by decide +kernel
theorem dX2_stepFact_5 : decode cX2_stepFact 5 = .ok (.aload_n 0, 1) := by decide +kernel
theorem dX2_stepFact_6 : decode cX2_stepFact 6 = .ok (.getfield 28, 3) := by decide +kernel
theorem dX2_stepFact_9 : decode cX2_stepFact 9 = .ok (.if_icmp .ge 16, 3) := by decide +kernel
theorem dX2_stepFact_12 : decode cX2_stepFact 12 = .ok (.iload_n 2, 1) := by decide +kernel
theorem dX2_stepFact_13 : decode cX2_stepFact 13 = .ok (.ifCond .lt 12, 3) := by decide +kernel
theorem dX2_stepFact_16 : decode cX2_stepFact 16 = .ok (.iload_n 2, 1) := by decide +kernel
theorem dX2_stepFact_17 : decode cX2_stepFact 17 = .ok (.iconst 5, 1) := by decide +kernel
theorem dX2_stepFact_18 : decode cX2_stepFact 18 = .ok (.if_icmp .ge 7, 3) := by decide +kernel
theorem dX2_stepFact_21 : decode cX2_stepFact 21 = .ok (.iconst 1, 1) := by decide +kernel
theorem dX2_stepFact_22 : decode cX2_stepFact 22 = .ok (.goto 4, 3) := by decide +kernel
theorem dX2_stepFact_25 : decode cX2_stepFact 25 = .ok (.iconst 0, 1) := by decide +kernel
theorem dX2_stepFact_26 : decode cX2_stepFact 26 = .ok (.istore_n 3, 1) := by decide +kernel
theorem dX2_stepFact_27 : decode cX2_stepFact 27 = .ok (.iload_n 3, 1) := by decide +kernel
theorem dX2_stepFact_28 : decode cX2_stepFact 28 = .ok (.ifCond .eq 16, 3) := by decide +kernel
theorem dX2_stepFact_31 : decode cX2_stepFact 31 = .ok (.aload_n 0, 1) := by decide +kernel
theorem dX2_stepFact_32 : decode cX2_stepFact 32 = .ok (.getfield 11, 3) := by decide +kernel
theorem dX2_stepFact_35 : decode cX2_stepFact 35 = .ok (.iload_n 1, 1) := by decide +kernel
theorem dX2_stepFact_36 : decode cX2_stepFact 36 = .ok (.iconst 5, 1) := by decide +kernel
theorem dX2_stepFact_37 : decode cX2_stepFact 37 = .ok (.imul, 1) := by decide +kernel
theorem dX2_stepFact_38 : decode cX2_stepFact 38 = .ok (.iload_n 2, 1) := by decide +kernel
theorem dX2_stepFact_39 : decode cX2_stepFact 39 = .ok (.iadd, 1) := by decide +kernel
theorem dX2_stepFact_40 : decode cX2_stepFact 40 = .ok (.iaload, 1) := by decide +kernel
theorem dX2_stepFact_41 : decode cX2_stepFact 41 = .ok (.goto 4, 3) := by decide +kernel
theorem dX2_stepFact_44 : decode cX2_stepFact 44 = .ok (.iconst 0, 1) := by decide +kernel
theorem dX2_stepFact_45 : decode cX2_stepFact 45 = .ok (.ireturn, 1) := by decide +kernel
set_option maxRecDepth 20000 in
theorem ggX2_goByHalves_X2_begin : GoodIn wsX2_goByHalves wsX2_begin := goodIn_r _ [6, 7, 8, 9, 10, 11, 12, 13, 14, 15, 16, 17, 18, 19, 20, 21, 22, 23, 24, 25, 26, 27, 28, 29, 30, 31, 32, 33, 34, 35, 36, 37, 38, 39, 40, 41, 42, 43, 44, 45, 46, 47, 92, 93, 94, 95, 96, 97, 98, 99, 100, 101, 102, 103, 104, 105, 106, 107] (by decide +kernel) (by decide +kernel)
set_option maxRecDepth 20000 in
theorem gX2_goByHalves_X2_begin : GoodIn wsX2_goByHalves (wsV RX2 34 RX2 yX2_begin wsX2_begin) := goodIn_app (goodIn_of _ (by decide +kernel)) ggX2_goByHalves_X2_begin
set_option maxRecDepth 20000 in
theorem ggX2_goByHalves_X2_makeStep : GoodIn wsX2_goByHalves wsX2_makeStep := goodIn_r _ [51, 7, 8, 52, 53, 54, 55, 56, 57, 58, 59, 60, 61, 62, 63, 64, 65, 66, 67, 68, 5, 69, 70, 71, 72, 73, 74, 75, 76, 77, 78, 17, 18, 19, 13, 20, 16, 21, 22, 23, 24, 25, 26, 15, 27, 28, 29, 30, 31, 32, 33, 34, 35, 36, 37, 38, 39, 40, 41, 42, 43, 44, 45, 46, 47, 79, 80, 81, 82, 9, 83, 84, 85, 86, 87, 92, 93, 94, 95, 96, 97, 98, 99, 100, 101, 102, 103, 104, 105, 106, 107] (by decide +kernel) (by decide +kernel)
set_option maxRecDepth 20000 in
theorem gX2_goByHalves_X2_makeStep : GoodIn wsX2_goByHalves (wsV RX2 38 RX2 yX2_makeStep wsX2_makeStep) := goodIn_app (goodIn_of _ (by decide +kernel)) ggX2_goByHalves_X2_makeStep
set_option maxRecDepth 20000 in
theorem ggX2_goByHalves_X3_tastings : GoodIn wsX2_goByHalves wsX3_tastings := goodIn_r _ [91, 16, 98, 99, 100, 101, 102] (by decide +kernel) (by decide +kernel)
set_option maxRecDepth 20000 in
theorem gX2_goByHalves_X3_tastings : GoodIn wsX2_goByHalves (wsV RX2 42 RX3 yX3_tastings wsX3_tastings) := goodIn_app (goodIn_of _ (by decide +kernel)) ggX2_goByHalves_X3_tastings
theorem dX2_goByHalves_0 : decode cX2_goByHalves 0 = .ok (.aload_n 0, 1) := by decide +kernel
theorem dX2_goByHalves_1 : decode cX2_goByHalves 1 = .ok (.aload_n 1, 1) := by decide +kernel
theorem dX2_goByHalves_2 : decode cX2_goByHalves 2 = .ok (.iload_n 2, 1) := by decide +kernel
theorem dX2_goByHalves_3 : decode cX2_goByHalves 3 = .ok (.invokevirtual 34, 3) := by decide +kernel
theorem dX2_goByHalves_6 : decode cX2_goByHalves 6 = .ok (.istore_n 3, 1) := by decide +kernel
theorem dX2_goByHalves_7 : decode cX2_goByHalves 7 = .ok (.iconst 0, 1) := by decide +kernel
theorem dX2_goByHalves_8 : decode cX2_goByHalves 8 = .ok (.istore 4, 2) := by decide +kernel
theorem dX2_goByHalves_10 : decode cX2_goByHalves 10 = .ok (.iload_n 3, 1) := by decide +kernel
theorem dX2_goByHalves_11 : decode cX2_goByHalves 11 = .ok (.ifCond .eq 23, 3) := by decide +kernel
theorem dX2_goByHalves_14 : decode cX2_goByHalves 14 = .ok (.iload 4, 2) := by decide +kernel
theorem dX2_goByHalves_16 : decode cX2_goByHalves 16 = .ok (.sipush 128, 3) := by decide +kernel
theorem dX2_goByHalves_19 : decode cX2_goByHalves 19 = .ok (.if_icmp .ge 15, 3) := by decide +kernel
theorem dX2_goByHalves_22 : decode cX2_goByHalves 22 = .ok (.aload_n 0, 1) := by decide +kernel
theorem dX2_goByHalves_23 : decode cX2_goByHalves 23 = .ok (.aload_n 1, 1) := by decide +kernel
theorem dX2_goByHalves_24 : decode cX2_goByHalves 24 = .ok (.invokevirtual 38, 3) := by decide +kernel
theorem dX2_goByHalves_27 : decode cX2_goByHalves 27 = .ok (.istore_n 3, 1) := by decide +kernel
theorem dX2_goByHalves_28 : decode cX2_goByHalves 28 = .ok (.iinc 4 1, 3) := by decide +kernel
theorem dX2_goByHalves_31 : decode cX2_goByHalves 31 = .ok (.goto (-21), 3) := by decide +kernel
theorem dX2_goByHalves_34 : decode cX2_goByHalves 34 = .ok (.aload_n 0, 1) := by decide +kernel
theorem dX2_goByHalves_35 : decode cX2_goByHalves 35 = .ok (.aload_n 1, 1) := by decide +kernel
theorem dX2_goByHalves_36 : decode cX2_goByHalves 36 = .ok (.invokevirtual 42, 3) := by decide +kernel
theorem dX2_goByHalves_39 : decode cX2_goByHalves 39 = .ok (.putfield 31, 3) := by decide +kernel
theorem dX2_goByHalves_42 : decode cX2_goByHalves 42 = .ok (.return_, 1) := by decide +kernel
set_option maxRecDepth 20000 in
theorem ggX2_goOneByOne_X2_begin : GoodIn wsX2_goOneByOne wsX2_begin := goodIn_r _ [7, 1, 8, 9, 10, 11, 12, 13, 14, 15, 16, 17, 18, 19, 20, 21, 22, 23, 24, 25, 26, 27, 28, 29, 30, 31, 32, 33, 34, 35, 36, 37, 38, 39, 40, 41, 42, 43, 44, 45, 46, 47, 52, 53, 54, 55, 56, 57, 58, 59, 60, 61, 62, 63, 64, 65, 66, 67] (by decide +kernel) (by decide +kernel)
set_option maxRecDepth 20000 in
theorem gX2_goOneByOne_X2_begin : GoodIn wsX2_goOneByOne (wsV RX2 34 RX2 yX2_begin wsX2_begin) := goodIn_app (goodIn_of _ (by decide +kernel)) ggX2_goOneByOne_X2_begin
set_option maxRecDepth 20000 in
theorem ggX2_goOneByOne_X3_looksSpoiled : GoodIn wsX2_goOneByOne wsX3_looksSpoiled := goodIn_r _ [20, 16, 21, 22, 23, 24, 25, 13, 26, 15, 27, 28, 29, 30, 31, 32, 33, 34, 35, 36, 37, 38, 39, 40, 41, 42, 43, 44, 45, 46, 47, 58, 59, 60, 61, 62, 63, 64, 65, 66, 67] (by decide +kernel) (by decide +kernel)
set_option maxRecDepth 20000 in
theorem gX2_goOneByOne_X3_looksSpoiled : GoodIn wsX2_goOneByOne (wsV RX2 47 RX3 yX3_looksSpoiled wsX3_looksSpoiled) := goodIn_app (goodIn_of _ (by decide +kernel)) ggX2_goOneByOne_X3_looksSpoiled
set_option maxRecDepth 20000 in
theorem ggX2_goOneByOne_X3_tastings : GoodIn wsX2_goOneByOne wsX3_tastings := goodIn_r _ [51, 16, 58, 59, 60, 61, 62] (by decide +kernel) (by decide +kernel)
set_option maxRecDepth 20000 in
theorem gX2_goOneByOne_X3_tastings : GoodIn wsX2_goOneByOne (wsV RX2 42 RX3 yX3_tastings wsX3_tastings) := goodIn_app (goodIn_of _ (by decide +kernel)) ggX2_goOneByOne_X3_tastings
theorem dX2_goOneByOne_0 : decode cX2_goOneByOne 0 = .ok (.aload_n 0, 1) := by decide +kernel
theorem dX2_goOneByOne_1 : decode cX2_goOneByOne 1 = .ok (.aload_n 1, 1) := by decide +kernel
theorem dX2_goOneByOne_2 : decode cX2_goOneByOne 2 = .ok (.iload_n 2, 1) := by decide +kernel
theorem dX2_goOneByOne_3 : decode cX2_goOneByOne 3 = .ok (.invokevirtual 34, 3) := by decide +kernel
theorem dX2_goOneByOne_6 : decode cX2_goOneByOne 6 = .ok (.istore_n 3, 1) := by decide +kernel
theorem dX2_goOneByOne_7 : decode cX2_goOneByOne 7 = .ok (.bipush 23, 2) := by decide +kernel
theorem dX2_goOneByOne_9 : decode cX2_goOneByOne 9 = .ok (.istore 4, 2) := by decide +kernel
theorem dX2_goOneByOne_11 : decode cX2_goOneByOne 11 = .ok (.iload_n 3, 1) := by decide +kernel
theorem dX2_goOneByOne_12 : decode cX2_goOneByOne 12 = .ok (.ifCond .eq 56, 3) := by decide +kernel
theorem dX2_goOneByOne_15 : decode cX2_goOneByOne 15 = .ok (.iload 4, 2) := by decide +kernel
theorem dX2_goOneByOne_17 : decode cX2_goOneByOne 17 = .ok (.ifCond .lt 51, 3) := by decide +kernel
theorem dX2_goOneByOne_20 : decode cX2_goOneByOne 20 = .ok (.aload_n 0, 1) := by decide +kernel
theorem dX2_goOneByOne_21 : decode cX2_goOneByOne 21 = .ok (.getfield 18, 3) := by decide +kernel
theorem dX2_goOneByOne_24 : decode cX2_goOneByOne 24 = .ok (.iconst 1, 1) := by decide +kernel
theorem dX2_goOneByOne_25 : decode cX2_goOneByOne 25 = .ok (.iload 4, 2) := by decide +kernel
theorem dX2_goOneByOne_27 : decode cX2_goOneByOne 27 = .ok (.ishl, 1) := by decide +kernel
theorem dX2_goOneByOne_28 : decode cX2_goOneByOne 28 = .ok (.iconst (-1), 1) := by decide +kernel
theorem dX2_goOneByOne_29 : decode cX2_goOneByOne 29 = .ok (.ixor, 1) := by decide +kernel
theorem dX2_goOneByOne_30 : decode cX2_goOneByOne 30 = .ok (.iand, 1) := by decide +kernel
theorem dX2_goOneByOne_31 : decode cX2_goOneByOne 31 = .ok (.istore 5, 2) := by decide +kernel
theorem dX2_goOneByOne_33 : decode cX2_goOneByOne 33 = .ok (.iload 5, 2) := by decide +kernel
theorem dX2_goOneByOne_35 : decode cX2_goOneByOne 35 = .ok (.aload_n 0, 1) := by decide +kernel
theorem dX2_goOneByOne_36 : decode cX2_goOneByOne 36 = .ok (.getfield 18, 3) := by decide +kernel
theorem dX2_goOneByOne_39 : decode cX2_goOneByOne 39 = .ok (.if_icmp .eq 23, 3) := by decide +kernel
theorem dX2_goOneByOne_42 : decode cX2_goOneByOne 42 = .ok (.iload 5, 2) := by decide +kernel
theorem dX2_goOneByOne_44 : decode cX2_goOneByOne 44 = .ok (.ifCond .eq 18, 3) := by decide +kernel
theorem dX2_goOneByOne_47 : decode cX2_goOneByOne 47 = .ok (.aload_n 1, 1) := by decide +kernel
theorem dX2_goOneByOne_48 : decode cX2_goOneByOne 48 = .ok (.iload 5, 2) := by decide +kernel
theorem dX2_goOneByOne_50 : decode cX2_goOneByOne 50 = .ok (.invokevirtual 47, 3) := by decide +kernel
theorem dX2_goOneByOne_53 : decode cX2_goOneByOne 53 = .ok (.ifCond .eq 9, 3) := by decide +kernel
theorem dX2_goOneByOne_56 : decode cX2_goOneByOne 56 = .ok (.aload_n 0, 1) := by decide +kernel
theorem dX2_goOneByOne_57 : decode cX2_goOneByOne 57 = .ok (.iload 5, 2) := by decide +kernel
theorem dX2_goOneByOne_59 : decode cX2_goOneByOne 59 = .ok (.putfield 18, 3) := by decide +kernel
theorem dX2_goOneByOne_62 : decode cX2_goOneByOne 62 = .ok (.iinc 4 (-1), 3) := by decide +kernel
theorem dX2_goOneByOne_65 : decode cX2_goOneByOne 65 = .ok (.goto (-54), 3) := by decide +kernel
theorem dX2_goOneByOne_68 : decode cX2_goOneByOne 68 = .ok (.aload_n 0, 1) := by decide +kernel
theorem dX2_goOneByOne_69 : decode cX2_goOneByOne 69 = .ok (.aload_n 1, 1) := by decide +kernel
theorem dX2_goOneByOne_70 : decode cX2_goOneByOne 70 = .ok (.invokevirtual 42, 3) := by decide +kernel
theorem dX2_goOneByOne_73 : decode cX2_goOneByOne 73 = .ok (.putfield 31, 3) := by decide +kernel
theorem dX2_goOneByOne_76 : decode cX2_goOneByOne 76 = .ok (.return_, 1) := by decide +kernel
set_option maxRecDepth 20000 in
theorem ggX2_begin_X3_begin : GoodIn wsX2_begin wsX3_begin := goodIn_r _ [8, 9, 10, 48, 49, 50, 51, 52] (by decide +kernel) (by decide +kernel)
set_option maxRecDepth 20000 in
theorem gX2_begin_X3_begin : GoodIn wsX2_begin (wsV RX2 51 RX3 yX3_begin wsX3_begin) := goodIn_app (goodIn_of _ (by decide +kernel)) ggX2_begin_X3_begin
set_option maxRecDepth 20000 in
theorem ggX2_begin_X3_looksSpoiled : GoodIn wsX2_begin wsX3_looksSpoiled := goodIn_r _ [14, 10, 15, 16, 17, 18, 19, 7, 20, 9, 21, 22, 23, 24, 25, 26, 27, 28, 29, 30, 31, 32, 33, 34, 35, 36, 37, 38, 39, 40, 41, 48, 49, 50, 51, 52, 53, 54, 55, 56, 57] (by decide +kernel) (by decide +kernel)
set_option maxRecDepth 20000 in
theorem gX2_begin_X3_looksSpoiled : GoodIn wsX2_begin (wsV RX2 47 RX3 yX3_looksSpoiled wsX3_looksSpoiled) := goodIn_app (goodIn_of _ (by decide +kernel)) ggX2_begin_X3_looksSpoiled
theorem dX2_begin_0 : decode cX2_begin 0 = .ok (.aload_n 1, 1) := by decide +kernel
theorem dX2_begin_1 : decode cX2_begin 1 = .ok (.invokevirtual 51, 3) := by decide +kernel
theorem dX2_begin_4 : decode cX2_begin 4 = .ok (.aload_n 1, 1) := by decide +kernel
theorem dX2_begin_5 : decode cX2_begin 5 = .ok (.iload_n 2, 1) := by decide +kernel
theorem dX2_begin_6 : decode cX2_begin 6 = .ok (.invokevirtual 47, 3) := by decide +kernel
theorem dX2_begin_9 : decode cX2_begin 9 = .ok (.istore_n 3, 1) := by decide +kernel
theorem dX2_begin_10 : decode cX2_begin 10 = .ok (.aload_n 0, 1) := by decide +kernel
theorem dX2_begin_11 : decode cX2_begin 11 = .ok (.iload_n 3, 1) := by decide +kernel
theorem dX2_begin_12 : decode cX2_begin 12 = .ok (.ifCond .eq 7, 3) := by decide +kernel
theorem dX2_begin_15 : decode cX2_begin 15 = .ok (.iload_n 2, 1) := by decide +kernel
theorem dX2_begin_16 : decode cX2_begin 16 = .ok (.goto 4, 3) := by decide +kernel
theorem dX2_begin_19 : decode cX2_begin 19 = .ok (.iconst 0, 1) := by decide +kernel
theorem dX2_begin_20 : decode cX2_begin 20 = .ok (.putfield 18, 3) := by decide +kernel
theorem dX2_begin_23 : decode cX2_begin 23 = .ok (.aload_n 0, 1) := by decide +kernel
theorem dX2_begin_24 : decode cX2_begin 24 = .ok (.iconst 2, 1) := by decide +kernel
theorem dX2_begin_25 : decode cX2_begin 25 = .ok (.putfield 53, 3) := by decide +kernel
theorem dX2_begin_28 : decode cX2_begin 28 = .ok (.aload_n 0, 1) := by decide +kernel
theorem dX2_begin_29 : decode cX2_begin 29 = .ok (.iconst 0, 1) := by decide +kernel
theorem dX2_begin_30 : decode cX2_begin 30 = .ok (.putfield 28, 3) := by decide +kernel
theorem dX2_begin_33 : decode cX2_begin 33 = .ok (.iload_n 3, 1) := by decide +kernel
theorem dX2_begin_34 : decode cX2_begin 34 = .ok (.ireturn, 1) := by decide +kernel
set_option maxRecDepth 20000 in
theorem ggX2_makeStep_J6_bitCount_0f7a4 : GoodIn wsX2_makeStep wsJ6_bitCount_0f7a4 := goodIn_r _ [13, 14, 15, 16] (by decide +kernel) (by decide +kernel)
set_option maxRecDepth 20000 in
theorem gX2_makeStep_J6_bitCount_0f7a4 : GoodIn wsX2_makeStep (va_wsS RX2 22 yJ6_bitCount_0f7a4 wsJ6_bitCount_0f7a4) := goodIn_app (goodIn_of _ (by decide +kernel)) ggX2_makeStep_J6_bitCount_0f7a4
set_option maxRecDepth 20000 in
theorem ggX2_makeStep_X2_countPlaces : GoodIn wsX2_makeStep wsX2_countPlaces := goodIn_r _ [21, 1, 22, 75, 76, 77, 78, 79, 80] (by decide +kernel) (by decide +kernel)
set_option maxRecDepth 20000 in
theorem gX2_makeStep_X2_countPlaces : GoodIn wsX2_makeStep (wsV RX2 56 RX2 yX2_countPlaces wsX2_countPlaces) := goodIn_app (goodIn_of _ (by decide +kernel)) ggX2_makeStep_X2_countPlaces
set_option maxRecDepth 20000 in
theorem ggX2_makeStep_X2_firstSpoiledPart : GoodIn wsX2_makeStep wsX2_firstSpoiledPart := goodIn_r _ [26, 2, 27, 28, 29, 20, 30, 22, 31, 32, 33, 34, 35, 36, 37, 38, 39, 40, 41, 42, 43, 44, 45, 46, 47, 48, 49, 50, 51, 52, 53, 54, 55, 56, 57, 58, 59, 60, 61, 62, 63, 64, 75, 76, 77, 78, 79, 80, 81, 82, 83, 84, 85, 86, 87, 88, 89, 90] (by decide +kernel) (by decide +kernel)
set_option maxRecDepth 20000 in
theorem gX2_makeStep_X2_firstSpoiledPart : GoodIn wsX2_makeStep (wsV RX2 59 RX2 yX2_firstSpoiledPart wsX2_firstSpoiledPart) := goodIn_app (goodIn_of _ (by decide +kernel)) ggX2_makeStep_X2_firstSpoiledPart
set_option maxRecDepth 20000 in
theorem ggX2_makeStep_X2_partAt : GoodIn wsX2_makeStep wsX2_partAt := goodIn_r _ [30, 2, 22, 75, 76, 77, 78, 79, 80] (by decide +kernel) (by decide +kernel)
set_option maxRecDepth 20000 in
theorem gX2_makeStep_X2_partAt : GoodIn wsX2_makeStep (wsV RX2 63 RX2 yX2_partAt wsX2_partAt) := goodIn_app (goodIn_of _ (by decide +kernel)) ggX2_makeStep_X2_partAt
set_option maxRecDepth 20000 in
theorem ggX2_makeStep_X2_note : GoodIn wsX2_makeStep wsX2_note := goodIn_r _ [68, 69, 70, 2, 1, 75, 76, 77, 78, 79, 80] (by decide +kernel) (by decide +kernel)
set_option maxRecDepth 20000 in
theorem gX2_makeStep_X2_note : GoodIn wsX2_makeStep (wsV RX2 67 RX2 yX2_note wsX2_note) := goodIn_app (goodIn_of _ (by decide +kernel)) ggX2_makeStep_X2_note
set_option maxRecDepth 20000 in
theorem ggX2_makeStep_X2_firstSparedPart : GoodIn wsX2_makeStep wsX2_firstSparedPart := goodIn_r _ [74, 2, 1, 27, 28, 29, 20, 30, 22, 31, 32, 33, 34, 35, 36, 37, 38, 39, 40, 41, 42, 43, 44, 45, 46, 47, 48, 49, 50, 51, 52, 53, 54, 55, 56, 57, 58, 59, 60, 61, 62, 63, 64, 75, 76, 77, 78, 79, 80, 81, 82, 83, 84, 85, 86, 87, 88, 89, 90] (by decide +kernel) (by decide +kernel)
set_option maxRecDepth 20000 in
theorem gX2_makeStep_X2_firstSparedPart : GoodIn wsX2_makeStep (wsV RX2 71 RX2 yX2_firstSparedPart wsX2_firstSparedPart) := goodIn_app (goodIn_of _ (by decide +kernel)) ggX2_makeStep_X2_firstSparedPart
theorem dX2_makeStep_0 : decode cX2_makeStep 0 = .ok (.aload_n 0, 1) := by decide +kernel
theorem dX2_makeStep_1 : decode cX2_makeStep 1 = .ok (.getfield 18, 3) := by decide +kernel
theorem dX2_makeStep_4 : decode cX2_makeStep 4 = .ok (.invokestatic 22, 3) := by decide +kernel
theorem dX2_makeStep_7 : decode cX2_makeStep 7 = .ok (.istore_n 2, 1) := by decide +kernel
theorem dX2_makeStep_8 : decode cX2_makeStep 8 = .ok (.iload_n 2, 1) := by decide +kernel
theorem dX2_makeStep_9 : decode cX2_makeStep 9 = .ok (.iconst 1, 1) := by decide +kernel
theorem dX2_makeStep_10 : decode cX2_makeStep 10 = .ok (.if_icmp .gt 5, 3) := by decide +kernel
theorem dX2_makeStep_13 : decode cX2_makeStep 13 = .ok (.iconst 0, 1) := by decide +kernel
theorem dX2_makeStep_14 : decode cX2_makeStep 14 = .ok (.ireturn, 1) := by decide +kernel
theorem dX2_makeStep_15 : decode cX2_makeStep 15 = .ok (.aload_n 0, 1) := by decide +kernel
theorem dX2_makeStep_16 : decode cX2_makeStep 16 = .ok (.invokevirtual 56, 3) := by decide +kernel
theorem dX2_makeStep_19 : decode cX2_makeStep 19 = .ok (.aload_n 0, 1) := by decide +kernel
theorem dX2_makeStep_20 : decode cX2_makeStep 20 = .ok (.aload_n 1, 1) := by decide +kernel
theorem dX2_makeStep_21 : decode cX2_makeStep 21 = .ok (.iload_n 2, 1) := by decide +kernel
theorem dX2_makeStep_22 : decode cX2_makeStep 22 = .ok (.invokevirtual 59, 3) := by decide +kernel
theorem dX2_makeStep_25 : decode cX2_makeStep 25 = .ok (.istore_n 3, 1) := by decide +kernel
theorem dX2_makeStep_26 : decode cX2_makeStep 26 = .ok (.iload_n 3, 1) := by decide +kernel
theorem dX2_makeStep_27 : decode cX2_makeStep 27 = .ok (.ifCond .lt 23, 3) := by decide +kernel
theorem dX2_makeStep_30 : decode cX2_makeStep 30 = .ok (.aload_n 0, 1) := by decide +kernel
theorem dX2_makeStep_31 : decode cX2_makeStep 31 = .ok (.iload_n 2, 1) := by decide +kernel
theorem dX2_makeStep_32 : decode cX2_makeStep 32 = .ok (.iconst 1, 1) := by decide +kernel
theorem dX2_makeStep_33 : decode cX2_makeStep 33 = .ok (.iload_n 3, 1) := by decide +kernel
theorem dX2_makeStep_34 : decode cX2_makeStep 34 = .ok (.aload_n 0, 1) := by decide +kernel
theorem dX2_makeStep_35 : decode cX2_makeStep 35 = .ok (.iload_n 3, 1) := by decide +kernel
theorem dX2_makeStep_36 : decode cX2_makeStep 36 = .ok (.iload_n 2, 1) := by decide +kernel
theorem dX2_makeStep_37 : decode cX2_makeStep 37 = .ok (.invokevirtual 63, 3) := by decide +kernel
theorem dX2_makeStep_40 : decode cX2_makeStep 40 = .ok (.invokevirtual 67, 3) := by decide +kernel
theorem dX2_makeStep_43 : decode cX2_makeStep 43 = .ok (.aload_n 0, 1) := by decide +kernel
theorem dX2_makeStep_44 : decode cX2_makeStep 44 = .ok (.iconst 2, 1) := by decide +kernel
theorem dX2_makeStep_45 : decode cX2_makeStep 45 = .ok (.putfield 53, 3) := by decide +kernel
theorem dX2_makeStep_48 : decode cX2_makeStep 48 = .ok (.iconst 1, 1) := by decide +kernel
theorem dX2_makeStep_49 : decode cX2_makeStep 49 = .ok (.ireturn, 1) := by decide +kernel
theorem dX2_makeStep_50 : decode cX2_makeStep 50 = .ok (.aload_n 0, 1) := by decide +kernel
theorem dX2_makeStep_51 : decode cX2_makeStep 51 = .ok (.getfield 53, 3) := by decide +kernel
theorem dX2_makeStep_54 : decode cX2_makeStep 54 = .ok (.iconst 2, 1) := by decide +kernel
theorem dX2_makeStep_55 : decode cX2_makeStep 55 = .ok (.if_icmp .le 12, 3) := by decide +kernel
theorem dX2_makeStep_58 : decode cX2_makeStep 58 = .ok (.aload_n 0, 1) := by decide +kernel
theorem dX2_makeStep_59 : decode cX2_makeStep 59 = .ok (.aload_n 1, 1) := by decide +kernel
theorem dX2_makeStep_60 : decode cX2_makeStep 60 = .ok (.iload_n 2, 1) := by decide +kernel
theorem dX2_makeStep_61 : decode cX2_makeStep 61 = .ok (.invokevirtual 71, 3) := by decide +kernel
theorem dX2_makeStep_64 : decode cX2_makeStep 64 = .ok (.goto 4, 3) := by decide +kernel
theorem dX2_makeStep_67 : decode cX2_makeStep 67 = .ok (.iconst (-1), 1) := by decide +kernel
theorem dX2_makeStep_68 : decode cX2_makeStep 68 = .ok (.istore 4, 2) := by decide +kernel
theorem dX2_makeStep_70 : decode cX2_makeStep 70 = .ok (.iload 4, 2) := by decide +kernel
theorem dX2_makeStep_72 : decode cX2_makeStep 72 = .ok (.ifCond .lt 41, 3) := by decide +kernel
theorem dX2_makeStep_75 : decode cX2_makeStep 75 = .ok (.aload_n 0, 1) := by decide +kernel
theorem dX2_makeStep_76 : decode cX2_makeStep 76 = .ok (.iload_n 2, 1) := by decide +kernel
theorem dX2_makeStep_77 : decode cX2_makeStep 77 = .ok (.iconst 2, 1) := by decide +kernel
theorem dX2_makeStep_78 : decode cX2_makeStep 78 = .ok (.iload 4, 2) := by decide +kernel
theorem dX2_makeStep_80 : decode cX2_makeStep 80 = .ok (.aload_n 0, 1) := by decide +kernel
theorem dX2_makeStep_81 : decode cX2_makeStep 81 = .ok (.getfield 18, 3) := by decide +kernel
theorem dX2_makeStep_84 : decode cX2_makeStep 84 = .ok (.aload_n 0, 1) := by decide +kernel
theorem dX2_makeStep_85 : decode cX2_makeStep 85 = .ok (.iload 4, 2) := by decide +kernel
theorem dX2_makeStep_87 : decode cX2_makeStep 87 = .ok (.iload_n 2, 1) := by decide +kernel
theorem dX2_makeStep_88 : decode cX2_makeStep 88 = .ok (.invokevirtual 63, 3) := by decide +kernel
theorem dX2_makeStep_91 : decode cX2_makeStep 91 = .ok (.iconst (-1), 1) := by decide +kernel
theorem dX2_makeStep_92 : decode cX2_makeStep 92 = .ok (.ixor, 1) := by decide +kernel
theorem dX2_makeStep_93 : decode cX2_makeStep 93 = .ok (.iand, 1) := by decide +kernel
theorem dX2_makeStep_94 : decode cX2_makeStep 94 = .ok (.invokevirtual 67, 3) := by decide +kernel
theorem dX2_makeStep_97 : decode cX2_makeStep 97 = .ok (.aload_n 0, 1) := by decide +kernel
theorem dX2_makeStep_98 : decode cX2_makeStep 98 = .ok (.aload_n 0, 1) := by decide +kernel
theorem dX2_makeStep_99 : decode cX2_makeStep 99 = .ok (.getfield 53, 3) := by decide +kernel
theorem dX2_makeStep_102 : decode cX2_makeStep 102 = .ok (.iconst 1, 1) := by decide +kernel
theorem dX2_makeStep_103 : decode cX2_makeStep 103 = .ok (.isub, 1) := by decide +kernel
theorem dX2_makeStep_104 : decode cX2_makeStep 104 = .ok (.iconst 2, 1) := by decide +kernel
theorem dX2_makeStep_105 : decode cX2_makeStep 105 = .ok (.invokestatic 74, 3) := by decide +kernel
theorem dX2_makeStep_108 : decode cX2_makeStep 108 = .ok (.putfield 53, 3) := by decide +kernel
theorem dX2_makeStep_111 : decode cX2_makeStep 111 = .ok (.iconst 1, 1) := by decide +kernel
theorem dX2_makeStep_112 : decode cX2_makeStep 112 = .ok (.ireturn, 1) := by decide +kernel
theorem dX2_makeStep_113 : decode cX2_makeStep 113 = .ok (.aload_n 0, 1) := by decide +kernel
theorem dX2_makeStep_114 : decode cX2_makeStep 114 = .ok (.getfield 53, 3) := by decide +kernel
theorem dX2_makeStep_117 : decode cX2_makeStep 117 = .ok (.iload_n 2, 1) := by decide +kernel
theorem dX2_makeStep_118 : decode cX2_makeStep 118 = .ok (.if_icmp .ge 30, 3) := by decide +kernel
theorem dX2_makeStep_121 : decode cX2_makeStep 121 = .ok (.aload_n 0, 1) := by decide +kernel
theorem dX2_makeStep_122 : decode cX2_makeStep 122 = .ok (.iload_n 2, 1) := by decide +kernel
theorem dX2_makeStep_123 : decode cX2_makeStep 123 = .ok (.iconst 3, 1) := by decide +kernel
theorem dX2_makeStep_124 : decode cX2_makeStep 124 = .ok (.iconst (-1), 1) := by decide +kernel
theorem dX2_makeStep_125 : decode cX2_makeStep 125 = .ok (.aload_n 0, 1) := by decide +kernel
theorem dX2_makeStep_126 : decode cX2_makeStep 126 = .ok (.getfield 18, 3) := by decide +kernel
theorem dX2_makeStep_129 : decode cX2_makeStep 129 = .ok (.invokevirtual 67, 3) := by decide +kernel
theorem dX2_makeStep_132 : decode cX2_makeStep 132 = .ok (.aload_n 0, 1) := by decide +kernel
theorem dX2_makeStep_133 : decode cX2_makeStep 133 = .ok (.aload_n 0, 1) := by decide +kernel
theorem dX2_makeStep_134 : decode cX2_makeStep 134 = .ok (.getfield 53, 3) := by decide +kernel
theorem dX2_makeStep_137 : decode cX2_makeStep 137 = .ok (.iconst 2, 1) := by decide +kernel
theorem dX2_makeStep_138 : decode cX2_makeStep 138 = .ok (.imul, 1) := by decide +kernel
theorem dX2_makeStep_139 : decode cX2_makeStep 139 = .ok (.iload_n 2, 1) := by decide +kernel
theorem dX2_makeStep_140 : decode cX2_makeStep 140 = .ok (.invokestatic 79, 3) := by decide +kernel
theorem dX2_makeStep_143 : decode cX2_makeStep 143 = .ok (.putfield 53, 3) := by decide +kernel
theorem dX2_makeStep_146 : decode cX2_makeStep 146 = .ok (.iconst 1, 1) := by decide +kernel
theorem dX2_makeStep_147 : decode cX2_makeStep 147 = .ok (.ireturn, 1) := by decide +kernel
theorem dX2_makeStep_148 : decode cX2_makeStep 148 = .ok (.iconst 0, 1) := by decide +kernel
theorem dX2_makeStep_149 : decode cX2_makeStep 149 = .ok (.ireturn, 1) := by decide +kernel
theorem dX2_countPlaces_0 : decode cX2_countPlaces 0 = .ok (.iconst 0, 1) := by decide +kernel
theorem dX2_countPlaces_1 : decode cX2_countPlaces 1 = .ok (.istore_n 1, 1) := by decide +kernel
theorem dX2_countPlaces_2 : decode cX2_countPlaces 2 = .ok (.iconst 0, 1) := by decide +kernel
theorem dX2_countPlaces_3 : decode cX2_countPlaces 3 = .ok (.istore_n 2, 1) := by decide +kernel
theorem dX2_countPlaces_4 : decode cX2_countPlaces 4 = .ok (.iconst 0, 1) := by decide +kernel
theorem dX2_countPlaces_5 : decode cX2_countPlaces 5 = .ok (.istore_n 3, 1) := by decide +kernel
theorem dX2_countPlaces_6 : decode cX2_countPlaces 6 = .ok (.iload_n 3, 1) := by decide +kernel
theorem dX2_countPlaces_7 : decode cX2_countPlaces 7 = .ok (.bipush 24, 2) := by decide +kernel
theorem dX2_countPlaces_9 : decode cX2_countPlaces 9 = .ok (.if_icmp .ge 36, 3) := by decide +kernel
theorem dX2_countPlaces_12 : decode cX2_countPlaces 12 = .ok (.aload_n 0, 1) := by decide +kernel
theorem dX2_countPlaces_13 : decode cX2_countPlaces 13 = .ok (.getfield 18, 3) := by decide +kernel
theorem dX2_countPlaces_16 : decode cX2_countPlaces 16 = .ok (.iload_n 3, 1) := by decide +kernel
theorem dX2_countPlaces_17 : decode cX2_countPlaces 17 = .ok (.ishr, 1) := by decide +kernel
theorem dX2_countPlaces_18 : decode cX2_countPlaces 18 = .ok (.iconst 1, 1) := by decide +kernel
theorem dX2_countPlaces_19 : decode cX2_countPlaces 19 = .ok (.iand, 1) := by decide +kernel
theorem dX2_countPlaces_20 : decode cX2_countPlaces 20 = .ok (.ifCond .eq 19, 3) := by decide +kernel
theorem dX2_countPlaces_23 : decode cX2_countPlaces 23 = .ok (.iload_n 2, 1) := by decide +kernel
theorem dX2_countPlaces_24 : decode cX2_countPlaces 24 = .ok (.iconst 1, 1) := by decide +kernel
theorem dX2_countPlaces_25 : decode cX2_countPlaces 25 = .ok (.iload_n 3, 1) := by decide +kernel
theorem dX2_countPlaces_26 : decode cX2_countPlaces 26 = .ok (.ishl, 1) := by decide +kernel
theorem dX2_countPlaces_27 : decode cX2_countPlaces 27 = .ok (.ior, 1) := by decide +kernel
theorem dX2_countPlaces_28 : decode cX2_countPlaces 28 = .ok (.istore_n 2, 1) := by decide +kernel
theorem dX2_countPlaces_29 : decode cX2_countPlaces 29 = .ok (.iinc 1 1, 3) := by decide +kernel
theorem dX2_countPlaces_32 : decode cX2_countPlaces 32 = .ok (.aload_n 0, 1) := by decide +kernel
theorem dX2_countPlaces_33 : decode cX2_countPlaces 33 = .ok (.getfield 15, 3) := by decide +kernel
theorem dX2_countPlaces_36 : decode cX2_countPlaces 36 = .ok (.iload_n 1, 1) := by decide +kernel
theorem dX2_countPlaces_37 : decode cX2_countPlaces 37 = .ok (.iload_n 2, 1) := by decide +kernel
theorem dX2_countPlaces_38 : decode cX2_countPlaces 38 = .ok (.iastore, 1) := by decide +kernel
theorem dX2_countPlaces_39 : decode cX2_countPlaces 39 = .ok (.iinc 3 1, 3) := by decide +kernel
theorem dX2_countPlaces_42 : decode cX2_countPlaces 42 = .ok (.goto (-36), 3) := by decide +kernel
theorem dX2_countPlaces_45 : decode cX2_countPlaces 45 = .ok (.return_, 1) := by decide +kernel
set_option maxRecDepth 20000 in
theorem ggX2_firstSpoiledPart_X2_partAt : GoodIn wsX2_firstSpoiledPart wsX2_partAt := goodIn_r _ [6, 1, 7, 42, 43, 44, 45, 46, 47] (by decide +kernel) (by decide +kernel)
set_option maxRecDepth 20000 in
theorem gX2_firstSpoiledPart_X2_partAt : GoodIn wsX2_firstSpoiledPart (wsV RX2 63 RX2 yX2_partAt wsX2_partAt) := goodIn_app (goodIn_of _ (by decide +kernel)) ggX2_firstSpoiledPart_X2_partAt
set_option maxRecDepth 20000 in
theorem ggX2_firstSpoiledPart_X3_looksSpoiled : GoodIn wsX2_firstSpoiledPart wsX3_looksSpoiled := goodIn_r _ [12, 13, 14, 15, 16, 17, 18, 11, 19, 20, 21, 22, 23, 24, 25, 26, 27, 28, 29, 30, 31, 32, 33, 34, 35, 36, 37, 38, 39, 40, 41, 48, 49, 50, 51, 52, 53, 54, 55, 56, 57] (by decide +kernel) (by decide +kernel)
set_option maxRecDepth 20000 in
theorem gX2_firstSpoiledPart_X3_looksSpoiled : GoodIn wsX2_firstSpoiledPart (wsV RX2 47 RX3 yX3_looksSpoiled wsX3_looksSpoiled) := goodIn_app (goodIn_of _ (by decide +kernel)) ggX2_firstSpoiledPart_X3_looksSpoiled
theorem dX2_firstSpoiledPart_0 : decode cX2_firstSpoiledPart 0 = .ok (.iconst 0, 1) := by decide +kernel
theorem dX2_firstSpoiledPart_1 : decode cX2_firstSpoiledPart 1 = .ok (.istore_n 3, 1) := by decide +kernel
theorem dX2_firstSpoiledPart_2 : decode cX2_firstSpoiledPart 2 = .ok (.iload_n 3, 1) := by decide +kernel
theorem dX2_firstSpoiledPart_3 : decode cX2_firstSpoiledPart 3 = .ok (.aload_n 0, 1) := by decide +kernel
theorem dX2_firstSpoiledPart_4 : decode cX2_firstSpoiledPart 4 = .ok (.getfield 53, 3) := by decide +kernel
theorem dX2_firstSpoiledPart_7 : decode cX2_firstSpoiledPart 7 = .ok (.if_icmp .ge 24, 3) := by decide +kernel
theorem dX2_firstSpoiledPart_10 : decode cX2_firstSpoiledPart 10 = .ok (.aload_n 1, 1) := by decide +kernel
theorem dX2_firstSpoiledPart_11 : decode cX2_firstSpoiledPart 11 = .ok (.aload_n 0, 1) := by decide +kernel
theorem dX2_firstSpoiledPart_12 : decode cX2_firstSpoiledPart 12 = .ok (.iload_n 3, 1) := by decide +kernel
theorem dX2_firstSpoiledPart_13 : decode cX2_firstSpoiledPart 13 = .ok (.iload_n 2, 1) := by decide +kernel
theorem dX2_firstSpoiledPart_14 : decode cX2_firstSpoiledPart 14 = .ok (.invokevirtual 63, 3) := by decide +kernel
theorem dX2_firstSpoiledPart_17 : decode cX2_firstSpoiledPart 17 = .ok (.invokevirtual 47, 3) := by decide +kernel
theorem dX2_firstSpoiledPart_20 : decode cX2_firstSpoiledPart 20 = .ok (.ifCond .eq 5, 3) := by decide +kernel
theorem dX2_firstSpoiledPart_23 : decode cX2_firstSpoiledPart 23 = .ok (.iload_n 3, 1) := by decide +kernel
theorem dX2_firstSpoiledPart_24 : decode cX2_firstSpoiledPart 24 = .ok (.ireturn, 1) := by decide +kernel
theorem dX2_firstSpoiledPart_25 : decode cX2_firstSpoiledPart 25 = .ok (.iinc 3 1, 3) := by decide +kernel
theorem dX2_firstSpoiledPart_28 : decode cX2_firstSpoiledPart 28 = .ok (.goto (-26), 3) := by decide +kernel
theorem dX2_firstSpoiledPart_31 : decode cX2_firstSpoiledPart 31 = .ok (.iconst (-1), 1) := by decide +kernel
theorem dX2_firstSpoiledPart_32 : decode cX2_firstSpoiledPart 32 = .ok (.ireturn, 1) := by decide +kernel
set_option maxRecDepth 20000 in
theorem ggX2_firstSparedPart_X2_partAt : GoodIn wsX2_firstSparedPart wsX2_partAt := goodIn_r _ [7, 1, 8, 43, 44, 45, 46, 47, 48] (by decide +kernel) (by decide +kernel)
set_option maxRecDepth 20000 in
theorem gX2_firstSparedPart_X2_partAt : GoodIn wsX2_firstSparedPart (wsV RX2 63 RX2 yX2_partAt wsX2_partAt) := goodIn_app (goodIn_of _ (by decide +kernel)) ggX2_firstSparedPart_X2_partAt
set_option maxRecDepth 20000 in
theorem ggX2_firstSparedPart_X3_looksSpoiled : GoodIn wsX2_firstSparedPart wsX3_looksSpoiled := goodIn_r _ [13, 14, 15, 16, 17, 18, 19, 12, 20, 21, 22, 23, 24, 25, 26, 27, 28, 29, 30, 31, 32, 33, 34, 35, 36, 37, 38, 39, 40, 41, 42, 49, 50, 51, 52, 53, 54, 55, 56, 57, 58] (by decide +kernel) (by decide +kernel)
set_option maxRecDepth 20000 in
theorem gX2_firstSparedPart_X3_looksSpoiled : GoodIn wsX2_firstSparedPart (wsV RX2 47 RX3 yX3_looksSpoiled wsX3_looksSpoiled) := goodIn_app (goodIn_of _ (by decide +kernel)) ggX2_firstSparedPart_X3_looksSpoiled
theorem dX2_firstSparedPart_0 : decode cX2_firstSparedPart 0 = .ok (.iconst 0, 1) := by decide +kernel
theorem dX2_firstSparedPart_1 : decode cX2_firstSparedPart 1 = .ok (.istore_n 3, 1) := by decide +kernel
theorem dX2_firstSparedPart_2 : decode cX2_firstSparedPart 2 = .ok (.iload_n 3, 1) := by decide +kernel
theorem dX2_firstSparedPart_3 : decode cX2_firstSparedPart 3 = .ok (.aload_n 0, 1) := by decide +kernel
theorem dX2_firstSparedPart_4 : decode cX2_firstSparedPart 4 = .ok (.getfield 53, 3) := by decide +kernel
theorem dX2_firstSparedPart_7 : decode cX2_firstSparedPart 7 = .ok (.if_icmp .ge 31, 3) := by decide +kernel
theorem dX2_firstSparedPart_10 : decode cX2_firstSparedPart 10 = .ok (.aload_n 1, 1) := by decide +kernel
theorem dX2_firstSparedPart_11 : decode cX2_firstSparedPart 11 = .ok (.aload_n 0, 1) := by decide +kernel
theorem dX2_firstSparedPart_12 : decode cX2_firstSparedPart 12 = .ok (.getfield 18, 3) := by decide +kernel
theorem dX2_firstSparedPart_15 : decode cX2_firstSparedPart 15 = .ok (.aload_n 0, 1) := by decide +kernel
theorem dX2_firstSparedPart_16 : decode cX2_firstSparedPart 16 = .ok (.iload_n 3, 1) := by decide +kernel
theorem dX2_firstSparedPart_17 : decode cX2_firstSparedPart 17 = .ok (.iload_n 2, 1) := by decide +kernel
theorem dX2_firstSparedPart_18 : decode cX2_firstSparedPart 18 = .ok (.invokevirtual 63, 3) := by decide +kernel
theorem dX2_firstSparedPart_21 : decode cX2_firstSparedPart 21 = .ok (.iconst (-1), 1) := by decide +kernel
theorem dX2_firstSparedPart_22 : decode cX2_firstSparedPart 22 = .ok (.ixor, 1) := by decide +kernel
theorem dX2_firstSparedPart_23 : decode cX2_firstSparedPart 23 = .ok (.iand, 1) := by decide +kernel
theorem dX2_firstSparedPart_24 : decode cX2_firstSparedPart 24 = .ok (.invokevirtual 47, 3) := by decide +kernel
theorem dX2_firstSparedPart_27 : decode cX2_firstSparedPart 27 = .ok (.ifCond .eq 5, 3) := by decide +kernel
theorem dX2_firstSparedPart_30 : decode cX2_firstSparedPart 30 = .ok (.iload_n 3, 1) := by decide +kernel
theorem dX2_firstSparedPart_31 : decode cX2_firstSparedPart 31 = .ok (.ireturn, 1) := by decide +kernel
theorem dX2_firstSparedPart_32 : decode cX2_firstSparedPart 32 = .ok (.iinc 3 1, 3) := by decide +kernel
theorem dX2_firstSparedPart_35 : decode cX2_firstSparedPart 35 = .ok (.goto (-33), 3) := by decide +kernel
theorem dX2_firstSparedPart_38 : decode cX2_firstSparedPart 38 = .ok (.iconst (-1), 1) := by decide +kernel
theorem dX2_firstSparedPart_39 : decode cX2_firstSparedPart 39 = .ok (.ireturn, 1) := by decide +kernel
theorem dX2_partAt_0 : decode cX2_partAt 0 = .ok (.iload_n 1, 1) := by decide +kernel
theorem dX2_partAt_1 : decode cX2_partAt 1 = .ok (.ifCond .lt 21, 3) := by decide +kernel
theorem dX2_partAt_4 : decode cX2_partAt 4 = .ok (.iload_n 1, 1) := by decide +kernel
theorem dX2_partAt_5 : decode cX2_partAt 5 = .ok (.aload_n 0, 1) := by decide +kernel
theorem dX2_partAt_6 : decode cX2_partAt 6 = .ok (.getfield 53, 3) := by decide +kernel
theorem dX2_partAt_9 : decode cX2_partAt 9 = .ok (.if_icmp .ge 13, 3) := by decide +kernel
theorem dX2_partAt_12 : decode cX2_partAt 12 = .ok (.iload_n 2, 1) := by decide +kernel
theorem dX2_partAt_13 : decode cX2_partAt 13 = .ok (.ifCond .lt 9, 3) := by decide +kernel
theorem dX2_partAt_16 : decode cX2_partAt 16 = .ok (.iload_n 2, 1) := by decide +kernel
theorem dX2_partAt_17 : decode cX2_partAt 17 = .ok (.bipush 24, 2) := by decide +kernel
theorem dX2_partAt_19 : decode cX2_partAt 19 = .ok (.if_icmp .le 5, 3) := by decide +kernel
theorem dX2_partAt_22 : decode cX2_partAt 22 = .ok (.iconst 0, 1) := by decide +kernel
theorem dX2_partAt_23 : decode cX2_partAt 23 = .ok (.ireturn, 1) := by decide +kernel
theorem dX2_partAt_24 : decode cX2_partAt 24 = .ok (.iload_n 1, 1) := by decide +kernel
theorem dX2_partAt_25 : decode cX2_partAt 25 = .ok (.iload_n 2, 1) := by decide +kernel
theorem dX2_partAt_26 : decode cX2_partAt 26 = .ok (.imul, 1) := by decide +kernel
theorem dX2_partAt_27 : decode cX2_partAt 27 = .ok (.aload_n 0, 1) := by decide +kernel
theorem dX2_partAt_28 : decode cX2_partAt 28 = .ok (.getfield 53, 3) := by decide +kernel
theorem dX2_partAt_31 : decode cX2_partAt 31 = .ok (.idiv, 1) := by decide +kernel
theorem dX2_partAt_32 : decode cX2_partAt 32 = .ok (.istore_n 3, 1) := by decide +kernel
theorem dX2_partAt_33 : decode cX2_partAt 33 = .ok (.iload_n 1, 1) := by decide +kernel
theorem dX2_partAt_34 : decode cX2_partAt 34 = .ok (.iconst 1, 1) := by decide +kernel
theorem dX2_partAt_35 : decode cX2_partAt 35 = .ok (.iadd, 1) := by decide +kernel
theorem dX2_partAt_36 : decode cX2_partAt 36 = .ok (.iload_n 2, 1) := by decide +kernel
theorem dX2_partAt_37 : decode cX2_partAt 37 = .ok (.imul, 1) := by decide +kernel
theorem dX2_partAt_38 : decode cX2_partAt 38 = .ok (.aload_n 0, 1) := by decide +kernel
theorem dX2_partAt_39 : decode cX2_partAt 39 = .ok (.getfield 53, 3) := by decide +kernel
theorem dX2_partAt_42 : decode cX2_partAt 42 = .ok (.idiv, 1) := by decide +kernel
theorem dX2_partAt_43 : decode cX2_partAt 43 = .ok (.istore 4, 2) := by decide +kernel
theorem dX2_partAt_45 : decode cX2_partAt 45 = .ok (.aload_n 0, 1) := by decide +kernel
theorem dX2_partAt_46 : decode cX2_partAt 46 = .ok (.getfield 15, 3) := by decide +kernel
theorem dX2_partAt_49 : decode cX2_partAt 49 = .ok (.iload 4, 2) := by decide +kernel
theorem dX2_partAt_51 : decode cX2_partAt 51 = .ok (.iaload, 1) := by decide +kernel
theorem dX2_partAt_52 : decode cX2_partAt 52 = .ok (.aload_n 0, 1) := by decide +kernel
theorem dX2_partAt_53 : decode cX2_partAt 53 = .ok (.getfield 15, 3) := by decide +kernel
theorem dX2_partAt_56 : decode cX2_partAt 56 = .ok (.iload_n 3, 1) := by decide +kernel
theorem dX2_partAt_57 : decode cX2_partAt 57 = .ok (.iaload, 1) := by decide +kernel
theorem dX2_partAt_58 : decode cX2_partAt 58 = .ok (.iconst (-1), 1) := by decide +kernel
theorem dX2_partAt_59 : decode cX2_partAt 59 = .ok (.ixor, 1) := by decide +kernel
theorem dX2_partAt_60 : decode cX2_partAt 60 = .ok (.iand, 1) := by decide +kernel
theorem dX2_partAt_61 : decode cX2_partAt 61 = .ok (.ireturn, 1) := by decide +kernel
theorem dX2_note_0 : decode cX2_note 0 = .ok (.aload_n 0, 1) := by decide +kernel
theorem dX2_note_1 : decode cX2_note 1 = .ok (.getfield 28, 3) := by decide +kernel
theorem dX2_note_4 : decode cX2_note 4 = .ok (.sipush 128, 3) := by decide +kernel
theorem dX2_note_7 : decode cX2_note 7 = .ok (.if_icmp .ge 73, 3) := by decide +kernel
theorem dX2_note_10 : decode cX2_note 10 = .ok (.aload_n 0, 1) := by decide +kernel
theorem dX2_note_11 : decode cX2_note 11 = .ok (.getfield 28, 3) := by decide +kernel
theorem dX2_note_14 : decode cX2_note 14 = .ok (.iconst 5, 1) := by decide +kernel
theorem dX2_note_15 : decode cX2_note 15 = .ok (.imul, 1) := by decide +kernel
theorem dX2_note_16 : decode cX2_note 16 = .ok (.istore 5, 2) := by decide +kernel
theorem dX2_note_18 : decode cX2_note 18 = .ok (.aload_n 0, 1) := by decide +kernel
theorem dX2_note_19 : decode cX2_note 19 = .ok (.getfield 11, 3) := by decide +kernel
theorem dX2_note_22 : decode cX2_note 22 = .ok (.iload 5, 2) := by decide +kernel
theorem dX2_note_24 : decode cX2_note 24 = .ok (.iload_n 1, 1) := by decide +kernel
theorem dX2_note_25 : decode cX2_note 25 = .ok (.iastore, 1) := by decide +kernel
theorem dX2_note_26 : decode cX2_note 26 = .ok (.aload_n 0, 1) := by decide +kernel
theorem dX2_note_27 : decode cX2_note 27 = .ok (.getfield 11, 3) := by decide +kernel
theorem dX2_note_30 : decode cX2_note 30 = .ok (.iload 5, 2) := by decide +kernel
theorem dX2_note_32 : decode cX2_note 32 = .ok (.iconst 1, 1) := by decide +kernel
theorem dX2_note_33 : decode cX2_note 33 = .ok (.iadd, 1) := by decide +kernel
theorem dX2_note_34 : decode cX2_note 34 = .ok (.aload_n 0, 1) := by decide +kernel
theorem dX2_note_35 : decode cX2_note 35 = .ok (.getfield 53, 3) := by decide +kernel
theorem dX2_note_38 : decode cX2_note 38 = .ok (.iastore, 1) := by decide +kernel
theorem dX2_note_39 : decode cX2_note 39 = .ok (.aload_n 0, 1) := by decide +kernel
theorem dX2_note_40 : decode cX2_note 40 = .ok (.getfield 11, 3) := by decide +kernel
theorem dX2_note_43 : decode cX2_note 43 = .ok (.iload 5, 2) := by decide +kernel
theorem dX2_note_45 : decode cX2_note 45 = .ok (.iconst 2, 1) := by decide +kernel
theorem dX2_note_46 : decode cX2_note 46 = .ok (.iadd, 1) := by decide +kernel
theorem dX2_note_47 : decode cX2_note 47 = .ok (.iload_n 2, 1) := by decide +kernel
theorem dX2_note_48 : decode cX2_note 48 = .ok (.iastore, 1) := by decide +kernel
theorem dX2_note_49 : decode cX2_note 49 = .ok (.aload_n 0, 1) := by decide +kernel
theorem dX2_note_50 : decode cX2_note 50 = .ok (.getfield 11, 3) := by decide +kernel
theorem dX2_note_53 : decode cX2_note 53 = .ok (.iload 5, 2) := by decide +kernel
theorem dX2_note_55 : decode cX2_note 55 = .ok (.iconst 3, 1) := by decide +kernel
theorem dX2_note_56 : decode cX2_note 56 = .ok (.iadd, 1) := by decide +kernel
theorem dX2_note_57 : decode cX2_note 57 = .ok (.iload_n 3, 1) := by decide +kernel
theorem dX2_note_58 : decode cX2_note 58 = .ok (.iastore, 1) := by decide +kernel
theorem dX2_note_59 : decode cX2_note 59 = .ok (.aload_n 0, 1) := by decide +kernel
theorem dX2_note_60 : decode cX2_note 60 = .ok (.getfield 11, 3) := by decide +kernel
theorem dX2_note_63 : decode cX2_note 63 = .ok (.iload 5, 2) := by decide +kernel
theorem dX2_note_65 : decode cX2_note 65 = .ok (.iconst 4, 1) := by decide +kernel
theorem dX2_note_66 : decode cX2_note 66 = .ok (.iadd, 1) := by decide +kernel
theorem dX2_note_67 : decode cX2_note 67 = .ok (.iload 4, 2) := by decide +kernel
theorem dX2_note_69 : decode cX2_note 69 = .ok (.iastore, 1) := by decide +kernel
theorem dX2_note_70 : decode cX2_note 70 = .ok (.aload_n 0, 1) := by decide +kernel
theorem dX2_note_71 : decode cX2_note 71 = .ok (.dup, 1) := by decide +kernel
theorem dX2_note_72 : decode cX2_note 72 = .ok (.getfield 28, 3) := by decide +kernel
theorem dX2_note_75 : decode cX2_note 75 = .ok (.iconst 1, 1) := by decide +kernel
theorem dX2_note_76 : decode cX2_note 76 = .ok (.iadd, 1) := by decide +kernel
theorem dX2_note_77 : decode cX2_note 77 = .ok (.putfield 28, 3) := by decide +kernel
theorem dX2_note_80 : decode cX2_note 80 = .ok (.aload_n 0, 1) := by decide +kernel
theorem dX2_note_81 : decode cX2_note 81 = .ok (.iload 4, 2) := by decide +kernel
theorem dX2_note_83 : decode cX2_note 83 = .ok (.putfield 18, 3) := by decide +kernel
theorem dX2_note_86 : decode cX2_note 86 = .ok (.return_, 1) := by decide +kernel
theorem dX3_init_0 : decode cX3_init 0 = .ok (.aload_n 0, 1) := by decide +kernel
theorem dX3_init_1 : decode cX3_init 1 = .ok (.invokespecial 5, 3) := by decide +kernel
theorem dX3_init_4 : decode cX3_init 4 = .ok (.aload_n 0, 1) := by decide +kernel
theorem dX3_init_5 : decode cX3_init 5 = .ok (.sipush 4096, 3) := by decide +kernel
theorem dX3_init_8 : decode cX3_init 8 = .ok (.newarray .long, 2) := by decide +kernel
theorem dX3_init_10 : decode cX3_init 10 = .ok (.putfield 11, 3) := by decide +kernel
theorem dX3_init_13 : decode cX3_init 13 = .ok (.aload_n 0, 1) := by decide +kernel
theorem dX3_init_14 : decode cX3_init 14 = .ok (.aload_n 1, 1) := by decide +kernel
theorem dX3_init_15 : decode cX3_init 15 = .ok (.putfield 15, 3) := by decide +kernel
theorem dX3_init_18 : decode cX3_init 18 = .ok (.aload_n 0, 1) := by decide +kernel
theorem dX3_init_19 : decode cX3_init 19 = .ok (.aload_n 2, 1) := by decide +kernel
theorem dX3_init_20 : decode cX3_init 20 = .ok (.putfield 19, 3) := by decide +kernel
theorem dX3_init_23 : decode cX3_init 23 = .ok (.return_, 1) := by decide +kernel
theorem dX3_begin_0 : decode cX3_begin 0 = .ok (.aload_n 0, 1) := by decide +kernel
theorem dX3_begin_1 : decode cX3_begin 1 = .ok (.dup, 1) := by decide +kernel
theorem dX3_begin_2 : decode cX3_begin 2 = .ok (.getfield 23, 3) := by decide +kernel
theorem dX3_begin_5 : decode cX3_begin 5 = .ok (.lconst 1, 1) := by decide +kernel
theorem dX3_begin_6 : decode cX3_begin 6 = .ok (.ladd, 1) := by decide +kernel
theorem dX3_begin_7 : decode cX3_begin 7 = .ok (.putfield 23, 3) := by decide +kernel
theorem dX3_begin_10 : decode cX3_begin 10 = .ok (.aload_n 0, 1) := by decide +kernel
theorem dX3_begin_11 : decode cX3_begin 11 = .ok (.iconst 0, 1) := by decide +kernel
theorem dX3_begin_12 : decode cX3_begin 12 = .ok (.putfield 27, 3) := by decide +kernel
theorem dX3_begin_15 : decode cX3_begin 15 = .ok (.return_, 1) := by decide +kernel
theorem dX3_tastings_0 : decode cX3_tastings 0 = .ok (.aload_n 0, 1) := by decide +kernel
theorem dX3_tastings_1 : decode cX3_tastings 1 = .ok (.getfield 27, 3) := by decide +kernel
theorem dX3_tastings_4 : decode cX3_tastings 4 = .ok (.ireturn, 1) := by decide +kernel
set_option maxRecDepth 20000 in
theorem ggX3_looksSpoiled_X3_learn : GoodIn wsX3_looksSpoiled wsX3_learn := goodIn_r _ [8, 9, 10, 11, 31, 32, 33, 34, 35] (by decide +kernel) (by decide +kernel)
set_option maxRecDepth 20000 in
theorem gX3_looksSpoiled_X3_learn : GoodIn wsX3_looksSpoiled (wsV RX3 31 RX3 yX3_learn wsX3_learn) := goodIn_app (goodIn_of _ (by decide +kernel)) ggX3_looksSpoiled_X3_learn
set_option maxRecDepth 20000 in
theorem ggX3_looksSpoiled_X0_kindsOf : GoodIn wsX3_looksSpoiled wsX0_kindsOf := goodIn_r _ [16, 17, 18, 36, 37] (by decide +kernel) (by decide +kernel)
set_option maxRecDepth 20000 in
theorem gX3_looksSpoiled_X0_kindsOf : GoodIn wsX3_looksSpoiled (wsV RX3 35 RX0 yX0_kindsOf wsX0_kindsOf) := goodIn_app (goodIn_of _ (by decide +kernel)) ggX3_looksSpoiled_X0_kindsOf
set_option maxRecDepth 20000 in
theorem ggX3_looksSpoiled_X1_holding : GoodIn wsX3_looksSpoiled wsX1_holding := goodIn_r _ [23, 24, 25, 26, 27, 22, 28, 29, 30, 38, 39, 40] (by decide +kernel) (by decide +kernel)
set_option maxRecDepth 20000 in
theorem gX3_looksSpoiled_X1_holding : GoodIn wsX3_looksSpoiled (wsV RX3 41 RX1 yX1_holding wsX1_holding) := goodIn_app (goodIn_of _ (by decide +kernel)) ggX3_looksSpoiled_X1_holding
theorem dX3_looksSpoiled_0 : decode cX3_looksSpoiled 0 = .ok (.aload_n 0, 1) := by decide +kernel
theorem dX3_looksSpoiled_1 : decode cX3_looksSpoiled 1 = .ok (.iload_n 1, 1) := by decide +kernel
theorem dX3_looksSpoiled_2 : decode cX3_looksSpoiled 2 = .ok (.invokevirtual 31, 3) := by decide +kernel
theorem dX3_looksSpoiled_5 : decode cX3_looksSpoiled 5 = .ok (.ifCond .eq 13, 3) := by decide +kernel
theorem dX3_looksSpoiled_8 : decode cX3_looksSpoiled 8 = .ok (.aload_n 0, 1) := by decide +kernel
theorem dX3_looksSpoiled_9 : decode cX3_looksSpoiled 9 = .ok (.dup, 1) := by decide +kernel
theorem dX3_looksSpoiled_10 : decode cX3_looksSpoiled 10 = .ok (.getfield 27, 3) := by decide +kernel
theorem dX3_looksSpoiled_13 : decode cX3_looksSpoiled 13 = .ok (.iconst 1, 1) := by decide +kernel
theorem dX3_looksSpoiled_14 : decode cX3_looksSpoiled 14 = .ok (.iadd, 1) := by decide +kernel
theorem dX3_looksSpoiled_15 : decode cX3_looksSpoiled 15 = .ok (.putfield 27, 3) := by decide +kernel
theorem dX3_looksSpoiled_18 : decode cX3_looksSpoiled 18 = .ok (.aload_n 0, 1) := by decide +kernel
theorem dX3_looksSpoiled_19 : decode cX3_looksSpoiled 19 = .ok (.getfield 19, 3) := by decide +kernel
theorem dX3_looksSpoiled_22 : decode cX3_looksSpoiled 22 = .ok (.aload_n 0, 1) := by decide +kernel
theorem dX3_looksSpoiled_23 : decode cX3_looksSpoiled 23 = .ok (.getfield 15, 3) := by decide +kernel
theorem dX3_looksSpoiled_26 : decode cX3_looksSpoiled 26 = .ok (.iload_n 1, 1) := by decide +kernel
theorem dX3_looksSpoiled_27 : decode cX3_looksSpoiled 27 = .ok (.invokevirtual 35, 3) := by decide +kernel
theorem dX3_looksSpoiled_30 : decode cX3_looksSpoiled 30 = .ok (.invokevirtual 41, 3) := by decide +kernel
theorem dX3_looksSpoiled_33 : decode cX3_looksSpoiled 33 = .ok (.ifCond .le 7, 3) := by decide +kernel
theorem dX3_looksSpoiled_36 : decode cX3_looksSpoiled 36 = .ok (.iconst 1, 1) := by decide +kernel
theorem dX3_looksSpoiled_37 : decode cX3_looksSpoiled 37 = .ok (.goto 4, 3) := by decide +kernel
theorem dX3_looksSpoiled_40 : decode cX3_looksSpoiled 40 = .ok (.iconst 0, 1) := by decide +kernel
theorem dX3_looksSpoiled_41 : decode cX3_looksSpoiled 41 = .ok (.ireturn, 1) := by decide +kernel
theorem dX3_learn_0 : decode cX3_learn 0 = .ok (.aload_n 0, 1) := by decide +kernel
theorem dX3_learn_1 : decode cX3_learn 1 = .ok (.getfield 23, 3) := by decide +kernel
theorem dX3_learn_4 : decode cX3_learn 4 = .ok (.bipush 24, 2) := by decide +kernel
theorem dX3_learn_6 : decode cX3_learn 6 = .ok (.lshl, 1) := by decide +kernel
theorem dX3_learn_7 : decode cX3_learn 7 = .ok (.iload_n 1, 1) := by decide +kernel
theorem dX3_learn_8 : decode cX3_learn 8 = .ok (.i2l, 1) := by decide +kernel
theorem dX3_learn_9 : decode cX3_learn 9 = .ok (.lor, 1) := by decide +kernel
theorem dX3_learn_10 : decode cX3_learn 10 = .ok (.lstore_n 2, 1) := by decide +kernel
theorem dX3_learn_11 : decode cX3_learn 11 = .ok (.iload_n 1, 1) := by decide +kernel
theorem dX3_learn_12 : decode cX3_learn 12 = .ok (.ldc 46, 2) := by decide +kernel
theorem dX3_learn_14 : decode cX3_learn 14 = .ok (.imul, 1) := by decide +kernel
theorem dX3_learn_15 : decode cX3_learn 15 = .ok (.bipush 20, 2) := by decide +kernel
theorem dX3_learn_17 : decode cX3_learn 17 = .ok (.iushr, 1) := by decide +kernel
theorem dX3_learn_18 : decode cX3_learn 18 = .ok (.istore 4, 2) := by decide +kernel
theorem dX3_learn_20 : decode cX3_learn 20 = .ok (.iconst 0, 1) := by decide +kernel
theorem dX3_learn_21 : decode cX3_learn 21 = .ok (.istore 5, 2) := by decide +kernel
theorem dX3_learn_23 : decode cX3_learn 23 = .ok (.iload 5, 2) := by decide +kernel
theorem dX3_learn_25 : decode cX3_learn 25 = .ok (.sipush 4096, 3) := by decide +kernel
theorem dX3_learn_28 : decode cX3_learn 28 = .ok (.if_icmp .ge 62, 3) := by decide +kernel
theorem dX3_learn_31 : decode cX3_learn 31 = .ok (.iload 4, 2) := by decide +kernel
theorem dX3_learn_33 : decode cX3_learn 33 = .ok (.iload 5, 2) := by decide +kernel
theorem dX3_learn_35 : decode cX3_learn 35 = .ok (.iadd, 1) := by decide +kernel
theorem dX3_learn_36 : decode cX3_learn 36 = .ok (.sipush 4095, 3) := by decide +kernel
theorem dX3_learn_39 : decode cX3_learn 39 = .ok (.iand, 1) := by decide +kernel
theorem dX3_learn_40 : decode cX3_learn 40 = .ok (.istore 6, 2) := by decide +kernel
theorem dX3_learn_42 : decode cX3_learn 42 = .ok (.aload_n 0, 1) := by decide +kernel
theorem dX3_learn_43 : decode cX3_learn 43 = .ok (.getfield 11, 3) := by decide +kernel
theorem dX3_learn_46 : decode cX3_learn 46 = .ok (.iload 6, 2) := by decide +kernel
theorem dX3_learn_48 : decode cX3_learn 48 = .ok (.laload, 1) := by decide +kernel
theorem dX3_learn_49 : decode cX3_learn 49 = .ok (.lload_n 2, 1) := by decide +kernel
theorem dX3_learn_50 : decode cX3_learn 50 = .ok (.lcmp, 1) := by decide +kernel
theorem dX3_learn_51 : decode cX3_learn 51 = .ok (.ifCond .ne 5, 3) := by decide +kernel
theorem dX3_learn_54 : decode cX3_learn 54 = .ok (.iconst 0, 1) := by decide +kernel
theorem dX3_learn_55 : decode cX3_learn 55 = .ok (.ireturn, 1) := by decide +kernel
theorem dX3_learn_56 : decode cX3_learn 56 = .ok (.aload_n 0, 1) := by decide +kernel
theorem dX3_learn_57 : decode cX3_learn 57 = .ok (.getfield 11, 3) := by decide +kernel
theorem dX3_learn_60 : decode cX3_learn 60 = .ok (.iload 6, 2) := by decide +kernel
theorem dX3_learn_62 : decode cX3_learn 62 = .ok (.laload, 1) := by decide +kernel
theorem dX3_learn_63 : decode cX3_learn 63 = .ok (.bipush 24, 2) := by decide +kernel
theorem dX3_learn_65 : decode cX3_learn 65 = .ok (.lshr, 1) := by decide +kernel
theorem dX3_learn_66 : decode cX3_learn 66 = .ok (.aload_n 0, 1) := by decide +kernel
theorem dX3_learn_67 : decode cX3_learn 67 = .ok (.getfield 23, 3) := by decide +kernel
theorem dX3_learn_70 : decode cX3_learn 70 = .ok (.lcmp, 1) := by decide +kernel
theorem dX3_learn_71 : decode cX3_learn 71 = .ok (.ifCond .eq 13, 3) := by decide +kernel
theorem dX3_learn_74 : decode cX3_learn 74 = .ok (.aload_n 0, 1) := by decide +kernel
theorem dX3_learn_75 : decode cX3_learn 75 = .ok (.getfield 11, 3) := by decide +kernel
theorem dX3_learn_78 : decode cX3_learn 78 = .ok (.iload 6, 2) := by decide +kernel
theorem dX3_learn_80 : decode cX3_learn 80 = .ok (.lload_n 2, 1) := by decide +kernel
theorem dX3_learn_81 : decode cX3_learn 81 = .ok (.lastore, 1) := by decide +kernel
theorem dX3_learn_82 : decode cX3_learn 82 = .ok (.iconst 1, 1) := by decide +kernel
theorem dX3_learn_83 : decode cX3_learn 83 = .ok (.ireturn, 1) := by decide +kernel
theorem dX3_learn_84 : decode cX3_learn 84 = .ok (.iinc 5 1, 3) := by decide +kernel
theorem dX3_learn_87 : decode cX3_learn 87 = .ok (.goto (-64), 3) := by decide +kernel
theorem dX3_learn_90 : decode cX3_learn 90 = .ok (.iconst 0, 1) := by decide +kernel
theorem dX3_learn_91 : decode cX3_learn 91 = .ok (.ireturn, 1) := by decide +kernel
set_option maxRecDepth 20000 in
theorem ggX4_init_X0_init : GoodIn wsX4_init wsX0_init := goodIn_r _ [22, 23, 2, 3, 24, 25, 44, 45] (by decide +kernel) (by decide +kernel)
set_option maxRecDepth 20000 in
theorem gX4_init_X0_init_n9 : GoodIn wsX4_init (wsX0_init) := ggX4_init_X0_init
set_option maxRecDepth 20000 in
theorem ggX4_init_X1_init : GoodIn wsX4_init wsX1_init := goodIn_r _ [27, 28, 2, 3, 24, 29, 30, 53, 54, 55] (by decide +kernel) (by decide +kernel)
set_option maxRecDepth 20000 in
theorem gX4_init_X1_init_n18 : GoodIn wsX4_init (wsX1_init) := ggX4_init_X1_init
set_option maxRecDepth 20000 in
theorem ggX4_init_X3_init : GoodIn wsX4_init wsX3_init := goodIn_r _ [33, 34, 2, 3, 35, 36, 37, 38, 56, 57, 58, 59, 60] (by decide +kernel) (by decide +kernel)
set_option maxRecDepth 20000 in
theorem gX4_init_X3_init : GoodIn wsX4_init (wsX3_init) := ggX4_init_X3_init
set_option maxRecDepth 20000 in
theorem ggX4_init_X2_init : GoodIn wsX4_init wsX2_init := goodIn_r _ [40, 41, 2, 3, 24, 42, 43, 61, 62, 63, 64, 65, 66] (by decide +kernel) (by decide +kernel)
set_option maxRecDepth 20000 in
theorem gX4_init_X2_init_n34 : GoodIn wsX4_init (wsX2_init) := ggX4_init_X2_init
theorem dX4_init_0 : decode cX4_init 0 = .ok (.aload_n 0, 1) := by decide +kernel
theorem dX4_init_1 : decode cX4_init 1 = .ok (.invokespecial 1, 3) := by decide +kernel
theorem dX4_init_4 : decode cX4_init 4 = .ok (.aload_n 0, 1) := by decide +kernel
theorem dX4_init_5 : decode cX4_init 5 = .ok (.new 7, 3) := by decide +kernel
theorem dX4_init_8 : decode cX4_init 8 = .ok (.dup, 1) := by decide +kernel
theorem dX4_init_9 : decode cX4_init 9 = .ok (.invokespecial 9, 3) := by decide +kernel
theorem dX4_init_12 : decode cX4_init 12 = .ok (.putfield 10, 3) := by decide +kernel
theorem dX4_init_15 : decode cX4_init 15 = .ok (.aload_n 0, 1) := by decide +kernel
theorem dX4_init_16 : decode cX4_init 16 = .ok (.new 16, 3) := by decide +kernel
theorem dX4_init_19 : decode cX4_init 19 = .ok (.dup, 1) := by decide +kernel
theorem dX4_init_20 : decode cX4_init 20 = .ok (.invokespecial 18, 3) := by decide +kernel
theorem dX4_init_23 : decode cX4_init 23 = .ok (.putfield 19, 3) := by decide +kernel
theorem dX4_init_26 : decode cX4_init 26 = .ok (.aload_n 0, 1) := by decide +kernel
theorem dX4_init_27 : decode cX4_init 27 = .ok (.new 23, 3) := by decide +kernel
theorem dX4_init_30 : decode cX4_init 30 = .ok (.dup, 1) := by decide +kernel
theorem dX4_init_31 : decode cX4_init 31 = .ok (.aload_n 0, 1) := by decide +kernel
theorem dX4_init_32 : decode cX4_init 32 = .ok (.getfield 10, 3) := by decide +kernel
theorem dX4_init_35 : decode cX4_init 35 = .ok (.aload_n 0, 1) := by decide +kernel
theorem dX4_init_36 : decode cX4_init 36 = .ok (.getfield 19, 3) := by decide +kernel
theorem dX4_init_39 : decode cX4_init 39 = .ok (.invokespecial 25, 3) := by decide +kernel
theorem dX4_init_42 : decode cX4_init 42 = .ok (.putfield 28, 3) := by decide +kernel
theorem dX4_init_45 : decode cX4_init 45 = .ok (.aload_n 0, 1) := by decide +kernel
theorem dX4_init_46 : decode cX4_init 46 = .ok (.new 32, 3) := by decide +kernel
theorem dX4_init_49 : decode cX4_init 49 = .ok (.dup, 1) := by decide +kernel
theorem dX4_init_50 : decode cX4_init 50 = .ok (.invokespecial 34, 3) := by decide +kernel
theorem dX4_init_53 : decode cX4_init 53 = .ok (.putfield 35, 3) := by decide +kernel
theorem dX4_init_56 : decode cX4_init 56 = .ok (.aload_n 0, 1) := by decide +kernel
theorem dX4_init_57 : decode cX4_init 57 = .ok (.new 32, 3) := by decide +kernel
theorem dX4_init_60 : decode cX4_init 60 = .ok (.dup, 1) := by decide +kernel
theorem dX4_init_61 : decode cX4_init 61 = .ok (.invokespecial 34, 3) := by decide +kernel
theorem dX4_init_64 : decode cX4_init 64 = .ok (.putfield 39, 3) := by decide +kernel
theorem dX4_init_67 : decode cX4_init 67 = .ok (.return_, 1) := by decide +kernel
set_option maxRecDepth 20000 in
theorem ggX4_add_X4_isKind : GoodIn wsX4_add wsX4_isKind := goodIn_r _ [9] (by decide +kernel) (by decide +kernel)
set_option maxRecDepth 20000 in
theorem gX4_add_X4_isKind : GoodIn wsX4_add (va_wsS RX4 42 yX4_isKind wsX4_isKind) := goodIn_app (goodIn_of _ (by decide +kernel)) ggX4_add_X4_isKind
set_option maxRecDepth 20000 in
theorem ggX4_add_X0_isFull : GoodIn wsX4_add wsX0_isFull := goodIn_r _ [14, 15, 16, 33, 34] (by decide +kernel) (by decide +kernel)
set_option maxRecDepth 20000 in
theorem gX4_add_X0_isFull : GoodIn wsX4_add (wsV RX4 53 RX0 yX0_isFull wsX0_isFull) := goodIn_app (goodIn_of _ (by decide +kernel)) ggX4_add_X0_isFull
set_option maxRecDepth 20000 in
theorem ggX4_add_X0_append : GoodIn wsX4_add wsX0_append := goodIn_r _ [20, 16, 15, 21, 11, 12, 13, 14, 33, 34] (by decide +kernel) (by decide +kernel)
set_option maxRecDepth 20000 in
theorem gX4_add_X0_append : GoodIn wsX4_add (wsV RX4 62 RX0 yX0_append wsX0_append) := goodIn_app (goodIn_of _ (by decide +kernel)) ggX4_add_X0_append
set_option maxRecDepth 20000 in
theorem ggX4_add_X0_size : GoodIn wsX4_add wsX0_size := goodIn_r _ [25, 15, 33, 34] (by decide +kernel) (by decide +kernel)
set_option maxRecDepth 20000 in
theorem gX4_add_X0_size : GoodIn wsX4_add (wsV RX4 66 RX0 yX0_size wsX0_size) := goodIn_app (goodIn_of _ (by decide +kernel)) ggX4_add_X0_size
theorem dX4_add_0 : decode cX4_add 0 = .ok (.iload_n 1, 1) := by decide +kernel
theorem dX4_add_1 : decode cX4_add 1 = .ok (.invokestatic 42, 3) := by decide +kernel
theorem dX4_add_4 : decode cX4_add 4 = .ok (.ifCond .ne 13, 3) := by decide +kernel
theorem dX4_add_7 : decode cX4_add 7 = .ok (.new 46, 3) := by decide +kernel
theorem dX4_add_10 : decode cX4_add 10 = .ok (.dup, 1) := by decide +kernel
theorem dX4_add_11 : decode cX4_add 11 = .ok (.ldc 48, 2) := by decide +kernel
theorem dX4_add_13 : decode cX4_add 13 = .ok (.invokespecial 50, 3) := by decide +kernel
theorem dX4_add_16 : decode cX4_add 16 = .ok (.athrow, 1) := by decide +kernel
theorem dX4_add_17 : decode cX4_add 17 = .ok (.aload_n 0, 1) := by decide +kernel
theorem dX4_add_18 : decode cX4_add 18 = .ok (.getfield 10, 3) := by decide +kernel
theorem dX4_add_21 : decode cX4_add 21 = .ok (.invokevirtual 53, 3) := by decide +kernel
theorem dX4_add_24 : decode cX4_add 24 = .ok (.ifCond .eq 13, 3) := by decide +kernel
theorem dX4_add_27 : decode cX4_add 27 = .ok (.new 57, 3) := by decide +kernel
theorem dX4_add_30 : decode cX4_add 30 = .ok (.dup, 1) := by decide +kernel
theorem dX4_add_31 : decode cX4_add 31 = .ok (.ldc 59, 2) := by decide +kernel
theorem dX4_add_33 : decode cX4_add 33 = .ok (.invokespecial 61, 3) := by decide +kernel
theorem dX4_add_36 : decode cX4_add 36 = .ok (.athrow, 1) := by decide +kernel
theorem dX4_add_37 : decode cX4_add 37 = .ok (.aload_n 0, 1) := by decide +kernel
theorem dX4_add_38 : decode cX4_add 38 = .ok (.getfield 10, 3) := by decide +kernel
theorem dX4_add_41 : decode cX4_add 41 = .ok (.iload_n 1, 1) := by decide +kernel
theorem dX4_add_42 : decode cX4_add 42 = .ok (.invokevirtual 62, 3) := by decide +kernel
theorem dX4_add_45 : decode cX4_add 45 = .ok (.aload_n 0, 1) := by decide +kernel
theorem dX4_add_46 : decode cX4_add 46 = .ok (.getfield 10, 3) := by decide +kernel
theorem dX4_add_49 : decode cX4_add 49 = .ok (.invokevirtual 66, 3) := by decide +kernel
theorem dX4_add_52 : decode cX4_add 52 = .ok (.ireturn, 1) := by decide +kernel
set_option maxRecDepth 20000 in
theorem ggX4_drop_X0_hasPlace : GoodIn wsX4_drop wsX0_hasPlace := goodIn_r _ [8, 9, 27, 28] (by decide +kernel) (by decide +kernel)
set_option maxRecDepth 20000 in
theorem gX4_drop_X0_hasPlace : GoodIn wsX4_drop (wsV RX4 70 RX0 yX0_hasPlace wsX0_hasPlace) := goodIn_app (goodIn_of _ (by decide +kernel)) ggX4_drop_X0_hasPlace
set_option maxRecDepth 20000 in
theorem ggX4_drop_X0_kindAt : GoodIn wsX4_drop wsX0_kindAt := goodIn_r _ [13, 14, 15, 5, 6, 7, 8, 9, 27, 28] (by decide +kernel) (by decide +kernel)
set_option maxRecDepth 20000 in
theorem gX4_drop_X0_kindAt : GoodIn wsX4_drop (wsV RX4 75 RX0 yX0_kindAt wsX0_kindAt) := goodIn_app (goodIn_of _ (by decide +kernel)) ggX4_drop_X0_kindAt
set_option maxRecDepth 20000 in
theorem ggX4_drop_X0_takeOut : GoodIn wsX4_drop wsX0_takeOut := goodIn_r _ [19, 9, 14, 15, 5, 6, 7, 8, 27, 28] (by decide +kernel) (by decide +kernel)
set_option maxRecDepth 20000 in
theorem gX4_drop_X0_takeOut : GoodIn wsX4_drop (wsV RX4 79 RX0 yX0_takeOut wsX0_takeOut) := goodIn_app (goodIn_of _ (by decide +kernel)) ggX4_drop_X0_takeOut
theorem dX4_drop_0 : decode cX4_drop 0 = .ok (.aload_n 0, 1) := by decide +kernel
theorem dX4_drop_1 : decode cX4_drop 1 = .ok (.getfield 10, 3) := by decide +kernel
theorem dX4_drop_4 : decode cX4_drop 4 = .ok (.iload_n 1, 1) := by decide +kernel
theorem dX4_drop_5 : decode cX4_drop 5 = .ok (.invokevirtual 70, 3) := by decide +kernel
theorem dX4_drop_8 : decode cX4_drop 8 = .ok (.ifCond .ne 13, 3) := by decide +kernel
theorem dX4_drop_11 : decode cX4_drop 11 = .ok (.new 46, 3) := by decide +kernel
theorem dX4_drop_14 : decode cX4_drop 14 = .ok (.dup, 1) := by decide +kernel
theorem dX4_drop_15 : decode cX4_drop 15 = .ok (.ldc 73, 2) := by decide +kernel
theorem dX4_drop_17 : decode cX4_drop 17 = .ok (.invokespecial 50, 3) := by decide +kernel
theorem dX4_drop_20 : decode cX4_drop 20 = .ok (.athrow, 1) := by decide +kernel
theorem dX4_drop_21 : decode cX4_drop 21 = .ok (.aload_n 0, 1) := by decide +kernel
theorem dX4_drop_22 : decode cX4_drop 22 = .ok (.getfield 10, 3) := by decide +kernel
theorem dX4_drop_25 : decode cX4_drop 25 = .ok (.iload_n 1, 1) := by decide +kernel
theorem dX4_drop_26 : decode cX4_drop 26 = .ok (.invokevirtual 75, 3) := by decide +kernel
theorem dX4_drop_29 : decode cX4_drop 29 = .ok (.istore_n 2, 1) := by decide +kernel
theorem dX4_drop_30 : decode cX4_drop 30 = .ok (.aload_n 0, 1) := by decide +kernel
theorem dX4_drop_31 : decode cX4_drop 31 = .ok (.getfield 10, 3) := by decide +kernel
theorem dX4_drop_34 : decode cX4_drop 34 = .ok (.iload_n 1, 1) := by decide +kernel
theorem dX4_drop_35 : decode cX4_drop 35 = .ok (.invokevirtual 79, 3) := by decide +kernel
theorem dX4_drop_38 : decode cX4_drop 38 = .ok (.iload_n 2, 1) := by decide +kernel
theorem dX4_drop_39 : decode cX4_drop 39 = .ok (.ireturn, 1) := by decide +kernel
set_option maxRecDepth 20000 in
theorem ggX4_kind_X0_hasPlace : GoodIn wsX4_kind wsX0_hasPlace := goodIn_r _ [8, 9, 23, 24] (by decide +kernel) (by decide +kernel)
set_option maxRecDepth 20000 in
theorem gX4_kind_X0_hasPlace : GoodIn wsX4_kind (wsV RX4 70 RX0 yX0_hasPlace wsX0_hasPlace) := goodIn_app (goodIn_of _ (by decide +kernel)) ggX4_kind_X0_hasPlace
set_option maxRecDepth 20000 in
theorem ggX4_kind_X0_kindAt : GoodIn wsX4_kind wsX0_kindAt := goodIn_r _ [13, 14, 15, 5, 6, 7, 8, 9, 23, 24] (by decide +kernel) (by decide +kernel)
set_option maxRecDepth 20000 in
theorem gX4_kind_X0_kindAt : GoodIn wsX4_kind (wsV RX4 75 RX0 yX0_kindAt wsX0_kindAt) := goodIn_app (goodIn_of _ (by decide +kernel)) ggX4_kind_X0_kindAt
theorem dX4_kind_0 : decode cX4_kind 0 = .ok (.aload_n 0, 1) := by decide +kernel
theorem dX4_kind_1 : decode cX4_kind 1 = .ok (.getfield 10, 3) := by decide +kernel
theorem dX4_kind_4 : decode cX4_kind 4 = .ok (.iload_n 1, 1) := by decide +kernel
theorem dX4_kind_5 : decode cX4_kind 5 = .ok (.invokevirtual 70, 3) := by decide +kernel
theorem dX4_kind_8 : decode cX4_kind 8 = .ok (.ifCond .ne 13, 3) := by decide +kernel
theorem dX4_kind_11 : decode cX4_kind 11 = .ok (.new 46, 3) := by decide +kernel
theorem dX4_kind_14 : decode cX4_kind 14 = .ok (.dup, 1) := by decide +kernel
theorem dX4_kind_15 : decode cX4_kind 15 = .ok (.ldc 73, 2) := by decide +kernel
theorem dX4_kind_17 : decode cX4_kind 17 = .ok (.invokespecial 50, 3) := by decide +kernel
theorem dX4_kind_20 : decode cX4_kind 20 = .ok (.athrow, 1) := by decide +kernel
theorem dX4_kind_21 : decode cX4_kind 21 = .ok (.aload_n 0, 1) := by decide +kernel
theorem dX4_kind_22 : decode cX4_kind 22 = .ok (.getfield 10, 3) := by decide +kernel
theorem dX4_kind_25 : decode cX4_kind 25 = .ok (.iload_n 1, 1) := by decide +kernel
theorem dX4_kind_26 : decode cX4_kind 26 = .ok (.invokevirtual 75, 3) := by decide +kernel
theorem dX4_kind_29 : decode cX4_kind 29 = .ok (.ireturn, 1) := by decide +kernel
set_option maxRecDepth 20000 in
theorem ggX4_rule_X1_isFull : GoodIn wsX4_rule wsX1_isFull := goodIn_r _ [8, 9, 26, 27, 28] (by decide +kernel) (by decide +kernel)
set_option maxRecDepth 20000 in
theorem gX4_rule_X1_isFull : GoodIn wsX4_rule (wsV RX4 82 RX1 yX1_isFull wsX1_isFull) := goodIn_app (goodIn_of _ (by decide +kernel)) ggX4_rule_X1_isFull
set_option maxRecDepth 20000 in
theorem ggX4_rule_X1_append : GoodIn wsX4_rule wsX1_append := goodIn_r _ [13, 9, 14, 5, 6, 7, 8, 26, 27, 28] (by decide +kernel) (by decide +kernel)
set_option maxRecDepth 20000 in
theorem gX4_rule_X1_append : GoodIn wsX4_rule (wsV RX4 85 RX1 yX1_append wsX1_append) := goodIn_app (goodIn_of _ (by decide +kernel)) ggX4_rule_X1_append
set_option maxRecDepth 20000 in
theorem ggX4_rule_X1_size : GoodIn wsX4_rule wsX1_size := goodIn_r _ [18, 9, 26, 27, 28] (by decide +kernel) (by decide +kernel)
set_option maxRecDepth 20000 in
theorem gX4_rule_X1_size : GoodIn wsX4_rule (wsV RX4 87 RX1 yX1_size wsX1_size) := goodIn_app (goodIn_of _ (by decide +kernel)) ggX4_rule_X1_size
theorem dX4_rule_0 : decode cX4_rule 0 = .ok (.aload_n 0, 1) := by decide +kernel
theorem dX4_rule_1 : decode cX4_rule 1 = .ok (.getfield 19, 3) := by decide +kernel
theorem dX4_rule_4 : decode cX4_rule 4 = .ok (.invokevirtual 82, 3) := by decide +kernel
theorem dX4_rule_7 : decode cX4_rule 7 = .ok (.ifCond .eq 13, 3) := by decide +kernel
theorem dX4_rule_10 : decode cX4_rule 10 = .ok (.new 57, 3) := by decide +kernel
theorem dX4_rule_13 : decode cX4_rule 13 = .ok (.dup, 1) := by decide +kernel
theorem dX4_rule_14 : decode cX4_rule 14 = .ok (.ldc 83, 2) := by decide +kernel
theorem dX4_rule_16 : decode cX4_rule 16 = .ok (.invokespecial 61, 3) := by decide +kernel
theorem dX4_rule_19 : decode cX4_rule 19 = .ok (.athrow, 1) := by decide +kernel
theorem dX4_rule_20 : decode cX4_rule 20 = .ok (.aload_n 0, 1) := by decide +kernel
theorem dX4_rule_21 : decode cX4_rule 21 = .ok (.getfield 19, 3) := by decide +kernel
theorem dX4_rule_24 : decode cX4_rule 24 = .ok (.invokevirtual 85, 3) := by decide +kernel
theorem dX4_rule_27 : decode cX4_rule 27 = .ok (.aload_n 0, 1) := by decide +kernel
theorem dX4_rule_28 : decode cX4_rule 28 = .ok (.getfield 19, 3) := by decide +kernel
theorem dX4_rule_31 : decode cX4_rule 31 = .ok (.invokevirtual 87, 3) := by decide +kernel
theorem dX4_rule_34 : decode cX4_rule 34 = .ok (.iconst 1, 1) := by decide +kernel
theorem dX4_rule_35 : decode cX4_rule 35 = .ok (.isub, 1) := by decide +kernel
theorem dX4_rule_36 : decode cX4_rule 36 = .ok (.ireturn, 1) := by decide +kernel
set_option maxRecDepth 20000 in
theorem ggX4_setNeeds_X1_hasRule : GoodIn wsX4_setNeeds wsX1_hasRule := goodIn_r _ [10, 11, 44, 45, 46] (by decide +kernel) (by decide +kernel)
set_option maxRecDepth 20000 in
theorem gX4_setNeeds_X1_hasRule : GoodIn wsX4_setNeeds (wsV RX4 88 RX1 yX1_hasRule wsX1_hasRule) := goodIn_app (goodIn_of _ (by decide +kernel)) ggX4_setNeeds_X1_hasRule
set_option maxRecDepth 20000 in
theorem ggX4_setNeeds_X4_isKind : GoodIn wsX4_setNeeds wsX4_isKind := goodIn_r _ [15] (by decide +kernel) (by decide +kernel)
set_option maxRecDepth 20000 in
theorem gX4_setNeeds_X4_isKind : GoodIn wsX4_setNeeds (va_wsS RX4 42 yX4_isKind wsX4_isKind) := goodIn_app (goodIn_of _ (by decide +kernel)) ggX4_setNeeds_X4_isKind
set_option maxRecDepth 20000 in
theorem ggX4_setNeeds_X1_sparedBy : GoodIn wsX4_setNeeds wsX1_sparedBy := goodIn_r _ [19, 20, 21, 7, 8, 9, 10, 11, 44, 45, 46] (by decide +kernel) (by decide +kernel)
set_option maxRecDepth 20000 in
theorem gX4_setNeeds_X1_sparedBy : GoodIn wsX4_setNeeds (wsV RX4 93 RX1 yX1_sparedBy wsX1_sparedBy) := goodIn_app (goodIn_of _ (by decide +kernel)) ggX4_setNeeds_X1_sparedBy
set_option maxRecDepth 20000 in
theorem ggX4_setNeeds_X4_hasBit : GoodIn wsX4_setNeeds wsX4_hasBit := goodIn_r _ [24] (by decide +kernel) (by decide +kernel)
set_option maxRecDepth 20000 in
theorem gX4_setNeeds_X4_hasBit : GoodIn wsX4_setNeeds (va_wsS RX4 96 yX4_hasBit wsX4_hasBit) := goodIn_app (goodIn_of _ (by decide +kernel)) ggX4_setNeeds_X4_hasBit
set_option maxRecDepth 20000 in
theorem ggX4_setNeeds_X1_neededBy : GoodIn wsX4_setNeeds wsX1_neededBy := goodIn_r _ [28, 29, 21, 7, 8, 9, 10, 11, 44, 45, 46] (by decide +kernel) (by decide +kernel)
set_option maxRecDepth 20000 in
theorem gX4_setNeeds_X1_neededBy : GoodIn wsX4_setNeeds (wsV RX4 102 RX1 yX1_neededBy wsX1_neededBy) := goodIn_app (goodIn_of _ (by decide +kernel)) ggX4_setNeeds_X1_neededBy
set_option maxRecDepth 20000 in
theorem ggX4_setNeeds_X4_withBit : GoodIn wsX4_setNeeds wsX4_withBit := goodIn_r _ [32] (by decide +kernel) (by decide +kernel)
set_option maxRecDepth 20000 in
theorem gX4_setNeeds_X4_withBit : GoodIn wsX4_setNeeds (va_wsS RX4 105 yX4_withBit wsX4_withBit) := goodIn_app (goodIn_of _ (by decide +kernel)) ggX4_setNeeds_X4_withBit
set_option maxRecDepth 20000 in
theorem ggX4_setNeeds_X1_putNeeded : GoodIn wsX4_setNeeds wsX1_putNeeded := goodIn_r _ [36, 29, 21, 7, 8, 9, 10, 11, 44, 45, 46] (by decide +kernel) (by decide +kernel)
set_option maxRecDepth 20000 in
theorem gX4_setNeeds_X1_putNeeded : GoodIn wsX4_setNeeds (wsV RX4 109 RX1 yX1_putNeeded wsX1_putNeeded) := goodIn_app (goodIn_of _ (by decide +kernel)) ggX4_setNeeds_X1_putNeeded
theorem dX4_setNeeds_0 : decode cX4_setNeeds 0 = .ok (.aload_n 0, 1) := by decide +kernel
theorem dX4_setNeeds_1 : decode cX4_setNeeds 1 = .ok (.getfield 19, 3) := by decide +kernel
theorem dX4_setNeeds_4 : decode cX4_setNeeds 4 = .ok (.iload_n 1, 1) := by decide +kernel
theorem dX4_setNeeds_5 : decode cX4_setNeeds 5 = .ok (.invokevirtual 88, 3) := by decide +kernel
theorem dX4_setNeeds_8 : decode cX4_setNeeds 8 = .ok (.ifCond .eq 10, 3) := by decide +kernel
theorem dX4_setNeeds_11 : decode cX4_setNeeds 11 = .ok (.iload_n 2, 1) := by decide +kernel
theorem dX4_setNeeds_12 : decode cX4_setNeeds 12 = .ok (.invokestatic 42, 3) := by decide +kernel
theorem dX4_setNeeds_15 : decode cX4_setNeeds 15 = .ok (.ifCond .ne 13, 3) := by decide +kernel
theorem dX4_setNeeds_18 : decode cX4_setNeeds 18 = .ok (.new 46, 3) := by decide +kernel
theorem dX4_setNeeds_21 : decode cX4_setNeeds 21 = .ok (.dup, 1) := by decide +kernel
theorem dX4_setNeeds_22 : decode cX4_setNeeds 22 = .ok (.ldc 91, 2) := by decide +kernel
theorem dX4_setNeeds_24 : decode cX4_setNeeds 24 = .ok (.invokespecial 50, 3) := by decide +kernel
theorem dX4_setNeeds_27 : decode cX4_setNeeds 27 = .ok (.athrow, 1) := by decide +kernel
theorem dX4_setNeeds_28 : decode cX4_setNeeds 28 = .ok (.iload_n 3, 1) := by decide +kernel
theorem dX4_setNeeds_29 : decode cX4_setNeeds 29 = .ok (.ifCond .eq 28, 3) := by decide +kernel
theorem dX4_setNeeds_32 : decode cX4_setNeeds 32 = .ok (.aload_n 0, 1) := by decide +kernel
theorem dX4_setNeeds_33 : decode cX4_setNeeds 33 = .ok (.getfield 19, 3) := by decide +kernel
theorem dX4_setNeeds_36 : decode cX4_setNeeds 36 = .ok (.iload_n 1, 1) := by decide +kernel
theorem dX4_setNeeds_37 : decode cX4_setNeeds 37 = .ok (.invokevirtual 93, 3) := by decide +kernel
theorem dX4_setNeeds_40 : decode cX4_setNeeds 40 = .ok (.iload_n 2, 1) := by decide +kernel
theorem dX4_setNeeds_41 : decode cX4_setNeeds 41 = .ok (.invokestatic 96, 3) := by decide +kernel
theorem dX4_setNeeds_44 : decode cX4_setNeeds 44 = .ok (.ifCond .eq 13, 3) := by decide +kernel
theorem dX4_setNeeds_47 : decode cX4_setNeeds 47 = .ok (.new 57, 3) := by decide +kernel
theorem dX4_setNeeds_50 : decode cX4_setNeeds 50 = .ok (.dup, 1) := by decide +kernel
theorem dX4_setNeeds_51 : decode cX4_setNeeds 51 = .ok (.ldc 100, 2) := by decide +kernel
theorem dX4_setNeeds_53 : decode cX4_setNeeds 53 = .ok (.invokespecial 61, 3) := by decide +kernel
theorem dX4_setNeeds_56 : decode cX4_setNeeds 56 = .ok (.athrow, 1) := by decide +kernel
theorem dX4_setNeeds_57 : decode cX4_setNeeds 57 = .ok (.aload_n 0, 1) := by decide +kernel
theorem dX4_setNeeds_58 : decode cX4_setNeeds 58 = .ok (.getfield 19, 3) := by decide +kernel
theorem dX4_setNeeds_61 : decode cX4_setNeeds 61 = .ok (.iload_n 1, 1) := by decide +kernel
theorem dX4_setNeeds_62 : decode cX4_setNeeds 62 = .ok (.invokevirtual 102, 3) := by decide +kernel
theorem dX4_setNeeds_65 : decode cX4_setNeeds 65 = .ok (.iload_n 2, 1) := by decide +kernel
theorem dX4_setNeeds_66 : decode cX4_setNeeds 66 = .ok (.invokestatic 96, 3) := by decide +kernel
theorem dX4_setNeeds_69 : decode cX4_setNeeds 69 = .ok (.istore 4, 2) := by decide +kernel
theorem dX4_setNeeds_71 : decode cX4_setNeeds 71 = .ok (.aload_n 0, 1) := by decide +kernel
theorem dX4_setNeeds_72 : decode cX4_setNeeds 72 = .ok (.getfield 19, 3) := by decide +kernel
theorem dX4_setNeeds_75 : decode cX4_setNeeds 75 = .ok (.iload_n 1, 1) := by decide +kernel
theorem dX4_setNeeds_76 : decode cX4_setNeeds 76 = .ok (.aload_n 0, 1) := by decide +kernel
theorem dX4_setNeeds_77 : decode cX4_setNeeds 77 = .ok (.getfield 19, 3) := by decide +kernel
theorem dX4_setNeeds_80 : decode cX4_setNeeds 80 = .ok (.iload_n 1, 1) := by decide +kernel
theorem dX4_setNeeds_81 : decode cX4_setNeeds 81 = .ok (.invokevirtual 102, 3) := by decide +kernel
theorem dX4_setNeeds_84 : decode cX4_setNeeds 84 = .ok (.iload_n 2, 1) := by decide +kernel
theorem dX4_setNeeds_85 : decode cX4_setNeeds 85 = .ok (.iload_n 3, 1) := by decide +kernel
theorem dX4_setNeeds_86 : decode cX4_setNeeds 86 = .ok (.invokestatic 105, 3) := by decide +kernel
theorem dX4_setNeeds_89 : decode cX4_setNeeds 89 = .ok (.invokevirtual 109, 3) := by decide +kernel
theorem dX4_setNeeds_92 : decode cX4_setNeeds 92 = .ok (.iload 4, 2) := by decide +kernel
theorem dX4_setNeeds_94 : decode cX4_setNeeds 94 = .ok (.ireturn, 1) := by decide +kernel
set_option maxRecDepth 20000 in
theorem ggX4_setSpares_X1_hasRule : GoodIn wsX4_setSpares wsX1_hasRule := goodIn_r _ [10, 11, 44, 45, 46] (by decide +kernel) (by decide +kernel)
set_option maxRecDepth 20000 in
theorem gX4_setSpares_X1_hasRule : GoodIn wsX4_setSpares (wsV RX4 88 RX1 yX1_hasRule wsX1_hasRule) := goodIn_app (goodIn_of _ (by decide +kernel)) ggX4_setSpares_X1_hasRule
set_option maxRecDepth 20000 in
theorem ggX4_setSpares_X4_isKind : GoodIn wsX4_setSpares wsX4_isKind := goodIn_r _ [15] (by decide +kernel) (by decide +kernel)
set_option maxRecDepth 20000 in
theorem gX4_setSpares_X4_isKind : GoodIn wsX4_setSpares (va_wsS RX4 42 yX4_isKind wsX4_isKind) := goodIn_app (goodIn_of _ (by decide +kernel)) ggX4_setSpares_X4_isKind
set_option maxRecDepth 20000 in
theorem ggX4_setSpares_X1_neededBy : GoodIn wsX4_setSpares wsX1_neededBy := goodIn_r _ [19, 20, 21, 7, 8, 9, 10, 11, 44, 45, 46] (by decide +kernel) (by decide +kernel)
set_option maxRecDepth 20000 in
theorem gX4_setSpares_X1_neededBy : GoodIn wsX4_setSpares (wsV RX4 102 RX1 yX1_neededBy wsX1_neededBy) := goodIn_app (goodIn_of _ (by decide +kernel)) ggX4_setSpares_X1_neededBy
set_option maxRecDepth 20000 in
theorem ggX4_setSpares_X4_hasBit : GoodIn wsX4_setSpares wsX4_hasBit := goodIn_r _ [24] (by decide +kernel) (by decide +kernel)
set_option maxRecDepth 20000 in
theorem gX4_setSpares_X4_hasBit : GoodIn wsX4_setSpares (va_wsS RX4 96 yX4_hasBit wsX4_hasBit) := goodIn_app (goodIn_of _ (by decide +kernel)) ggX4_setSpares_X4_hasBit
set_option maxRecDepth 20000 in
theorem ggX4_setSpares_X1_sparedBy : GoodIn wsX4_setSpares wsX1_sparedBy := goodIn_r _ [28, 29, 21, 7, 8, 9, 10, 11, 44, 45, 46] (by decide +kernel) (by decide +kernel)
set_option maxRecDepth 20000 in
theorem gX4_setSpares_X1_sparedBy : GoodIn wsX4_setSpares (wsV RX4 93 RX1 yX1_sparedBy wsX1_sparedBy) := goodIn_app (goodIn_of _ (by decide +kernel)) ggX4_setSpares_X1_sparedBy
set_option maxRecDepth 20000 in
theorem ggX4_setSpares_X4_withBit : GoodIn wsX4_setSpares wsX4_withBit := goodIn_r _ [32] (by decide +kernel) (by decide +kernel)
set_option maxRecDepth 20000 in
theorem gX4_setSpares_X4_withBit : GoodIn wsX4_setSpares (va_wsS RX4 105 yX4_withBit wsX4_withBit) := goodIn_app (goodIn_of _ (by decide +kernel)) ggX4_setSpares_X4_withBit
set_option maxRecDepth 20000 in
theorem ggX4_setSpares_X1_putSpared : GoodIn wsX4_setSpares wsX1_putSpared := goodIn_r _ [36, 29, 21, 7, 8, 9, 10, 11, 44, 45, 46] (by decide +kernel) (by decide +kernel)
set_option maxRecDepth 20000 in
theorem gX4_setSpares_X1_putSpared : GoodIn wsX4_setSpares (wsV RX4 115 RX1 yX1_putSpared wsX1_putSpared) := goodIn_app (goodIn_of _ (by decide +kernel)) ggX4_setSpares_X1_putSpared
theorem dX4_setSpares_0 : decode cX4_setSpares 0 = .ok (.aload_n 0, 1) := by decide +kernel
theorem dX4_setSpares_1 : decode cX4_setSpares 1 = .ok (.getfield 19, 3) := by decide +kernel
theorem dX4_setSpares_4 : decode cX4_setSpares 4 = .ok (.iload_n 1, 1) := by decide +kernel
theorem dX4_setSpares_5 : decode cX4_setSpares 5 = .ok (.invokevirtual 88, 3) := by decide +kernel
theorem dX4_setSpares_8 : decode cX4_setSpares 8 = .ok (.ifCond .eq 10, 3) := by decide +kernel
theorem dX4_setSpares_11 : decode cX4_setSpares 11 = .ok (.iload_n 2, 1) := by decide +kernel
theorem dX4_setSpares_12 : decode cX4_setSpares 12 = .ok (.invokestatic 42, 3) := by decide +kernel
theorem dX4_setSpares_15 : decode cX4_setSpares 15 = .ok (.ifCond .ne 13, 3) := by decide +kernel
theorem dX4_setSpares_18 : decode cX4_setSpares 18 = .ok (.new 46, 3) := by decide +kernel
theorem dX4_setSpares_21 : decode cX4_setSpares 21 = .ok (.dup, 1) := by decide +kernel
theorem dX4_setSpares_22 : decode cX4_setSpares 22 = .ok (.ldc 91, 2) := by decide +kernel
theorem dX4_setSpares_24 : decode cX4_setSpares 24 = .ok (.invokespecial 50, 3) := by decide +kernel
theorem dX4_setSpares_27 : decode cX4_setSpares 27 = .ok (.athrow, 1) := by decide +kernel
theorem dX4_setSpares_28 : decode cX4_setSpares 28 = .ok (.iload_n 3, 1) := by decide +kernel
theorem dX4_setSpares_29 : decode cX4_setSpares 29 = .ok (.ifCond .eq 28, 3) := by decide +kernel
theorem dX4_setSpares_32 : decode cX4_setSpares 32 = .ok (.aload_n 0, 1) := by decide +kernel
theorem dX4_setSpares_33 : decode cX4_setSpares 33 = .ok (.getfield 19, 3) := by decide +kernel
theorem dX4_setSpares_36 : decode cX4_setSpares 36 = .ok (.iload_n 1, 1) := by decide +kernel
theorem dX4_setSpares_37 : decode cX4_setSpares 37 = .ok (.invokevirtual 102, 3) := by decide +kernel
theorem dX4_setSpares_40 : decode cX4_setSpares 40 = .ok (.iload_n 2, 1) := by decide +kernel
theorem dX4_setSpares_41 : decode cX4_setSpares 41 = .ok (.invokestatic 96, 3) := by decide +kernel
theorem dX4_setSpares_44 : decode cX4_setSpares 44 = .ok (.ifCond .eq 13, 3) := by decide +kernel
theorem dX4_setSpares_47 : decode cX4_setSpares 47 = .ok (.new 57, 3) := by decide +kernel
theorem dX4_setSpares_50 : decode cX4_setSpares 50 = .ok (.dup, 1) := by decide +kernel
theorem dX4_setSpares_51 : decode cX4_setSpares 51 = .ok (.ldc 113, 2) := by decide +kernel
theorem dX4_setSpares_53 : decode cX4_setSpares 53 = .ok (.invokespecial 61, 3) := by decide +kernel
theorem dX4_setSpares_56 : decode cX4_setSpares 56 = .ok (.athrow, 1) := by decide +kernel
theorem dX4_setSpares_57 : decode cX4_setSpares 57 = .ok (.aload_n 0, 1) := by decide +kernel
theorem dX4_setSpares_58 : decode cX4_setSpares 58 = .ok (.getfield 19, 3) := by decide +kernel
theorem dX4_setSpares_61 : decode cX4_setSpares 61 = .ok (.iload_n 1, 1) := by decide +kernel
theorem dX4_setSpares_62 : decode cX4_setSpares 62 = .ok (.invokevirtual 93, 3) := by decide +kernel
theorem dX4_setSpares_65 : decode cX4_setSpares 65 = .ok (.iload_n 2, 1) := by decide +kernel
theorem dX4_setSpares_66 : decode cX4_setSpares 66 = .ok (.invokestatic 96, 3) := by decide +kernel
theorem dX4_setSpares_69 : decode cX4_setSpares 69 = .ok (.istore 4, 2) := by decide +kernel
theorem dX4_setSpares_71 : decode cX4_setSpares 71 = .ok (.aload_n 0, 1) := by decide +kernel
theorem dX4_setSpares_72 : decode cX4_setSpares 72 = .ok (.getfield 19, 3) := by decide +kernel
theorem dX4_setSpares_75 : decode cX4_setSpares 75 = .ok (.iload_n 1, 1) := by decide +kernel
theorem dX4_setSpares_76 : decode cX4_setSpares 76 = .ok (.aload_n 0, 1) := by decide +kernel
theorem dX4_setSpares_77 : decode cX4_setSpares 77 = .ok (.getfield 19, 3) := by decide +kernel
theorem dX4_setSpares_80 : decode cX4_setSpares 80 = .ok (.iload_n 1, 1) := by decide +kernel
theorem dX4_setSpares_81 : decode cX4_setSpares 81 = .ok (.invokevirtual 93, 3) := by decide +kernel
theorem dX4_setSpares_84 : decode cX4_setSpares 84 = .ok (.iload_n 2, 1) := by decide +kernel
theorem dX4_setSpares_85 : decode cX4_setSpares 85 = .ok (.iload_n 3, 1) := by decide +kernel
theorem dX4_setSpares_86 : decode cX4_setSpares 86 = .ok (.invokestatic 105, 3) := by decide +kernel
theorem dX4_setSpares_89 : decode cX4_setSpares 89 = .ok (.invokevirtual 115, 3) := by decide +kernel
theorem dX4_setSpares_92 : decode cX4_setSpares 92 = .ok (.iload 4, 2) := by decide +kernel
theorem dX4_setSpares_94 : decode cX4_setSpares 94 = .ok (.ireturn, 1) := by decide +kernel
set_option maxRecDepth 20000 in
theorem ggX4_told_X1_hasRule : GoodIn wsX4_told wsX1_hasRule := goodIn_r _ [8, 9, 57, 58, 59] (by decide +kernel) (by decide +kernel)
set_option maxRecDepth 20000 in
theorem gX4_told_X1_hasRule : GoodIn wsX4_told (wsV RX4 88 RX1 yX1_hasRule wsX1_hasRule) := goodIn_app (goodIn_of _ (by decide +kernel)) ggX4_told_X1_hasRule
set_option maxRecDepth 20000 in
theorem ggX4_told_X4_ruleFact : GoodIn wsX4_told wsX4_ruleFact := goodIn_r _ [14, 3, 15, 16, 17, 18, 19, 7, 20, 21, 22, 5, 6, 8, 9, 23, 24, 25, 26, 27, 28, 29, 30, 31, 32, 33, 34, 35, 36, 37, 38, 39, 40, 41, 42, 43, 44, 45, 46, 47, 48, 49, 50, 51, 52, 53, 54, 55, 56, 57, 58, 59, 60, 61] (by decide +kernel) (by decide +kernel)
set_option maxRecDepth 20000 in
theorem gX4_told_X4_ruleFact : GoodIn wsX4_told (wsV RX4 120 RX4 yX4_ruleFact wsX4_ruleFact) := goodIn_app (goodIn_of _ (by decide +kernel)) ggX4_told_X4_ruleFact
theorem dX4_told_0 : decode cX4_told 0 = .ok (.aload_n 0, 1) := by decide +kernel
theorem dX4_told_1 : decode cX4_told 1 = .ok (.getfield 19, 3) := by decide +kernel
theorem dX4_told_4 : decode cX4_told 4 = .ok (.iload_n 1, 1) := by decide +kernel
theorem dX4_told_5 : decode cX4_told 5 = .ok (.invokevirtual 88, 3) := by decide +kernel
theorem dX4_told_8 : decode cX4_told 8 = .ok (.ifCond .eq 12, 3) := by decide +kernel
theorem dX4_told_11 : decode cX4_told 11 = .ok (.iload_n 2, 1) := by decide +kernel
theorem dX4_told_12 : decode cX4_told 12 = .ok (.ifCond .lt 8, 3) := by decide +kernel
theorem dX4_told_15 : decode cX4_told 15 = .ok (.iload_n 2, 1) := by decide +kernel
theorem dX4_told_16 : decode cX4_told 16 = .ok (.iconst 5, 1) := by decide +kernel
theorem dX4_told_17 : decode cX4_told 17 = .ok (.if_icmp .lt 13, 3) := by decide +kernel
theorem dX4_told_20 : decode cX4_told 20 = .ok (.new 46, 3) := by decide +kernel
theorem dX4_told_23 : decode cX4_told 23 = .ok (.dup, 1) := by decide +kernel
theorem dX4_told_24 : decode cX4_told 24 = .ok (.ldc 118, 2) := by decide +kernel
theorem dX4_told_26 : decode cX4_told 26 = .ok (.invokespecial 50, 3) := by decide +kernel
theorem dX4_told_29 : decode cX4_told 29 = .ok (.athrow, 1) := by decide +kernel
theorem dX4_told_30 : decode cX4_told 30 = .ok (.aload_n 0, 1) := by decide +kernel
theorem dX4_told_31 : decode cX4_told 31 = .ok (.iload_n 1, 1) := by decide +kernel
theorem dX4_told_32 : decode cX4_told 32 = .ok (.iload_n 2, 1) := by decide +kernel
theorem dX4_told_33 : decode cX4_told 33 = .ok (.invokevirtual 120, 3) := by decide +kernel
theorem dX4_told_36 : decode cX4_told 36 = .ok (.ireturn, 1) := by decide +kernel
set_option maxRecDepth 20000 in
theorem ggX4_spoils_X0_hasDish : GoodIn wsX4_spoils wsX0_hasDish := goodIn_r _ [8, 9, 40, 41] (by decide +kernel) (by decide +kernel)
set_option maxRecDepth 20000 in
theorem gX4_spoils_X0_hasDish : GoodIn wsX4_spoils (wsV RX4 124 RX0 yX0_hasDish wsX0_hasDish) := goodIn_app (goodIn_of _ (by decide +kernel)) ggX4_spoils_X0_hasDish
set_option maxRecDepth 20000 in
theorem ggX4_spoils_X4_isSpoiled : GoodIn wsX4_spoils wsX4_isSpoiled := goodIn_r _ [14, 15, 3, 16, 17, 18, 7, 19, 9, 20, 21, 22, 23, 24, 25, 26, 27, 28, 29, 30, 31, 32, 33, 34, 35, 36, 37, 38, 39, 40, 41, 42, 43, 44] (by decide +kernel) (by decide +kernel)
set_option maxRecDepth 20000 in
theorem gX4_spoils_X4_isSpoiled : GoodIn wsX4_spoils (wsV RX4 132 RX4 yX4_isSpoiled wsX4_isSpoiled) := goodIn_app (goodIn_of _ (by decide +kernel)) ggX4_spoils_X4_isSpoiled
theorem dX4_spoils_0 : decode cX4_spoils 0 = .ok (.aload_n 0, 1) := by decide +kernel
theorem dX4_spoils_1 : decode cX4_spoils 1 = .ok (.getfield 10, 3) := by decide +kernel
theorem dX4_spoils_4 : decode cX4_spoils 4 = .ok (.iload_n 1, 1) := by decide +kernel
theorem dX4_spoils_5 : decode cX4_spoils 5 = .ok (.invokevirtual 124, 3) := by decide +kernel
theorem dX4_spoils_8 : decode cX4_spoils 8 = .ok (.ifCond .ne 13, 3) := by decide +kernel
theorem dX4_spoils_11 : decode cX4_spoils 11 = .ok (.new 127, 3) := by decide +kernel
theorem dX4_spoils_14 : decode cX4_spoils 14 = .ok (.dup, 1) := by decide +kernel
theorem dX4_spoils_15 : decode cX4_spoils 15 = .ok (.ldc 129, 2) := by decide +kernel
theorem dX4_spoils_17 : decode cX4_spoils 17 = .ok (.invokespecial 131, 3) := by decide +kernel
theorem dX4_spoils_20 : decode cX4_spoils 20 = .ok (.athrow, 1) := by decide +kernel
theorem dX4_spoils_21 : decode cX4_spoils 21 = .ok (.aload_n 0, 1) := by decide +kernel
theorem dX4_spoils_22 : decode cX4_spoils 22 = .ok (.iload_n 1, 1) := by decide +kernel
theorem dX4_spoils_23 : decode cX4_spoils 23 = .ok (.invokevirtual 132, 3) := by decide +kernel
theorem dX4_spoils_26 : decode cX4_spoils 26 = .ok (.ireturn, 1) := by decide +kernel
set_option maxRecDepth 20000 in
theorem ggX4_shrink_X0_wholeDish : GoodIn wsX4_shrink wsX0_wholeDish := goodIn_r _ [10, 11, 121, 122] (by decide +kernel) (by decide +kernel)
set_option maxRecDepth 20000 in
theorem gX4_shrink_X0_wholeDish : GoodIn wsX4_shrink (wsV RX4 135 RX0 yX0_wholeDish wsX0_wholeDish) := goodIn_app (goodIn_of _ (by decide +kernel)) ggX4_shrink_X0_wholeDish
set_option maxRecDepth 20000 in
theorem ggX4_shrink_X2_goByHalves : GoodIn wsX4_shrink wsX2_goByHalves := goodIn_r _ [16, 17, 18, 19, 20, 15, 21, 22, 23, 24, 25, 26, 27, 28, 29, 30, 31, 32, 33, 34, 35, 36, 37, 38, 39, 40, 41, 42, 43, 44, 45, 46, 9, 47, 11, 48, 49, 50, 51, 52, 53, 54, 55, 56, 57, 58, 59, 60, 61, 62, 63, 64, 65, 66, 67, 68, 69, 70, 71, 72, 73, 74, 75, 76, 77, 78, 79, 80, 81, 82, 83, 84, 85, 86, 87, 88, 89, 90, 91, 92, 93, 94, 95, 96, 97, 98, 99, 100, 101, 102, 103, 104, 123, 124, 125, 126, 127, 128, 129, 130, 131, 132, 133, 121, 122, 134, 135, 136] (by decide +kernel) (by decide +kernel)
set_option maxRecDepth 20000 in
theorem gX4_shrink_X2_goByHalves : GoodIn wsX4_shrink (wsV RX4 138 RX2 yX2_goByHalves wsX2_goByHalves) := goodIn_app (goodIn_of _ (by decide +kernel)) ggX4_shrink_X2_goByHalves
set_option maxRecDepth 20000 in
theorem ggX4_shrink_X2_list : GoodIn wsX4_shrink wsX2_list := goodIn_r _ [108, 22, 123, 124, 125, 126, 127, 128] (by decide +kernel) (by decide +kernel)
set_option maxRecDepth 20000 in
theorem gX4_shrink_X2_list : GoodIn wsX4_shrink (wsV RX4 142 RX2 yX2_list wsX2_list) := goodIn_app (goodIn_of _ (by decide +kernel)) ggX4_shrink_X2_list
set_option maxRecDepth 20000 in
theorem ggX4_shrink_X0_kindsOf : GoodIn wsX4_shrink wsX0_kindsOf := goodIn_r _ [47, 11, 48, 121, 122] (by decide +kernel) (by decide +kernel)
set_option maxRecDepth 20000 in
theorem gX4_shrink_X0_kindsOf : GoodIn wsX4_shrink (wsV RX4 145 RX0 yX0_kindsOf wsX0_kindsOf) := goodIn_app (goodIn_of _ (by decide +kernel)) ggX4_shrink_X0_kindsOf
set_option maxRecDepth 20000 in
theorem ggX4_shrink_X2_tastings : GoodIn wsX4_shrink wsX2_tastings := goodIn_r _ [113, 17, 123, 124, 125, 126, 127, 128] (by decide +kernel) (by decide +kernel)
set_option maxRecDepth 20000 in
theorem gX4_shrink_X2_tastings : GoodIn wsX4_shrink (wsV RX4 155 RX2 yX2_tastings wsX2_tastings) := goodIn_app (goodIn_of _ (by decide +kernel)) ggX4_shrink_X2_tastings
theorem dX4_shrink_0 : decode cX4_shrink 0 = .ok (.aload_n 0, 1) := by decide +kernel
theorem dX4_shrink_1 : decode cX4_shrink 1 = .ok (.getfield 35, 3) := by decide +kernel
theorem dX4_shrink_4 : decode cX4_shrink 4 = .ok (.aload_n 0, 1) := by decide +kernel
theorem dX4_shrink_5 : decode cX4_shrink 5 = .ok (.getfield 28, 3) := by decide +kernel
theorem dX4_shrink_8 : decode cX4_shrink 8 = .ok (.aload_n 0, 1) := by decide +kernel
theorem dX4_shrink_9 : decode cX4_shrink 9 = .ok (.getfield 10, 3) := by decide +kernel
theorem dX4_shrink_12 : decode cX4_shrink 12 = .ok (.invokevirtual 135, 3) := by decide +kernel
theorem dX4_shrink_15 : decode cX4_shrink 15 = .ok (.invokevirtual 138, 3) := by decide +kernel
theorem dX4_shrink_18 : decode cX4_shrink 18 = .ok (.aload_n 0, 1) := by decide +kernel
theorem dX4_shrink_19 : decode cX4_shrink 19 = .ok (.aload_n 0, 1) := by decide +kernel
theorem dX4_shrink_20 : decode cX4_shrink 20 = .ok (.getfield 10, 3) := by decide +kernel
theorem dX4_shrink_23 : decode cX4_shrink 23 = .ok (.aload_n 0, 1) := by decide +kernel
theorem dX4_shrink_24 : decode cX4_shrink 24 = .ok (.getfield 35, 3) := by decide +kernel
theorem dX4_shrink_27 : decode cX4_shrink 27 = .ok (.invokevirtual 142, 3) := by decide +kernel
theorem dX4_shrink_30 : decode cX4_shrink 30 = .ok (.invokevirtual 145, 3) := by decide +kernel
theorem dX4_shrink_33 : decode cX4_shrink 33 = .ok (.putfield 148, 3) := by decide +kernel
theorem dX4_shrink_36 : decode cX4_shrink 36 = .ok (.aload_n 0, 1) := by decide +kernel
theorem dX4_shrink_37 : decode cX4_shrink 37 = .ok (.dup, 1) := by decide +kernel
theorem dX4_shrink_38 : decode cX4_shrink 38 = .ok (.getfield 152, 3) := by decide +kernel
theorem dX4_shrink_41 : decode cX4_shrink 41 = .ok (.aload_n 0, 1) := by decide +kernel
theorem dX4_shrink_42 : decode cX4_shrink 42 = .ok (.getfield 35, 3) := by decide +kernel
theorem dX4_shrink_45 : decode cX4_shrink 45 = .ok (.invokevirtual 155, 3) := by decide +kernel
theorem dX4_shrink_48 : decode cX4_shrink 48 = .ok (.iadd, 1) := by decide +kernel
theorem dX4_shrink_49 : decode cX4_shrink 49 = .ok (.putfield 152, 3) := by decide +kernel
theorem dX4_shrink_52 : decode cX4_shrink 52 = .ok (.aload_n 0, 1) := by decide +kernel
theorem dX4_shrink_53 : decode cX4_shrink 53 = .ok (.getfield 35, 3) := by decide +kernel
theorem dX4_shrink_56 : decode cX4_shrink 56 = .ok (.invokevirtual 155, 3) := by decide +kernel
theorem dX4_shrink_59 : decode cX4_shrink 59 = .ok (.ireturn, 1) := by decide +kernel
set_option maxRecDepth 20000 in
theorem ggX4_kept_X2_listSize : GoodIn wsX4_kept wsX2_listSize := goodIn_r _ [8, 9, 10, 11, 12, 13, 14, 15, 16, 28, 29, 30, 31, 32, 33] (by decide +kernel) (by decide +kernel)
set_option maxRecDepth 20000 in
theorem gX4_kept_X2_listSize : GoodIn wsX4_kept (wsV RX4 158 RX2 yX2_listSize wsX2_listSize) := goodIn_app (goodIn_of _ (by decide +kernel)) ggX4_kept_X2_listSize
set_option maxRecDepth 20000 in
theorem ggX4_kept_X2_listPlace : GoodIn wsX4_kept wsX2_listPlace := goodIn_r _ [20, 9, 28, 29, 30, 31, 32, 33] (by decide +kernel) (by decide +kernel)
set_option maxRecDepth 20000 in
theorem gX4_kept_X2_listPlace : GoodIn wsX4_kept (wsV RX4 163 RX2 yX2_listPlace wsX2_listPlace) := goodIn_app (goodIn_of _ (by decide +kernel)) ggX4_kept_X2_listPlace
theorem dX4_kept_0 : decode cX4_kept 0 = .ok (.iload_n 1, 1) := by decide +kernel
theorem dX4_kept_1 : decode cX4_kept 1 = .ok (.ifCond .lt 14, 3) := by decide +kernel
theorem dX4_kept_4 : decode cX4_kept 4 = .ok (.iload_n 1, 1) := by decide +kernel
theorem dX4_kept_5 : decode cX4_kept 5 = .ok (.aload_n 0, 1) := by decide +kernel
theorem dX4_kept_6 : decode cX4_kept 6 = .ok (.getfield 35, 3) := by decide +kernel
theorem dX4_kept_9 : decode cX4_kept 9 = .ok (.invokevirtual 158, 3) := by decide +kernel
theorem dX4_kept_12 : decode cX4_kept 12 = .ok (.if_icmp .lt 13, 3) := by decide +kernel
theorem dX4_kept_15 : decode cX4_kept 15 = .ok (.new 46, 3) := by decide +kernel
theorem dX4_kept_18 : decode cX4_kept 18 = .ok (.dup, 1) := by decide +kernel
theorem dX4_kept_19 : decode cX4_kept 19 = .ok (.ldc 161, 2) := by decide +kernel
theorem dX4_kept_21 : decode cX4_kept 21 = .ok (.invokespecial 50, 3) := by decide +kernel
theorem dX4_kept_24 : decode cX4_kept 24 = .ok (.athrow, 1) := by decide +kernel
theorem dX4_kept_25 : decode cX4_kept 25 = .ok (.aload_n 0, 1) := by decide +kernel
theorem dX4_kept_26 : decode cX4_kept 26 = .ok (.getfield 35, 3) := by decide +kernel
theorem dX4_kept_29 : decode cX4_kept 29 = .ok (.iload_n 1, 1) := by decide +kernel
theorem dX4_kept_30 : decode cX4_kept 30 = .ok (.invokevirtual 163, 3) := by decide +kernel
theorem dX4_kept_33 : decode cX4_kept 33 = .ok (.ireturn, 1) := by decide +kernel
set_option maxRecDepth 20000 in
theorem ggX4_step_X2_steps : GoodIn wsX4_step wsX2_steps := goodIn_r _ [8, 9, 22, 23, 24, 25, 26, 27] (by decide +kernel) (by decide +kernel)
set_option maxRecDepth 20000 in
theorem gX4_step_X2_steps : GoodIn wsX4_step (wsV RX4 166 RX2 yX2_steps wsX2_steps) := goodIn_app (goodIn_of _ (by decide +kernel)) ggX4_step_X2_steps
set_option maxRecDepth 20000 in
theorem ggX4_step_X2_stepFact : GoodIn wsX4_step wsX2_stepFact := goodIn_r _ [13, 9, 14, 22, 23, 24, 25, 26, 27] (by decide +kernel) (by decide +kernel)
set_option maxRecDepth 20000 in
theorem gX4_step_X2_stepFact : GoodIn wsX4_step (wsV RX4 171 RX2 yX2_stepFact wsX2_stepFact) := goodIn_app (goodIn_of _ (by decide +kernel)) ggX4_step_X2_stepFact
theorem dX4_step_0 : decode cX4_step 0 = .ok (.iload_n 1, 1) := by decide +kernel
theorem dX4_step_1 : decode cX4_step 1 = .ok (.ifCond .lt 23, 3) := by decide +kernel
theorem dX4_step_4 : decode cX4_step 4 = .ok (.iload_n 1, 1) := by decide +kernel
theorem dX4_step_5 : decode cX4_step 5 = .ok (.aload_n 0, 1) := by decide +kernel
theorem dX4_step_6 : decode cX4_step 6 = .ok (.getfield 35, 3) := by decide +kernel
theorem dX4_step_9 : decode cX4_step 9 = .ok (.invokevirtual 166, 3) := by decide +kernel
theorem dX4_step_12 : decode cX4_step 12 = .ok (.if_icmp .ge 12, 3) := by decide +kernel
theorem dX4_step_15 : decode cX4_step 15 = .ok (.iload_n 2, 1) := by decide +kernel
theorem dX4_step_16 : decode cX4_step 16 = .ok (.ifCond .lt 8, 3) := by decide +kernel
theorem dX4_step_19 : decode cX4_step 19 = .ok (.iload_n 2, 1) := by decide +kernel
theorem dX4_step_20 : decode cX4_step 20 = .ok (.iconst 5, 1) := by decide +kernel
theorem dX4_step_21 : decode cX4_step 21 = .ok (.if_icmp .lt 13, 3) := by decide +kernel
theorem dX4_step_24 : decode cX4_step 24 = .ok (.new 46, 3) := by decide +kernel
theorem dX4_step_27 : decode cX4_step 27 = .ok (.dup, 1) := by decide +kernel
theorem dX4_step_28 : decode cX4_step 28 = .ok (.ldc 169, 2) := by decide +kernel
theorem dX4_step_30 : decode cX4_step 30 = .ok (.invokespecial 50, 3) := by decide +kernel
theorem dX4_step_33 : decode cX4_step 33 = .ok (.athrow, 1) := by decide +kernel
theorem dX4_step_34 : decode cX4_step 34 = .ok (.aload_n 0, 1) := by decide +kernel
theorem dX4_step_35 : decode cX4_step 35 = .ok (.getfield 35, 3) := by decide +kernel
theorem dX4_step_38 : decode cX4_step 38 = .ok (.iload_n 1, 1) := by decide +kernel
theorem dX4_step_39 : decode cX4_step 39 = .ok (.iload_n 2, 1) := by decide +kernel
theorem dX4_step_40 : decode cX4_step 40 = .ok (.invokevirtual 171, 3) := by decide +kernel
theorem dX4_step_43 : decode cX4_step 43 = .ok (.ireturn, 1) := by decide +kernel
set_option maxRecDepth 20000 in
theorem ggX4_count_X4_countFact : GoodIn wsX4_count wsX4_countFact := goodIn_r _ [7, 8, 9, 10, 11, 12, 13, 14, 15, 16, 17, 18, 19, 20, 21, 22, 23, 24, 25, 26, 27, 28, 29, 30, 31, 32, 33, 34, 35, 36, 37, 38, 39, 40, 41, 42, 43, 44, 45, 46, 47, 48, 49, 50, 51, 52, 53, 54, 55, 56, 57, 58, 59, 60, 61, 62, 63, 64, 65, 66, 67, 68, 69, 70, 71, 72, 73, 74, 75, 76, 77, 78, 79, 80, 81, 82, 83] (by decide +kernel) (by decide +kernel)
set_option maxRecDepth 20000 in
theorem gX4_count_X4_countFact : GoodIn wsX4_count (wsV RX4 176 RX4 yX4_countFact wsX4_countFact) := goodIn_app (goodIn_of _ (by decide +kernel)) ggX4_count_X4_countFact
theorem dX4_count_0 : decode cX4_count 0 = .ok (.iload_n 1, 1) := by decide +kernel
theorem dX4_count_1 : decode cX4_count 1 = .ok (.ifCond .lt 9, 3) := by decide +kernel
theorem dX4_count_4 : decode cX4_count 4 = .ok (.iload_n 1, 1) := by decide +kernel
theorem dX4_count_5 : decode cX4_count 5 = .ok (.bipush 7, 2) := by decide +kernel
theorem dX4_count_7 : decode cX4_count 7 = .ok (.if_icmp .lt 13, 3) := by decide +kernel
theorem dX4_count_10 : decode cX4_count 10 = .ok (.new 46, 3) := by decide +kernel
theorem dX4_count_13 : decode cX4_count 13 = .ok (.dup, 1) := by decide +kernel
theorem dX4_count_14 : decode cX4_count 14 = .ok (.ldc 174, 2) := by decide +kernel
theorem dX4_count_16 : decode cX4_count 16 = .ok (.invokespecial 50, 3) := by decide +kernel
theorem dX4_count_19 : decode cX4_count 19 = .ok (.athrow, 1) := by decide +kernel
theorem dX4_count_20 : decode cX4_count 20 = .ok (.aload_n 0, 1) := by decide +kernel
theorem dX4_count_21 : decode cX4_count 21 = .ok (.iload_n 1, 1) := by decide +kernel
theorem dX4_count_22 : decode cX4_count 22 = .ok (.invokevirtual 176, 3) := by decide +kernel
theorem dX4_count_25 : decode cX4_count 25 = .ok (.ireturn, 1) := by decide +kernel
set_option maxRecDepth 20000 in
theorem ggX4_would_X0_wholeDish : GoodIn wsX4_would wsX0_wholeDish := goodIn_r _ [10, 11, 128, 129] (by decide +kernel) (by decide +kernel)
set_option maxRecDepth 20000 in
theorem gX4_would_X0_wholeDish : GoodIn wsX4_would (wsV RX4 135 RX0 yX0_wholeDish wsX0_wholeDish) := goodIn_app (goodIn_of _ (by decide +kernel)) ggX4_would_X0_wholeDish
set_option maxRecDepth 20000 in
theorem ggX4_would_X2_goByHalves : GoodIn wsX4_would wsX2_goByHalves := goodIn_r _ [16, 17, 18, 19, 20, 15, 21, 22, 23, 24, 25, 26, 27, 28, 29, 30, 31, 32, 33, 34, 35, 36, 37, 38, 39, 40, 41, 42, 43, 44, 45, 46, 9, 47, 11, 48, 49, 50, 51, 52, 53, 54, 55, 56, 57, 58, 59, 60, 61, 62, 63, 64, 65, 66, 67, 68, 69, 70, 71, 72, 73, 74, 75, 76, 77, 78, 79, 80, 81, 82, 83, 84, 85, 86, 87, 88, 89, 90, 91, 92, 93, 94, 95, 96, 97, 98, 99, 100, 101, 102, 103, 104, 130, 131, 132, 133, 134, 135, 136, 137, 138, 139, 140, 128, 129, 141, 142, 143] (by decide +kernel) (by decide +kernel)
set_option maxRecDepth 20000 in
theorem gX4_would_X2_goByHalves : GoodIn wsX4_would (wsV RX4 138 RX2 yX2_goByHalves wsX2_goByHalves) := goodIn_app (goodIn_of _ (by decide +kernel)) ggX4_would_X2_goByHalves
set_option maxRecDepth 20000 in
theorem ggX4_would_X2_goOneByOne : GoodIn wsX4_would wsX2_goOneByOne := goodIn_r _ [108, 22, 17, 18, 19, 20, 15, 21, 23, 24, 25, 26, 27, 28, 29, 30, 31, 32, 33, 34, 35, 36, 37, 38, 39, 40, 41, 42, 43, 44, 45, 46, 9, 47, 11, 48, 49, 50, 51, 52, 53, 54, 55, 56, 57, 58, 59, 60, 101, 102, 103, 104, 130, 131, 132, 133, 134, 135, 136, 137, 138, 139, 140, 128, 129, 141, 142, 143] (by decide +kernel) (by decide +kernel)
set_option maxRecDepth 20000 in
theorem gX4_would_X2_goOneByOne : GoodIn wsX4_would (wsV RX4 181 RX2 yX2_goOneByOne wsX2_goOneByOne) := goodIn_app (goodIn_of _ (by decide +kernel)) ggX4_would_X2_goOneByOne
set_option maxRecDepth 20000 in
theorem ggX4_would_X2_list : GoodIn wsX4_would wsX2_list := goodIn_r _ [112, 22, 130, 131, 132, 133, 134, 135] (by decide +kernel) (by decide +kernel)
set_option maxRecDepth 20000 in
theorem gX4_would_X2_list : GoodIn wsX4_would (wsV RX4 142 RX2 yX2_list wsX2_list) := goodIn_app (goodIn_of _ (by decide +kernel)) ggX4_would_X2_list
set_option maxRecDepth 20000 in
theorem ggX4_would_X2_steps : GoodIn wsX4_would wsX2_steps := goodIn_r _ [116, 24, 130, 131, 132, 133, 134, 135] (by decide +kernel) (by decide +kernel)
set_option maxRecDepth 20000 in
theorem gX4_would_X2_steps : GoodIn wsX4_would (wsV RX4 166 RX2 yX2_steps wsX2_steps) := goodIn_app (goodIn_of _ (by decide +kernel)) ggX4_would_X2_steps
set_option maxRecDepth 20000 in
theorem ggX4_would_X2_tastings : GoodIn wsX4_would wsX2_tastings := goodIn_r _ [120, 17, 130, 131, 132, 133, 134, 135] (by decide +kernel) (by decide +kernel)
set_option maxRecDepth 20000 in
theorem gX4_would_X2_tastings : GoodIn wsX4_would (wsV RX4 155 RX2 yX2_tastings wsX2_tastings) := goodIn_app (goodIn_of _ (by decide +kernel)) ggX4_would_X2_tastings
theorem dX4_would_0 : decode cX4_would 0 = .ok (.iload_n 1, 1) := by decide +kernel
theorem dX4_would_1 : decode cX4_would 1 = .ok (.ifCond .lt 8, 3) := by decide +kernel
theorem dX4_would_4 : decode cX4_would 4 = .ok (.iload_n 1, 1) := by decide +kernel
theorem dX4_would_5 : decode cX4_would 5 = .ok (.iconst 5, 1) := by decide +kernel
theorem dX4_would_6 : decode cX4_would 6 = .ok (.if_icmp .lt 13, 3) := by decide +kernel
theorem dX4_would_9 : decode cX4_would 9 = .ok (.new 46, 3) := by decide +kernel
theorem dX4_would_12 : decode cX4_would 12 = .ok (.dup, 1) := by decide +kernel
theorem dX4_would_13 : decode cX4_would 13 = .ok (.ldc 179, 2) := by decide +kernel
theorem dX4_would_15 : decode cX4_would 15 = .ok (.invokespecial 50, 3) := by decide +kernel
theorem dX4_would_18 : decode cX4_would 18 = .ok (.athrow, 1) := by decide +kernel
theorem dX4_would_19 : decode cX4_would 19 = .ok (.iload_n 1, 1) := by decide +kernel
theorem dX4_would_20 : decode cX4_would 20 = .ok (.iconst 2, 1) := by decide +kernel
theorem dX4_would_21 : decode cX4_would 21 = .ok (.if_icmp .gt 24, 3) := by decide +kernel
theorem dX4_would_24 : decode cX4_would 24 = .ok (.aload_n 0, 1) := by decide +kernel
theorem dX4_would_25 : decode cX4_would 25 = .ok (.getfield 39, 3) := by decide +kernel
theorem dX4_would_28 : decode cX4_would 28 = .ok (.aload_n 0, 1) := by decide +kernel
theorem dX4_would_29 : decode cX4_would 29 = .ok (.getfield 28, 3) := by decide +kernel
theorem dX4_would_32 : decode cX4_would 32 = .ok (.aload_n 0, 1) := by decide +kernel
theorem dX4_would_33 : decode cX4_would 33 = .ok (.getfield 10, 3) := by decide +kernel
theorem dX4_would_36 : decode cX4_would 36 = .ok (.invokevirtual 135, 3) := by decide +kernel
theorem dX4_would_39 : decode cX4_would 39 = .ok (.invokevirtual 138, 3) := by decide +kernel
theorem dX4_would_42 : decode cX4_would 42 = .ok (.goto 21, 3) := by decide +kernel
theorem dX4_would_45 : decode cX4_would 45 = .ok (.aload_n 0, 1) := by decide +kernel
theorem dX4_would_46 : decode cX4_would 46 = .ok (.getfield 39, 3) := by decide +kernel
theorem dX4_would_49 : decode cX4_would 49 = .ok (.aload_n 0, 1) := by decide +kernel
theorem dX4_would_50 : decode cX4_would 50 = .ok (.getfield 28, 3) := by decide +kernel
theorem dX4_would_53 : decode cX4_would 53 = .ok (.aload_n 0, 1) := by decide +kernel
theorem dX4_would_54 : decode cX4_would 54 = .ok (.getfield 10, 3) := by decide +kernel
theorem dX4_would_57 : decode cX4_would 57 = .ok (.invokevirtual 135, 3) := by decide +kernel
theorem dX4_would_60 : decode cX4_would 60 = .ok (.invokevirtual 181, 3) := by decide +kernel
theorem dX4_would_63 : decode cX4_would 63 = .ok (.iload_n 1, 1) := by decide +kernel
theorem dX4_would_64 : decode cX4_would 64 = .ok (.tableswitch 48 0 3 #[32, 48, 40, 32], 32) := by decide +kernel
theorem dX4_would_96 : decode cX4_would 96 = .ok (.aload_n 0, 1) := by decide +kernel
theorem dX4_would_97 : decode cX4_would 97 = .ok (.getfield 39, 3) := by decide +kernel
theorem dX4_would_100 : decode cX4_would 100 = .ok (.invokevirtual 142, 3) := by decide +kernel
theorem dX4_would_103 : decode cX4_would 103 = .ok (.ireturn, 1) := by decide +kernel
theorem dX4_would_104 : decode cX4_would 104 = .ok (.aload_n 0, 1) := by decide +kernel
theorem dX4_would_105 : decode cX4_would 105 = .ok (.getfield 39, 3) := by decide +kernel
theorem dX4_would_108 : decode cX4_would 108 = .ok (.invokevirtual 166, 3) := by decide +kernel
theorem dX4_would_111 : decode cX4_would 111 = .ok (.ireturn, 1) := by decide +kernel
theorem dX4_would_112 : decode cX4_would 112 = .ok (.aload_n 0, 1) := by decide +kernel
theorem dX4_would_113 : decode cX4_would 113 = .ok (.getfield 39, 3) := by decide +kernel
theorem dX4_would_116 : decode cX4_would 116 = .ok (.invokevirtual 155, 3) := by decide +kernel
theorem dX4_would_119 : decode cX4_would 119 = .ok (.ireturn, 1) := by decide +kernel
set_option maxRecDepth 20000 in
theorem ggX4_least_X0_wholeDish : GoodIn wsX4_least wsX0_wholeDish := goodIn_r _ [7, 8, 35, 36] (by decide +kernel) (by decide +kernel)
set_option maxRecDepth 20000 in
theorem gX4_least_X0_wholeDish : GoodIn wsX4_least (wsV RX4 135 RX0 yX0_wholeDish wsX0_wholeDish) := goodIn_app (goodIn_of _ (by decide +kernel)) ggX4_least_X0_wholeDish
set_option maxRecDepth 20000 in
theorem ggX4_least_X0_kindsOf : GoodIn wsX4_least wsX0_kindsOf := goodIn_r _ [12, 8, 13, 35, 36] (by decide +kernel) (by decide +kernel)
set_option maxRecDepth 20000 in
theorem gX4_least_X0_kindsOf : GoodIn wsX4_least (wsV RX4 145 RX0 yX0_kindsOf wsX0_kindsOf) := goodIn_app (goodIn_of _ (by decide +kernel)) ggX4_least_X0_kindsOf
set_option maxRecDepth 20000 in
theorem ggX4_least_X1_leastNeeded : GoodIn wsX4_least wsX1_leastNeeded := goodIn_r _ [18, 19, 20, 21, 22, 23, 24, 25, 26, 27, 37, 38, 39] (by decide +kernel) (by decide +kernel)
set_option maxRecDepth 20000 in
theorem gX4_least_X1_leastNeeded : GoodIn wsX4_least (wsV RX4 184 RX1 yX1_leastNeeded wsX1_leastNeeded) := goodIn_app (goodIn_of _ (by decide +kernel)) ggX4_least_X1_leastNeeded
theorem dX4_least_0 : decode cX4_least 0 = .ok (.aload_n 0, 1) := by decide +kernel
theorem dX4_least_1 : decode cX4_least 1 = .ok (.getfield 19, 3) := by decide +kernel
theorem dX4_least_4 : decode cX4_least 4 = .ok (.aload_n 0, 1) := by decide +kernel
theorem dX4_least_5 : decode cX4_least 5 = .ok (.getfield 10, 3) := by decide +kernel
theorem dX4_least_8 : decode cX4_least 8 = .ok (.aload_n 0, 1) := by decide +kernel
theorem dX4_least_9 : decode cX4_least 9 = .ok (.getfield 10, 3) := by decide +kernel
theorem dX4_least_12 : decode cX4_least 12 = .ok (.invokevirtual 135, 3) := by decide +kernel
theorem dX4_least_15 : decode cX4_least 15 = .ok (.invokevirtual 145, 3) := by decide +kernel
theorem dX4_least_18 : decode cX4_least 18 = .ok (.invokevirtual 184, 3) := by decide +kernel
theorem dX4_least_21 : decode cX4_least 21 = .ok (.ireturn, 1) := by decide +kernel
set_option maxRecDepth 20000 in
theorem ggX4_isTight_X0_hasDish : GoodIn wsX4_isTight wsX0_hasDish := goodIn_r _ [8, 9, 46, 47] (by decide +kernel) (by decide +kernel)
set_option maxRecDepth 20000 in
theorem gX4_isTight_X0_hasDish : GoodIn wsX4_isTight (wsV RX4 124 RX0 yX0_hasDish wsX0_hasDish) := goodIn_app (goodIn_of _ (by decide +kernel)) ggX4_isTight_X0_hasDish
set_option maxRecDepth 20000 in
theorem ggX4_isTight_X4_isSpoiled : GoodIn wsX4_isTight wsX4_isSpoiled := goodIn_r _ [14, 15, 3, 16, 17, 18, 7, 19, 9, 20, 21, 22, 23, 24, 25, 26, 27, 28, 29, 30, 31, 32, 39, 40, 41, 42, 43, 44, 45, 46, 47, 48, 49, 50] (by decide +kernel) (by decide +kernel)
set_option maxRecDepth 20000 in
theorem gX4_isTight_X4_isSpoiled : GoodIn wsX4_isTight (wsV RX4 132 RX4 yX4_isSpoiled wsX4_isSpoiled) := goodIn_app (goodIn_of _ (by decide +kernel)) ggX4_isTight_X4_isSpoiled
set_option maxRecDepth 20000 in
theorem ggX4_isTight_X4_hasBit : GoodIn wsX4_isTight wsX4_hasBit := goodIn_r _ [35] (by decide +kernel) (by decide +kernel)
set_option maxRecDepth 20000 in
theorem gX4_isTight_X4_hasBit : GoodIn wsX4_isTight (va_wsS RX4 96 yX4_hasBit wsX4_hasBit) := goodIn_app (goodIn_of _ (by decide +kernel)) ggX4_isTight_X4_hasBit
set_option maxRecDepth 20000 in
theorem ggX4_isTight_X4_withBit : GoodIn wsX4_isTight wsX4_withBit := goodIn_r _ [38] (by decide +kernel) (by decide +kernel)
set_option maxRecDepth 20000 in
theorem gX4_isTight_X4_withBit : GoodIn wsX4_isTight (va_wsS RX4 105 yX4_withBit wsX4_withBit) := goodIn_app (goodIn_of _ (by decide +kernel)) ggX4_isTight_X4_withBit
theorem dX4_isTight_0 : decode cX4_isTight 0 = .ok (.aload_n 0, 1) := by decide +kernel
theorem dX4_isTight_1 : decode cX4_isTight 1 = .ok (.getfield 10, 3) := by decide +kernel
theorem dX4_isTight_4 : decode cX4_isTight 4 = .ok (.iload_n 1, 1) := by decide +kernel
theorem dX4_isTight_5 : decode cX4_isTight 5 = .ok (.invokevirtual 124, 3) := by decide +kernel
theorem dX4_isTight_8 : decode cX4_isTight 8 = .ok (.ifCond .ne 13, 3) := by decide +kernel
theorem dX4_isTight_11 : decode cX4_isTight 11 = .ok (.new 127, 3) := by decide +kernel
theorem dX4_isTight_14 : decode cX4_isTight 14 = .ok (.dup, 1) := by decide +kernel
theorem dX4_isTight_15 : decode cX4_isTight 15 = .ok (.ldc 129, 2) := by decide +kernel
theorem dX4_isTight_17 : decode cX4_isTight 17 = .ok (.invokespecial 131, 3) := by decide +kernel
theorem dX4_isTight_20 : decode cX4_isTight 20 = .ok (.athrow, 1) := by decide +kernel
theorem dX4_isTight_21 : decode cX4_isTight 21 = .ok (.aload_n 0, 1) := by decide +kernel
theorem dX4_isTight_22 : decode cX4_isTight 22 = .ok (.iload_n 1, 1) := by decide +kernel
theorem dX4_isTight_23 : decode cX4_isTight 23 = .ok (.invokevirtual 132, 3) := by decide +kernel
theorem dX4_isTight_26 : decode cX4_isTight 26 = .ok (.ifCond .ne 5, 3) := by decide +kernel
theorem dX4_isTight_29 : decode cX4_isTight 29 = .ok (.iconst 0, 1) := by decide +kernel
theorem dX4_isTight_30 : decode cX4_isTight 30 = .ok (.ireturn, 1) := by decide +kernel
theorem dX4_isTight_31 : decode cX4_isTight 31 = .ok (.iconst 0, 1) := by decide +kernel
theorem dX4_isTight_32 : decode cX4_isTight 32 = .ok (.istore_n 2, 1) := by decide +kernel
theorem dX4_isTight_33 : decode cX4_isTight 33 = .ok (.iload_n 2, 1) := by decide +kernel
theorem dX4_isTight_34 : decode cX4_isTight 34 = .ok (.bipush 24, 2) := by decide +kernel
theorem dX4_isTight_36 : decode cX4_isTight 36 = .ok (.if_icmp .ge 32, 3) := by decide +kernel
theorem dX4_isTight_39 : decode cX4_isTight 39 = .ok (.iload_n 1, 1) := by decide +kernel
theorem dX4_isTight_40 : decode cX4_isTight 40 = .ok (.iload_n 2, 1) := by decide +kernel
theorem dX4_isTight_41 : decode cX4_isTight 41 = .ok (.invokestatic 96, 3) := by decide +kernel
theorem dX4_isTight_44 : decode cX4_isTight 44 = .ok (.ifCond .eq 18, 3) := by decide +kernel
theorem dX4_isTight_47 : decode cX4_isTight 47 = .ok (.aload_n 0, 1) := by decide +kernel
theorem dX4_isTight_48 : decode cX4_isTight 48 = .ok (.iload_n 1, 1) := by decide +kernel
theorem dX4_isTight_49 : decode cX4_isTight 49 = .ok (.iload_n 2, 1) := by decide +kernel
theorem dX4_isTight_50 : decode cX4_isTight 50 = .ok (.iconst 0, 1) := by decide +kernel
theorem dX4_isTight_51 : decode cX4_isTight 51 = .ok (.invokestatic 105, 3) := by decide +kernel
theorem dX4_isTight_54 : decode cX4_isTight 54 = .ok (.invokevirtual 132, 3) := by decide +kernel
theorem dX4_isTight_57 : decode cX4_isTight 57 = .ok (.ifCond .eq 5, 3) := by decide +kernel
theorem dX4_isTight_60 : decode cX4_isTight 60 = .ok (.iconst 0, 1) := by decide +kernel
theorem dX4_isTight_61 : decode cX4_isTight 61 = .ok (.ireturn, 1) := by decide +kernel
theorem dX4_isTight_62 : decode cX4_isTight 62 = .ok (.iinc 2 1, 3) := by decide +kernel
theorem dX4_isTight_65 : decode cX4_isTight 65 = .ok (.goto (-32), 3) := by decide +kernel
theorem dX4_isTight_68 : decode cX4_isTight 68 = .ok (.iconst 1, 1) := by decide +kernel
theorem dX4_isTight_69 : decode cX4_isTight 69 = .ok (.ireturn, 1) := by decide +kernel
set_option maxRecDepth 20000 in
theorem ggX4_advise_X0_size : GoodIn wsX4_advise wsX0_size := goodIn_r _ [8, 9, 122, 123] (by decide +kernel) (by decide +kernel)
set_option maxRecDepth 20000 in
theorem gX4_advise_X0_size : GoodIn wsX4_advise (wsV RX4 66 RX0 yX0_size wsX0_size) := goodIn_app (goodIn_of _ (by decide +kernel)) ggX4_advise_X0_size
set_option maxRecDepth 20000 in
theorem ggX4_advise_X0_wholeDish : GoodIn wsX4_advise wsX0_wholeDish := goodIn_r _ [13, 9, 122, 123] (by decide +kernel) (by decide +kernel)
set_option maxRecDepth 20000 in
theorem gX4_advise_X0_wholeDish : GoodIn wsX4_advise (wsV RX4 135 RX0 yX0_wholeDish wsX0_wholeDish) := goodIn_app (goodIn_of _ (by decide +kernel)) ggX4_advise_X0_wholeDish
set_option maxRecDepth 20000 in
theorem ggX4_advise_X4_withBit : GoodIn wsX4_advise wsX4_withBit := goodIn_r _ [17] (by decide +kernel) (by decide +kernel)
set_option maxRecDepth 20000 in
theorem gX4_advise_X4_withBit : GoodIn wsX4_advise (va_wsS RX4 105 yX4_withBit wsX4_withBit) := goodIn_app (goodIn_of _ (by decide +kernel)) ggX4_advise_X4_withBit
set_option maxRecDepth 20000 in
theorem ggX4_advise_X2_goByHalves : GoodIn wsX4_advise wsX2_goByHalves := goodIn_r _ [22, 23, 24, 25, 26, 21, 27, 28, 29, 30, 31, 32, 33, 34, 35, 36, 37, 38, 39, 40, 41, 42, 43, 44, 45, 46, 47, 48, 49, 50, 51, 52, 7, 53, 9, 54, 55, 56, 57, 58, 59, 60, 61, 62, 63, 64, 65, 66, 67, 68, 69, 70, 71, 72, 73, 74, 75, 76, 77, 78, 79, 80, 81, 82, 83, 84, 85, 86, 87, 88, 89, 90, 91, 92, 93, 94, 95, 96, 97, 98, 99, 100, 101, 102, 103, 104, 105, 106, 107, 108, 109, 110, 124, 125, 126, 127, 128, 129, 130, 131, 132, 133, 134, 122, 123, 135, 136, 137] (by decide +kernel) (by decide +kernel)
set_option maxRecDepth 20000 in
theorem gX4_advise_X2_goByHalves : GoodIn wsX4_advise (wsV RX4 138 RX2 yX2_goByHalves wsX2_goByHalves) := goodIn_app (goodIn_of _ (by decide +kernel)) ggX4_advise_X2_goByHalves
set_option maxRecDepth 20000 in
theorem ggX4_advise_X2_tastings : GoodIn wsX4_advise wsX2_tastings := goodIn_r _ [114, 23, 124, 125, 126, 127, 128, 129] (by decide +kernel) (by decide +kernel)
set_option maxRecDepth 20000 in
theorem gX4_advise_X2_tastings : GoodIn wsX4_advise (wsV RX4 155 RX2 yX2_tastings wsX2_tastings) := goodIn_app (goodIn_of _ (by decide +kernel)) ggX4_advise_X2_tastings
theorem dX4_advise_0 : decode cX4_advise 0 = .ok (.iconst (-1), 1) := by decide +kernel
theorem dX4_advise_1 : decode cX4_advise 1 = .ok (.istore_n 1, 1) := by decide +kernel
theorem dX4_advise_2 : decode cX4_advise 2 = .ok (.iconst 0, 1) := by decide +kernel
theorem dX4_advise_3 : decode cX4_advise 3 = .ok (.istore_n 2, 1) := by decide +kernel
theorem dX4_advise_4 : decode cX4_advise 4 = .ok (.iconst 0, 1) := by decide +kernel
theorem dX4_advise_5 : decode cX4_advise 5 = .ok (.istore_n 3, 1) := by decide +kernel
theorem dX4_advise_6 : decode cX4_advise 6 = .ok (.iload_n 3, 1) := by decide +kernel
theorem dX4_advise_7 : decode cX4_advise 7 = .ok (.aload_n 0, 1) := by decide +kernel
theorem dX4_advise_8 : decode cX4_advise 8 = .ok (.getfield 10, 3) := by decide +kernel
theorem dX4_advise_11 : decode cX4_advise 11 = .ok (.invokevirtual 66, 3) := by decide +kernel
theorem dX4_advise_14 : decode cX4_advise 14 = .ok (.if_icmp .ge 57, 3) := by decide +kernel
theorem dX4_advise_17 : decode cX4_advise 17 = .ok (.aload_n 0, 1) := by decide +kernel
theorem dX4_advise_18 : decode cX4_advise 18 = .ok (.getfield 39, 3) := by decide +kernel
theorem dX4_advise_21 : decode cX4_advise 21 = .ok (.aload_n 0, 1) := by decide +kernel
theorem dX4_advise_22 : decode cX4_advise 22 = .ok (.getfield 28, 3) := by decide +kernel
theorem dX4_advise_25 : decode cX4_advise 25 = .ok (.aload_n 0, 1) := by decide +kernel
theorem dX4_advise_26 : decode cX4_advise 26 = .ok (.getfield 10, 3) := by decide +kernel
theorem dX4_advise_29 : decode cX4_advise 29 = .ok (.invokevirtual 135, 3) := by decide +kernel
theorem dX4_advise_32 : decode cX4_advise 32 = .ok (.iload_n 3, 1) := by decide +kernel
theorem dX4_advise_33 : decode cX4_advise 33 = .ok (.iconst 0, 1) := by decide +kernel
theorem dX4_advise_34 : decode cX4_advise 34 = .ok (.invokestatic 105, 3) := by decide +kernel
theorem dX4_advise_37 : decode cX4_advise 37 = .ok (.invokevirtual 138, 3) := by decide +kernel
theorem dX4_advise_40 : decode cX4_advise 40 = .ok (.iload_n 1, 1) := by decide +kernel
theorem dX4_advise_41 : decode cX4_advise 41 = .ok (.ifCond .lt 14, 3) := by decide +kernel
theorem dX4_advise_44 : decode cX4_advise 44 = .ok (.aload_n 0, 1) := by decide +kernel
theorem dX4_advise_45 : decode cX4_advise 45 = .ok (.getfield 39, 3) := by decide +kernel
theorem dX4_advise_48 : decode cX4_advise 48 = .ok (.invokevirtual 155, 3) := by decide +kernel
theorem dX4_advise_51 : decode cX4_advise 51 = .ok (.iload_n 2, 1) := by decide +kernel
theorem dX4_advise_52 : decode cX4_advise 52 = .ok (.if_icmp .ge 13, 3) := by decide +kernel
theorem dX4_advise_55 : decode cX4_advise 55 = .ok (.aload_n 0, 1) := by decide +kernel
theorem dX4_advise_56 : decode cX4_advise 56 = .ok (.getfield 39, 3) := by decide +kernel
theorem dX4_advise_59 : decode cX4_advise 59 = .ok (.invokevirtual 155, 3) := by decide +kernel
theorem dX4_advise_62 : decode cX4_advise 62 = .ok (.istore_n 2, 1) := by decide +kernel
theorem dX4_advise_63 : decode cX4_advise 63 = .ok (.iload_n 3, 1) := by decide +kernel
theorem dX4_advise_64 : decode cX4_advise 64 = .ok (.istore_n 1, 1) := by decide +kernel
theorem dX4_advise_65 : decode cX4_advise 65 = .ok (.iinc 3 1, 3) := by decide +kernel
theorem dX4_advise_68 : decode cX4_advise 68 = .ok (.goto (-62), 3) := by decide +kernel
theorem dX4_advise_71 : decode cX4_advise 71 = .ok (.iload_n 1, 1) := by decide +kernel
theorem dX4_advise_72 : decode cX4_advise 72 = .ok (.ireturn, 1) := by decide +kernel
set_option maxRecDepth 20000 in
theorem ggX4_mean_X1_size : GoodIn wsX4_mean wsX1_size := goodIn_r _ [6, 7, 31, 32, 33] (by decide +kernel) (by decide +kernel)
set_option maxRecDepth 20000 in
theorem gX4_mean_X1_size : GoodIn wsX4_mean (wsV RX4 87 RX1 yX1_size wsX1_size) := goodIn_app (goodIn_of _ (by decide +kernel)) ggX4_mean_X1_size
set_option maxRecDepth 20000 in
theorem ggX4_mean_X1_neededBy : GoodIn wsX4_mean wsX1_neededBy := goodIn_r _ [11, 12, 13, 14, 15, 5, 16, 7, 31, 32, 33] (by decide +kernel) (by decide +kernel)
set_option maxRecDepth 20000 in
theorem gX4_mean_X1_neededBy : GoodIn wsX4_mean (wsV RX4 102 RX1 yX1_neededBy wsX1_neededBy) := goodIn_app (goodIn_of _ (by decide +kernel)) ggX4_mean_X1_neededBy
set_option maxRecDepth 20000 in
theorem ggX4_mean_J6_bitCount_0f7a4 : GoodIn wsX4_mean wsJ6_bitCount_0f7a4 := goodIn_r _ [20, 21, 22, 23] (by decide +kernel) (by decide +kernel)
set_option maxRecDepth 20000 in
theorem gX4_mean_J6_bitCount_0f7a4 : GoodIn wsX4_mean (va_wsS RX4 187 yJ6_bitCount_0f7a4 wsJ6_bitCount_0f7a4) := goodIn_app (goodIn_of _ (by decide +kernel)) ggX4_mean_J6_bitCount_0f7a4
theorem dX4_mean_0 : decode cX4_mean 0 = .ok (.aload_n 0, 1) := by decide +kernel
theorem dX4_mean_1 : decode cX4_mean 1 = .ok (.getfield 19, 3) := by decide +kernel
theorem dX4_mean_4 : decode cX4_mean 4 = .ok (.invokevirtual 87, 3) := by decide +kernel
theorem dX4_mean_7 : decode cX4_mean 7 = .ok (.istore_n 1, 1) := by decide +kernel
theorem dX4_mean_8 : decode cX4_mean 8 = .ok (.iload_n 1, 1) := by decide +kernel
theorem dX4_mean_9 : decode cX4_mean 9 = .ok (.ifCond .ne 5, 3) := by decide +kernel
theorem dX4_mean_12 : decode cX4_mean 12 = .ok (.dconst 0, 1) := by decide +kernel
theorem dX4_mean_13 : decode cX4_mean 13 = .ok (.dreturn, 1) := by decide +kernel
theorem dX4_mean_14 : decode cX4_mean 14 = .ok (.iconst 0, 1) := by decide +kernel
theorem dX4_mean_15 : decode cX4_mean 15 = .ok (.istore_n 2, 1) := by decide +kernel
theorem dX4_mean_16 : decode cX4_mean 16 = .ok (.iconst 0, 1) := by decide +kernel
theorem dX4_mean_17 : decode cX4_mean 17 = .ok (.istore_n 3, 1) := by decide +kernel
theorem dX4_mean_18 : decode cX4_mean 18 = .ok (.iload_n 3, 1) := by decide +kernel
theorem dX4_mean_19 : decode cX4_mean 19 = .ok (.iload_n 1, 1) := by decide +kernel
theorem dX4_mean_20 : decode cX4_mean 20 = .ok (.if_icmp .ge 23, 3) := by decide +kernel
theorem dX4_mean_23 : decode cX4_mean 23 = .ok (.iload_n 2, 1) := by decide +kernel
theorem dX4_mean_24 : decode cX4_mean 24 = .ok (.aload_n 0, 1) := by decide +kernel
theorem dX4_mean_25 : decode cX4_mean 25 = .ok (.getfield 19, 3) := by decide +kernel
theorem dX4_mean_28 : decode cX4_mean 28 = .ok (.iload_n 3, 1) := by decide +kernel
theorem dX4_mean_29 : decode cX4_mean 29 = .ok (.invokevirtual 102, 3) := by decide +kernel
theorem dX4_mean_32 : decode cX4_mean 32 = .ok (.invokestatic 187, 3) := by decide +kernel
theorem dX4_mean_35 : decode cX4_mean 35 = .ok (.iadd, 1) := by decide +kernel
theorem dX4_mean_36 : decode cX4_mean 36 = .ok (.istore_n 2, 1) := by decide +kernel
theorem dX4_mean_37 : decode cX4_mean 37 = .ok (.iinc 3 1, 3) := by decide +kernel
theorem dX4_mean_40 : decode cX4_mean 40 = .ok (.goto (-22), 3) := by decide +kernel
theorem dX4_mean_43 : decode cX4_mean 43 = .ok (.iload_n 2, 1) := by decide +kernel
theorem dX4_mean_44 : decode cX4_mean 44 = .ok (.i2d, 1) := by decide +kernel
theorem dX4_mean_45 : decode cX4_mean 45 = .ok (.iload_n 1, 1) := by decide +kernel
theorem dX4_mean_46 : decode cX4_mean 46 = .ok (.i2d, 1) := by decide +kernel
theorem dX4_mean_47 : decode cX4_mean 47 = .ok (.ddiv, 1) := by decide +kernel
theorem dX4_mean_48 : decode cX4_mean 48 = .ok (.dreturn, 1) := by decide +kernel
set_option maxRecDepth 20000 in
theorem ggX4_digest_X4_digestState : GoodIn wsX4_digest wsX4_digestState := goodIn_r _ [10, 4, 5, 11, 12, 13, 9, 14, 15, 16, 17, 18, 19, 20, 21, 22, 23, 24, 25, 26, 27, 28, 29, 30, 31, 32, 33, 34, 35, 36, 37, 38, 39, 40, 41, 42, 43, 44, 45, 46, 47, 48, 49, 50, 51, 52, 53, 54, 55, 56, 57, 58, 59, 60, 61, 62, 63, 64, 65, 66, 67, 68, 69, 70, 71, 72, 73, 74, 75, 76, 77, 78, 79, 80, 81, 82, 83, 84, 85, 86, 87, 88, 89, 90, 91, 92, 93, 94, 95, 96, 97, 98, 99, 100, 101, 194, 195, 196, 197, 198, 199, 200, 201, 202, 203, 204, 205, 206, 207, 208, 209, 210, 211] (by decide +kernel) (by decide +kernel)
set_option maxRecDepth 20000 in
theorem gX4_digest_X4_digestState : GoodIn wsX4_digest (wsV RX4 194 RX4 yX4_digestState wsX4_digestState) := goodIn_app (goodIn_of _ (by decide +kernel)) ggX4_digest_X4_digestState
set_option maxRecDepth 20000 in
theorem ggX4_digest_X4_digestKept : GoodIn wsX4_digest wsX4_digestKept := goodIn_r _ [105, 15, 48, 49, 50, 51, 52, 53, 54, 55, 56, 57, 58, 59, 60, 106, 107, 108, 109, 71, 72, 9, 73, 74, 61, 62, 63, 64, 65, 110, 111, 112, 113, 114, 194, 195, 196, 197, 198, 199, 200, 206, 207, 208, 209, 210, 211] (by decide +kernel) (by decide +kernel)
set_option maxRecDepth 20000 in
theorem gX4_digest_X4_digestKept : GoodIn wsX4_digest (wsV RX4 198 RX4 yX4_digestKept wsX4_digestKept) := goodIn_app (goodIn_of _ (by decide +kernel)) ggX4_digest_X4_digestKept
set_option maxRecDepth 20000 in
theorem ggX4_digest_X0_wholeDish : GoodIn wsX4_digest wsX0_wholeDish := goodIn_r _ [32, 22, 201, 202] (by decide +kernel) (by decide +kernel)
set_option maxRecDepth 20000 in
theorem gX4_digest_X0_wholeDish : GoodIn wsX4_digest (wsV RX4 135 RX0 yX0_wholeDish wsX0_wholeDish) := goodIn_app (goodIn_of _ (by decide +kernel)) ggX4_digest_X0_wholeDish
set_option maxRecDepth 20000 in
theorem ggX4_digest_X2_goByHalves : GoodIn wsX4_digest wsX2_goByHalves := goodIn_r _ [118, 70, 119, 120, 121, 51, 122, 53, 123, 65, 124, 125, 126, 127, 128, 129, 130, 131, 132, 133, 134, 135, 136, 137, 138, 139, 140, 141, 142, 143, 34, 35, 20, 36, 22, 37, 144, 39, 40, 26, 41, 28, 42, 43, 44, 45, 46, 47, 145, 146, 147, 148, 149, 150, 151, 152, 153, 154, 155, 54, 55, 56, 57, 58, 59, 60, 156, 157, 158, 159, 160, 161, 162, 163, 164, 165, 166, 167, 168, 169, 170, 171, 172, 114, 173, 174, 175, 176, 177, 178, 179, 180, 206, 207, 208, 209, 210, 211, 212, 213, 214, 215, 216, 201, 202, 203, 204, 205] (by decide +kernel) (by decide +kernel)
set_option maxRecDepth 20000 in
theorem gX4_digest_X2_goByHalves : GoodIn wsX4_digest (wsV RX4 138 RX2 yX2_goByHalves wsX2_goByHalves) := goodIn_app (goodIn_of _ (by decide +kernel)) ggX4_digest_X2_goByHalves
set_option maxRecDepth 20000 in
theorem ggX4_digest_X2_list : GoodIn wsX4_digest wsX2_list := goodIn_r _ [184, 53, 206, 207, 208, 209, 210, 211] (by decide +kernel) (by decide +kernel)
set_option maxRecDepth 20000 in
theorem gX4_digest_X2_list : GoodIn wsX4_digest (wsV RX4 142 RX2 yX2_list wsX2_list) := goodIn_app (goodIn_of _ (by decide +kernel)) ggX4_digest_X2_list
set_option maxRecDepth 20000 in
theorem ggX4_digest_X4_mixed : GoodIn wsX4_digest wsX4_mixed := goodIn_r _ [73, 74] (by decide +kernel) (by decide +kernel)
set_option maxRecDepth 20000 in
theorem gX4_digest_X4_mixed : GoodIn wsX4_digest (va_wsS RX4 201 yX4_mixed wsX4_mixed) := goodIn_app (goodIn_of _ (by decide +kernel)) ggX4_digest_X4_mixed
set_option maxRecDepth 20000 in
theorem ggX4_digest_X2_tastings : GoodIn wsX4_digest wsX2_tastings := goodIn_r _ [69, 70, 206, 207, 208, 209, 210, 211] (by decide +kernel) (by decide +kernel)
set_option maxRecDepth 20000 in
theorem gX4_digest_X2_tastings : GoodIn wsX4_digest (wsV RX4 155 RX2 yX2_tastings wsX2_tastings) := goodIn_app (goodIn_of _ (by decide +kernel)) ggX4_digest_X2_tastings
set_option maxRecDepth 20000 in
theorem ggX4_digest_X2_steps : GoodIn wsX4_digest wsX2_steps := goodIn_r _ [64, 65, 206, 207, 208, 209, 210, 211] (by decide +kernel) (by decide +kernel)
set_option maxRecDepth 20000 in
theorem gX4_digest_X2_steps : GoodIn wsX4_digest (wsV RX4 166 RX2 yX2_steps wsX2_steps) := goodIn_app (goodIn_of _ (by decide +kernel)) ggX4_digest_X2_steps
set_option maxRecDepth 20000 in
theorem ggX4_digest_X2_goOneByOne : GoodIn wsX4_digest wsX2_goOneByOne := goodIn_r _ [188, 53, 70, 119, 120, 121, 51, 122, 123, 65, 124, 125, 126, 127, 128, 129, 130, 131, 132, 133, 134, 135, 136, 137, 138, 139, 140, 141, 142, 143, 34, 35, 20, 36, 22, 37, 144, 39, 40, 26, 41, 28, 42, 43, 44, 45, 46, 47, 177, 178, 179, 180, 206, 207, 208, 209, 210, 211, 212, 213, 214, 215, 216, 201, 202, 203, 204, 205] (by decide +kernel) (by decide +kernel)
set_option maxRecDepth 20000 in
theorem gX4_digest_X2_goOneByOne : GoodIn wsX4_digest (wsV RX4 181 RX2 yX2_goOneByOne wsX2_goOneByOne) := goodIn_app (goodIn_of _ (by decide +kernel)) ggX4_digest_X2_goOneByOne
set_option maxRecDepth 20000 in
theorem ggX4_digest_X0_kindsOf : GoodIn wsX4_digest wsX0_kindsOf := goodIn_r _ [36, 22, 37, 201, 202] (by decide +kernel) (by decide +kernel)
set_option maxRecDepth 20000 in
theorem gX4_digest_X0_kindsOf : GoodIn wsX4_digest (wsV RX4 145 RX0 yX0_kindsOf wsX0_kindsOf) := goodIn_app (goodIn_of _ (by decide +kernel)) ggX4_digest_X0_kindsOf
set_option maxRecDepth 20000 in
theorem ggX4_digest_X1_leastNeeded : GoodIn wsX4_digest wsX1_leastNeeded := goodIn_r _ [192, 28, 46, 193, 55, 56, 57, 58, 59, 60, 203, 204, 205] (by decide +kernel) (by decide +kernel)
set_option maxRecDepth 20000 in
theorem gX4_digest_X1_leastNeeded : GoodIn wsX4_digest (wsV RX4 184 RX1 yX1_leastNeeded wsX1_leastNeeded) := goodIn_app (goodIn_of _ (by decide +kernel)) ggX4_digest_X1_leastNeeded
theorem dX4_digest_0 : decode cX4_digest 0 = .ok (.aload_n 0, 1) := by decide +kernel
theorem dX4_digest_1 : decode cX4_digest 1 = .ok (.ldc2_w 192, 3) := by decide +kernel
theorem dX4_digest_4 : decode cX4_digest 4 = .ok (.invokevirtual 194, 3) := by decide +kernel
theorem dX4_digest_7 : decode cX4_digest 7 = .ok (.lstore_n 1, 1) := by decide +kernel
theorem dX4_digest_8 : decode cX4_digest 8 = .ok (.aload_n 0, 1) := by decide +kernel
theorem dX4_digest_9 : decode cX4_digest 9 = .ok (.lload_n 1, 1) := by decide +kernel
theorem dX4_digest_10 : decode cX4_digest 10 = .ok (.invokevirtual 198, 3) := by decide +kernel
theorem dX4_digest_13 : decode cX4_digest 13 = .ok (.lstore_n 1, 1) := by decide +kernel
theorem dX4_digest_14 : decode cX4_digest 14 = .ok (.aload_n 0, 1) := by decide +kernel
theorem dX4_digest_15 : decode cX4_digest 15 = .ok (.getfield 39, 3) := by decide +kernel
theorem dX4_digest_18 : decode cX4_digest 18 = .ok (.aload_n 0, 1) := by decide +kernel
theorem dX4_digest_19 : decode cX4_digest 19 = .ok (.getfield 28, 3) := by decide +kernel
theorem dX4_digest_22 : decode cX4_digest 22 = .ok (.aload_n 0, 1) := by decide +kernel
theorem dX4_digest_23 : decode cX4_digest 23 = .ok (.getfield 10, 3) := by decide +kernel
theorem dX4_digest_26 : decode cX4_digest 26 = .ok (.invokevirtual 135, 3) := by decide +kernel
theorem dX4_digest_29 : decode cX4_digest 29 = .ok (.invokevirtual 138, 3) := by decide +kernel
theorem dX4_digest_32 : decode cX4_digest 32 = .ok (.lload_n 1, 1) := by decide +kernel
theorem dX4_digest_33 : decode cX4_digest 33 = .ok (.aload_n 0, 1) := by decide +kernel
theorem dX4_digest_34 : decode cX4_digest 34 = .ok (.getfield 39, 3) := by decide +kernel
theorem dX4_digest_37 : decode cX4_digest 37 = .ok (.invokevirtual 142, 3) := by decide +kernel
theorem dX4_digest_40 : decode cX4_digest 40 = .ok (.i2l, 1) := by decide +kernel
theorem dX4_digest_41 : decode cX4_digest 41 = .ok (.invokestatic 201, 3) := by decide +kernel
theorem dX4_digest_44 : decode cX4_digest 44 = .ok (.lstore_n 1, 1) := by decide +kernel
theorem dX4_digest_45 : decode cX4_digest 45 = .ok (.lload_n 1, 1) := by decide +kernel
theorem dX4_digest_46 : decode cX4_digest 46 = .ok (.aload_n 0, 1) := by decide +kernel
theorem dX4_digest_47 : decode cX4_digest 47 = .ok (.getfield 39, 3) := by decide +kernel
theorem dX4_digest_50 : decode cX4_digest 50 = .ok (.invokevirtual 155, 3) := by decide +kernel
theorem dX4_digest_53 : decode cX4_digest 53 = .ok (.i2l, 1) := by decide +kernel
theorem dX4_digest_54 : decode cX4_digest 54 = .ok (.invokestatic 201, 3) := by decide +kernel
theorem dX4_digest_57 : decode cX4_digest 57 = .ok (.lstore_n 1, 1) := by decide +kernel
theorem dX4_digest_58 : decode cX4_digest 58 = .ok (.lload_n 1, 1) := by decide +kernel
theorem dX4_digest_59 : decode cX4_digest 59 = .ok (.aload_n 0, 1) := by decide +kernel
theorem dX4_digest_60 : decode cX4_digest 60 = .ok (.getfield 39, 3) := by decide +kernel
theorem dX4_digest_63 : decode cX4_digest 63 = .ok (.invokevirtual 166, 3) := by decide +kernel
theorem dX4_digest_66 : decode cX4_digest 66 = .ok (.i2l, 1) := by decide +kernel
theorem dX4_digest_67 : decode cX4_digest 67 = .ok (.invokestatic 201, 3) := by decide +kernel
theorem dX4_digest_70 : decode cX4_digest 70 = .ok (.lstore_n 1, 1) := by decide +kernel
theorem dX4_digest_71 : decode cX4_digest 71 = .ok (.aload_n 0, 1) := by decide +kernel
theorem dX4_digest_72 : decode cX4_digest 72 = .ok (.getfield 39, 3) := by decide +kernel
theorem dX4_digest_75 : decode cX4_digest 75 = .ok (.aload_n 0, 1) := by decide +kernel
theorem dX4_digest_76 : decode cX4_digest 76 = .ok (.getfield 28, 3) := by decide +kernel
theorem dX4_digest_79 : decode cX4_digest 79 = .ok (.aload_n 0, 1) := by decide +kernel
theorem dX4_digest_80 : decode cX4_digest 80 = .ok (.getfield 10, 3) := by decide +kernel
theorem dX4_digest_83 : decode cX4_digest 83 = .ok (.invokevirtual 135, 3) := by decide +kernel
theorem dX4_digest_86 : decode cX4_digest 86 = .ok (.invokevirtual 181, 3) := by decide +kernel
theorem dX4_digest_89 : decode cX4_digest 89 = .ok (.lload_n 1, 1) := by decide +kernel
theorem dX4_digest_90 : decode cX4_digest 90 = .ok (.aload_n 0, 1) := by decide +kernel
theorem dX4_digest_91 : decode cX4_digest 91 = .ok (.getfield 39, 3) := by decide +kernel
theorem dX4_digest_94 : decode cX4_digest 94 = .ok (.invokevirtual 142, 3) := by decide +kernel
theorem dX4_digest_97 : decode cX4_digest 97 = .ok (.i2l, 1) := by decide +kernel
theorem dX4_digest_98 : decode cX4_digest 98 = .ok (.invokestatic 201, 3) := by decide +kernel
theorem dX4_digest_101 : decode cX4_digest 101 = .ok (.lstore_n 1, 1) := by decide +kernel
theorem dX4_digest_102 : decode cX4_digest 102 = .ok (.lload_n 1, 1) := by decide +kernel
theorem dX4_digest_103 : decode cX4_digest 103 = .ok (.aload_n 0, 1) := by decide +kernel
theorem dX4_digest_104 : decode cX4_digest 104 = .ok (.getfield 39, 3) := by decide +kernel
theorem dX4_digest_107 : decode cX4_digest 107 = .ok (.invokevirtual 155, 3) := by decide +kernel
theorem dX4_digest_110 : decode cX4_digest 110 = .ok (.i2l, 1) := by decide +kernel
theorem dX4_digest_111 : decode cX4_digest 111 = .ok (.invokestatic 201, 3) := by decide +kernel
theorem dX4_digest_114 : decode cX4_digest 114 = .ok (.lstore_n 1, 1) := by decide +kernel
theorem dX4_digest_115 : decode cX4_digest 115 = .ok (.lload_n 1, 1) := by decide +kernel
theorem dX4_digest_116 : decode cX4_digest 116 = .ok (.aload_n 0, 1) := by decide +kernel
theorem dX4_digest_117 : decode cX4_digest 117 = .ok (.getfield 19, 3) := by decide +kernel
theorem dX4_digest_120 : decode cX4_digest 120 = .ok (.aload_n 0, 1) := by decide +kernel
theorem dX4_digest_121 : decode cX4_digest 121 = .ok (.getfield 10, 3) := by decide +kernel
theorem dX4_digest_124 : decode cX4_digest 124 = .ok (.aload_n 0, 1) := by decide +kernel
theorem dX4_digest_125 : decode cX4_digest 125 = .ok (.getfield 10, 3) := by decide +kernel
theorem dX4_digest_128 : decode cX4_digest 128 = .ok (.invokevirtual 135, 3) := by decide +kernel
theorem dX4_digest_131 : decode cX4_digest 131 = .ok (.invokevirtual 145, 3) := by decide +kernel
theorem dX4_digest_134 : decode cX4_digest 134 = .ok (.invokevirtual 184, 3) := by decide +kernel
theorem dX4_digest_137 : decode cX4_digest 137 = .ok (.i2l, 1) := by decide +kernel
theorem dX4_digest_138 : decode cX4_digest 138 = .ok (.invokestatic 201, 3) := by decide +kernel
theorem dX4_digest_141 : decode cX4_digest 141 = .ok (.lreturn, 1) := by decide +kernel
set_option maxRecDepth 20000 in
theorem ggX4_digestState_X4_countFact : GoodIn wsX4_digestState wsX4_countFact := goodIn_r _ [7, 1, 2, 8, 9, 10, 11, 12, 13, 14, 15, 16, 17, 18, 19, 20, 21, 22, 23, 24, 25, 26, 27, 28, 29, 30, 31, 32, 33, 34, 35, 36, 37, 38, 39, 40, 41, 42, 43, 44, 45, 46, 47, 48, 49, 50, 51, 52, 53, 54, 55, 56, 57, 58, 59, 60, 61, 62, 63, 95, 96, 97, 98, 99, 100, 101, 102, 103, 104, 105, 106, 107, 108, 109, 110, 111, 112] (by decide +kernel) (by decide +kernel)
set_option maxRecDepth 20000 in
theorem gX4_digestState_X4_countFact : GoodIn wsX4_digestState (wsV RX4 176 RX4 yX4_countFact wsX4_countFact) := goodIn_app (goodIn_of _ (by decide +kernel)) ggX4_digestState_X4_countFact
set_option maxRecDepth 20000 in
theorem ggX4_digestState_X4_mixed : GoodIn wsX4_digestState wsX4_mixed := goodIn_r _ [66, 67] (by decide +kernel) (by decide +kernel)
set_option maxRecDepth 20000 in
theorem gX4_digestState_X4_mixed : GoodIn wsX4_digestState (va_wsS RX4 201 yX4_mixed wsX4_mixed) := goodIn_app (goodIn_of _ (by decide +kernel)) ggX4_digestState_X4_mixed
set_option maxRecDepth 20000 in
theorem ggX4_digestState_X0_size : GoodIn wsX4_digestState wsX0_size := goodIn_r _ [14, 15, 102, 103] (by decide +kernel) (by decide +kernel)
set_option maxRecDepth 20000 in
theorem gX4_digestState_X0_size : GoodIn wsX4_digestState (wsV RX4 66 RX0 yX0_size wsX0_size) := goodIn_app (goodIn_of _ (by decide +kernel)) ggX4_digestState_X0_size
set_option maxRecDepth 20000 in
theorem ggX4_digestState_X0_kindAt : GoodIn wsX4_digestState wsX0_kindAt := goodIn_r _ [71, 30, 72, 73, 74, 13, 75, 15, 102, 103] (by decide +kernel) (by decide +kernel)
set_option maxRecDepth 20000 in
theorem gX4_digestState_X0_kindAt : GoodIn wsX4_digestState (wsV RX4 75 RX0 yX0_kindAt wsX0_kindAt) := goodIn_app (goodIn_of _ (by decide +kernel)) ggX4_digestState_X0_kindAt
set_option maxRecDepth 20000 in
theorem ggX4_digestState_X1_size : GoodIn wsX4_digestState wsX1_size := goodIn_r _ [20, 21, 104, 105, 106] (by decide +kernel) (by decide +kernel)
set_option maxRecDepth 20000 in
theorem gX4_digestState_X1_size : GoodIn wsX4_digestState (wsV RX4 87 RX1 yX1_size wsX1_size) := goodIn_app (goodIn_of _ (by decide +kernel)) ggX4_digestState_X1_size
set_option maxRecDepth 20000 in
theorem ggX4_digestState_X4_ruleFact : GoodIn wsX4_digestState wsX4_ruleFact := goodIn_r _ [79, 2, 1, 80, 81, 82, 83, 19, 84, 39, 85, 86, 87, 88, 21, 89, 90, 91, 92, 40, 93, 48, 49, 50, 51, 52, 53, 22, 23, 24, 13, 25, 15, 26, 27, 28, 29, 30, 94, 36, 37, 38, 95, 96, 97, 98, 99, 100, 101, 104, 105, 106, 102, 103] (by decide +kernel) (by decide +kernel)
set_option maxRecDepth 20000 in
theorem gX4_digestState_X4_ruleFact : GoodIn wsX4_digestState (wsV RX4 120 RX4 yX4_ruleFact wsX4_ruleFact) := goodIn_app (goodIn_of _ (by decide +kernel)) ggX4_digestState_X4_ruleFact
theorem dX4_digestState_0 : decode cX4_digestState 0 = .ok (.lload_n 1, 1) := by decide +kernel
theorem dX4_digestState_1 : decode cX4_digestState 1 = .ok (.lstore_n 3, 1) := by decide +kernel
theorem dX4_digestState_2 : decode cX4_digestState 2 = .ok (.iconst 0, 1) := by decide +kernel
theorem dX4_digestState_3 : decode cX4_digestState 3 = .ok (.istore 5, 2) := by decide +kernel
theorem dX4_digestState_5 : decode cX4_digestState 5 = .ok (.iload 5, 2) := by decide +kernel
theorem dX4_digestState_7 : decode cX4_digestState 7 = .ok (.bipush 7, 2) := by decide +kernel
theorem dX4_digestState_9 : decode cX4_digestState 9 = .ok (.if_icmp .ge 21, 3) := by decide +kernel
theorem dX4_digestState_12 : decode cX4_digestState 12 = .ok (.lload_n 3, 1) := by decide +kernel
theorem dX4_digestState_13 : decode cX4_digestState 13 = .ok (.aload_n 0, 1) := by decide +kernel
theorem dX4_digestState_14 : decode cX4_digestState 14 = .ok (.iload 5, 2) := by decide +kernel
theorem dX4_digestState_16 : decode cX4_digestState 16 = .ok (.invokevirtual 176, 3) := by decide +kernel
theorem dX4_digestState_19 : decode cX4_digestState 19 = .ok (.i2l, 1) := by decide +kernel
theorem dX4_digestState_20 : decode cX4_digestState 20 = .ok (.invokestatic 201, 3) := by decide +kernel
theorem dX4_digestState_23 : decode cX4_digestState 23 = .ok (.lstore_n 3, 1) := by decide +kernel
theorem dX4_digestState_24 : decode cX4_digestState 24 = .ok (.iinc 5 1, 3) := by decide +kernel
theorem dX4_digestState_27 : decode cX4_digestState 27 = .ok (.goto (-22), 3) := by decide +kernel
theorem dX4_digestState_30 : decode cX4_digestState 30 = .ok (.iconst 0, 1) := by decide +kernel
theorem dX4_digestState_31 : decode cX4_digestState 31 = .ok (.istore 5, 2) := by decide +kernel
theorem dX4_digestState_33 : decode cX4_digestState 33 = .ok (.iload 5, 2) := by decide +kernel
theorem dX4_digestState_35 : decode cX4_digestState 35 = .ok (.aload_n 0, 1) := by decide +kernel
theorem dX4_digestState_36 : decode cX4_digestState 36 = .ok (.getfield 10, 3) := by decide +kernel
theorem dX4_digestState_39 : decode cX4_digestState 39 = .ok (.invokevirtual 66, 3) := by decide +kernel
theorem dX4_digestState_42 : decode cX4_digestState 42 = .ok (.if_icmp .ge 24, 3) := by decide +kernel
theorem dX4_digestState_45 : decode cX4_digestState 45 = .ok (.lload_n 3, 1) := by decide +kernel
theorem dX4_digestState_46 : decode cX4_digestState 46 = .ok (.aload_n 0, 1) := by decide +kernel
theorem dX4_digestState_47 : decode cX4_digestState 47 = .ok (.getfield 10, 3) := by decide +kernel
theorem dX4_digestState_50 : decode cX4_digestState 50 = .ok (.iload 5, 2) := by decide +kernel
theorem dX4_digestState_52 : decode cX4_digestState 52 = .ok (.invokevirtual 75, 3) := by decide +kernel
theorem dX4_digestState_55 : decode cX4_digestState 55 = .ok (.i2l, 1) := by decide +kernel
theorem dX4_digestState_56 : decode cX4_digestState 56 = .ok (.invokestatic 201, 3) := by decide +kernel
theorem dX4_digestState_59 : decode cX4_digestState 59 = .ok (.lstore_n 3, 1) := by decide +kernel
theorem dX4_digestState_60 : decode cX4_digestState 60 = .ok (.iinc 5 1, 3) := by decide +kernel
theorem dX4_digestState_63 : decode cX4_digestState 63 = .ok (.goto (-30), 3) := by decide +kernel
theorem dX4_digestState_66 : decode cX4_digestState 66 = .ok (.iconst 0, 1) := by decide +kernel
theorem dX4_digestState_67 : decode cX4_digestState 67 = .ok (.istore 5, 2) := by decide +kernel
theorem dX4_digestState_69 : decode cX4_digestState 69 = .ok (.iload 5, 2) := by decide +kernel
theorem dX4_digestState_71 : decode cX4_digestState 71 = .ok (.aload_n 0, 1) := by decide +kernel
theorem dX4_digestState_72 : decode cX4_digestState 72 = .ok (.getfield 19, 3) := by decide +kernel
theorem dX4_digestState_75 : decode cX4_digestState 75 = .ok (.invokevirtual 87, 3) := by decide +kernel
theorem dX4_digestState_78 : decode cX4_digestState 78 = .ok (.if_icmp .ge 38, 3) := by decide +kernel
theorem dX4_digestState_81 : decode cX4_digestState 81 = .ok (.iconst 0, 1) := by decide +kernel
theorem dX4_digestState_82 : decode cX4_digestState 82 = .ok (.istore 6, 2) := by decide +kernel
theorem dX4_digestState_84 : decode cX4_digestState 84 = .ok (.iload 6, 2) := by decide +kernel
theorem dX4_digestState_86 : decode cX4_digestState 86 = .ok (.iconst 5, 1) := by decide +kernel
theorem dX4_digestState_87 : decode cX4_digestState 87 = .ok (.if_icmp .ge 23, 3) := by decide +kernel
theorem dX4_digestState_90 : decode cX4_digestState 90 = .ok (.lload_n 3, 1) := by decide +kernel
theorem dX4_digestState_91 : decode cX4_digestState 91 = .ok (.aload_n 0, 1) := by decide +kernel
theorem dX4_digestState_92 : decode cX4_digestState 92 = .ok (.iload 5, 2) := by decide +kernel
theorem dX4_digestState_94 : decode cX4_digestState 94 = .ok (.iload 6, 2) := by decide +kernel
theorem dX4_digestState_96 : decode cX4_digestState 96 = .ok (.invokevirtual 120, 3) := by decide +kernel
theorem dX4_digestState_99 : decode cX4_digestState 99 = .ok (.i2l, 1) := by decide +kernel
theorem dX4_digestState_100 : decode cX4_digestState 100 = .ok (.invokestatic 201, 3) := by decide +kernel
theorem dX4_digestState_103 : decode cX4_digestState 103 = .ok (.lstore_n 3, 1) := by decide +kernel
theorem dX4_digestState_104 : decode cX4_digestState 104 = .ok (.iinc 6 1, 3) := by decide +kernel
theorem dX4_digestState_107 : decode cX4_digestState 107 = .ok (.goto (-23), 3) := by decide +kernel
theorem dX4_digestState_110 : decode cX4_digestState 110 = .ok (.iinc 5 1, 3) := by decide +kernel
theorem dX4_digestState_113 : decode cX4_digestState 113 = .ok (.goto (-44), 3) := by decide +kernel
theorem dX4_digestState_116 : decode cX4_digestState 116 = .ok (.lload_n 3, 1) := by decide +kernel
theorem dX4_digestState_117 : decode cX4_digestState 117 = .ok (.lreturn, 1) := by decide +kernel
set_option maxRecDepth 20000 in
theorem ggX4_digestKept_X2_listSize : GoodIn wsX4_digestKept wsX2_listSize := goodIn_r _ [6, 7, 8, 9, 10, 11, 12, 13, 14, 41, 42, 43, 44, 45, 46] (by decide +kernel) (by decide +kernel)
set_option maxRecDepth 20000 in
theorem gX4_digestKept_X2_listSize : GoodIn wsX4_digestKept (wsV RX4 158 RX2 yX2_listSize wsX2_listSize) := goodIn_app (goodIn_of _ (by decide +kernel)) ggX4_digestKept_X2_listSize
set_option maxRecDepth 20000 in
theorem ggX4_digestKept_X2_listPlace : GoodIn wsX4_digestKept wsX2_listPlace := goodIn_r _ [18, 7, 41, 42, 43, 44, 45, 46] (by decide +kernel) (by decide +kernel)
set_option maxRecDepth 20000 in
theorem gX4_digestKept_X2_listPlace : GoodIn wsX4_digestKept (wsV RX4 163 RX2 yX2_listPlace wsX2_listPlace) := goodIn_app (goodIn_of _ (by decide +kernel)) ggX4_digestKept_X2_listPlace
set_option maxRecDepth 20000 in
theorem ggX4_digestKept_X4_mixed : GoodIn wsX4_digestKept wsX4_mixed := goodIn_r _ [22, 23] (by decide +kernel) (by decide +kernel)
set_option maxRecDepth 20000 in
theorem gX4_digestKept_X4_mixed : GoodIn wsX4_digestKept (va_wsS RX4 201 yX4_mixed wsX4_mixed) := goodIn_app (goodIn_of _ (by decide +kernel)) ggX4_digestKept_X4_mixed
set_option maxRecDepth 20000 in
theorem ggX4_digestKept_X2_steps : GoodIn wsX4_digestKept wsX2_steps := goodIn_r _ [27, 28, 41, 42, 43, 44, 45, 46] (by decide +kernel) (by decide +kernel)
set_option maxRecDepth 20000 in
theorem gX4_digestKept_X2_steps : GoodIn wsX4_digestKept (wsV RX4 166 RX2 yX2_steps wsX2_steps) := goodIn_app (goodIn_of _ (by decide +kernel)) ggX4_digestKept_X2_steps
set_option maxRecDepth 20000 in
theorem ggX4_digestKept_X2_stepFact : GoodIn wsX4_digestKept wsX2_stepFact := goodIn_r _ [32, 28, 33, 41, 42, 43, 44, 45, 46] (by decide +kernel) (by decide +kernel)
set_option maxRecDepth 20000 in
theorem gX4_digestKept_X2_stepFact : GoodIn wsX4_digestKept (wsV RX4 171 RX2 yX2_stepFact wsX2_stepFact) := goodIn_app (goodIn_of _ (by decide +kernel)) ggX4_digestKept_X2_stepFact
theorem dX4_digestKept_0 : decode cX4_digestKept 0 = .ok (.lload_n 1, 1) := by decide +kernel
theorem dX4_digestKept_1 : decode cX4_digestKept 1 = .ok (.lstore_n 3, 1) := by decide +kernel
theorem dX4_digestKept_2 : decode cX4_digestKept 2 = .ok (.iconst 0, 1) := by decide +kernel
theorem dX4_digestKept_3 : decode cX4_digestKept 3 = .ok (.istore 5, 2) := by decide +kernel
theorem dX4_digestKept_5 : decode cX4_digestKept 5 = .ok (.iload 5, 2) := by decide +kernel
theorem dX4_digestKept_7 : decode cX4_digestKept 7 = .ok (.aload_n 0, 1) := by decide +kernel
theorem dX4_digestKept_8 : decode cX4_digestKept 8 = .ok (.getfield 35, 3) := by decide +kernel
theorem dX4_digestKept_11 : decode cX4_digestKept 11 = .ok (.invokevirtual 158, 3) := by decide +kernel
theorem dX4_digestKept_14 : decode cX4_digestKept 14 = .ok (.if_icmp .ge 24, 3) := by decide +kernel
theorem dX4_digestKept_17 : decode cX4_digestKept 17 = .ok (.lload_n 3, 1) := by decide +kernel
theorem dX4_digestKept_18 : decode cX4_digestKept 18 = .ok (.aload_n 0, 1) := by decide +kernel
theorem dX4_digestKept_19 : decode cX4_digestKept 19 = .ok (.getfield 35, 3) := by decide +kernel
theorem dX4_digestKept_22 : decode cX4_digestKept 22 = .ok (.iload 5, 2) := by decide +kernel
theorem dX4_digestKept_24 : decode cX4_digestKept 24 = .ok (.invokevirtual 163, 3) := by decide +kernel
theorem dX4_digestKept_27 : decode cX4_digestKept 27 = .ok (.i2l, 1) := by decide +kernel
theorem dX4_digestKept_28 : decode cX4_digestKept 28 = .ok (.invokestatic 201, 3) := by decide +kernel
theorem dX4_digestKept_31 : decode cX4_digestKept 31 = .ok (.lstore_n 3, 1) := by decide +kernel
theorem dX4_digestKept_32 : decode cX4_digestKept 32 = .ok (.iinc 5 1, 3) := by decide +kernel
theorem dX4_digestKept_35 : decode cX4_digestKept 35 = .ok (.goto (-30), 3) := by decide +kernel
theorem dX4_digestKept_38 : decode cX4_digestKept 38 = .ok (.iconst 0, 1) := by decide +kernel
theorem dX4_digestKept_39 : decode cX4_digestKept 39 = .ok (.istore 5, 2) := by decide +kernel
theorem dX4_digestKept_41 : decode cX4_digestKept 41 = .ok (.iload 5, 2) := by decide +kernel
theorem dX4_digestKept_43 : decode cX4_digestKept 43 = .ok (.aload_n 0, 1) := by decide +kernel
theorem dX4_digestKept_44 : decode cX4_digestKept 44 = .ok (.getfield 35, 3) := by decide +kernel
theorem dX4_digestKept_47 : decode cX4_digestKept 47 = .ok (.invokevirtual 166, 3) := by decide +kernel
theorem dX4_digestKept_50 : decode cX4_digestKept 50 = .ok (.if_icmp .ge 41, 3) := by decide +kernel
theorem dX4_digestKept_53 : decode cX4_digestKept 53 = .ok (.iconst 0, 1) := by decide +kernel
theorem dX4_digestKept_54 : decode cX4_digestKept 54 = .ok (.istore 6, 2) := by decide +kernel
theorem dX4_digestKept_56 : decode cX4_digestKept 56 = .ok (.iload 6, 2) := by decide +kernel
theorem dX4_digestKept_58 : decode cX4_digestKept 58 = .ok (.iconst 5, 1) := by decide +kernel
theorem dX4_digestKept_59 : decode cX4_digestKept 59 = .ok (.if_icmp .ge 26, 3) := by decide +kernel
theorem dX4_digestKept_62 : decode cX4_digestKept 62 = .ok (.lload_n 3, 1) := by decide +kernel
theorem dX4_digestKept_63 : decode cX4_digestKept 63 = .ok (.aload_n 0, 1) := by decide +kernel
theorem dX4_digestKept_64 : decode cX4_digestKept 64 = .ok (.getfield 35, 3) := by decide +kernel
theorem dX4_digestKept_67 : decode cX4_digestKept 67 = .ok (.iload 5, 2) := by decide +kernel
theorem dX4_digestKept_69 : decode cX4_digestKept 69 = .ok (.iload 6, 2) := by decide +kernel
theorem dX4_digestKept_71 : decode cX4_digestKept 71 = .ok (.invokevirtual 171, 3) := by decide +kernel
theorem dX4_digestKept_74 : decode cX4_digestKept 74 = .ok (.i2l, 1) := by decide +kernel
theorem dX4_digestKept_75 : decode cX4_digestKept 75 = .ok (.invokestatic 201, 3) := by decide +kernel
theorem dX4_digestKept_78 : decode cX4_digestKept 78 = .ok (.lstore_n 3, 1) := by decide +kernel
theorem dX4_digestKept_79 : decode cX4_digestKept 79 = .ok (.iinc 6 1, 3) := by decide +kernel
theorem dX4_digestKept_82 : decode cX4_digestKept 82 = .ok (.goto (-26), 3) := by decide +kernel
theorem dX4_digestKept_85 : decode cX4_digestKept 85 = .ok (.iinc 5 1, 3) := by decide +kernel
theorem dX4_digestKept_88 : decode cX4_digestKept 88 = .ok (.goto (-47), 3) := by decide +kernel
theorem dX4_digestKept_91 : decode cX4_digestKept 91 = .ok (.lload_n 3, 1) := by decide +kernel
theorem dX4_digestKept_92 : decode cX4_digestKept 92 = .ok (.lreturn, 1) := by decide +kernel
set_option maxRecDepth 20000 in
theorem ggX4_ruleFact_X1_neededBy : GoodIn wsX4_ruleFact wsX1_neededBy := goodIn_r _ [8, 9, 10, 11, 12, 7, 13, 14, 49, 50, 51] (by decide +kernel) (by decide +kernel)
set_option maxRecDepth 20000 in
theorem gX4_ruleFact_X1_neededBy : GoodIn wsX4_ruleFact (wsV RX4 102 RX1 yX1_neededBy wsX1_neededBy) := goodIn_app (goodIn_of _ (by decide +kernel)) ggX4_ruleFact_X1_neededBy
set_option maxRecDepth 20000 in
theorem ggX4_ruleFact_X1_sparedBy : GoodIn wsX4_ruleFact wsX1_sparedBy := goodIn_r _ [18, 19, 10, 11, 12, 7, 13, 14, 49, 50, 51] (by decide +kernel) (by decide +kernel)
set_option maxRecDepth 20000 in
theorem gX4_ruleFact_X1_sparedBy : GoodIn wsX4_ruleFact (wsV RX4 93 RX1 yX1_sparedBy wsX1_sparedBy) := goodIn_app (goodIn_of _ (by decide +kernel)) ggX4_ruleFact_X1_sparedBy
set_option maxRecDepth 20000 in
theorem ggX4_ruleFact_J6_bitCount_0f7a4 : GoodIn wsX4_ruleFact wsJ6_bitCount_0f7a4 := goodIn_r _ [23, 24, 25, 26] (by decide +kernel) (by decide +kernel)
set_option maxRecDepth 20000 in
theorem gX4_ruleFact_J6_bitCount_0f7a4 : GoodIn wsX4_ruleFact (va_wsS RX4 187 yJ6_bitCount_0f7a4 wsJ6_bitCount_0f7a4) := goodIn_app (goodIn_of _ (by decide +kernel)) ggX4_ruleFact_J6_bitCount_0f7a4
set_option maxRecDepth 20000 in
theorem ggX4_ruleFact_X0_wholeDish : GoodIn wsX4_ruleFact wsX0_wholeDish := goodIn_r _ [31, 32, 52, 53] (by decide +kernel) (by decide +kernel)
set_option maxRecDepth 20000 in
theorem gX4_ruleFact_X0_wholeDish : GoodIn wsX4_ruleFact (wsV RX4 135 RX0 yX0_wholeDish wsX0_wholeDish) := goodIn_app (goodIn_of _ (by decide +kernel)) ggX4_ruleFact_X0_wholeDish
set_option maxRecDepth 20000 in
theorem ggX4_ruleFact_X0_kindsOf : GoodIn wsX4_ruleFact wsX0_kindsOf := goodIn_r _ [36, 32, 37, 52, 53] (by decide +kernel) (by decide +kernel)
set_option maxRecDepth 20000 in
theorem gX4_ruleFact_X0_kindsOf : GoodIn wsX4_ruleFact (wsV RX4 145 RX0 yX0_kindsOf wsX0_kindsOf) := goodIn_app (goodIn_of _ (by decide +kernel)) ggX4_ruleFact_X0_kindsOf
set_option maxRecDepth 20000 in
theorem ggX4_ruleFact_X1_holds : GoodIn wsX4_ruleFact wsX1_holds := goodIn_r _ [41, 14, 9, 19, 49, 50, 51] (by decide +kernel) (by decide +kernel)
set_option maxRecDepth 20000 in
theorem gX4_ruleFact_X1_holds : GoodIn wsX4_ruleFact (wsV RX4 205 RX1 yX1_holds wsX1_holds) := goodIn_app (goodIn_of _ (by decide +kernel)) ggX4_ruleFact_X1_holds
theorem dX4_ruleFact_0 : decode cX4_ruleFact 0 = .ok (.iload_n 2, 1) := by decide +kernel
theorem dX4_ruleFact_1 : decode cX4_ruleFact 1 = .ok (.tableswitch 92 0 3 #[31, 40, 49, 61], 31) := by decide +kernel
theorem dX4_ruleFact_32 : decode cX4_ruleFact 32 = .ok (.aload_n 0, 1) := by decide +kernel
theorem dX4_ruleFact_33 : decode cX4_ruleFact 33 = .ok (.getfield 19, 3) := by decide +kernel
theorem dX4_ruleFact_36 : decode cX4_ruleFact 36 = .ok (.iload_n 1, 1) := by decide +kernel
theorem dX4_ruleFact_37 : decode cX4_ruleFact 37 = .ok (.invokevirtual 102, 3) := by decide +kernel
theorem dX4_ruleFact_40 : decode cX4_ruleFact 40 = .ok (.ireturn, 1) := by decide +kernel
theorem dX4_ruleFact_41 : decode cX4_ruleFact 41 = .ok (.aload_n 0, 1) := by decide +kernel
theorem dX4_ruleFact_42 : decode cX4_ruleFact 42 = .ok (.getfield 19, 3) := by decide +kernel
theorem dX4_ruleFact_45 : decode cX4_ruleFact 45 = .ok (.iload_n 1, 1) := by decide +kernel
theorem dX4_ruleFact_46 : decode cX4_ruleFact 46 = .ok (.invokevirtual 93, 3) := by decide +kernel
theorem dX4_ruleFact_49 : decode cX4_ruleFact 49 = .ok (.ireturn, 1) := by decide +kernel
theorem dX4_ruleFact_50 : decode cX4_ruleFact 50 = .ok (.aload_n 0, 1) := by decide +kernel
theorem dX4_ruleFact_51 : decode cX4_ruleFact 51 = .ok (.getfield 19, 3) := by decide +kernel
theorem dX4_ruleFact_54 : decode cX4_ruleFact 54 = .ok (.iload_n 1, 1) := by decide +kernel
theorem dX4_ruleFact_55 : decode cX4_ruleFact 55 = .ok (.invokevirtual 102, 3) := by decide +kernel
theorem dX4_ruleFact_58 : decode cX4_ruleFact 58 = .ok (.invokestatic 187, 3) := by decide +kernel
theorem dX4_ruleFact_61 : decode cX4_ruleFact 61 = .ok (.ireturn, 1) := by decide +kernel
theorem dX4_ruleFact_62 : decode cX4_ruleFact 62 = .ok (.aload_n 0, 1) := by decide +kernel
theorem dX4_ruleFact_63 : decode cX4_ruleFact 63 = .ok (.getfield 19, 3) := by decide +kernel
theorem dX4_ruleFact_66 : decode cX4_ruleFact 66 = .ok (.iload_n 1, 1) := by decide +kernel
theorem dX4_ruleFact_67 : decode cX4_ruleFact 67 = .ok (.aload_n 0, 1) := by decide +kernel
theorem dX4_ruleFact_68 : decode cX4_ruleFact 68 = .ok (.getfield 10, 3) := by decide +kernel
theorem dX4_ruleFact_71 : decode cX4_ruleFact 71 = .ok (.aload_n 0, 1) := by decide +kernel
theorem dX4_ruleFact_72 : decode cX4_ruleFact 72 = .ok (.getfield 10, 3) := by decide +kernel
theorem dX4_ruleFact_75 : decode cX4_ruleFact 75 = .ok (.invokevirtual 135, 3) := by decide +kernel
theorem dX4_ruleFact_78 : decode cX4_ruleFact 78 = .ok (.invokevirtual 145, 3) := by decide +kernel
theorem dX4_ruleFact_81 : decode cX4_ruleFact 81 = .ok (.invokevirtual 205, 3) := by decide +kernel
theorem dX4_ruleFact_84 : decode cX4_ruleFact 84 = .ok (.ifCond .eq 7, 3) := by decide +kernel
theorem dX4_ruleFact_87 : decode cX4_ruleFact 87 = .ok (.iconst 1, 1) := by decide +kernel
theorem dX4_ruleFact_88 : decode cX4_ruleFact 88 = .ok (.goto 4, 3) := by decide +kernel
theorem dX4_ruleFact_91 : decode cX4_ruleFact 91 = .ok (.iconst 0, 1) := by decide +kernel
theorem dX4_ruleFact_92 : decode cX4_ruleFact 92 = .ok (.ireturn, 1) := by decide +kernel
theorem dX4_ruleFact_93 : decode cX4_ruleFact 93 = .ok (.aload_n 0, 1) := by decide +kernel
theorem dX4_ruleFact_94 : decode cX4_ruleFact 94 = .ok (.getfield 19, 3) := by decide +kernel
theorem dX4_ruleFact_97 : decode cX4_ruleFact 97 = .ok (.iload_n 1, 1) := by decide +kernel
theorem dX4_ruleFact_98 : decode cX4_ruleFact 98 = .ok (.aload_n 0, 1) := by decide +kernel
theorem dX4_ruleFact_99 : decode cX4_ruleFact 99 = .ok (.getfield 148, 3) := by decide +kernel
theorem dX4_ruleFact_102 : decode cX4_ruleFact 102 = .ok (.invokevirtual 205, 3) := by decide +kernel
theorem dX4_ruleFact_105 : decode cX4_ruleFact 105 = .ok (.ifCond .eq 7, 3) := by decide +kernel
theorem dX4_ruleFact_108 : decode cX4_ruleFact 108 = .ok (.iconst 1, 1) := by decide +kernel
theorem dX4_ruleFact_109 : decode cX4_ruleFact 109 = .ok (.goto 4, 3) := by decide +kernel
theorem dX4_ruleFact_112 : decode cX4_ruleFact 112 = .ok (.iconst 0, 1) := by decide +kernel
theorem dX4_ruleFact_113 : decode cX4_ruleFact 113 = .ok (.ireturn, 1) := by decide +kernel
set_option maxRecDepth 20000 in
theorem ggX4_countFact_X0_size : GoodIn wsX4_countFact wsX0_size := goodIn_r _ [9, 10, 66, 67] (by decide +kernel) (by decide +kernel)
set_option maxRecDepth 20000 in
theorem gX4_countFact_X0_size : GoodIn wsX4_countFact (wsV RX4 66 RX0 yX0_size wsX0_size) := goodIn_app (goodIn_of _ (by decide +kernel)) ggX4_countFact_X0_size
set_option maxRecDepth 20000 in
theorem ggX4_countFact_X1_size : GoodIn wsX4_countFact wsX1_size := goodIn_r _ [15, 16, 68, 69, 70] (by decide +kernel) (by decide +kernel)
set_option maxRecDepth 20000 in
theorem gX4_countFact_X1_size : GoodIn wsX4_countFact (wsV RX4 87 RX1 yX1_size wsX1_size) := goodIn_app (goodIn_of _ (by decide +kernel)) ggX4_countFact_X1_size
set_option maxRecDepth 20000 in
theorem ggX4_countFact_X0_wholeDish : GoodIn wsX4_countFact wsX0_wholeDish := goodIn_r _ [20, 10, 66, 67] (by decide +kernel) (by decide +kernel)
set_option maxRecDepth 20000 in
theorem gX4_countFact_X0_wholeDish : GoodIn wsX4_countFact (wsV RX4 135 RX0 yX0_wholeDish wsX0_wholeDish) := goodIn_app (goodIn_of _ (by decide +kernel)) ggX4_countFact_X0_wholeDish
set_option maxRecDepth 20000 in
theorem ggX4_countFact_X0_kindsOf : GoodIn wsX4_countFact wsX0_kindsOf := goodIn_r _ [24, 10, 25, 66, 67] (by decide +kernel) (by decide +kernel)
set_option maxRecDepth 20000 in
theorem gX4_countFact_X0_kindsOf : GoodIn wsX4_countFact (wsV RX4 145 RX0 yX0_kindsOf wsX0_kindsOf) := goodIn_app (goodIn_of _ (by decide +kernel)) ggX4_countFact_X0_kindsOf
set_option maxRecDepth 20000 in
theorem ggX4_countFact_X1_holding : GoodIn wsX4_countFact wsX1_holding := goodIn_r _ [29, 16, 30, 31, 32, 14, 33, 34, 35, 68, 69, 70] (by decide +kernel) (by decide +kernel)
set_option maxRecDepth 20000 in
theorem gX4_countFact_X1_holding : GoodIn wsX4_countFact (wsV RX4 208 RX1 yX1_holding wsX1_holding) := goodIn_app (goodIn_of _ (by decide +kernel)) ggX4_countFact_X1_holding
set_option maxRecDepth 20000 in
theorem ggX4_countFact_X2_listSize : GoodIn wsX4_countFact wsX2_listSize := goodIn_r _ [40, 41, 42, 43, 44, 45, 46, 47, 48, 71, 72, 73, 74, 75, 76] (by decide +kernel) (by decide +kernel)
set_option maxRecDepth 20000 in
theorem gX4_countFact_X2_listSize : GoodIn wsX4_countFact (wsV RX4 158 RX2 yX2_listSize wsX2_listSize) := goodIn_app (goodIn_of _ (by decide +kernel)) ggX4_countFact_X2_listSize
set_option maxRecDepth 20000 in
theorem ggX4_countFact_X2_steps : GoodIn wsX4_countFact wsX2_steps := goodIn_r _ [52, 53, 71, 72, 73, 74, 75, 76] (by decide +kernel) (by decide +kernel)
set_option maxRecDepth 20000 in
theorem gX4_countFact_X2_steps : GoodIn wsX4_countFact (wsV RX4 166 RX2 yX2_steps wsX2_steps) := goodIn_app (goodIn_of _ (by decide +kernel)) ggX4_countFact_X2_steps
set_option maxRecDepth 20000 in
theorem ggX4_countFact_X2_tastings : GoodIn wsX4_countFact wsX2_tastings := goodIn_r _ [57, 58, 71, 72, 73, 74, 75, 76] (by decide +kernel) (by decide +kernel)
set_option maxRecDepth 20000 in
theorem gX4_countFact_X2_tastings : GoodIn wsX4_countFact (wsV RX4 155 RX2 yX2_tastings wsX2_tastings) := goodIn_app (goodIn_of _ (by decide +kernel)) ggX4_countFact_X2_tastings
theorem dX4_countFact_0 : decode cX4_countFact 0 = .ok (.iload_n 1, 1) := by decide +kernel
theorem dX4_countFact_1 : decode cX4_countFact 1 = .ok (.tableswitch 101 0 5 #[39, 47, 55, 77, 85, 93], 39) := by decide +kernel
theorem dX4_countFact_40 : decode cX4_countFact 40 = .ok (.aload_n 0, 1) := by decide +kernel
theorem dX4_countFact_41 : decode cX4_countFact 41 = .ok (.getfield 10, 3) := by decide +kernel
theorem dX4_countFact_44 : decode cX4_countFact 44 = .ok (.invokevirtual 66, 3) := by decide +kernel
theorem dX4_countFact_47 : decode cX4_countFact 47 = .ok (.ireturn, 1) := by decide +kernel
theorem dX4_countFact_48 : decode cX4_countFact 48 = .ok (.aload_n 0, 1) := by decide +kernel
theorem dX4_countFact_49 : decode cX4_countFact 49 = .ok (.getfield 19, 3) := by decide +kernel
theorem dX4_countFact_52 : decode cX4_countFact 52 = .ok (.invokevirtual 87, 3) := by decide +kernel
theorem dX4_countFact_55 : decode cX4_countFact 55 = .ok (.ireturn, 1) := by decide +kernel
theorem dX4_countFact_56 : decode cX4_countFact 56 = .ok (.aload_n 0, 1) := by decide +kernel
theorem dX4_countFact_57 : decode cX4_countFact 57 = .ok (.getfield 19, 3) := by decide +kernel
theorem dX4_countFact_60 : decode cX4_countFact 60 = .ok (.aload_n 0, 1) := by decide +kernel
theorem dX4_countFact_61 : decode cX4_countFact 61 = .ok (.getfield 10, 3) := by decide +kernel
theorem dX4_countFact_64 : decode cX4_countFact 64 = .ok (.aload_n 0, 1) := by decide +kernel
theorem dX4_countFact_65 : decode cX4_countFact 65 = .ok (.getfield 10, 3) := by decide +kernel
theorem dX4_countFact_68 : decode cX4_countFact 68 = .ok (.invokevirtual 135, 3) := by decide +kernel
theorem dX4_countFact_71 : decode cX4_countFact 71 = .ok (.invokevirtual 145, 3) := by decide +kernel
theorem dX4_countFact_74 : decode cX4_countFact 74 = .ok (.invokevirtual 208, 3) := by decide +kernel
theorem dX4_countFact_77 : decode cX4_countFact 77 = .ok (.ireturn, 1) := by decide +kernel
theorem dX4_countFact_78 : decode cX4_countFact 78 = .ok (.aload_n 0, 1) := by decide +kernel
theorem dX4_countFact_79 : decode cX4_countFact 79 = .ok (.getfield 35, 3) := by decide +kernel
theorem dX4_countFact_82 : decode cX4_countFact 82 = .ok (.invokevirtual 158, 3) := by decide +kernel
theorem dX4_countFact_85 : decode cX4_countFact 85 = .ok (.ireturn, 1) := by decide +kernel
theorem dX4_countFact_86 : decode cX4_countFact 86 = .ok (.aload_n 0, 1) := by decide +kernel
theorem dX4_countFact_87 : decode cX4_countFact 87 = .ok (.getfield 35, 3) := by decide +kernel
theorem dX4_countFact_90 : decode cX4_countFact 90 = .ok (.invokevirtual 166, 3) := by decide +kernel
theorem dX4_countFact_93 : decode cX4_countFact 93 = .ok (.ireturn, 1) := by decide +kernel
theorem dX4_countFact_94 : decode cX4_countFact 94 = .ok (.aload_n 0, 1) := by decide +kernel
theorem dX4_countFact_95 : decode cX4_countFact 95 = .ok (.getfield 35, 3) := by decide +kernel
theorem dX4_countFact_98 : decode cX4_countFact 98 = .ok (.invokevirtual 155, 3) := by decide +kernel
theorem dX4_countFact_101 : decode cX4_countFact 101 = .ok (.ireturn, 1) := by decide +kernel
theorem dX4_countFact_102 : decode cX4_countFact 102 = .ok (.aload_n 0, 1) := by decide +kernel
theorem dX4_countFact_103 : decode cX4_countFact 103 = .ok (.getfield 152, 3) := by decide +kernel
theorem dX4_countFact_106 : decode cX4_countFact 106 = .ok (.ireturn, 1) := by decide +kernel
set_option maxRecDepth 20000 in
theorem ggX4_isSpoiled_X0_kindsOf : GoodIn wsX4_isSpoiled wsX0_kindsOf := goodIn_r _ [7, 8, 9, 29, 30] (by decide +kernel) (by decide +kernel)
set_option maxRecDepth 20000 in
theorem gX4_isSpoiled_X0_kindsOf : GoodIn wsX4_isSpoiled (wsV RX4 145 RX0 yX0_kindsOf wsX0_kindsOf) := goodIn_app (goodIn_of _ (by decide +kernel)) ggX4_isSpoiled_X0_kindsOf
set_option maxRecDepth 20000 in
theorem ggX4_isSpoiled_X1_holding : GoodIn wsX4_isSpoiled wsX1_holding := goodIn_r _ [14, 15, 16, 17, 18, 13, 19, 20, 21, 31, 32, 33] (by decide +kernel) (by decide +kernel)
set_option maxRecDepth 20000 in
theorem gX4_isSpoiled_X1_holding : GoodIn wsX4_isSpoiled (wsV RX4 208 RX1 yX1_holding wsX1_holding) := goodIn_app (goodIn_of _ (by decide +kernel)) ggX4_isSpoiled_X1_holding
