def RX0 : String := "RuleArguments$ArgumentList"
def TX0 : u_T := fun k => match k with
  | 0 => ("RuleArguments$ArgumentList", "conclusions", "[I", true)
  | 1 => ("RuleArguments$ArgumentList", "makers", "[I", true)
  | 2 => ("RuleArguments$ArgumentList", "depths", "[I", true)
  | 3 => ("RuleArguments$ArgumentList", "parts", "[I", true)
  | 4 => ("RuleArguments$ArgumentList", "reached", "[I", true)
  | 5 => ("RuleArguments$ArgumentList", "count", "I", false)
  | _ => ("RuleArguments$ArgumentList", "tooMany", "Z", false)
def tyX0 : Nat → FieldType := fun k => match k with
  | 0 => .array .int
  | 1 => .array .int
  | 2 => .array .int
  | 3 => .array .int
  | 4 => .array .int
  | 5 => .int
  | _ => .boolean
abbrev wsX00 : List Cond := u_ws RX0 TX0 7
theorem nmX0 : ∀ a, a < 7 → ∀ b, b < 7 → a ≠ b → (TX0 a).2.1 ≠ (TX0 b).2.1 := by decide +kernel
theorem tyX0_ok : ∀ k, k < 7 → parseFieldDescriptor (TX0 k).2.2.1 = some (tyX0 k) := by decide +kernel
abbrev cX0_init : ByteArray := prog_2_method_1_code
def yX0_init : MethodName := ⟨RX0, "<init>", "()V"⟩
abbrev cX0_conclusionAt : ByteArray := prog_2_method_2_code
def yX0_conclusionAt : MethodName := ⟨RX0, "conclusionAt", "(I)I"⟩
abbrev cX0_makerAt : ByteArray := prog_2_method_3_code
def yX0_makerAt : MethodName := ⟨RX0, "makerAt", "(I)I"⟩
abbrev cX0_depthAt : ByteArray := prog_2_method_4_code
def yX0_depthAt : MethodName := ⟨RX0, "depthAt", "(I)I"⟩
abbrev cX0_partAt : ByteArray := prog_2_method_5_code
def yX0_partAt : MethodName := ⟨RX0, "partAt", "(II)I"⟩
abbrev cX0_reachedAt : ByteArray := prog_2_method_6_code
def yX0_reachedAt : MethodName := ⟨RX0, "reachedAt", "(I)I"⟩
abbrev cX0_build : ByteArray := prog_2_method_7_code
def yX0_build : MethodName := ⟨RX0, "build", "(LRuleArguments$FactBook;LRuleArguments$RuleBook;)V"⟩
abbrev cX0_addMadeBy : ByteArray := prog_2_method_8_code
def yX0_addMadeBy : MethodName := ⟨RX0, "addMadeBy", "(ILRuleArguments$Rule;II)V"⟩
abbrev cX0_choicesStart : ByteArray := prog_2_method_9_code
def yX0_choicesStart : MethodName := ⟨RX0, "choicesStart", "(I)I"⟩
abbrev cX0_choicesEnd : ByteArray := prog_2_method_10_code
def yX0_choicesEnd : MethodName := ⟨RX0, "choicesEnd", "(II)I"⟩
abbrev cX0_fits : ByteArray := prog_2_method_11_code
def yX0_fits : MethodName := ⟨RX0, "fits", "(IIIII)Z"⟩
abbrev cX0_literalBit : ByteArray := prog_2_method_12_code
def yX0_literalBit : MethodName := ⟨RX0, "literalBit", "(I)I"⟩
abbrev cX0_add : ByteArray := prog_2_method_13_code
def yX0_add : MethodName := ⟨RX0, "add", "(IIIIII)V"⟩
def RX1 : String := "RuleArguments$AttackGraph"
def TX1 : u_T := fun k => match k with
  | _ => ("RuleArguments$AttackGraph", "attackers", "[I", true)
def tyX1 : Nat → FieldType := fun k => match k with
  | _ => .array .int
abbrev wsX10 : List Cond := u_ws RX1 TX1 1
theorem nmX1 : ∀ a, a < 1 → ∀ b, b < 1 → a ≠ b → (TX1 a).2.1 ≠ (TX1 b).2.1 := by decide +kernel
theorem tyX1_ok : ∀ k, k < 1 → parseFieldDescriptor (TX1 k).2.2.1 = some (tyX1 k) := by decide +kernel
abbrev cX1_init : ByteArray := prog_3_method_1_code
def yX1_init : MethodName := ⟨RX1, "<init>", "()V"⟩
abbrev cX1_attackersOf : ByteArray := prog_3_method_2_code
def yX1_attackersOf : MethodName := ⟨RX1, "attackersOf", "(I)I"⟩
abbrev cX1_leads : ByteArray := prog_3_method_3_code
def yX1_leads : MethodName := ⟨RX1, "leads", "(II)Z"⟩
abbrev cX1_build : ByteArray := prog_3_method_4_code
def yX1_build : MethodName := ⟨RX1, "build", "(LRuleArguments$ArgumentList;LRuleArguments$RuleBook;)V"⟩
abbrev cX1_attackersOfRule : ByteArray := prog_3_method_5_code
def yX1_attackersOfRule : MethodName := ⟨RX1, "attackersOfRule", "(LRuleArguments$ArgumentList;LRuleArguments$RuleBook;LRuleArguments$Rule;)I"⟩
abbrev cX1_strength : ByteArray := prog_3_method_6_code
def yX1_strength : MethodName := ⟨RX1, "strength", "(LRuleArguments$ArgumentList;LRuleArguments$RuleBook;I)I"⟩
def RX2 : String := "RuleArguments$FactBook"
def TX2 : u_T := fun k => match k with
  | 0 => ("RuleArguments$FactBook", "present", "[Z", true)
  | _ => ("RuleArguments$FactBook", "count", "I", false)
def tyX2 : Nat → FieldType := fun k => match k with
  | 0 => .array .boolean
  | _ => .int
abbrev wsX20 : List Cond := u_ws RX2 TX2 2
theorem nmX2 : ∀ a, a < 2 → ∀ b, b < 2 → a ≠ b → (TX2 a).2.1 ≠ (TX2 b).2.1 := by decide +kernel
theorem tyX2_ok : ∀ k, k < 2 → parseFieldDescriptor (TX2 k).2.2.1 = some (tyX2 k) := by decide +kernel
abbrev cX2_init : ByteArray := prog_4_method_1_code
def yX2_init : MethodName := ⟨RX2, "<init>", "()V"⟩
abbrev cX2_has : ByteArray := prog_4_method_2_code
def yX2_has : MethodName := ⟨RX2, "has", "(I)Z"⟩
abbrev cX2_put : ByteArray := prog_4_method_3_code
def yX2_put : MethodName := ⟨RX2, "put", "(I)V"⟩
abbrev cX2_drop : ByteArray := prog_4_method_4_code
def yX2_drop : MethodName := ⟨RX2, "drop", "(I)V"⟩
def RX3 : String := "RuleArguments$Labelling"
def TX3 : u_T := fun k => match k with
  | 0 => ("RuleArguments$Labelling", "rounds", "[I", true)
  | 1 => ("RuleArguments$Labelling", "in", "I", false)
  | _ => ("RuleArguments$Labelling", "out", "I", false)
def tyX3 : Nat → FieldType := fun k => match k with
  | 0 => .array .int
  | 1 => .int
  | _ => .int
abbrev wsX30 : List Cond := u_ws RX3 TX3 3
theorem nmX3 : ∀ a, a < 3 → ∀ b, b < 3 → a ≠ b → (TX3 a).2.1 ≠ (TX3 b).2.1 := by decide +kernel
theorem tyX3_ok : ∀ k, k < 3 → parseFieldDescriptor (TX3 k).2.2.1 = some (tyX3 k) := by decide +kernel
abbrev cX3_init : ByteArray := prog_5_method_1_code
def yX3_init : MethodName := ⟨RX3, "<init>", "()V"⟩
abbrev cX3_labelAt : ByteArray := prog_5_method_2_code
def yX3_labelAt : MethodName := ⟨RX3, "labelAt", "(I)I"⟩
abbrev cX3_roundAt : ByteArray := prog_5_method_3_code
def yX3_roundAt : MethodName := ⟨RX3, "roundAt", "(I)I"⟩
abbrev cX3_build : ByteArray := prog_5_method_4_code
def yX3_build : MethodName := ⟨RX3, "build", "(LRuleArguments$AttackGraph;I)V"⟩
abbrev cX3_unattacked : ByteArray := prog_5_method_5_code
def yX3_unattacked : MethodName := ⟨RX3, "unattacked", "(LRuleArguments$AttackGraph;I)I"⟩
abbrev cX3_defeated : ByteArray := prog_5_method_6_code
def yX3_defeated : MethodName := ⟨RX3, "defeated", "(LRuleArguments$AttackGraph;I)I"⟩
abbrev cX3_noteRound : ByteArray := prog_5_method_7_code
def yX3_noteRound : MethodName := ⟨RX3, "noteRound", "(II)V"⟩
def RX4 : String := "RuleArguments$Rule"
def TX4 : u_T := fun k => match k with
  | 0 => ("RuleArguments$Rule", "head", "I", true)
  | 1 => ("RuleArguments$Rule", "first", "I", true)
  | 2 => ("RuleArguments$Rule", "second", "I", true)
  | 3 => ("RuleArguments$Rule", "third", "I", true)
  | 4 => ("RuleArguments$Rule", "priority", "I", false)
  | 5 => ("RuleArguments$Rule", "exception", "I", false)
  | _ => ("RuleArguments$Rule", "on", "Z", false)
def tyX4 : Nat → FieldType := fun k => match k with
  | 0 => .int
  | 1 => .int
  | 2 => .int
  | 3 => .int
  | 4 => .int
  | 5 => .int
  | _ => .boolean
abbrev wsX40 : List Cond := u_ws RX4 TX4 7
theorem nmX4 : ∀ a, a < 7 → ∀ b, b < 7 → a ≠ b → (TX4 a).2.1 ≠ (TX4 b).2.1 := by decide +kernel
theorem tyX4_ok : ∀ k, k < 7 → parseFieldDescriptor (TX4 k).2.2.1 = some (tyX4 k) := by decide +kernel
abbrev cX4_init : ByteArray := prog_6_method_1_code
def yX4_init : MethodName := ⟨RX4, "<init>", "(IIIII)V"⟩
def RX5 : String := "RuleArguments$RuleBook"
def TX5 : u_T := fun k => match k with
  | 0 => ("RuleArguments$RuleBook", "kept", "Ljava/util/ArrayList;", true)
  | _ => ("RuleArguments$RuleBook", "missing", "LRuleArguments$Rule;", true)
def tyX5 : Nat → FieldType := fun k => match k with
  | 0 => .object "java/util/ArrayList"
  | _ => .object "RuleArguments$Rule"
abbrev wsX50 : List Cond := u_ws RX5 TX5 2
theorem nmX5 : ∀ a, a < 2 → ∀ b, b < 2 → a ≠ b → (TX5 a).2.1 ≠ (TX5 b).2.1 := by decide +kernel
theorem tyX5_ok : ∀ k, k < 2 → parseFieldDescriptor (TX5 k).2.2.1 = some (tyX5 k) := by decide +kernel
abbrev cX5_init : ByteArray := prog_7_method_1_code
def yX5_init : MethodName := ⟨RX5, "<init>", "()V"⟩
abbrev cX5_size : ByteArray := prog_7_method_2_code
def yX5_size : MethodName := ⟨RX5, "size", "()I"⟩
abbrev cX5_at : ByteArray := prog_7_method_3_code
def yX5_at : MethodName := ⟨RX5, "at", "(I)LRuleArguments$Rule;"⟩
abbrev cX5_put : ByteArray := prog_7_method_4_code
def yX5_put : MethodName := ⟨RX5, "put", "(LRuleArguments$Rule;)V"⟩
def RX6 : String := "RuleArguments$SetList"
def TX6 : u_T := fun k => match k with
  | 0 => ("RuleArguments$SetList", "sets", "[I", true)
  | _ => ("RuleArguments$SetList", "count", "I", false)
def tyX6 : Nat → FieldType := fun k => match k with
  | 0 => .array .int
  | _ => .int
abbrev wsX60 : List Cond := u_ws RX6 TX6 2
theorem nmX6 : ∀ a, a < 2 → ∀ b, b < 2 → a ≠ b → (TX6 a).2.1 ≠ (TX6 b).2.1 := by decide +kernel
theorem tyX6_ok : ∀ k, k < 2 → parseFieldDescriptor (TX6 k).2.2.1 = some (tyX6 k) := by decide +kernel
abbrev cX6_init : ByteArray := prog_8_method_1_code
def yX6_init : MethodName := ⟨RX6, "<init>", "()V"⟩
abbrev cX6_clear : ByteArray := prog_8_method_2_code
def yX6_clear : MethodName := ⟨RX6, "clear", "()V"⟩
abbrev cX6_keep : ByteArray := prog_8_method_3_code
def yX6_keep : MethodName := ⟨RX6, "keep", "(I)V"⟩
abbrev cX6_covers : ByteArray := prog_8_method_4_code
def yX6_covers : MethodName := ⟨RX6, "covers", "(I)Z"⟩
abbrev cX6_contains : ByteArray := prog_8_method_5_code
def yX6_contains : MethodName := ⟨RX6, "contains", "(II)Z"⟩
def RX7 : String := "RuleArguments$SetSearch"
def TX7 : u_T := fun k => match k with
  | 0 => ("RuleArguments$SetSearch", "attackers", "LRuleArguments$UnionTable;", true)
  | 1 => ("RuleArguments$SetSearch", "attacked", "LRuleArguments$UnionTable;", true)
  | 2 => ("RuleArguments$SetSearch", "byTrying", "LRuleArguments$SetList;", true)
  | 3 => ("RuleArguments$SetSearch", "bySweep", "LRuleArguments$SetList;", true)
  | _ => ("RuleArguments$SetSearch", "size", "I", false)
def tyX7 : Nat → FieldType := fun k => match k with
  | 0 => .object "RuleArguments$UnionTable"
  | 1 => .object "RuleArguments$UnionTable"
  | 2 => .object "RuleArguments$SetList"
  | 3 => .object "RuleArguments$SetList"
  | _ => .int
abbrev wsX70 : List Cond := u_ws RX7 TX7 5
theorem nmX7 : ∀ a, a < 5 → ∀ b, b < 5 → a ≠ b → (TX7 a).2.1 ≠ (TX7 b).2.1 := by decide +kernel
theorem tyX7_ok : ∀ k, k < 5 → parseFieldDescriptor (TX7 k).2.2.1 = some (tyX7 k) := by decide +kernel
abbrev cX7_init : ByteArray := prog_9_method_1_code
def yX7_init : MethodName := ⟨RX7, "<init>", "()V"⟩
abbrev cX7_prepare : ByteArray := prog_9_method_2_code
def yX7_prepare : MethodName := ⟨RX7, "prepare", "(LRuleArguments$AttackGraph;I)V"⟩
abbrev cX7_tryAll : ByteArray := prog_9_method_3_code
def yX7_tryAll : MethodName := ⟨RX7, "tryAll", "()V"⟩
abbrev cX7_tryFrom : ByteArray := prog_9_method_4_code
def yX7_tryFrom : MethodName := ⟨RX7, "tryFrom", "(LRuleArguments$SetSearch;II)V"⟩
abbrev cX7_sweep : ByteArray := prog_9_method_5_code
def yX7_sweep : MethodName := ⟨RX7, "sweep", "()V"⟩
abbrev cX7_restFrom : ByteArray := prog_9_method_6_code
def yX7_restFrom : MethodName := ⟨RX7, "restFrom", "(I)I"⟩
abbrev cX7_isPeaceful : ByteArray := prog_9_method_7_code
def yX7_isPeaceful : MethodName := ⟨RX7, "isPeaceful", "(I)Z"⟩
abbrev cX7_canDefend : ByteArray := prog_9_method_8_code
def yX7_canDefend : MethodName := ⟨RX7, "canDefend", "(II)Z"⟩
def RX8 : String := "RuleArguments$UnionTable"
def TX8 : u_T := fun k => match k with
  | 0 => ("RuleArguments$UnionTable", "rows", "[I", true)
  | 1 => ("RuleArguments$UnionTable", "lower", "[I", true)
  | _ => ("RuleArguments$UnionTable", "upper", "[I", true)
def tyX8 : Nat → FieldType := fun k => match k with
  | 0 => .array .int
  | 1 => .array .int
  | _ => .array .int
abbrev wsX80 : List Cond := u_ws RX8 TX8 3
theorem nmX8 : ∀ a, a < 3 → ∀ b, b < 3 → a ≠ b → (TX8 a).2.1 ≠ (TX8 b).2.1 := by decide +kernel
theorem tyX8_ok : ∀ k, k < 3 → parseFieldDescriptor (TX8 k).2.2.1 = some (tyX8 k) := by decide +kernel
abbrev cX8_init : ByteArray := prog_10_method_1_code
def yX8_init : MethodName := ⟨RX8, "<init>", "()V"⟩
abbrev cX8_clearRows : ByteArray := prog_10_method_2_code
def yX8_clearRows : MethodName := ⟨RX8, "clearRows", "()V"⟩
abbrev cX8_addToRow : ByteArray := prog_10_method_3_code
def yX8_addToRow : MethodName := ⟨RX8, "addToRow", "(II)V"⟩
abbrev cX8_fillHalves : ByteArray := prog_10_method_4_code
def yX8_fillHalves : MethodName := ⟨RX8, "fillHalves", "()V"⟩
abbrev cX8_of : ByteArray := prog_10_method_5_code
def yX8_of : MethodName := ⟨RX8, "of", "(I)I"⟩
def RX9 : String := "RuleArguments"
def TX9 : u_T := fun k => match k with
  | 0 => ("RuleArguments", "factBook", "LRuleArguments$FactBook;", true)
  | 1 => ("RuleArguments", "ruleBook", "LRuleArguments$RuleBook;", true)
  | 2 => ("RuleArguments", "list", "LRuleArguments$ArgumentList;", true)
  | 3 => ("RuleArguments", "graph", "LRuleArguments$AttackGraph;", true)
  | 4 => ("RuleArguments", "labelling", "LRuleArguments$Labelling;", true)
  | 5 => ("RuleArguments", "search", "LRuleArguments$SetSearch;", true)
  | 6 => ("RuleArguments", "built", "Z", false)
  | 7 => ("RuleArguments", "tried", "Z", false)
  | _ => ("RuleArguments", "swept", "Z", false)
def tyX9 : Nat → FieldType := fun k => match k with
  | 0 => .object "RuleArguments$FactBook"
  | 1 => .object "RuleArguments$RuleBook"
  | 2 => .object "RuleArguments$ArgumentList"
  | 3 => .object "RuleArguments$AttackGraph"
  | 4 => .object "RuleArguments$Labelling"
  | 5 => .object "RuleArguments$SetSearch"
  | 6 => .boolean
  | 7 => .boolean
  | _ => .boolean
abbrev wsX90 : List Cond := u_ws RX9 TX9 9
theorem nmX9 : ∀ a, a < 9 → ∀ b, b < 9 → a ≠ b → (TX9 a).2.1 ≠ (TX9 b).2.1 := by decide +kernel
theorem tyX9_ok : ∀ k, k < 9 → parseFieldDescriptor (TX9 k).2.2.1 = some (tyX9 k) := by decide +kernel
abbrev cX9_init : ByteArray := prog_1_method_1_code
def yX9_init : MethodName := ⟨RX9, "<init>", "()V"⟩
abbrev cX9_addFact : ByteArray := prog_1_method_2_code
def yX9_addFact : MethodName := ⟨RX9, "addFact", "(I)I"⟩
abbrev cX9_takeBack : ByteArray := prog_1_method_3_code
def yX9_takeBack : MethodName := ⟨RX9, "takeBack", "(I)Z"⟩
abbrev cX9_addRule : ByteArray := prog_1_method_4_code
def yX9_addRule : MethodName := ⟨RX9, "addRule", "(IIIII)I"⟩
abbrev cX9_setPriority : ByteArray := prog_1_method_5_code
def yX9_setPriority : MethodName := ⟨RX9, "setPriority", "(II)I"⟩
abbrev cX9_setException : ByteArray := prog_1_method_6_code
def yX9_setException : MethodName := ⟨RX9, "setException", "(II)I"⟩
abbrev cX9_turn : ByteArray := prog_1_method_7_code
def yX9_turn : MethodName := ⟨RX9, "turn", "(IZ)Z"⟩
abbrev cX9_facts : ByteArray := prog_1_method_8_code
def yX9_facts : MethodName := ⟨RX9, "facts", "()I"⟩
abbrev cX9_rules : ByteArray := prog_1_method_9_code
def yX9_rules : MethodName := ⟨RX9, "rules", "()I"⟩
abbrev cX9_arguments : ByteArray := prog_1_method_10_code
def yX9_arguments : MethodName := ⟨RX9, "arguments", "()I"⟩
abbrev cX9_conclusion : ByteArray := prog_1_method_11_code
def yX9_conclusion : MethodName := ⟨RX9, "conclusion", "(I)I"⟩
abbrev cX9_madeBy : ByteArray := prog_1_method_12_code
def yX9_madeBy : MethodName := ⟨RX9, "madeBy", "(I)I"⟩
abbrev cX9_part : ByteArray := prog_1_method_13_code
def yX9_part : MethodName := ⟨RX9, "part", "(II)I"⟩
abbrev cX9_depth : ByteArray := prog_1_method_14_code
def yX9_depth : MethodName := ⟨RX9, "depth", "(I)I"⟩
abbrev cX9_attacks : ByteArray := prog_1_method_15_code
def yX9_attacks : MethodName := ⟨RX9, "attacks", "(II)Z"⟩
abbrev cX9_label : ByteArray := prog_1_method_16_code
def yX9_label : MethodName := ⟨RX9, "label", "(I)I"⟩
abbrev cX9_round : ByteArray := prog_1_method_17_code
def yX9_round : MethodName := ⟨RX9, "round", "(I)I"⟩
abbrev cX9_holds : ByteArray := prog_1_method_18_code
def yX9_holds : MethodName := ⟨RX9, "holds", "(I)I"⟩
abbrev cX9_reasonFor : ByteArray := prog_1_method_19_code
def yX9_reasonFor : MethodName := ⟨RX9, "reasonFor", "(I)I"⟩
abbrev cX9_reasonAgainst : ByteArray := prog_1_method_20_code
def yX9_reasonAgainst : MethodName := ⟨RX9, "reasonAgainst", "(I)I"⟩
abbrev cX9_preferred : ByteArray := prog_1_method_21_code
def yX9_preferred : MethodName := ⟨RX9, "preferred", "()I"⟩
abbrev cX9_preferredByAllSets : ByteArray := prog_1_method_22_code
def yX9_preferredByAllSets : MethodName := ⟨RX9, "preferredByAllSets", "()I"⟩
abbrev cX9_isInSet : ByteArray := prog_1_method_23_code
def yX9_isInSet : MethodName := ⟨RX9, "isInSet", "(II)Z"⟩
abbrev cX9_setsFor : ByteArray := prog_1_method_24_code
def yX9_setsFor : MethodName := ⟨RX9, "setsFor", "(I)I"⟩
abbrev cX9_isLiteralOrNone : ByteArray := prog_1_method_25_code
def yX9_isLiteralOrNone : MethodName := ⟨RX9, "isLiteralOrNone", "(I)Z"⟩
abbrev cX9_demandLiteral : ByteArray := prog_1_method_26_code
def yX9_demandLiteral : MethodName := ⟨RX9, "demandLiteral", "(I)V"⟩
abbrev cX9_demandLiteralOrNone : ByteArray := prog_1_method_27_code
def yX9_demandLiteralOrNone : MethodName := ⟨RX9, "demandLiteralOrNone", "(I)V"⟩
abbrev cX9_demandPriority : ByteArray := prog_1_method_28_code
def yX9_demandPriority : MethodName := ⟨RX9, "demandPriority", "(I)V"⟩
abbrev cX9_followsInBody : ByteArray := prog_1_method_29_code
def yX9_followsInBody : MethodName := ⟨RX9, "followsInBody", "(II)Z"⟩
abbrev cX9_demandRule : ByteArray := prog_1_method_30_code
def yX9_demandRule : MethodName := ⟨RX9, "demandRule", "(I)V"⟩
abbrev cX9_demandTold : ByteArray := prog_1_method_31_code
def yX9_demandTold : MethodName := ⟨RX9, "demandTold", "()V"⟩
abbrev cX9_demandFew : ByteArray := prog_1_method_32_code
def yX9_demandFew : MethodName := ⟨RX9, "demandFew", "()V"⟩
abbrev cX9_demandArgument : ByteArray := prog_1_method_33_code
def yX9_demandArgument : MethodName := ⟨RX9, "demandArgument", "(I)V"⟩
abbrev cX9_forget : ByteArray := prog_1_method_34_code
def yX9_forget : MethodName := ⟨RX9, "forget", "()V"⟩
abbrev cX9_build : ByteArray := prog_1_method_35_code
def yX9_build : MethodName := ⟨RX9, "build", "()V"⟩
abbrev cX9_trySets : ByteArray := prog_1_method_36_code
def yX9_trySets : MethodName := ⟨RX9, "trySets", "()V"⟩
abbrev cX9_sweepSets : ByteArray := prog_1_method_37_code
def yX9_sweepSets : MethodName := ⟨RX9, "sweepSets", "()V"⟩
abbrev cX9_lowestAttacker : ByteArray := prog_1_method_38_code
def yX9_lowestAttacker : MethodName := ⟨RX9, "lowestAttacker", "(II)I"⟩
abbrev cX9_concludesInSet : ByteArray := prog_1_method_39_code
def yX9_concludesInSet : MethodName := ⟨RX9, "concludesInSet", "(II)Z"⟩
abbrev cX9_setBit : ByteArray := prog_1_method_40_code
def yX9_setBit : MethodName := ⟨RX9, "setBit", "(I)I"⟩
def RX10 : String := "RuleArgumentsModel"
def TX10 : u_T := fun k => match k with
  | 0 => ("RuleArgumentsModel", "thrown", "I", false)
  | 1 => ("RuleArgumentsModel", "isFact", "[Z", true)
  | 2 => ("RuleArgumentsModel", "rules", "I", false)
  | 3 => ("RuleArgumentsModel", "heads", "[I", true)
  | 4 => ("RuleArgumentsModel", "bodies", "[I", true)
  | 5 => ("RuleArgumentsModel", "priorities", "[I", true)
  | 6 => ("RuleArgumentsModel", "exceptions", "[I", true)
  | 7 => ("RuleArgumentsModel", "isOn", "[Z", true)
  | 8 => ("RuleArgumentsModel", "many", "I", false)
  | 9 => ("RuleArgumentsModel", "isTooMany", "Z", false)
  | 10 => ("RuleArgumentsModel", "conclusions", "[I", true)
  | 11 => ("RuleArgumentsModel", "makers", "[I", true)
  | 12 => ("RuleArgumentsModel", "parts", "[I", true)
  | 13 => ("RuleArgumentsModel", "depths", "[I", true)
  | 14 => ("RuleArgumentsModel", "builtOf", "[I", true)
  | 15 => ("RuleArgumentsModel", "attackers", "[I", true)
  | 16 => ("RuleArgumentsModel", "labels", "[I", true)
  | 17 => ("RuleArgumentsModel", "rounds", "[I", true)
  | 18 => ("RuleArgumentsModel", "admissible", "[Z", true)
  | _ => ("RuleArgumentsModel", "extended", "[Z", true)
def tyX10 : Nat → FieldType := fun k => match k with
  | 0 => .int
  | 1 => .array .boolean
  | 2 => .int
  | 3 => .array .int
  | 4 => .array .int
  | 5 => .array .int
  | 6 => .array .int
  | 7 => .array .boolean
  | 8 => .int
  | 9 => .boolean
  | 10 => .array .int
  | 11 => .array .int
  | 12 => .array .int
  | 13 => .array .int
  | 14 => .array .int
  | 15 => .array .int
  | 16 => .array .int
  | 17 => .array .int
  | 18 => .array .boolean
  | _ => .array .boolean
abbrev wsX100 : List Cond := u_ws RX10 TX10 20
theorem nmX10 : ∀ a, a < 20 → ∀ b, b < 20 → a ≠ b → (TX10 a).2.1 ≠ (TX10 b).2.1 := by decide +kernel
theorem tyX10_ok : ∀ k, k < 20 → parseFieldDescriptor (TX10 k).2.2.1 = some (tyX10 k) := by decide +kernel
abbrev cX10_init : ByteArray := prog_12_method_1_code
def yX10_init : MethodName := ⟨RX10, "<init>", "()V"⟩
abbrev cX10_thrown : ByteArray := prog_12_method_2_code
def yX10_thrown : MethodName := ⟨RX10, "thrown", "()I"⟩
abbrev cX10_isLiteral : ByteArray := prog_12_method_3_code
def yX10_isLiteral : MethodName := ⟨RX10, "isLiteral", "(I)Z"⟩
abbrev cX10_isLiteralOrNone : ByteArray := prog_12_method_4_code
def yX10_isLiteralOrNone : MethodName := ⟨RX10, "isLiteralOrNone", "(I)Z"⟩
abbrev cX10_passes : ByteArray := prog_12_method_5_code
def yX10_passes : MethodName := ⟨RX10, "passes", "(I)Z"⟩
abbrev cX10_factsNow : ByteArray := prog_12_method_6_code
def yX10_factsNow : MethodName := ⟨RX10, "factsNow", "()I"⟩
abbrev cX10_addFact : ByteArray := prog_12_method_7_code
def yX10_addFact : MethodName := ⟨RX10, "addFact", "(I)I"⟩
abbrev cX10_takeBack : ByteArray := prog_12_method_8_code
def yX10_takeBack : MethodName := ⟨RX10, "takeBack", "(I)Z"⟩
abbrev cX10_addRule : ByteArray := prog_12_method_9_code
def yX10_addRule : MethodName := ⟨RX10, "addRule", "(IIIII)I"⟩
abbrev cX10_isRule : ByteArray := prog_12_method_10_code
def yX10_isRule : MethodName := ⟨RX10, "isRule", "(I)Z"⟩
abbrev cX10_setPriority : ByteArray := prog_12_method_11_code
def yX10_setPriority : MethodName := ⟨RX10, "setPriority", "(II)I"⟩
abbrev cX10_setException : ByteArray := prog_12_method_12_code
def yX10_setException : MethodName := ⟨RX10, "setException", "(II)I"⟩
abbrev cX10_turn : ByteArray := prog_12_method_13_code
def yX10_turn : MethodName := ⟨RX10, "turn", "(IZ)Z"⟩
abbrev cX10_facts : ByteArray := prog_12_method_14_code
def yX10_facts : MethodName := ⟨RX10, "facts", "()I"⟩
abbrev cX10_rules : ByteArray := prog_12_method_15_code
def yX10_rules : MethodName := ⟨RX10, "rules", "()I"⟩
abbrev cX10_lays : ByteArray := prog_12_method_16_code
def yX10_lays : MethodName := ⟨RX10, "lays", "(IIIIII)V"⟩
abbrev cX10_withAll : ByteArray := prog_12_method_17_code
def yX10_withAll : MethodName := ⟨RX10, "withAll", "(I)I"⟩
abbrev cX10_isPart : ByteArray := prog_12_method_18_code
def yX10_isPart : MethodName := ⟨RX10, "isPart", "(III)Z"⟩
abbrev cX10_isBuiltOf : ByteArray := prog_12_method_19_code
def yX10_isBuiltOf : MethodName := ⟨RX10, "isBuiltOf", "(II)Z"⟩
abbrev cX10_depthOf : ByteArray := prog_12_method_20_code
def yX10_depthOf : MethodName := ⟨RX10, "depthOf", "(I)I"⟩
abbrev cX10_makes : ByteArray := prog_12_method_21_code
def yX10_makes : MethodName := ⟨RX10, "makes", "(III)V"⟩
abbrev cX10_builds : ByteArray := prog_12_method_22_code
def yX10_builds : MethodName := ⟨RX10, "builds", "()V"⟩
abbrev cX10_strengthOf : ByteArray := prog_12_method_23_code
def yX10_strengthOf : MethodName := ⟨RX10, "strengthOf", "(I)I"⟩
abbrev cX10_opposes : ByteArray := prog_12_method_24_code
def yX10_opposes : MethodName := ⟨RX10, "opposes", "(II)Z"⟩
abbrev cX10_laysAttacks : ByteArray := prog_12_method_25_code
def yX10_laysAttacks : MethodName := ⟨RX10, "laysAttacks", "()V"⟩
abbrev cX10_isTold : ByteArray := prog_12_method_26_code
def yX10_isTold : MethodName := ⟨RX10, "isTold", "(I)Z"⟩
abbrev cX10_isArgument : ByteArray := prog_12_method_27_code
def yX10_isArgument : MethodName := ⟨RX10, "isArgument", "(I)Z"⟩
abbrev cX10_arguments : ByteArray := prog_12_method_28_code
def yX10_arguments : MethodName := ⟨RX10, "arguments", "()I"⟩
abbrev cX10_conclusion : ByteArray := prog_12_method_29_code
def yX10_conclusion : MethodName := ⟨RX10, "conclusion", "(I)I"⟩
abbrev cX10_madeBy : ByteArray := prog_12_method_30_code
def yX10_madeBy : MethodName := ⟨RX10, "madeBy", "(I)I"⟩
abbrev cX10_part : ByteArray := prog_12_method_31_code
def yX10_part : MethodName := ⟨RX10, "part", "(II)I"⟩
abbrev cX10_depth : ByteArray := prog_12_method_32_code
def yX10_depth : MethodName := ⟨RX10, "depth", "(I)I"⟩
abbrev cX10_attacks : ByteArray := prog_12_method_33_code
def yX10_attacks : MethodName := ⟨RX10, "attacks", "(II)Z"⟩
abbrev cX10_withLabel : ByteArray := prog_12_method_34_code
def yX10_withLabel : MethodName := ⟨RX10, "withLabel", "(I)I"⟩
abbrev cX10_labelsAll : ByteArray := prog_12_method_35_code
def yX10_labelsAll : MethodName := ⟨RX10, "labelsAll", "()V"⟩
abbrev cX10_label : ByteArray := prog_12_method_36_code
def yX10_label : MethodName := ⟨RX10, "label", "(I)I"⟩
abbrev cX10_round : ByteArray := prog_12_method_37_code
def yX10_round : MethodName := ⟨RX10, "round", "(I)I"⟩
abbrev cX10_isAsked : ByteArray := prog_12_method_38_code
def yX10_isAsked : MethodName := ⟨RX10, "isAsked", "(I)Z"⟩
abbrev cX10_holds : ByteArray := prog_12_method_39_code
def yX10_holds : MethodName := ⟨RX10, "holds", "(I)I"⟩
abbrev cX10_reasonFor : ByteArray := prog_12_method_40_code
def yX10_reasonFor : MethodName := ⟨RX10, "reasonFor", "(I)I"⟩
abbrev cX10_lowest : ByteArray := prog_12_method_41_code
def yX10_lowest : MethodName := ⟨RX10, "lowest", "(I)I"⟩
abbrev cX10_reasonAgainst : ByteArray := prog_12_method_42_code
def yX10_reasonAgainst : MethodName := ⟨RX10, "reasonAgainst", "(I)I"⟩
abbrev cX10_has : ByteArray := prog_12_method_43_code
def yX10_has : MethodName := ⟨RX10, "has", "(II)Z"⟩
abbrev cX10_turned : ByteArray := prog_12_method_44_code
def yX10_turned : MethodName := ⟨RX10, "turned", "(I)I"⟩
abbrev cX10_isAdmissible : ByteArray := prog_12_method_45_code
def yX10_isAdmissible : MethodName := ⟨RX10, "isAdmissible", "(I)Z"⟩
abbrev cX10_prefers : ByteArray := prog_12_method_46_code
def yX10_prefers : MethodName := ⟨RX10, "prefers", "()I"⟩
abbrev cX10_areFew : ByteArray := prog_12_method_47_code
def yX10_areFew : MethodName := ⟨RX10, "areFew", "(I)Z"⟩
abbrev cX10_preferred : ByteArray := prog_12_method_48_code
def yX10_preferred : MethodName := ⟨RX10, "preferred", "()I"⟩
abbrev cX10_preferredByAllSets : ByteArray := prog_12_method_49_code
def yX10_preferredByAllSets : MethodName := ⟨RX10, "preferredByAllSets", "()I"⟩
abbrev cX10_setAt : ByteArray := prog_12_method_50_code
def yX10_setAt : MethodName := ⟨RX10, "setAt", "(I)I"⟩
abbrev cX10_isInSet : ByteArray := prog_12_method_51_code
def yX10_isInSet : MethodName := ⟨RX10, "isInSet", "(II)Z"⟩
abbrev cX10_setsFor : ByteArray := prog_12_method_52_code
def yX10_setsFor : MethodName := ⟨RX10, "setsFor", "(I)I"⟩
def RJx145de : String := "java/io/Serializable"
def TJx145de : u_T := fun k => match k with
  | _ => ("", "", "", false)
def tyJx145de : Nat → FieldType := fun k => match k with
  | _ => .int
abbrev wsJx145de0 : List Cond := u_ws RJx145de TJx145de 0
theorem nmJx145de : ∀ a, a < 0 → ∀ b, b < 0 → a ≠ b → (TJx145de a).2.1 ≠ (TJx145de b).2.1 := by decide +kernel
theorem tyJx145de_ok : ∀ k, k < 0 → parseFieldDescriptor (TJx145de k).2.2.1 = some (tyJx145de k) := by decide +kernel
def RJx8e188 : String := "java/lang/Cloneable"
def TJx8e188 : u_T := fun k => match k with
  | _ => ("", "", "", false)
def tyJx8e188 : Nat → FieldType := fun k => match k with
  | _ => .int
abbrev wsJx8e1880 : List Cond := u_ws RJx8e188 TJx8e188 0
theorem nmJx8e188 : ∀ a, a < 0 → ∀ b, b < 0 → a ≠ b → (TJx8e188 a).2.1 ≠ (TJx8e188 b).2.1 := by decide +kernel
theorem tyJx8e188_ok : ∀ k, k < 0 → parseFieldDescriptor (TJx8e188 k).2.2.1 = some (tyJx8e188 k) := by decide +kernel
def RJxab1ab : String := "java/lang/Iterable"
def TJxab1ab : u_T := fun k => match k with
  | _ => ("", "", "", false)
def tyJxab1ab : Nat → FieldType := fun k => match k with
  | _ => .int
abbrev wsJxab1ab0 : List Cond := u_ws RJxab1ab TJxab1ab 0
theorem nmJxab1ab : ∀ a, a < 0 → ∀ b, b < 0 → a ≠ b → (TJxab1ab a).2.1 ≠ (TJxab1ab b).2.1 := by decide +kernel
theorem tyJxab1ab_ok : ∀ k, k < 0 → parseFieldDescriptor (TJxab1ab k).2.2.1 = some (tyJxab1ab k) := by decide +kernel
def RJ9 : String := "java/lang/Math"
def TJ9 : u_T := fun k => match k with
  | _ => ("", "", "", false)
def tyJ9 : Nat → FieldType := fun k => match k with
  | _ => .int
abbrev wsJ90 : List Cond := u_ws RJ9 TJ9 0
theorem nmJ9 : ∀ a, a < 0 → ∀ b, b < 0 → a ≠ b → (TJ9 a).2.1 ≠ (TJ9 b).2.1 := by decide +kernel
theorem tyJ9_ok : ∀ k, k < 0 → parseFieldDescriptor (TJ9 k).2.2.1 = some (tyJ9 k) := by decide +kernel
abbrev cJ9_max_7cf53 : ByteArray := prog_20_method_65_code
def yJ9_max_7cf53 : MethodName := ⟨RJ9, "max", "(II)I"⟩
abbrev cJ9_min_7cf53 : ByteArray := prog_20_method_69_code
def yJ9_min_7cf53 : MethodName := ⟨RJ9, "min", "(II)I"⟩
def RJ0 : String := "java/lang/String"
def TJ0 : u_T := fun k => match k with
  | _ => ("", "", "", false)
def tyJ0 : Nat → FieldType := fun k => match k with
  | _ => .int
abbrev wsJ00 : List Cond := u_ws RJ0 TJ0 0
theorem nmJ0 : ∀ a, a < 0 → ∀ b, b < 0 → a ≠ b → (TJ0 a).2.1 ≠ (TJ0 b).2.1 := by decide +kernel
theorem tyJ0_ok : ∀ k, k < 0 → parseFieldDescriptor (TJ0 k).2.2.1 = some (tyJ0 k) := by decide +kernel
def RJ10 : String := "java/lang/System"
def TJ10 : u_T := fun k => match k with
  | _ => ("", "", "", false)
def tyJ10 : Nat → FieldType := fun k => match k with
  | _ => .int
abbrev wsJ100 : List Cond := u_ws RJ10 TJ10 0
theorem nmJ10 : ∀ a, a < 0 → ∀ b, b < 0 → a ≠ b → (TJ10 a).2.1 ≠ (TJ10 b).2.1 := by decide +kernel
theorem tyJ10_ok : ∀ k, k < 0 → parseFieldDescriptor (TJ10 k).2.2.1 = some (tyJ10 k) := by decide +kernel
def RJxa1e45 : String := "java/util/AbstractCollection"
def TJxa1e45 : u_T := fun k => match k with
  | _ => ("", "", "", false)
def tyJxa1e45 : Nat → FieldType := fun k => match k with
  | _ => .int
abbrev wsJxa1e450 : List Cond := u_ws RJxa1e45 TJxa1e45 0
theorem nmJxa1e45 : ∀ a, a < 0 → ∀ b, b < 0 → a ≠ b → (TJxa1e45 a).2.1 ≠ (TJxa1e45 b).2.1 := by decide +kernel
theorem tyJxa1e45_ok : ∀ k, k < 0 → parseFieldDescriptor (TJxa1e45 k).2.2.1 = some (tyJxa1e45 k) := by decide +kernel
abbrev cJxa1e45_init_da8c8 : ByteArray := prog_25_method_1_code
def yJxa1e45_init_da8c8 : MethodName := ⟨RJxa1e45, "<init>", "()V"⟩
def RJxc12de : String := "java/util/AbstractList"
def TJxc12de : u_T := fun k => match k with
  | _ => ("", "", "", false)
def tyJxc12de : Nat → FieldType := fun k => match k with
  | _ => .int
abbrev wsJxc12de0 : List Cond := u_ws RJxc12de TJxc12de 0
theorem nmJxc12de : ∀ a, a < 0 → ∀ b, b < 0 → a ≠ b → (TJxc12de a).2.1 ≠ (TJxc12de b).2.1 := by decide +kernel
theorem tyJxc12de_ok : ∀ k, k < 0 → parseFieldDescriptor (TJxc12de k).2.2.1 = some (tyJxc12de k) := by decide +kernel
abbrev cJxc12de_init_da8c8 : ByteArray := prog_26_method_1_code
def yJxc12de_init_da8c8 : MethodName := ⟨RJxc12de, "<init>", "()V"⟩
def RJx4a65c : String := "java/util/ArrayList"
def TJx4a65c : u_T := fun k => match k with
  | 0 => ("java/util/AbstractList", "modCount", "I", false)
  | 1 => ("java/util/ArrayList", "elementData", "[Ljava/lang/Object;", false)
  | _ => ("java/util/ArrayList", "size", "I", false)
def tyJx4a65c : Nat → FieldType := fun k => match k with
  | 0 => .int
  | 1 => .array (.object "java/lang/Object")
  | _ => .int
abbrev wsJx4a65c0 : List Cond := u_ws RJx4a65c TJx4a65c 3
theorem nmJx4a65c : ∀ a, a < 3 → ∀ b, b < 3 → a ≠ b → (TJx4a65c a).2.1 ≠ (TJx4a65c b).2.1 := by decide +kernel
theorem tyJx4a65c_ok : ∀ k, k < 3 → parseFieldDescriptor (TJx4a65c k).2.2.1 = some (tyJx4a65c k) := by decide +kernel
abbrev cJx4a65c_init_da8c8 : ByteArray := prog_27_method_2_code
def yJx4a65c_init_da8c8 : MethodName := ⟨RJx4a65c, "<init>", "()V"⟩
abbrev cJx4a65c_grow_92f84 : ByteArray := prog_27_method_6_code
def yJx4a65c_grow_92f84 : MethodName := ⟨RJx4a65c, "grow", "(I)[Ljava/lang/Object;"⟩
abbrev cJx4a65c_grow_d5877 : ByteArray := prog_27_method_7_code
def yJx4a65c_grow_d5877 : MethodName := ⟨RJx4a65c, "grow", "()[Ljava/lang/Object;"⟩
abbrev cJx4a65c_size_8abf5 : ByteArray := prog_27_method_8_code
def yJx4a65c_size_8abf5 : MethodName := ⟨RJx4a65c, "size", "()I"⟩
abbrev cJx4a65c_elementData_915e3 : ByteArray := prog_27_method_18_code
def yJx4a65c_elementData_915e3 : MethodName := ⟨RJx4a65c, "elementData", "(I)Ljava/lang/Object;"⟩
abbrev cJx4a65c_get_915e3 : ByteArray := prog_27_method_20_code
def yJx4a65c_get_915e3 : MethodName := ⟨RJx4a65c, "get", "(I)Ljava/lang/Object;"⟩
abbrev cJx4a65c_add_72be8 : ByteArray := prog_27_method_24_code
def yJx4a65c_add_72be8 : MethodName := ⟨RJx4a65c, "add", "(Ljava/lang/Object;[Ljava/lang/Object;I)V"⟩
abbrev cJx4a65c_add_9ea2d : ByteArray := prog_27_method_25_code
def yJx4a65c_add_9ea2d : MethodName := ⟨RJx4a65c, "add", "(Ljava/lang/Object;)Z"⟩
def RJ7 : String := "java/util/Arrays"
def TJ7 : u_T := fun k => match k with
  | _ => ("", "", "", false)
def tyJ7 : Nat → FieldType := fun k => match k with
  | _ => .int
abbrev wsJ70 : List Cond := u_ws RJ7 TJ7 0
theorem nmJ7 : ∀ a, a < 0 → ∀ b, b < 0 → a ≠ b → (TJ7 a).2.1 ≠ (TJ7 b).2.1 := by decide +kernel
theorem tyJ7_ok : ∀ k, k < 0 → parseFieldDescriptor (TJ7 k).2.2.1 = some (tyJ7 k) := by decide +kernel
abbrev cJ7_copyOf_1904c : ByteArray := prog_28_method_119_code
def yJ7_copyOf_1904c : MethodName := ⟨RJ7, "copyOf", "([Ljava/lang/Object;I)[Ljava/lang/Object;"⟩
abbrev cJ7_copyOf_6403c : ByteArray := prog_28_method_120_code
def yJ7_copyOf_6403c : MethodName := ⟨RJ7, "copyOf", "([Ljava/lang/Object;ILjava/lang/Class;)[Ljava/lang/Object;"⟩
def RJx5ef63 : String := "java/util/Collection"
def TJx5ef63 : u_T := fun k => match k with
  | _ => ("", "", "", false)
def tyJx5ef63 : Nat → FieldType := fun k => match k with
  | _ => .int
abbrev wsJx5ef630 : List Cond := u_ws RJx5ef63 TJx5ef63 0
theorem nmJx5ef63 : ∀ a, a < 0 → ∀ b, b < 0 → a ≠ b → (TJx5ef63 a).2.1 ≠ (TJx5ef63 b).2.1 := by decide +kernel
theorem tyJx5ef63_ok : ∀ k, k < 0 → parseFieldDescriptor (TJx5ef63 k).2.2.1 = some (tyJx5ef63 k) := by decide +kernel
def RJxbd725 : String := "java/util/List"
def TJxbd725 : u_T := fun k => match k with
  | _ => ("", "", "", false)
def tyJxbd725 : Nat → FieldType := fun k => match k with
  | _ => .int
abbrev wsJxbd7250 : List Cond := u_ws RJxbd725 TJxbd725 0
theorem nmJxbd725 : ∀ a, a < 0 → ∀ b, b < 0 → a ≠ b → (TJxbd725 a).2.1 ≠ (TJxbd725 b).2.1 := by decide +kernel
theorem tyJxbd725_ok : ∀ k, k < 0 → parseFieldDescriptor (TJxbd725 k).2.2.1 = some (tyJxbd725 k) := by decide +kernel
def RJ15 : String := "java/util/Objects"
def TJ15 : u_T := fun k => match k with
  | _ => ("", "", "", false)
def tyJ15 : Nat → FieldType := fun k => match k with
  | _ => .int
abbrev wsJ150 : List Cond := u_ws RJ15 TJ15 0
theorem nmJ15 : ∀ a, a < 0 → ∀ b, b < 0 → a ≠ b → (TJ15 a).2.1 ≠ (TJ15 b).2.1 := by decide +kernel
theorem tyJ15_ok : ∀ k, k < 0 → parseFieldDescriptor (TJ15 k).2.2.1 = some (tyJ15 k) := by decide +kernel
abbrev cJ15_checkIndex_7cf53 : ByteArray := prog_31_method_17_code
def yJ15_checkIndex_7cf53 : MethodName := ⟨RJ15, "checkIndex", "(II)I"⟩
def RJxf0a74 : String := "java/util/RandomAccess"
def TJxf0a74 : u_T := fun k => match k with
  | _ => ("", "", "", false)
def tyJxf0a74 : Nat → FieldType := fun k => match k with
  | _ => .int
abbrev wsJxf0a740 : List Cond := u_ws RJxf0a74 TJxf0a74 0
theorem nmJxf0a74 : ∀ a, a < 0 → ∀ b, b < 0 → a ≠ b → (TJxf0a74 a).2.1 ≠ (TJxf0a74 b).2.1 := by decide +kernel
theorem tyJxf0a74_ok : ∀ k, k < 0 → parseFieldDescriptor (TJxf0a74 k).2.2.1 = some (tyJxf0a74 k) := by decide +kernel
def RJxa66e6 : String := "java/util/SequencedCollection"
def TJxa66e6 : u_T := fun k => match k with
  | _ => ("", "", "", false)
def tyJxa66e6 : Nat → FieldType := fun k => match k with
  | _ => .int
abbrev wsJxa66e60 : List Cond := u_ws RJxa66e6 TJxa66e6 0
theorem nmJxa66e6 : ∀ a, a < 0 → ∀ b, b < 0 → a ≠ b → (TJxa66e6 a).2.1 ≠ (TJxa66e6 b).2.1 := by decide +kernel
theorem tyJxa66e6_ok : ∀ k, k < 0 → parseFieldDescriptor (TJxa66e6 k).2.2.1 = some (tyJxa66e6 k) := by decide +kernel
def RJ8 : String := "jdk/internal/util/ArraysSupport"
def TJ8 : u_T := fun k => match k with
  | _ => ("", "", "", false)
def tyJ8 : Nat → FieldType := fun k => match k with
  | _ => .int
abbrev wsJ80 : List Cond := u_ws RJ8 TJ8 0
theorem nmJ8 : ∀ a, a < 0 → ∀ b, b < 0 → a ≠ b → (TJ8 a).2.1 ≠ (TJ8 b).2.1 := by decide +kernel
theorem tyJ8_ok : ∀ k, k < 0 → parseFieldDescriptor (TJ8 k).2.2.1 = some (tyJ8 k) := by decide +kernel
abbrev cJ8_newLength_cabcc : ByteArray := prog_34_method_27_code
def yJ8_newLength_cabcc : MethodName := ⟨RJ8, "newLength", "(III)I"⟩
abbrev cJ8_hugeLength_7cf53 : ByteArray := prog_34_method_28_code
def yJ8_hugeLength_7cf53 : MethodName := ⟨RJ8, "hugeLength", "(II)I"⟩
def RJ3 : String := "jdk/internal/util/Preconditions"
def TJ3 : u_T := fun k => match k with
  | _ => ("", "", "", false)
def tyJ3 : Nat → FieldType := fun k => match k with
  | _ => .int
abbrev wsJ30 : List Cond := u_ws RJ3 TJ3 0
theorem nmJ3 : ∀ a, a < 0 → ∀ b, b < 0 → a ≠ b → (TJ3 a).2.1 ≠ (TJ3 b).2.1 := by decide +kernel
theorem tyJ3_ok : ∀ k, k < 0 → parseFieldDescriptor (TJ3 k).2.2.1 = some (tyJ3 k) := by decide +kernel
abbrev cJ3_checkIndex_8e157 : ByteArray := prog_35_method_11_code
def yJ3_checkIndex_8e157 : MethodName := ⟨RJ3, "checkIndex", "(IILjava/util/function/BiFunction;)I"⟩
def RL : String := "RuleArgumentsLaw"
abbrev cL_addFact : ByteArray := method_3_code
def yL_addFact : MethodName := ⟨RL, "addFact", "(LRuleArguments;I[J)I"⟩
abbrev cL_takeBack : ByteArray := method_4_code
def yL_takeBack : MethodName := ⟨RL, "takeBack", "(LRuleArguments;I[J)I"⟩
abbrev cL_addRule : ByteArray := method_5_code
def yL_addRule : MethodName := ⟨RL, "addRule", "(LRuleArguments;IIIII[J)I"⟩
abbrev cL_setPriority : ByteArray := method_6_code
def yL_setPriority : MethodName := ⟨RL, "setPriority", "(LRuleArguments;II[J)I"⟩
abbrev cL_setException : ByteArray := method_7_code
def yL_setException : MethodName := ⟨RL, "setException", "(LRuleArguments;II[J)I"⟩
abbrev cL_turn : ByteArray := method_8_code
def yL_turn : MethodName := ⟨RL, "turn", "(LRuleArguments;IZ[J)I"⟩
abbrev cL_conclusion : ByteArray := method_9_code
def yL_conclusion : MethodName := ⟨RL, "conclusion", "(LRuleArguments;I[J)I"⟩
abbrev cL_madeBy : ByteArray := method_10_code
def yL_madeBy : MethodName := ⟨RL, "madeBy", "(LRuleArguments;I[J)I"⟩
abbrev cL_part : ByteArray := method_11_code
def yL_part : MethodName := ⟨RL, "part", "(LRuleArguments;II[J)I"⟩
abbrev cL_depth : ByteArray := method_12_code
def yL_depth : MethodName := ⟨RL, "depth", "(LRuleArguments;I[J)I"⟩
abbrev cL_attacks : ByteArray := method_13_code
def yL_attacks : MethodName := ⟨RL, "attacks", "(LRuleArguments;II[J)I"⟩
abbrev cL_label : ByteArray := method_14_code
def yL_label : MethodName := ⟨RL, "label", "(LRuleArguments;I[J)I"⟩
abbrev cL_round : ByteArray := method_15_code
def yL_round : MethodName := ⟨RL, "round", "(LRuleArguments;I[J)I"⟩
abbrev cL_holds : ByteArray := method_16_code
def yL_holds : MethodName := ⟨RL, "holds", "(LRuleArguments;I[J)I"⟩
abbrev cL_reasonFor : ByteArray := method_17_code
def yL_reasonFor : MethodName := ⟨RL, "reasonFor", "(LRuleArguments;I[J)I"⟩
abbrev cL_reasonAgainst : ByteArray := method_18_code
def yL_reasonAgainst : MethodName := ⟨RL, "reasonAgainst", "(LRuleArguments;I[J)I"⟩
abbrev cL_preferred : ByteArray := method_19_code
def yL_preferred : MethodName := ⟨RL, "preferred", "(LRuleArguments;[J)I"⟩
abbrev cL_preferredByAllSets : ByteArray := method_20_code
def yL_preferredByAllSets : MethodName := ⟨RL, "preferredByAllSets", "(LRuleArguments;[J)I"⟩
abbrev cL_isInSet : ByteArray := method_21_code
def yL_isInSet : MethodName := ⟨RL, "isInSet", "(LRuleArguments;II[J)I"⟩
abbrev cL_setsFor : ByteArray := method_22_code
def yL_setsFor : MethodName := ⟨RL, "setsFor", "(LRuleArguments;I[J)I"⟩
abbrev cL_law : ByteArray := code
def yL_law : MethodName := ⟨RL, "law", "([I)Z"⟩
abbrev vwCl : List vw_C := [(RJx4a65c, TJx4a65c, 3), (RX0, TX0, 7), (RX1, TX1, 1), (RX2, TX2, 2), (RX3, TX3, 3), (RX4, TX4, 7), (RX5, TX5, 2), (RX6, TX6, 2), (RX7, TX7, 5), (RX8, TX8, 3), (RX9, TX9, 9), (RX10, TX10, 20)]
