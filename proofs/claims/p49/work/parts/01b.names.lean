/-! ===== BEGIN printed: names, fields, word lists, decode rows ===== -/
def RX0 : String := "VillageFeud$Divisions"
def TX0 : u_T := fun k => match k with
  | 0 => ("VillageFeud$Divisions", "feuds", "[I", true)
  | _ => ("VillageFeud$Divisions", "count", "I", false)
def tyX0 : Nat → FieldType := fun k => match k with
  | 0 => .array .int
  | _ => .int
abbrev wsX00 : List Cond := u_ws RX0 TX0 2
theorem nmX0 : ∀ a, a < 2 → ∀ b, b < 2 → a ≠ b → (TX0 a).2.1 ≠ (TX0 b).2.1 := by decide +kernel
theorem tyX0_ok : ∀ k, k < 2 → parseFieldDescriptor (TX0 k).2.2.1 = some (tyX0 k) := by decide +kernel
abbrev cX0_init : ByteArray := prog_2_method_1_code
def yX0_init : MethodName := ⟨RX0, "<init>", "()V"⟩
abbrev cX0_measure : ByteArray := prog_2_method_2_code
def yX0_measure : MethodName := ⟨RX0, "measure", "(LVillageFeud$Village;)V"⟩
abbrev cX0_leastFeud : ByteArray := prog_2_method_3_code
def yX0_leastFeud : MethodName := ⟨RX0, "leastFeud", "()I"⟩
abbrev cX0_leastCount : ByteArray := prog_2_method_4_code
def yX0_leastCount : MethodName := ⟨RX0, "leastCount", "()I"⟩
abbrev cX0_leastApart : ByteArray := prog_2_method_5_code
def yX0_leastApart : MethodName := ⟨RX0, "leastApart", "(II)I"⟩
def RX1 : String := "VillageFeud$Flow"
def TX1 : u_T := fun k => match k with
  | 0 => ("VillageFeud$Flow", "room", "[I", true)
  | 1 => ("VillageFeud$Flow", "cameFrom", "[I", true)
  | _ => ("VillageFeud$Flow", "queue", "[I", true)
def tyX1 : Nat → FieldType := fun k => match k with
  | 0 => .array .int
  | 1 => .array .int
  | _ => .array .int
abbrev wsX10 : List Cond := u_ws RX1 TX1 3
theorem nmX1 : ∀ a, a < 3 → ∀ b, b < 3 → a ≠ b → (TX1 a).2.1 ≠ (TX1 b).2.1 := by decide +kernel
theorem tyX1_ok : ∀ k, k < 3 → parseFieldDescriptor (TX1 k).2.2.1 = some (tyX1 k) := by decide +kernel
abbrev cX1_init : ByteArray := prog_3_method_1_code
def yX1_init : MethodName := ⟨RX1, "<init>", "()V"⟩
abbrev cX1_mostFlow : ByteArray := prog_3_method_2_code
def yX1_mostFlow : MethodName := ⟨RX1, "mostFlow", "(LVillageFeud$Village;II)I"⟩
abbrev cX1_findsPath : ByteArray := prog_3_method_3_code
def yX1_findsPath : MethodName := ⟨RX1, "findsPath", "(II)Z"⟩
abbrev cX1_narrowest : ByteArray := prog_3_method_4_code
def yX1_narrowest : MethodName := ⟨RX1, "narrowest", "(II)I"⟩
abbrev cX1_push : ByteArray := prog_3_method_5_code
def yX1_push : MethodName := ⟨RX1, "push", "(III)V"⟩
abbrev cX1_stepBack : ByteArray := prog_3_method_6_code
def yX1_stepBack : MethodName := ⟨RX1, "stepBack", "(I)I"⟩
abbrev cX1_roomOn : ByteArray := prog_3_method_7_code
def yX1_roomOn : MethodName := ⟨RX1, "roomOn", "(II)I"⟩
abbrev cX1_widen : ByteArray := prog_3_method_8_code
def yX1_widen : MethodName := ⟨RX1, "widen", "(III)V"⟩
abbrev cX1_isThere : ByteArray := prog_3_method_9_code
def yX1_isThere : MethodName := ⟨RX1, "isThere", "(I)Z"⟩
def RX2 : String := "VillageFeud$History"
def TX2 : u_T := fun k => match k with
  | 0 => ("VillageFeud$History", "ring", "[LVillageFeud$Village;", true)
  | 1 => ("VillageFeud$History", "next", "I", false)
  | _ => ("VillageFeud$History", "kept", "I", false)
def tyX2 : Nat → FieldType := fun k => match k with
  | 0 => .array (.object "VillageFeud$Village")
  | 1 => .int
  | _ => .int
abbrev wsX20 : List Cond := u_ws RX2 TX2 3
theorem nmX2 : ∀ a, a < 3 → ∀ b, b < 3 → a ≠ b → (TX2 a).2.1 ≠ (TX2 b).2.1 := by decide +kernel
theorem tyX2_ok : ∀ k, k < 3 → parseFieldDescriptor (TX2 k).2.2.1 = some (tyX2 k) := by decide +kernel
abbrev cX2_init : ByteArray := prog_4_method_1_code
def yX2_init : MethodName := ⟨RX2, "<init>", "()V"⟩
abbrev cX2_keep : ByteArray := prog_4_method_2_code
def yX2_keep : MethodName := ⟨RX2, "keep", "(LVillageFeud$Village;)V"⟩
abbrev cX2_count : ByteArray := prog_4_method_5_code
def yX2_count : MethodName := ⟨RX2, "count", "()I"⟩
def RX3 : String := "VillageFeud$Phases"
def TX3 : u_T := fun k => match k with
  | 0 => ("VillageFeud$Phases", "groups", "[I", true)
  | 1 => ("VillageFeud$Phases", "pulls", "[I", true)
  | 2 => ("VillageFeud$Phases", "ties", "[I", true)
  | 3 => ("VillageFeud$Phases", "groupFrom", "[I", true)
  | 4 => ("VillageFeud$Phases", "pullOn", "[I", true)
  | _ => ("VillageFeud$Phases", "size", "I", false)
def tyX3 : Nat → FieldType := fun k => match k with
  | 0 => .array .int
  | 1 => .array .int
  | 2 => .array .int
  | 3 => .array .int
  | 4 => .array .int
  | _ => .int
abbrev wsX30 : List Cond := u_ws RX3 TX3 6
theorem nmX3 : ∀ a, a < 6 → ∀ b, b < 6 → a ≠ b → (TX3 a).2.1 ≠ (TX3 b).2.1 := by decide +kernel
theorem tyX3_ok : ∀ k, k < 6 → parseFieldDescriptor (TX3 k).2.2.1 = some (tyX3 k) := by decide +kernel
abbrev cX3_init : ByteArray := prog_5_method_1_code
def yX3_init : MethodName := ⟨RX3, "<init>", "()V"⟩
abbrev cX3_measure : ByteArray := prog_5_method_2_code
def yX3_measure : MethodName := ⟨RX3, "measure", "(LVillageFeud$Village;)V"⟩
abbrev cX3_joinAll : ByteArray := prog_5_method_3_code
def yX3_joinAll : MethodName := ⟨RX3, "joinAll", "(I)V"⟩
abbrev cX3_strongestOf : ByteArray := prog_5_method_4_code
def yX3_strongestOf : MethodName := ⟨RX3, "strongestOf", "(I)I"⟩
abbrev cX3_put : ByteArray := prog_5_method_5_code
def yX3_put : MethodName := ⟨RX3, "put", "(III)V"⟩
abbrev cX3_mergeLast : ByteArray := prog_5_method_6_code
def yX3_mergeLast : MethodName := ⟨RX3, "mergeLast", "(I)V"⟩
abbrev cX3_groupsIn : ByteArray := prog_5_method_7_code
def yX3_groupsIn : MethodName := ⟨RX3, "groupsIn", "(I)I"⟩
abbrev cX3_hasPlace : ByteArray := prog_5_method_8_code
def yX3_hasPlace : MethodName := ⟨RX3, "hasPlace", "(II)Z"⟩
abbrev cX3_groupAt : ByteArray := prog_5_method_9_code
def yX3_groupAt : MethodName := ⟨RX3, "groupAt", "(II)I"⟩
abbrev cX3_pullAt : ByteArray := prog_5_method_10_code
def yX3_pullAt : MethodName := ⟨RX3, "pullAt", "(II)I"⟩
abbrev cX3_cutOf : ByteArray := prog_5_method_11_code
def yX3_cutOf : MethodName := ⟨RX3, "cutOf", "(I)I"⟩
abbrev cX3_leastPhase : ByteArray := prog_5_method_12_code
def yX3_leastPhase : MethodName := ⟨RX3, "leastPhase", "()I"⟩
abbrev cX3_leastGroup : ByteArray := prog_5_method_13_code
def yX3_leastGroup : MethodName := ⟨RX3, "leastGroup", "()I"⟩
def RX4 : String := "VillageFeud$Refusal"
def TX4 : u_T := fun k => match k with
  | 0 => ("VillageFeud$Refusal", "number", "I", false)
  | 1 => ("VillageFeud$Refusal", "detail", "I", false)
  | 2 => ("VillageFeud$Refusal", "causeNumber", "I", false)
  | _ => ("VillageFeud$Refusal", "causeDetail", "I", false)
def tyX4 : Nat → FieldType := fun k => match k with
  | 0 => .int
  | 1 => .int
  | 2 => .int
  | _ => .int
abbrev wsX40 : List Cond := u_ws RX4 TX4 4
theorem nmX4 : ∀ a, a < 4 → ∀ b, b < 4 → a ≠ b → (TX4 a).2.1 ≠ (TX4 b).2.1 := by decide +kernel
theorem tyX4_ok : ∀ k, k < 4 → parseFieldDescriptor (TX4 k).2.2.1 = some (tyX4 k) := by decide +kernel
abbrev cX4_init : ByteArray := prog_6_method_1_code
def yX4_init : MethodName := ⟨RX4, "<init>", "()V"⟩
abbrev cX4_keep : ByteArray := prog_6_method_2_code
def yX4_keep : MethodName := ⟨RX4, "keep", "(II)V"⟩
abbrev cX4_reaches : ByteArray := prog_6_method_4_code
def yX4_reaches : MethodName := ⟨RX4, "reaches", "(I)Z"⟩
abbrev cX4_numberAt : ByteArray := prog_6_method_5_code
def yX4_numberAt : MethodName := ⟨RX4, "numberAt", "(IZ)I"⟩
def RX5 : String := "VillageFeud$Text"
def TX5 : u_T := fun k => match k with
  | 0 => ("VillageFeud$Text", "signs", "Ljava/lang/StringBuilder;", true)
  | 1 => ("VillageFeud$Text", "kinds", "[I", true)
  | 2 => ("VillageFeud$Text", "numbers", "[I", true)
  | 3 => ("VillageFeud$Text", "orderCount", "I", false)
  | 4 => ("VillageFeud$Text", "numberCount", "I", false)
  | 5 => ("VillageFeud$Text", "position", "I", false)
  | _ => ("VillageFeud$Text", "faultAt", "I", false)
def tyX5 : Nat → FieldType := fun k => match k with
  | 0 => .object "java/lang/StringBuilder"
  | 1 => .array .int
  | 2 => .array .int
  | 3 => .int
  | 4 => .int
  | 5 => .int
  | _ => .int
abbrev wsX50 : List Cond := u_ws RX5 TX5 7
theorem nmX5 : ∀ a, a < 7 → ∀ b, b < 7 → a ≠ b → (TX5 a).2.1 ≠ (TX5 b).2.1 := by decide +kernel
theorem tyX5_ok : ∀ k, k < 7 → parseFieldDescriptor (TX5 k).2.2.1 = some (tyX5 k) := by decide +kernel
abbrev cX5_init : ByteArray := prog_7_method_1_code
def yX5_init : MethodName := ⟨RX5, "<init>", "()V"⟩
abbrev cX5_length : ByteArray := prog_7_method_2_code
def yX5_length : MethodName := ⟨RX5, "length", "()I"⟩
def RX6 : String := "VillageFeud$Village"
def TX6 : u_T := fun k => match k with
  | 0 => ("VillageFeud$Village", "ties", "[I", true)
  | 1 => ("VillageFeud$Village", "size", "I", false)
  | 2 => ("VillageFeud$Village", "sideOne", "I", false)
  | 3 => ("VillageFeud$Village", "came", "I", false)
  | 4 => ("VillageFeud$Village", "went", "I", false)
  | _ => ("VillageFeud$Village", "weddings", "I", false)
def tyX6 : Nat → FieldType := fun k => match k with
  | 0 => .array .int
  | 1 => .int
  | 2 => .int
  | 3 => .int
  | 4 => .int
  | _ => .int
abbrev wsX60 : List Cond := u_ws RX6 TX6 6
theorem nmX6 : ∀ a, a < 6 → ∀ b, b < 6 → a ≠ b → (TX6 a).2.1 ≠ (TX6 b).2.1 := by decide +kernel
theorem tyX6_ok : ∀ k, k < 6 → parseFieldDescriptor (TX6 k).2.2.1 = some (tyX6 k) := by decide +kernel
abbrev cX6_init : ByteArray := prog_8_method_1_code
def yX6_init : MethodName := ⟨RX6, "<init>", "()V"⟩
abbrev cX6_copyFrom : ByteArray := prog_8_method_2_code
def yX6_copyFrom : MethodName := ⟨RX6, "copyFrom", "(LVillageFeud$Village;)V"⟩
abbrev cX6_has : ByteArray := prog_8_method_3_code
def yX6_has : MethodName := ⟨RX6, "has", "(I)Z"⟩
abbrev cX6_everyone : ByteArray := prog_8_method_5_code
def yX6_everyone : MethodName := ⟨RX6, "everyone", "()I"⟩
abbrev cX6_phaseCount : ByteArray := prog_8_method_6_code
def yX6_phaseCount : MethodName := ⟨RX6, "phaseCount", "()I"⟩
abbrev cX6_tie : ByteArray := prog_8_method_7_code
def yX6_tie : MethodName := ⟨RX6, "tie", "(II)I"⟩
abbrev cX6_sideOf : ByteArray := prog_8_method_8_code
def yX6_sideOf : MethodName := ⟨RX6, "sideOf", "(I)I"⟩
abbrev cX6_sameSide : ByteArray := prog_8_method_9_code
def yX6_sameSide : MethodName := ⟨RX6, "sameSide", "(I)I"⟩
abbrev cX6_otherSide : ByteArray := prog_8_method_10_code
def yX6_otherSide : MethodName := ⟨RX6, "otherSide", "(I)I"⟩
abbrev cX6_welcome : ByteArray := prog_8_method_11_code
def yX6_welcome : MethodName := ⟨RX6, "welcome", "()I"⟩
abbrev cX6_dismiss : ByteArray := prog_8_method_12_code
def yX6_dismiss : MethodName := ⟨RX6, "dismiss", "(I)I"⟩
abbrev cX6_retie : ByteArray := prog_8_method_13_code
def yX6_retie : MethodName := ⟨RX6, "retie", "(III)I"⟩
abbrev cX6_setTie : ByteArray := prog_8_method_14_code
def yX6_setTie : MethodName := ⟨RX6, "setTie", "(III)V"⟩
abbrev cX6_unite : ByteArray := prog_8_method_15_code
def yX6_unite : MethodName := ⟨RX6, "unite", "(II)I"⟩
abbrev cX6_moveTo : ByteArray := prog_8_method_16_code
def yX6_moveTo : MethodName := ⟨RX6, "moveTo", "(II)V"⟩
abbrev cX6_tieToSet : ByteArray := prog_8_method_17_code
def yX6_tieToSet : MethodName := ⟨RX6, "tieToSet", "(II)I"⟩
abbrev cX6_feudByBonds : ByteArray := prog_8_method_19_code
def yX6_feudByBonds : MethodName := ⟨RX6, "feudByBonds", "()I"⟩
abbrev cX6_feudByHalves : ByteArray := prog_8_method_20_code
def yX6_feudByHalves : MethodName := ⟨RX6, "feudByHalves", "()I"⟩
abbrev cX6_feudAfterMove : ByteArray := prog_8_method_21_code
def yX6_feudAfterMove : MethodName := ⟨RX6, "feudAfterMove", "(I)I"⟩
abbrev cX6_bondsOf : ByteArray := prog_8_method_22_code
def yX6_bondsOf : MethodName := ⟨RX6, "bondsOf", "(I)I"⟩
abbrev cX6_closestTo : ByteArray := prog_8_method_23_code
def yX6_closestTo : MethodName := ⟨RX6, "closestTo", "(I)I"⟩
abbrev cX6_bondCount : ByteArray := prog_8_method_24_code
def yX6_bondCount : MethodName := ⟨RX6, "bondCount", "()I"⟩
abbrev cX6_weightSum : ByteArray := prog_8_method_25_code
def yX6_weightSum : MethodName := ⟨RX6, "weightSum", "()I"⟩
abbrev cX6_bondsAcross : ByteArray := prog_8_method_26_code
def yX6_bondsAcross : MethodName := ⟨RX6, "bondsAcross", "()I"⟩
abbrev cX6_lonelyCount : ByteArray := prog_8_method_27_code
def yX6_lonelyCount : MethodName := ⟨RX6, "lonelyCount", "()I"⟩
abbrev cX6_bondByIndex : ByteArray := prog_8_method_28_code
def yX6_bondByIndex : MethodName := ⟨RX6, "bondByIndex", "(I)I"⟩
abbrev cX6_heaviestBond : ByteArray := prog_8_method_29_code
def yX6_heaviestBond : MethodName := ⟨RX6, "heaviestBond", "()I"⟩
abbrev cX6_reachOf : ByteArray := prog_8_method_30_code
def yX6_reachOf : MethodName := ⟨RX6, "reachOf", "(I)I"⟩
def RX7 : String := "VillageFeud"
def TX7 : u_T := fun k => match k with
  | 0 => ("VillageFeud", "village", "LVillageFeud$Village;", true)
  | 1 => ("VillageFeud", "trial", "LVillageFeud$Village;", true)
  | 2 => ("VillageFeud", "ahead", "LVillageFeud$Village;", true)
  | 3 => ("VillageFeud", "history", "LVillageFeud$History;", true)
  | 4 => ("VillageFeud", "course", "LVillageFeud$Phases;", true)
  | 5 => ("VillageFeud", "divisions", "LVillageFeud$Divisions;", true)
  | 6 => ("VillageFeud", "flow", "LVillageFeud$Flow;", true)
  | 7 => ("VillageFeud", "text", "LVillageFeud$Text;", true)
  | 8 => ("VillageFeud", "refusal", "LVillageFeud$Refusal;", true)
  | 9 => ("VillageFeud", "line", "Ljava/lang/StringBuilder;", true)
  | 10 => ("VillageFeud", "keys", "[I", true)
  | _ => ("VillageFeud", "saved", "LVillageFeud$Village;", false)
def tyX7 : Nat → FieldType := fun k => match k with
  | 0 => .object "VillageFeud$Village"
  | 1 => .object "VillageFeud$Village"
  | 2 => .object "VillageFeud$Village"
  | 3 => .object "VillageFeud$History"
  | 4 => .object "VillageFeud$Phases"
  | 5 => .object "VillageFeud$Divisions"
  | 6 => .object "VillageFeud$Flow"
  | 7 => .object "VillageFeud$Text"
  | 8 => .object "VillageFeud$Refusal"
  | 9 => .object "java/lang/StringBuilder"
  | 10 => .array .int
  | _ => .object "VillageFeud$Village"
abbrev wsX70 : List Cond := u_ws RX7 TX7 12
theorem nmX7 : ∀ a, a < 12 → ∀ b, b < 12 → a ≠ b → (TX7 a).2.1 ≠ (TX7 b).2.1 := by decide +kernel
theorem tyX7_ok : ∀ k, k < 12 → parseFieldDescriptor (TX7 k).2.2.1 = some (tyX7 k) := by decide +kernel
abbrev cX7_init : ByteArray := prog_1_method_1_code
def yX7_init : MethodName := ⟨RX7, "<init>", "()V"⟩
abbrev cX7_household : ByteArray := prog_1_method_2_code
def yX7_household : MethodName := ⟨RX7, "household", "()I"⟩
abbrev cX7_leave : ByteArray := prog_1_method_3_code
def yX7_leave : MethodName := ⟨RX7, "leave", "(I)I"⟩
abbrev cX7_bond : ByteArray := prog_1_method_4_code
def yX7_bond : MethodName := ⟨RX7, "bond", "(III)I"⟩
abbrev cX7_loosen : ByteArray := prog_1_method_5_code
def yX7_loosen : MethodName := ⟨RX7, "loosen", "(II)I"⟩
abbrev cX7_marry : ByteArray := prog_1_method_6_code
def yX7_marry : MethodName := ⟨RX7, "marry", "(II)I"⟩
abbrev cX7_stand : ByteArray := prog_1_method_7_code
def yX7_stand : MethodName := ⟨RX7, "stand", "(II)I"⟩
abbrev cX7_part : ByteArray := prog_1_method_8_code
def yX7_part : MethodName := ⟨RX7, "part", "()I"⟩
abbrev cX7_weight : ByteArray := prog_1_method_9_code
def yX7_weight : MethodName := ⟨RX7, "weight", "(II)I"⟩
abbrev cX7_householdOf : ByteArray := prog_1_method_10_code
def yX7_householdOf : MethodName := ⟨RX7, "householdOf", "(II)I"⟩
abbrev cX7_feud : ByteArray := prog_1_method_12_code
def yX7_feud : MethodName := ⟨RX7, "feud", "()I"⟩
abbrev cX7_feudAgain : ByteArray := prog_1_method_13_code
def yX7_feudAgain : MethodName := ⟨RX7, "feudAgain", "()I"⟩
abbrev cX7_phases : ByteArray := prog_1_method_14_code
def yX7_phases : MethodName := ⟨RX7, "phases", "()I"⟩
abbrev cX7_phaseOf : ByteArray := prog_1_method_15_code
def yX7_phaseOf : MethodName := ⟨RX7, "phaseOf", "(II)I"⟩
abbrev cX7_joined : ByteArray := prog_1_method_16_code
def yX7_joined : MethodName := ⟨RX7, "joined", "(II)I"⟩
abbrev cX7_tieAt : ByteArray := prog_1_method_17_code
def yX7_tieAt : MethodName := ⟨RX7, "tieAt", "(II)I"⟩
abbrev cX7_least : ByteArray := prog_1_method_18_code
def yX7_least : MethodName := ⟨RX7, "least", "()I"⟩
abbrev cX7_leastAgain : ByteArray := prog_1_method_19_code
def yX7_leastAgain : MethodName := ⟨RX7, "leastAgain", "()I"⟩
abbrev cX7_met : ByteArray := prog_1_method_20_code
def yX7_met : MethodName := ⟨RX7, "met", "()I"⟩
abbrev cX7_leastSides : ByteArray := prog_1_method_21_code
def yX7_leastSides : MethodName := ⟨RX7, "leastSides", "()I"⟩
abbrev cX7_between : ByteArray := prog_1_method_22_code
def yX7_between : MethodName := ⟨RX7, "between", "(II)I"⟩
abbrev cX7_betweenAgain : ByteArray := prog_1_method_23_code
def yX7_betweenAgain : MethodName := ⟨RX7, "betweenAgain", "(II)I"⟩
abbrev cX7_bestMove : ByteArray := prog_1_method_24_code
def yX7_bestMove : MethodName := ⟨RX7, "bestMove", "()I"⟩
abbrev cX7_ifMoved : ByteArray := prog_1_method_25_code
def yX7_ifMoved : MethodName := ⟨RX7, "ifMoved", "(I)I"⟩
abbrev cX7_parts : ByteArray := prog_1_method_28_code
def yX7_parts : MethodName := ⟨RX7, "parts", "()I"⟩
abbrev cX7_partOf : ByteArray := prog_1_method_29_code
def yX7_partOf : MethodName := ⟨RX7, "partOf", "(I)I"⟩
abbrev cX7_bondAt : ByteArray := prog_1_method_30_code
def yX7_bondAt : MethodName := ⟨RX7, "bondAt", "(I)I"⟩
abbrev cX7_heaviest : ByteArray := prog_1_method_31_code
def yX7_heaviest : MethodName := ⟨RX7, "heaviest", "()I"⟩
abbrev cX7_ranked : ByteArray := prog_1_method_32_code
def yX7_ranked : MethodName := ⟨RX7, "ranked", "(II)I"⟩
abbrev cX7_isTold : ByteArray := prog_1_method_33_code
def yX7_isTold : MethodName := ⟨RX7, "isTold", "()Z"⟩
abbrev cX7_reason : ByteArray := prog_1_method_37_code
def yX7_reason : MethodName := ⟨RX7, "reason", "(IZ)I"⟩
abbrev cX7_tell : ByteArray := prog_1_method_38_code
def yX7_tell : MethodName := ⟨RX7, "tell", "()I"⟩
abbrev cX7_tellPhase : ByteArray := prog_1_method_39_code
def yX7_tellPhase : MethodName := ⟨RX7, "tellPhase", "(I)I"⟩
abbrev cX7_tellSides : ByteArray := prog_1_method_40_code
def yX7_tellSides : MethodName := ⟨RX7, "tellSides", "()I"⟩
abbrev cX7_character : ByteArray := prog_1_method_41_code
def yX7_character : MethodName := ⟨RX7, "character", "(I)C"⟩
abbrev cX7_account : ByteArray := prog_1_method_42_code
def yX7_account : MethodName := ⟨RX7, "account", "(I)I"⟩
abbrev cX7_meanWeight : ByteArray := prog_1_method_43_code
def yX7_meanWeight : MethodName := ⟨RX7, "meanWeight", "()D"⟩
abbrev cX7_feudShare : ByteArray := prog_1_method_44_code
def yX7_feudShare : MethodName := ⟨RX7, "feudShare", "()F"⟩
abbrev cX7_refuses : ByteArray := prog_1_method_48_code
def yX7_refuses : MethodName := ⟨RX7, "refuses", "(IIII)Z"⟩
abbrev cX7_refusesPair : ByteArray := prog_1_method_49_code
def yX7_refusesPair : MethodName := ⟨RX7, "refusesPair", "(II)Z"⟩
abbrev cX7_refusesHousehold : ByteArray := prog_1_method_50_code
def yX7_refusesHousehold : MethodName := ⟨RX7, "refusesHousehold", "(I)Z"⟩
abbrev cX7_refusesIf : ByteArray := prog_1_method_51_code
def yX7_refusesIf : MethodName := ⟨RX7, "refusesIf", "(ZII)Z"⟩
abbrev cX7_changed : ByteArray := prog_1_method_52_code
def yX7_changed : MethodName := ⟨RX7, "changed", "(IIII)I"⟩
abbrev cX7_done : ByteArray := prog_1_method_53_code
def yX7_done : MethodName := ⟨RX7, "done", "(IIII)I"⟩
abbrev cX7_isTooSmall : ByteArray := prog_1_method_55_code
def yX7_isTooSmall : MethodName := ⟨RX7, "isTooSmall", "()Z"⟩
abbrev cX7_hasPhase : ByteArray := prog_1_method_56_code
def yX7_hasPhase : MethodName := ⟨RX7, "hasPhase", "(I)Z"⟩
abbrev cX7_leastByPhases : ByteArray := prog_1_method_57_code
def yX7_leastByPhases : MethodName := ⟨RX7, "leastByPhases", "(LVillageFeud$Village;)I"⟩
abbrev cX7_isLeastTold : ByteArray := prog_1_method_59_code
def yX7_isLeastTold : MethodName := ⟨RX7, "isLeastTold", "()Z"⟩
abbrev cX7_fillKeys : ByteArray := prog_1_method_60_code
def yX7_fillKeys : MethodName := ⟨RX7, "fillKeys", "(I)V"⟩
abbrev cX7_keyOf : ByteArray := prog_1_method_61_code
def yX7_keyOf : MethodName := ⟨RX7, "keyOf", "(II)I"⟩
abbrev cX7_householdAtPlace : ByteArray := prog_1_method_62_code
def yX7_householdAtPlace : MethodName := ⟨RX7, "householdAtPlace", "(I)I"⟩
abbrev cX7_placeOf : ByteArray := prog_1_method_63_code
def yX7_placeOf : MethodName := ⟨RX7, "placeOf", "(I)I"⟩
abbrev cX7_writeBond : ByteArray := prog_1_method_64_code
def yX7_writeBond : MethodName := ⟨RX7, "writeBond", "(II)V"⟩
abbrev cX7_writeSet : ByteArray := prog_1_method_65_code
def yX7_writeSet : MethodName := ⟨RX7, "writeSet", "(I)V"⟩
abbrev cX7_isIn : ByteArray := prog_1_method_66_code
def yX7_isIn : MethodName := ⟨RX7, "isIn", "(II)Z"⟩
abbrev cX7_lowestOf : ByteArray := prog_1_method_67_code
def yX7_lowestOf : MethodName := ⟨RX7, "lowestOf", "(I)I"⟩
def RX8 : String := "VillageFeudModel"
def TX8 : u_T := fun k => match k with
  | _ => ("", "", "", false)
def tyX8 : Nat → FieldType := fun k => match k with
  | _ => .int
abbrev wsX80 : List Cond := u_ws RX8 TX8 0
theorem nmX8 : ∀ a, a < 0 → ∀ b, b < 0 → a ≠ b → (TX8 a).2.1 ≠ (TX8 b).2.1 := by decide +kernel
theorem tyX8_ok : ∀ k, k < 0 → parseFieldDescriptor (TX8 k).2.2.1 = some (tyX8 k) := by decide +kernel
def RJx145de : String := "java/io/Serializable"
def TJx145de : u_T := fun k => match k with
  | _ => ("", "", "", false)
def tyJx145de : Nat → FieldType := fun k => match k with
  | _ => .int
abbrev wsJx145de0 : List Cond := u_ws RJx145de TJx145de 0
theorem nmJx145de : ∀ a, a < 0 → ∀ b, b < 0 → a ≠ b → (TJx145de a).2.1 ≠ (TJx145de b).2.1 := by decide +kernel
theorem tyJx145de_ok : ∀ k, k < 0 → parseFieldDescriptor (TJx145de k).2.2.1 = some (tyJx145de k) := by decide +kernel
def RJ5 : String := "java/lang/AbstractStringBuilder"
def TJ5 : u_T := fun k => match k with
  | _ => ("", "", "", false)
def tyJ5 : Nat → FieldType := fun k => match k with
  | _ => .int
abbrev wsJ50 : List Cond := u_ws RJ5 TJ5 0
theorem nmJ5 : ∀ a, a < 0 → ∀ b, b < 0 → a ≠ b → (TJ5 a).2.1 ≠ (TJ5 b).2.1 := by decide +kernel
theorem tyJ5_ok : ∀ k, k < 0 → parseFieldDescriptor (TJ5 k).2.2.1 = some (tyJ5 k) := by decide +kernel
abbrev cJ5_init_d00df : ByteArray := prog_12_method_2_code
def yJ5_init_d00df : MethodName := ⟨RJ5, "<init>", "(I)V"⟩
abbrev cJ5_length_8abf5 : ByteArray := prog_12_method_6_code
def yJ5_length_8abf5 : MethodName := ⟨RJ5, "length", "()I"⟩
abbrev cJ5_ensureCapacityInternal_d00df : ByteArray := prog_12_method_9_code
def yJ5_ensureCapacityInternal_d00df : MethodName := ⟨RJ5, "ensureCapacityInternal", "(I)V"⟩
abbrev cJ5_newCapacity_0f7a4 : ByteArray := prog_12_method_10_code
def yJ5_newCapacity_0f7a4 : MethodName := ⟨RJ5, "newCapacity", "(I)I"⟩
abbrev cJ5_inflate_da8c8 : ByteArray := prog_12_method_11_code
def yJ5_inflate_da8c8 : MethodName := ⟨RJ5, "inflate", "()V"⟩
abbrev cJ5_setLength_d00df : ByteArray := prog_12_method_13_code
def yJ5_setLength_d00df : MethodName := ⟨RJ5, "setLength", "(I)V"⟩
abbrev cJ5_charAt_5068e : ByteArray := prog_12_method_14_code
def yJ5_charAt_5068e : MethodName := ⟨RJ5, "charAt", "(I)C"⟩
abbrev cJ5_append_cf1ce : ByteArray := prog_12_method_22_code
def yJ5_append_cf1ce : MethodName := ⟨RJ5, "append", "(Ljava/lang/String;)Ljava/lang/AbstractStringBuilder;"⟩
abbrev cJ5_appendNull_278bc : ByteArray := prog_12_method_26_code
def yJ5_appendNull_278bc : MethodName := ⟨RJ5, "appendNull", "()Ljava/lang/AbstractStringBuilder;"⟩
abbrev cJ5_append_3fe6f : ByteArray := prog_12_method_31_code
def yJ5_append_3fe6f : MethodName := ⟨RJ5, "append", "(C)Ljava/lang/AbstractStringBuilder;"⟩
abbrev cJ5_append_c97b9 : ByteArray := prog_12_method_32_code
def yJ5_append_c97b9 : MethodName := ⟨RJ5, "append", "(I)Ljava/lang/AbstractStringBuilder;"⟩
abbrev cJ5_getValue_6d5f1 : ByteArray := prog_12_method_64_code
def yJ5_getValue_6d5f1 : MethodName := ⟨RJ5, "getValue", "()[B"⟩
abbrev cJ5_isLatin1_aae02 : ByteArray := prog_12_method_68_code
def yJ5_isLatin1_aae02 : MethodName := ⟨RJ5, "isLatin1", "()Z"⟩
abbrev cJ5_inflateIfNeededFor_a7421 : ByteArray := prog_12_method_71_code
def yJ5_inflateIfNeededFor_a7421 : MethodName := ⟨RJ5, "inflateIfNeededFor", "(Ljava/lang/String;)V"⟩
abbrev cJ5_putStringAt_47b60 : ByteArray := prog_12_method_73_code
def yJ5_putStringAt_47b60 : MethodName := ⟨RJ5, "putStringAt", "(ILjava/lang/String;)V"⟩
def RJx2cfe8 : String := "java/lang/Appendable"
def TJx2cfe8 : u_T := fun k => match k with
  | _ => ("", "", "", false)
def tyJx2cfe8 : Nat → FieldType := fun k => match k with
  | _ => .int
abbrev wsJx2cfe80 : List Cond := u_ws RJx2cfe8 TJx2cfe8 0
theorem nmJx2cfe8 : ∀ a, a < 0 → ∀ b, b < 0 → a ≠ b → (TJx2cfe8 a).2.1 ≠ (TJx2cfe8 b).2.1 := by decide +kernel
theorem tyJx2cfe8_ok : ∀ k, k < 0 → parseFieldDescriptor (TJx2cfe8 k).2.2.1 = some (tyJx2cfe8 k) := by decide +kernel
def RJx9f9b0 : String := "java/lang/CharSequence"
def TJx9f9b0 : u_T := fun k => match k with
  | _ => ("", "", "", false)
def tyJx9f9b0 : Nat → FieldType := fun k => match k with
  | _ => .int
abbrev wsJx9f9b00 : List Cond := u_ws RJx9f9b0 TJx9f9b0 0
theorem nmJx9f9b0 : ∀ a, a < 0 → ∀ b, b < 0 → a ≠ b → (TJx9f9b0 a).2.1 ≠ (TJx9f9b0 b).2.1 := by decide +kernel
theorem tyJx9f9b0_ok : ∀ k, k < 0 → parseFieldDescriptor (TJx9f9b0 k).2.2.1 = some (tyJx9f9b0 k) := by decide +kernel
def RJx8e188 : String := "java/lang/Cloneable"
def TJx8e188 : u_T := fun k => match k with
  | _ => ("", "", "", false)
def tyJx8e188 : Nat → FieldType := fun k => match k with
  | _ => .int
abbrev wsJx8e1880 : List Cond := u_ws RJx8e188 TJx8e188 0
theorem nmJx8e188 : ∀ a, a < 0 → ∀ b, b < 0 → a ≠ b → (TJx8e188 a).2.1 ≠ (TJx8e188 b).2.1 := by decide +kernel
theorem tyJx8e188_ok : ∀ k, k < 0 → parseFieldDescriptor (TJx8e188 k).2.2.1 = some (tyJx8e188 k) := by decide +kernel
def RJxb160c : String := "java/lang/Comparable"
def TJxb160c : u_T := fun k => match k with
  | _ => ("", "", "", false)
def tyJxb160c : Nat → FieldType := fun k => match k with
  | _ => .int
abbrev wsJxb160c0 : List Cond := u_ws RJxb160c TJxb160c 0
theorem nmJxb160c : ∀ a, a < 0 → ∀ b, b < 0 → a ≠ b → (TJxb160c a).2.1 ≠ (TJxb160c b).2.1 := by decide +kernel
theorem tyJxb160c_ok : ∀ k, k < 0 → parseFieldDescriptor (TJxb160c k).2.2.1 = some (tyJxb160c k) := by decide +kernel
def RJ6 : String := "java/lang/Integer"
def TJ6 : u_T := fun k => match k with
  | _ => ("", "", "", false)
def tyJ6 : Nat → FieldType := fun k => match k with
  | _ => .int
abbrev wsJ60 : List Cond := u_ws RJ6 TJ6 0
theorem nmJ6 : ∀ a, a < 0 → ∀ b, b < 0 → a ≠ b → (TJ6 a).2.1 ≠ (TJ6 b).2.1 := by decide +kernel
theorem tyJ6_ok : ∀ k, k < 0 → parseFieldDescriptor (TJ6 k).2.2.1 = some (tyJ6 k) := by decide +kernel
abbrev cJ6_getChars_ba4f3 : ByteArray := prog_21_method_12_code
def yJ6_getChars_ba4f3 : MethodName := ⟨RJ6, "getChars", "(II[B)I"⟩
abbrev cJ6_stringSize_0f7a4 : ByteArray := prog_21_method_13_code
def yJ6_stringSize_0f7a4 : MethodName := ⟨RJ6, "stringSize", "(I)I"⟩
abbrev cJ6_numberOfTrailingZeros_0f7a4 : ByteArray := prog_21_method_48_code
def yJ6_numberOfTrailingZeros_0f7a4 : MethodName := ⟨RJ6, "numberOfTrailingZeros", "(I)I"⟩
abbrev cJ6_bitCount_0f7a4 : ByteArray := prog_21_method_49_code
def yJ6_bitCount_0f7a4 : MethodName := ⟨RJ6, "bitCount", "(I)I"⟩
def RJ9 : String := "java/lang/Math"
def TJ9 : u_T := fun k => match k with
  | _ => ("", "", "", false)
def tyJ9 : Nat → FieldType := fun k => match k with
  | _ => .int
abbrev wsJ90 : List Cond := u_ws RJ9 TJ9 0
theorem nmJ9 : ∀ a, a < 0 → ∀ b, b < 0 → a ≠ b → (TJ9 a).2.1 ≠ (TJ9 b).2.1 := by decide +kernel
theorem tyJ9_ok : ∀ k, k < 0 → parseFieldDescriptor (TJ9 k).2.2.1 = some (tyJ9 k) := by decide +kernel
abbrev cJ9_max_7cf53 : ByteArray := prog_22_method_65_code
def yJ9_max_7cf53 : MethodName := ⟨RJ9, "max", "(II)I"⟩
abbrev cJ9_min_7cf53 : ByteArray := prog_22_method_69_code
def yJ9_min_7cf53 : MethodName := ⟨RJ9, "min", "(II)I"⟩
def RJxd2413 : String := "java/lang/Number"
def TJxd2413 : u_T := fun k => match k with
  | _ => ("", "", "", false)
def tyJxd2413 : Nat → FieldType := fun k => match k with
  | _ => .int
abbrev wsJxd24130 : List Cond := u_ws RJxd2413 TJxd2413 0
theorem nmJxd2413 : ∀ a, a < 0 → ∀ b, b < 0 → a ≠ b → (TJxd2413 a).2.1 ≠ (TJxd2413 b).2.1 := by decide +kernel
theorem tyJxd2413_ok : ∀ k, k < 0 → parseFieldDescriptor (TJxd2413 k).2.2.1 = some (tyJxd2413 k) := by decide +kernel
def RJ0 : String := "java/lang/String"
def TJ0 : u_T := fun k => match k with
  | 0 => ("java/lang/String", "value", "[B", true)
  | 1 => ("java/lang/String", "coder", "B", true)
  | 2 => ("java/lang/String", "hash", "I", false)
  | _ => ("java/lang/String", "hashIsZero", "Z", false)
def tyJ0 : Nat → FieldType := fun k => match k with
  | 0 => .array .byte
  | 1 => .byte
  | 2 => .int
  | _ => .boolean
abbrev wsJ00 : List Cond := u_ws RJ0 TJ0 4
theorem nmJ0 : ∀ a, a < 4 → ∀ b, b < 4 → a ≠ b → (TJ0 a).2.1 ≠ (TJ0 b).2.1 := by decide +kernel
theorem tyJ0_ok : ∀ k, k < 4 → parseFieldDescriptor (TJ0 k).2.2.1 = some (tyJ0 k) := by decide +kernel
abbrev cJ0_init_81219 : ByteArray := prog_25_method_53_code
def yJ0_init_81219 : MethodName := ⟨RJ0, "<init>", "(Ljava/lang/StringBuilder;)V"⟩
abbrev cJ0_length_8abf5 : ByteArray := prog_25_method_54_code
def yJ0_length_8abf5 : MethodName := ⟨RJ0, "length", "()I"⟩
abbrev cJ0_charAt_5068e : ByteArray := prog_25_method_56_code
def yJ0_charAt_5068e : MethodName := ⟨RJ0, "charAt", "(I)C"⟩
abbrev cJ0_getBytes_840e7 : ByteArray := prog_25_method_147_code
def yJ0_getBytes_840e7 : MethodName := ⟨RJ0, "getBytes", "([BIB)V"⟩
abbrev cJ0_init_db425 : ByteArray := prog_25_method_150_code
def yJ0_init_db425 : MethodName := ⟨RJ0, "<init>", "(Ljava/lang/AbstractStringBuilder;Ljava/lang/Void;)V"⟩
abbrev cJ0_coder_7d493 : ByteArray := prog_25_method_152_code
def yJ0_coder_7d493 : MethodName := ⟨RJ0, "coder", "()B"⟩
abbrev cJ0_isLatin1_aae02 : ByteArray := prog_25_method_154_code
def yJ0_isLatin1_aae02 : MethodName := ⟨RJ0, "isLatin1", "()Z"⟩
abbrev cJ0_checkIndex_df160 : ByteArray := prog_25_method_155_code
def yJ0_checkIndex_df160 : MethodName := ⟨RJ0, "checkIndex", "(II)V"⟩
abbrev cJ0_checkBoundsOffCount_cabcc : ByteArray := prog_25_method_157_code
def yJ0_checkBoundsOffCount_cabcc : MethodName := ⟨RJ0, "checkBoundsOffCount", "(III)I"⟩
abbrev cJ0_checkBoundsBeginEnd_23922 : ByteArray := prog_25_method_158_code
def yJ0_checkBoundsBeginEnd_23922 : MethodName := ⟨RJ0, "checkBoundsBeginEnd", "(III)V"⟩
def RJ4 : String := "java/lang/StringBuilder"
def TJ4 : u_T := fun k => match k with
  | 0 => ("java/lang/AbstractStringBuilder", "value", "[B", false)
  | 1 => ("java/lang/AbstractStringBuilder", "coder", "B", false)
  | 2 => ("java/lang/AbstractStringBuilder", "maybeLatin1", "Z", false)
  | _ => ("java/lang/AbstractStringBuilder", "count", "I", false)
def tyJ4 : Nat → FieldType := fun k => match k with
  | 0 => .array .byte
  | 1 => .byte
  | 2 => .boolean
  | _ => .int
abbrev wsJ40 : List Cond := u_ws RJ4 TJ4 4
theorem nmJ4 : ∀ a, a < 4 → ∀ b, b < 4 → a ≠ b → (TJ4 a).2.1 ≠ (TJ4 b).2.1 := by decide +kernel
theorem tyJ4_ok : ∀ k, k < 4 → parseFieldDescriptor (TJ4 k).2.2.1 = some (tyJ4 k) := by decide +kernel
abbrev cJ4_init_da8c8 : ByteArray := prog_26_method_1_code
def yJ4_init_da8c8 : MethodName := ⟨RJ4, "<init>", "()V"⟩
abbrev cJ4_append_15ec4 : ByteArray := prog_26_method_7_code
def yJ4_append_15ec4 : MethodName := ⟨RJ4, "append", "(Ljava/lang/String;)Ljava/lang/StringBuilder;"⟩
abbrev cJ4_append_cf468 : ByteArray := prog_26_method_14_code
def yJ4_append_cf468 : MethodName := ⟨RJ4, "append", "(C)Ljava/lang/StringBuilder;"⟩
abbrev cJ4_append_bf812 : ByteArray := prog_26_method_15_code
def yJ4_append_bf812 : MethodName := ⟨RJ4, "append", "(I)Ljava/lang/StringBuilder;"⟩
abbrev cJ4_toString_0e30d : ByteArray := prog_26_method_42_code
def yJ4_toString_0e30d : MethodName := ⟨RJ4, "toString", "()Ljava/lang/String;"⟩
abbrev cJ4_charAt_5068e : ByteArray := prog_26_method_88_code
def yJ4_charAt_5068e : MethodName := ⟨RJ4, "charAt", "(I)C"⟩
abbrev cJ4_setLength_d00df : ByteArray := prog_26_method_89_code
def yJ4_setLength_d00df : MethodName := ⟨RJ4, "setLength", "(I)V"⟩
abbrev cJ4_length_8abf5 : ByteArray := prog_26_method_93_code
def yJ4_length_8abf5 : MethodName := ⟨RJ4, "length", "()I"⟩
def RJ1 : String := "java/lang/StringLatin1"
def TJ1 : u_T := fun k => match k with
  | _ => ("", "", "", false)
def tyJ1 : Nat → FieldType := fun k => match k with
  | _ => .int
abbrev wsJ10 : List Cond := u_ws RJ1 TJ1 0
theorem nmJ1 : ∀ a, a < 0 → ∀ b, b < 0 → a ≠ b → (TJ1 a).2.1 ≠ (TJ1 b).2.1 := by decide +kernel
theorem tyJ1_ok : ∀ k, k < 0 → parseFieldDescriptor (TJ1 k).2.2.1 = some (tyJ1 k) := by decide +kernel
abbrev cJ1_charAt_3b067 : ByteArray := prog_27_method_2_code
def yJ1_charAt_3b067 : MethodName := ⟨RJ1, "charAt", "([BI)C"⟩
abbrev cJ1_canEncode_fc78d : ByteArray := prog_27_method_3_code
def yJ1_canEncode_fc78d : MethodName := ⟨RJ1, "canEncode", "(C)Z"⟩
abbrev cJ1_fillNull_b72d1 : ByteArray := prog_27_method_48_code
def yJ1_fillNull_b72d1 : MethodName := ⟨RJ1, "fillNull", "([BII)V"⟩
abbrev cJ1_inflate_0e8fd : ByteArray := prog_27_method_50_code
def yJ1_inflate_0e8fd : MethodName := ⟨RJ1, "inflate", "([BI[BII)V"⟩
def RJ2 : String := "java/lang/StringUTF16"
def TJ2 : u_T := fun k => match k with
  | _ => ("", "", "", false)
def tyJ2 : Nat → FieldType := fun k => match k with
  | _ => .int
abbrev wsJ20 : List Cond := u_ws RJ2 TJ2 0
theorem nmJ2 : ∀ a, a < 0 → ∀ b, b < 0 → a ≠ b → (TJ2 a).2.1 ≠ (TJ2 b).2.1 := by decide +kernel
theorem tyJ2_ok : ∀ k, k < 0 → parseFieldDescriptor (TJ2 k).2.2.1 = some (tyJ2 k) := by decide +kernel
abbrev cJ2_newBytesFor_77867 : ByteArray := prog_28_method_2_code
def yJ2_newBytesFor_77867 : MethodName := ⟨RJ2, "newBytesFor", "(I)[B"⟩
abbrev cJ2_newBytesLength_0f7a4 : ByteArray := prog_28_method_3_code
def yJ2_newBytesLength_0f7a4 : MethodName := ⟨RJ2, "newBytesLength", "(I)I"⟩
abbrev cJ2_putChar_b72d1 : ByteArray := prog_28_method_4_code
def yJ2_putChar_b72d1 : MethodName := ⟨RJ2, "putChar", "([BII)V"⟩
abbrev cJ2_getChar_3b067 : ByteArray := prog_28_method_5_code
def yJ2_getChar_3b067 : MethodName := ⟨RJ2, "getChar", "([BI)C"⟩
abbrev cJ2_length_9d52b : ByteArray := prog_28_method_6_code
def yJ2_length_9d52b : MethodName := ⟨RJ2, "length", "([B)I"⟩
abbrev cJ2_coderFromArrayLen_85cad : ByteArray := prog_28_method_15_code
def yJ2_coderFromArrayLen_85cad : MethodName := ⟨RJ2, "coderFromArrayLen", "([BI)B"⟩
abbrev cJ2_compress_39247 : ByteArray := prog_28_method_17_code
def yJ2_compress_39247 : MethodName := ⟨RJ2, "compress", "([BII)[B"⟩
abbrev cJ2_compress_5af95 : ByteArray := prog_28_method_22_code
def yJ2_compress_5af95 : MethodName := ⟨RJ2, "compress", "([BI[BII)I"⟩
abbrev cJ2_fillNull_b72d1 : ByteArray := prog_28_method_70_code
def yJ2_fillNull_b72d1 : MethodName := ⟨RJ2, "fillNull", "([BII)V"⟩
abbrev cJ2_putCharSB_b72d1 : ByteArray := prog_28_method_71_code
def yJ2_putCharSB_b72d1 : MethodName := ⟨RJ2, "putCharSB", "([BII)V"⟩
abbrev cJ2_getChars_46870 : ByteArray := prog_28_method_77_code
def yJ2_getChars_46870 : MethodName := ⟨RJ2, "getChars", "(III[B)I"⟩
abbrev cJ2_putCharsAt_cd4e5 : ByteArray := prog_28_method_81_code
def yJ2_putCharsAt_cd4e5 : MethodName := ⟨RJ2, "putCharsAt", "([BICCCC)I"⟩
abbrev cJ2_charAt_3b067 : ByteArray := prog_28_method_83_code
def yJ2_charAt_3b067 : MethodName := ⟨RJ2, "charAt", "([BI)C"⟩
abbrev cJ2_inflate_0e8fd : ByteArray := prog_28_method_86_code
def yJ2_inflate_0e8fd : MethodName := ⟨RJ2, "inflate", "([BI[BII)V"⟩
abbrev cJ2_getChars_ba4f3 : ByteArray := prog_28_method_89_code
def yJ2_getChars_ba4f3 : MethodName := ⟨RJ2, "getChars", "(II[B)I"⟩
abbrev cJ2_checkIndex_2214a : ByteArray := prog_28_method_91_code
def yJ2_checkIndex_2214a : MethodName := ⟨RJ2, "checkIndex", "(I[B)V"⟩
abbrev cJ2_checkBoundsBeginEnd_d044e : ByteArray := prog_28_method_93_code
def yJ2_checkBoundsBeginEnd_d044e : MethodName := ⟨RJ2, "checkBoundsBeginEnd", "(II[B)V"⟩
abbrev cJ2_checkBoundsOffCount_d044e : ByteArray := prog_28_method_94_code
def yJ2_checkBoundsOffCount_d044e : MethodName := ⟨RJ2, "checkBoundsOffCount", "(II[B)V"⟩
def RJ10 : String := "java/lang/System"
def TJ10 : u_T := fun k => match k with
  | _ => ("", "", "", false)
def tyJ10 : Nat → FieldType := fun k => match k with
  | _ => .int
abbrev wsJ100 : List Cond := u_ws RJ10 TJ10 0
theorem nmJ10 : ∀ a, a < 0 → ∀ b, b < 0 → a ≠ b → (TJ10 a).2.1 ≠ (TJ10 b).2.1 := by decide +kernel
theorem tyJ10_ok : ∀ k, k < 0 → parseFieldDescriptor (TJ10 k).2.2.1 = some (tyJ10 k) := by decide +kernel
def RJxfd54e : String := "java/lang/constant/Constable"
def TJxfd54e : u_T := fun k => match k with
  | _ => ("", "", "", false)
def tyJxfd54e : Nat → FieldType := fun k => match k with
  | _ => .int
abbrev wsJxfd54e0 : List Cond := u_ws RJxfd54e TJxfd54e 0
theorem nmJxfd54e : ∀ a, a < 0 → ∀ b, b < 0 → a ≠ b → (TJxfd54e a).2.1 ≠ (TJxfd54e b).2.1 := by decide +kernel
theorem tyJxfd54e_ok : ∀ k, k < 0 → parseFieldDescriptor (TJxfd54e k).2.2.1 = some (tyJxfd54e k) := by decide +kernel
def RJx3cf43 : String := "java/lang/constant/ConstantDesc"
def TJx3cf43 : u_T := fun k => match k with
  | _ => ("", "", "", false)
def tyJx3cf43 : Nat → FieldType := fun k => match k with
  | _ => .int
abbrev wsJx3cf430 : List Cond := u_ws RJx3cf43 TJx3cf43 0
theorem nmJx3cf43 : ∀ a, a < 0 → ∀ b, b < 0 → a ≠ b → (TJx3cf43 a).2.1 ≠ (TJx3cf43 b).2.1 := by decide +kernel
theorem tyJx3cf43_ok : ∀ k, k < 0 → parseFieldDescriptor (TJx3cf43 k).2.2.1 = some (tyJx3cf43 k) := by decide +kernel
def RJ7 : String := "java/util/Arrays"
def TJ7 : u_T := fun k => match k with
  | _ => ("", "", "", false)
def tyJ7 : Nat → FieldType := fun k => match k with
  | _ => .int
abbrev wsJ70 : List Cond := u_ws RJ7 TJ7 0
theorem nmJ7 : ∀ a, a < 0 → ∀ b, b < 0 → a ≠ b → (TJ7 a).2.1 ≠ (TJ7 b).2.1 := by decide +kernel
theorem tyJ7_ok : ∀ k, k < 0 → parseFieldDescriptor (TJ7 k).2.2.1 = some (tyJ7 k) := by decide +kernel
abbrev cJ7_rangeCheck_23922 : ByteArray := prog_34_method_30_code
def yJ7_rangeCheck_23922 : MethodName := ⟨RJ7, "rangeCheck", "(III)V"⟩
abbrev cJ7_fill_eb02e : ByteArray := prog_34_method_110_code
def yJ7_fill_eb02e : MethodName := ⟨RJ7, "fill", "([BIIB)V"⟩
abbrev cJ7_copyOf_9075b : ByteArray := prog_34_method_121_code
def yJ7_copyOf_9075b : MethodName := ⟨RJ7, "copyOf", "([BI)[B"⟩
abbrev cJ7_checkLength_df160 : ByteArray := prog_34_method_131_code
def yJ7_checkLength_df160 : MethodName := ⟨RJ7, "checkLength", "(II)V"⟩
abbrev cJ7_copyOfRange_39247 : ByteArray := prog_34_method_132_code
def yJ7_copyOfRange_39247 : MethodName := ⟨RJ7, "copyOfRange", "([BII)[B"⟩
abbrev cJ7_copyOfRangeByte_39247 : ByteArray := prog_34_method_133_code
def yJ7_copyOfRangeByte_39247 : MethodName := ⟨RJ7, "copyOfRangeByte", "([BII)[B"⟩
def RJ8 : String := "jdk/internal/util/ArraysSupport"
def TJ8 : u_T := fun k => match k with
  | _ => ("", "", "", false)
def tyJ8 : Nat → FieldType := fun k => match k with
  | _ => .int
abbrev wsJ80 : List Cond := u_ws RJ8 TJ8 0
theorem nmJ8 : ∀ a, a < 0 → ∀ b, b < 0 → a ≠ b → (TJ8 a).2.1 ≠ (TJ8 b).2.1 := by decide +kernel
theorem tyJ8_ok : ∀ k, k < 0 → parseFieldDescriptor (TJ8 k).2.2.1 = some (tyJ8 k) := by decide +kernel
abbrev cJ8_newLength_cabcc : ByteArray := prog_36_method_27_code
def yJ8_newLength_cabcc : MethodName := ⟨RJ8, "newLength", "(III)I"⟩
abbrev cJ8_hugeLength_7cf53 : ByteArray := prog_36_method_28_code
def yJ8_hugeLength_7cf53 : MethodName := ⟨RJ8, "hugeLength", "(II)I"⟩
def RJ3 : String := "jdk/internal/util/Preconditions"
def TJ3 : u_T := fun k => match k with
  | _ => ("", "", "", false)
def tyJ3 : Nat → FieldType := fun k => match k with
  | _ => .int
abbrev wsJ30 : List Cond := u_ws RJ3 TJ3 0
theorem nmJ3 : ∀ a, a < 0 → ∀ b, b < 0 → a ≠ b → (TJ3 a).2.1 ≠ (TJ3 b).2.1 := by decide +kernel
theorem tyJ3_ok : ∀ k, k < 0 → parseFieldDescriptor (TJ3 k).2.2.1 = some (tyJ3 k) := by decide +kernel
abbrev cJ3_checkIndex_8e157 : ByteArray := prog_37_method_11_code
def yJ3_checkIndex_8e157 : MethodName := ⟨RJ3, "checkIndex", "(IILjava/util/function/BiFunction;)I"⟩
abbrev cJ3_checkFromToIndex_8c36e : ByteArray := prog_37_method_12_code
def yJ3_checkFromToIndex_8c36e : MethodName := ⟨RJ3, "checkFromToIndex", "(IIILjava/util/function/BiFunction;)I"⟩
abbrev cJ3_checkFromIndexSize_8c36e : ByteArray := prog_37_method_13_code
def yJ3_checkFromIndexSize_8c36e : MethodName := ⟨RJ3, "checkFromIndexSize", "(IIILjava/util/function/BiFunction;)I"⟩
def RL : String := "VillageFeudLaw"
abbrev cL_cell : ByteArray := method_2_code
def yL_cell : MethodName := ⟨RL, "cell", "([II)I"⟩
abbrev cL_some : ByteArray := method_3_code
def yL_some : MethodName := ⟨RL, "some", "([III)I"⟩
abbrev cL_told : ByteArray := method_4_code
def yL_told : MethodName := ⟨RL, "told", "(LVillageFeud;)I"⟩
abbrev cL_household : ByteArray := method_5_code
def yL_household : MethodName := ⟨RL, "household", "(LVillageFeud;)I"⟩
abbrev cL_leave : ByteArray := method_6_code
def yL_leave : MethodName := ⟨RL, "leave", "(LVillageFeud;I)I"⟩
abbrev cL_bond : ByteArray := method_7_code
def yL_bond : MethodName := ⟨RL, "bond", "(LVillageFeud;III)I"⟩
abbrev cL_loosen : ByteArray := method_8_code
def yL_loosen : MethodName := ⟨RL, "loosen", "(LVillageFeud;II)I"⟩
abbrev cL_marry : ByteArray := method_9_code
def yL_marry : MethodName := ⟨RL, "marry", "(LVillageFeud;II)I"⟩
abbrev cL_stand : ByteArray := method_10_code
def yL_stand : MethodName := ⟨RL, "stand", "(LVillageFeud;II)I"⟩
abbrev cL_part : ByteArray := method_11_code
def yL_part : MethodName := ⟨RL, "part", "(LVillageFeud;)I"⟩
abbrev cL_joined : ByteArray := method_12_code
def yL_joined : MethodName := ⟨RL, "joined", "(LVillageFeud;II)I"⟩
abbrev cL_least : ByteArray := method_13_code
def yL_least : MethodName := ⟨RL, "least", "(LVillageFeud;)I"⟩
abbrev cL_leastAgain : ByteArray := method_14_code
def yL_leastAgain : MethodName := ⟨RL, "leastAgain", "(LVillageFeud;)I"⟩
abbrev cL_met : ByteArray := method_15_code
def yL_met : MethodName := ⟨RL, "met", "(LVillageFeud;)I"⟩
abbrev cL_leastSides : ByteArray := method_16_code
def yL_leastSides : MethodName := ⟨RL, "leastSides", "(LVillageFeud;)I"⟩
abbrev cL_bestMove : ByteArray := method_17_code
def yL_bestMove : MethodName := ⟨RL, "bestMove", "(LVillageFeud;)I"⟩
abbrev cL_bondAt : ByteArray := method_18_code
def yL_bondAt : MethodName := ⟨RL, "bondAt", "(LVillageFeud;I)I"⟩
abbrev cL_heaviest : ByteArray := method_19_code
def yL_heaviest : MethodName := ⟨RL, "heaviest", "(LVillageFeud;)I"⟩
abbrev cL_ranked : ByteArray := method_20_code
def yL_ranked : MethodName := ⟨RL, "ranked", "(LVillageFeud;II)I"⟩
abbrev cL_build : ByteArray := method_21_code
def yL_build : MethodName := ⟨RL, "build", "(LVillageFeud;[I)V"⟩
abbrev cL_acts : ByteArray := method_22_code
def yL_acts : MethodName := ⟨RL, "acts", "(LVillageFeud;[II)V"⟩
abbrev cL_weights : ByteArray := method_23_code
def yL_weights : MethodName := ⟨RL, "weights", "(LVillageFeud;)[[I"⟩
abbrev cL_tie : ByteArray := method_24_code
def yL_tie : MethodName := ⟨RL, "tie", "([[III)I"⟩
abbrev cL_feud : ByteArray := method_25_code
def yL_feud : MethodName := ⟨RL, "feud", "([[II)I"⟩
abbrev cL_least_ : ByteArray := method_26_code
def yL_least_ : MethodName := ⟨RL, "least", "([[III)I"⟩
abbrev cL_isLine : ByteArray := method_27_code
def yL_isLine : MethodName := ⟨RL, "isLine", "(LVillageFeud;ILjava/lang/String;)Z"⟩
abbrev cL_law : ByteArray := code
def yL_law : MethodName := ⟨RL, "law", "([I)Z"⟩
theorem dX0_init_0 : decode cX0_init 0 = .ok (.aload_n 0, 1) := by decide +kernel
theorem dX0_init_1 : decode cX0_init 1 = .ok (.invokespecial 3, 3) := by decide +kernel
theorem dX0_init_4 : decode cX0_init 4 = .ok (.aload_n 0, 1) := by decide +kernel
theorem dX0_init_5 : decode cX0_init 5 = .ok (.sipush 256, 3) := by decide +kernel
theorem dX0_init_8 : decode cX0_init 8 = .ok (.newarray .int, 2) := by decide +kernel
theorem dX0_init_10 : decode cX0_init 10 = .ok (.putfield 9, 3) := by decide +kernel
theorem dX0_init_13 : decode cX0_init 13 = .ok (.aload_n 0, 1) := by decide +kernel
theorem dX0_init_14 : decode cX0_init 14 = .ok (.iconst 0, 1) := by decide +kernel
theorem dX0_init_15 : decode cX0_init 15 = .ok (.putfield 15, 3) := by decide +kernel
theorem dX0_init_18 : decode cX0_init 18 = .ok (.return_, 1) := by decide +kernel
theorem dX0_measure_0 : decode cX0_measure 0 = .ok (.aload_n 0, 1) := by decide +kernel
theorem dX0_measure_1 : decode cX0_measure 1 = .ok (.aload_n 1, 1) := by decide +kernel
theorem dX0_measure_2 : decode cX0_measure 2 = .ok (.getfield 19, 3) := by decide +kernel
theorem dX0_measure_5 : decode cX0_measure 5 = .ok (.iconst 2, 1) := by decide +kernel
theorem dX0_measure_6 : decode cX0_measure 6 = .ok (.if_icmp .ge 7, 3) := by decide +kernel
theorem dX0_measure_9 : decode cX0_measure 9 = .ok (.iconst 0, 1) := by decide +kernel
theorem dX0_measure_10 : decode cX0_measure 10 = .ok (.goto 11, 3) := by decide +kernel
theorem dX0_measure_13 : decode cX0_measure 13 = .ok (.iconst 1, 1) := by decide +kernel
theorem dX0_measure_14 : decode cX0_measure 14 = .ok (.aload_n 1, 1) := by decide +kernel
theorem dX0_measure_15 : decode cX0_measure 15 = .ok (.getfield 19, 3) := by decide +kernel
theorem dX0_measure_18 : decode cX0_measure 18 = .ok (.iconst 1, 1) := by decide +kernel
theorem dX0_measure_19 : decode cX0_measure 19 = .ok (.isub, 1) := by decide +kernel
theorem dX0_measure_20 : decode cX0_measure 20 = .ok (.ishl, 1) := by decide +kernel
theorem dX0_measure_21 : decode cX0_measure 21 = .ok (.putfield 15, 3) := by decide +kernel
theorem dX0_measure_24 : decode cX0_measure 24 = .ok (.iconst 1, 1) := by decide +kernel
theorem dX0_measure_25 : decode cX0_measure 25 = .ok (.istore_n 2, 1) := by decide +kernel
theorem dX0_measure_26 : decode cX0_measure 26 = .ok (.iload_n 2, 1) := by decide +kernel
theorem dX0_measure_27 : decode cX0_measure 27 = .ok (.aload_n 0, 1) := by decide +kernel
theorem dX0_measure_28 : decode cX0_measure 28 = .ok (.getfield 15, 3) := by decide +kernel
theorem dX0_measure_31 : decode cX0_measure 31 = .ok (.if_icmp .ge 65, 3) := by decide +kernel
theorem dX0_measure_34 : decode cX0_measure 34 = .ok (.iload_n 2, 1) := by decide +kernel
theorem dX0_measure_35 : decode cX0_measure 35 = .ok (.aload_n 0, 1) := by decide +kernel
theorem dX0_measure_36 : decode cX0_measure 36 = .ok (.getfield 9, 3) := by decide +kernel
theorem dX0_measure_39 : decode cX0_measure 39 = .ok (.arraylength, 1) := by decide +kernel
theorem dX0_measure_40 : decode cX0_measure 40 = .ok (.if_icmp .ge 56, 3) := by decide +kernel
theorem dX0_measure_43 : decode cX0_measure 43 = .ok (.iload_n 2, 1) := by decide +kernel
theorem dX0_measure_44 : decode cX0_measure 44 = .ok (.invokestatic 24, 3) := by decide +kernel
theorem dX0_measure_47 : decode cX0_measure 47 = .ok (.istore_n 3, 1) := by decide +kernel
theorem dX0_measure_48 : decode cX0_measure 48 = .ok (.iload_n 2, 1) := by decide +kernel
theorem dX0_measure_49 : decode cX0_measure 49 = .ok (.iconst 1, 1) := by decide +kernel
theorem dX0_measure_50 : decode cX0_measure 50 = .ok (.iload_n 3, 1) := by decide +kernel
theorem dX0_measure_51 : decode cX0_measure 51 = .ok (.ishl, 1) := by decide +kernel
theorem dX0_measure_52 : decode cX0_measure 52 = .ok (.iconst (-1), 1) := by decide +kernel
theorem dX0_measure_53 : decode cX0_measure 53 = .ok (.ixor, 1) := by decide +kernel
theorem dX0_measure_54 : decode cX0_measure 54 = .ok (.iand, 1) := by decide +kernel
theorem dX0_measure_55 : decode cX0_measure 55 = .ok (.istore 4, 2) := by decide +kernel
theorem dX0_measure_57 : decode cX0_measure 57 = .ok (.aload_n 0, 1) := by decide +kernel
theorem dX0_measure_58 : decode cX0_measure 58 = .ok (.getfield 9, 3) := by decide +kernel
theorem dX0_measure_61 : decode cX0_measure 61 = .ok (.iload_n 2, 1) := by decide +kernel
theorem dX0_measure_62 : decode cX0_measure 62 = .ok (.aload_n 0, 1) := by decide +kernel
theorem dX0_measure_63 : decode cX0_measure 63 = .ok (.getfield 9, 3) := by decide +kernel
theorem dX0_measure_66 : decode cX0_measure 66 = .ok (.iload 4, 2) := by decide +kernel
theorem dX0_measure_68 : decode cX0_measure 68 = .ok (.iaload, 1) := by decide +kernel
theorem dX0_measure_69 : decode cX0_measure 69 = .ok (.aload_n 1, 1) := by decide +kernel
theorem dX0_measure_70 : decode cX0_measure 70 = .ok (.iload_n 3, 1) := by decide +kernel
theorem dX0_measure_71 : decode cX0_measure 71 = .ok (.aload_n 1, 1) := by decide +kernel
theorem dX0_measure_72 : decode cX0_measure 72 = .ok (.invokevirtual 28, 3) := by decide +kernel
theorem dX0_measure_75 : decode cX0_measure 75 = .ok (.invokevirtual 32, 3) := by decide +kernel
theorem dX0_measure_78 : decode cX0_measure 78 = .ok (.iadd, 1) := by decide +kernel
theorem dX0_measure_79 : decode cX0_measure 79 = .ok (.iconst 2, 1) := by decide +kernel
theorem dX0_measure_80 : decode cX0_measure 80 = .ok (.aload_n 1, 1) := by decide +kernel
theorem dX0_measure_81 : decode cX0_measure 81 = .ok (.iload_n 3, 1) := by decide +kernel
theorem dX0_measure_82 : decode cX0_measure 82 = .ok (.iload 4, 2) := by decide +kernel
theorem dX0_measure_84 : decode cX0_measure 84 = .ok (.invokevirtual 32, 3) := by decide +kernel
theorem dX0_measure_87 : decode cX0_measure 87 = .ok (.imul, 1) := by decide +kernel
theorem dX0_measure_88 : decode cX0_measure 88 = .ok (.isub, 1) := by decide +kernel
theorem dX0_measure_89 : decode cX0_measure 89 = .ok (.iastore, 1) := by decide +kernel
theorem dX0_measure_90 : decode cX0_measure 90 = .ok (.iinc 2 1, 3) := by decide +kernel
theorem dX0_measure_93 : decode cX0_measure 93 = .ok (.goto (-67), 3) := by decide +kernel
theorem dX0_measure_96 : decode cX0_measure 96 = .ok (.return_, 1) := by decide +kernel
theorem dX0_leastFeud_0 : decode cX0_leastFeud 0 = .ok (.ldc 36, 2) := by decide +kernel
theorem dX0_leastFeud_2 : decode cX0_leastFeud 2 = .ok (.istore_n 1, 1) := by decide +kernel
theorem dX0_leastFeud_3 : decode cX0_leastFeud 3 = .ok (.iconst 1, 1) := by decide +kernel
theorem dX0_leastFeud_4 : decode cX0_leastFeud 4 = .ok (.istore_n 2, 1) := by decide +kernel
theorem dX0_leastFeud_5 : decode cX0_leastFeud 5 = .ok (.iload_n 2, 1) := by decide +kernel
theorem dX0_leastFeud_6 : decode cX0_leastFeud 6 = .ok (.aload_n 0, 1) := by decide +kernel
theorem dX0_leastFeud_7 : decode cX0_leastFeud 7 = .ok (.getfield 15, 3) := by decide +kernel
theorem dX0_leastFeud_10 : decode cX0_leastFeud 10 = .ok (.if_icmp .ge 29, 3) := by decide +kernel
theorem dX0_leastFeud_13 : decode cX0_leastFeud 13 = .ok (.iload_n 2, 1) := by decide +kernel
theorem dX0_leastFeud_14 : decode cX0_leastFeud 14 = .ok (.aload_n 0, 1) := by decide +kernel
theorem dX0_leastFeud_15 : decode cX0_leastFeud 15 = .ok (.getfield 9, 3) := by decide +kernel
theorem dX0_leastFeud_18 : decode cX0_leastFeud 18 = .ok (.arraylength, 1) := by decide +kernel
theorem dX0_leastFeud_19 : decode cX0_leastFeud 19 = .ok (.if_icmp .ge 20, 3) := by decide +kernel
theorem dX0_leastFeud_22 : decode cX0_leastFeud 22 = .ok (.iload_n 1, 1) := by decide +kernel
theorem dX0_leastFeud_23 : decode cX0_leastFeud 23 = .ok (.aload_n 0, 1) := by decide +kernel
theorem dX0_leastFeud_24 : decode cX0_leastFeud 24 = .ok (.getfield 9, 3) := by decide +kernel
theorem dX0_leastFeud_27 : decode cX0_leastFeud 27 = .ok (.iload_n 2, 1) := by decide +kernel
theorem dX0_leastFeud_28 : decode cX0_leastFeud 28 = .ok (.iaload, 1) := by decide +kernel
theorem dX0_leastFeud_29 : decode cX0_leastFeud 29 = .ok (.invokestatic 37, 3) := by decide +kernel
theorem dX0_leastFeud_32 : decode cX0_leastFeud 32 = .ok (.istore_n 1, 1) := by decide +kernel
theorem dX0_leastFeud_33 : decode cX0_leastFeud 33 = .ok (.iinc 2 1, 3) := by decide +kernel
theorem dX0_leastFeud_36 : decode cX0_leastFeud 36 = .ok (.goto (-31), 3) := by decide +kernel
theorem dX0_leastFeud_39 : decode cX0_leastFeud 39 = .ok (.iload_n 1, 1) := by decide +kernel
theorem dX0_leastFeud_40 : decode cX0_leastFeud 40 = .ok (.ireturn, 1) := by decide +kernel
theorem dX0_leastCount_0 : decode cX0_leastCount 0 = .ok (.aload_n 0, 1) := by decide +kernel
theorem dX0_leastCount_1 : decode cX0_leastCount 1 = .ok (.invokevirtual 42, 3) := by decide +kernel
theorem dX0_leastCount_4 : decode cX0_leastCount 4 = .ok (.istore_n 1, 1) := by decide +kernel
theorem dX0_leastCount_5 : decode cX0_leastCount 5 = .ok (.iconst 0, 1) := by decide +kernel
theorem dX0_leastCount_6 : decode cX0_leastCount 6 = .ok (.istore_n 2, 1) := by decide +kernel
theorem dX0_leastCount_7 : decode cX0_leastCount 7 = .ok (.iconst 1, 1) := by decide +kernel
theorem dX0_leastCount_8 : decode cX0_leastCount 8 = .ok (.istore_n 3, 1) := by decide +kernel
theorem dX0_leastCount_9 : decode cX0_leastCount 9 = .ok (.iload_n 3, 1) := by decide +kernel
theorem dX0_leastCount_10 : decode cX0_leastCount 10 = .ok (.aload_n 0, 1) := by decide +kernel
theorem dX0_leastCount_11 : decode cX0_leastCount 11 = .ok (.getfield 15, 3) := by decide +kernel
theorem dX0_leastCount_14 : decode cX0_leastCount 14 = .ok (.if_icmp .ge 31, 3) := by decide +kernel
theorem dX0_leastCount_17 : decode cX0_leastCount 17 = .ok (.iload_n 3, 1) := by decide +kernel
theorem dX0_leastCount_18 : decode cX0_leastCount 18 = .ok (.aload_n 0, 1) := by decide +kernel
theorem dX0_leastCount_19 : decode cX0_leastCount 19 = .ok (.getfield 9, 3) := by decide +kernel
theorem dX0_leastCount_22 : decode cX0_leastCount 22 = .ok (.arraylength, 1) := by decide +kernel
theorem dX0_leastCount_23 : decode cX0_leastCount 23 = .ok (.if_icmp .ge 22, 3) := by decide +kernel
theorem dX0_leastCount_26 : decode cX0_leastCount 26 = .ok (.aload_n 0, 1) := by decide +kernel
theorem dX0_leastCount_27 : decode cX0_leastCount 27 = .ok (.getfield 9, 3) := by decide +kernel
theorem dX0_leastCount_30 : decode cX0_leastCount 30 = .ok (.iload_n 3, 1) := by decide +kernel
theorem dX0_leastCount_31 : decode cX0_leastCount 31 = .ok (.iaload, 1) := by decide +kernel
theorem dX0_leastCount_32 : decode cX0_leastCount 32 = .ok (.iload_n 1, 1) := by decide +kernel
theorem dX0_leastCount_33 : decode cX0_leastCount 33 = .ok (.if_icmp .ne 6, 3) := by decide +kernel
theorem dX0_leastCount_36 : decode cX0_leastCount 36 = .ok (.iinc 2 1, 3) := by decide +kernel
theorem dX0_leastCount_39 : decode cX0_leastCount 39 = .ok (.iinc 3 1, 3) := by decide +kernel
theorem dX0_leastCount_42 : decode cX0_leastCount 42 = .ok (.goto (-33), 3) := by decide +kernel
theorem dX0_leastCount_45 : decode cX0_leastCount 45 = .ok (.iload_n 2, 1) := by decide +kernel
theorem dX0_leastCount_46 : decode cX0_leastCount 46 = .ok (.ireturn, 1) := by decide +kernel
theorem dX0_leastApart_0 : decode cX0_leastApart 0 = .ok (.ldc 36, 2) := by decide +kernel
theorem dX0_leastApart_2 : decode cX0_leastApart 2 = .ok (.istore_n 3, 1) := by decide +kernel
theorem dX0_leastApart_3 : decode cX0_leastApart 3 = .ok (.iconst 1, 1) := by decide +kernel
theorem dX0_leastApart_4 : decode cX0_leastApart 4 = .ok (.istore 4, 2) := by decide +kernel
theorem dX0_leastApart_6 : decode cX0_leastApart 6 = .ok (.iload 4, 2) := by decide +kernel
theorem dX0_leastApart_8 : decode cX0_leastApart 8 = .ok (.aload_n 0, 1) := by decide +kernel
theorem dX0_leastApart_9 : decode cX0_leastApart 9 = .ok (.getfield 15, 3) := by decide +kernel
theorem dX0_leastApart_12 : decode cX0_leastApart 12 = .ok (.if_icmp .ge 46, 3) := by decide +kernel
theorem dX0_leastApart_15 : decode cX0_leastApart 15 = .ok (.iload 4, 2) := by decide +kernel
theorem dX0_leastApart_17 : decode cX0_leastApart 17 = .ok (.aload_n 0, 1) := by decide +kernel
theorem dX0_leastApart_18 : decode cX0_leastApart 18 = .ok (.getfield 9, 3) := by decide +kernel
theorem dX0_leastApart_21 : decode cX0_leastApart 21 = .ok (.arraylength, 1) := by decide +kernel
theorem dX0_leastApart_22 : decode cX0_leastApart 22 = .ok (.if_icmp .ge 36, 3) := by decide +kernel
theorem dX0_leastApart_25 : decode cX0_leastApart 25 = .ok (.iload 4, 2) := by decide +kernel
theorem dX0_leastApart_27 : decode cX0_leastApart 27 = .ok (.iload_n 1, 1) := by decide +kernel
theorem dX0_leastApart_28 : decode cX0_leastApart 28 = .ok (.invokestatic 45, 3) := by decide +kernel
theorem dX0_leastApart_31 : decode cX0_leastApart 31 = .ok (.iload 4, 2) := by decide +kernel
theorem dX0_leastApart_33 : decode cX0_leastApart 33 = .ok (.iload_n 2, 1) := by decide +kernel
theorem dX0_leastApart_34 : decode cX0_leastApart 34 = .ok (.invokestatic 45, 3) := by decide +kernel
theorem dX0_leastApart_37 : decode cX0_leastApart 37 = .ok (.if_icmp .eq 15, 3) := by decide +kernel
theorem dX0_leastApart_40 : decode cX0_leastApart 40 = .ok (.iload_n 3, 1) := by decide +kernel
theorem dX0_leastApart_41 : decode cX0_leastApart 41 = .ok (.aload_n 0, 1) := by decide +kernel
theorem dX0_leastApart_42 : decode cX0_leastApart 42 = .ok (.getfield 9, 3) := by decide +kernel
theorem dX0_leastApart_45 : decode cX0_leastApart 45 = .ok (.iload 4, 2) := by decide +kernel
theorem dX0_leastApart_47 : decode cX0_leastApart 47 = .ok (.iaload, 1) := by decide +kernel
theorem dX0_leastApart_48 : decode cX0_leastApart 48 = .ok (.invokestatic 37, 3) := by decide +kernel
theorem dX0_leastApart_51 : decode cX0_leastApart 51 = .ok (.istore_n 3, 1) := by decide +kernel
theorem dX0_leastApart_52 : decode cX0_leastApart 52 = .ok (.iinc 4 1, 3) := by decide +kernel
theorem dX0_leastApart_55 : decode cX0_leastApart 55 = .ok (.goto (-49), 3) := by decide +kernel
theorem dX0_leastApart_58 : decode cX0_leastApart 58 = .ok (.iload_n 3, 1) := by decide +kernel
theorem dX0_leastApart_59 : decode cX0_leastApart 59 = .ok (.ireturn, 1) := by decide +kernel
theorem dX1_init_0 : decode cX1_init 0 = .ok (.aload_n 0, 1) := by decide +kernel
theorem dX1_init_1 : decode cX1_init 1 = .ok (.invokespecial 3, 3) := by decide +kernel
theorem dX1_init_4 : decode cX1_init 4 = .ok (.aload_n 0, 1) := by decide +kernel
theorem dX1_init_5 : decode cX1_init 5 = .ok (.bipush 81, 2) := by decide +kernel
theorem dX1_init_7 : decode cX1_init 7 = .ok (.newarray .int, 2) := by decide +kernel
theorem dX1_init_9 : decode cX1_init 9 = .ok (.putfield 9, 3) := by decide +kernel
theorem dX1_init_12 : decode cX1_init 12 = .ok (.aload_n 0, 1) := by decide +kernel
theorem dX1_init_13 : decode cX1_init 13 = .ok (.bipush 9, 2) := by decide +kernel
theorem dX1_init_15 : decode cX1_init 15 = .ok (.newarray .int, 2) := by decide +kernel
theorem dX1_init_17 : decode cX1_init 17 = .ok (.putfield 15, 3) := by decide +kernel
theorem dX1_init_20 : decode cX1_init 20 = .ok (.aload_n 0, 1) := by decide +kernel
theorem dX1_init_21 : decode cX1_init 21 = .ok (.bipush 9, 2) := by decide +kernel
theorem dX1_init_23 : decode cX1_init 23 = .ok (.newarray .int, 2) := by decide +kernel
theorem dX1_init_25 : decode cX1_init 25 = .ok (.putfield 18, 3) := by decide +kernel
theorem dX1_init_28 : decode cX1_init 28 = .ok (.return_, 1) := by decide +kernel
theorem dX1_mostFlow_0 : decode cX1_mostFlow 0 = .ok (.iconst 0, 1) := by decide +kernel
theorem dX1_mostFlow_1 : decode cX1_mostFlow 1 = .ok (.istore 4, 2) := by decide +kernel
theorem dX1_mostFlow_3 : decode cX1_mostFlow 3 = .ok (.iload 4, 2) := by decide +kernel
theorem dX1_mostFlow_5 : decode cX1_mostFlow 5 = .ok (.bipush 9, 2) := by decide +kernel
theorem dX1_mostFlow_7 : decode cX1_mostFlow 7 = .ok (.if_icmp .ge 46, 3) := by decide +kernel
theorem dX1_mostFlow_10 : decode cX1_mostFlow 10 = .ok (.iconst 0, 1) := by decide +kernel
theorem dX1_mostFlow_11 : decode cX1_mostFlow 11 = .ok (.istore 5, 2) := by decide +kernel
theorem dX1_mostFlow_13 : decode cX1_mostFlow 13 = .ok (.iload 5, 2) := by decide +kernel
theorem dX1_mostFlow_15 : decode cX1_mostFlow 15 = .ok (.bipush 9, 2) := by decide +kernel
theorem dX1_mostFlow_17 : decode cX1_mostFlow 17 = .ok (.if_icmp .ge 30, 3) := by decide +kernel
theorem dX1_mostFlow_20 : decode cX1_mostFlow 20 = .ok (.aload_n 0, 1) := by decide +kernel
theorem dX1_mostFlow_21 : decode cX1_mostFlow 21 = .ok (.getfield 9, 3) := by decide +kernel
theorem dX1_mostFlow_24 : decode cX1_mostFlow 24 = .ok (.iload 4, 2) := by decide +kernel
theorem dX1_mostFlow_26 : decode cX1_mostFlow 26 = .ok (.bipush 9, 2) := by decide +kernel
theorem dX1_mostFlow_28 : decode cX1_mostFlow 28 = .ok (.imul, 1) := by decide +kernel
theorem dX1_mostFlow_29 : decode cX1_mostFlow 29 = .ok (.iload 5, 2) := by decide +kernel
theorem dX1_mostFlow_31 : decode cX1_mostFlow 31 = .ok (.iadd, 1) := by decide +kernel
theorem dX1_mostFlow_32 : decode cX1_mostFlow 32 = .ok (.aload_n 1, 1) := by decide +kernel
theorem dX1_mostFlow_33 : decode cX1_mostFlow 33 = .ok (.iload 4, 2) := by decide +kernel
theorem dX1_mostFlow_35 : decode cX1_mostFlow 35 = .ok (.iload 5, 2) := by decide +kernel
theorem dX1_mostFlow_37 : decode cX1_mostFlow 37 = .ok (.invokevirtual 21, 3) := by decide +kernel
theorem dX1_mostFlow_40 : decode cX1_mostFlow 40 = .ok (.iastore, 1) := by decide +kernel
theorem dX1_mostFlow_41 : decode cX1_mostFlow 41 = .ok (.iinc 5 1, 3) := by decide +kernel
theorem dX1_mostFlow_44 : decode cX1_mostFlow 44 = .ok (.goto (-31), 3) := by decide +kernel
theorem dX1_mostFlow_47 : decode cX1_mostFlow 47 = .ok (.iinc 4 1, 3) := by decide +kernel
theorem dX1_mostFlow_50 : decode cX1_mostFlow 50 = .ok (.goto (-47), 3) := by decide +kernel
theorem dX1_mostFlow_53 : decode cX1_mostFlow 53 = .ok (.iconst 0, 1) := by decide +kernel
theorem dX1_mostFlow_54 : decode cX1_mostFlow 54 = .ok (.istore 4, 2) := by decide +kernel
theorem dX1_mostFlow_56 : decode cX1_mostFlow 56 = .ok (.iconst 0, 1) := by decide +kernel
theorem dX1_mostFlow_57 : decode cX1_mostFlow 57 = .ok (.istore 5, 2) := by decide +kernel
theorem dX1_mostFlow_59 : decode cX1_mostFlow 59 = .ok (.iload 5, 2) := by decide +kernel
theorem dX1_mostFlow_61 : decode cX1_mostFlow 61 = .ok (.sipush 1000, 3) := by decide +kernel
theorem dX1_mostFlow_64 : decode cX1_mostFlow 64 = .ok (.if_icmp .ge 41, 3) := by decide +kernel
theorem dX1_mostFlow_67 : decode cX1_mostFlow 67 = .ok (.aload_n 0, 1) := by decide +kernel
theorem dX1_mostFlow_68 : decode cX1_mostFlow 68 = .ok (.iload_n 2, 1) := by decide +kernel
theorem dX1_mostFlow_69 : decode cX1_mostFlow 69 = .ok (.iload_n 3, 1) := by decide +kernel
theorem dX1_mostFlow_70 : decode cX1_mostFlow 70 = .ok (.invokevirtual 27, 3) := by decide +kernel
theorem dX1_mostFlow_73 : decode cX1_mostFlow 73 = .ok (.ifCond .eq 32, 3) := by decide +kernel
theorem dX1_mostFlow_76 : decode cX1_mostFlow 76 = .ok (.aload_n 0, 1) := by decide +kernel
theorem dX1_mostFlow_77 : decode cX1_mostFlow 77 = .ok (.iload_n 2, 1) := by decide +kernel
theorem dX1_mostFlow_78 : decode cX1_mostFlow 78 = .ok (.iload_n 3, 1) := by decide +kernel
theorem dX1_mostFlow_79 : decode cX1_mostFlow 79 = .ok (.invokevirtual 31, 3) := by decide +kernel
theorem dX1_mostFlow_82 : decode cX1_mostFlow 82 = .ok (.istore 6, 2) := by decide +kernel
theorem dX1_mostFlow_84 : decode cX1_mostFlow 84 = .ok (.aload_n 0, 1) := by decide +kernel
theorem dX1_mostFlow_85 : decode cX1_mostFlow 85 = .ok (.iload_n 2, 1) := by decide +kernel
theorem dX1_mostFlow_86 : decode cX1_mostFlow 86 = .ok (.iload_n 3, 1) := by decide +kernel
theorem dX1_mostFlow_87 : decode cX1_mostFlow 87 = .ok (.iload 6, 2) := by decide +kernel
theorem dX1_mostFlow_89 : decode cX1_mostFlow 89 = .ok (.invokevirtual 34, 3) := by decide +kernel
theorem dX1_mostFlow_92 : decode cX1_mostFlow 92 = .ok (.iload 4, 2) := by decide +kernel
theorem dX1_mostFlow_94 : decode cX1_mostFlow 94 = .ok (.iload 6, 2) := by decide +kernel
theorem dX1_mostFlow_96 : decode cX1_mostFlow 96 = .ok (.iadd, 1) := by decide +kernel
theorem dX1_mostFlow_97 : decode cX1_mostFlow 97 = .ok (.istore 4, 2) := by decide +kernel
theorem dX1_mostFlow_99 : decode cX1_mostFlow 99 = .ok (.iinc 5 1, 3) := by decide +kernel
theorem dX1_mostFlow_102 : decode cX1_mostFlow 102 = .ok (.goto (-43), 3) := by decide +kernel
theorem dX1_mostFlow_105 : decode cX1_mostFlow 105 = .ok (.iload 4, 2) := by decide +kernel
theorem dX1_mostFlow_107 : decode cX1_mostFlow 107 = .ok (.ireturn, 1) := by decide +kernel
theorem dX1_findsPath_0 : decode cX1_findsPath 0 = .ok (.iconst 1, 1) := by decide +kernel
theorem dX1_findsPath_1 : decode cX1_findsPath 1 = .ok (.iload_n 1, 1) := by decide +kernel
theorem dX1_findsPath_2 : decode cX1_findsPath 2 = .ok (.ishl, 1) := by decide +kernel
theorem dX1_findsPath_3 : decode cX1_findsPath 3 = .ok (.istore_n 3, 1) := by decide +kernel
theorem dX1_findsPath_4 : decode cX1_findsPath 4 = .ok (.iconst 1, 1) := by decide +kernel
theorem dX1_findsPath_5 : decode cX1_findsPath 5 = .ok (.istore 4, 2) := by decide +kernel
theorem dX1_findsPath_7 : decode cX1_findsPath 7 = .ok (.aload_n 0, 1) := by decide +kernel
theorem dX1_findsPath_8 : decode cX1_findsPath 8 = .ok (.getfield 18, 3) := by decide +kernel
theorem dX1_findsPath_11 : decode cX1_findsPath 11 = .ok (.iconst 0, 1) := by decide +kernel
theorem dX1_findsPath_12 : decode cX1_findsPath 12 = .ok (.iload_n 1, 1) := by decide +kernel
theorem dX1_findsPath_13 : decode cX1_findsPath 13 = .ok (.iastore, 1) := by decide +kernel
theorem dX1_findsPath_14 : decode cX1_findsPath 14 = .ok (.iconst 0, 1) := by decide +kernel
theorem dX1_findsPath_15 : decode cX1_findsPath 15 = .ok (.istore 5, 2) := by decide +kernel
theorem dX1_findsPath_17 : decode cX1_findsPath 17 = .ok (.iload 5, 2) := by decide +kernel
theorem dX1_findsPath_19 : decode cX1_findsPath 19 = .ok (.iload 4, 2) := by decide +kernel
theorem dX1_findsPath_21 : decode cX1_findsPath 21 = .ok (.if_icmp .ge 102, 3) := by decide +kernel
theorem dX1_findsPath_24 : decode cX1_findsPath 24 = .ok (.iload 5, 2) := by decide +kernel
theorem dX1_findsPath_26 : decode cX1_findsPath 26 = .ok (.aload_n 0, 1) := by decide +kernel
theorem dX1_findsPath_27 : decode cX1_findsPath 27 = .ok (.getfield 18, 3) := by decide +kernel
theorem dX1_findsPath_30 : decode cX1_findsPath 30 = .ok (.arraylength, 1) := by decide +kernel
theorem dX1_findsPath_31 : decode cX1_findsPath 31 = .ok (.if_icmp .ge 92, 3) := by decide +kernel
theorem dX1_findsPath_34 : decode cX1_findsPath 34 = .ok (.aload_n 0, 1) := by decide +kernel
theorem dX1_findsPath_35 : decode cX1_findsPath 35 = .ok (.getfield 18, 3) := by decide +kernel
theorem dX1_findsPath_38 : decode cX1_findsPath 38 = .ok (.iload 5, 2) := by decide +kernel
theorem dX1_findsPath_40 : decode cX1_findsPath 40 = .ok (.iaload, 1) := by decide +kernel
theorem dX1_findsPath_41 : decode cX1_findsPath 41 = .ok (.istore 6, 2) := by decide +kernel
theorem dX1_findsPath_43 : decode cX1_findsPath 43 = .ok (.iconst 0, 1) := by decide +kernel
theorem dX1_findsPath_44 : decode cX1_findsPath 44 = .ok (.istore 7, 2) := by decide +kernel
theorem dX1_findsPath_46 : decode cX1_findsPath 46 = .ok (.iload 7, 2) := by decide +kernel
theorem dX1_findsPath_48 : decode cX1_findsPath 48 = .ok (.bipush 9, 2) := by decide +kernel
theorem dX1_findsPath_50 : decode cX1_findsPath 50 = .ok (.if_icmp .ge 67, 3) := by decide +kernel
theorem dX1_findsPath_53 : decode cX1_findsPath 53 = .ok (.iload_n 3, 1) := by decide +kernel
theorem dX1_findsPath_54 : decode cX1_findsPath 54 = .ok (.iload 7, 2) := by decide +kernel
theorem dX1_findsPath_56 : decode cX1_findsPath 56 = .ok (.invokestatic 38, 3) := by decide +kernel
theorem dX1_findsPath_59 : decode cX1_findsPath 59 = .ok (.ifCond .ne 52, 3) := by decide +kernel
theorem dX1_findsPath_62 : decode cX1_findsPath 62 = .ok (.aload_n 0, 1) := by decide +kernel
theorem dX1_findsPath_63 : decode cX1_findsPath 63 = .ok (.iload 6, 2) := by decide +kernel
theorem dX1_findsPath_65 : decode cX1_findsPath 65 = .ok (.iload 7, 2) := by decide +kernel
theorem dX1_findsPath_67 : decode cX1_findsPath 67 = .ok (.invokevirtual 41, 3) := by decide +kernel
theorem dX1_findsPath_70 : decode cX1_findsPath 70 = .ok (.ifCond .le 41, 3) := by decide +kernel
theorem dX1_findsPath_73 : decode cX1_findsPath 73 = .ok (.iload 4, 2) := by decide +kernel
theorem dX1_findsPath_75 : decode cX1_findsPath 75 = .ok (.aload_n 0, 1) := by decide +kernel
theorem dX1_findsPath_76 : decode cX1_findsPath 76 = .ok (.getfield 18, 3) := by decide +kernel
theorem dX1_findsPath_79 : decode cX1_findsPath 79 = .ok (.arraylength, 1) := by decide +kernel
theorem dX1_findsPath_80 : decode cX1_findsPath 80 = .ok (.if_icmp .ge 31, 3) := by decide +kernel
theorem dX1_findsPath_83 : decode cX1_findsPath 83 = .ok (.iload_n 3, 1) := by decide +kernel
theorem dX1_findsPath_84 : decode cX1_findsPath 84 = .ok (.iconst 1, 1) := by decide +kernel
theorem dX1_findsPath_85 : decode cX1_findsPath 85 = .ok (.iload 7, 2) := by decide +kernel
theorem dX1_findsPath_87 : decode cX1_findsPath 87 = .ok (.ishl, 1) := by decide +kernel
theorem dX1_findsPath_88 : decode cX1_findsPath 88 = .ok (.ior, 1) := by decide +kernel
theorem dX1_findsPath_89 : decode cX1_findsPath 89 = .ok (.istore_n 3, 1) := by decide +kernel
theorem dX1_findsPath_90 : decode cX1_findsPath 90 = .ok (.aload_n 0, 1) := by decide +kernel
theorem dX1_findsPath_91 : decode cX1_findsPath 91 = .ok (.getfield 15, 3) := by decide +kernel
theorem dX1_findsPath_94 : decode cX1_findsPath 94 = .ok (.iload 7, 2) := by decide +kernel
theorem dX1_findsPath_96 : decode cX1_findsPath 96 = .ok (.iload 6, 2) := by decide +kernel
theorem dX1_findsPath_98 : decode cX1_findsPath 98 = .ok (.iastore, 1) := by decide +kernel
theorem dX1_findsPath_99 : decode cX1_findsPath 99 = .ok (.aload_n 0, 1) := by decide +kernel
theorem dX1_findsPath_100 : decode cX1_findsPath 100 = .ok (.getfield 18, 3) := by decide +kernel
theorem dX1_findsPath_103 : decode cX1_findsPath 103 = .ok (.iload 4, 2) := by decide +kernel
theorem dX1_findsPath_105 : decode cX1_findsPath 105 = .ok (.iload 7, 2) := by decide +kernel
theorem dX1_findsPath_107 : decode cX1_findsPath 107 = .ok (.iastore, 1) := by decide +kernel
theorem dX1_findsPath_108 : decode cX1_findsPath 108 = .ok (.iinc 4 1, 3) := by decide +kernel
theorem dX1_findsPath_111 : decode cX1_findsPath 111 = .ok (.iinc 7 1, 3) := by decide +kernel
theorem dX1_findsPath_114 : decode cX1_findsPath 114 = .ok (.goto (-68), 3) := by decide +kernel
theorem dX1_findsPath_117 : decode cX1_findsPath 117 = .ok (.iinc 5 1, 3) := by decide +kernel
theorem dX1_findsPath_120 : decode cX1_findsPath 120 = .ok (.goto (-103), 3) := by decide +kernel
theorem dX1_findsPath_123 : decode cX1_findsPath 123 = .ok (.iload_n 3, 1) := by decide +kernel
theorem dX1_findsPath_124 : decode cX1_findsPath 124 = .ok (.iload_n 2, 1) := by decide +kernel
theorem dX1_findsPath_125 : decode cX1_findsPath 125 = .ok (.invokestatic 38, 3) := by decide +kernel
theorem dX1_findsPath_128 : decode cX1_findsPath 128 = .ok (.ireturn, 1) := by decide +kernel
theorem dX1_narrowest_0 : decode cX1_narrowest 0 = .ok (.ldc 44, 2) := by decide +kernel
theorem dX1_narrowest_2 : decode cX1_narrowest 2 = .ok (.istore_n 3, 1) := by decide +kernel
theorem dX1_narrowest_3 : decode cX1_narrowest 3 = .ok (.iload_n 2, 1) := by decide +kernel
theorem dX1_narrowest_4 : decode cX1_narrowest 4 = .ok (.istore 4, 2) := by decide +kernel
theorem dX1_narrowest_6 : decode cX1_narrowest 6 = .ok (.iconst 0, 1) := by decide +kernel
theorem dX1_narrowest_7 : decode cX1_narrowest 7 = .ok (.istore 5, 2) := by decide +kernel
theorem dX1_narrowest_9 : decode cX1_narrowest 9 = .ok (.iload 5, 2) := by decide +kernel
theorem dX1_narrowest_11 : decode cX1_narrowest 11 = .ok (.bipush 9, 2) := by decide +kernel
theorem dX1_narrowest_13 : decode cX1_narrowest 13 = .ok (.if_icmp .ge 40, 3) := by decide +kernel
theorem dX1_narrowest_16 : decode cX1_narrowest 16 = .ok (.iload 4, 2) := by decide +kernel
theorem dX1_narrowest_18 : decode cX1_narrowest 18 = .ok (.iload_n 1, 1) := by decide +kernel
theorem dX1_narrowest_19 : decode cX1_narrowest 19 = .ok (.if_icmp .eq 34, 3) := by decide +kernel
theorem dX1_narrowest_22 : decode cX1_narrowest 22 = .ok (.aload_n 0, 1) := by decide +kernel
theorem dX1_narrowest_23 : decode cX1_narrowest 23 = .ok (.iload 4, 2) := by decide +kernel
theorem dX1_narrowest_25 : decode cX1_narrowest 25 = .ok (.invokevirtual 45, 3) := by decide +kernel
theorem dX1_narrowest_28 : decode cX1_narrowest 28 = .ok (.istore 6, 2) := by decide +kernel
theorem dX1_narrowest_30 : decode cX1_narrowest 30 = .ok (.iload_n 3, 1) := by decide +kernel
theorem dX1_narrowest_31 : decode cX1_narrowest 31 = .ok (.aload_n 0, 1) := by decide +kernel
theorem dX1_narrowest_32 : decode cX1_narrowest 32 = .ok (.iload 6, 2) := by decide +kernel
theorem dX1_narrowest_34 : decode cX1_narrowest 34 = .ok (.iload 4, 2) := by decide +kernel
theorem dX1_narrowest_36 : decode cX1_narrowest 36 = .ok (.invokevirtual 41, 3) := by decide +kernel
theorem dX1_narrowest_39 : decode cX1_narrowest 39 = .ok (.invokestatic 49, 3) := by decide +kernel
theorem dX1_narrowest_42 : decode cX1_narrowest 42 = .ok (.istore_n 3, 1) := by decide +kernel
theorem dX1_narrowest_43 : decode cX1_narrowest 43 = .ok (.iload 6, 2) := by decide +kernel
theorem dX1_narrowest_45 : decode cX1_narrowest 45 = .ok (.istore 4, 2) := by decide +kernel
theorem dX1_narrowest_47 : decode cX1_narrowest 47 = .ok (.iinc 5 1, 3) := by decide +kernel
theorem dX1_narrowest_50 : decode cX1_narrowest 50 = .ok (.goto (-41), 3) := by decide +kernel
theorem dX1_narrowest_53 : decode cX1_narrowest 53 = .ok (.iload_n 3, 1) := by decide +kernel
theorem dX1_narrowest_54 : decode cX1_narrowest 54 = .ok (.ireturn, 1) := by decide +kernel
theorem dX1_push_0 : decode cX1_push 0 = .ok (.iload_n 2, 1) := by decide +kernel
theorem dX1_push_1 : decode cX1_push 1 = .ok (.istore 4, 2) := by decide +kernel
theorem dX1_push_3 : decode cX1_push 3 = .ok (.iconst 0, 1) := by decide +kernel
theorem dX1_push_4 : decode cX1_push 4 = .ok (.istore 5, 2) := by decide +kernel
theorem dX1_push_6 : decode cX1_push 6 = .ok (.iload 5, 2) := by decide +kernel
theorem dX1_push_8 : decode cX1_push 8 = .ok (.bipush 9, 2) := by decide +kernel
theorem dX1_push_10 : decode cX1_push 10 = .ok (.if_icmp .ge 46, 3) := by decide +kernel
theorem dX1_push_13 : decode cX1_push 13 = .ok (.iload 4, 2) := by decide +kernel
theorem dX1_push_15 : decode cX1_push 15 = .ok (.iload_n 1, 1) := by decide +kernel
theorem dX1_push_16 : decode cX1_push 16 = .ok (.if_icmp .eq 40, 3) := by decide +kernel
theorem dX1_push_19 : decode cX1_push 19 = .ok (.aload_n 0, 1) := by decide +kernel
theorem dX1_push_20 : decode cX1_push 20 = .ok (.iload 4, 2) := by decide +kernel
theorem dX1_push_22 : decode cX1_push 22 = .ok (.invokevirtual 45, 3) := by decide +kernel
theorem dX1_push_25 : decode cX1_push 25 = .ok (.istore 6, 2) := by decide +kernel
theorem dX1_push_27 : decode cX1_push 27 = .ok (.aload_n 0, 1) := by decide +kernel
theorem dX1_push_28 : decode cX1_push 28 = .ok (.iload 6, 2) := by decide +kernel
theorem dX1_push_30 : decode cX1_push 30 = .ok (.iload 4, 2) := by decide +kernel
theorem dX1_push_32 : decode cX1_push 32 = .ok (.iload_n 3, 1) := by decide +kernel
theorem dX1_push_33 : decode cX1_push 33 = .ok (.ineg, 1) := by decide +kernel
theorem dX1_push_34 : decode cX1_push 34 = .ok (.invokevirtual 54, 3) := by decide +kernel
theorem dX1_push_37 : decode cX1_push 37 = .ok (.aload_n 0, 1) := by decide +kernel
theorem dX1_push_38 : decode cX1_push 38 = .ok (.iload 4, 2) := by decide +kernel
theorem dX1_push_40 : decode cX1_push 40 = .ok (.iload 6, 2) := by decide +kernel
theorem dX1_push_42 : decode cX1_push 42 = .ok (.iload_n 3, 1) := by decide +kernel
theorem dX1_push_43 : decode cX1_push 43 = .ok (.invokevirtual 54, 3) := by decide +kernel
theorem dX1_push_46 : decode cX1_push 46 = .ok (.iload 6, 2) := by decide +kernel
theorem dX1_push_48 : decode cX1_push 48 = .ok (.istore 4, 2) := by decide +kernel
theorem dX1_push_50 : decode cX1_push 50 = .ok (.iinc 5 1, 3) := by decide +kernel
theorem dX1_push_53 : decode cX1_push 53 = .ok (.goto (-47), 3) := by decide +kernel
theorem dX1_push_56 : decode cX1_push 56 = .ok (.return_, 1) := by decide +kernel
theorem dX1_stepBack_0 : decode cX1_stepBack 0 = .ok (.aload_n 0, 1) := by decide +kernel
theorem dX1_stepBack_1 : decode cX1_stepBack 1 = .ok (.iload_n 1, 1) := by decide +kernel
theorem dX1_stepBack_2 : decode cX1_stepBack 2 = .ok (.invokevirtual 57, 3) := by decide +kernel
theorem dX1_stepBack_5 : decode cX1_stepBack 5 = .ok (.ifCond .eq 12, 3) := by decide +kernel
theorem dX1_stepBack_8 : decode cX1_stepBack 8 = .ok (.aload_n 0, 1) := by decide +kernel
theorem dX1_stepBack_9 : decode cX1_stepBack 9 = .ok (.getfield 15, 3) := by decide +kernel
theorem dX1_stepBack_12 : decode cX1_stepBack 12 = .ok (.iload_n 1, 1) := by decide +kernel
theorem dX1_stepBack_13 : decode cX1_stepBack 13 = .ok (.iaload, 1) := by decide +kernel
theorem dX1_stepBack_14 : decode cX1_stepBack 14 = .ok (.goto 4, 3) := by decide +kernel
theorem dX1_stepBack_17 : decode cX1_stepBack 17 = .ok (.iconst (-1), 1) := by decide +kernel
theorem dX1_stepBack_18 : decode cX1_stepBack 18 = .ok (.ireturn, 1) := by decide +kernel
theorem dX1_roomOn_0 : decode cX1_roomOn 0 = .ok (.aload_n 0, 1) := by decide +kernel
theorem dX1_roomOn_1 : decode cX1_roomOn 1 = .ok (.iload_n 1, 1) := by decide +kernel
theorem dX1_roomOn_2 : decode cX1_roomOn 2 = .ok (.invokevirtual 57, 3) := by decide +kernel
theorem dX1_roomOn_5 : decode cX1_roomOn 5 = .ok (.ifCond .eq 25, 3) := by decide +kernel
theorem dX1_roomOn_8 : decode cX1_roomOn 8 = .ok (.aload_n 0, 1) := by decide +kernel
theorem dX1_roomOn_9 : decode cX1_roomOn 9 = .ok (.iload_n 2, 1) := by decide +kernel
theorem dX1_roomOn_10 : decode cX1_roomOn 10 = .ok (.invokevirtual 57, 3) := by decide +kernel
theorem dX1_roomOn_13 : decode cX1_roomOn 13 = .ok (.ifCond .eq 17, 3) := by decide +kernel
theorem dX1_roomOn_16 : decode cX1_roomOn 16 = .ok (.aload_n 0, 1) := by decide +kernel
theorem dX1_roomOn_17 : decode cX1_roomOn 17 = .ok (.getfield 9, 3) := by decide +kernel
theorem dX1_roomOn_20 : decode cX1_roomOn 20 = .ok (.iload_n 1, 1) := by decide +kernel
theorem dX1_roomOn_21 : decode cX1_roomOn 21 = .ok (.bipush 9, 2) := by decide +kernel
theorem dX1_roomOn_23 : decode cX1_roomOn 23 = .ok (.imul, 1) := by decide +kernel
theorem dX1_roomOn_24 : decode cX1_roomOn 24 = .ok (.iload_n 2, 1) := by decide +kernel
theorem dX1_roomOn_25 : decode cX1_roomOn 25 = .ok (.iadd, 1) := by decide +kernel
theorem dX1_roomOn_26 : decode cX1_roomOn 26 = .ok (.iaload, 1) := by decide +kernel
theorem dX1_roomOn_27 : decode cX1_roomOn 27 = .ok (.goto 4, 3) := by decide +kernel
theorem dX1_roomOn_30 : decode cX1_roomOn 30 = .ok (.iconst 0, 1) := by decide +kernel
theorem dX1_roomOn_31 : decode cX1_roomOn 31 = .ok (.ireturn, 1) := by decide +kernel
theorem dX1_widen_0 : decode cX1_widen 0 = .ok (.aload_n 0, 1) := by decide +kernel
theorem dX1_widen_1 : decode cX1_widen 1 = .ok (.iload_n 1, 1) := by decide +kernel
theorem dX1_widen_2 : decode cX1_widen 2 = .ok (.invokevirtual 57, 3) := by decide +kernel
theorem dX1_widen_5 : decode cX1_widen 5 = .ok (.ifCond .eq 26, 3) := by decide +kernel
theorem dX1_widen_8 : decode cX1_widen 8 = .ok (.aload_n 0, 1) := by decide +kernel
theorem dX1_widen_9 : decode cX1_widen 9 = .ok (.iload_n 2, 1) := by decide +kernel
theorem dX1_widen_10 : decode cX1_widen 10 = .ok (.invokevirtual 57, 3) := by decide +kernel
theorem dX1_widen_13 : decode cX1_widen 13 = .ok (.ifCond .eq 18, 3) := by decide +kernel
theorem dX1_widen_16 : decode cX1_widen 16 = .ok (.aload_n 0, 1) := by decide +kernel
theorem dX1_widen_17 : decode cX1_widen 17 = .ok (.getfield 9, 3) := by decide +kernel
theorem dX1_widen_20 : decode cX1_widen 20 = .ok (.iload_n 1, 1) := by decide +kernel
theorem dX1_widen_21 : decode cX1_widen 21 = .ok (.bipush 9, 2) := by decide +kernel
theorem dX1_widen_23 : decode cX1_widen 23 = .ok (.imul, 1) := by decide +kernel
theorem dX1_widen_24 : decode cX1_widen 24 = .ok (.iload_n 2, 1) := by decide +kernel
theorem dX1_widen_25 : decode cX1_widen 25 = .ok (.iadd, 1) := by decide +kernel
theorem dX1_widen_26 : decode cX1_widen 26 = .ok (.dup2, 1) := by decide +kernel
theorem dX1_widen_27 : decode cX1_widen 27 = .ok (.iaload, 1) := by decide +kernel
theorem dX1_widen_28 : decode cX1_widen 28 = .ok (.iload_n 3, 1) := by decide +kernel
theorem dX1_widen_29 : decode cX1_widen 29 = .ok (.iadd, 1) := by decide +kernel
theorem dX1_widen_30 : decode cX1_widen 30 = .ok (.iastore, 1) := by decide +kernel
theorem dX1_widen_31 : decode cX1_widen 31 = .ok (.return_, 1) := by decide +kernel
theorem dX1_isThere_0 : decode cX1_isThere 0 = .ok (.iload_n 1, 1) := by decide +kernel
theorem dX1_isThere_1 : decode cX1_isThere 1 = .ok (.ifCond .lt 13, 3) := by decide +kernel
theorem dX1_isThere_4 : decode cX1_isThere 4 = .ok (.iload_n 1, 1) := by decide +kernel
theorem dX1_isThere_5 : decode cX1_isThere 5 = .ok (.bipush 9, 2) := by decide +kernel
theorem dX1_isThere_7 : decode cX1_isThere 7 = .ok (.if_icmp .ge 7, 3) := by decide +kernel
theorem dX1_isThere_10 : decode cX1_isThere 10 = .ok (.iconst 1, 1) := by decide +kernel
theorem dX1_isThere_11 : decode cX1_isThere 11 = .ok (.goto 4, 3) := by decide +kernel
theorem dX1_isThere_14 : decode cX1_isThere 14 = .ok (.iconst 0, 1) := by decide +kernel
theorem dX1_isThere_15 : decode cX1_isThere 15 = .ok (.ireturn, 1) := by decide +kernel
theorem dX2_init_0 : decode cX2_init 0 = .ok (.aload_n 0, 1) := by decide +kernel
theorem dX2_init_1 : decode cX2_init 1 = .ok (.invokespecial 3, 3) := by decide +kernel
theorem dX2_init_4 : decode cX2_init 4 = .ok (.aload_n 0, 1) := by decide +kernel
theorem dX2_init_5 : decode cX2_init 5 = .ok (.bipush 8, 2) := by decide +kernel
theorem dX2_init_7 : decode cX2_init 7 = .ok (.anewarray 9, 3) := by decide +kernel
theorem dX2_init_10 : decode cX2_init 10 = .ok (.putfield 11, 3) := by decide +kernel
theorem dX2_init_13 : decode cX2_init 13 = .ok (.aload_n 0, 1) := by decide +kernel
theorem dX2_init_14 : decode cX2_init 14 = .ok (.iconst 0, 1) := by decide +kernel
theorem dX2_init_15 : decode cX2_init 15 = .ok (.putfield 17, 3) := by decide +kernel
theorem dX2_init_18 : decode cX2_init 18 = .ok (.aload_n 0, 1) := by decide +kernel
theorem dX2_init_19 : decode cX2_init 19 = .ok (.iconst 0, 1) := by decide +kernel
theorem dX2_init_20 : decode cX2_init 20 = .ok (.putfield 21, 3) := by decide +kernel
theorem dX2_init_23 : decode cX2_init 23 = .ok (.return_, 1) := by decide +kernel
theorem dX2_keep_0 : decode cX2_keep 0 = .ok (.aload_n 0, 1) := by decide +kernel
theorem dX2_keep_1 : decode cX2_keep 1 = .ok (.getfield 11, 3) := by decide +kernel
theorem dX2_keep_4 : decode cX2_keep 4 = .ok (.aload_n 0, 1) := by decide +kernel
theorem dX2_keep_5 : decode cX2_keep 5 = .ok (.getfield 17, 3) := by decide +kernel
theorem dX2_keep_8 : decode cX2_keep 8 = .ok (.aaload, 1) := by decide +kernel
theorem dX2_keep_9 : decode cX2_keep 9 = .ok (.ifnonnull 19, 3) := by decide +kernel
theorem dX2_keep_12 : decode cX2_keep 12 = .ok (.aload_n 0, 1) := by decide +kernel
theorem dX2_keep_13 : decode cX2_keep 13 = .ok (.getfield 11, 3) := by decide +kernel
theorem dX2_keep_16 : decode cX2_keep 16 = .ok (.aload_n 0, 1) := by decide +kernel
theorem dX2_keep_17 : decode cX2_keep 17 = .ok (.getfield 17, 3) := by decide +kernel
theorem dX2_keep_20 : decode cX2_keep 20 = .ok (.new 9, 3) := by decide +kernel
theorem dX2_keep_23 : decode cX2_keep 23 = .ok (.dup, 1) := by decide +kernel
theorem dX2_keep_24 : decode cX2_keep 24 = .ok (.invokespecial 24, 3) := by decide +kernel
theorem dX2_keep_27 : decode cX2_keep 27 = .ok (.aastore, 1) := by decide +kernel
theorem dX2_keep_28 : decode cX2_keep 28 = .ok (.aload_n 0, 1) := by decide +kernel
theorem dX2_keep_29 : decode cX2_keep 29 = .ok (.getfield 11, 3) := by decide +kernel
theorem dX2_keep_32 : decode cX2_keep 32 = .ok (.aload_n 0, 1) := by decide +kernel
theorem dX2_keep_33 : decode cX2_keep 33 = .ok (.getfield 17, 3) := by decide +kernel
theorem dX2_keep_36 : decode cX2_keep 36 = .ok (.aaload, 1) := by decide +kernel
theorem dX2_keep_37 : decode cX2_keep 37 = .ok (.aload_n 1, 1) := by decide +kernel
theorem dX2_keep_38 : decode cX2_keep 38 = .ok (.invokevirtual 25, 3) := by decide +kernel
theorem dX2_keep_41 : decode cX2_keep 41 = .ok (.aload_n 0, 1) := by decide +kernel
theorem dX2_keep_42 : decode cX2_keep 42 = .ok (.aload_n 0, 1) := by decide +kernel
theorem dX2_keep_43 : decode cX2_keep 43 = .ok (.getfield 17, 3) := by decide +kernel
theorem dX2_keep_46 : decode cX2_keep 46 = .ok (.bipush 7, 2) := by decide +kernel
theorem dX2_keep_48 : decode cX2_keep 48 = .ok (.if_icmp .ne 7, 3) := by decide +kernel
theorem dX2_keep_51 : decode cX2_keep 51 = .ok (.iconst 0, 1) := by decide +kernel
theorem dX2_keep_52 : decode cX2_keep 52 = .ok (.goto 9, 3) := by decide +kernel
theorem dX2_keep_55 : decode cX2_keep 55 = .ok (.aload_n 0, 1) := by decide +kernel
theorem dX2_keep_56 : decode cX2_keep 56 = .ok (.getfield 17, 3) := by decide +kernel
theorem dX2_keep_59 : decode cX2_keep 59 = .ok (.iconst 1, 1) := by decide +kernel
theorem dX2_keep_60 : decode cX2_keep 60 = .ok (.iadd, 1) := by decide +kernel
theorem dX2_keep_61 : decode cX2_keep 61 = .ok (.putfield 17, 3) := by decide +kernel
theorem dX2_keep_64 : decode cX2_keep 64 = .ok (.aload_n 0, 1) := by decide +kernel
theorem dX2_keep_65 : decode cX2_keep 65 = .ok (.aload_n 0, 1) := by decide +kernel
theorem dX2_keep_66 : decode cX2_keep 66 = .ok (.getfield 21, 3) := by decide +kernel
theorem dX2_keep_69 : decode cX2_keep 69 = .ok (.iconst 1, 1) := by decide +kernel
theorem dX2_keep_70 : decode cX2_keep 70 = .ok (.iadd, 1) := by decide +kernel
theorem dX2_keep_71 : decode cX2_keep 71 = .ok (.bipush 8, 2) := by decide +kernel
theorem dX2_keep_73 : decode cX2_keep 73 = .ok (.invokestatic 29, 3) := by decide +kernel
theorem dX2_keep_76 : decode cX2_keep 76 = .ok (.putfield 21, 3) := by decide +kernel
theorem dX2_keep_79 : decode cX2_keep 79 = .ok (.return_, 1) := by decide +kernel
theorem dX2_count_0 : decode cX2_count 0 = .ok (.aload_n 0, 1) := by decide +kernel
theorem dX2_count_1 : decode cX2_count 1 = .ok (.getfield 21, 3) := by decide +kernel
theorem dX2_count_4 : decode cX2_count 4 = .ok (.ireturn, 1) := by decide +kernel
theorem dX3_init_0 : decode cX3_init 0 = .ok (.aload_n 0, 1) := by decide +kernel
theorem dX3_init_1 : decode cX3_init 1 = .ok (.invokespecial 3, 3) := by decide +kernel
theorem dX3_init_4 : decode cX3_init 4 = .ok (.aload_n 0, 1) := by decide +kernel
theorem dX3_init_5 : decode cX3_init 5 = .ok (.bipush 72, 2) := by decide +kernel
theorem dX3_init_7 : decode cX3_init 7 = .ok (.newarray .int, 2) := by decide +kernel
theorem dX3_init_9 : decode cX3_init 9 = .ok (.putfield 9, 3) := by decide +kernel
theorem dX3_init_12 : decode cX3_init 12 = .ok (.aload_n 0, 1) := by decide +kernel
theorem dX3_init_13 : decode cX3_init 13 = .ok (.bipush 72, 2) := by decide +kernel
theorem dX3_init_15 : decode cX3_init 15 = .ok (.newarray .int, 2) := by decide +kernel
theorem dX3_init_17 : decode cX3_init 17 = .ok (.putfield 15, 3) := by decide +kernel
theorem dX3_init_20 : decode cX3_init 20 = .ok (.aload_n 0, 1) := by decide +kernel
theorem dX3_init_21 : decode cX3_init 21 = .ok (.bipush 81, 2) := by decide +kernel
theorem dX3_init_23 : decode cX3_init 23 = .ok (.newarray .int, 2) := by decide +kernel
theorem dX3_init_25 : decode cX3_init 25 = .ok (.putfield 18, 3) := by decide +kernel
theorem dX3_init_28 : decode cX3_init 28 = .ok (.aload_n 0, 1) := by decide +kernel
theorem dX3_init_29 : decode cX3_init 29 = .ok (.bipush 9, 2) := by decide +kernel
theorem dX3_init_31 : decode cX3_init 31 = .ok (.newarray .int, 2) := by decide +kernel
theorem dX3_init_33 : decode cX3_init 33 = .ok (.putfield 21, 3) := by decide +kernel
theorem dX3_init_36 : decode cX3_init 36 = .ok (.aload_n 0, 1) := by decide +kernel
theorem dX3_init_37 : decode cX3_init 37 = .ok (.bipush 9, 2) := by decide +kernel
theorem dX3_init_39 : decode cX3_init 39 = .ok (.newarray .int, 2) := by decide +kernel
theorem dX3_init_41 : decode cX3_init 41 = .ok (.putfield 24, 3) := by decide +kernel
theorem dX3_init_44 : decode cX3_init 44 = .ok (.aload_n 0, 1) := by decide +kernel
theorem dX3_init_45 : decode cX3_init 45 = .ok (.iconst 0, 1) := by decide +kernel
theorem dX3_init_46 : decode cX3_init 46 = .ok (.putfield 27, 3) := by decide +kernel
theorem dX3_init_49 : decode cX3_init 49 = .ok (.return_, 1) := by decide +kernel
theorem dX3_measure_0 : decode cX3_measure 0 = .ok (.aload_n 0, 1) := by decide +kernel
theorem dX3_measure_1 : decode cX3_measure 1 = .ok (.aload_n 1, 1) := by decide +kernel
theorem dX3_measure_2 : decode cX3_measure 2 = .ok (.getfield 31, 3) := by decide +kernel
theorem dX3_measure_5 : decode cX3_measure 5 = .ok (.putfield 27, 3) := by decide +kernel
theorem dX3_measure_8 : decode cX3_measure 8 = .ok (.iconst 0, 1) := by decide +kernel
theorem dX3_measure_9 : decode cX3_measure 9 = .ok (.istore_n 2, 1) := by decide +kernel
theorem dX3_measure_10 : decode cX3_measure 10 = .ok (.iload_n 2, 1) := by decide +kernel
theorem dX3_measure_11 : decode cX3_measure 11 = .ok (.bipush 9, 2) := by decide +kernel
theorem dX3_measure_13 : decode cX3_measure 13 = .ok (.if_icmp .ge 61, 3) := by decide +kernel
theorem dX3_measure_16 : decode cX3_measure 16 = .ok (.aload_n 0, 1) := by decide +kernel
theorem dX3_measure_17 : decode cX3_measure 17 = .ok (.getfield 21, 3) := by decide +kernel
theorem dX3_measure_20 : decode cX3_measure 20 = .ok (.iload_n 2, 1) := by decide +kernel
theorem dX3_measure_21 : decode cX3_measure 21 = .ok (.iload_n 2, 1) := by decide +kernel
theorem dX3_measure_22 : decode cX3_measure 22 = .ok (.aload_n 0, 1) := by decide +kernel
theorem dX3_measure_23 : decode cX3_measure 23 = .ok (.getfield 27, 3) := by decide +kernel
theorem dX3_measure_26 : decode cX3_measure 26 = .ok (.if_icmp .ge 9, 3) := by decide +kernel
theorem dX3_measure_29 : decode cX3_measure 29 = .ok (.iconst 1, 1) := by decide +kernel
theorem dX3_measure_30 : decode cX3_measure 30 = .ok (.iload_n 2, 1) := by decide +kernel
theorem dX3_measure_31 : decode cX3_measure 31 = .ok (.ishl, 1) := by decide +kernel
theorem dX3_measure_32 : decode cX3_measure 32 = .ok (.goto 4, 3) := by decide +kernel
theorem dX3_measure_35 : decode cX3_measure 35 = .ok (.iconst 0, 1) := by decide +kernel
theorem dX3_measure_36 : decode cX3_measure 36 = .ok (.iastore, 1) := by decide +kernel
theorem dX3_measure_37 : decode cX3_measure 37 = .ok (.iconst 0, 1) := by decide +kernel
theorem dX3_measure_38 : decode cX3_measure 38 = .ok (.istore_n 3, 1) := by decide +kernel
theorem dX3_measure_39 : decode cX3_measure 39 = .ok (.iload_n 3, 1) := by decide +kernel
theorem dX3_measure_40 : decode cX3_measure 40 = .ok (.bipush 9, 2) := by decide +kernel
theorem dX3_measure_42 : decode cX3_measure 42 = .ok (.if_icmp .ge 26, 3) := by decide +kernel
theorem dX3_measure_45 : decode cX3_measure 45 = .ok (.aload_n 0, 1) := by decide +kernel
theorem dX3_measure_46 : decode cX3_measure 46 = .ok (.getfield 18, 3) := by decide +kernel
theorem dX3_measure_49 : decode cX3_measure 49 = .ok (.iload_n 2, 1) := by decide +kernel
theorem dX3_measure_50 : decode cX3_measure 50 = .ok (.bipush 9, 2) := by decide +kernel
theorem dX3_measure_52 : decode cX3_measure 52 = .ok (.imul, 1) := by decide +kernel
theorem dX3_measure_53 : decode cX3_measure 53 = .ok (.iload_n 3, 1) := by decide +kernel
theorem dX3_measure_54 : decode cX3_measure 54 = .ok (.iadd, 1) := by decide +kernel
theorem dX3_measure_55 : decode cX3_measure 55 = .ok (.aload_n 1, 1) := by decide +kernel
theorem dX3_measure_56 : decode cX3_measure 56 = .ok (.iload_n 2, 1) := by decide +kernel
theorem dX3_measure_57 : decode cX3_measure 57 = .ok (.iload_n 3, 1) := by decide +kernel
theorem dX3_measure_58 : decode cX3_measure 58 = .ok (.invokevirtual 34, 3) := by decide +kernel
theorem dX3_measure_61 : decode cX3_measure 61 = .ok (.iastore, 1) := by decide +kernel
theorem dX3_measure_62 : decode cX3_measure 62 = .ok (.iinc 3 1, 3) := by decide +kernel
theorem dX3_measure_65 : decode cX3_measure 65 = .ok (.goto (-26), 3) := by decide +kernel
theorem dX3_measure_68 : decode cX3_measure 68 = .ok (.iinc 2 1, 3) := by decide +kernel
theorem dX3_measure_71 : decode cX3_measure 71 = .ok (.goto (-61), 3) := by decide +kernel
theorem dX3_measure_74 : decode cX3_measure 74 = .ok (.iconst 0, 1) := by decide +kernel
theorem dX3_measure_75 : decode cX3_measure 75 = .ok (.istore_n 2, 1) := by decide +kernel
theorem dX3_measure_76 : decode cX3_measure 76 = .ok (.iload_n 2, 1) := by decide +kernel
theorem dX3_measure_77 : decode cX3_measure 77 = .ok (.aload_n 0, 1) := by decide +kernel
theorem dX3_measure_78 : decode cX3_measure 78 = .ok (.getfield 27, 3) := by decide +kernel
theorem dX3_measure_81 : decode cX3_measure 81 = .ok (.iconst 1, 1) := by decide +kernel
theorem dX3_measure_82 : decode cX3_measure 82 = .ok (.isub, 1) := by decide +kernel
theorem dX3_measure_83 : decode cX3_measure 83 = .ok (.if_icmp .ge 19, 3) := by decide +kernel
theorem dX3_measure_86 : decode cX3_measure 86 = .ok (.aload_n 0, 1) := by decide +kernel
theorem dX3_measure_87 : decode cX3_measure 87 = .ok (.iload_n 2, 1) := by decide +kernel
theorem dX3_measure_88 : decode cX3_measure 88 = .ok (.invokevirtual 38, 3) := by decide +kernel
theorem dX3_measure_91 : decode cX3_measure 91 = .ok (.aload_n 0, 1) := by decide +kernel
theorem dX3_measure_92 : decode cX3_measure 92 = .ok (.iload_n 2, 1) := by decide +kernel
theorem dX3_measure_93 : decode cX3_measure 93 = .ok (.invokevirtual 42, 3) := by decide +kernel
theorem dX3_measure_96 : decode cX3_measure 96 = .ok (.iinc 2 1, 3) := by decide +kernel
theorem dX3_measure_99 : decode cX3_measure 99 = .ok (.goto (-23), 3) := by decide +kernel
theorem dX3_measure_102 : decode cX3_measure 102 = .ok (.return_, 1) := by decide +kernel
theorem dX3_joinAll_0 : decode cX3_joinAll 0 = .ok (.iconst 0, 1) := by decide +kernel
theorem dX3_joinAll_1 : decode cX3_joinAll 1 = .ok (.istore_n 2, 1) := by decide +kernel
theorem dX3_joinAll_2 : decode cX3_joinAll 2 = .ok (.iconst 0, 1) := by decide +kernel
theorem dX3_joinAll_3 : decode cX3_joinAll 3 = .ok (.istore_n 3, 1) := by decide +kernel
theorem dX3_joinAll_4 : decode cX3_joinAll 4 = .ok (.iload_n 3, 1) := by decide +kernel
theorem dX3_joinAll_5 : decode cX3_joinAll 5 = .ok (.bipush 9, 2) := by decide +kernel
theorem dX3_joinAll_7 : decode cX3_joinAll 7 = .ok (.if_icmp .ge 31, 3) := by decide +kernel
theorem dX3_joinAll_10 : decode cX3_joinAll 10 = .ok (.aload_n 0, 1) := by decide +kernel
theorem dX3_joinAll_11 : decode cX3_joinAll 11 = .ok (.getfield 24, 3) := by decide +kernel
theorem dX3_joinAll_14 : decode cX3_joinAll 14 = .ok (.iload_n 3, 1) := by decide +kernel
theorem dX3_joinAll_15 : decode cX3_joinAll 15 = .ok (.iconst 0, 1) := by decide +kernel
theorem dX3_joinAll_16 : decode cX3_joinAll 16 = .ok (.iastore, 1) := by decide +kernel
theorem dX3_joinAll_17 : decode cX3_joinAll 17 = .ok (.aload_n 0, 1) := by decide +kernel
theorem dX3_joinAll_18 : decode cX3_joinAll 18 = .ok (.getfield 21, 3) := by decide +kernel
theorem dX3_joinAll_21 : decode cX3_joinAll 21 = .ok (.iload_n 3, 1) := by decide +kernel
theorem dX3_joinAll_22 : decode cX3_joinAll 22 = .ok (.iaload, 1) := by decide +kernel
theorem dX3_joinAll_23 : decode cX3_joinAll 23 = .ok (.ifCond .eq 9, 3) := by decide +kernel
theorem dX3_joinAll_26 : decode cX3_joinAll 26 = .ok (.iload_n 2, 1) := by decide +kernel
theorem dX3_joinAll_27 : decode cX3_joinAll 27 = .ok (.iconst 1, 1) := by decide +kernel
theorem dX3_joinAll_28 : decode cX3_joinAll 28 = .ok (.iload_n 3, 1) := by decide +kernel
theorem dX3_joinAll_29 : decode cX3_joinAll 29 = .ok (.ishl, 1) := by decide +kernel
theorem dX3_joinAll_30 : decode cX3_joinAll 30 = .ok (.ior, 1) := by decide +kernel
theorem dX3_joinAll_31 : decode cX3_joinAll 31 = .ok (.istore_n 2, 1) := by decide +kernel
theorem dX3_joinAll_32 : decode cX3_joinAll 32 = .ok (.iinc 3 1, 3) := by decide +kernel
theorem dX3_joinAll_35 : decode cX3_joinAll 35 = .ok (.goto (-31), 3) := by decide +kernel
theorem dX3_joinAll_38 : decode cX3_joinAll 38 = .ok (.iconst 0, 1) := by decide +kernel
theorem dX3_joinAll_39 : decode cX3_joinAll 39 = .ok (.istore_n 3, 1) := by decide +kernel
theorem dX3_joinAll_40 : decode cX3_joinAll 40 = .ok (.iload_n 3, 1) := by decide +kernel
theorem dX3_joinAll_41 : decode cX3_joinAll 41 = .ok (.aload_n 0, 1) := by decide +kernel
theorem dX3_joinAll_42 : decode cX3_joinAll 42 = .ok (.iload_n 1, 1) := by decide +kernel
theorem dX3_joinAll_43 : decode cX3_joinAll 43 = .ok (.invokevirtual 45, 3) := by decide +kernel
theorem dX3_joinAll_46 : decode cX3_joinAll 46 = .ok (.if_icmp .ge 72, 3) := by decide +kernel
theorem dX3_joinAll_49 : decode cX3_joinAll 49 = .ok (.aload_n 0, 1) := by decide +kernel
theorem dX3_joinAll_50 : decode cX3_joinAll 50 = .ok (.iload_n 2, 1) := by decide +kernel
theorem dX3_joinAll_51 : decode cX3_joinAll 51 = .ok (.invokevirtual 49, 3) := by decide +kernel
theorem dX3_joinAll_54 : decode cX3_joinAll 54 = .ok (.istore 4, 2) := by decide +kernel
theorem dX3_joinAll_56 : decode cX3_joinAll 56 = .ok (.iload_n 2, 1) := by decide +kernel
theorem dX3_joinAll_57 : decode cX3_joinAll 57 = .ok (.iconst 1, 1) := by decide +kernel
theorem dX3_joinAll_58 : decode cX3_joinAll 58 = .ok (.iload 4, 2) := by decide +kernel
theorem dX3_joinAll_60 : decode cX3_joinAll 60 = .ok (.ishl, 1) := by decide +kernel
theorem dX3_joinAll_61 : decode cX3_joinAll 61 = .ok (.iconst (-1), 1) := by decide +kernel
theorem dX3_joinAll_62 : decode cX3_joinAll 62 = .ok (.ixor, 1) := by decide +kernel
theorem dX3_joinAll_63 : decode cX3_joinAll 63 = .ok (.iand, 1) := by decide +kernel
theorem dX3_joinAll_64 : decode cX3_joinAll 64 = .ok (.istore_n 2, 1) := by decide +kernel
theorem dX3_joinAll_65 : decode cX3_joinAll 65 = .ok (.aload_n 0, 1) := by decide +kernel
theorem dX3_joinAll_66 : decode cX3_joinAll 66 = .ok (.iload_n 1, 1) := by decide +kernel
theorem dX3_joinAll_67 : decode cX3_joinAll 67 = .ok (.iload_n 3, 1) := by decide +kernel
theorem dX3_joinAll_68 : decode cX3_joinAll 68 = .ok (.iload 4, 2) := by decide +kernel
theorem dX3_joinAll_70 : decode cX3_joinAll 70 = .ok (.invokevirtual 52, 3) := by decide +kernel
theorem dX3_joinAll_73 : decode cX3_joinAll 73 = .ok (.iconst 0, 1) := by decide +kernel
theorem dX3_joinAll_74 : decode cX3_joinAll 74 = .ok (.istore 5, 2) := by decide +kernel
theorem dX3_joinAll_76 : decode cX3_joinAll 76 = .ok (.iload 5, 2) := by decide +kernel
theorem dX3_joinAll_78 : decode cX3_joinAll 78 = .ok (.bipush 9, 2) := by decide +kernel
theorem dX3_joinAll_80 : decode cX3_joinAll 80 = .ok (.if_icmp .ge 32, 3) := by decide +kernel
theorem dX3_joinAll_83 : decode cX3_joinAll 83 = .ok (.aload_n 0, 1) := by decide +kernel
theorem dX3_joinAll_84 : decode cX3_joinAll 84 = .ok (.getfield 24, 3) := by decide +kernel
theorem dX3_joinAll_87 : decode cX3_joinAll 87 = .ok (.iload 5, 2) := by decide +kernel
theorem dX3_joinAll_89 : decode cX3_joinAll 89 = .ok (.dup2, 1) := by decide +kernel
theorem dX3_joinAll_90 : decode cX3_joinAll 90 = .ok (.iaload, 1) := by decide +kernel
theorem dX3_joinAll_91 : decode cX3_joinAll 91 = .ok (.aload_n 0, 1) := by decide +kernel
theorem dX3_joinAll_92 : decode cX3_joinAll 92 = .ok (.getfield 18, 3) := by decide +kernel
theorem dX3_joinAll_95 : decode cX3_joinAll 95 = .ok (.iload 5, 2) := by decide +kernel
theorem dX3_joinAll_97 : decode cX3_joinAll 97 = .ok (.bipush 9, 2) := by decide +kernel
theorem dX3_joinAll_99 : decode cX3_joinAll 99 = .ok (.imul, 1) := by decide +kernel
theorem dX3_joinAll_100 : decode cX3_joinAll 100 = .ok (.iload 4, 2) := by decide +kernel
theorem dX3_joinAll_102 : decode cX3_joinAll 102 = .ok (.iadd, 1) := by decide +kernel
theorem dX3_joinAll_103 : decode cX3_joinAll 103 = .ok (.iaload, 1) := by decide +kernel
theorem dX3_joinAll_104 : decode cX3_joinAll 104 = .ok (.iadd, 1) := by decide +kernel
theorem dX3_joinAll_105 : decode cX3_joinAll 105 = .ok (.iastore, 1) := by decide +kernel
theorem dX3_joinAll_106 : decode cX3_joinAll 106 = .ok (.iinc 5 1, 3) := by decide +kernel
theorem dX3_joinAll_109 : decode cX3_joinAll 109 = .ok (.goto (-33), 3) := by decide +kernel
theorem dX3_joinAll_112 : decode cX3_joinAll 112 = .ok (.iinc 3 1, 3) := by decide +kernel
theorem dX3_joinAll_115 : decode cX3_joinAll 115 = .ok (.goto (-75), 3) := by decide +kernel
theorem dX3_joinAll_118 : decode cX3_joinAll 118 = .ok (.return_, 1) := by decide +kernel
theorem dX3_strongestOf_0 : decode cX3_strongestOf 0 = .ok (.iconst 0, 1) := by decide +kernel
theorem dX3_strongestOf_1 : decode cX3_strongestOf 1 = .ok (.istore_n 2, 1) := by decide +kernel
theorem dX3_strongestOf_2 : decode cX3_strongestOf 2 = .ok (.iconst (-1), 1) := by decide +kernel
theorem dX3_strongestOf_3 : decode cX3_strongestOf 3 = .ok (.istore_n 3, 1) := by decide +kernel
theorem dX3_strongestOf_4 : decode cX3_strongestOf 4 = .ok (.iconst 0, 1) := by decide +kernel
theorem dX3_strongestOf_5 : decode cX3_strongestOf 5 = .ok (.istore 4, 2) := by decide +kernel
theorem dX3_strongestOf_7 : decode cX3_strongestOf 7 = .ok (.iload 4, 2) := by decide +kernel
theorem dX3_strongestOf_9 : decode cX3_strongestOf 9 = .ok (.bipush 9, 2) := by decide +kernel
theorem dX3_strongestOf_11 : decode cX3_strongestOf 11 = .ok (.if_icmp .ge 40, 3) := by decide +kernel
theorem dX3_strongestOf_14 : decode cX3_strongestOf 14 = .ok (.iload_n 1, 1) := by decide +kernel
theorem dX3_strongestOf_15 : decode cX3_strongestOf 15 = .ok (.iload 4, 2) := by decide +kernel
theorem dX3_strongestOf_17 : decode cX3_strongestOf 17 = .ok (.invokestatic 56, 3) := by decide +kernel
theorem dX3_strongestOf_20 : decode cX3_strongestOf 20 = .ok (.ifCond .eq 25, 3) := by decide +kernel
theorem dX3_strongestOf_23 : decode cX3_strongestOf 23 = .ok (.aload_n 0, 1) := by decide +kernel
theorem dX3_strongestOf_24 : decode cX3_strongestOf 24 = .ok (.getfield 24, 3) := by decide +kernel
theorem dX3_strongestOf_27 : decode cX3_strongestOf 27 = .ok (.iload 4, 2) := by decide +kernel
theorem dX3_strongestOf_29 : decode cX3_strongestOf 29 = .ok (.iaload, 1) := by decide +kernel
theorem dX3_strongestOf_30 : decode cX3_strongestOf 30 = .ok (.iload_n 3, 1) := by decide +kernel
theorem dX3_strongestOf_31 : decode cX3_strongestOf 31 = .ok (.if_icmp .le 14, 3) := by decide +kernel
theorem dX3_strongestOf_34 : decode cX3_strongestOf 34 = .ok (.aload_n 0, 1) := by decide +kernel
theorem dX3_strongestOf_35 : decode cX3_strongestOf 35 = .ok (.getfield 24, 3) := by decide +kernel
theorem dX3_strongestOf_38 : decode cX3_strongestOf 38 = .ok (.iload 4, 2) := by decide +kernel
theorem dX3_strongestOf_40 : decode cX3_strongestOf 40 = .ok (.iaload, 1) := by decide +kernel
theorem dX3_strongestOf_41 : decode cX3_strongestOf 41 = .ok (.istore_n 3, 1) := by decide +kernel
theorem dX3_strongestOf_42 : decode cX3_strongestOf 42 = .ok (.iload 4, 2) := by decide +kernel
theorem dX3_strongestOf_44 : decode cX3_strongestOf 44 = .ok (.istore_n 2, 1) := by decide +kernel
theorem dX3_strongestOf_45 : decode cX3_strongestOf 45 = .ok (.iinc 4 1, 3) := by decide +kernel
theorem dX3_strongestOf_48 : decode cX3_strongestOf 48 = .ok (.goto (-41), 3) := by decide +kernel
theorem dX3_strongestOf_51 : decode cX3_strongestOf 51 = .ok (.iload_n 2, 1) := by decide +kernel
theorem dX3_strongestOf_52 : decode cX3_strongestOf 52 = .ok (.ireturn, 1) := by decide +kernel
theorem dX3_put_0 : decode cX3_put 0 = .ok (.aload_n 0, 1) := by decide +kernel
theorem dX3_put_1 : decode cX3_put 1 = .ok (.iload_n 1, 1) := by decide +kernel
theorem dX3_put_2 : decode cX3_put 2 = .ok (.iload_n 2, 1) := by decide +kernel
theorem dX3_put_3 : decode cX3_put 3 = .ok (.invokevirtual 60, 3) := by decide +kernel
theorem dX3_put_6 : decode cX3_put 6 = .ok (.ifCond .eq 37, 3) := by decide +kernel
theorem dX3_put_9 : decode cX3_put 9 = .ok (.aload_n 0, 1) := by decide +kernel
theorem dX3_put_10 : decode cX3_put 10 = .ok (.getfield 9, 3) := by decide +kernel
theorem dX3_put_13 : decode cX3_put 13 = .ok (.iload_n 1, 1) := by decide +kernel
theorem dX3_put_14 : decode cX3_put 14 = .ok (.bipush 9, 2) := by decide +kernel
theorem dX3_put_16 : decode cX3_put 16 = .ok (.imul, 1) := by decide +kernel
theorem dX3_put_17 : decode cX3_put 17 = .ok (.iload_n 2, 1) := by decide +kernel
theorem dX3_put_18 : decode cX3_put 18 = .ok (.iadd, 1) := by decide +kernel
theorem dX3_put_19 : decode cX3_put 19 = .ok (.aload_n 0, 1) := by decide +kernel
theorem dX3_put_20 : decode cX3_put 20 = .ok (.getfield 21, 3) := by decide +kernel
theorem dX3_put_23 : decode cX3_put 23 = .ok (.iload_n 3, 1) := by decide +kernel
theorem dX3_put_24 : decode cX3_put 24 = .ok (.iaload, 1) := by decide +kernel
theorem dX3_put_25 : decode cX3_put 25 = .ok (.iastore, 1) := by decide +kernel
theorem dX3_put_26 : decode cX3_put 26 = .ok (.aload_n 0, 1) := by decide +kernel
theorem dX3_put_27 : decode cX3_put 27 = .ok (.getfield 15, 3) := by decide +kernel
theorem dX3_put_30 : decode cX3_put 30 = .ok (.iload_n 1, 1) := by decide +kernel
theorem dX3_put_31 : decode cX3_put 31 = .ok (.bipush 9, 2) := by decide +kernel
theorem dX3_put_33 : decode cX3_put 33 = .ok (.imul, 1) := by decide +kernel
theorem dX3_put_34 : decode cX3_put 34 = .ok (.iload_n 2, 1) := by decide +kernel
theorem dX3_put_35 : decode cX3_put 35 = .ok (.iadd, 1) := by decide +kernel
theorem dX3_put_36 : decode cX3_put 36 = .ok (.aload_n 0, 1) := by decide +kernel
theorem dX3_put_37 : decode cX3_put 37 = .ok (.getfield 24, 3) := by decide +kernel
theorem dX3_put_40 : decode cX3_put 40 = .ok (.iload_n 3, 1) := by decide +kernel
theorem dX3_put_41 : decode cX3_put 41 = .ok (.iaload, 1) := by decide +kernel
theorem dX3_put_42 : decode cX3_put 42 = .ok (.iastore, 1) := by decide +kernel
theorem dX3_put_43 : decode cX3_put 43 = .ok (.return_, 1) := by decide +kernel
theorem dX3_mergeLast_0 : decode cX3_mergeLast 0 = .ok (.aload_n 0, 1) := by decide +kernel
theorem dX3_mergeLast_1 : decode cX3_mergeLast 1 = .ok (.iload_n 1, 1) := by decide +kernel
theorem dX3_mergeLast_2 : decode cX3_mergeLast 2 = .ok (.aload_n 0, 1) := by decide +kernel
theorem dX3_mergeLast_3 : decode cX3_mergeLast 3 = .ok (.iload_n 1, 1) := by decide +kernel
theorem dX3_mergeLast_4 : decode cX3_mergeLast 4 = .ok (.invokevirtual 45, 3) := by decide +kernel
theorem dX3_mergeLast_7 : decode cX3_mergeLast 7 = .ok (.iconst 1, 1) := by decide +kernel
theorem dX3_mergeLast_8 : decode cX3_mergeLast 8 = .ok (.isub, 1) := by decide +kernel
theorem dX3_mergeLast_9 : decode cX3_mergeLast 9 = .ok (.invokevirtual 63, 3) := by decide +kernel
theorem dX3_mergeLast_12 : decode cX3_mergeLast 12 = .ok (.invokestatic 66, 3) := by decide +kernel
theorem dX3_mergeLast_15 : decode cX3_mergeLast 15 = .ok (.istore_n 2, 1) := by decide +kernel
theorem dX3_mergeLast_16 : decode cX3_mergeLast 16 = .ok (.aload_n 0, 1) := by decide +kernel
theorem dX3_mergeLast_17 : decode cX3_mergeLast 17 = .ok (.iload_n 1, 1) := by decide +kernel
theorem dX3_mergeLast_18 : decode cX3_mergeLast 18 = .ok (.aload_n 0, 1) := by decide +kernel
theorem dX3_mergeLast_19 : decode cX3_mergeLast 19 = .ok (.iload_n 1, 1) := by decide +kernel
theorem dX3_mergeLast_20 : decode cX3_mergeLast 20 = .ok (.invokevirtual 45, 3) := by decide +kernel
theorem dX3_mergeLast_23 : decode cX3_mergeLast 23 = .ok (.iconst 2, 1) := by decide +kernel
theorem dX3_mergeLast_24 : decode cX3_mergeLast 24 = .ok (.isub, 1) := by decide +kernel
theorem dX3_mergeLast_25 : decode cX3_mergeLast 25 = .ok (.invokevirtual 63, 3) := by decide +kernel
theorem dX3_mergeLast_28 : decode cX3_mergeLast 28 = .ok (.invokestatic 66, 3) := by decide +kernel
theorem dX3_mergeLast_31 : decode cX3_mergeLast 31 = .ok (.istore_n 3, 1) := by decide +kernel
theorem dX3_mergeLast_32 : decode cX3_mergeLast 32 = .ok (.iload_n 2, 1) := by decide +kernel
theorem dX3_mergeLast_33 : decode cX3_mergeLast 33 = .ok (.iload_n 3, 1) := by decide +kernel
theorem dX3_mergeLast_34 : decode cX3_mergeLast 34 = .ok (.invokestatic 69, 3) := by decide +kernel
theorem dX3_mergeLast_37 : decode cX3_mergeLast 37 = .ok (.istore 4, 2) := by decide +kernel
theorem dX3_mergeLast_39 : decode cX3_mergeLast 39 = .ok (.iload_n 2, 1) := by decide +kernel
theorem dX3_mergeLast_40 : decode cX3_mergeLast 40 = .ok (.iload_n 3, 1) := by decide +kernel
theorem dX3_mergeLast_41 : decode cX3_mergeLast 41 = .ok (.invokestatic 74, 3) := by decide +kernel
theorem dX3_mergeLast_44 : decode cX3_mergeLast 44 = .ok (.istore 5, 2) := by decide +kernel
theorem dX3_mergeLast_46 : decode cX3_mergeLast 46 = .ok (.iload 4, 2) := by decide +kernel
theorem dX3_mergeLast_48 : decode cX3_mergeLast 48 = .ok (.ifCond .ge 4, 3) := by decide +kernel
theorem dX3_mergeLast_51 : decode cX3_mergeLast 51 = .ok (.return_, 1) := by decide +kernel
theorem dX3_mergeLast_52 : decode cX3_mergeLast 52 = .ok (.aload_n 0, 1) := by decide +kernel
theorem dX3_mergeLast_53 : decode cX3_mergeLast 53 = .ok (.getfield 21, 3) := by decide +kernel
theorem dX3_mergeLast_56 : decode cX3_mergeLast 56 = .ok (.iload 4, 2) := by decide +kernel
theorem dX3_mergeLast_58 : decode cX3_mergeLast 58 = .ok (.dup2, 1) := by decide +kernel
theorem dX3_mergeLast_59 : decode cX3_mergeLast 59 = .ok (.iaload, 1) := by decide +kernel
theorem dX3_mergeLast_60 : decode cX3_mergeLast 60 = .ok (.aload_n 0, 1) := by decide +kernel
theorem dX3_mergeLast_61 : decode cX3_mergeLast 61 = .ok (.getfield 21, 3) := by decide +kernel
theorem dX3_mergeLast_64 : decode cX3_mergeLast 64 = .ok (.iload 5, 2) := by decide +kernel
theorem dX3_mergeLast_66 : decode cX3_mergeLast 66 = .ok (.iaload, 1) := by decide +kernel
theorem dX3_mergeLast_67 : decode cX3_mergeLast 67 = .ok (.ior, 1) := by decide +kernel
theorem dX3_mergeLast_68 : decode cX3_mergeLast 68 = .ok (.iastore, 1) := by decide +kernel
theorem dX3_mergeLast_69 : decode cX3_mergeLast 69 = .ok (.aload_n 0, 1) := by decide +kernel
theorem dX3_mergeLast_70 : decode cX3_mergeLast 70 = .ok (.getfield 21, 3) := by decide +kernel
theorem dX3_mergeLast_73 : decode cX3_mergeLast 73 = .ok (.iload 5, 2) := by decide +kernel
theorem dX3_mergeLast_75 : decode cX3_mergeLast 75 = .ok (.iconst 0, 1) := by decide +kernel
theorem dX3_mergeLast_76 : decode cX3_mergeLast 76 = .ok (.iastore, 1) := by decide +kernel
theorem dX3_mergeLast_77 : decode cX3_mergeLast 77 = .ok (.iconst 0, 1) := by decide +kernel
theorem dX3_mergeLast_78 : decode cX3_mergeLast 78 = .ok (.istore 6, 2) := by decide +kernel
theorem dX3_mergeLast_80 : decode cX3_mergeLast 80 = .ok (.iload 6, 2) := by decide +kernel
theorem dX3_mergeLast_82 : decode cX3_mergeLast 82 = .ok (.bipush 9, 2) := by decide +kernel
theorem dX3_mergeLast_84 : decode cX3_mergeLast 84 = .ok (.if_icmp .ge 68, 3) := by decide +kernel
theorem dX3_mergeLast_87 : decode cX3_mergeLast 87 = .ok (.aload_n 0, 1) := by decide +kernel
theorem dX3_mergeLast_88 : decode cX3_mergeLast 88 = .ok (.getfield 18, 3) := by decide +kernel
theorem dX3_mergeLast_91 : decode cX3_mergeLast 91 = .ok (.iload 4, 2) := by decide +kernel
theorem dX3_mergeLast_93 : decode cX3_mergeLast 93 = .ok (.bipush 9, 2) := by decide +kernel
theorem dX3_mergeLast_95 : decode cX3_mergeLast 95 = .ok (.imul, 1) := by decide +kernel
theorem dX3_mergeLast_96 : decode cX3_mergeLast 96 = .ok (.iload 6, 2) := by decide +kernel
theorem dX3_mergeLast_98 : decode cX3_mergeLast 98 = .ok (.iadd, 1) := by decide +kernel
theorem dX3_mergeLast_99 : decode cX3_mergeLast 99 = .ok (.iaload, 1) := by decide +kernel
theorem dX3_mergeLast_100 : decode cX3_mergeLast 100 = .ok (.aload_n 0, 1) := by decide +kernel
theorem dX3_mergeLast_101 : decode cX3_mergeLast 101 = .ok (.getfield 18, 3) := by decide +kernel
theorem dX3_mergeLast_104 : decode cX3_mergeLast 104 = .ok (.iload 5, 2) := by decide +kernel
theorem dX3_mergeLast_106 : decode cX3_mergeLast 106 = .ok (.bipush 9, 2) := by decide +kernel
theorem dX3_mergeLast_108 : decode cX3_mergeLast 108 = .ok (.imul, 1) := by decide +kernel
theorem dX3_mergeLast_109 : decode cX3_mergeLast 109 = .ok (.iload 6, 2) := by decide +kernel
theorem dX3_mergeLast_111 : decode cX3_mergeLast 111 = .ok (.iadd, 1) := by decide +kernel
theorem dX3_mergeLast_112 : decode cX3_mergeLast 112 = .ok (.iaload, 1) := by decide +kernel
theorem dX3_mergeLast_113 : decode cX3_mergeLast 113 = .ok (.iadd, 1) := by decide +kernel
theorem dX3_mergeLast_114 : decode cX3_mergeLast 114 = .ok (.istore 7, 2) := by decide +kernel
theorem dX3_mergeLast_116 : decode cX3_mergeLast 116 = .ok (.aload_n 0, 1) := by decide +kernel
theorem dX3_mergeLast_117 : decode cX3_mergeLast 117 = .ok (.getfield 18, 3) := by decide +kernel
theorem dX3_mergeLast_120 : decode cX3_mergeLast 120 = .ok (.iload 4, 2) := by decide +kernel
theorem dX3_mergeLast_122 : decode cX3_mergeLast 122 = .ok (.bipush 9, 2) := by decide +kernel
theorem dX3_mergeLast_124 : decode cX3_mergeLast 124 = .ok (.imul, 1) := by decide +kernel
theorem dX3_mergeLast_125 : decode cX3_mergeLast 125 = .ok (.iload 6, 2) := by decide +kernel
theorem dX3_mergeLast_127 : decode cX3_mergeLast 127 = .ok (.iadd, 1) := by decide +kernel
theorem dX3_mergeLast_128 : decode cX3_mergeLast 128 = .ok (.iload 7, 2) := by decide +kernel
theorem dX3_mergeLast_130 : decode cX3_mergeLast 130 = .ok (.iastore, 1) := by decide +kernel
theorem dX3_mergeLast_131 : decode cX3_mergeLast 131 = .ok (.aload_n 0, 1) := by decide +kernel
theorem dX3_mergeLast_132 : decode cX3_mergeLast 132 = .ok (.getfield 18, 3) := by decide +kernel
theorem dX3_mergeLast_135 : decode cX3_mergeLast 135 = .ok (.iload 6, 2) := by decide +kernel
theorem dX3_mergeLast_137 : decode cX3_mergeLast 137 = .ok (.bipush 9, 2) := by decide +kernel
theorem dX3_mergeLast_139 : decode cX3_mergeLast 139 = .ok (.imul, 1) := by decide +kernel
theorem dX3_mergeLast_140 : decode cX3_mergeLast 140 = .ok (.iload 4, 2) := by decide +kernel
theorem dX3_mergeLast_142 : decode cX3_mergeLast 142 = .ok (.iadd, 1) := by decide +kernel
theorem dX3_mergeLast_143 : decode cX3_mergeLast 143 = .ok (.iload 7, 2) := by decide +kernel
theorem dX3_mergeLast_145 : decode cX3_mergeLast 145 = .ok (.iastore, 1) := by decide +kernel
theorem dX3_mergeLast_146 : decode cX3_mergeLast 146 = .ok (.iinc 6 1, 3) := by decide +kernel
theorem dX3_mergeLast_149 : decode cX3_mergeLast 149 = .ok (.goto (-69), 3) := by decide +kernel
theorem dX3_mergeLast_152 : decode cX3_mergeLast 152 = .ok (.return_, 1) := by decide +kernel
theorem dX3_groupsIn_0 : decode cX3_groupsIn 0 = .ok (.aload_n 0, 1) := by decide +kernel
theorem dX3_groupsIn_1 : decode cX3_groupsIn 1 = .ok (.getfield 27, 3) := by decide +kernel
theorem dX3_groupsIn_4 : decode cX3_groupsIn 4 = .ok (.iload_n 1, 1) := by decide +kernel
theorem dX3_groupsIn_5 : decode cX3_groupsIn 5 = .ok (.isub, 1) := by decide +kernel
theorem dX3_groupsIn_6 : decode cX3_groupsIn 6 = .ok (.ireturn, 1) := by decide +kernel
theorem dX3_hasPlace_0 : decode cX3_hasPlace 0 = .ok (.iload_n 1, 1) := by decide +kernel
theorem dX3_hasPlace_1 : decode cX3_hasPlace 1 = .ok (.ifCond .lt 31, 3) := by decide +kernel
theorem dX3_hasPlace_4 : decode cX3_hasPlace 4 = .ok (.iload_n 1, 1) := by decide +kernel
theorem dX3_hasPlace_5 : decode cX3_hasPlace 5 = .ok (.aload_n 0, 1) := by decide +kernel
theorem dX3_hasPlace_6 : decode cX3_hasPlace 6 = .ok (.getfield 27, 3) := by decide +kernel
theorem dX3_hasPlace_9 : decode cX3_hasPlace 9 = .ok (.iconst 1, 1) := by decide +kernel
theorem dX3_hasPlace_10 : decode cX3_hasPlace 10 = .ok (.isub, 1) := by decide +kernel
theorem dX3_hasPlace_11 : decode cX3_hasPlace 11 = .ok (.if_icmp .ge 21, 3) := by decide +kernel
theorem dX3_hasPlace_14 : decode cX3_hasPlace 14 = .ok (.iload_n 2, 1) := by decide +kernel
theorem dX3_hasPlace_15 : decode cX3_hasPlace 15 = .ok (.ifCond .lt 17, 3) := by decide +kernel
theorem dX3_hasPlace_18 : decode cX3_hasPlace 18 = .ok (.iload_n 2, 1) := by decide +kernel
theorem dX3_hasPlace_19 : decode cX3_hasPlace 19 = .ok (.aload_n 0, 1) := by decide +kernel
theorem dX3_hasPlace_20 : decode cX3_hasPlace 20 = .ok (.getfield 27, 3) := by decide +kernel
theorem dX3_hasPlace_23 : decode cX3_hasPlace 23 = .ok (.iload_n 1, 1) := by decide +kernel
theorem dX3_hasPlace_24 : decode cX3_hasPlace 24 = .ok (.isub, 1) := by decide +kernel
theorem dX3_hasPlace_25 : decode cX3_hasPlace 25 = .ok (.if_icmp .ge 7, 3) := by decide +kernel
theorem dX3_hasPlace_28 : decode cX3_hasPlace 28 = .ok (.iconst 1, 1) := by decide +kernel
theorem dX3_hasPlace_29 : decode cX3_hasPlace 29 = .ok (.goto 4, 3) := by decide +kernel
theorem dX3_hasPlace_32 : decode cX3_hasPlace 32 = .ok (.iconst 0, 1) := by decide +kernel
theorem dX3_hasPlace_33 : decode cX3_hasPlace 33 = .ok (.ireturn, 1) := by decide +kernel
theorem dX3_groupAt_0 : decode cX3_groupAt 0 = .ok (.aload_n 0, 1) := by decide +kernel
theorem dX3_groupAt_1 : decode cX3_groupAt 1 = .ok (.iload_n 1, 1) := by decide +kernel
theorem dX3_groupAt_2 : decode cX3_groupAt 2 = .ok (.iload_n 2, 1) := by decide +kernel
theorem dX3_groupAt_3 : decode cX3_groupAt 3 = .ok (.invokevirtual 60, 3) := by decide +kernel
theorem dX3_groupAt_6 : decode cX3_groupAt 6 = .ok (.ifCond .eq 17, 3) := by decide +kernel
theorem dX3_groupAt_9 : decode cX3_groupAt 9 = .ok (.aload_n 0, 1) := by decide +kernel
theorem dX3_groupAt_10 : decode cX3_groupAt 10 = .ok (.getfield 9, 3) := by decide +kernel
theorem dX3_groupAt_13 : decode cX3_groupAt 13 = .ok (.iload_n 1, 1) := by decide +kernel
theorem dX3_groupAt_14 : decode cX3_groupAt 14 = .ok (.bipush 9, 2) := by decide +kernel
theorem dX3_groupAt_16 : decode cX3_groupAt 16 = .ok (.imul, 1) := by decide +kernel
theorem dX3_groupAt_17 : decode cX3_groupAt 17 = .ok (.iload_n 2, 1) := by decide +kernel
theorem dX3_groupAt_18 : decode cX3_groupAt 18 = .ok (.iadd, 1) := by decide +kernel
theorem dX3_groupAt_19 : decode cX3_groupAt 19 = .ok (.iaload, 1) := by decide +kernel
theorem dX3_groupAt_20 : decode cX3_groupAt 20 = .ok (.goto 4, 3) := by decide +kernel
theorem dX3_groupAt_23 : decode cX3_groupAt 23 = .ok (.iconst 0, 1) := by decide +kernel
theorem dX3_groupAt_24 : decode cX3_groupAt 24 = .ok (.ireturn, 1) := by decide +kernel
theorem dX3_pullAt_0 : decode cX3_pullAt 0 = .ok (.aload_n 0, 1) := by decide +kernel
theorem dX3_pullAt_1 : decode cX3_pullAt 1 = .ok (.iload_n 1, 1) := by decide +kernel
theorem dX3_pullAt_2 : decode cX3_pullAt 2 = .ok (.iload_n 2, 1) := by decide +kernel
theorem dX3_pullAt_3 : decode cX3_pullAt 3 = .ok (.invokevirtual 60, 3) := by decide +kernel
theorem dX3_pullAt_6 : decode cX3_pullAt 6 = .ok (.ifCond .eq 17, 3) := by decide +kernel
theorem dX3_pullAt_9 : decode cX3_pullAt 9 = .ok (.aload_n 0, 1) := by decide +kernel
theorem dX3_pullAt_10 : decode cX3_pullAt 10 = .ok (.getfield 15, 3) := by decide +kernel
theorem dX3_pullAt_13 : decode cX3_pullAt 13 = .ok (.iload_n 1, 1) := by decide +kernel
theorem dX3_pullAt_14 : decode cX3_pullAt 14 = .ok (.bipush 9, 2) := by decide +kernel
theorem dX3_pullAt_16 : decode cX3_pullAt 16 = .ok (.imul, 1) := by decide +kernel
theorem dX3_pullAt_17 : decode cX3_pullAt 17 = .ok (.iload_n 2, 1) := by decide +kernel
theorem dX3_pullAt_18 : decode cX3_pullAt 18 = .ok (.iadd, 1) := by decide +kernel
theorem dX3_pullAt_19 : decode cX3_pullAt 19 = .ok (.iaload, 1) := by decide +kernel
theorem dX3_pullAt_20 : decode cX3_pullAt 20 = .ok (.goto 4, 3) := by decide +kernel
theorem dX3_pullAt_23 : decode cX3_pullAt 23 = .ok (.iconst 0, 1) := by decide +kernel
theorem dX3_pullAt_24 : decode cX3_pullAt 24 = .ok (.ireturn, 1) := by decide +kernel
theorem dX3_cutOf_0 : decode cX3_cutOf 0 = .ok (.aload_n 0, 1) := by decide +kernel
theorem dX3_cutOf_1 : decode cX3_cutOf 1 = .ok (.iload_n 1, 1) := by decide +kernel
theorem dX3_cutOf_2 : decode cX3_cutOf 2 = .ok (.aload_n 0, 1) := by decide +kernel
theorem dX3_cutOf_3 : decode cX3_cutOf 3 = .ok (.getfield 27, 3) := by decide +kernel
theorem dX3_cutOf_6 : decode cX3_cutOf 6 = .ok (.iload_n 1, 1) := by decide +kernel
theorem dX3_cutOf_7 : decode cX3_cutOf 7 = .ok (.isub, 1) := by decide +kernel
theorem dX3_cutOf_8 : decode cX3_cutOf 8 = .ok (.iconst 1, 1) := by decide +kernel
theorem dX3_cutOf_9 : decode cX3_cutOf 9 = .ok (.isub, 1) := by decide +kernel
theorem dX3_cutOf_10 : decode cX3_cutOf 10 = .ok (.invokevirtual 77, 3) := by decide +kernel
theorem dX3_cutOf_13 : decode cX3_cutOf 13 = .ok (.ireturn, 1) := by decide +kernel
theorem dX3_leastPhase_0 : decode cX3_leastPhase 0 = .ok (.iconst 0, 1) := by decide +kernel
theorem dX3_leastPhase_1 : decode cX3_leastPhase 1 = .ok (.istore_n 1, 1) := by decide +kernel
theorem dX3_leastPhase_2 : decode cX3_leastPhase 2 = .ok (.iconst 1, 1) := by decide +kernel
theorem dX3_leastPhase_3 : decode cX3_leastPhase 3 = .ok (.istore_n 2, 1) := by decide +kernel
theorem dX3_leastPhase_4 : decode cX3_leastPhase 4 = .ok (.iload_n 2, 1) := by decide +kernel
theorem dX3_leastPhase_5 : decode cX3_leastPhase 5 = .ok (.aload_n 0, 1) := by decide +kernel
theorem dX3_leastPhase_6 : decode cX3_leastPhase 6 = .ok (.getfield 27, 3) := by decide +kernel
theorem dX3_leastPhase_9 : decode cX3_leastPhase 9 = .ok (.iconst 1, 1) := by decide +kernel
theorem dX3_leastPhase_10 : decode cX3_leastPhase 10 = .ok (.isub, 1) := by decide +kernel
theorem dX3_leastPhase_11 : decode cX3_leastPhase 11 = .ok (.if_icmp .ge 24, 3) := by decide +kernel
theorem dX3_leastPhase_14 : decode cX3_leastPhase 14 = .ok (.aload_n 0, 1) := by decide +kernel
theorem dX3_leastPhase_15 : decode cX3_leastPhase 15 = .ok (.iload_n 2, 1) := by decide +kernel
theorem dX3_leastPhase_16 : decode cX3_leastPhase 16 = .ok (.invokevirtual 80, 3) := by decide +kernel
theorem dX3_leastPhase_19 : decode cX3_leastPhase 19 = .ok (.aload_n 0, 1) := by decide +kernel
theorem dX3_leastPhase_20 : decode cX3_leastPhase 20 = .ok (.iload_n 1, 1) := by decide +kernel
theorem dX3_leastPhase_21 : decode cX3_leastPhase 21 = .ok (.invokevirtual 80, 3) := by decide +kernel
theorem dX3_leastPhase_24 : decode cX3_leastPhase 24 = .ok (.if_icmp .ge 5, 3) := by decide +kernel
theorem dX3_leastPhase_27 : decode cX3_leastPhase 27 = .ok (.iload_n 2, 1) := by decide +kernel
theorem dX3_leastPhase_28 : decode cX3_leastPhase 28 = .ok (.istore_n 1, 1) := by decide +kernel
theorem dX3_leastPhase_29 : decode cX3_leastPhase 29 = .ok (.iinc 2 1, 3) := by decide +kernel
theorem dX3_leastPhase_32 : decode cX3_leastPhase 32 = .ok (.goto (-28), 3) := by decide +kernel
theorem dX3_leastPhase_35 : decode cX3_leastPhase 35 = .ok (.iload_n 1, 1) := by decide +kernel
theorem dX3_leastPhase_36 : decode cX3_leastPhase 36 = .ok (.ireturn, 1) := by decide +kernel
theorem dX3_leastGroup_0 : decode cX3_leastGroup 0 = .ok (.aload_n 0, 1) := by decide +kernel
theorem dX3_leastGroup_1 : decode cX3_leastGroup 1 = .ok (.invokevirtual 83, 3) := by decide +kernel
theorem dX3_leastGroup_4 : decode cX3_leastGroup 4 = .ok (.istore_n 1, 1) := by decide +kernel
theorem dX3_leastGroup_5 : decode cX3_leastGroup 5 = .ok (.aload_n 0, 1) := by decide +kernel
theorem dX3_leastGroup_6 : decode cX3_leastGroup 6 = .ok (.iload_n 1, 1) := by decide +kernel
theorem dX3_leastGroup_7 : decode cX3_leastGroup 7 = .ok (.aload_n 0, 1) := by decide +kernel
theorem dX3_leastGroup_8 : decode cX3_leastGroup 8 = .ok (.getfield 27, 3) := by decide +kernel
theorem dX3_leastGroup_11 : decode cX3_leastGroup 11 = .ok (.iload_n 1, 1) := by decide +kernel
theorem dX3_leastGroup_12 : decode cX3_leastGroup 12 = .ok (.isub, 1) := by decide +kernel
theorem dX3_leastGroup_13 : decode cX3_leastGroup 13 = .ok (.iconst 1, 1) := by decide +kernel
theorem dX3_leastGroup_14 : decode cX3_leastGroup 14 = .ok (.isub, 1) := by decide +kernel
theorem dX3_leastGroup_15 : decode cX3_leastGroup 15 = .ok (.invokevirtual 63, 3) := by decide +kernel
theorem dX3_leastGroup_18 : decode cX3_leastGroup 18 = .ok (.ireturn, 1) := by decide +kernel
theorem dX4_init_0 : decode cX4_init 0 = .ok (.aload_n 0, 1) := by decide +kernel
theorem dX4_init_1 : decode cX4_init 1 = .ok (.invokespecial 1, 3) := by decide +kernel
theorem dX4_init_4 : decode cX4_init 4 = .ok (.aload_n 0, 1) := by decide +kernel
theorem dX4_init_5 : decode cX4_init 5 = .ok (.iconst 0, 1) := by decide +kernel
theorem dX4_init_6 : decode cX4_init 6 = .ok (.putfield 7, 3) := by decide +kernel
theorem dX4_init_9 : decode cX4_init 9 = .ok (.aload_n 0, 1) := by decide +kernel
theorem dX4_init_10 : decode cX4_init 10 = .ok (.iconst 0, 1) := by decide +kernel
theorem dX4_init_11 : decode cX4_init 11 = .ok (.putfield 13, 3) := by decide +kernel
theorem dX4_init_14 : decode cX4_init 14 = .ok (.aload_n 0, 1) := by decide +kernel
theorem dX4_init_15 : decode cX4_init 15 = .ok (.iconst 0, 1) := by decide +kernel
theorem dX4_init_16 : decode cX4_init 16 = .ok (.putfield 16, 3) := by decide +kernel
theorem dX4_init_19 : decode cX4_init 19 = .ok (.aload_n 0, 1) := by decide +kernel
theorem dX4_init_20 : decode cX4_init 20 = .ok (.iconst 0, 1) := by decide +kernel
theorem dX4_init_21 : decode cX4_init 21 = .ok (.putfield 19, 3) := by decide +kernel
theorem dX4_init_24 : decode cX4_init 24 = .ok (.return_, 1) := by decide +kernel
theorem dX4_keep_0 : decode cX4_keep 0 = .ok (.aload_n 0, 1) := by decide +kernel
theorem dX4_keep_1 : decode cX4_keep 1 = .ok (.iload_n 1, 1) := by decide +kernel
theorem dX4_keep_2 : decode cX4_keep 2 = .ok (.putfield 7, 3) := by decide +kernel
theorem dX4_keep_5 : decode cX4_keep 5 = .ok (.aload_n 0, 1) := by decide +kernel
theorem dX4_keep_6 : decode cX4_keep 6 = .ok (.iload_n 2, 1) := by decide +kernel
theorem dX4_keep_7 : decode cX4_keep 7 = .ok (.putfield 13, 3) := by decide +kernel
theorem dX4_keep_10 : decode cX4_keep 10 = .ok (.aload_n 0, 1) := by decide +kernel
theorem dX4_keep_11 : decode cX4_keep 11 = .ok (.iconst 0, 1) := by decide +kernel
theorem dX4_keep_12 : decode cX4_keep 12 = .ok (.putfield 16, 3) := by decide +kernel
theorem dX4_keep_15 : decode cX4_keep 15 = .ok (.aload_n 0, 1) := by decide +kernel
theorem dX4_keep_16 : decode cX4_keep 16 = .ok (.iconst 0, 1) := by decide +kernel
theorem dX4_keep_17 : decode cX4_keep 17 = .ok (.putfield 19, 3) := by decide +kernel
theorem dX4_keep_20 : decode cX4_keep 20 = .ok (.return_, 1) := by decide +kernel
theorem dX4_reaches_0 : decode cX4_reaches 0 = .ok (.iload_n 1, 1) := by decide +kernel
theorem dX4_reaches_1 : decode cX4_reaches 1 = .ok (.ifCond .ne 18, 3) := by decide +kernel
theorem dX4_reaches_4 : decode cX4_reaches 4 = .ok (.aload_n 0, 1) := by decide +kernel
theorem dX4_reaches_5 : decode cX4_reaches 5 = .ok (.getfield 7, 3) := by decide +kernel
theorem dX4_reaches_8 : decode cX4_reaches 8 = .ok (.ifCond .eq 7, 3) := by decide +kernel
theorem dX4_reaches_11 : decode cX4_reaches 11 = .ok (.iconst 1, 1) := by decide +kernel
theorem dX4_reaches_12 : decode cX4_reaches 12 = .ok (.goto 19, 3) := by decide +kernel
theorem dX4_reaches_15 : decode cX4_reaches 15 = .ok (.iconst 0, 1) := by decide +kernel
theorem dX4_reaches_16 : decode cX4_reaches 16 = .ok (.goto 15, 3) := by decide +kernel
theorem dX4_reaches_19 : decode cX4_reaches 19 = .ok (.aload_n 0, 1) := by decide +kernel
theorem dX4_reaches_20 : decode cX4_reaches 20 = .ok (.getfield 16, 3) := by decide +kernel
theorem dX4_reaches_23 : decode cX4_reaches 23 = .ok (.ifCond .eq 7, 3) := by decide +kernel
theorem dX4_reaches_26 : decode cX4_reaches 26 = .ok (.iconst 1, 1) := by decide +kernel
theorem dX4_reaches_27 : decode cX4_reaches 27 = .ok (.goto 4, 3) := by decide +kernel
theorem dX4_reaches_30 : decode cX4_reaches 30 = .ok (.iconst 0, 1) := by decide +kernel
theorem dX4_reaches_31 : decode cX4_reaches 31 = .ok (.ireturn, 1) := by decide +kernel
theorem dX4_numberAt_0 : decode cX4_numberAt 0 = .ok (.iload_n 1, 1) := by decide +kernel
theorem dX4_numberAt_1 : decode cX4_numberAt 1 = .ok (.ifCond .ne 19, 3) := by decide +kernel
theorem dX4_numberAt_4 : decode cX4_numberAt 4 = .ok (.iload_n 2, 1) := by decide +kernel
theorem dX4_numberAt_5 : decode cX4_numberAt 5 = .ok (.ifCond .eq 10, 3) := by decide +kernel
theorem dX4_numberAt_8 : decode cX4_numberAt 8 = .ok (.aload_n 0, 1) := by decide +kernel
theorem dX4_numberAt_9 : decode cX4_numberAt 9 = .ok (.getfield 13, 3) := by decide +kernel
theorem dX4_numberAt_12 : decode cX4_numberAt 12 = .ok (.goto 7, 3) := by decide +kernel
theorem dX4_numberAt_15 : decode cX4_numberAt 15 = .ok (.aload_n 0, 1) := by decide +kernel
theorem dX4_numberAt_16 : decode cX4_numberAt 16 = .ok (.getfield 7, 3) := by decide +kernel
theorem dX4_numberAt_19 : decode cX4_numberAt 19 = .ok (.ireturn, 1) := by decide +kernel
theorem dX4_numberAt_20 : decode cX4_numberAt 20 = .ok (.iload_n 2, 1) := by decide +kernel
theorem dX4_numberAt_21 : decode cX4_numberAt 21 = .ok (.ifCond .eq 10, 3) := by decide +kernel
theorem dX4_numberAt_24 : decode cX4_numberAt 24 = .ok (.aload_n 0, 1) := by decide +kernel
theorem dX4_numberAt_25 : decode cX4_numberAt 25 = .ok (.getfield 19, 3) := by decide +kernel
theorem dX4_numberAt_28 : decode cX4_numberAt 28 = .ok (.goto 7, 3) := by decide +kernel
theorem dX4_numberAt_31 : decode cX4_numberAt 31 = .ok (.aload_n 0, 1) := by decide +kernel
theorem dX4_numberAt_32 : decode cX4_numberAt 32 = .ok (.getfield 16, 3) := by decide +kernel
theorem dX4_numberAt_35 : decode cX4_numberAt 35 = .ok (.ireturn, 1) := by decide +kernel
theorem dX5_init_0 : decode cX5_init 0 = .ok (.aload_n 0, 1) := by decide +kernel
theorem dX5_init_1 : decode cX5_init 1 = .ok (.invokespecial 3, 3) := by decide +kernel
theorem dX5_init_4 : decode cX5_init 4 = .ok (.aload_n 0, 1) := by decide +kernel
theorem dX5_init_5 : decode cX5_init 5 = .ok (.new 9, 3) := by decide +kernel
theorem dX5_init_8 : decode cX5_init 8 = .ok (.dup, 1) := by decide +kernel
theorem dX5_init_9 : decode cX5_init 9 = .ok (.invokespecial 11, 3) := by decide +kernel
theorem dX5_init_12 : decode cX5_init 12 = .ok (.putfield 12, 3) := by decide +kernel
theorem dX5_init_15 : decode cX5_init 15 = .ok (.aload_n 0, 1) := by decide +kernel
theorem dX5_init_16 : decode cX5_init 16 = .ok (.bipush 15, 2) := by decide +kernel
theorem dX5_init_18 : decode cX5_init 18 = .ok (.newarray .int, 2) := by decide +kernel
theorem dX5_init_20 : decode cX5_init 20 = .ok (.putfield 18, 3) := by decide +kernel
theorem dX5_init_23 : decode cX5_init 23 = .ok (.aload_n 0, 1) := by decide +kernel
theorem dX5_init_24 : decode cX5_init 24 = .ok (.bipush 45, 2) := by decide +kernel
theorem dX5_init_26 : decode cX5_init 26 = .ok (.newarray .int, 2) := by decide +kernel
theorem dX5_init_28 : decode cX5_init 28 = .ok (.putfield 22, 3) := by decide +kernel
theorem dX5_init_31 : decode cX5_init 31 = .ok (.aload_n 0, 1) := by decide +kernel
theorem dX5_init_32 : decode cX5_init 32 = .ok (.iconst 0, 1) := by decide +kernel
theorem dX5_init_33 : decode cX5_init 33 = .ok (.putfield 25, 3) := by decide +kernel
theorem dX5_init_36 : decode cX5_init 36 = .ok (.aload_n 0, 1) := by decide +kernel
theorem dX5_init_37 : decode cX5_init 37 = .ok (.iconst 0, 1) := by decide +kernel
theorem dX5_init_38 : decode cX5_init 38 = .ok (.putfield 29, 3) := by decide +kernel
theorem dX5_init_41 : decode cX5_init 41 = .ok (.aload_n 0, 1) := by decide +kernel
theorem dX5_init_42 : decode cX5_init 42 = .ok (.iconst 0, 1) := by decide +kernel
theorem dX5_init_43 : decode cX5_init 43 = .ok (.putfield 32, 3) := by decide +kernel
theorem dX5_init_46 : decode cX5_init 46 = .ok (.aload_n 0, 1) := by decide +kernel
theorem dX5_init_47 : decode cX5_init 47 = .ok (.iconst (-1), 1) := by decide +kernel
theorem dX5_init_48 : decode cX5_init 48 = .ok (.putfield 35, 3) := by decide +kernel
theorem dX5_init_51 : decode cX5_init 51 = .ok (.return_, 1) := by decide +kernel
theorem dX5_length_0 : decode cX5_length 0 = .ok (.aload_n 0, 1) := by decide +kernel
theorem dX5_length_1 : decode cX5_length 1 = .ok (.getfield 12, 3) := by decide +kernel
theorem dX5_length_4 : decode cX5_length 4 = .ok (.invokevirtual 38, 3) := by decide +kernel
theorem dX5_length_7 : decode cX5_length 7 = .ok (.ireturn, 1) := by decide +kernel
theorem dX6_init_0 : decode cX6_init 0 = .ok (.aload_n 0, 1) := by decide +kernel
theorem dX6_init_1 : decode cX6_init 1 = .ok (.invokespecial 3, 3) := by decide +kernel
theorem dX6_init_4 : decode cX6_init 4 = .ok (.aload_n 0, 1) := by decide +kernel
theorem dX6_init_5 : decode cX6_init 5 = .ok (.bipush 81, 2) := by decide +kernel
theorem dX6_init_7 : decode cX6_init 7 = .ok (.newarray .int, 2) := by decide +kernel
theorem dX6_init_9 : decode cX6_init 9 = .ok (.putfield 9, 3) := by decide +kernel
theorem dX6_init_12 : decode cX6_init 12 = .ok (.aload_n 0, 1) := by decide +kernel
theorem dX6_init_13 : decode cX6_init 13 = .ok (.iconst 0, 1) := by decide +kernel
theorem dX6_init_14 : decode cX6_init 14 = .ok (.putfield 15, 3) := by decide +kernel
theorem dX6_init_17 : decode cX6_init 17 = .ok (.aload_n 0, 1) := by decide +kernel
theorem dX6_init_18 : decode cX6_init 18 = .ok (.iconst 0, 1) := by decide +kernel
theorem dX6_init_19 : decode cX6_init 19 = .ok (.putfield 19, 3) := by decide +kernel
theorem dX6_init_22 : decode cX6_init 22 = .ok (.aload_n 0, 1) := by decide +kernel
theorem dX6_init_23 : decode cX6_init 23 = .ok (.iconst 0, 1) := by decide +kernel
theorem dX6_init_24 : decode cX6_init 24 = .ok (.putfield 22, 3) := by decide +kernel
theorem dX6_init_27 : decode cX6_init 27 = .ok (.aload_n 0, 1) := by decide +kernel
theorem dX6_init_28 : decode cX6_init 28 = .ok (.iconst 0, 1) := by decide +kernel
theorem dX6_init_29 : decode cX6_init 29 = .ok (.putfield 25, 3) := by decide +kernel
theorem dX6_init_32 : decode cX6_init 32 = .ok (.aload_n 0, 1) := by decide +kernel
theorem dX6_init_33 : decode cX6_init 33 = .ok (.iconst 0, 1) := by decide +kernel
theorem dX6_init_34 : decode cX6_init 34 = .ok (.putfield 28, 3) := by decide +kernel
theorem dX6_init_37 : decode cX6_init 37 = .ok (.return_, 1) := by decide +kernel
theorem dX6_copyFrom_0 : decode cX6_copyFrom 0 = .ok (.aload_n 1, 1) := by decide +kernel
theorem dX6_copyFrom_1 : decode cX6_copyFrom 1 = .ok (.getfield 9, 3) := by decide +kernel
theorem dX6_copyFrom_4 : decode cX6_copyFrom 4 = .ok (.iconst 0, 1) := by decide +kernel
theorem dX6_copyFrom_5 : decode cX6_copyFrom 5 = .ok (.aload_n 0, 1) := by decide +kernel
theorem dX6_copyFrom_6 : decode cX6_copyFrom 6 = .ok (.getfield 9, 3) := by decide +kernel
theorem dX6_copyFrom_9 : decode cX6_copyFrom 9 = .ok (.iconst 0, 1) := by decide +kernel
theorem dX6_copyFrom_10 : decode cX6_copyFrom 10 = .ok (.aload_n 0, 1) := by decide +kernel
theorem dX6_copyFrom_11 : decode cX6_copyFrom 11 = .ok (.getfield 9, 3) := by decide +kernel
theorem dX6_copyFrom_14 : decode cX6_copyFrom 14 = .ok (.arraylength, 1) := by decide +kernel
theorem dX6_copyFrom_15 : decode cX6_copyFrom 15 = .ok (.invokestatic 31, 3) := by decide +kernel
theorem dX6_copyFrom_18 : decode cX6_copyFrom 18 = .ok (.aload_n 0, 1) := by decide +kernel
theorem dX6_copyFrom_19 : decode cX6_copyFrom 19 = .ok (.aload_n 1, 1) := by decide +kernel
theorem dX6_copyFrom_20 : decode cX6_copyFrom 20 = .ok (.getfield 15, 3) := by decide +kernel
theorem dX6_copyFrom_23 : decode cX6_copyFrom 23 = .ok (.putfield 15, 3) := by decide +kernel
theorem dX6_copyFrom_26 : decode cX6_copyFrom 26 = .ok (.aload_n 0, 1) := by decide +kernel
theorem dX6_copyFrom_27 : decode cX6_copyFrom 27 = .ok (.aload_n 1, 1) := by decide +kernel
theorem dX6_copyFrom_28 : decode cX6_copyFrom 28 = .ok (.getfield 19, 3) := by decide +kernel
theorem dX6_copyFrom_31 : decode cX6_copyFrom 31 = .ok (.putfield 19, 3) := by decide +kernel
theorem dX6_copyFrom_34 : decode cX6_copyFrom 34 = .ok (.aload_n 0, 1) := by decide +kernel
theorem dX6_copyFrom_35 : decode cX6_copyFrom 35 = .ok (.aload_n 1, 1) := by decide +kernel
theorem dX6_copyFrom_36 : decode cX6_copyFrom 36 = .ok (.getfield 22, 3) := by decide +kernel
theorem dX6_copyFrom_39 : decode cX6_copyFrom 39 = .ok (.putfield 22, 3) := by decide +kernel
theorem dX6_copyFrom_42 : decode cX6_copyFrom 42 = .ok (.aload_n 0, 1) := by decide +kernel
theorem dX6_copyFrom_43 : decode cX6_copyFrom 43 = .ok (.aload_n 1, 1) := by decide +kernel
theorem dX6_copyFrom_44 : decode cX6_copyFrom 44 = .ok (.getfield 25, 3) := by decide +kernel
theorem dX6_copyFrom_47 : decode cX6_copyFrom 47 = .ok (.putfield 25, 3) := by decide +kernel
theorem dX6_copyFrom_50 : decode cX6_copyFrom 50 = .ok (.aload_n 0, 1) := by decide +kernel
theorem dX6_copyFrom_51 : decode cX6_copyFrom 51 = .ok (.aload_n 1, 1) := by decide +kernel
theorem dX6_copyFrom_52 : decode cX6_copyFrom 52 = .ok (.getfield 28, 3) := by decide +kernel
theorem dX6_copyFrom_55 : decode cX6_copyFrom 55 = .ok (.putfield 28, 3) := by decide +kernel
theorem dX6_copyFrom_58 : decode cX6_copyFrom 58 = .ok (.return_, 1) := by decide +kernel
theorem dX6_has_0 : decode cX6_has 0 = .ok (.iload_n 1, 1) := by decide +kernel
theorem dX6_has_1 : decode cX6_has 1 = .ok (.ifCond .lt 15, 3) := by decide +kernel
theorem dX6_has_4 : decode cX6_has 4 = .ok (.iload_n 1, 1) := by decide +kernel
theorem dX6_has_5 : decode cX6_has 5 = .ok (.aload_n 0, 1) := by decide +kernel
theorem dX6_has_6 : decode cX6_has 6 = .ok (.getfield 15, 3) := by decide +kernel
theorem dX6_has_9 : decode cX6_has 9 = .ok (.if_icmp .ge 7, 3) := by decide +kernel
theorem dX6_has_12 : decode cX6_has 12 = .ok (.iconst 1, 1) := by decide +kernel
theorem dX6_has_13 : decode cX6_has 13 = .ok (.goto 4, 3) := by decide +kernel
theorem dX6_has_16 : decode cX6_has 16 = .ok (.iconst 0, 1) := by decide +kernel
theorem dX6_has_17 : decode cX6_has 17 = .ok (.ireturn, 1) := by decide +kernel
theorem dX6_everyone_0 : decode cX6_everyone 0 = .ok (.iconst 1, 1) := by decide +kernel
theorem dX6_everyone_1 : decode cX6_everyone 1 = .ok (.aload_n 0, 1) := by decide +kernel
theorem dX6_everyone_2 : decode cX6_everyone 2 = .ok (.getfield 15, 3) := by decide +kernel
theorem dX6_everyone_5 : decode cX6_everyone 5 = .ok (.ishl, 1) := by decide +kernel
theorem dX6_everyone_6 : decode cX6_everyone 6 = .ok (.iconst 1, 1) := by decide +kernel
theorem dX6_everyone_7 : decode cX6_everyone 7 = .ok (.isub, 1) := by decide +kernel
theorem dX6_everyone_8 : decode cX6_everyone 8 = .ok (.ireturn, 1) := by decide +kernel
theorem dX6_phaseCount_0 : decode cX6_phaseCount 0 = .ok (.aload_n 0, 1) := by decide +kernel
theorem dX6_phaseCount_1 : decode cX6_phaseCount 1 = .ok (.getfield 15, 3) := by decide +kernel
theorem dX6_phaseCount_4 : decode cX6_phaseCount 4 = .ok (.iconst 2, 1) := by decide +kernel
theorem dX6_phaseCount_5 : decode cX6_phaseCount 5 = .ok (.if_icmp .ge 7, 3) := by decide +kernel
theorem dX6_phaseCount_8 : decode cX6_phaseCount 8 = .ok (.iconst 0, 1) := by decide +kernel
theorem dX6_phaseCount_9 : decode cX6_phaseCount 9 = .ok (.goto 9, 3) := by decide +kernel
theorem dX6_phaseCount_12 : decode cX6_phaseCount 12 = .ok (.aload_n 0, 1) := by decide +kernel
theorem dX6_phaseCount_13 : decode cX6_phaseCount 13 = .ok (.getfield 15, 3) := by decide +kernel
theorem dX6_phaseCount_16 : decode cX6_phaseCount 16 = .ok (.iconst 1, 1) := by decide +kernel
theorem dX6_phaseCount_17 : decode cX6_phaseCount 17 = .ok (.isub, 1) := by decide +kernel
theorem dX6_phaseCount_18 : decode cX6_phaseCount 18 = .ok (.ireturn, 1) := by decide +kernel
theorem dX6_tie_0 : decode cX6_tie 0 = .ok (.aload_n 0, 1) := by decide +kernel
theorem dX6_tie_1 : decode cX6_tie 1 = .ok (.iload_n 1, 1) := by decide +kernel
theorem dX6_tie_2 : decode cX6_tie 2 = .ok (.invokevirtual 41, 3) := by decide +kernel
theorem dX6_tie_5 : decode cX6_tie 5 = .ok (.ifCond .eq 25, 3) := by decide +kernel
theorem dX6_tie_8 : decode cX6_tie 8 = .ok (.aload_n 0, 1) := by decide +kernel
theorem dX6_tie_9 : decode cX6_tie 9 = .ok (.iload_n 2, 1) := by decide +kernel
theorem dX6_tie_10 : decode cX6_tie 10 = .ok (.invokevirtual 41, 3) := by decide +kernel
theorem dX6_tie_13 : decode cX6_tie 13 = .ok (.ifCond .eq 17, 3) := by decide +kernel
theorem dX6_tie_16 : decode cX6_tie 16 = .ok (.aload_n 0, 1) := by decide +kernel
theorem dX6_tie_17 : decode cX6_tie 17 = .ok (.getfield 9, 3) := by decide +kernel
theorem dX6_tie_20 : decode cX6_tie 20 = .ok (.iload_n 1, 1) := by decide +kernel
theorem dX6_tie_21 : decode cX6_tie 21 = .ok (.bipush 9, 2) := by decide +kernel
theorem dX6_tie_23 : decode cX6_tie 23 = .ok (.imul, 1) := by decide +kernel
theorem dX6_tie_24 : decode cX6_tie 24 = .ok (.iload_n 2, 1) := by decide +kernel
theorem dX6_tie_25 : decode cX6_tie 25 = .ok (.iadd, 1) := by decide +kernel
theorem dX6_tie_26 : decode cX6_tie 26 = .ok (.iaload, 1) := by decide +kernel
theorem dX6_tie_27 : decode cX6_tie 27 = .ok (.goto 4, 3) := by decide +kernel
theorem dX6_tie_30 : decode cX6_tie 30 = .ok (.iconst 0, 1) := by decide +kernel
theorem dX6_tie_31 : decode cX6_tie 31 = .ok (.ireturn, 1) := by decide +kernel
theorem dX6_sideOf_0 : decode cX6_sideOf 0 = .ok (.aload_n 0, 1) := by decide +kernel
theorem dX6_sideOf_1 : decode cX6_sideOf 1 = .ok (.getfield 19, 3) := by decide +kernel
theorem dX6_sideOf_4 : decode cX6_sideOf 4 = .ok (.iload_n 1, 1) := by decide +kernel
theorem dX6_sideOf_5 : decode cX6_sideOf 5 = .ok (.invokestatic 45, 3) := by decide +kernel
theorem dX6_sideOf_8 : decode cX6_sideOf 8 = .ok (.ifCond .eq 7, 3) := by decide +kernel
theorem dX6_sideOf_11 : decode cX6_sideOf 11 = .ok (.iconst 1, 1) := by decide +kernel
theorem dX6_sideOf_12 : decode cX6_sideOf 12 = .ok (.goto 4, 3) := by decide +kernel
theorem dX6_sideOf_15 : decode cX6_sideOf 15 = .ok (.iconst 0, 1) := by decide +kernel
theorem dX6_sideOf_16 : decode cX6_sideOf 16 = .ok (.ireturn, 1) := by decide +kernel
theorem dX6_sameSide_0 : decode cX6_sameSide 0 = .ok (.aload_n 0, 1) := by decide +kernel
theorem dX6_sameSide_1 : decode cX6_sameSide 1 = .ok (.iload_n 1, 1) := by decide +kernel
theorem dX6_sameSide_2 : decode cX6_sameSide 2 = .ok (.invokevirtual 49, 3) := by decide +kernel
theorem dX6_sameSide_5 : decode cX6_sameSide 5 = .ok (.iconst 1, 1) := by decide +kernel
theorem dX6_sameSide_6 : decode cX6_sameSide 6 = .ok (.if_icmp .ne 10, 3) := by decide +kernel
theorem dX6_sameSide_9 : decode cX6_sameSide 9 = .ok (.aload_n 0, 1) := by decide +kernel
theorem dX6_sameSide_10 : decode cX6_sameSide 10 = .ok (.getfield 19, 3) := by decide +kernel
theorem dX6_sameSide_13 : decode cX6_sameSide 13 = .ok (.goto 14, 3) := by decide +kernel
theorem dX6_sameSide_16 : decode cX6_sameSide 16 = .ok (.aload_n 0, 1) := by decide +kernel
theorem dX6_sameSide_17 : decode cX6_sameSide 17 = .ok (.invokevirtual 37, 3) := by decide +kernel
theorem dX6_sameSide_20 : decode cX6_sameSide 20 = .ok (.aload_n 0, 1) := by decide +kernel
theorem dX6_sameSide_21 : decode cX6_sameSide 21 = .ok (.getfield 19, 3) := by decide +kernel
theorem dX6_sameSide_24 : decode cX6_sameSide 24 = .ok (.iconst (-1), 1) := by decide +kernel
theorem dX6_sameSide_25 : decode cX6_sameSide 25 = .ok (.ixor, 1) := by decide +kernel
theorem dX6_sameSide_26 : decode cX6_sameSide 26 = .ok (.iand, 1) := by decide +kernel
theorem dX6_sameSide_27 : decode cX6_sameSide 27 = .ok (.ireturn, 1) := by decide +kernel
theorem dX6_otherSide_0 : decode cX6_otherSide 0 = .ok (.aload_n 0, 1) := by decide +kernel
theorem dX6_otherSide_1 : decode cX6_otherSide 1 = .ok (.invokevirtual 37, 3) := by decide +kernel
theorem dX6_otherSide_4 : decode cX6_otherSide 4 = .ok (.aload_n 0, 1) := by decide +kernel
theorem dX6_otherSide_5 : decode cX6_otherSide 5 = .ok (.iload_n 1, 1) := by decide +kernel
theorem dX6_otherSide_6 : decode cX6_otherSide 6 = .ok (.invokevirtual 53, 3) := by decide +kernel
theorem dX6_otherSide_9 : decode cX6_otherSide 9 = .ok (.iconst (-1), 1) := by decide +kernel
theorem dX6_otherSide_10 : decode cX6_otherSide 10 = .ok (.ixor, 1) := by decide +kernel
theorem dX6_otherSide_11 : decode cX6_otherSide 11 = .ok (.iand, 1) := by decide +kernel
theorem dX6_otherSide_12 : decode cX6_otherSide 12 = .ok (.ireturn, 1) := by decide +kernel
theorem dX6_welcome_0 : decode cX6_welcome 0 = .ok (.aload_n 0, 1) := by decide +kernel
theorem dX6_welcome_1 : decode cX6_welcome 1 = .ok (.getfield 15, 3) := by decide +kernel
theorem dX6_welcome_4 : decode cX6_welcome 4 = .ok (.bipush 9, 2) := by decide +kernel
theorem dX6_welcome_6 : decode cX6_welcome 6 = .ok (.if_icmp .ge 23, 3) := by decide +kernel
theorem dX6_welcome_9 : decode cX6_welcome 9 = .ok (.aload_n 0, 1) := by decide +kernel
theorem dX6_welcome_10 : decode cX6_welcome 10 = .ok (.dup, 1) := by decide +kernel
theorem dX6_welcome_11 : decode cX6_welcome 11 = .ok (.getfield 15, 3) := by decide +kernel
theorem dX6_welcome_14 : decode cX6_welcome 14 = .ok (.iconst 1, 1) := by decide +kernel
theorem dX6_welcome_15 : decode cX6_welcome 15 = .ok (.iadd, 1) := by decide +kernel
theorem dX6_welcome_16 : decode cX6_welcome 16 = .ok (.putfield 15, 3) := by decide +kernel
theorem dX6_welcome_19 : decode cX6_welcome 19 = .ok (.aload_n 0, 1) := by decide +kernel
theorem dX6_welcome_20 : decode cX6_welcome 20 = .ok (.dup, 1) := by decide +kernel
theorem dX6_welcome_21 : decode cX6_welcome 21 = .ok (.getfield 22, 3) := by decide +kernel
theorem dX6_welcome_24 : decode cX6_welcome 24 = .ok (.iconst 1, 1) := by decide +kernel
theorem dX6_welcome_25 : decode cX6_welcome 25 = .ok (.iadd, 1) := by decide +kernel
theorem dX6_welcome_26 : decode cX6_welcome 26 = .ok (.putfield 22, 3) := by decide +kernel
theorem dX6_welcome_29 : decode cX6_welcome 29 = .ok (.aload_n 0, 1) := by decide +kernel
theorem dX6_welcome_30 : decode cX6_welcome 30 = .ok (.getfield 15, 3) := by decide +kernel
theorem dX6_welcome_33 : decode cX6_welcome 33 = .ok (.iconst 1, 1) := by decide +kernel
theorem dX6_welcome_34 : decode cX6_welcome 34 = .ok (.isub, 1) := by decide +kernel
theorem dX6_welcome_35 : decode cX6_welcome 35 = .ok (.ireturn, 1) := by decide +kernel
theorem dX6_dismiss_0 : decode cX6_dismiss 0 = .ok (.aload_n 0, 1) := by decide +kernel
theorem dX6_dismiss_1 : decode cX6_dismiss 1 = .ok (.iload_n 1, 1) := by decide +kernel
theorem dX6_dismiss_2 : decode cX6_dismiss 2 = .ok (.invokevirtual 41, 3) := by decide +kernel
theorem dX6_dismiss_5 : decode cX6_dismiss 5 = .ok (.ifCond .ne 8, 3) := by decide +kernel
theorem dX6_dismiss_8 : decode cX6_dismiss 8 = .ok (.aload_n 0, 1) := by decide +kernel
theorem dX6_dismiss_9 : decode cX6_dismiss 9 = .ok (.getfield 15, 3) := by decide +kernel
theorem dX6_dismiss_12 : decode cX6_dismiss 12 = .ok (.ireturn, 1) := by decide +kernel
theorem dX6_dismiss_13 : decode cX6_dismiss 13 = .ok (.iconst 0, 1) := by decide +kernel
theorem dX6_dismiss_14 : decode cX6_dismiss 14 = .ok (.istore_n 2, 1) := by decide +kernel
theorem dX6_dismiss_15 : decode cX6_dismiss 15 = .ok (.iload_n 2, 1) := by decide +kernel
theorem dX6_dismiss_16 : decode cX6_dismiss 16 = .ok (.aload_n 0, 1) := by decide +kernel
theorem dX6_dismiss_17 : decode cX6_dismiss 17 = .ok (.getfield 15, 3) := by decide +kernel
theorem dX6_dismiss_20 : decode cX6_dismiss 20 = .ok (.iconst 1, 1) := by decide +kernel
theorem dX6_dismiss_21 : decode cX6_dismiss 21 = .ok (.isub, 1) := by decide +kernel
theorem dX6_dismiss_22 : decode cX6_dismiss 22 = .ok (.if_icmp .ge 74, 3) := by decide +kernel
theorem dX6_dismiss_25 : decode cX6_dismiss 25 = .ok (.iconst 0, 1) := by decide +kernel
theorem dX6_dismiss_26 : decode cX6_dismiss 26 = .ok (.istore_n 3, 1) := by decide +kernel
theorem dX6_dismiss_27 : decode cX6_dismiss 27 = .ok (.iload_n 3, 1) := by decide +kernel
theorem dX6_dismiss_28 : decode cX6_dismiss 28 = .ok (.aload_n 0, 1) := by decide +kernel
theorem dX6_dismiss_29 : decode cX6_dismiss 29 = .ok (.getfield 15, 3) := by decide +kernel
theorem dX6_dismiss_32 : decode cX6_dismiss 32 = .ok (.iconst 1, 1) := by decide +kernel
theorem dX6_dismiss_33 : decode cX6_dismiss 33 = .ok (.isub, 1) := by decide +kernel
theorem dX6_dismiss_34 : decode cX6_dismiss 34 = .ok (.if_icmp .ge 56, 3) := by decide +kernel
theorem dX6_dismiss_37 : decode cX6_dismiss 37 = .ok (.iload_n 2, 1) := by decide +kernel
theorem dX6_dismiss_38 : decode cX6_dismiss 38 = .ok (.iload_n 1, 1) := by decide +kernel
theorem dX6_dismiss_39 : decode cX6_dismiss 39 = .ok (.if_icmp .ge 7, 3) := by decide +kernel
theorem dX6_dismiss_42 : decode cX6_dismiss 42 = .ok (.iload_n 2, 1) := by decide +kernel
theorem dX6_dismiss_43 : decode cX6_dismiss 43 = .ok (.goto 6, 3) := by decide +kernel
theorem dX6_dismiss_46 : decode cX6_dismiss 46 = .ok (.iload_n 2, 1) := by decide +kernel
theorem dX6_dismiss_47 : decode cX6_dismiss 47 = .ok (.iconst 1, 1) := by decide +kernel
theorem dX6_dismiss_48 : decode cX6_dismiss 48 = .ok (.iadd, 1) := by decide +kernel
theorem dX6_dismiss_49 : decode cX6_dismiss 49 = .ok (.istore 4, 2) := by decide +kernel
theorem dX6_dismiss_51 : decode cX6_dismiss 51 = .ok (.iload_n 3, 1) := by decide +kernel
theorem dX6_dismiss_52 : decode cX6_dismiss 52 = .ok (.iload_n 1, 1) := by decide +kernel
theorem dX6_dismiss_53 : decode cX6_dismiss 53 = .ok (.if_icmp .ge 7, 3) := by decide +kernel
theorem dX6_dismiss_56 : decode cX6_dismiss 56 = .ok (.iload_n 3, 1) := by decide +kernel
theorem dX6_dismiss_57 : decode cX6_dismiss 57 = .ok (.goto 6, 3) := by decide +kernel
theorem dX6_dismiss_60 : decode cX6_dismiss 60 = .ok (.iload_n 3, 1) := by decide +kernel
theorem dX6_dismiss_61 : decode cX6_dismiss 61 = .ok (.iconst 1, 1) := by decide +kernel
theorem dX6_dismiss_62 : decode cX6_dismiss 62 = .ok (.iadd, 1) := by decide +kernel
theorem dX6_dismiss_63 : decode cX6_dismiss 63 = .ok (.istore 5, 2) := by decide +kernel
theorem dX6_dismiss_65 : decode cX6_dismiss 65 = .ok (.aload_n 0, 1) := by decide +kernel
theorem dX6_dismiss_66 : decode cX6_dismiss 66 = .ok (.getfield 9, 3) := by decide +kernel
theorem dX6_dismiss_69 : decode cX6_dismiss 69 = .ok (.iload_n 2, 1) := by decide +kernel
theorem dX6_dismiss_70 : decode cX6_dismiss 70 = .ok (.bipush 9, 2) := by decide +kernel
theorem dX6_dismiss_72 : decode cX6_dismiss 72 = .ok (.imul, 1) := by decide +kernel
theorem dX6_dismiss_73 : decode cX6_dismiss 73 = .ok (.iload_n 3, 1) := by decide +kernel
theorem dX6_dismiss_74 : decode cX6_dismiss 74 = .ok (.iadd, 1) := by decide +kernel
theorem dX6_dismiss_75 : decode cX6_dismiss 75 = .ok (.aload_n 0, 1) := by decide +kernel
theorem dX6_dismiss_76 : decode cX6_dismiss 76 = .ok (.iload 4, 2) := by decide +kernel
theorem dX6_dismiss_78 : decode cX6_dismiss 78 = .ok (.iload 5, 2) := by decide +kernel
theorem dX6_dismiss_80 : decode cX6_dismiss 80 = .ok (.invokevirtual 56, 3) := by decide +kernel
theorem dX6_dismiss_83 : decode cX6_dismiss 83 = .ok (.iastore, 1) := by decide +kernel
theorem dX6_dismiss_84 : decode cX6_dismiss 84 = .ok (.iinc 3 1, 3) := by decide +kernel
theorem dX6_dismiss_87 : decode cX6_dismiss 87 = .ok (.goto (-60), 3) := by decide +kernel
theorem dX6_dismiss_90 : decode cX6_dismiss 90 = .ok (.iinc 2 1, 3) := by decide +kernel
theorem dX6_dismiss_93 : decode cX6_dismiss 93 = .ok (.goto (-78), 3) := by decide +kernel
theorem dX6_dismiss_96 : decode cX6_dismiss 96 = .ok (.iconst 0, 1) := by decide +kernel
theorem dX6_dismiss_97 : decode cX6_dismiss 97 = .ok (.istore_n 2, 1) := by decide +kernel
theorem dX6_dismiss_98 : decode cX6_dismiss 98 = .ok (.iload_n 2, 1) := by decide +kernel
theorem dX6_dismiss_99 : decode cX6_dismiss 99 = .ok (.aload_n 0, 1) := by decide +kernel
theorem dX6_dismiss_100 : decode cX6_dismiss 100 = .ok (.getfield 15, 3) := by decide +kernel
theorem dX6_dismiss_103 : decode cX6_dismiss 103 = .ok (.if_icmp .ge 21, 3) := by decide +kernel
theorem dX6_dismiss_106 : decode cX6_dismiss 106 = .ok (.aload_n 0, 1) := by decide +kernel
theorem dX6_dismiss_107 : decode cX6_dismiss 107 = .ok (.iload_n 2, 1) := by decide +kernel
theorem dX6_dismiss_108 : decode cX6_dismiss 108 = .ok (.aload_n 0, 1) := by decide +kernel
theorem dX6_dismiss_109 : decode cX6_dismiss 109 = .ok (.getfield 15, 3) := by decide +kernel
theorem dX6_dismiss_112 : decode cX6_dismiss 112 = .ok (.iconst 1, 1) := by decide +kernel
theorem dX6_dismiss_113 : decode cX6_dismiss 113 = .ok (.isub, 1) := by decide +kernel
theorem dX6_dismiss_114 : decode cX6_dismiss 114 = .ok (.iconst 0, 1) := by decide +kernel
theorem dX6_dismiss_115 : decode cX6_dismiss 115 = .ok (.invokevirtual 60, 3) := by decide +kernel
theorem dX6_dismiss_118 : decode cX6_dismiss 118 = .ok (.iinc 2 1, 3) := by decide +kernel
theorem dX6_dismiss_121 : decode cX6_dismiss 121 = .ok (.goto (-23), 3) := by decide +kernel
theorem dX6_dismiss_124 : decode cX6_dismiss 124 = .ok (.iconst 1, 1) := by decide +kernel
theorem dX6_dismiss_125 : decode cX6_dismiss 125 = .ok (.iload_n 1, 1) := by decide +kernel
theorem dX6_dismiss_126 : decode cX6_dismiss 126 = .ok (.ishl, 1) := by decide +kernel
theorem dX6_dismiss_127 : decode cX6_dismiss 127 = .ok (.iconst 1, 1) := by decide +kernel
theorem dX6_dismiss_128 : decode cX6_dismiss 128 = .ok (.isub, 1) := by decide +kernel
theorem dX6_dismiss_129 : decode cX6_dismiss 129 = .ok (.istore_n 2, 1) := by decide +kernel
theorem dX6_dismiss_130 : decode cX6_dismiss 130 = .ok (.aload_n 0, 1) := by decide +kernel
theorem dX6_dismiss_131 : decode cX6_dismiss 131 = .ok (.aload_n 0, 1) := by decide +kernel
theorem dX6_dismiss_132 : decode cX6_dismiss 132 = .ok (.getfield 19, 3) := by decide +kernel
theorem dX6_dismiss_135 : decode cX6_dismiss 135 = .ok (.iload_n 2, 1) := by decide +kernel
theorem dX6_dismiss_136 : decode cX6_dismiss 136 = .ok (.iand, 1) := by decide +kernel
theorem dX6_dismiss_137 : decode cX6_dismiss 137 = .ok (.aload_n 0, 1) := by decide +kernel
theorem dX6_dismiss_138 : decode cX6_dismiss 138 = .ok (.getfield 19, 3) := by decide +kernel
theorem dX6_dismiss_141 : decode cX6_dismiss 141 = .ok (.iconst 1, 1) := by decide +kernel
theorem dX6_dismiss_142 : decode cX6_dismiss 142 = .ok (.ishr, 1) := by decide +kernel
theorem dX6_dismiss_143 : decode cX6_dismiss 143 = .ok (.iload_n 2, 1) := by decide +kernel
theorem dX6_dismiss_144 : decode cX6_dismiss 144 = .ok (.iconst (-1), 1) := by decide +kernel
theorem dX6_dismiss_145 : decode cX6_dismiss 145 = .ok (.ixor, 1) := by decide +kernel
theorem dX6_dismiss_146 : decode cX6_dismiss 146 = .ok (.iand, 1) := by decide +kernel
theorem dX6_dismiss_147 : decode cX6_dismiss 147 = .ok (.ior, 1) := by decide +kernel
theorem dX6_dismiss_148 : decode cX6_dismiss 148 = .ok (.putfield 19, 3) := by decide +kernel
theorem dX6_dismiss_151 : decode cX6_dismiss 151 = .ok (.aload_n 0, 1) := by decide +kernel
theorem dX6_dismiss_152 : decode cX6_dismiss 152 = .ok (.dup, 1) := by decide +kernel
theorem dX6_dismiss_153 : decode cX6_dismiss 153 = .ok (.getfield 15, 3) := by decide +kernel
theorem dX6_dismiss_156 : decode cX6_dismiss 156 = .ok (.iconst 1, 1) := by decide +kernel
theorem dX6_dismiss_157 : decode cX6_dismiss 157 = .ok (.isub, 1) := by decide +kernel
theorem dX6_dismiss_158 : decode cX6_dismiss 158 = .ok (.putfield 15, 3) := by decide +kernel
theorem dX6_dismiss_161 : decode cX6_dismiss 161 = .ok (.aload_n 0, 1) := by decide +kernel
theorem dX6_dismiss_162 : decode cX6_dismiss 162 = .ok (.dup, 1) := by decide +kernel
theorem dX6_dismiss_163 : decode cX6_dismiss 163 = .ok (.getfield 25, 3) := by decide +kernel
theorem dX6_dismiss_166 : decode cX6_dismiss 166 = .ok (.iconst 1, 1) := by decide +kernel
theorem dX6_dismiss_167 : decode cX6_dismiss 167 = .ok (.iadd, 1) := by decide +kernel
theorem dX6_dismiss_168 : decode cX6_dismiss 168 = .ok (.putfield 25, 3) := by decide +kernel
theorem dX6_dismiss_171 : decode cX6_dismiss 171 = .ok (.aload_n 0, 1) := by decide +kernel
theorem dX6_dismiss_172 : decode cX6_dismiss 172 = .ok (.getfield 15, 3) := by decide +kernel
theorem dX6_dismiss_175 : decode cX6_dismiss 175 = .ok (.ireturn, 1) := by decide +kernel
theorem dX6_retie_0 : decode cX6_retie 0 = .ok (.aload_n 0, 1) := by decide +kernel
theorem dX6_retie_1 : decode cX6_retie 1 = .ok (.iload_n 1, 1) := by decide +kernel
theorem dX6_retie_2 : decode cX6_retie 2 = .ok (.iload_n 2, 1) := by decide +kernel
theorem dX6_retie_3 : decode cX6_retie 3 = .ok (.invokevirtual 56, 3) := by decide +kernel
theorem dX6_retie_6 : decode cX6_retie 6 = .ok (.istore 4, 2) := by decide +kernel
theorem dX6_retie_8 : decode cX6_retie 8 = .ok (.aload_n 0, 1) := by decide +kernel
theorem dX6_retie_9 : decode cX6_retie 9 = .ok (.iload_n 1, 1) := by decide +kernel
theorem dX6_retie_10 : decode cX6_retie 10 = .ok (.iload_n 2, 1) := by decide +kernel
theorem dX6_retie_11 : decode cX6_retie 11 = .ok (.iload_n 3, 1) := by decide +kernel
theorem dX6_retie_12 : decode cX6_retie 12 = .ok (.invokevirtual 60, 3) := by decide +kernel
theorem dX6_retie_15 : decode cX6_retie 15 = .ok (.iload 4, 2) := by decide +kernel
theorem dX6_retie_17 : decode cX6_retie 17 = .ok (.ireturn, 1) := by decide +kernel
theorem dX6_setTie_0 : decode cX6_setTie 0 = .ok (.aload_n 0, 1) := by decide +kernel
theorem dX6_setTie_1 : decode cX6_setTie 1 = .ok (.iload_n 1, 1) := by decide +kernel
theorem dX6_setTie_2 : decode cX6_setTie 2 = .ok (.invokevirtual 41, 3) := by decide +kernel
theorem dX6_setTie_5 : decode cX6_setTie 5 = .ok (.ifCond .eq 35, 3) := by decide +kernel
theorem dX6_setTie_8 : decode cX6_setTie 8 = .ok (.aload_n 0, 1) := by decide +kernel
theorem dX6_setTie_9 : decode cX6_setTie 9 = .ok (.iload_n 2, 1) := by decide +kernel
theorem dX6_setTie_10 : decode cX6_setTie 10 = .ok (.invokevirtual 41, 3) := by decide +kernel
theorem dX6_setTie_13 : decode cX6_setTie 13 = .ok (.ifCond .eq 27, 3) := by decide +kernel
theorem dX6_setTie_16 : decode cX6_setTie 16 = .ok (.aload_n 0, 1) := by decide +kernel
theorem dX6_setTie_17 : decode cX6_setTie 17 = .ok (.getfield 9, 3) := by decide +kernel
theorem dX6_setTie_20 : decode cX6_setTie 20 = .ok (.iload_n 1, 1) := by decide +kernel
theorem dX6_setTie_21 : decode cX6_setTie 21 = .ok (.bipush 9, 2) := by decide +kernel
theorem dX6_setTie_23 : decode cX6_setTie 23 = .ok (.imul, 1) := by decide +kernel
theorem dX6_setTie_24 : decode cX6_setTie 24 = .ok (.iload_n 2, 1) := by decide +kernel
theorem dX6_setTie_25 : decode cX6_setTie 25 = .ok (.iadd, 1) := by decide +kernel
theorem dX6_setTie_26 : decode cX6_setTie 26 = .ok (.iload_n 3, 1) := by decide +kernel
theorem dX6_setTie_27 : decode cX6_setTie 27 = .ok (.iastore, 1) := by decide +kernel
theorem dX6_setTie_28 : decode cX6_setTie 28 = .ok (.aload_n 0, 1) := by decide +kernel
theorem dX6_setTie_29 : decode cX6_setTie 29 = .ok (.getfield 9, 3) := by decide +kernel
theorem dX6_setTie_32 : decode cX6_setTie 32 = .ok (.iload_n 2, 1) := by decide +kernel
theorem dX6_setTie_33 : decode cX6_setTie 33 = .ok (.bipush 9, 2) := by decide +kernel
theorem dX6_setTie_35 : decode cX6_setTie 35 = .ok (.imul, 1) := by decide +kernel
theorem dX6_setTie_36 : decode cX6_setTie 36 = .ok (.iload_n 1, 1) := by decide +kernel
theorem dX6_setTie_37 : decode cX6_setTie 37 = .ok (.iadd, 1) := by decide +kernel
theorem dX6_setTie_38 : decode cX6_setTie 38 = .ok (.iload_n 3, 1) := by decide +kernel
theorem dX6_setTie_39 : decode cX6_setTie 39 = .ok (.iastore, 1) := by decide +kernel
theorem dX6_setTie_40 : decode cX6_setTie 40 = .ok (.return_, 1) := by decide +kernel
theorem dX6_unite_0 : decode cX6_unite 0 = .ok (.iconst 0, 1) := by decide +kernel
theorem dX6_unite_1 : decode cX6_unite 1 = .ok (.istore_n 3, 1) := by decide +kernel
theorem dX6_unite_2 : decode cX6_unite 2 = .ok (.iload_n 3, 1) := by decide +kernel
theorem dX6_unite_3 : decode cX6_unite 3 = .ok (.aload_n 0, 1) := by decide +kernel
theorem dX6_unite_4 : decode cX6_unite 4 = .ok (.getfield 15, 3) := by decide +kernel
theorem dX6_unite_7 : decode cX6_unite 7 = .ok (.if_icmp .ge 38, 3) := by decide +kernel
theorem dX6_unite_10 : decode cX6_unite 10 = .ok (.iload_n 3, 1) := by decide +kernel
theorem dX6_unite_11 : decode cX6_unite 11 = .ok (.iload_n 1, 1) := by decide +kernel
theorem dX6_unite_12 : decode cX6_unite 12 = .ok (.if_icmp .eq 27, 3) := by decide +kernel
theorem dX6_unite_15 : decode cX6_unite 15 = .ok (.iload_n 3, 1) := by decide +kernel
theorem dX6_unite_16 : decode cX6_unite 16 = .ok (.iload_n 2, 1) := by decide +kernel
theorem dX6_unite_17 : decode cX6_unite 17 = .ok (.if_icmp .eq 22, 3) := by decide +kernel
theorem dX6_unite_20 : decode cX6_unite 20 = .ok (.aload_n 0, 1) := by decide +kernel
theorem dX6_unite_21 : decode cX6_unite 21 = .ok (.iload_n 1, 1) := by decide +kernel
theorem dX6_unite_22 : decode cX6_unite 22 = .ok (.iload_n 3, 1) := by decide +kernel
theorem dX6_unite_23 : decode cX6_unite 23 = .ok (.aload_n 0, 1) := by decide +kernel
theorem dX6_unite_24 : decode cX6_unite 24 = .ok (.iload_n 1, 1) := by decide +kernel
theorem dX6_unite_25 : decode cX6_unite 25 = .ok (.iload_n 3, 1) := by decide +kernel
theorem dX6_unite_26 : decode cX6_unite 26 = .ok (.invokevirtual 56, 3) := by decide +kernel
theorem dX6_unite_29 : decode cX6_unite 29 = .ok (.aload_n 0, 1) := by decide +kernel
theorem dX6_unite_30 : decode cX6_unite 30 = .ok (.iload_n 2, 1) := by decide +kernel
theorem dX6_unite_31 : decode cX6_unite 31 = .ok (.iload_n 3, 1) := by decide +kernel
theorem dX6_unite_32 : decode cX6_unite 32 = .ok (.invokevirtual 56, 3) := by decide +kernel
theorem dX6_unite_35 : decode cX6_unite 35 = .ok (.iadd, 1) := by decide +kernel
theorem dX6_unite_36 : decode cX6_unite 36 = .ok (.invokevirtual 60, 3) := by decide +kernel
theorem dX6_unite_39 : decode cX6_unite 39 = .ok (.iinc 3 1, 3) := by decide +kernel
theorem dX6_unite_42 : decode cX6_unite 42 = .ok (.goto (-40), 3) := by decide +kernel
theorem dX6_unite_45 : decode cX6_unite 45 = .ok (.aload_n 0, 1) := by decide +kernel
theorem dX6_unite_46 : decode cX6_unite 46 = .ok (.iload_n 2, 1) := by decide +kernel
theorem dX6_unite_47 : decode cX6_unite 47 = .ok (.invokevirtual 64, 3) := by decide +kernel
theorem dX6_unite_50 : decode cX6_unite 50 = .ok (.pop, 1) := by decide +kernel
theorem dX6_unite_51 : decode cX6_unite 51 = .ok (.aload_n 0, 1) := by decide +kernel
theorem dX6_unite_52 : decode cX6_unite 52 = .ok (.dup, 1) := by decide +kernel
theorem dX6_unite_53 : decode cX6_unite 53 = .ok (.getfield 28, 3) := by decide +kernel
theorem dX6_unite_56 : decode cX6_unite 56 = .ok (.iconst 1, 1) := by decide +kernel
theorem dX6_unite_57 : decode cX6_unite 57 = .ok (.iadd, 1) := by decide +kernel
theorem dX6_unite_58 : decode cX6_unite 58 = .ok (.putfield 28, 3) := by decide +kernel
theorem dX6_unite_61 : decode cX6_unite 61 = .ok (.iload_n 2, 1) := by decide +kernel
theorem dX6_unite_62 : decode cX6_unite 62 = .ok (.iload_n 1, 1) := by decide +kernel
theorem dX6_unite_63 : decode cX6_unite 63 = .ok (.if_icmp .ge 9, 3) := by decide +kernel
theorem dX6_unite_66 : decode cX6_unite 66 = .ok (.iload_n 1, 1) := by decide +kernel
theorem dX6_unite_67 : decode cX6_unite 67 = .ok (.iconst 1, 1) := by decide +kernel
theorem dX6_unite_68 : decode cX6_unite 68 = .ok (.isub, 1) := by decide +kernel
theorem dX6_unite_69 : decode cX6_unite 69 = .ok (.goto 4, 3) := by decide +kernel
theorem dX6_unite_72 : decode cX6_unite 72 = .ok (.iload_n 1, 1) := by decide +kernel
theorem dX6_unite_73 : decode cX6_unite 73 = .ok (.ireturn, 1) := by decide +kernel
theorem dX6_moveTo_0 : decode cX6_moveTo 0 = .ok (.aload_n 0, 1) := by decide +kernel
theorem dX6_moveTo_1 : decode cX6_moveTo 1 = .ok (.iload_n 1, 1) := by decide +kernel
theorem dX6_moveTo_2 : decode cX6_moveTo 2 = .ok (.invokevirtual 41, 3) := by decide +kernel
theorem dX6_moveTo_5 : decode cX6_moveTo 5 = .ok (.ifCond .eq 32, 3) := by decide +kernel
theorem dX6_moveTo_8 : decode cX6_moveTo 8 = .ok (.aload_n 0, 1) := by decide +kernel
theorem dX6_moveTo_9 : decode cX6_moveTo 9 = .ok (.getfield 19, 3) := by decide +kernel
theorem dX6_moveTo_12 : decode cX6_moveTo 12 = .ok (.iconst 1, 1) := by decide +kernel
theorem dX6_moveTo_13 : decode cX6_moveTo 13 = .ok (.iload_n 1, 1) := by decide +kernel
theorem dX6_moveTo_14 : decode cX6_moveTo 14 = .ok (.ishl, 1) := by decide +kernel
theorem dX6_moveTo_15 : decode cX6_moveTo 15 = .ok (.iconst (-1), 1) := by decide +kernel
theorem dX6_moveTo_16 : decode cX6_moveTo 16 = .ok (.ixor, 1) := by decide +kernel
theorem dX6_moveTo_17 : decode cX6_moveTo 17 = .ok (.iand, 1) := by decide +kernel
theorem dX6_moveTo_18 : decode cX6_moveTo 18 = .ok (.istore_n 3, 1) := by decide +kernel
theorem dX6_moveTo_19 : decode cX6_moveTo 19 = .ok (.aload_n 0, 1) := by decide +kernel
theorem dX6_moveTo_20 : decode cX6_moveTo 20 = .ok (.iload_n 2, 1) := by decide +kernel
theorem dX6_moveTo_21 : decode cX6_moveTo 21 = .ok (.iconst 1, 1) := by decide +kernel
theorem dX6_moveTo_22 : decode cX6_moveTo 22 = .ok (.if_icmp .ne 11, 3) := by decide +kernel
theorem dX6_moveTo_25 : decode cX6_moveTo 25 = .ok (.iload_n 3, 1) := by decide +kernel
theorem dX6_moveTo_26 : decode cX6_moveTo 26 = .ok (.iconst 1, 1) := by decide +kernel
theorem dX6_moveTo_27 : decode cX6_moveTo 27 = .ok (.iload_n 1, 1) := by decide +kernel
theorem dX6_moveTo_28 : decode cX6_moveTo 28 = .ok (.ishl, 1) := by decide +kernel
theorem dX6_moveTo_29 : decode cX6_moveTo 29 = .ok (.ior, 1) := by decide +kernel
theorem dX6_moveTo_30 : decode cX6_moveTo 30 = .ok (.goto 4, 3) := by decide +kernel
theorem dX6_moveTo_33 : decode cX6_moveTo 33 = .ok (.iload_n 3, 1) := by decide +kernel
theorem dX6_moveTo_34 : decode cX6_moveTo 34 = .ok (.putfield 19, 3) := by decide +kernel
theorem dX6_moveTo_37 : decode cX6_moveTo 37 = .ok (.return_, 1) := by decide +kernel
theorem dX6_tieToSet_0 : decode cX6_tieToSet 0 = .ok (.iconst 0, 1) := by decide +kernel
theorem dX6_tieToSet_1 : decode cX6_tieToSet 1 = .ok (.istore_n 3, 1) := by decide +kernel
theorem dX6_tieToSet_2 : decode cX6_tieToSet 2 = .ok (.iconst 0, 1) := by decide +kernel
theorem dX6_tieToSet_3 : decode cX6_tieToSet 3 = .ok (.istore 4, 2) := by decide +kernel
theorem dX6_tieToSet_5 : decode cX6_tieToSet 5 = .ok (.iload 4, 2) := by decide +kernel
theorem dX6_tieToSet_7 : decode cX6_tieToSet 7 = .ok (.aload_n 0, 1) := by decide +kernel
theorem dX6_tieToSet_8 : decode cX6_tieToSet 8 = .ok (.getfield 15, 3) := by decide +kernel
theorem dX6_tieToSet_11 : decode cX6_tieToSet 11 = .ok (.if_icmp .ge 28, 3) := by decide +kernel
theorem dX6_tieToSet_14 : decode cX6_tieToSet 14 = .ok (.iload_n 2, 1) := by decide +kernel
theorem dX6_tieToSet_15 : decode cX6_tieToSet 15 = .ok (.iload 4, 2) := by decide +kernel
theorem dX6_tieToSet_17 : decode cX6_tieToSet 17 = .ok (.invokestatic 45, 3) := by decide +kernel
theorem dX6_tieToSet_20 : decode cX6_tieToSet 20 = .ok (.ifCond .eq 13, 3) := by decide +kernel
theorem dX6_tieToSet_23 : decode cX6_tieToSet 23 = .ok (.iload_n 3, 1) := by decide +kernel
theorem dX6_tieToSet_24 : decode cX6_tieToSet 24 = .ok (.aload_n 0, 1) := by decide +kernel
theorem dX6_tieToSet_25 : decode cX6_tieToSet 25 = .ok (.iload_n 1, 1) := by decide +kernel
theorem dX6_tieToSet_26 : decode cX6_tieToSet 26 = .ok (.iload 4, 2) := by decide +kernel
theorem dX6_tieToSet_28 : decode cX6_tieToSet 28 = .ok (.invokevirtual 56, 3) := by decide +kernel
theorem dX6_tieToSet_31 : decode cX6_tieToSet 31 = .ok (.iadd, 1) := by decide +kernel
theorem dX6_tieToSet_32 : decode cX6_tieToSet 32 = .ok (.istore_n 3, 1) := by decide +kernel
theorem dX6_tieToSet_33 : decode cX6_tieToSet 33 = .ok (.iinc 4 1, 3) := by decide +kernel
theorem dX6_tieToSet_36 : decode cX6_tieToSet 36 = .ok (.goto (-31), 3) := by decide +kernel
theorem dX6_tieToSet_39 : decode cX6_tieToSet 39 = .ok (.iload_n 3, 1) := by decide +kernel
theorem dX6_tieToSet_40 : decode cX6_tieToSet 40 = .ok (.ireturn, 1) := by decide +kernel
theorem dX6_feudByBonds_0 : decode cX6_feudByBonds 0 = .ok (.iconst 0, 1) := by decide +kernel
theorem dX6_feudByBonds_1 : decode cX6_feudByBonds 1 = .ok (.istore_n 1, 1) := by decide +kernel
theorem dX6_feudByBonds_2 : decode cX6_feudByBonds 2 = .ok (.iconst 0, 1) := by decide +kernel
theorem dX6_feudByBonds_3 : decode cX6_feudByBonds 3 = .ok (.istore_n 2, 1) := by decide +kernel
theorem dX6_feudByBonds_4 : decode cX6_feudByBonds 4 = .ok (.iload_n 2, 1) := by decide +kernel
theorem dX6_feudByBonds_5 : decode cX6_feudByBonds 5 = .ok (.aload_n 0, 1) := by decide +kernel
theorem dX6_feudByBonds_6 : decode cX6_feudByBonds 6 = .ok (.getfield 15, 3) := by decide +kernel
theorem dX6_feudByBonds_9 : decode cX6_feudByBonds 9 = .ok (.if_icmp .ge 49, 3) := by decide +kernel
theorem dX6_feudByBonds_12 : decode cX6_feudByBonds 12 = .ok (.iload_n 2, 1) := by decide +kernel
theorem dX6_feudByBonds_13 : decode cX6_feudByBonds 13 = .ok (.iconst 1, 1) := by decide +kernel
theorem dX6_feudByBonds_14 : decode cX6_feudByBonds 14 = .ok (.iadd, 1) := by decide +kernel
theorem dX6_feudByBonds_15 : decode cX6_feudByBonds 15 = .ok (.istore_n 3, 1) := by decide +kernel
theorem dX6_feudByBonds_16 : decode cX6_feudByBonds 16 = .ok (.iload_n 3, 1) := by decide +kernel
theorem dX6_feudByBonds_17 : decode cX6_feudByBonds 17 = .ok (.aload_n 0, 1) := by decide +kernel
theorem dX6_feudByBonds_18 : decode cX6_feudByBonds 18 = .ok (.getfield 15, 3) := by decide +kernel
theorem dX6_feudByBonds_21 : decode cX6_feudByBonds 21 = .ok (.if_icmp .ge 31, 3) := by decide +kernel
theorem dX6_feudByBonds_24 : decode cX6_feudByBonds 24 = .ok (.aload_n 0, 1) := by decide +kernel
theorem dX6_feudByBonds_25 : decode cX6_feudByBonds 25 = .ok (.iload_n 2, 1) := by decide +kernel
theorem dX6_feudByBonds_26 : decode cX6_feudByBonds 26 = .ok (.invokevirtual 49, 3) := by decide +kernel
theorem dX6_feudByBonds_29 : decode cX6_feudByBonds 29 = .ok (.aload_n 0, 1) := by decide +kernel
theorem dX6_feudByBonds_30 : decode cX6_feudByBonds 30 = .ok (.iload_n 3, 1) := by decide +kernel
theorem dX6_feudByBonds_31 : decode cX6_feudByBonds 31 = .ok (.invokevirtual 49, 3) := by decide +kernel
theorem dX6_feudByBonds_34 : decode cX6_feudByBonds 34 = .ok (.if_icmp .eq 12, 3) := by decide +kernel
theorem dX6_feudByBonds_37 : decode cX6_feudByBonds 37 = .ok (.iload_n 1, 1) := by decide +kernel
theorem dX6_feudByBonds_38 : decode cX6_feudByBonds 38 = .ok (.aload_n 0, 1) := by decide +kernel
theorem dX6_feudByBonds_39 : decode cX6_feudByBonds 39 = .ok (.iload_n 2, 1) := by decide +kernel
theorem dX6_feudByBonds_40 : decode cX6_feudByBonds 40 = .ok (.iload_n 3, 1) := by decide +kernel
theorem dX6_feudByBonds_41 : decode cX6_feudByBonds 41 = .ok (.invokevirtual 56, 3) := by decide +kernel
theorem dX6_feudByBonds_44 : decode cX6_feudByBonds 44 = .ok (.iadd, 1) := by decide +kernel
theorem dX6_feudByBonds_45 : decode cX6_feudByBonds 45 = .ok (.istore_n 1, 1) := by decide +kernel
theorem dX6_feudByBonds_46 : decode cX6_feudByBonds 46 = .ok (.iinc 3 1, 3) := by decide +kernel
theorem dX6_feudByBonds_49 : decode cX6_feudByBonds 49 = .ok (.goto (-33), 3) := by decide +kernel
theorem dX6_feudByBonds_52 : decode cX6_feudByBonds 52 = .ok (.iinc 2 1, 3) := by decide +kernel
theorem dX6_feudByBonds_55 : decode cX6_feudByBonds 55 = .ok (.goto (-51), 3) := by decide +kernel
theorem dX6_feudByBonds_58 : decode cX6_feudByBonds 58 = .ok (.iload_n 1, 1) := by decide +kernel
theorem dX6_feudByBonds_59 : decode cX6_feudByBonds 59 = .ok (.ireturn, 1) := by decide +kernel
theorem dX6_feudByHalves_0 : decode cX6_feudByHalves 0 = .ok (.iconst 0, 1) := by decide +kernel
theorem dX6_feudByHalves_1 : decode cX6_feudByHalves 1 = .ok (.istore_n 1, 1) := by decide +kernel
theorem dX6_feudByHalves_2 : decode cX6_feudByHalves 2 = .ok (.iconst 0, 1) := by decide +kernel
theorem dX6_feudByHalves_3 : decode cX6_feudByHalves 3 = .ok (.istore_n 2, 1) := by decide +kernel
theorem dX6_feudByHalves_4 : decode cX6_feudByHalves 4 = .ok (.iload_n 2, 1) := by decide +kernel
theorem dX6_feudByHalves_5 : decode cX6_feudByHalves 5 = .ok (.aload_n 0, 1) := by decide +kernel
theorem dX6_feudByHalves_6 : decode cX6_feudByHalves 6 = .ok (.getfield 15, 3) := by decide +kernel
theorem dX6_feudByHalves_9 : decode cX6_feudByHalves 9 = .ok (.if_icmp .ge 22, 3) := by decide +kernel
theorem dX6_feudByHalves_12 : decode cX6_feudByHalves 12 = .ok (.iload_n 1, 1) := by decide +kernel
theorem dX6_feudByHalves_13 : decode cX6_feudByHalves 13 = .ok (.aload_n 0, 1) := by decide +kernel
theorem dX6_feudByHalves_14 : decode cX6_feudByHalves 14 = .ok (.iload_n 2, 1) := by decide +kernel
theorem dX6_feudByHalves_15 : decode cX6_feudByHalves 15 = .ok (.aload_n 0, 1) := by decide +kernel
theorem dX6_feudByHalves_16 : decode cX6_feudByHalves 16 = .ok (.iload_n 2, 1) := by decide +kernel
theorem dX6_feudByHalves_17 : decode cX6_feudByHalves 17 = .ok (.invokevirtual 70, 3) := by decide +kernel
theorem dX6_feudByHalves_20 : decode cX6_feudByHalves 20 = .ok (.invokevirtual 67, 3) := by decide +kernel
theorem dX6_feudByHalves_23 : decode cX6_feudByHalves 23 = .ok (.iadd, 1) := by decide +kernel
theorem dX6_feudByHalves_24 : decode cX6_feudByHalves 24 = .ok (.istore_n 1, 1) := by decide +kernel
theorem dX6_feudByHalves_25 : decode cX6_feudByHalves 25 = .ok (.iinc 2 1, 3) := by decide +kernel
theorem dX6_feudByHalves_28 : decode cX6_feudByHalves 28 = .ok (.goto (-24), 3) := by decide +kernel
theorem dX6_feudByHalves_31 : decode cX6_feudByHalves 31 = .ok (.iload_n 1, 1) := by decide +kernel
theorem dX6_feudByHalves_32 : decode cX6_feudByHalves 32 = .ok (.iconst 2, 1) := by decide +kernel
theorem dX6_feudByHalves_33 : decode cX6_feudByHalves 33 = .ok (.idiv, 1) := by decide +kernel
theorem dX6_feudByHalves_34 : decode cX6_feudByHalves 34 = .ok (.ireturn, 1) := by decide +kernel
theorem dX6_feudAfterMove_0 : decode cX6_feudAfterMove 0 = .ok (.aload_n 0, 1) := by decide +kernel
theorem dX6_feudAfterMove_1 : decode cX6_feudAfterMove 1 = .ok (.invokevirtual 73, 3) := by decide +kernel
theorem dX6_feudAfterMove_4 : decode cX6_feudAfterMove 4 = .ok (.aload_n 0, 1) := by decide +kernel
theorem dX6_feudAfterMove_5 : decode cX6_feudAfterMove 5 = .ok (.iload_n 1, 1) := by decide +kernel
theorem dX6_feudAfterMove_6 : decode cX6_feudAfterMove 6 = .ok (.aload_n 0, 1) := by decide +kernel
theorem dX6_feudAfterMove_7 : decode cX6_feudAfterMove 7 = .ok (.iload_n 1, 1) := by decide +kernel
theorem dX6_feudAfterMove_8 : decode cX6_feudAfterMove 8 = .ok (.invokevirtual 53, 3) := by decide +kernel
theorem dX6_feudAfterMove_11 : decode cX6_feudAfterMove 11 = .ok (.invokevirtual 67, 3) := by decide +kernel
theorem dX6_feudAfterMove_14 : decode cX6_feudAfterMove 14 = .ok (.iadd, 1) := by decide +kernel
theorem dX6_feudAfterMove_15 : decode cX6_feudAfterMove 15 = .ok (.aload_n 0, 1) := by decide +kernel
theorem dX6_feudAfterMove_16 : decode cX6_feudAfterMove 16 = .ok (.iload_n 1, 1) := by decide +kernel
theorem dX6_feudAfterMove_17 : decode cX6_feudAfterMove 17 = .ok (.aload_n 0, 1) := by decide +kernel
theorem dX6_feudAfterMove_18 : decode cX6_feudAfterMove 18 = .ok (.iload_n 1, 1) := by decide +kernel
theorem dX6_feudAfterMove_19 : decode cX6_feudAfterMove 19 = .ok (.invokevirtual 70, 3) := by decide +kernel
theorem dX6_feudAfterMove_22 : decode cX6_feudAfterMove 22 = .ok (.invokevirtual 67, 3) := by decide +kernel
theorem dX6_feudAfterMove_25 : decode cX6_feudAfterMove 25 = .ok (.isub, 1) := by decide +kernel
theorem dX6_feudAfterMove_26 : decode cX6_feudAfterMove 26 = .ok (.ireturn, 1) := by decide +kernel
theorem dX6_bondsOf_0 : decode cX6_bondsOf 0 = .ok (.iconst 0, 1) := by decide +kernel
theorem dX6_bondsOf_1 : decode cX6_bondsOf 1 = .ok (.istore_n 2, 1) := by decide +kernel
theorem dX6_bondsOf_2 : decode cX6_bondsOf 2 = .ok (.iconst 0, 1) := by decide +kernel
theorem dX6_bondsOf_3 : decode cX6_bondsOf 3 = .ok (.istore_n 3, 1) := by decide +kernel
theorem dX6_bondsOf_4 : decode cX6_bondsOf 4 = .ok (.iload_n 3, 1) := by decide +kernel
theorem dX6_bondsOf_5 : decode cX6_bondsOf 5 = .ok (.aload_n 0, 1) := by decide +kernel
theorem dX6_bondsOf_6 : decode cX6_bondsOf 6 = .ok (.getfield 15, 3) := by decide +kernel
theorem dX6_bondsOf_9 : decode cX6_bondsOf 9 = .ok (.if_icmp .ge 21, 3) := by decide +kernel
theorem dX6_bondsOf_12 : decode cX6_bondsOf 12 = .ok (.aload_n 0, 1) := by decide +kernel
theorem dX6_bondsOf_13 : decode cX6_bondsOf 13 = .ok (.iload_n 1, 1) := by decide +kernel
theorem dX6_bondsOf_14 : decode cX6_bondsOf 14 = .ok (.iload_n 3, 1) := by decide +kernel
theorem dX6_bondsOf_15 : decode cX6_bondsOf 15 = .ok (.invokevirtual 56, 3) := by decide +kernel
theorem dX6_bondsOf_18 : decode cX6_bondsOf 18 = .ok (.ifCond .le 6, 3) := by decide +kernel
theorem dX6_bondsOf_21 : decode cX6_bondsOf 21 = .ok (.iinc 2 1, 3) := by decide +kernel
theorem dX6_bondsOf_24 : decode cX6_bondsOf 24 = .ok (.iinc 3 1, 3) := by decide +kernel
theorem dX6_bondsOf_27 : decode cX6_bondsOf 27 = .ok (.goto (-23), 3) := by decide +kernel
theorem dX6_bondsOf_30 : decode cX6_bondsOf 30 = .ok (.iload_n 2, 1) := by decide +kernel
theorem dX6_bondsOf_31 : decode cX6_bondsOf 31 = .ok (.ireturn, 1) := by decide +kernel
theorem dX6_closestTo_0 : decode cX6_closestTo 0 = .ok (.iconst (-1), 1) := by decide +kernel
theorem dX6_closestTo_1 : decode cX6_closestTo 1 = .ok (.istore_n 2, 1) := by decide +kernel
theorem dX6_closestTo_2 : decode cX6_closestTo 2 = .ok (.iconst 0, 1) := by decide +kernel
theorem dX6_closestTo_3 : decode cX6_closestTo 3 = .ok (.istore_n 3, 1) := by decide +kernel
theorem dX6_closestTo_4 : decode cX6_closestTo 4 = .ok (.iconst 0, 1) := by decide +kernel
theorem dX6_closestTo_5 : decode cX6_closestTo 5 = .ok (.istore 4, 2) := by decide +kernel
theorem dX6_closestTo_7 : decode cX6_closestTo 7 = .ok (.iload 4, 2) := by decide +kernel
theorem dX6_closestTo_9 : decode cX6_closestTo 9 = .ok (.aload_n 0, 1) := by decide +kernel
theorem dX6_closestTo_10 : decode cX6_closestTo 10 = .ok (.getfield 15, 3) := by decide +kernel
theorem dX6_closestTo_13 : decode cX6_closestTo 13 = .ok (.if_icmp .ge 31, 3) := by decide +kernel
theorem dX6_closestTo_16 : decode cX6_closestTo 16 = .ok (.aload_n 0, 1) := by decide +kernel
theorem dX6_closestTo_17 : decode cX6_closestTo 17 = .ok (.iload_n 1, 1) := by decide +kernel
theorem dX6_closestTo_18 : decode cX6_closestTo 18 = .ok (.iload 4, 2) := by decide +kernel
theorem dX6_closestTo_20 : decode cX6_closestTo 20 = .ok (.invokevirtual 56, 3) := by decide +kernel
theorem dX6_closestTo_23 : decode cX6_closestTo 23 = .ok (.iload_n 3, 1) := by decide +kernel
theorem dX6_closestTo_24 : decode cX6_closestTo 24 = .ok (.if_icmp .le 14, 3) := by decide +kernel
theorem dX6_closestTo_27 : decode cX6_closestTo 27 = .ok (.aload_n 0, 1) := by decide +kernel
theorem dX6_closestTo_28 : decode cX6_closestTo 28 = .ok (.iload_n 1, 1) := by decide +kernel
theorem dX6_closestTo_29 : decode cX6_closestTo 29 = .ok (.iload 4, 2) := by decide +kernel
theorem dX6_closestTo_31 : decode cX6_closestTo 31 = .ok (.invokevirtual 56, 3) := by decide +kernel
theorem dX6_closestTo_34 : decode cX6_closestTo 34 = .ok (.istore_n 3, 1) := by decide +kernel
theorem dX6_closestTo_35 : decode cX6_closestTo 35 = .ok (.iload 4, 2) := by decide +kernel
theorem dX6_closestTo_37 : decode cX6_closestTo 37 = .ok (.istore_n 2, 1) := by decide +kernel
theorem dX6_closestTo_38 : decode cX6_closestTo 38 = .ok (.iinc 4 1, 3) := by decide +kernel
theorem dX6_closestTo_41 : decode cX6_closestTo 41 = .ok (.goto (-34), 3) := by decide +kernel
theorem dX6_closestTo_44 : decode cX6_closestTo 44 = .ok (.iload_n 2, 1) := by decide +kernel
theorem dX6_closestTo_45 : decode cX6_closestTo 45 = .ok (.ireturn, 1) := by decide +kernel
theorem dX6_bondCount_0 : decode cX6_bondCount 0 = .ok (.iconst 0, 1) := by decide +kernel
theorem dX6_bondCount_1 : decode cX6_bondCount 1 = .ok (.istore_n 1, 1) := by decide +kernel
theorem dX6_bondCount_2 : decode cX6_bondCount 2 = .ok (.iconst 0, 1) := by decide +kernel
theorem dX6_bondCount_3 : decode cX6_bondCount 3 = .ok (.istore_n 2, 1) := by decide +kernel
theorem dX6_bondCount_4 : decode cX6_bondCount 4 = .ok (.iload_n 2, 1) := by decide +kernel
theorem dX6_bondCount_5 : decode cX6_bondCount 5 = .ok (.aload_n 0, 1) := by decide +kernel
theorem dX6_bondCount_6 : decode cX6_bondCount 6 = .ok (.getfield 15, 3) := by decide +kernel
theorem dX6_bondCount_9 : decode cX6_bondCount 9 = .ok (.if_icmp .ge 17, 3) := by decide +kernel
theorem dX6_bondCount_12 : decode cX6_bondCount 12 = .ok (.iload_n 1, 1) := by decide +kernel
theorem dX6_bondCount_13 : decode cX6_bondCount 13 = .ok (.aload_n 0, 1) := by decide +kernel
theorem dX6_bondCount_14 : decode cX6_bondCount 14 = .ok (.iload_n 2, 1) := by decide +kernel
theorem dX6_bondCount_15 : decode cX6_bondCount 15 = .ok (.invokevirtual 76, 3) := by decide +kernel
theorem dX6_bondCount_18 : decode cX6_bondCount 18 = .ok (.iadd, 1) := by decide +kernel
theorem dX6_bondCount_19 : decode cX6_bondCount 19 = .ok (.istore_n 1, 1) := by decide +kernel
theorem dX6_bondCount_20 : decode cX6_bondCount 20 = .ok (.iinc 2 1, 3) := by decide +kernel
theorem dX6_bondCount_23 : decode cX6_bondCount 23 = .ok (.goto (-19), 3) := by decide +kernel
theorem dX6_bondCount_26 : decode cX6_bondCount 26 = .ok (.iload_n 1, 1) := by decide +kernel
theorem dX6_bondCount_27 : decode cX6_bondCount 27 = .ok (.iconst 2, 1) := by decide +kernel
theorem dX6_bondCount_28 : decode cX6_bondCount 28 = .ok (.idiv, 1) := by decide +kernel
theorem dX6_bondCount_29 : decode cX6_bondCount 29 = .ok (.ireturn, 1) := by decide +kernel
theorem dX6_weightSum_0 : decode cX6_weightSum 0 = .ok (.iconst 0, 1) := by decide +kernel
theorem dX6_weightSum_1 : decode cX6_weightSum 1 = .ok (.istore_n 1, 1) := by decide +kernel
theorem dX6_weightSum_2 : decode cX6_weightSum 2 = .ok (.iconst 0, 1) := by decide +kernel
theorem dX6_weightSum_3 : decode cX6_weightSum 3 = .ok (.istore_n 2, 1) := by decide +kernel
theorem dX6_weightSum_4 : decode cX6_weightSum 4 = .ok (.iload_n 2, 1) := by decide +kernel
theorem dX6_weightSum_5 : decode cX6_weightSum 5 = .ok (.aload_n 0, 1) := by decide +kernel
theorem dX6_weightSum_6 : decode cX6_weightSum 6 = .ok (.getfield 15, 3) := by decide +kernel
theorem dX6_weightSum_9 : decode cX6_weightSum 9 = .ok (.if_icmp .ge 21, 3) := by decide +kernel
theorem dX6_weightSum_12 : decode cX6_weightSum 12 = .ok (.iload_n 1, 1) := by decide +kernel
theorem dX6_weightSum_13 : decode cX6_weightSum 13 = .ok (.aload_n 0, 1) := by decide +kernel
theorem dX6_weightSum_14 : decode cX6_weightSum 14 = .ok (.iload_n 2, 1) := by decide +kernel
theorem dX6_weightSum_15 : decode cX6_weightSum 15 = .ok (.aload_n 0, 1) := by decide +kernel
theorem dX6_weightSum_16 : decode cX6_weightSum 16 = .ok (.invokevirtual 37, 3) := by decide +kernel
theorem dX6_weightSum_19 : decode cX6_weightSum 19 = .ok (.invokevirtual 67, 3) := by decide +kernel
theorem dX6_weightSum_22 : decode cX6_weightSum 22 = .ok (.iadd, 1) := by decide +kernel
theorem dX6_weightSum_23 : decode cX6_weightSum 23 = .ok (.istore_n 1, 1) := by decide +kernel
theorem dX6_weightSum_24 : decode cX6_weightSum 24 = .ok (.iinc 2 1, 3) := by decide +kernel
theorem dX6_weightSum_27 : decode cX6_weightSum 27 = .ok (.goto (-23), 3) := by decide +kernel
theorem dX6_weightSum_30 : decode cX6_weightSum 30 = .ok (.iload_n 1, 1) := by decide +kernel
theorem dX6_weightSum_31 : decode cX6_weightSum 31 = .ok (.iconst 2, 1) := by decide +kernel
theorem dX6_weightSum_32 : decode cX6_weightSum 32 = .ok (.idiv, 1) := by decide +kernel
theorem dX6_weightSum_33 : decode cX6_weightSum 33 = .ok (.ireturn, 1) := by decide +kernel
theorem dX6_bondsAcross_0 : decode cX6_bondsAcross 0 = .ok (.iconst 0, 1) := by decide +kernel
theorem dX6_bondsAcross_1 : decode cX6_bondsAcross 1 = .ok (.istore_n 1, 1) := by decide +kernel
theorem dX6_bondsAcross_2 : decode cX6_bondsAcross 2 = .ok (.iconst 0, 1) := by decide +kernel
theorem dX6_bondsAcross_3 : decode cX6_bondsAcross 3 = .ok (.istore_n 2, 1) := by decide +kernel
theorem dX6_bondsAcross_4 : decode cX6_bondsAcross 4 = .ok (.iload_n 2, 1) := by decide +kernel
theorem dX6_bondsAcross_5 : decode cX6_bondsAcross 5 = .ok (.aload_n 0, 1) := by decide +kernel
theorem dX6_bondsAcross_6 : decode cX6_bondsAcross 6 = .ok (.getfield 15, 3) := by decide +kernel
theorem dX6_bondsAcross_9 : decode cX6_bondsAcross 9 = .ok (.if_icmp .ge 52, 3) := by decide +kernel
theorem dX6_bondsAcross_12 : decode cX6_bondsAcross 12 = .ok (.iload_n 2, 1) := by decide +kernel
theorem dX6_bondsAcross_13 : decode cX6_bondsAcross 13 = .ok (.iconst 1, 1) := by decide +kernel
theorem dX6_bondsAcross_14 : decode cX6_bondsAcross 14 = .ok (.iadd, 1) := by decide +kernel
theorem dX6_bondsAcross_15 : decode cX6_bondsAcross 15 = .ok (.istore_n 3, 1) := by decide +kernel
theorem dX6_bondsAcross_16 : decode cX6_bondsAcross 16 = .ok (.iload_n 3, 1) := by decide +kernel
theorem dX6_bondsAcross_17 : decode cX6_bondsAcross 17 = .ok (.aload_n 0, 1) := by decide +kernel
theorem dX6_bondsAcross_18 : decode cX6_bondsAcross 18 = .ok (.getfield 15, 3) := by decide +kernel
theorem dX6_bondsAcross_21 : decode cX6_bondsAcross 21 = .ok (.if_icmp .ge 34, 3) := by decide +kernel
theorem dX6_bondsAcross_24 : decode cX6_bondsAcross 24 = .ok (.aload_n 0, 1) := by decide +kernel
theorem dX6_bondsAcross_25 : decode cX6_bondsAcross 25 = .ok (.iload_n 2, 1) := by decide +kernel
theorem dX6_bondsAcross_26 : decode cX6_bondsAcross 26 = .ok (.invokevirtual 49, 3) := by decide +kernel
theorem dX6_bondsAcross_29 : decode cX6_bondsAcross 29 = .ok (.aload_n 0, 1) := by decide +kernel
theorem dX6_bondsAcross_30 : decode cX6_bondsAcross 30 = .ok (.iload_n 3, 1) := by decide +kernel
theorem dX6_bondsAcross_31 : decode cX6_bondsAcross 31 = .ok (.invokevirtual 49, 3) := by decide +kernel
theorem dX6_bondsAcross_34 : decode cX6_bondsAcross 34 = .ok (.if_icmp .eq 15, 3) := by decide +kernel
theorem dX6_bondsAcross_37 : decode cX6_bondsAcross 37 = .ok (.aload_n 0, 1) := by decide +kernel
theorem dX6_bondsAcross_38 : decode cX6_bondsAcross 38 = .ok (.iload_n 2, 1) := by decide +kernel
theorem dX6_bondsAcross_39 : decode cX6_bondsAcross 39 = .ok (.iload_n 3, 1) := by decide +kernel
theorem dX6_bondsAcross_40 : decode cX6_bondsAcross 40 = .ok (.invokevirtual 56, 3) := by decide +kernel
theorem dX6_bondsAcross_43 : decode cX6_bondsAcross 43 = .ok (.ifCond .le 6, 3) := by decide +kernel
theorem dX6_bondsAcross_46 : decode cX6_bondsAcross 46 = .ok (.iinc 1 1, 3) := by decide +kernel
theorem dX6_bondsAcross_49 : decode cX6_bondsAcross 49 = .ok (.iinc 3 1, 3) := by decide +kernel
theorem dX6_bondsAcross_52 : decode cX6_bondsAcross 52 = .ok (.goto (-36), 3) := by decide +kernel
theorem dX6_bondsAcross_55 : decode cX6_bondsAcross 55 = .ok (.iinc 2 1, 3) := by decide +kernel
theorem dX6_bondsAcross_58 : decode cX6_bondsAcross 58 = .ok (.goto (-54), 3) := by decide +kernel
theorem dX6_bondsAcross_61 : decode cX6_bondsAcross 61 = .ok (.iload_n 1, 1) := by decide +kernel
theorem dX6_bondsAcross_62 : decode cX6_bondsAcross 62 = .ok (.ireturn, 1) := by decide +kernel
theorem dX6_lonelyCount_0 : decode cX6_lonelyCount 0 = .ok (.iconst 0, 1) := by decide +kernel
theorem dX6_lonelyCount_1 : decode cX6_lonelyCount 1 = .ok (.istore_n 1, 1) := by decide +kernel
theorem dX6_lonelyCount_2 : decode cX6_lonelyCount 2 = .ok (.iconst 0, 1) := by decide +kernel
theorem dX6_lonelyCount_3 : decode cX6_lonelyCount 3 = .ok (.istore_n 2, 1) := by decide +kernel
theorem dX6_lonelyCount_4 : decode cX6_lonelyCount 4 = .ok (.iload_n 2, 1) := by decide +kernel
theorem dX6_lonelyCount_5 : decode cX6_lonelyCount 5 = .ok (.aload_n 0, 1) := by decide +kernel
theorem dX6_lonelyCount_6 : decode cX6_lonelyCount 6 = .ok (.getfield 15, 3) := by decide +kernel
theorem dX6_lonelyCount_9 : decode cX6_lonelyCount 9 = .ok (.if_icmp .ge 20, 3) := by decide +kernel
theorem dX6_lonelyCount_12 : decode cX6_lonelyCount 12 = .ok (.aload_n 0, 1) := by decide +kernel
theorem dX6_lonelyCount_13 : decode cX6_lonelyCount 13 = .ok (.iload_n 2, 1) := by decide +kernel
theorem dX6_lonelyCount_14 : decode cX6_lonelyCount 14 = .ok (.invokevirtual 76, 3) := by decide +kernel
theorem dX6_lonelyCount_17 : decode cX6_lonelyCount 17 = .ok (.ifCond .ne 6, 3) := by decide +kernel
theorem dX6_lonelyCount_20 : decode cX6_lonelyCount 20 = .ok (.iinc 1 1, 3) := by decide +kernel
theorem dX6_lonelyCount_23 : decode cX6_lonelyCount 23 = .ok (.iinc 2 1, 3) := by decide +kernel
theorem dX6_lonelyCount_26 : decode cX6_lonelyCount 26 = .ok (.goto (-22), 3) := by decide +kernel
theorem dX6_lonelyCount_29 : decode cX6_lonelyCount 29 = .ok (.iload_n 1, 1) := by decide +kernel
theorem dX6_lonelyCount_30 : decode cX6_lonelyCount 30 = .ok (.ireturn, 1) := by decide +kernel
theorem dX6_bondByIndex_0 : decode cX6_bondByIndex 0 = .ok (.iconst 0, 1) := by decide +kernel
theorem dX6_bondByIndex_1 : decode cX6_bondByIndex 1 = .ok (.istore_n 2, 1) := by decide +kernel
theorem dX6_bondByIndex_2 : decode cX6_bondByIndex 2 = .ok (.iconst 0, 1) := by decide +kernel
theorem dX6_bondByIndex_3 : decode cX6_bondByIndex 3 = .ok (.istore_n 3, 1) := by decide +kernel
theorem dX6_bondByIndex_4 : decode cX6_bondByIndex 4 = .ok (.iload_n 3, 1) := by decide +kernel
theorem dX6_bondByIndex_5 : decode cX6_bondByIndex 5 = .ok (.aload_n 0, 1) := by decide +kernel
theorem dX6_bondByIndex_6 : decode cX6_bondByIndex 6 = .ok (.getfield 15, 3) := by decide +kernel
theorem dX6_bondByIndex_9 : decode cX6_bondByIndex 9 = .ok (.if_icmp .ge 55, 3) := by decide +kernel
theorem dX6_bondByIndex_12 : decode cX6_bondByIndex 12 = .ok (.iload_n 3, 1) := by decide +kernel
theorem dX6_bondByIndex_13 : decode cX6_bondByIndex 13 = .ok (.iconst 1, 1) := by decide +kernel
theorem dX6_bondByIndex_14 : decode cX6_bondByIndex 14 = .ok (.iadd, 1) := by decide +kernel
theorem dX6_bondByIndex_15 : decode cX6_bondByIndex 15 = .ok (.istore 4, 2) := by decide +kernel
theorem dX6_bondByIndex_17 : decode cX6_bondByIndex 17 = .ok (.iload 4, 2) := by decide +kernel
theorem dX6_bondByIndex_19 : decode cX6_bondByIndex 19 = .ok (.aload_n 0, 1) := by decide +kernel
theorem dX6_bondByIndex_20 : decode cX6_bondByIndex 20 = .ok (.getfield 15, 3) := by decide +kernel
theorem dX6_bondByIndex_23 : decode cX6_bondByIndex 23 = .ok (.if_icmp .ge 35, 3) := by decide +kernel
theorem dX6_bondByIndex_26 : decode cX6_bondByIndex 26 = .ok (.aload_n 0, 1) := by decide +kernel
theorem dX6_bondByIndex_27 : decode cX6_bondByIndex 27 = .ok (.iload_n 3, 1) := by decide +kernel
theorem dX6_bondByIndex_28 : decode cX6_bondByIndex 28 = .ok (.iload 4, 2) := by decide +kernel
theorem dX6_bondByIndex_30 : decode cX6_bondByIndex 30 = .ok (.invokevirtual 56, 3) := by decide +kernel
theorem dX6_bondByIndex_33 : decode cX6_bondByIndex 33 = .ok (.ifCond .le 19, 3) := by decide +kernel
theorem dX6_bondByIndex_36 : decode cX6_bondByIndex 36 = .ok (.iload_n 2, 1) := by decide +kernel
theorem dX6_bondByIndex_37 : decode cX6_bondByIndex 37 = .ok (.iload_n 1, 1) := by decide +kernel
theorem dX6_bondByIndex_38 : decode cX6_bondByIndex 38 = .ok (.if_icmp .ne 11, 3) := by decide +kernel
theorem dX6_bondByIndex_41 : decode cX6_bondByIndex 41 = .ok (.bipush 10, 2) := by decide +kernel
theorem dX6_bondByIndex_43 : decode cX6_bondByIndex 43 = .ok (.iload_n 3, 1) := by decide +kernel
theorem dX6_bondByIndex_44 : decode cX6_bondByIndex 44 = .ok (.imul, 1) := by decide +kernel
theorem dX6_bondByIndex_45 : decode cX6_bondByIndex 45 = .ok (.iload 4, 2) := by decide +kernel
theorem dX6_bondByIndex_47 : decode cX6_bondByIndex 47 = .ok (.iadd, 1) := by decide +kernel
theorem dX6_bondByIndex_48 : decode cX6_bondByIndex 48 = .ok (.ireturn, 1) := by decide +kernel
theorem dX6_bondByIndex_49 : decode cX6_bondByIndex 49 = .ok (.iinc 2 1, 3) := by decide +kernel
theorem dX6_bondByIndex_52 : decode cX6_bondByIndex 52 = .ok (.iinc 4 1, 3) := by decide +kernel
theorem dX6_bondByIndex_55 : decode cX6_bondByIndex 55 = .ok (.goto (-38), 3) := by decide +kernel
theorem dX6_bondByIndex_58 : decode cX6_bondByIndex 58 = .ok (.iinc 3 1, 3) := by decide +kernel
theorem dX6_bondByIndex_61 : decode cX6_bondByIndex 61 = .ok (.goto (-57), 3) := by decide +kernel
theorem dX6_bondByIndex_64 : decode cX6_bondByIndex 64 = .ok (.iconst (-1), 1) := by decide +kernel
theorem dX6_bondByIndex_65 : decode cX6_bondByIndex 65 = .ok (.ireturn, 1) := by decide +kernel
theorem dX6_heaviestBond_0 : decode cX6_heaviestBond 0 = .ok (.iconst (-1), 1) := by decide +kernel
theorem dX6_heaviestBond_1 : decode cX6_heaviestBond 1 = .ok (.istore_n 1, 1) := by decide +kernel
theorem dX6_heaviestBond_2 : decode cX6_heaviestBond 2 = .ok (.iconst 0, 1) := by decide +kernel
theorem dX6_heaviestBond_3 : decode cX6_heaviestBond 3 = .ok (.istore_n 2, 1) := by decide +kernel
theorem dX6_heaviestBond_4 : decode cX6_heaviestBond 4 = .ok (.iconst 0, 1) := by decide +kernel
theorem dX6_heaviestBond_5 : decode cX6_heaviestBond 5 = .ok (.istore_n 3, 1) := by decide +kernel
theorem dX6_heaviestBond_6 : decode cX6_heaviestBond 6 = .ok (.iload_n 3, 1) := by decide +kernel
theorem dX6_heaviestBond_7 : decode cX6_heaviestBond 7 = .ok (.aload_n 0, 1) := by decide +kernel
theorem dX6_heaviestBond_8 : decode cX6_heaviestBond 8 = .ok (.getfield 15, 3) := by decide +kernel
theorem dX6_heaviestBond_11 : decode cX6_heaviestBond 11 = .ok (.if_icmp .ge 56, 3) := by decide +kernel
theorem dX6_heaviestBond_14 : decode cX6_heaviestBond 14 = .ok (.iload_n 3, 1) := by decide +kernel
theorem dX6_heaviestBond_15 : decode cX6_heaviestBond 15 = .ok (.iconst 1, 1) := by decide +kernel
theorem dX6_heaviestBond_16 : decode cX6_heaviestBond 16 = .ok (.iadd, 1) := by decide +kernel
theorem dX6_heaviestBond_17 : decode cX6_heaviestBond 17 = .ok (.istore 4, 2) := by decide +kernel
theorem dX6_heaviestBond_19 : decode cX6_heaviestBond 19 = .ok (.iload 4, 2) := by decide +kernel
theorem dX6_heaviestBond_21 : decode cX6_heaviestBond 21 = .ok (.aload_n 0, 1) := by decide +kernel
theorem dX6_heaviestBond_22 : decode cX6_heaviestBond 22 = .ok (.getfield 15, 3) := by decide +kernel
theorem dX6_heaviestBond_25 : decode cX6_heaviestBond 25 = .ok (.if_icmp .ge 36, 3) := by decide +kernel
theorem dX6_heaviestBond_28 : decode cX6_heaviestBond 28 = .ok (.aload_n 0, 1) := by decide +kernel
theorem dX6_heaviestBond_29 : decode cX6_heaviestBond 29 = .ok (.iload_n 3, 1) := by decide +kernel
theorem dX6_heaviestBond_30 : decode cX6_heaviestBond 30 = .ok (.iload 4, 2) := by decide +kernel
theorem dX6_heaviestBond_32 : decode cX6_heaviestBond 32 = .ok (.invokevirtual 56, 3) := by decide +kernel
theorem dX6_heaviestBond_35 : decode cX6_heaviestBond 35 = .ok (.iload_n 2, 1) := by decide +kernel
theorem dX6_heaviestBond_36 : decode cX6_heaviestBond 36 = .ok (.if_icmp .le 19, 3) := by decide +kernel
theorem dX6_heaviestBond_39 : decode cX6_heaviestBond 39 = .ok (.aload_n 0, 1) := by decide +kernel
theorem dX6_heaviestBond_40 : decode cX6_heaviestBond 40 = .ok (.iload_n 3, 1) := by decide +kernel
theorem dX6_heaviestBond_41 : decode cX6_heaviestBond 41 = .ok (.iload 4, 2) := by decide +kernel
theorem dX6_heaviestBond_43 : decode cX6_heaviestBond 43 = .ok (.invokevirtual 56, 3) := by decide +kernel
theorem dX6_heaviestBond_46 : decode cX6_heaviestBond 46 = .ok (.istore_n 2, 1) := by decide +kernel
theorem dX6_heaviestBond_47 : decode cX6_heaviestBond 47 = .ok (.bipush 10, 2) := by decide +kernel
theorem dX6_heaviestBond_49 : decode cX6_heaviestBond 49 = .ok (.iload_n 3, 1) := by decide +kernel
theorem dX6_heaviestBond_50 : decode cX6_heaviestBond 50 = .ok (.imul, 1) := by decide +kernel
theorem dX6_heaviestBond_51 : decode cX6_heaviestBond 51 = .ok (.iload 4, 2) := by decide +kernel
theorem dX6_heaviestBond_53 : decode cX6_heaviestBond 53 = .ok (.iadd, 1) := by decide +kernel
theorem dX6_heaviestBond_54 : decode cX6_heaviestBond 54 = .ok (.istore_n 1, 1) := by decide +kernel
theorem dX6_heaviestBond_55 : decode cX6_heaviestBond 55 = .ok (.iinc 4 1, 3) := by decide +kernel
theorem dX6_heaviestBond_58 : decode cX6_heaviestBond 58 = .ok (.goto (-39), 3) := by decide +kernel
theorem dX6_heaviestBond_61 : decode cX6_heaviestBond 61 = .ok (.iinc 3 1, 3) := by decide +kernel
theorem dX6_heaviestBond_64 : decode cX6_heaviestBond 64 = .ok (.goto (-58), 3) := by decide +kernel
theorem dX6_heaviestBond_67 : decode cX6_heaviestBond 67 = .ok (.iload_n 1, 1) := by decide +kernel
theorem dX6_heaviestBond_68 : decode cX6_heaviestBond 68 = .ok (.ireturn, 1) := by decide +kernel
theorem dX6_reachOf_0 : decode cX6_reachOf 0 = .ok (.iconst 1, 1) := by decide +kernel
theorem dX6_reachOf_1 : decode cX6_reachOf 1 = .ok (.iload_n 1, 1) := by decide +kernel
theorem dX6_reachOf_2 : decode cX6_reachOf 2 = .ok (.ishl, 1) := by decide +kernel
theorem dX6_reachOf_3 : decode cX6_reachOf 3 = .ok (.istore_n 2, 1) := by decide +kernel
theorem dX6_reachOf_4 : decode cX6_reachOf 4 = .ok (.iconst 0, 1) := by decide +kernel
theorem dX6_reachOf_5 : decode cX6_reachOf 5 = .ok (.istore_n 3, 1) := by decide +kernel
theorem dX6_reachOf_6 : decode cX6_reachOf 6 = .ok (.iload_n 3, 1) := by decide +kernel
theorem dX6_reachOf_7 : decode cX6_reachOf 7 = .ok (.aload_n 0, 1) := by decide +kernel
theorem dX6_reachOf_8 : decode cX6_reachOf 8 = .ok (.getfield 15, 3) := by decide +kernel
theorem dX6_reachOf_11 : decode cX6_reachOf 11 = .ok (.if_icmp .ge 44, 3) := by decide +kernel
theorem dX6_reachOf_14 : decode cX6_reachOf 14 = .ok (.iconst 0, 1) := by decide +kernel
theorem dX6_reachOf_15 : decode cX6_reachOf 15 = .ok (.istore 4, 2) := by decide +kernel
theorem dX6_reachOf_17 : decode cX6_reachOf 17 = .ok (.iload 4, 2) := by decide +kernel
theorem dX6_reachOf_19 : decode cX6_reachOf 19 = .ok (.aload_n 0, 1) := by decide +kernel
theorem dX6_reachOf_20 : decode cX6_reachOf 20 = .ok (.getfield 15, 3) := by decide +kernel
theorem dX6_reachOf_23 : decode cX6_reachOf 23 = .ok (.if_icmp .ge 26, 3) := by decide +kernel
theorem dX6_reachOf_26 : decode cX6_reachOf 26 = .ok (.aload_n 0, 1) := by decide +kernel
theorem dX6_reachOf_27 : decode cX6_reachOf 27 = .ok (.iload 4, 2) := by decide +kernel
theorem dX6_reachOf_29 : decode cX6_reachOf 29 = .ok (.iload_n 2, 1) := by decide +kernel
theorem dX6_reachOf_30 : decode cX6_reachOf 30 = .ok (.invokevirtual 67, 3) := by decide +kernel
theorem dX6_reachOf_33 : decode cX6_reachOf 33 = .ok (.ifCond .le 10, 3) := by decide +kernel
theorem dX6_reachOf_36 : decode cX6_reachOf 36 = .ok (.iload_n 2, 1) := by decide +kernel
theorem dX6_reachOf_37 : decode cX6_reachOf 37 = .ok (.iconst 1, 1) := by decide +kernel
theorem dX6_reachOf_38 : decode cX6_reachOf 38 = .ok (.iload 4, 2) := by decide +kernel
theorem dX6_reachOf_40 : decode cX6_reachOf 40 = .ok (.ishl, 1) := by decide +kernel
theorem dX6_reachOf_41 : decode cX6_reachOf 41 = .ok (.ior, 1) := by decide +kernel
theorem dX6_reachOf_42 : decode cX6_reachOf 42 = .ok (.istore_n 2, 1) := by decide +kernel
theorem dX6_reachOf_43 : decode cX6_reachOf 43 = .ok (.iinc 4 1, 3) := by decide +kernel
theorem dX6_reachOf_46 : decode cX6_reachOf 46 = .ok (.goto (-29), 3) := by decide +kernel
theorem dX6_reachOf_49 : decode cX6_reachOf 49 = .ok (.iinc 3 1, 3) := by decide +kernel
theorem dX6_reachOf_52 : decode cX6_reachOf 52 = .ok (.goto (-46), 3) := by decide +kernel
theorem dX6_reachOf_55 : decode cX6_reachOf 55 = .ok (.iload_n 2, 1) := by decide +kernel
theorem dX6_reachOf_56 : decode cX6_reachOf 56 = .ok (.ireturn, 1) := by decide +kernel
theorem dX7_init_0 : decode cX7_init 0 = .ok (.aload_n 0, 1) := by decide +kernel
theorem dX7_init_1 : decode cX7_init 1 = .ok (.invokespecial 3, 3) := by decide +kernel
theorem dX7_init_4 : decode cX7_init 4 = .ok (.aload_n 0, 1) := by decide +kernel
theorem dX7_init_5 : decode cX7_init 5 = .ok (.new 9, 3) := by decide +kernel
theorem dX7_init_8 : decode cX7_init 8 = .ok (.dup, 1) := by decide +kernel
theorem dX7_init_9 : decode cX7_init 9 = .ok (.invokespecial 11, 3) := by decide +kernel
theorem dX7_init_12 : decode cX7_init 12 = .ok (.putfield 12, 3) := by decide +kernel
theorem dX7_init_15 : decode cX7_init 15 = .ok (.aload_n 0, 1) := by decide +kernel
theorem dX7_init_16 : decode cX7_init 16 = .ok (.new 9, 3) := by decide +kernel
theorem dX7_init_19 : decode cX7_init 19 = .ok (.dup, 1) := by decide +kernel
theorem dX7_init_20 : decode cX7_init 20 = .ok (.invokespecial 11, 3) := by decide +kernel
theorem dX7_init_23 : decode cX7_init 23 = .ok (.putfield 16, 3) := by decide +kernel
theorem dX7_init_26 : decode cX7_init 26 = .ok (.aload_n 0, 1) := by decide +kernel
theorem dX7_init_27 : decode cX7_init 27 = .ok (.new 9, 3) := by decide +kernel
theorem dX7_init_30 : decode cX7_init 30 = .ok (.dup, 1) := by decide +kernel
theorem dX7_init_31 : decode cX7_init 31 = .ok (.invokespecial 11, 3) := by decide +kernel
theorem dX7_init_34 : decode cX7_init 34 = .ok (.putfield 19, 3) := by decide +kernel
theorem dX7_init_37 : decode cX7_init 37 = .ok (.aload_n 0, 1) := by decide +kernel
theorem dX7_init_38 : decode cX7_init 38 = .ok (.new 22, 3) := by decide +kernel
theorem dX7_init_41 : decode cX7_init 41 = .ok (.dup, 1) := by decide +kernel
theorem dX7_init_42 : decode cX7_init 42 = .ok (.invokespecial 24, 3) := by decide +kernel
theorem dX7_init_45 : decode cX7_init 45 = .ok (.putfield 25, 3) := by decide +kernel
theorem dX7_init_48 : decode cX7_init 48 = .ok (.aload_n 0, 1) := by decide +kernel
theorem dX7_init_49 : decode cX7_init 49 = .ok (.new 29, 3) := by decide +kernel
theorem dX7_init_52 : decode cX7_init 52 = .ok (.dup, 1) := by decide +kernel
theorem dX7_init_53 : decode cX7_init 53 = .ok (.invokespecial 31, 3) := by decide +kernel
theorem dX7_init_56 : decode cX7_init 56 = .ok (.putfield 32, 3) := by decide +kernel
theorem dX7_init_59 : decode cX7_init 59 = .ok (.aload_n 0, 1) := by decide +kernel
theorem dX7_init_60 : decode cX7_init 60 = .ok (.new 36, 3) := by decide +kernel
theorem dX7_init_63 : decode cX7_init 63 = .ok (.dup, 1) := by decide +kernel
theorem dX7_init_64 : decode cX7_init 64 = .ok (.invokespecial 38, 3) := by decide +kernel
theorem dX7_init_67 : decode cX7_init 67 = .ok (.putfield 39, 3) := by decide +kernel
theorem dX7_init_70 : decode cX7_init 70 = .ok (.aload_n 0, 1) := by decide +kernel
theorem dX7_init_71 : decode cX7_init 71 = .ok (.new 43, 3) := by decide +kernel
theorem dX7_init_74 : decode cX7_init 74 = .ok (.dup, 1) := by decide +kernel
theorem dX7_init_75 : decode cX7_init 75 = .ok (.invokespecial 45, 3) := by decide +kernel
theorem dX7_init_78 : decode cX7_init 78 = .ok (.putfield 46, 3) := by decide +kernel
theorem dX7_init_81 : decode cX7_init 81 = .ok (.aload_n 0, 1) := by decide +kernel
theorem dX7_init_82 : decode cX7_init 82 = .ok (.new 50, 3) := by decide +kernel
theorem dX7_init_85 : decode cX7_init 85 = .ok (.dup, 1) := by decide +kernel
theorem dX7_init_86 : decode cX7_init 86 = .ok (.invokespecial 52, 3) := by decide +kernel
theorem dX7_init_89 : decode cX7_init 89 = .ok (.putfield 53, 3) := by decide +kernel
theorem dX7_init_92 : decode cX7_init 92 = .ok (.aload_n 0, 1) := by decide +kernel
theorem dX7_init_93 : decode cX7_init 93 = .ok (.new 57, 3) := by decide +kernel
theorem dX7_init_96 : decode cX7_init 96 = .ok (.dup, 1) := by decide +kernel
theorem dX7_init_97 : decode cX7_init 97 = .ok (.invokespecial 59, 3) := by decide +kernel
theorem dX7_init_100 : decode cX7_init 100 = .ok (.putfield 60, 3) := by decide +kernel
theorem dX7_init_103 : decode cX7_init 103 = .ok (.aload_n 0, 1) := by decide +kernel
theorem dX7_init_104 : decode cX7_init 104 = .ok (.new 64, 3) := by decide +kernel
theorem dX7_init_107 : decode cX7_init 107 = .ok (.dup, 1) := by decide +kernel
theorem dX7_init_108 : decode cX7_init 108 = .ok (.invokespecial 66, 3) := by decide +kernel
theorem dX7_init_111 : decode cX7_init 111 = .ok (.putfield 67, 3) := by decide +kernel
theorem dX7_init_114 : decode cX7_init 114 = .ok (.aload_n 0, 1) := by decide +kernel
theorem dX7_init_115 : decode cX7_init 115 = .ok (.bipush 9, 2) := by decide +kernel
theorem dX7_init_117 : decode cX7_init 117 = .ok (.newarray .int, 2) := by decide +kernel
theorem dX7_init_119 : decode cX7_init 119 = .ok (.putfield 71, 3) := by decide +kernel
theorem dX7_init_122 : decode cX7_init 122 = .ok (.aload_n 0, 1) := by decide +kernel
theorem dX7_init_123 : decode cX7_init 123 = .ok (.aconst_null, 1) := by decide +kernel
theorem dX7_init_124 : decode cX7_init 124 = .ok (.putfield 75, 3) := by decide +kernel
theorem dX7_init_127 : decode cX7_init 127 = .ok (.return_, 1) := by decide +kernel
theorem dX7_household_0 : decode cX7_household 0 = .ok (.aload_n 0, 1) := by decide +kernel
theorem dX7_household_1 : decode cX7_household 1 = .ok (.iconst 0, 1) := by decide +kernel
theorem dX7_household_2 : decode cX7_household 2 = .ok (.iconst 0, 1) := by decide +kernel
theorem dX7_household_3 : decode cX7_household 3 = .ok (.iconst 0, 1) := by decide +kernel
theorem dX7_household_4 : decode cX7_household 4 = .ok (.iconst 0, 1) := by decide +kernel
theorem dX7_household_5 : decode cX7_household 5 = .ok (.invokevirtual 78, 3) := by decide +kernel
theorem dX7_household_8 : decode cX7_household 8 = .ok (.ifCond .eq 13, 3) := by decide +kernel
theorem dX7_household_11 : decode cX7_household 11 = .ok (.new 82, 3) := by decide +kernel
theorem dX7_household_14 : decode cX7_household 14 = .ok (.dup, 1) := by decide +kernel
theorem dX7_household_15 : decode cX7_household 15 = .ok (.ldc 84, 2) := by decide +kernel
theorem dX7_household_17 : decode cX7_household 17 = .ok (.invokespecial 86, 3) := by decide +kernel
theorem dX7_household_20 : decode cX7_household 20 = .ok (.athrow, 1) := by decide +kernel
theorem dX7_household_21 : decode cX7_household 21 = .ok (.aload_n 0, 1) := by decide +kernel
theorem dX7_household_22 : decode cX7_household 22 = .ok (.iconst 0, 1) := by decide +kernel
theorem dX7_household_23 : decode cX7_household 23 = .ok (.iconst 0, 1) := by decide +kernel
theorem dX7_household_24 : decode cX7_household 24 = .ok (.iconst 0, 1) := by decide +kernel
theorem dX7_household_25 : decode cX7_household 25 = .ok (.iconst 0, 1) := by decide +kernel
theorem dX7_household_26 : decode cX7_household 26 = .ok (.invokevirtual 89, 3) := by decide +kernel
theorem dX7_household_29 : decode cX7_household 29 = .ok (.ireturn, 1) := by decide +kernel
theorem dX7_leave_0 : decode cX7_leave 0 = .ok (.aload_n 0, 1) := by decide +kernel
theorem dX7_leave_1 : decode cX7_leave 1 = .ok (.iconst 1, 1) := by decide +kernel
theorem dX7_leave_2 : decode cX7_leave 2 = .ok (.iload_n 1, 1) := by decide +kernel
theorem dX7_leave_3 : decode cX7_leave 3 = .ok (.iconst 0, 1) := by decide +kernel
theorem dX7_leave_4 : decode cX7_leave 4 = .ok (.iconst 0, 1) := by decide +kernel
theorem dX7_leave_5 : decode cX7_leave 5 = .ok (.invokevirtual 78, 3) := by decide +kernel
theorem dX7_leave_8 : decode cX7_leave 8 = .ok (.ifCond .eq 13, 3) := by decide +kernel
theorem dX7_leave_11 : decode cX7_leave 11 = .ok (.new 82, 3) := by decide +kernel
theorem dX7_leave_14 : decode cX7_leave 14 = .ok (.dup, 1) := by decide +kernel
theorem dX7_leave_15 : decode cX7_leave 15 = .ok (.ldc 93, 2) := by decide +kernel
theorem dX7_leave_17 : decode cX7_leave 17 = .ok (.invokespecial 86, 3) := by decide +kernel
theorem dX7_leave_20 : decode cX7_leave 20 = .ok (.athrow, 1) := by decide +kernel
theorem dX7_leave_21 : decode cX7_leave 21 = .ok (.aload_n 0, 1) := by decide +kernel
theorem dX7_leave_22 : decode cX7_leave 22 = .ok (.iconst 1, 1) := by decide +kernel
theorem dX7_leave_23 : decode cX7_leave 23 = .ok (.iload_n 1, 1) := by decide +kernel
theorem dX7_leave_24 : decode cX7_leave 24 = .ok (.iconst 0, 1) := by decide +kernel
theorem dX7_leave_25 : decode cX7_leave 25 = .ok (.iconst 0, 1) := by decide +kernel
theorem dX7_leave_26 : decode cX7_leave 26 = .ok (.invokevirtual 89, 3) := by decide +kernel
theorem dX7_leave_29 : decode cX7_leave 29 = .ok (.ireturn, 1) := by decide +kernel
theorem dX7_bond_0 : decode cX7_bond 0 = .ok (.aload_n 0, 1) := by decide +kernel
theorem dX7_bond_1 : decode cX7_bond 1 = .ok (.iconst 2, 1) := by decide +kernel
theorem dX7_bond_2 : decode cX7_bond 2 = .ok (.iload_n 1, 1) := by decide +kernel
theorem dX7_bond_3 : decode cX7_bond 3 = .ok (.iload_n 2, 1) := by decide +kernel
theorem dX7_bond_4 : decode cX7_bond 4 = .ok (.iload_n 3, 1) := by decide +kernel
theorem dX7_bond_5 : decode cX7_bond 5 = .ok (.invokevirtual 78, 3) := by decide +kernel
theorem dX7_bond_8 : decode cX7_bond 8 = .ok (.ifCond .eq 13, 3) := by decide +kernel
theorem dX7_bond_11 : decode cX7_bond 11 = .ok (.new 82, 3) := by decide +kernel
theorem dX7_bond_14 : decode cX7_bond 14 = .ok (.dup, 1) := by decide +kernel
theorem dX7_bond_15 : decode cX7_bond 15 = .ok (.ldc 95, 2) := by decide +kernel
theorem dX7_bond_17 : decode cX7_bond 17 = .ok (.invokespecial 86, 3) := by decide +kernel
theorem dX7_bond_20 : decode cX7_bond 20 = .ok (.athrow, 1) := by decide +kernel
theorem dX7_bond_21 : decode cX7_bond 21 = .ok (.aload_n 0, 1) := by decide +kernel
theorem dX7_bond_22 : decode cX7_bond 22 = .ok (.iconst 2, 1) := by decide +kernel
theorem dX7_bond_23 : decode cX7_bond 23 = .ok (.iload_n 1, 1) := by decide +kernel
theorem dX7_bond_24 : decode cX7_bond 24 = .ok (.iload_n 2, 1) := by decide +kernel
theorem dX7_bond_25 : decode cX7_bond 25 = .ok (.iload_n 3, 1) := by decide +kernel
theorem dX7_bond_26 : decode cX7_bond 26 = .ok (.invokevirtual 89, 3) := by decide +kernel
theorem dX7_bond_29 : decode cX7_bond 29 = .ok (.ireturn, 1) := by decide +kernel
theorem dX7_loosen_0 : decode cX7_loosen 0 = .ok (.aload_n 0, 1) := by decide +kernel
theorem dX7_loosen_1 : decode cX7_loosen 1 = .ok (.iconst 3, 1) := by decide +kernel
theorem dX7_loosen_2 : decode cX7_loosen 2 = .ok (.iload_n 1, 1) := by decide +kernel
theorem dX7_loosen_3 : decode cX7_loosen 3 = .ok (.iload_n 2, 1) := by decide +kernel
theorem dX7_loosen_4 : decode cX7_loosen 4 = .ok (.iconst 0, 1) := by decide +kernel
theorem dX7_loosen_5 : decode cX7_loosen 5 = .ok (.invokevirtual 78, 3) := by decide +kernel
theorem dX7_loosen_8 : decode cX7_loosen 8 = .ok (.ifCond .eq 13, 3) := by decide +kernel
theorem dX7_loosen_11 : decode cX7_loosen 11 = .ok (.new 82, 3) := by decide +kernel
theorem dX7_loosen_14 : decode cX7_loosen 14 = .ok (.dup, 1) := by decide +kernel
theorem dX7_loosen_15 : decode cX7_loosen 15 = .ok (.ldc 97, 2) := by decide +kernel
theorem dX7_loosen_17 : decode cX7_loosen 17 = .ok (.invokespecial 86, 3) := by decide +kernel
theorem dX7_loosen_20 : decode cX7_loosen 20 = .ok (.athrow, 1) := by decide +kernel
theorem dX7_loosen_21 : decode cX7_loosen 21 = .ok (.aload_n 0, 1) := by decide +kernel
theorem dX7_loosen_22 : decode cX7_loosen 22 = .ok (.iconst 3, 1) := by decide +kernel
theorem dX7_loosen_23 : decode cX7_loosen 23 = .ok (.iload_n 1, 1) := by decide +kernel
theorem dX7_loosen_24 : decode cX7_loosen 24 = .ok (.iload_n 2, 1) := by decide +kernel
theorem dX7_loosen_25 : decode cX7_loosen 25 = .ok (.iconst 0, 1) := by decide +kernel
theorem dX7_loosen_26 : decode cX7_loosen 26 = .ok (.invokevirtual 89, 3) := by decide +kernel
theorem dX7_loosen_29 : decode cX7_loosen 29 = .ok (.ireturn, 1) := by decide +kernel
theorem dX7_marry_0 : decode cX7_marry 0 = .ok (.aload_n 0, 1) := by decide +kernel
theorem dX7_marry_1 : decode cX7_marry 1 = .ok (.iconst 4, 1) := by decide +kernel
theorem dX7_marry_2 : decode cX7_marry 2 = .ok (.iload_n 1, 1) := by decide +kernel
theorem dX7_marry_3 : decode cX7_marry 3 = .ok (.iload_n 2, 1) := by decide +kernel
theorem dX7_marry_4 : decode cX7_marry 4 = .ok (.iconst 0, 1) := by decide +kernel
theorem dX7_marry_5 : decode cX7_marry 5 = .ok (.invokevirtual 78, 3) := by decide +kernel
theorem dX7_marry_8 : decode cX7_marry 8 = .ok (.ifCond .eq 13, 3) := by decide +kernel
theorem dX7_marry_11 : decode cX7_marry 11 = .ok (.new 82, 3) := by decide +kernel
theorem dX7_marry_14 : decode cX7_marry 14 = .ok (.dup, 1) := by decide +kernel
theorem dX7_marry_15 : decode cX7_marry 15 = .ok (.ldc 99, 2) := by decide +kernel
theorem dX7_marry_17 : decode cX7_marry 17 = .ok (.invokespecial 86, 3) := by decide +kernel
theorem dX7_marry_20 : decode cX7_marry 20 = .ok (.athrow, 1) := by decide +kernel
theorem dX7_marry_21 : decode cX7_marry 21 = .ok (.aload_n 0, 1) := by decide +kernel
theorem dX7_marry_22 : decode cX7_marry 22 = .ok (.iconst 4, 1) := by decide +kernel
theorem dX7_marry_23 : decode cX7_marry 23 = .ok (.iload_n 1, 1) := by decide +kernel
theorem dX7_marry_24 : decode cX7_marry 24 = .ok (.iload_n 2, 1) := by decide +kernel
theorem dX7_marry_25 : decode cX7_marry 25 = .ok (.iconst 0, 1) := by decide +kernel
theorem dX7_marry_26 : decode cX7_marry 26 = .ok (.invokevirtual 89, 3) := by decide +kernel
theorem dX7_marry_29 : decode cX7_marry 29 = .ok (.ireturn, 1) := by decide +kernel
theorem dX7_stand_0 : decode cX7_stand 0 = .ok (.aload_n 0, 1) := by decide +kernel
theorem dX7_stand_1 : decode cX7_stand 1 = .ok (.iconst 5, 1) := by decide +kernel
theorem dX7_stand_2 : decode cX7_stand 2 = .ok (.iload_n 1, 1) := by decide +kernel
theorem dX7_stand_3 : decode cX7_stand 3 = .ok (.iload_n 2, 1) := by decide +kernel
theorem dX7_stand_4 : decode cX7_stand 4 = .ok (.iconst 0, 1) := by decide +kernel
theorem dX7_stand_5 : decode cX7_stand 5 = .ok (.invokevirtual 78, 3) := by decide +kernel
theorem dX7_stand_8 : decode cX7_stand 8 = .ok (.ifCond .eq 13, 3) := by decide +kernel
theorem dX7_stand_11 : decode cX7_stand 11 = .ok (.new 82, 3) := by decide +kernel
theorem dX7_stand_14 : decode cX7_stand 14 = .ok (.dup, 1) := by decide +kernel
theorem dX7_stand_15 : decode cX7_stand 15 = .ok (.ldc 101, 2) := by decide +kernel
theorem dX7_stand_17 : decode cX7_stand 17 = .ok (.invokespecial 86, 3) := by decide +kernel
theorem dX7_stand_20 : decode cX7_stand 20 = .ok (.athrow, 1) := by decide +kernel
theorem dX7_stand_21 : decode cX7_stand 21 = .ok (.aload_n 0, 1) := by decide +kernel
theorem dX7_stand_22 : decode cX7_stand 22 = .ok (.iconst 5, 1) := by decide +kernel
theorem dX7_stand_23 : decode cX7_stand 23 = .ok (.iload_n 1, 1) := by decide +kernel
theorem dX7_stand_24 : decode cX7_stand 24 = .ok (.iload_n 2, 1) := by decide +kernel
theorem dX7_stand_25 : decode cX7_stand 25 = .ok (.iconst 0, 1) := by decide +kernel
theorem dX7_stand_26 : decode cX7_stand 26 = .ok (.invokevirtual 89, 3) := by decide +kernel
theorem dX7_stand_29 : decode cX7_stand 29 = .ok (.ireturn, 1) := by decide +kernel
theorem dX7_part_0 : decode cX7_part 0 = .ok (.aload_n 0, 1) := by decide +kernel
theorem dX7_part_1 : decode cX7_part 1 = .ok (.bipush 6, 2) := by decide +kernel
theorem dX7_part_3 : decode cX7_part 3 = .ok (.iconst 0, 1) := by decide +kernel
theorem dX7_part_4 : decode cX7_part 4 = .ok (.iconst 0, 1) := by decide +kernel
theorem dX7_part_5 : decode cX7_part 5 = .ok (.iconst 0, 1) := by decide +kernel
theorem dX7_part_6 : decode cX7_part 6 = .ok (.invokevirtual 78, 3) := by decide +kernel
theorem dX7_part_9 : decode cX7_part 9 = .ok (.ifCond .eq 13, 3) := by decide +kernel
theorem dX7_part_12 : decode cX7_part 12 = .ok (.new 82, 3) := by decide +kernel
theorem dX7_part_15 : decode cX7_part 15 = .ok (.dup, 1) := by decide +kernel
theorem dX7_part_16 : decode cX7_part 16 = .ok (.ldc 103, 2) := by decide +kernel
theorem dX7_part_18 : decode cX7_part 18 = .ok (.invokespecial 86, 3) := by decide +kernel
theorem dX7_part_21 : decode cX7_part 21 = .ok (.athrow, 1) := by decide +kernel
theorem dX7_part_22 : decode cX7_part 22 = .ok (.aload_n 0, 1) := by decide +kernel
theorem dX7_part_23 : decode cX7_part 23 = .ok (.bipush 6, 2) := by decide +kernel
theorem dX7_part_25 : decode cX7_part 25 = .ok (.iconst 0, 1) := by decide +kernel
theorem dX7_part_26 : decode cX7_part 26 = .ok (.iconst 0, 1) := by decide +kernel
theorem dX7_part_27 : decode cX7_part 27 = .ok (.iconst 0, 1) := by decide +kernel
theorem dX7_part_28 : decode cX7_part 28 = .ok (.invokevirtual 89, 3) := by decide +kernel
theorem dX7_part_31 : decode cX7_part 31 = .ok (.ireturn, 1) := by decide +kernel
theorem dX7_weight_0 : decode cX7_weight 0 = .ok (.aload_n 0, 1) := by decide +kernel
theorem dX7_weight_1 : decode cX7_weight 1 = .ok (.getfield 12, 3) := by decide +kernel
theorem dX7_weight_4 : decode cX7_weight 4 = .ok (.iload_n 1, 1) := by decide +kernel
theorem dX7_weight_5 : decode cX7_weight 5 = .ok (.invokevirtual 105, 3) := by decide +kernel
theorem dX7_weight_8 : decode cX7_weight 8 = .ok (.ifCond .eq 14, 3) := by decide +kernel
theorem dX7_weight_11 : decode cX7_weight 11 = .ok (.aload_n 0, 1) := by decide +kernel
theorem dX7_weight_12 : decode cX7_weight 12 = .ok (.getfield 12, 3) := by decide +kernel
theorem dX7_weight_15 : decode cX7_weight 15 = .ok (.iload_n 2, 1) := by decide +kernel
theorem dX7_weight_16 : decode cX7_weight 16 = .ok (.invokevirtual 105, 3) := by decide +kernel
theorem dX7_weight_19 : decode cX7_weight 19 = .ok (.ifCond .ne 13, 3) := by decide +kernel
theorem dX7_weight_22 : decode cX7_weight 22 = .ok (.new 109, 3) := by decide +kernel
theorem dX7_weight_25 : decode cX7_weight 25 = .ok (.dup, 1) := by decide +kernel
theorem dX7_weight_26 : decode cX7_weight 26 = .ok (.ldc 93, 2) := by decide +kernel
theorem dX7_weight_28 : decode cX7_weight 28 = .ok (.invokespecial 111, 3) := by decide +kernel
theorem dX7_weight_31 : decode cX7_weight 31 = .ok (.athrow, 1) := by decide +kernel
theorem dX7_weight_32 : decode cX7_weight 32 = .ok (.aload_n 0, 1) := by decide +kernel
theorem dX7_weight_33 : decode cX7_weight 33 = .ok (.getfield 12, 3) := by decide +kernel
theorem dX7_weight_36 : decode cX7_weight 36 = .ok (.iload_n 1, 1) := by decide +kernel
theorem dX7_weight_37 : decode cX7_weight 37 = .ok (.iload_n 2, 1) := by decide +kernel
theorem dX7_weight_38 : decode cX7_weight 38 = .ok (.invokevirtual 112, 3) := by decide +kernel
theorem dX7_weight_41 : decode cX7_weight 41 = .ok (.ireturn, 1) := by decide +kernel
theorem dX7_householdOf_0 : decode cX7_householdOf 0 = .ok (.aload_n 0, 1) := by decide +kernel
theorem dX7_householdOf_1 : decode cX7_householdOf 1 = .ok (.getfield 12, 3) := by decide +kernel
theorem dX7_householdOf_4 : decode cX7_householdOf 4 = .ok (.iload_n 1, 1) := by decide +kernel
theorem dX7_householdOf_5 : decode cX7_householdOf 5 = .ok (.invokevirtual 105, 3) := by decide +kernel
theorem dX7_householdOf_8 : decode cX7_householdOf 8 = .ok (.ifCond .ne 13, 3) := by decide +kernel
theorem dX7_householdOf_11 : decode cX7_householdOf 11 = .ok (.new 109, 3) := by decide +kernel
theorem dX7_householdOf_14 : decode cX7_householdOf 14 = .ok (.dup, 1) := by decide +kernel
theorem dX7_householdOf_15 : decode cX7_householdOf 15 = .ok (.ldc 93, 2) := by decide +kernel
theorem dX7_householdOf_17 : decode cX7_householdOf 17 = .ok (.invokespecial 111, 3) := by decide +kernel
theorem dX7_householdOf_20 : decode cX7_householdOf 20 = .ok (.athrow, 1) := by decide +kernel
theorem dX7_householdOf_21 : decode cX7_householdOf 21 = .ok (.iload_n 2, 1) := by decide +kernel
theorem dX7_householdOf_22 : decode cX7_householdOf 22 = .ok (.tableswitch 115 0 5 #[38, 47, 56, 72, 89, 106], 38) := by decide +kernel
theorem dX7_householdOf_60 : decode cX7_householdOf 60 = .ok (.aload_n 0, 1) := by decide +kernel
theorem dX7_householdOf_61 : decode cX7_householdOf 61 = .ok (.getfield 12, 3) := by decide +kernel
theorem dX7_householdOf_64 : decode cX7_householdOf 64 = .ok (.iload_n 1, 1) := by decide +kernel
theorem dX7_householdOf_65 : decode cX7_householdOf 65 = .ok (.invokevirtual 116, 3) := by decide +kernel
theorem dX7_householdOf_68 : decode cX7_householdOf 68 = .ok (.ireturn, 1) := by decide +kernel
theorem dX7_householdOf_69 : decode cX7_householdOf 69 = .ok (.aload_n 0, 1) := by decide +kernel
theorem dX7_householdOf_70 : decode cX7_householdOf 70 = .ok (.getfield 12, 3) := by decide +kernel
theorem dX7_householdOf_73 : decode cX7_householdOf 73 = .ok (.iload_n 1, 1) := by decide +kernel
theorem dX7_householdOf_74 : decode cX7_householdOf 74 = .ok (.invokevirtual 120, 3) := by decide +kernel
theorem dX7_householdOf_77 : decode cX7_householdOf 77 = .ok (.ireturn, 1) := by decide +kernel
theorem dX7_householdOf_78 : decode cX7_householdOf 78 = .ok (.aload_n 0, 1) := by decide +kernel
theorem dX7_householdOf_79 : decode cX7_householdOf 79 = .ok (.getfield 12, 3) := by decide +kernel
theorem dX7_householdOf_82 : decode cX7_householdOf 82 = .ok (.iload_n 1, 1) := by decide +kernel
theorem dX7_householdOf_83 : decode cX7_householdOf 83 = .ok (.aload_n 0, 1) := by decide +kernel
theorem dX7_householdOf_84 : decode cX7_householdOf 84 = .ok (.getfield 12, 3) := by decide +kernel
theorem dX7_householdOf_87 : decode cX7_householdOf 87 = .ok (.invokevirtual 123, 3) := by decide +kernel
theorem dX7_householdOf_90 : decode cX7_householdOf 90 = .ok (.invokevirtual 127, 3) := by decide +kernel
theorem dX7_householdOf_93 : decode cX7_householdOf 93 = .ok (.ireturn, 1) := by decide +kernel
theorem dX7_householdOf_94 : decode cX7_householdOf 94 = .ok (.aload_n 0, 1) := by decide +kernel
theorem dX7_householdOf_95 : decode cX7_householdOf 95 = .ok (.getfield 12, 3) := by decide +kernel
theorem dX7_householdOf_98 : decode cX7_householdOf 98 = .ok (.iload_n 1, 1) := by decide +kernel
theorem dX7_householdOf_99 : decode cX7_householdOf 99 = .ok (.aload_n 0, 1) := by decide +kernel
theorem dX7_householdOf_100 : decode cX7_householdOf 100 = .ok (.getfield 12, 3) := by decide +kernel
theorem dX7_householdOf_103 : decode cX7_householdOf 103 = .ok (.iload_n 1, 1) := by decide +kernel
theorem dX7_householdOf_104 : decode cX7_householdOf 104 = .ok (.invokevirtual 130, 3) := by decide +kernel
theorem dX7_householdOf_107 : decode cX7_householdOf 107 = .ok (.invokevirtual 127, 3) := by decide +kernel
theorem dX7_householdOf_110 : decode cX7_householdOf 110 = .ok (.ireturn, 1) := by decide +kernel
theorem dX7_householdOf_111 : decode cX7_householdOf 111 = .ok (.aload_n 0, 1) := by decide +kernel
theorem dX7_householdOf_112 : decode cX7_householdOf 112 = .ok (.getfield 12, 3) := by decide +kernel
theorem dX7_householdOf_115 : decode cX7_householdOf 115 = .ok (.iload_n 1, 1) := by decide +kernel
theorem dX7_householdOf_116 : decode cX7_householdOf 116 = .ok (.aload_n 0, 1) := by decide +kernel
theorem dX7_householdOf_117 : decode cX7_householdOf 117 = .ok (.getfield 12, 3) := by decide +kernel
theorem dX7_householdOf_120 : decode cX7_householdOf 120 = .ok (.iload_n 1, 1) := by decide +kernel
theorem dX7_householdOf_121 : decode cX7_householdOf 121 = .ok (.invokevirtual 133, 3) := by decide +kernel
theorem dX7_householdOf_124 : decode cX7_householdOf 124 = .ok (.invokevirtual 127, 3) := by decide +kernel
theorem dX7_householdOf_127 : decode cX7_householdOf 127 = .ok (.ireturn, 1) := by decide +kernel
theorem dX7_householdOf_128 : decode cX7_householdOf 128 = .ok (.aload_n 0, 1) := by decide +kernel
theorem dX7_householdOf_129 : decode cX7_householdOf 129 = .ok (.getfield 12, 3) := by decide +kernel
theorem dX7_householdOf_132 : decode cX7_householdOf 132 = .ok (.iload_n 1, 1) := by decide +kernel
theorem dX7_householdOf_133 : decode cX7_householdOf 133 = .ok (.invokevirtual 136, 3) := by decide +kernel
theorem dX7_householdOf_136 : decode cX7_householdOf 136 = .ok (.ireturn, 1) := by decide +kernel
theorem dX7_householdOf_137 : decode cX7_householdOf 137 = .ok (.new 139, 3) := by decide +kernel
theorem dX7_householdOf_140 : decode cX7_householdOf 140 = .ok (.dup, 1) := by decide +kernel
theorem dX7_householdOf_141 : decode cX7_householdOf 141 = .ok (.ldc 141, 2) := by decide +kernel
theorem dX7_householdOf_143 : decode cX7_householdOf 143 = .ok (.invokespecial 143, 3) := by decide +kernel
theorem dX7_householdOf_146 : decode cX7_householdOf 146 = .ok (.athrow, 1) := by decide +kernel
theorem dX7_feud_0 : decode cX7_feud 0 = .ok (.aload_n 0, 1) := by decide +kernel
theorem dX7_feud_1 : decode cX7_feud 1 = .ok (.getfield 12, 3) := by decide +kernel
theorem dX7_feud_4 : decode cX7_feud 4 = .ok (.invokevirtual 152, 3) := by decide +kernel
theorem dX7_feud_7 : decode cX7_feud 7 = .ok (.ireturn, 1) := by decide +kernel
theorem dX7_feudAgain_0 : decode cX7_feudAgain 0 = .ok (.aload_n 0, 1) := by decide +kernel
theorem dX7_feudAgain_1 : decode cX7_feudAgain 1 = .ok (.getfield 12, 3) := by decide +kernel
theorem dX7_feudAgain_4 : decode cX7_feudAgain 4 = .ok (.invokevirtual 155, 3) := by decide +kernel
theorem dX7_feudAgain_7 : decode cX7_feudAgain 7 = .ok (.ireturn, 1) := by decide +kernel
theorem dX7_phases_0 : decode cX7_phases 0 = .ok (.aload_n 0, 1) := by decide +kernel
theorem dX7_phases_1 : decode cX7_phases 1 = .ok (.getfield 12, 3) := by decide +kernel
theorem dX7_phases_4 : decode cX7_phases 4 = .ok (.invokevirtual 158, 3) := by decide +kernel
theorem dX7_phases_7 : decode cX7_phases 7 = .ok (.ireturn, 1) := by decide +kernel
theorem dX7_phaseOf_0 : decode cX7_phaseOf 0 = .ok (.aload_n 0, 1) := by decide +kernel
theorem dX7_phaseOf_1 : decode cX7_phaseOf 1 = .ok (.iload_n 1, 1) := by decide +kernel
theorem dX7_phaseOf_2 : decode cX7_phaseOf 2 = .ok (.invokevirtual 161, 3) := by decide +kernel
theorem dX7_phaseOf_5 : decode cX7_phaseOf 5 = .ok (.ifCond .ne 13, 3) := by decide +kernel
theorem dX7_phaseOf_8 : decode cX7_phaseOf 8 = .ok (.new 109, 3) := by decide +kernel
theorem dX7_phaseOf_11 : decode cX7_phaseOf 11 = .ok (.dup, 1) := by decide +kernel
theorem dX7_phaseOf_12 : decode cX7_phaseOf 12 = .ok (.ldc 164, 2) := by decide +kernel
theorem dX7_phaseOf_14 : decode cX7_phaseOf 14 = .ok (.invokespecial 111, 3) := by decide +kernel
theorem dX7_phaseOf_17 : decode cX7_phaseOf 17 = .ok (.athrow, 1) := by decide +kernel
theorem dX7_phaseOf_18 : decode cX7_phaseOf 18 = .ok (.aload_n 0, 1) := by decide +kernel
theorem dX7_phaseOf_19 : decode cX7_phaseOf 19 = .ok (.getfield 32, 3) := by decide +kernel
theorem dX7_phaseOf_22 : decode cX7_phaseOf 22 = .ok (.aload_n 0, 1) := by decide +kernel
theorem dX7_phaseOf_23 : decode cX7_phaseOf 23 = .ok (.getfield 12, 3) := by decide +kernel
theorem dX7_phaseOf_26 : decode cX7_phaseOf 26 = .ok (.invokevirtual 166, 3) := by decide +kernel
theorem dX7_phaseOf_29 : decode cX7_phaseOf 29 = .ok (.aload_n 0, 1) := by decide +kernel
theorem dX7_phaseOf_30 : decode cX7_phaseOf 30 = .ok (.getfield 32, 3) := by decide +kernel
theorem dX7_phaseOf_33 : decode cX7_phaseOf 33 = .ok (.iload_n 1, 1) := by decide +kernel
theorem dX7_phaseOf_34 : decode cX7_phaseOf 34 = .ok (.invokevirtual 170, 3) := by decide +kernel
theorem dX7_phaseOf_37 : decode cX7_phaseOf 37 = .ok (.istore_n 3, 1) := by decide +kernel
theorem dX7_phaseOf_38 : decode cX7_phaseOf 38 = .ok (.iload_n 2, 1) := by decide +kernel
theorem dX7_phaseOf_39 : decode cX7_phaseOf 39 = .ok (.tableswitch 86 0 4 #[33, 42, 44, 59, 74], 33) := by decide +kernel
theorem dX7_phaseOf_72 : decode cX7_phaseOf 72 = .ok (.aload_n 0, 1) := by decide +kernel
theorem dX7_phaseOf_73 : decode cX7_phaseOf 73 = .ok (.getfield 32, 3) := by decide +kernel
theorem dX7_phaseOf_76 : decode cX7_phaseOf 76 = .ok (.iload_n 1, 1) := by decide +kernel
theorem dX7_phaseOf_77 : decode cX7_phaseOf 77 = .ok (.invokevirtual 173, 3) := by decide +kernel
theorem dX7_phaseOf_80 : decode cX7_phaseOf 80 = .ok (.ireturn, 1) := by decide +kernel
theorem dX7_phaseOf_81 : decode cX7_phaseOf 81 = .ok (.iload_n 3, 1) := by decide +kernel
theorem dX7_phaseOf_82 : decode cX7_phaseOf 82 = .ok (.ireturn, 1) := by decide +kernel
theorem dX7_phaseOf_83 : decode cX7_phaseOf 83 = .ok (.aload_n 0, 1) := by decide +kernel
theorem dX7_phaseOf_84 : decode cX7_phaseOf 84 = .ok (.getfield 32, 3) := by decide +kernel
theorem dX7_phaseOf_87 : decode cX7_phaseOf 87 = .ok (.iload_n 1, 1) := by decide +kernel
theorem dX7_phaseOf_88 : decode cX7_phaseOf 88 = .ok (.iload_n 3, 1) := by decide +kernel
theorem dX7_phaseOf_89 : decode cX7_phaseOf 89 = .ok (.iconst 1, 1) := by decide +kernel
theorem dX7_phaseOf_90 : decode cX7_phaseOf 90 = .ok (.isub, 1) := by decide +kernel
theorem dX7_phaseOf_91 : decode cX7_phaseOf 91 = .ok (.invokevirtual 176, 3) := by decide +kernel
theorem dX7_phaseOf_94 : decode cX7_phaseOf 94 = .ok (.invokestatic 179, 3) := by decide +kernel
theorem dX7_phaseOf_97 : decode cX7_phaseOf 97 = .ok (.ireturn, 1) := by decide +kernel
theorem dX7_phaseOf_98 : decode cX7_phaseOf 98 = .ok (.aload_n 0, 1) := by decide +kernel
theorem dX7_phaseOf_99 : decode cX7_phaseOf 99 = .ok (.getfield 32, 3) := by decide +kernel
theorem dX7_phaseOf_102 : decode cX7_phaseOf 102 = .ok (.iload_n 1, 1) := by decide +kernel
theorem dX7_phaseOf_103 : decode cX7_phaseOf 103 = .ok (.iload_n 3, 1) := by decide +kernel
theorem dX7_phaseOf_104 : decode cX7_phaseOf 104 = .ok (.iconst 2, 1) := by decide +kernel
theorem dX7_phaseOf_105 : decode cX7_phaseOf 105 = .ok (.isub, 1) := by decide +kernel
theorem dX7_phaseOf_106 : decode cX7_phaseOf 106 = .ok (.invokevirtual 176, 3) := by decide +kernel
theorem dX7_phaseOf_109 : decode cX7_phaseOf 109 = .ok (.invokestatic 179, 3) := by decide +kernel
theorem dX7_phaseOf_112 : decode cX7_phaseOf 112 = .ok (.ireturn, 1) := by decide +kernel
theorem dX7_phaseOf_113 : decode cX7_phaseOf 113 = .ok (.aload_n 0, 1) := by decide +kernel
theorem dX7_phaseOf_114 : decode cX7_phaseOf 114 = .ok (.getfield 32, 3) := by decide +kernel
theorem dX7_phaseOf_117 : decode cX7_phaseOf 117 = .ok (.iload_n 1, 1) := by decide +kernel
theorem dX7_phaseOf_118 : decode cX7_phaseOf 118 = .ok (.iload_n 3, 1) := by decide +kernel
theorem dX7_phaseOf_119 : decode cX7_phaseOf 119 = .ok (.iconst 1, 1) := by decide +kernel
theorem dX7_phaseOf_120 : decode cX7_phaseOf 120 = .ok (.isub, 1) := by decide +kernel
theorem dX7_phaseOf_121 : decode cX7_phaseOf 121 = .ok (.invokevirtual 176, 3) := by decide +kernel
theorem dX7_phaseOf_124 : decode cX7_phaseOf 124 = .ok (.ireturn, 1) := by decide +kernel
theorem dX7_phaseOf_125 : decode cX7_phaseOf 125 = .ok (.new 139, 3) := by decide +kernel
theorem dX7_phaseOf_128 : decode cX7_phaseOf 128 = .ok (.dup, 1) := by decide +kernel
theorem dX7_phaseOf_129 : decode cX7_phaseOf 129 = .ok (.ldc 182, 2) := by decide +kernel
theorem dX7_phaseOf_131 : decode cX7_phaseOf 131 = .ok (.invokespecial 143, 3) := by decide +kernel
theorem dX7_phaseOf_134 : decode cX7_phaseOf 134 = .ok (.athrow, 1) := by decide +kernel
theorem dX7_joined_0 : decode cX7_joined 0 = .ok (.aload_n 0, 1) := by decide +kernel
theorem dX7_joined_1 : decode cX7_joined 1 = .ok (.iload_n 1, 1) := by decide +kernel
theorem dX7_joined_2 : decode cX7_joined 2 = .ok (.invokevirtual 161, 3) := by decide +kernel
theorem dX7_joined_5 : decode cX7_joined 5 = .ok (.ifCond .ne 13, 3) := by decide +kernel
theorem dX7_joined_8 : decode cX7_joined 8 = .ok (.new 109, 3) := by decide +kernel
theorem dX7_joined_11 : decode cX7_joined 11 = .ok (.dup, 1) := by decide +kernel
theorem dX7_joined_12 : decode cX7_joined 12 = .ok (.ldc 164, 2) := by decide +kernel
theorem dX7_joined_14 : decode cX7_joined 14 = .ok (.invokespecial 111, 3) := by decide +kernel
theorem dX7_joined_17 : decode cX7_joined 17 = .ok (.athrow, 1) := by decide +kernel
theorem dX7_joined_18 : decode cX7_joined 18 = .ok (.aload_n 0, 1) := by decide +kernel
theorem dX7_joined_19 : decode cX7_joined 19 = .ok (.getfield 32, 3) := by decide +kernel
theorem dX7_joined_22 : decode cX7_joined 22 = .ok (.aload_n 0, 1) := by decide +kernel
theorem dX7_joined_23 : decode cX7_joined 23 = .ok (.getfield 12, 3) := by decide +kernel
theorem dX7_joined_26 : decode cX7_joined 26 = .ok (.invokevirtual 166, 3) := by decide +kernel
theorem dX7_joined_29 : decode cX7_joined 29 = .ok (.aload_n 0, 1) := by decide +kernel
theorem dX7_joined_30 : decode cX7_joined 30 = .ok (.getfield 32, 3) := by decide +kernel
theorem dX7_joined_33 : decode cX7_joined 33 = .ok (.iload_n 1, 1) := by decide +kernel
theorem dX7_joined_34 : decode cX7_joined 34 = .ok (.iload_n 2, 1) := by decide +kernel
theorem dX7_joined_35 : decode cX7_joined 35 = .ok (.invokevirtual 184, 3) := by decide +kernel
theorem dX7_joined_38 : decode cX7_joined 38 = .ok (.ifCond .ne 13, 3) := by decide +kernel
theorem dX7_joined_41 : decode cX7_joined 41 = .ok (.new 188, 3) := by decide +kernel
theorem dX7_joined_44 : decode cX7_joined 44 = .ok (.dup, 1) := by decide +kernel
theorem dX7_joined_45 : decode cX7_joined 45 = .ok (.ldc 190, 2) := by decide +kernel
theorem dX7_joined_47 : decode cX7_joined 47 = .ok (.invokespecial 192, 3) := by decide +kernel
theorem dX7_joined_50 : decode cX7_joined 50 = .ok (.athrow, 1) := by decide +kernel
theorem dX7_joined_51 : decode cX7_joined 51 = .ok (.aload_n 0, 1) := by decide +kernel
theorem dX7_joined_52 : decode cX7_joined 52 = .ok (.getfield 32, 3) := by decide +kernel
theorem dX7_joined_55 : decode cX7_joined 55 = .ok (.iload_n 1, 1) := by decide +kernel
theorem dX7_joined_56 : decode cX7_joined 56 = .ok (.iload_n 2, 1) := by decide +kernel
theorem dX7_joined_57 : decode cX7_joined 57 = .ok (.invokevirtual 176, 3) := by decide +kernel
theorem dX7_joined_60 : decode cX7_joined 60 = .ok (.invokestatic 179, 3) := by decide +kernel
theorem dX7_joined_63 : decode cX7_joined 63 = .ok (.ireturn, 1) := by decide +kernel
theorem dX7_tieAt_0 : decode cX7_tieAt 0 = .ok (.aload_n 0, 1) := by decide +kernel
theorem dX7_tieAt_1 : decode cX7_tieAt 1 = .ok (.iload_n 1, 1) := by decide +kernel
theorem dX7_tieAt_2 : decode cX7_tieAt 2 = .ok (.invokevirtual 161, 3) := by decide +kernel
theorem dX7_tieAt_5 : decode cX7_tieAt 5 = .ok (.ifCond .ne 13, 3) := by decide +kernel
theorem dX7_tieAt_8 : decode cX7_tieAt 8 = .ok (.new 109, 3) := by decide +kernel
theorem dX7_tieAt_11 : decode cX7_tieAt 11 = .ok (.dup, 1) := by decide +kernel
theorem dX7_tieAt_12 : decode cX7_tieAt 12 = .ok (.ldc 164, 2) := by decide +kernel
theorem dX7_tieAt_14 : decode cX7_tieAt 14 = .ok (.invokespecial 111, 3) := by decide +kernel
theorem dX7_tieAt_17 : decode cX7_tieAt 17 = .ok (.athrow, 1) := by decide +kernel
theorem dX7_tieAt_18 : decode cX7_tieAt 18 = .ok (.aload_n 0, 1) := by decide +kernel
theorem dX7_tieAt_19 : decode cX7_tieAt 19 = .ok (.getfield 32, 3) := by decide +kernel
theorem dX7_tieAt_22 : decode cX7_tieAt 22 = .ok (.aload_n 0, 1) := by decide +kernel
theorem dX7_tieAt_23 : decode cX7_tieAt 23 = .ok (.getfield 12, 3) := by decide +kernel
theorem dX7_tieAt_26 : decode cX7_tieAt 26 = .ok (.invokevirtual 166, 3) := by decide +kernel
theorem dX7_tieAt_29 : decode cX7_tieAt 29 = .ok (.aload_n 0, 1) := by decide +kernel
theorem dX7_tieAt_30 : decode cX7_tieAt 30 = .ok (.getfield 32, 3) := by decide +kernel
theorem dX7_tieAt_33 : decode cX7_tieAt 33 = .ok (.iload_n 1, 1) := by decide +kernel
theorem dX7_tieAt_34 : decode cX7_tieAt 34 = .ok (.iload_n 2, 1) := by decide +kernel
theorem dX7_tieAt_35 : decode cX7_tieAt 35 = .ok (.invokevirtual 184, 3) := by decide +kernel
theorem dX7_tieAt_38 : decode cX7_tieAt 38 = .ok (.ifCond .ne 13, 3) := by decide +kernel
theorem dX7_tieAt_41 : decode cX7_tieAt 41 = .ok (.new 188, 3) := by decide +kernel
theorem dX7_tieAt_44 : decode cX7_tieAt 44 = .ok (.dup, 1) := by decide +kernel
theorem dX7_tieAt_45 : decode cX7_tieAt 45 = .ok (.ldc 190, 2) := by decide +kernel
theorem dX7_tieAt_47 : decode cX7_tieAt 47 = .ok (.invokespecial 192, 3) := by decide +kernel
theorem dX7_tieAt_50 : decode cX7_tieAt 50 = .ok (.athrow, 1) := by decide +kernel
theorem dX7_tieAt_51 : decode cX7_tieAt 51 = .ok (.aload_n 0, 1) := by decide +kernel
theorem dX7_tieAt_52 : decode cX7_tieAt 52 = .ok (.getfield 32, 3) := by decide +kernel
theorem dX7_tieAt_55 : decode cX7_tieAt 55 = .ok (.iload_n 1, 1) := by decide +kernel
theorem dX7_tieAt_56 : decode cX7_tieAt 56 = .ok (.iload_n 2, 1) := by decide +kernel
theorem dX7_tieAt_57 : decode cX7_tieAt 57 = .ok (.invokevirtual 193, 3) := by decide +kernel
theorem dX7_tieAt_60 : decode cX7_tieAt 60 = .ok (.ireturn, 1) := by decide +kernel
theorem dX7_least_0 : decode cX7_least 0 = .ok (.aload_n 0, 1) := by decide +kernel
theorem dX7_least_1 : decode cX7_least 1 = .ok (.invokevirtual 196, 3) := by decide +kernel
theorem dX7_least_4 : decode cX7_least 4 = .ok (.ifCond .eq 13, 3) := by decide +kernel
theorem dX7_least_7 : decode cX7_least 7 = .ok (.new 188, 3) := by decide +kernel
theorem dX7_least_10 : decode cX7_least 10 = .ok (.dup, 1) := by decide +kernel
theorem dX7_least_11 : decode cX7_least 11 = .ok (.ldc 103, 2) := by decide +kernel
theorem dX7_least_13 : decode cX7_least 13 = .ok (.invokespecial 192, 3) := by decide +kernel
theorem dX7_least_16 : decode cX7_least 16 = .ok (.athrow, 1) := by decide +kernel
theorem dX7_least_17 : decode cX7_least 17 = .ok (.aload_n 0, 1) := by decide +kernel
theorem dX7_least_18 : decode cX7_least 18 = .ok (.aload_n 0, 1) := by decide +kernel
theorem dX7_least_19 : decode cX7_least 19 = .ok (.getfield 12, 3) := by decide +kernel
theorem dX7_least_22 : decode cX7_least 22 = .ok (.invokevirtual 200, 3) := by decide +kernel
theorem dX7_least_25 : decode cX7_least 25 = .ok (.ireturn, 1) := by decide +kernel
theorem dX7_leastAgain_0 : decode cX7_leastAgain 0 = .ok (.aload_n 0, 1) := by decide +kernel
theorem dX7_leastAgain_1 : decode cX7_leastAgain 1 = .ok (.invokevirtual 196, 3) := by decide +kernel
theorem dX7_leastAgain_4 : decode cX7_leastAgain 4 = .ok (.ifCond .eq 13, 3) := by decide +kernel
theorem dX7_leastAgain_7 : decode cX7_leastAgain 7 = .ok (.new 188, 3) := by decide +kernel
theorem dX7_leastAgain_10 : decode cX7_leastAgain 10 = .ok (.dup, 1) := by decide +kernel
theorem dX7_leastAgain_11 : decode cX7_leastAgain 11 = .ok (.ldc 103, 2) := by decide +kernel
theorem dX7_leastAgain_13 : decode cX7_leastAgain 13 = .ok (.invokespecial 192, 3) := by decide +kernel
theorem dX7_leastAgain_16 : decode cX7_leastAgain 16 = .ok (.athrow, 1) := by decide +kernel
theorem dX7_leastAgain_17 : decode cX7_leastAgain 17 = .ok (.aload_n 0, 1) := by decide +kernel
theorem dX7_leastAgain_18 : decode cX7_leastAgain 18 = .ok (.getfield 39, 3) := by decide +kernel
theorem dX7_leastAgain_21 : decode cX7_leastAgain 21 = .ok (.aload_n 0, 1) := by decide +kernel
theorem dX7_leastAgain_22 : decode cX7_leastAgain 22 = .ok (.getfield 12, 3) := by decide +kernel
theorem dX7_leastAgain_25 : decode cX7_leastAgain 25 = .ok (.invokevirtual 204, 3) := by decide +kernel
theorem dX7_leastAgain_28 : decode cX7_leastAgain 28 = .ok (.aload_n 0, 1) := by decide +kernel
theorem dX7_leastAgain_29 : decode cX7_leastAgain 29 = .ok (.getfield 39, 3) := by decide +kernel
theorem dX7_leastAgain_32 : decode cX7_leastAgain 32 = .ok (.invokevirtual 205, 3) := by decide +kernel
theorem dX7_leastAgain_35 : decode cX7_leastAgain 35 = .ok (.ireturn, 1) := by decide +kernel
theorem dX7_met_0 : decode cX7_met 0 = .ok (.aload_n 0, 1) := by decide +kernel
theorem dX7_met_1 : decode cX7_met 1 = .ok (.invokevirtual 196, 3) := by decide +kernel
theorem dX7_met_4 : decode cX7_met 4 = .ok (.ifCond .eq 13, 3) := by decide +kernel
theorem dX7_met_7 : decode cX7_met 7 = .ok (.new 188, 3) := by decide +kernel
theorem dX7_met_10 : decode cX7_met 10 = .ok (.dup, 1) := by decide +kernel
theorem dX7_met_11 : decode cX7_met 11 = .ok (.ldc 103, 2) := by decide +kernel
theorem dX7_met_13 : decode cX7_met 13 = .ok (.invokespecial 192, 3) := by decide +kernel
theorem dX7_met_16 : decode cX7_met 16 = .ok (.athrow, 1) := by decide +kernel
theorem dX7_met_17 : decode cX7_met 17 = .ok (.aload_n 0, 1) := by decide +kernel
theorem dX7_met_18 : decode cX7_met 18 = .ok (.getfield 32, 3) := by decide +kernel
theorem dX7_met_21 : decode cX7_met 21 = .ok (.aload_n 0, 1) := by decide +kernel
theorem dX7_met_22 : decode cX7_met 22 = .ok (.getfield 12, 3) := by decide +kernel
theorem dX7_met_25 : decode cX7_met 25 = .ok (.invokevirtual 166, 3) := by decide +kernel
theorem dX7_met_28 : decode cX7_met 28 = .ok (.aload_n 0, 1) := by decide +kernel
theorem dX7_met_29 : decode cX7_met 29 = .ok (.getfield 32, 3) := by decide +kernel
theorem dX7_met_32 : decode cX7_met 32 = .ok (.invokevirtual 208, 3) := by decide +kernel
theorem dX7_met_35 : decode cX7_met 35 = .ok (.ireturn, 1) := by decide +kernel
theorem dX7_leastSides_0 : decode cX7_leastSides 0 = .ok (.aload_n 0, 1) := by decide +kernel
theorem dX7_leastSides_1 : decode cX7_leastSides 1 = .ok (.invokevirtual 196, 3) := by decide +kernel
theorem dX7_leastSides_4 : decode cX7_leastSides 4 = .ok (.ifCond .eq 13, 3) := by decide +kernel
theorem dX7_leastSides_7 : decode cX7_leastSides 7 = .ok (.new 188, 3) := by decide +kernel
theorem dX7_leastSides_10 : decode cX7_leastSides 10 = .ok (.dup, 1) := by decide +kernel
theorem dX7_leastSides_11 : decode cX7_leastSides 11 = .ok (.ldc 103, 2) := by decide +kernel
theorem dX7_leastSides_13 : decode cX7_leastSides 13 = .ok (.invokespecial 192, 3) := by decide +kernel
theorem dX7_leastSides_16 : decode cX7_leastSides 16 = .ok (.athrow, 1) := by decide +kernel
theorem dX7_leastSides_17 : decode cX7_leastSides 17 = .ok (.aload_n 0, 1) := by decide +kernel
theorem dX7_leastSides_18 : decode cX7_leastSides 18 = .ok (.getfield 39, 3) := by decide +kernel
theorem dX7_leastSides_21 : decode cX7_leastSides 21 = .ok (.aload_n 0, 1) := by decide +kernel
theorem dX7_leastSides_22 : decode cX7_leastSides 22 = .ok (.getfield 12, 3) := by decide +kernel
theorem dX7_leastSides_25 : decode cX7_leastSides 25 = .ok (.invokevirtual 204, 3) := by decide +kernel
theorem dX7_leastSides_28 : decode cX7_leastSides 28 = .ok (.aload_n 0, 1) := by decide +kernel
theorem dX7_leastSides_29 : decode cX7_leastSides 29 = .ok (.getfield 39, 3) := by decide +kernel
theorem dX7_leastSides_32 : decode cX7_leastSides 32 = .ok (.invokevirtual 211, 3) := by decide +kernel
theorem dX7_leastSides_35 : decode cX7_leastSides 35 = .ok (.ireturn, 1) := by decide +kernel
theorem dX7_between_0 : decode cX7_between 0 = .ok (.aload_n 0, 1) := by decide +kernel
theorem dX7_between_1 : decode cX7_between 1 = .ok (.getfield 12, 3) := by decide +kernel
theorem dX7_between_4 : decode cX7_between 4 = .ok (.iload_n 1, 1) := by decide +kernel
theorem dX7_between_5 : decode cX7_between 5 = .ok (.invokevirtual 105, 3) := by decide +kernel
theorem dX7_between_8 : decode cX7_between 8 = .ok (.ifCond .eq 14, 3) := by decide +kernel
theorem dX7_between_11 : decode cX7_between 11 = .ok (.aload_n 0, 1) := by decide +kernel
theorem dX7_between_12 : decode cX7_between 12 = .ok (.getfield 12, 3) := by decide +kernel
theorem dX7_between_15 : decode cX7_between 15 = .ok (.iload_n 2, 1) := by decide +kernel
theorem dX7_between_16 : decode cX7_between 16 = .ok (.invokevirtual 105, 3) := by decide +kernel
theorem dX7_between_19 : decode cX7_between 19 = .ok (.ifCond .ne 13, 3) := by decide +kernel
theorem dX7_between_22 : decode cX7_between 22 = .ok (.new 109, 3) := by decide +kernel
theorem dX7_between_25 : decode cX7_between 25 = .ok (.dup, 1) := by decide +kernel
theorem dX7_between_26 : decode cX7_between 26 = .ok (.ldc 93, 2) := by decide +kernel
theorem dX7_between_28 : decode cX7_between 28 = .ok (.invokespecial 111, 3) := by decide +kernel
theorem dX7_between_31 : decode cX7_between 31 = .ok (.athrow, 1) := by decide +kernel
theorem dX7_between_32 : decode cX7_between 32 = .ok (.iload_n 1, 1) := by decide +kernel
theorem dX7_between_33 : decode cX7_between 33 = .ok (.iload_n 2, 1) := by decide +kernel
theorem dX7_between_34 : decode cX7_between 34 = .ok (.if_icmp .ne 13, 3) := by decide +kernel
theorem dX7_between_37 : decode cX7_between 37 = .ok (.new 139, 3) := by decide +kernel
theorem dX7_between_40 : decode cX7_between 40 = .ok (.dup, 1) := by decide +kernel
theorem dX7_between_41 : decode cX7_between 41 = .ok (.ldc 214, 2) := by decide +kernel
theorem dX7_between_43 : decode cX7_between 43 = .ok (.invokespecial 143, 3) := by decide +kernel
theorem dX7_between_46 : decode cX7_between 46 = .ok (.athrow, 1) := by decide +kernel
theorem dX7_between_47 : decode cX7_between 47 = .ok (.aload_n 0, 1) := by decide +kernel
theorem dX7_between_48 : decode cX7_between 48 = .ok (.getfield 39, 3) := by decide +kernel
theorem dX7_between_51 : decode cX7_between 51 = .ok (.aload_n 0, 1) := by decide +kernel
theorem dX7_between_52 : decode cX7_between 52 = .ok (.getfield 12, 3) := by decide +kernel
theorem dX7_between_55 : decode cX7_between 55 = .ok (.invokevirtual 204, 3) := by decide +kernel
theorem dX7_between_58 : decode cX7_between 58 = .ok (.aload_n 0, 1) := by decide +kernel
theorem dX7_between_59 : decode cX7_between 59 = .ok (.getfield 39, 3) := by decide +kernel
theorem dX7_between_62 : decode cX7_between 62 = .ok (.iload_n 1, 1) := by decide +kernel
theorem dX7_between_63 : decode cX7_between 63 = .ok (.iload_n 2, 1) := by decide +kernel
theorem dX7_between_64 : decode cX7_between 64 = .ok (.invokevirtual 216, 3) := by decide +kernel
theorem dX7_between_67 : decode cX7_between 67 = .ok (.ireturn, 1) := by decide +kernel
theorem dX7_betweenAgain_0 : decode cX7_betweenAgain 0 = .ok (.aload_n 0, 1) := by decide +kernel
theorem dX7_betweenAgain_1 : decode cX7_betweenAgain 1 = .ok (.getfield 12, 3) := by decide +kernel
theorem dX7_betweenAgain_4 : decode cX7_betweenAgain 4 = .ok (.iload_n 1, 1) := by decide +kernel
theorem dX7_betweenAgain_5 : decode cX7_betweenAgain 5 = .ok (.invokevirtual 105, 3) := by decide +kernel
theorem dX7_betweenAgain_8 : decode cX7_betweenAgain 8 = .ok (.ifCond .eq 14, 3) := by decide +kernel
theorem dX7_betweenAgain_11 : decode cX7_betweenAgain 11 = .ok (.aload_n 0, 1) := by decide +kernel
theorem dX7_betweenAgain_12 : decode cX7_betweenAgain 12 = .ok (.getfield 12, 3) := by decide +kernel
theorem dX7_betweenAgain_15 : decode cX7_betweenAgain 15 = .ok (.iload_n 2, 1) := by decide +kernel
theorem dX7_betweenAgain_16 : decode cX7_betweenAgain 16 = .ok (.invokevirtual 105, 3) := by decide +kernel
theorem dX7_betweenAgain_19 : decode cX7_betweenAgain 19 = .ok (.ifCond .ne 13, 3) := by decide +kernel
theorem dX7_betweenAgain_22 : decode cX7_betweenAgain 22 = .ok (.new 109, 3) := by decide +kernel
theorem dX7_betweenAgain_25 : decode cX7_betweenAgain 25 = .ok (.dup, 1) := by decide +kernel
theorem dX7_betweenAgain_26 : decode cX7_betweenAgain 26 = .ok (.ldc 93, 2) := by decide +kernel
theorem dX7_betweenAgain_28 : decode cX7_betweenAgain 28 = .ok (.invokespecial 111, 3) := by decide +kernel
theorem dX7_betweenAgain_31 : decode cX7_betweenAgain 31 = .ok (.athrow, 1) := by decide +kernel
theorem dX7_betweenAgain_32 : decode cX7_betweenAgain 32 = .ok (.iload_n 1, 1) := by decide +kernel
theorem dX7_betweenAgain_33 : decode cX7_betweenAgain 33 = .ok (.iload_n 2, 1) := by decide +kernel
theorem dX7_betweenAgain_34 : decode cX7_betweenAgain 34 = .ok (.if_icmp .ne 13, 3) := by decide +kernel
theorem dX7_betweenAgain_37 : decode cX7_betweenAgain 37 = .ok (.new 139, 3) := by decide +kernel
theorem dX7_betweenAgain_40 : decode cX7_betweenAgain 40 = .ok (.dup, 1) := by decide +kernel
theorem dX7_betweenAgain_41 : decode cX7_betweenAgain 41 = .ok (.ldc 214, 2) := by decide +kernel
theorem dX7_betweenAgain_43 : decode cX7_betweenAgain 43 = .ok (.invokespecial 143, 3) := by decide +kernel
theorem dX7_betweenAgain_46 : decode cX7_betweenAgain 46 = .ok (.athrow, 1) := by decide +kernel
theorem dX7_betweenAgain_47 : decode cX7_betweenAgain 47 = .ok (.aload_n 0, 1) := by decide +kernel
theorem dX7_betweenAgain_48 : decode cX7_betweenAgain 48 = .ok (.getfield 46, 3) := by decide +kernel
theorem dX7_betweenAgain_51 : decode cX7_betweenAgain 51 = .ok (.aload_n 0, 1) := by decide +kernel
theorem dX7_betweenAgain_52 : decode cX7_betweenAgain 52 = .ok (.getfield 12, 3) := by decide +kernel
theorem dX7_betweenAgain_55 : decode cX7_betweenAgain 55 = .ok (.iload_n 1, 1) := by decide +kernel
theorem dX7_betweenAgain_56 : decode cX7_betweenAgain 56 = .ok (.iload_n 2, 1) := by decide +kernel
theorem dX7_betweenAgain_57 : decode cX7_betweenAgain 57 = .ok (.invokevirtual 219, 3) := by decide +kernel
theorem dX7_betweenAgain_60 : decode cX7_betweenAgain 60 = .ok (.ireturn, 1) := by decide +kernel
theorem dX7_bestMove_0 : decode cX7_bestMove 0 = .ok (.aload_n 0, 1) := by decide +kernel
theorem dX7_bestMove_1 : decode cX7_bestMove 1 = .ok (.getfield 12, 3) := by decide +kernel
theorem dX7_bestMove_4 : decode cX7_bestMove 4 = .ok (.getfield 223, 3) := by decide +kernel
theorem dX7_bestMove_7 : decode cX7_bestMove 7 = .ok (.ifCond .ne 13, 3) := by decide +kernel
theorem dX7_bestMove_10 : decode cX7_bestMove 10 = .ok (.new 188, 3) := by decide +kernel
theorem dX7_bestMove_13 : decode cX7_bestMove 13 = .ok (.dup, 1) := by decide +kernel
theorem dX7_bestMove_14 : decode cX7_bestMove 14 = .ok (.ldc 227, 2) := by decide +kernel
theorem dX7_bestMove_16 : decode cX7_bestMove 16 = .ok (.invokespecial 192, 3) := by decide +kernel
theorem dX7_bestMove_19 : decode cX7_bestMove 19 = .ok (.athrow, 1) := by decide +kernel
theorem dX7_bestMove_20 : decode cX7_bestMove 20 = .ok (.iconst 0, 1) := by decide +kernel
theorem dX7_bestMove_21 : decode cX7_bestMove 21 = .ok (.istore_n 1, 1) := by decide +kernel
theorem dX7_bestMove_22 : decode cX7_bestMove 22 = .ok (.iconst 1, 1) := by decide +kernel
theorem dX7_bestMove_23 : decode cX7_bestMove 23 = .ok (.istore_n 2, 1) := by decide +kernel
theorem dX7_bestMove_24 : decode cX7_bestMove 24 = .ok (.iload_n 2, 1) := by decide +kernel
theorem dX7_bestMove_25 : decode cX7_bestMove 25 = .ok (.aload_n 0, 1) := by decide +kernel
theorem dX7_bestMove_26 : decode cX7_bestMove 26 = .ok (.getfield 12, 3) := by decide +kernel
theorem dX7_bestMove_29 : decode cX7_bestMove 29 = .ok (.getfield 223, 3) := by decide +kernel
theorem dX7_bestMove_32 : decode cX7_bestMove 32 = .ok (.if_icmp .ge 30, 3) := by decide +kernel
theorem dX7_bestMove_35 : decode cX7_bestMove 35 = .ok (.aload_n 0, 1) := by decide +kernel
theorem dX7_bestMove_36 : decode cX7_bestMove 36 = .ok (.getfield 12, 3) := by decide +kernel
theorem dX7_bestMove_39 : decode cX7_bestMove 39 = .ok (.iload_n 2, 1) := by decide +kernel
theorem dX7_bestMove_40 : decode cX7_bestMove 40 = .ok (.invokevirtual 229, 3) := by decide +kernel
theorem dX7_bestMove_43 : decode cX7_bestMove 43 = .ok (.aload_n 0, 1) := by decide +kernel
theorem dX7_bestMove_44 : decode cX7_bestMove 44 = .ok (.getfield 12, 3) := by decide +kernel
theorem dX7_bestMove_47 : decode cX7_bestMove 47 = .ok (.iload_n 1, 1) := by decide +kernel
theorem dX7_bestMove_48 : decode cX7_bestMove 48 = .ok (.invokevirtual 229, 3) := by decide +kernel
theorem dX7_bestMove_51 : decode cX7_bestMove 51 = .ok (.if_icmp .ge 5, 3) := by decide +kernel
theorem dX7_bestMove_54 : decode cX7_bestMove 54 = .ok (.iload_n 2, 1) := by decide +kernel
theorem dX7_bestMove_55 : decode cX7_bestMove 55 = .ok (.istore_n 1, 1) := by decide +kernel
theorem dX7_bestMove_56 : decode cX7_bestMove 56 = .ok (.iinc 2 1, 3) := by decide +kernel
theorem dX7_bestMove_59 : decode cX7_bestMove 59 = .ok (.goto (-35), 3) := by decide +kernel
theorem dX7_bestMove_62 : decode cX7_bestMove 62 = .ok (.iload_n 1, 1) := by decide +kernel
theorem dX7_bestMove_63 : decode cX7_bestMove 63 = .ok (.ireturn, 1) := by decide +kernel
theorem dX7_ifMoved_0 : decode cX7_ifMoved 0 = .ok (.aload_n 0, 1) := by decide +kernel
theorem dX7_ifMoved_1 : decode cX7_ifMoved 1 = .ok (.getfield 12, 3) := by decide +kernel
theorem dX7_ifMoved_4 : decode cX7_ifMoved 4 = .ok (.iload_n 1, 1) := by decide +kernel
theorem dX7_ifMoved_5 : decode cX7_ifMoved 5 = .ok (.invokevirtual 105, 3) := by decide +kernel
theorem dX7_ifMoved_8 : decode cX7_ifMoved 8 = .ok (.ifCond .ne 13, 3) := by decide +kernel
theorem dX7_ifMoved_11 : decode cX7_ifMoved 11 = .ok (.new 109, 3) := by decide +kernel
theorem dX7_ifMoved_14 : decode cX7_ifMoved 14 = .ok (.dup, 1) := by decide +kernel
theorem dX7_ifMoved_15 : decode cX7_ifMoved 15 = .ok (.ldc 93, 2) := by decide +kernel
theorem dX7_ifMoved_17 : decode cX7_ifMoved 17 = .ok (.invokespecial 111, 3) := by decide +kernel
theorem dX7_ifMoved_20 : decode cX7_ifMoved 20 = .ok (.athrow, 1) := by decide +kernel
theorem dX7_ifMoved_21 : decode cX7_ifMoved 21 = .ok (.aload_n 0, 1) := by decide +kernel
theorem dX7_ifMoved_22 : decode cX7_ifMoved 22 = .ok (.getfield 12, 3) := by decide +kernel
theorem dX7_ifMoved_25 : decode cX7_ifMoved 25 = .ok (.iload_n 1, 1) := by decide +kernel
theorem dX7_ifMoved_26 : decode cX7_ifMoved 26 = .ok (.invokevirtual 229, 3) := by decide +kernel
theorem dX7_ifMoved_29 : decode cX7_ifMoved 29 = .ok (.ireturn, 1) := by decide +kernel
theorem dX7_parts_0 : decode cX7_parts 0 = .ok (.iconst 0, 1) := by decide +kernel
theorem dX7_parts_1 : decode cX7_parts 1 = .ok (.istore_n 1, 1) := by decide +kernel
theorem dX7_parts_2 : decode cX7_parts 2 = .ok (.iconst 0, 1) := by decide +kernel
theorem dX7_parts_3 : decode cX7_parts 3 = .ok (.istore_n 2, 1) := by decide +kernel
theorem dX7_parts_4 : decode cX7_parts 4 = .ok (.iload_n 2, 1) := by decide +kernel
theorem dX7_parts_5 : decode cX7_parts 5 = .ok (.aload_n 0, 1) := by decide +kernel
theorem dX7_parts_6 : decode cX7_parts 6 = .ok (.getfield 12, 3) := by decide +kernel
theorem dX7_parts_9 : decode cX7_parts 9 = .ok (.getfield 223, 3) := by decide +kernel
theorem dX7_parts_12 : decode cX7_parts 12 = .ok (.if_icmp .ge 27, 3) := by decide +kernel
theorem dX7_parts_15 : decode cX7_parts 15 = .ok (.aload_n 0, 1) := by decide +kernel
theorem dX7_parts_16 : decode cX7_parts 16 = .ok (.getfield 12, 3) := by decide +kernel
theorem dX7_parts_19 : decode cX7_parts 19 = .ok (.iload_n 2, 1) := by decide +kernel
theorem dX7_parts_20 : decode cX7_parts 20 = .ok (.invokevirtual 243, 3) := by decide +kernel
theorem dX7_parts_23 : decode cX7_parts 23 = .ok (.invokestatic 179, 3) := by decide +kernel
theorem dX7_parts_26 : decode cX7_parts 26 = .ok (.iload_n 2, 1) := by decide +kernel
theorem dX7_parts_27 : decode cX7_parts 27 = .ok (.if_icmp .ne 6, 3) := by decide +kernel
theorem dX7_parts_30 : decode cX7_parts 30 = .ok (.iinc 1 1, 3) := by decide +kernel
theorem dX7_parts_33 : decode cX7_parts 33 = .ok (.iinc 2 1, 3) := by decide +kernel
theorem dX7_parts_36 : decode cX7_parts 36 = .ok (.goto (-32), 3) := by decide +kernel
theorem dX7_parts_39 : decode cX7_parts 39 = .ok (.iload_n 1, 1) := by decide +kernel
theorem dX7_parts_40 : decode cX7_parts 40 = .ok (.ireturn, 1) := by decide +kernel
theorem dX7_partOf_0 : decode cX7_partOf 0 = .ok (.aload_n 0, 1) := by decide +kernel
theorem dX7_partOf_1 : decode cX7_partOf 1 = .ok (.getfield 12, 3) := by decide +kernel
theorem dX7_partOf_4 : decode cX7_partOf 4 = .ok (.iload_n 1, 1) := by decide +kernel
theorem dX7_partOf_5 : decode cX7_partOf 5 = .ok (.invokevirtual 105, 3) := by decide +kernel
theorem dX7_partOf_8 : decode cX7_partOf 8 = .ok (.ifCond .ne 13, 3) := by decide +kernel
theorem dX7_partOf_11 : decode cX7_partOf 11 = .ok (.new 109, 3) := by decide +kernel
theorem dX7_partOf_14 : decode cX7_partOf 14 = .ok (.dup, 1) := by decide +kernel
theorem dX7_partOf_15 : decode cX7_partOf 15 = .ok (.ldc 93, 2) := by decide +kernel
theorem dX7_partOf_17 : decode cX7_partOf 17 = .ok (.invokespecial 111, 3) := by decide +kernel
theorem dX7_partOf_20 : decode cX7_partOf 20 = .ok (.athrow, 1) := by decide +kernel
theorem dX7_partOf_21 : decode cX7_partOf 21 = .ok (.aload_n 0, 1) := by decide +kernel
theorem dX7_partOf_22 : decode cX7_partOf 22 = .ok (.getfield 12, 3) := by decide +kernel
theorem dX7_partOf_25 : decode cX7_partOf 25 = .ok (.iload_n 1, 1) := by decide +kernel
theorem dX7_partOf_26 : decode cX7_partOf 26 = .ok (.invokevirtual 243, 3) := by decide +kernel
theorem dX7_partOf_29 : decode cX7_partOf 29 = .ok (.ireturn, 1) := by decide +kernel
theorem dX7_bondAt_0 : decode cX7_bondAt 0 = .ok (.aload_n 0, 1) := by decide +kernel
theorem dX7_bondAt_1 : decode cX7_bondAt 1 = .ok (.getfield 12, 3) := by decide +kernel
theorem dX7_bondAt_4 : decode cX7_bondAt 4 = .ok (.iload_n 1, 1) := by decide +kernel
theorem dX7_bondAt_5 : decode cX7_bondAt 5 = .ok (.invokevirtual 246, 3) := by decide +kernel
theorem dX7_bondAt_8 : decode cX7_bondAt 8 = .ok (.istore_n 2, 1) := by decide +kernel
theorem dX7_bondAt_9 : decode cX7_bondAt 9 = .ok (.iload_n 2, 1) := by decide +kernel
theorem dX7_bondAt_10 : decode cX7_bondAt 10 = .ok (.ifCond .ge 13, 3) := by decide +kernel
theorem dX7_bondAt_13 : decode cX7_bondAt 13 = .ok (.new 188, 3) := by decide +kernel
theorem dX7_bondAt_16 : decode cX7_bondAt 16 = .ok (.dup, 1) := by decide +kernel
theorem dX7_bondAt_17 : decode cX7_bondAt 17 = .ok (.ldc 249, 2) := by decide +kernel
theorem dX7_bondAt_19 : decode cX7_bondAt 19 = .ok (.invokespecial 192, 3) := by decide +kernel
theorem dX7_bondAt_22 : decode cX7_bondAt 22 = .ok (.athrow, 1) := by decide +kernel
theorem dX7_bondAt_23 : decode cX7_bondAt 23 = .ok (.iload_n 2, 1) := by decide +kernel
theorem dX7_bondAt_24 : decode cX7_bondAt 24 = .ok (.ireturn, 1) := by decide +kernel
theorem dX7_heaviest_0 : decode cX7_heaviest 0 = .ok (.aload_n 0, 1) := by decide +kernel
theorem dX7_heaviest_1 : decode cX7_heaviest 1 = .ok (.getfield 12, 3) := by decide +kernel
theorem dX7_heaviest_4 : decode cX7_heaviest 4 = .ok (.invokevirtual 251, 3) := by decide +kernel
theorem dX7_heaviest_7 : decode cX7_heaviest 7 = .ok (.istore_n 1, 1) := by decide +kernel
theorem dX7_heaviest_8 : decode cX7_heaviest 8 = .ok (.iload_n 1, 1) := by decide +kernel
theorem dX7_heaviest_9 : decode cX7_heaviest 9 = .ok (.ifCond .ge 13, 3) := by decide +kernel
theorem dX7_heaviest_12 : decode cX7_heaviest 12 = .ok (.new 188, 3) := by decide +kernel
theorem dX7_heaviest_15 : decode cX7_heaviest 15 = .ok (.dup, 1) := by decide +kernel
theorem dX7_heaviest_16 : decode cX7_heaviest 16 = .ok (.ldc 254, 2) := by decide +kernel
theorem dX7_heaviest_18 : decode cX7_heaviest 18 = .ok (.invokespecial 192, 3) := by decide +kernel
theorem dX7_heaviest_21 : decode cX7_heaviest 21 = .ok (.athrow, 1) := by decide +kernel
theorem dX7_heaviest_22 : decode cX7_heaviest 22 = .ok (.iload_n 1, 1) := by decide +kernel
theorem dX7_heaviest_23 : decode cX7_heaviest 23 = .ok (.ireturn, 1) := by decide +kernel
theorem dX7_ranked_0 : decode cX7_ranked 0 = .ok (.iload_n 1, 1) := by decide +kernel
theorem dX7_ranked_1 : decode cX7_ranked 1 = .ok (.ifCond .lt 8, 3) := by decide +kernel
theorem dX7_ranked_4 : decode cX7_ranked 4 = .ok (.iload_n 1, 1) := by decide +kernel
theorem dX7_ranked_5 : decode cX7_ranked 5 = .ok (.iconst 3, 1) := by decide +kernel
theorem dX7_ranked_6 : decode cX7_ranked 6 = .ok (.if_icmp .le 14, 3) := by decide +kernel
theorem dX7_ranked_9 : decode cX7_ranked 9 = .ok (.new 139, 3) := by decide +kernel
theorem dX7_ranked_12 : decode cX7_ranked 12 = .ok (.dup, 1) := by decide +kernel
theorem dX7_ranked_13 : decode cX7_ranked 13 = .ok (.ldc_w 256, 3) := by decide +kernel
theorem dX7_ranked_16 : decode cX7_ranked 16 = .ok (.invokespecial 143, 3) := by decide +kernel
theorem dX7_ranked_19 : decode cX7_ranked 19 = .ok (.athrow, 1) := by decide +kernel
theorem dX7_ranked_20 : decode cX7_ranked 20 = .ok (.aload_n 0, 1) := by decide +kernel
theorem dX7_ranked_21 : decode cX7_ranked 21 = .ok (.getfield 12, 3) := by decide +kernel
theorem dX7_ranked_24 : decode cX7_ranked 24 = .ok (.iload_n 2, 1) := by decide +kernel
theorem dX7_ranked_25 : decode cX7_ranked 25 = .ok (.invokevirtual 105, 3) := by decide +kernel
theorem dX7_ranked_28 : decode cX7_ranked 28 = .ok (.ifCond .ne 13, 3) := by decide +kernel
theorem dX7_ranked_31 : decode cX7_ranked 31 = .ok (.new 188, 3) := by decide +kernel
theorem dX7_ranked_34 : decode cX7_ranked 34 = .ok (.dup, 1) := by decide +kernel
theorem dX7_ranked_35 : decode cX7_ranked 35 = .ok (.ldc 190, 2) := by decide +kernel
theorem dX7_ranked_37 : decode cX7_ranked 37 = .ok (.invokespecial 192, 3) := by decide +kernel
theorem dX7_ranked_40 : decode cX7_ranked 40 = .ok (.athrow, 1) := by decide +kernel
theorem dX7_ranked_41 : decode cX7_ranked 41 = .ok (.aload_n 0, 1) := by decide +kernel
theorem dX7_ranked_42 : decode cX7_ranked 42 = .ok (.iload_n 1, 1) := by decide +kernel
theorem dX7_ranked_43 : decode cX7_ranked 43 = .ok (.invokevirtual 258, 3) := by decide +kernel
theorem dX7_ranked_46 : decode cX7_ranked 46 = .ok (.aload_n 0, 1) := by decide +kernel
theorem dX7_ranked_47 : decode cX7_ranked 47 = .ok (.iload_n 2, 1) := by decide +kernel
theorem dX7_ranked_48 : decode cX7_ranked 48 = .ok (.invokevirtual 262, 3) := by decide +kernel
theorem dX7_ranked_51 : decode cX7_ranked 51 = .ok (.ireturn, 1) := by decide +kernel
theorem dX7_isTold_0 : decode cX7_isTold 0 = .ok (.aload_n 0, 1) := by decide +kernel
theorem dX7_isTold_1 : decode cX7_isTold 1 = .ok (.getfield 12, 3) := by decide +kernel
theorem dX7_isTold_4 : decode cX7_isTold 4 = .ok (.invokevirtual 152, 3) := by decide +kernel
theorem dX7_isTold_7 : decode cX7_isTold 7 = .ok (.aload_n 0, 1) := by decide +kernel
theorem dX7_isTold_8 : decode cX7_isTold 8 = .ok (.getfield 12, 3) := by decide +kernel
theorem dX7_isTold_11 : decode cX7_isTold 11 = .ok (.invokevirtual 155, 3) := by decide +kernel
theorem dX7_isTold_14 : decode cX7_isTold 14 = .ok (.if_icmp .eq 5, 3) := by decide +kernel
theorem dX7_isTold_17 : decode cX7_isTold 17 = .ok (.iconst 0, 1) := by decide +kernel
theorem dX7_isTold_18 : decode cX7_isTold 18 = .ok (.ireturn, 1) := by decide +kernel
theorem dX7_isTold_19 : decode cX7_isTold 19 = .ok (.aload_n 0, 1) := by decide +kernel
theorem dX7_isTold_20 : decode cX7_isTold 20 = .ok (.invokevirtual 196, 3) := by decide +kernel
theorem dX7_isTold_23 : decode cX7_isTold 23 = .ok (.ifCond .ne 10, 3) := by decide +kernel
theorem dX7_isTold_26 : decode cX7_isTold 26 = .ok (.aload_n 0, 1) := by decide +kernel
theorem dX7_isTold_27 : decode cX7_isTold 27 = .ok (.invokevirtual 265, 3) := by decide +kernel
theorem dX7_isTold_30 : decode cX7_isTold 30 = .ok (.ifCond .eq 7, 3) := by decide +kernel
theorem dX7_isTold_33 : decode cX7_isTold 33 = .ok (.iconst 1, 1) := by decide +kernel
theorem dX7_isTold_34 : decode cX7_isTold 34 = .ok (.goto 4, 3) := by decide +kernel
theorem dX7_isTold_37 : decode cX7_isTold 37 = .ok (.iconst 0, 1) := by decide +kernel
theorem dX7_isTold_38 : decode cX7_isTold 38 = .ok (.ireturn, 1) := by decide +kernel
theorem dX7_reason_0 : decode cX7_reason 0 = .ok (.iload_n 1, 1) := by decide +kernel
theorem dX7_reason_1 : decode cX7_reason 1 = .ok (.ifCond .eq 19, 3) := by decide +kernel
theorem dX7_reason_4 : decode cX7_reason 4 = .ok (.iload_n 1, 1) := by decide +kernel
theorem dX7_reason_5 : decode cX7_reason 5 = .ok (.iconst 1, 1) := by decide +kernel
theorem dX7_reason_6 : decode cX7_reason 6 = .ok (.if_icmp .eq 14, 3) := by decide +kernel
theorem dX7_reason_9 : decode cX7_reason 9 = .ok (.new 139, 3) := by decide +kernel
theorem dX7_reason_12 : decode cX7_reason 12 = .ok (.dup, 1) := by decide +kernel
theorem dX7_reason_13 : decode cX7_reason 13 = .ok (.ldc_w 298, 3) := by decide +kernel
theorem dX7_reason_16 : decode cX7_reason 16 = .ok (.invokespecial 143, 3) := by decide +kernel
theorem dX7_reason_19 : decode cX7_reason 19 = .ok (.athrow, 1) := by decide +kernel
theorem dX7_reason_20 : decode cX7_reason 20 = .ok (.aload_n 0, 1) := by decide +kernel
theorem dX7_reason_21 : decode cX7_reason 21 = .ok (.getfield 60, 3) := by decide +kernel
theorem dX7_reason_24 : decode cX7_reason 24 = .ok (.iload_n 1, 1) := by decide +kernel
theorem dX7_reason_25 : decode cX7_reason 25 = .ok (.invokevirtual 300, 3) := by decide +kernel
theorem dX7_reason_28 : decode cX7_reason 28 = .ok (.ifCond .ne 14, 3) := by decide +kernel
theorem dX7_reason_31 : decode cX7_reason 31 = .ok (.new 188, 3) := by decide +kernel
theorem dX7_reason_34 : decode cX7_reason 34 = .ok (.dup, 1) := by decide +kernel
theorem dX7_reason_35 : decode cX7_reason 35 = .ok (.ldc_w 303, 3) := by decide +kernel
theorem dX7_reason_38 : decode cX7_reason 38 = .ok (.invokespecial 192, 3) := by decide +kernel
theorem dX7_reason_41 : decode cX7_reason 41 = .ok (.athrow, 1) := by decide +kernel
theorem dX7_reason_42 : decode cX7_reason 42 = .ok (.aload_n 0, 1) := by decide +kernel
theorem dX7_reason_43 : decode cX7_reason 43 = .ok (.getfield 60, 3) := by decide +kernel
theorem dX7_reason_46 : decode cX7_reason 46 = .ok (.iload_n 1, 1) := by decide +kernel
theorem dX7_reason_47 : decode cX7_reason 47 = .ok (.iload_n 2, 1) := by decide +kernel
theorem dX7_reason_48 : decode cX7_reason 48 = .ok (.invokevirtual 305, 3) := by decide +kernel
theorem dX7_reason_51 : decode cX7_reason 51 = .ok (.ireturn, 1) := by decide +kernel
theorem dX7_tell_0 : decode cX7_tell 0 = .ok (.aload_n 0, 1) := by decide +kernel
theorem dX7_tell_1 : decode cX7_tell 1 = .ok (.getfield 67, 3) := by decide +kernel
theorem dX7_tell_4 : decode cX7_tell 4 = .ok (.iconst 0, 1) := by decide +kernel
theorem dX7_tell_5 : decode cX7_tell 5 = .ok (.invokevirtual 309, 3) := by decide +kernel
theorem dX7_tell_8 : decode cX7_tell 8 = .ok (.iconst 0, 1) := by decide +kernel
theorem dX7_tell_9 : decode cX7_tell 9 = .ok (.istore_n 1, 1) := by decide +kernel
theorem dX7_tell_10 : decode cX7_tell 10 = .ok (.iload_n 1, 1) := by decide +kernel
theorem dX7_tell_11 : decode cX7_tell 11 = .ok (.aload_n 0, 1) := by decide +kernel
theorem dX7_tell_12 : decode cX7_tell 12 = .ok (.getfield 12, 3) := by decide +kernel
theorem dX7_tell_15 : decode cX7_tell 15 = .ok (.getfield 223, 3) := by decide +kernel
theorem dX7_tell_18 : decode cX7_tell 18 = .ok (.if_icmp .ge 48, 3) := by decide +kernel
theorem dX7_tell_21 : decode cX7_tell 21 = .ok (.iload_n 1, 1) := by decide +kernel
theorem dX7_tell_22 : decode cX7_tell 22 = .ok (.iconst 1, 1) := by decide +kernel
theorem dX7_tell_23 : decode cX7_tell 23 = .ok (.iadd, 1) := by decide +kernel
theorem dX7_tell_24 : decode cX7_tell 24 = .ok (.istore_n 2, 1) := by decide +kernel
theorem dX7_tell_25 : decode cX7_tell 25 = .ok (.iload_n 2, 1) := by decide +kernel
theorem dX7_tell_26 : decode cX7_tell 26 = .ok (.aload_n 0, 1) := by decide +kernel
theorem dX7_tell_27 : decode cX7_tell 27 = .ok (.getfield 12, 3) := by decide +kernel
theorem dX7_tell_30 : decode cX7_tell 30 = .ok (.getfield 223, 3) := by decide +kernel
theorem dX7_tell_33 : decode cX7_tell 33 = .ok (.if_icmp .ge 27, 3) := by decide +kernel
theorem dX7_tell_36 : decode cX7_tell 36 = .ok (.aload_n 0, 1) := by decide +kernel
theorem dX7_tell_37 : decode cX7_tell 37 = .ok (.getfield 12, 3) := by decide +kernel
theorem dX7_tell_40 : decode cX7_tell 40 = .ok (.iload_n 1, 1) := by decide +kernel
theorem dX7_tell_41 : decode cX7_tell 41 = .ok (.iload_n 2, 1) := by decide +kernel
theorem dX7_tell_42 : decode cX7_tell 42 = .ok (.invokevirtual 112, 3) := by decide +kernel
theorem dX7_tell_45 : decode cX7_tell 45 = .ok (.ifCond .le 9, 3) := by decide +kernel
theorem dX7_tell_48 : decode cX7_tell 48 = .ok (.aload_n 0, 1) := by decide +kernel
theorem dX7_tell_49 : decode cX7_tell 49 = .ok (.iload_n 1, 1) := by decide +kernel
theorem dX7_tell_50 : decode cX7_tell 50 = .ok (.iload_n 2, 1) := by decide +kernel
theorem dX7_tell_51 : decode cX7_tell 51 = .ok (.invokevirtual 312, 3) := by decide +kernel
theorem dX7_tell_54 : decode cX7_tell 54 = .ok (.iinc 2 1, 3) := by decide +kernel
theorem dX7_tell_57 : decode cX7_tell 57 = .ok (.goto (-32), 3) := by decide +kernel
theorem dX7_tell_60 : decode cX7_tell 60 = .ok (.iinc 1 1, 3) := by decide +kernel
theorem dX7_tell_63 : decode cX7_tell 63 = .ok (.goto (-53), 3) := by decide +kernel
theorem dX7_tell_66 : decode cX7_tell 66 = .ok (.aload_n 0, 1) := by decide +kernel
theorem dX7_tell_67 : decode cX7_tell 67 = .ok (.getfield 67, 3) := by decide +kernel
theorem dX7_tell_70 : decode cX7_tell 70 = .ok (.invokevirtual 316, 3) := by decide +kernel
theorem dX7_tell_73 : decode cX7_tell 73 = .ok (.ireturn, 1) := by decide +kernel
theorem dX7_tellPhase_0 : decode cX7_tellPhase 0 = .ok (.aload_n 0, 1) := by decide +kernel
theorem dX7_tellPhase_1 : decode cX7_tellPhase 1 = .ok (.iload_n 1, 1) := by decide +kernel
theorem dX7_tellPhase_2 : decode cX7_tellPhase 2 = .ok (.invokevirtual 161, 3) := by decide +kernel
theorem dX7_tellPhase_5 : decode cX7_tellPhase 5 = .ok (.ifCond .ne 13, 3) := by decide +kernel
theorem dX7_tellPhase_8 : decode cX7_tellPhase 8 = .ok (.new 109, 3) := by decide +kernel
theorem dX7_tellPhase_11 : decode cX7_tellPhase 11 = .ok (.dup, 1) := by decide +kernel
theorem dX7_tellPhase_12 : decode cX7_tellPhase 12 = .ok (.ldc 164, 2) := by decide +kernel
theorem dX7_tellPhase_14 : decode cX7_tellPhase 14 = .ok (.invokespecial 111, 3) := by decide +kernel
theorem dX7_tellPhase_17 : decode cX7_tellPhase 17 = .ok (.athrow, 1) := by decide +kernel
theorem dX7_tellPhase_18 : decode cX7_tellPhase 18 = .ok (.aload_n 0, 1) := by decide +kernel
theorem dX7_tellPhase_19 : decode cX7_tellPhase 19 = .ok (.getfield 32, 3) := by decide +kernel
theorem dX7_tellPhase_22 : decode cX7_tellPhase 22 = .ok (.aload_n 0, 1) := by decide +kernel
theorem dX7_tellPhase_23 : decode cX7_tellPhase 23 = .ok (.getfield 12, 3) := by decide +kernel
theorem dX7_tellPhase_26 : decode cX7_tellPhase 26 = .ok (.invokevirtual 166, 3) := by decide +kernel
theorem dX7_tellPhase_29 : decode cX7_tellPhase 29 = .ok (.aload_n 0, 1) := by decide +kernel
theorem dX7_tellPhase_30 : decode cX7_tellPhase 30 = .ok (.getfield 67, 3) := by decide +kernel
theorem dX7_tellPhase_33 : decode cX7_tellPhase 33 = .ok (.iconst 0, 1) := by decide +kernel
theorem dX7_tellPhase_34 : decode cX7_tellPhase 34 = .ok (.invokevirtual 309, 3) := by decide +kernel
theorem dX7_tellPhase_37 : decode cX7_tellPhase 37 = .ok (.iconst 0, 1) := by decide +kernel
theorem dX7_tellPhase_38 : decode cX7_tellPhase 38 = .ok (.istore_n 2, 1) := by decide +kernel
theorem dX7_tellPhase_39 : decode cX7_tellPhase 39 = .ok (.iload_n 2, 1) := by decide +kernel
theorem dX7_tellPhase_40 : decode cX7_tellPhase 40 = .ok (.aload_n 0, 1) := by decide +kernel
theorem dX7_tellPhase_41 : decode cX7_tellPhase 41 = .ok (.getfield 32, 3) := by decide +kernel
theorem dX7_tellPhase_44 : decode cX7_tellPhase 44 = .ok (.iload_n 1, 1) := by decide +kernel
theorem dX7_tellPhase_45 : decode cX7_tellPhase 45 = .ok (.invokevirtual 170, 3) := by decide +kernel
theorem dX7_tellPhase_48 : decode cX7_tellPhase 48 = .ok (.if_icmp .ge 36, 3) := by decide +kernel
theorem dX7_tellPhase_51 : decode cX7_tellPhase 51 = .ok (.iload_n 2, 1) := by decide +kernel
theorem dX7_tellPhase_52 : decode cX7_tellPhase 52 = .ok (.ifCond .le 13, 3) := by decide +kernel
theorem dX7_tellPhase_55 : decode cX7_tellPhase 55 = .ok (.aload_n 0, 1) := by decide +kernel
theorem dX7_tellPhase_56 : decode cX7_tellPhase 56 = .ok (.getfield 67, 3) := by decide +kernel
theorem dX7_tellPhase_59 : decode cX7_tellPhase 59 = .ok (.bipush 60, 2) := by decide +kernel
theorem dX7_tellPhase_61 : decode cX7_tellPhase 61 = .ok (.invokevirtual 317, 3) := by decide +kernel
theorem dX7_tellPhase_64 : decode cX7_tellPhase 64 = .ok (.pop, 1) := by decide +kernel
theorem dX7_tellPhase_65 : decode cX7_tellPhase 65 = .ok (.aload_n 0, 1) := by decide +kernel
theorem dX7_tellPhase_66 : decode cX7_tellPhase 66 = .ok (.aload_n 0, 1) := by decide +kernel
theorem dX7_tellPhase_67 : decode cX7_tellPhase 67 = .ok (.getfield 32, 3) := by decide +kernel
theorem dX7_tellPhase_70 : decode cX7_tellPhase 70 = .ok (.iload_n 1, 1) := by decide +kernel
theorem dX7_tellPhase_71 : decode cX7_tellPhase 71 = .ok (.iload_n 2, 1) := by decide +kernel
theorem dX7_tellPhase_72 : decode cX7_tellPhase 72 = .ok (.invokevirtual 176, 3) := by decide +kernel
theorem dX7_tellPhase_75 : decode cX7_tellPhase 75 = .ok (.invokevirtual 321, 3) := by decide +kernel
theorem dX7_tellPhase_78 : decode cX7_tellPhase 78 = .ok (.iinc 2 1, 3) := by decide +kernel
theorem dX7_tellPhase_81 : decode cX7_tellPhase 81 = .ok (.goto (-42), 3) := by decide +kernel
theorem dX7_tellPhase_84 : decode cX7_tellPhase 84 = .ok (.aload_n 0, 1) := by decide +kernel
theorem dX7_tellPhase_85 : decode cX7_tellPhase 85 = .ok (.getfield 67, 3) := by decide +kernel
theorem dX7_tellPhase_88 : decode cX7_tellPhase 88 = .ok (.bipush 61, 2) := by decide +kernel
theorem dX7_tellPhase_90 : decode cX7_tellPhase 90 = .ok (.invokevirtual 317, 3) := by decide +kernel
theorem dX7_tellPhase_93 : decode cX7_tellPhase 93 = .ok (.pop, 1) := by decide +kernel
theorem dX7_tellPhase_94 : decode cX7_tellPhase 94 = .ok (.aload_n 0, 1) := by decide +kernel
theorem dX7_tellPhase_95 : decode cX7_tellPhase 95 = .ok (.getfield 67, 3) := by decide +kernel
theorem dX7_tellPhase_98 : decode cX7_tellPhase 98 = .ok (.aload_n 0, 1) := by decide +kernel
theorem dX7_tellPhase_99 : decode cX7_tellPhase 99 = .ok (.getfield 32, 3) := by decide +kernel
theorem dX7_tellPhase_102 : decode cX7_tellPhase 102 = .ok (.iload_n 1, 1) := by decide +kernel
theorem dX7_tellPhase_103 : decode cX7_tellPhase 103 = .ok (.invokevirtual 173, 3) := by decide +kernel
theorem dX7_tellPhase_106 : decode cX7_tellPhase 106 = .ok (.invokevirtual 324, 3) := by decide +kernel
theorem dX7_tellPhase_109 : decode cX7_tellPhase 109 = .ok (.pop, 1) := by decide +kernel
theorem dX7_tellPhase_110 : decode cX7_tellPhase 110 = .ok (.aload_n 0, 1) := by decide +kernel
theorem dX7_tellPhase_111 : decode cX7_tellPhase 111 = .ok (.getfield 67, 3) := by decide +kernel
theorem dX7_tellPhase_114 : decode cX7_tellPhase 114 = .ok (.invokevirtual 316, 3) := by decide +kernel
theorem dX7_tellPhase_117 : decode cX7_tellPhase 117 = .ok (.ireturn, 1) := by decide +kernel
theorem dX7_tellSides_0 : decode cX7_tellSides 0 = .ok (.aload_n 0, 1) := by decide +kernel
theorem dX7_tellSides_1 : decode cX7_tellSides 1 = .ok (.getfield 67, 3) := by decide +kernel
theorem dX7_tellSides_4 : decode cX7_tellSides 4 = .ok (.iconst 0, 1) := by decide +kernel
theorem dX7_tellSides_5 : decode cX7_tellSides 5 = .ok (.invokevirtual 309, 3) := by decide +kernel
theorem dX7_tellSides_8 : decode cX7_tellSides 8 = .ok (.aload_n 0, 1) := by decide +kernel
theorem dX7_tellSides_9 : decode cX7_tellSides 9 = .ok (.aload_n 0, 1) := by decide +kernel
theorem dX7_tellSides_10 : decode cX7_tellSides 10 = .ok (.getfield 12, 3) := by decide +kernel
theorem dX7_tellSides_13 : decode cX7_tellSides 13 = .ok (.invokevirtual 123, 3) := by decide +kernel
theorem dX7_tellSides_16 : decode cX7_tellSides 16 = .ok (.aload_n 0, 1) := by decide +kernel
theorem dX7_tellSides_17 : decode cX7_tellSides 17 = .ok (.getfield 12, 3) := by decide +kernel
theorem dX7_tellSides_20 : decode cX7_tellSides 20 = .ok (.getfield 327, 3) := by decide +kernel
theorem dX7_tellSides_23 : decode cX7_tellSides 23 = .ok (.iconst (-1), 1) := by decide +kernel
theorem dX7_tellSides_24 : decode cX7_tellSides 24 = .ok (.ixor, 1) := by decide +kernel
theorem dX7_tellSides_25 : decode cX7_tellSides 25 = .ok (.iand, 1) := by decide +kernel
theorem dX7_tellSides_26 : decode cX7_tellSides 26 = .ok (.invokevirtual 321, 3) := by decide +kernel
theorem dX7_tellSides_29 : decode cX7_tellSides 29 = .ok (.aload_n 0, 1) := by decide +kernel
theorem dX7_tellSides_30 : decode cX7_tellSides 30 = .ok (.getfield 67, 3) := by decide +kernel
theorem dX7_tellSides_33 : decode cX7_tellSides 33 = .ok (.bipush 124, 2) := by decide +kernel
theorem dX7_tellSides_35 : decode cX7_tellSides 35 = .ok (.invokevirtual 317, 3) := by decide +kernel
theorem dX7_tellSides_38 : decode cX7_tellSides 38 = .ok (.pop, 1) := by decide +kernel
theorem dX7_tellSides_39 : decode cX7_tellSides 39 = .ok (.aload_n 0, 1) := by decide +kernel
theorem dX7_tellSides_40 : decode cX7_tellSides 40 = .ok (.aload_n 0, 1) := by decide +kernel
theorem dX7_tellSides_41 : decode cX7_tellSides 41 = .ok (.getfield 12, 3) := by decide +kernel
theorem dX7_tellSides_44 : decode cX7_tellSides 44 = .ok (.getfield 327, 3) := by decide +kernel
theorem dX7_tellSides_47 : decode cX7_tellSides 47 = .ok (.invokevirtual 321, 3) := by decide +kernel
theorem dX7_tellSides_50 : decode cX7_tellSides 50 = .ok (.aload_n 0, 1) := by decide +kernel
theorem dX7_tellSides_51 : decode cX7_tellSides 51 = .ok (.getfield 67, 3) := by decide +kernel
theorem dX7_tellSides_54 : decode cX7_tellSides 54 = .ok (.invokevirtual 316, 3) := by decide +kernel
theorem dX7_tellSides_57 : decode cX7_tellSides 57 = .ok (.ireturn, 1) := by decide +kernel
theorem dX7_character_0 : decode cX7_character 0 = .ok (.iload_n 1, 1) := by decide +kernel
theorem dX7_character_1 : decode cX7_character 1 = .ok (.ifCond .lt 14, 3) := by decide +kernel
theorem dX7_character_4 : decode cX7_character 4 = .ok (.iload_n 1, 1) := by decide +kernel
theorem dX7_character_5 : decode cX7_character 5 = .ok (.aload_n 0, 1) := by decide +kernel
theorem dX7_character_6 : decode cX7_character 6 = .ok (.getfield 67, 3) := by decide +kernel
theorem dX7_character_9 : decode cX7_character 9 = .ok (.invokevirtual 316, 3) := by decide +kernel
theorem dX7_character_12 : decode cX7_character 12 = .ok (.if_icmp .lt 14, 3) := by decide +kernel
theorem dX7_character_15 : decode cX7_character 15 = .ok (.new 109, 3) := by decide +kernel
theorem dX7_character_18 : decode cX7_character 18 = .ok (.dup, 1) := by decide +kernel
theorem dX7_character_19 : decode cX7_character 19 = .ok (.ldc_w 330, 3) := by decide +kernel
theorem dX7_character_22 : decode cX7_character 22 = .ok (.invokespecial 111, 3) := by decide +kernel
theorem dX7_character_25 : decode cX7_character 25 = .ok (.athrow, 1) := by decide +kernel
theorem dX7_character_26 : decode cX7_character 26 = .ok (.aload_n 0, 1) := by decide +kernel
theorem dX7_character_27 : decode cX7_character 27 = .ok (.getfield 67, 3) := by decide +kernel
theorem dX7_character_30 : decode cX7_character 30 = .ok (.iload_n 1, 1) := by decide +kernel
theorem dX7_character_31 : decode cX7_character 31 = .ok (.invokevirtual 332, 3) := by decide +kernel
theorem dX7_character_34 : decode cX7_character 34 = .ok (.ireturn, 1) := by decide +kernel
theorem dX7_account_0 : decode cX7_account 0 = .ok (.iload_n 1, 1) := by decide +kernel
theorem dX7_account_1 : decode cX7_account 1 = .ok (.tableswitch 150 0 10 #[59, 67, 75, 83, 94, 102, 110, 118, 126, 134, 142], 59) := by decide +kernel
theorem dX7_account_60 : decode cX7_account 60 = .ok (.aload_n 0, 1) := by decide +kernel
theorem dX7_account_61 : decode cX7_account 61 = .ok (.getfield 12, 3) := by decide +kernel
theorem dX7_account_64 : decode cX7_account 64 = .ok (.getfield 223, 3) := by decide +kernel
theorem dX7_account_67 : decode cX7_account 67 = .ok (.ireturn, 1) := by decide +kernel
theorem dX7_account_68 : decode cX7_account 68 = .ok (.aload_n 0, 1) := by decide +kernel
theorem dX7_account_69 : decode cX7_account 69 = .ok (.getfield 12, 3) := by decide +kernel
theorem dX7_account_72 : decode cX7_account 72 = .ok (.invokevirtual 336, 3) := by decide +kernel
theorem dX7_account_75 : decode cX7_account 75 = .ok (.ireturn, 1) := by decide +kernel
theorem dX7_account_76 : decode cX7_account 76 = .ok (.aload_n 0, 1) := by decide +kernel
theorem dX7_account_77 : decode cX7_account 77 = .ok (.getfield 12, 3) := by decide +kernel
theorem dX7_account_80 : decode cX7_account 80 = .ok (.invokevirtual 339, 3) := by decide +kernel
theorem dX7_account_83 : decode cX7_account 83 = .ok (.ireturn, 1) := by decide +kernel
theorem dX7_account_84 : decode cX7_account 84 = .ok (.aload_n 0, 1) := by decide +kernel
theorem dX7_account_85 : decode cX7_account 85 = .ok (.getfield 12, 3) := by decide +kernel
theorem dX7_account_88 : decode cX7_account 88 = .ok (.getfield 327, 3) := by decide +kernel
theorem dX7_account_91 : decode cX7_account 91 = .ok (.invokestatic 342, 3) := by decide +kernel
theorem dX7_account_94 : decode cX7_account 94 = .ok (.ireturn, 1) := by decide +kernel
theorem dX7_account_95 : decode cX7_account 95 = .ok (.aload_n 0, 1) := by decide +kernel
theorem dX7_account_96 : decode cX7_account 96 = .ok (.getfield 12, 3) := by decide +kernel
theorem dX7_account_99 : decode cX7_account 99 = .ok (.invokevirtual 347, 3) := by decide +kernel
theorem dX7_account_102 : decode cX7_account 102 = .ok (.ireturn, 1) := by decide +kernel
theorem dX7_account_103 : decode cX7_account 103 = .ok (.aload_n 0, 1) := by decide +kernel
theorem dX7_account_104 : decode cX7_account 104 = .ok (.getfield 12, 3) := by decide +kernel
theorem dX7_account_107 : decode cX7_account 107 = .ok (.getfield 350, 3) := by decide +kernel
theorem dX7_account_110 : decode cX7_account 110 = .ok (.ireturn, 1) := by decide +kernel
theorem dX7_account_111 : decode cX7_account 111 = .ok (.aload_n 0, 1) := by decide +kernel
theorem dX7_account_112 : decode cX7_account 112 = .ok (.getfield 12, 3) := by decide +kernel
theorem dX7_account_115 : decode cX7_account 115 = .ok (.getfield 353, 3) := by decide +kernel
theorem dX7_account_118 : decode cX7_account 118 = .ok (.ireturn, 1) := by decide +kernel
theorem dX7_account_119 : decode cX7_account 119 = .ok (.aload_n 0, 1) := by decide +kernel
theorem dX7_account_120 : decode cX7_account 120 = .ok (.getfield 12, 3) := by decide +kernel
theorem dX7_account_123 : decode cX7_account 123 = .ok (.getfield 356, 3) := by decide +kernel
theorem dX7_account_126 : decode cX7_account 126 = .ok (.ireturn, 1) := by decide +kernel
theorem dX7_account_127 : decode cX7_account 127 = .ok (.aload_n 0, 1) := by decide +kernel
theorem dX7_account_128 : decode cX7_account 128 = .ok (.getfield 12, 3) := by decide +kernel
theorem dX7_account_131 : decode cX7_account 131 = .ok (.invokevirtual 359, 3) := by decide +kernel
theorem dX7_account_134 : decode cX7_account 134 = .ok (.ireturn, 1) := by decide +kernel
theorem dX7_account_135 : decode cX7_account 135 = .ok (.aload_n 0, 1) := by decide +kernel
theorem dX7_account_136 : decode cX7_account 136 = .ok (.getfield 53, 3) := by decide +kernel
theorem dX7_account_139 : decode cX7_account 139 = .ok (.invokevirtual 270, 3) := by decide +kernel
theorem dX7_account_142 : decode cX7_account 142 = .ok (.ireturn, 1) := by decide +kernel
theorem dX7_account_143 : decode cX7_account 143 = .ok (.aload_n 0, 1) := by decide +kernel
theorem dX7_account_144 : decode cX7_account 144 = .ok (.getfield 25, 3) := by decide +kernel
theorem dX7_account_147 : decode cX7_account 147 = .ok (.invokevirtual 362, 3) := by decide +kernel
theorem dX7_account_150 : decode cX7_account 150 = .ok (.ireturn, 1) := by decide +kernel
theorem dX7_account_151 : decode cX7_account 151 = .ok (.new 139, 3) := by decide +kernel
theorem dX7_account_154 : decode cX7_account 154 = .ok (.dup, 1) := by decide +kernel
theorem dX7_account_155 : decode cX7_account 155 = .ok (.ldc_w 365, 3) := by decide +kernel
theorem dX7_account_158 : decode cX7_account 158 = .ok (.invokespecial 143, 3) := by decide +kernel
theorem dX7_account_161 : decode cX7_account 161 = .ok (.athrow, 1) := by decide +kernel
theorem dX7_meanWeight_0 : decode cX7_meanWeight 0 = .ok (.aload_n 0, 1) := by decide +kernel
theorem dX7_meanWeight_1 : decode cX7_meanWeight 1 = .ok (.getfield 12, 3) := by decide +kernel
theorem dX7_meanWeight_4 : decode cX7_meanWeight 4 = .ok (.invokevirtual 336, 3) := by decide +kernel
theorem dX7_meanWeight_7 : decode cX7_meanWeight 7 = .ok (.istore_n 1, 1) := by decide +kernel
theorem dX7_meanWeight_8 : decode cX7_meanWeight 8 = .ok (.iload_n 1, 1) := by decide +kernel
theorem dX7_meanWeight_9 : decode cX7_meanWeight 9 = .ok (.ifCond .ne 13, 3) := by decide +kernel
theorem dX7_meanWeight_12 : decode cX7_meanWeight 12 = .ok (.new 367, 3) := by decide +kernel
theorem dX7_meanWeight_15 : decode cX7_meanWeight 15 = .ok (.dup, 1) := by decide +kernel
theorem dX7_meanWeight_16 : decode cX7_meanWeight 16 = .ok (.ldc 254, 2) := by decide +kernel
theorem dX7_meanWeight_18 : decode cX7_meanWeight 18 = .ok (.invokespecial 369, 3) := by decide +kernel
theorem dX7_meanWeight_21 : decode cX7_meanWeight 21 = .ok (.athrow, 1) := by decide +kernel
theorem dX7_meanWeight_22 : decode cX7_meanWeight 22 = .ok (.aload_n 0, 1) := by decide +kernel
theorem dX7_meanWeight_23 : decode cX7_meanWeight 23 = .ok (.getfield 12, 3) := by decide +kernel
theorem dX7_meanWeight_26 : decode cX7_meanWeight 26 = .ok (.invokevirtual 339, 3) := by decide +kernel
theorem dX7_meanWeight_29 : decode cX7_meanWeight 29 = .ok (.i2d, 1) := by decide +kernel
theorem dX7_meanWeight_30 : decode cX7_meanWeight 30 = .ok (.iload_n 1, 1) := by decide +kernel
theorem dX7_meanWeight_31 : decode cX7_meanWeight 31 = .ok (.i2d, 1) := by decide +kernel
theorem dX7_meanWeight_32 : decode cX7_meanWeight 32 = .ok (.ddiv, 1) := by decide +kernel
theorem dX7_meanWeight_33 : decode cX7_meanWeight 33 = .ok (.dreturn, 1) := by decide +kernel
theorem dX7_feudShare_0 : decode cX7_feudShare 0 = .ok (.aload_n 0, 1) := by decide +kernel
theorem dX7_feudShare_1 : decode cX7_feudShare 1 = .ok (.getfield 12, 3) := by decide +kernel
theorem dX7_feudShare_4 : decode cX7_feudShare 4 = .ok (.invokevirtual 339, 3) := by decide +kernel
theorem dX7_feudShare_7 : decode cX7_feudShare 7 = .ok (.istore_n 1, 1) := by decide +kernel
theorem dX7_feudShare_8 : decode cX7_feudShare 8 = .ok (.iload_n 1, 1) := by decide +kernel
theorem dX7_feudShare_9 : decode cX7_feudShare 9 = .ok (.ifCond .ne 13, 3) := by decide +kernel
theorem dX7_feudShare_12 : decode cX7_feudShare 12 = .ok (.new 367, 3) := by decide +kernel
theorem dX7_feudShare_15 : decode cX7_feudShare 15 = .ok (.dup, 1) := by decide +kernel
theorem dX7_feudShare_16 : decode cX7_feudShare 16 = .ok (.ldc 254, 2) := by decide +kernel
theorem dX7_feudShare_18 : decode cX7_feudShare 18 = .ok (.invokespecial 369, 3) := by decide +kernel
theorem dX7_feudShare_21 : decode cX7_feudShare 21 = .ok (.athrow, 1) := by decide +kernel
theorem dX7_feudShare_22 : decode cX7_feudShare 22 = .ok (.aload_n 0, 1) := by decide +kernel
theorem dX7_feudShare_23 : decode cX7_feudShare 23 = .ok (.getfield 12, 3) := by decide +kernel
theorem dX7_feudShare_26 : decode cX7_feudShare 26 = .ok (.invokevirtual 152, 3) := by decide +kernel
theorem dX7_feudShare_29 : decode cX7_feudShare 29 = .ok (.i2f, 1) := by decide +kernel
theorem dX7_feudShare_30 : decode cX7_feudShare 30 = .ok (.iload_n 1, 1) := by decide +kernel
theorem dX7_feudShare_31 : decode cX7_feudShare 31 = .ok (.i2f, 1) := by decide +kernel
theorem dX7_feudShare_32 : decode cX7_feudShare 32 = .ok (.fdiv, 1) := by decide +kernel
theorem dX7_feudShare_33 : decode cX7_feudShare 33 = .ok (.freturn, 1) := by decide +kernel
theorem dX7_refuses_0 : decode cX7_refuses 0 = .ok (.iload_n 1, 1) := by decide +kernel
theorem dX7_refuses_1 : decode cX7_refuses 1 = .ok (.tableswitch 269 0 5 #[39, 69, 75, 147, 199, 206], 39) := by decide +kernel
theorem dX7_refuses_40 : decode cX7_refuses 40 = .ok (.aload_n 0, 1) := by decide +kernel
theorem dX7_refuses_41 : decode cX7_refuses 41 = .ok (.aload_n 0, 1) := by decide +kernel
theorem dX7_refuses_42 : decode cX7_refuses 42 = .ok (.getfield 12, 3) := by decide +kernel
theorem dX7_refuses_45 : decode cX7_refuses 45 = .ok (.getfield 223, 3) := by decide +kernel
theorem dX7_refuses_48 : decode cX7_refuses 48 = .ok (.bipush 9, 2) := by decide +kernel
theorem dX7_refuses_50 : decode cX7_refuses 50 = .ok (.if_icmp .lt 7, 3) := by decide +kernel
theorem dX7_refuses_53 : decode cX7_refuses 53 = .ok (.iconst 1, 1) := by decide +kernel
theorem dX7_refuses_54 : decode cX7_refuses 54 = .ok (.goto 4, 3) := by decide +kernel
theorem dX7_refuses_57 : decode cX7_refuses 57 = .ok (.iconst 0, 1) := by decide +kernel
theorem dX7_refuses_58 : decode cX7_refuses 58 = .ok (.iconst 1, 1) := by decide +kernel
theorem dX7_refuses_59 : decode cX7_refuses 59 = .ok (.aload_n 0, 1) := by decide +kernel
theorem dX7_refuses_60 : decode cX7_refuses 60 = .ok (.getfield 12, 3) := by decide +kernel
theorem dX7_refuses_63 : decode cX7_refuses 63 = .ok (.getfield 223, 3) := by decide +kernel
theorem dX7_refuses_66 : decode cX7_refuses 66 = .ok (.invokevirtual 384, 3) := by decide +kernel
theorem dX7_refuses_69 : decode cX7_refuses 69 = .ok (.ireturn, 1) := by decide +kernel
theorem dX7_refuses_70 : decode cX7_refuses 70 = .ok (.aload_n 0, 1) := by decide +kernel
theorem dX7_refuses_71 : decode cX7_refuses 71 = .ok (.iload_n 2, 1) := by decide +kernel
theorem dX7_refuses_72 : decode cX7_refuses 72 = .ok (.invokevirtual 388, 3) := by decide +kernel
theorem dX7_refuses_75 : decode cX7_refuses 75 = .ok (.ireturn, 1) := by decide +kernel
theorem dX7_refuses_76 : decode cX7_refuses 76 = .ok (.aload_n 0, 1) := by decide +kernel
theorem dX7_refuses_77 : decode cX7_refuses 77 = .ok (.iload_n 2, 1) := by decide +kernel
theorem dX7_refuses_78 : decode cX7_refuses 78 = .ok (.iload_n 3, 1) := by decide +kernel
theorem dX7_refuses_79 : decode cX7_refuses 79 = .ok (.invokevirtual 391, 3) := by decide +kernel
theorem dX7_refuses_82 : decode cX7_refuses 82 = .ok (.ifCond .ne 60, 3) := by decide +kernel
theorem dX7_refuses_85 : decode cX7_refuses 85 = .ok (.aload_n 0, 1) := by decide +kernel
theorem dX7_refuses_86 : decode cX7_refuses 86 = .ok (.iload 4, 2) := by decide +kernel
theorem dX7_refuses_88 : decode cX7_refuses 88 = .ok (.iconst 1, 1) := by decide +kernel
theorem dX7_refuses_89 : decode cX7_refuses 89 = .ok (.if_icmp .lt 10, 3) := by decide +kernel
theorem dX7_refuses_92 : decode cX7_refuses 92 = .ok (.iload 4, 2) := by decide +kernel
theorem dX7_refuses_94 : decode cX7_refuses 94 = .ok (.bipush 99, 2) := by decide +kernel
theorem dX7_refuses_96 : decode cX7_refuses 96 = .ok (.if_icmp .le 7, 3) := by decide +kernel
theorem dX7_refuses_99 : decode cX7_refuses 99 = .ok (.iconst 1, 1) := by decide +kernel
theorem dX7_refuses_100 : decode cX7_refuses 100 = .ok (.goto 4, 3) := by decide +kernel
theorem dX7_refuses_103 : decode cX7_refuses 103 = .ok (.iconst 0, 1) := by decide +kernel
theorem dX7_refuses_104 : decode cX7_refuses 104 = .ok (.iconst 4, 1) := by decide +kernel
theorem dX7_refuses_105 : decode cX7_refuses 105 = .ok (.iload 4, 2) := by decide +kernel
theorem dX7_refuses_107 : decode cX7_refuses 107 = .ok (.invokevirtual 384, 3) := by decide +kernel
theorem dX7_refuses_110 : decode cX7_refuses 110 = .ok (.ifCond .ne 32, 3) := by decide +kernel
theorem dX7_refuses_113 : decode cX7_refuses 113 = .ok (.aload_n 0, 1) := by decide +kernel
theorem dX7_refuses_114 : decode cX7_refuses 114 = .ok (.aload_n 0, 1) := by decide +kernel
theorem dX7_refuses_115 : decode cX7_refuses 115 = .ok (.getfield 12, 3) := by decide +kernel
theorem dX7_refuses_118 : decode cX7_refuses 118 = .ok (.iload_n 2, 1) := by decide +kernel
theorem dX7_refuses_119 : decode cX7_refuses 119 = .ok (.iload_n 3, 1) := by decide +kernel
theorem dX7_refuses_120 : decode cX7_refuses 120 = .ok (.invokevirtual 112, 3) := by decide +kernel
theorem dX7_refuses_123 : decode cX7_refuses 123 = .ok (.iload 4, 2) := by decide +kernel
theorem dX7_refuses_125 : decode cX7_refuses 125 = .ok (.if_icmp .ne 7, 3) := by decide +kernel
theorem dX7_refuses_128 : decode cX7_refuses 128 = .ok (.iconst 1, 1) := by decide +kernel
theorem dX7_refuses_129 : decode cX7_refuses 129 = .ok (.goto 4, 3) := by decide +kernel
theorem dX7_refuses_132 : decode cX7_refuses 132 = .ok (.iconst 0, 1) := by decide +kernel
theorem dX7_refuses_133 : decode cX7_refuses 133 = .ok (.iconst 5, 1) := by decide +kernel
theorem dX7_refuses_134 : decode cX7_refuses 134 = .ok (.iload 4, 2) := by decide +kernel
theorem dX7_refuses_136 : decode cX7_refuses 136 = .ok (.invokevirtual 384, 3) := by decide +kernel
theorem dX7_refuses_139 : decode cX7_refuses 139 = .ok (.ifCond .eq 7, 3) := by decide +kernel
theorem dX7_refuses_142 : decode cX7_refuses 142 = .ok (.iconst 1, 1) := by decide +kernel
theorem dX7_refuses_143 : decode cX7_refuses 143 = .ok (.goto 4, 3) := by decide +kernel
theorem dX7_refuses_146 : decode cX7_refuses 146 = .ok (.iconst 0, 1) := by decide +kernel
theorem dX7_refuses_147 : decode cX7_refuses 147 = .ok (.ireturn, 1) := by decide +kernel
theorem dX7_refuses_148 : decode cX7_refuses 148 = .ok (.aload_n 0, 1) := by decide +kernel
theorem dX7_refuses_149 : decode cX7_refuses 149 = .ok (.getfield 12, 3) := by decide +kernel
theorem dX7_refuses_152 : decode cX7_refuses 152 = .ok (.iload_n 2, 1) := by decide +kernel
theorem dX7_refuses_153 : decode cX7_refuses 153 = .ok (.iload_n 3, 1) := by decide +kernel
theorem dX7_refuses_154 : decode cX7_refuses 154 = .ok (.invokevirtual 112, 3) := by decide +kernel
theorem dX7_refuses_157 : decode cX7_refuses 157 = .ok (.ifCond .ne 7, 3) := by decide +kernel
theorem dX7_refuses_160 : decode cX7_refuses 160 = .ok (.iconst 1, 1) := by decide +kernel
theorem dX7_refuses_161 : decode cX7_refuses 161 = .ok (.goto 4, 3) := by decide +kernel
theorem dX7_refuses_164 : decode cX7_refuses 164 = .ok (.iconst 0, 1) := by decide +kernel
theorem dX7_refuses_165 : decode cX7_refuses 165 = .ok (.istore 5, 2) := by decide +kernel
theorem dX7_refuses_167 : decode cX7_refuses 167 = .ok (.aload_n 0, 1) := by decide +kernel
theorem dX7_refuses_168 : decode cX7_refuses 168 = .ok (.iload_n 2, 1) := by decide +kernel
theorem dX7_refuses_169 : decode cX7_refuses 169 = .ok (.iload_n 3, 1) := by decide +kernel
theorem dX7_refuses_170 : decode cX7_refuses 170 = .ok (.invokevirtual 391, 3) := by decide +kernel
theorem dX7_refuses_173 : decode cX7_refuses 173 = .ok (.ifCond .ne 21, 3) := by decide +kernel
theorem dX7_refuses_176 : decode cX7_refuses 176 = .ok (.aload_n 0, 1) := by decide +kernel
theorem dX7_refuses_177 : decode cX7_refuses 177 = .ok (.iload 5, 2) := by decide +kernel
theorem dX7_refuses_179 : decode cX7_refuses 179 = .ok (.bipush 6, 2) := by decide +kernel
theorem dX7_refuses_181 : decode cX7_refuses 181 = .ok (.aload_n 0, 1) := by decide +kernel
theorem dX7_refuses_182 : decode cX7_refuses 182 = .ok (.getfield 12, 3) := by decide +kernel
theorem dX7_refuses_185 : decode cX7_refuses 185 = .ok (.invokevirtual 336, 3) := by decide +kernel
theorem dX7_refuses_188 : decode cX7_refuses 188 = .ok (.invokevirtual 384, 3) := by decide +kernel
theorem dX7_refuses_191 : decode cX7_refuses 191 = .ok (.ifCond .eq 7, 3) := by decide +kernel
theorem dX7_refuses_194 : decode cX7_refuses 194 = .ok (.iconst 1, 1) := by decide +kernel
theorem dX7_refuses_195 : decode cX7_refuses 195 = .ok (.goto 4, 3) := by decide +kernel
theorem dX7_refuses_198 : decode cX7_refuses 198 = .ok (.iconst 0, 1) := by decide +kernel
theorem dX7_refuses_199 : decode cX7_refuses 199 = .ok (.ireturn, 1) := by decide +kernel
theorem dX7_refuses_200 : decode cX7_refuses 200 = .ok (.aload_n 0, 1) := by decide +kernel
theorem dX7_refuses_201 : decode cX7_refuses 201 = .ok (.iload_n 2, 1) := by decide +kernel
theorem dX7_refuses_202 : decode cX7_refuses 202 = .ok (.iload_n 3, 1) := by decide +kernel
theorem dX7_refuses_203 : decode cX7_refuses 203 = .ok (.invokevirtual 391, 3) := by decide +kernel
theorem dX7_refuses_206 : decode cX7_refuses 206 = .ok (.ireturn, 1) := by decide +kernel
theorem dX7_refuses_207 : decode cX7_refuses 207 = .ok (.aload_n 0, 1) := by decide +kernel
theorem dX7_refuses_208 : decode cX7_refuses 208 = .ok (.iload_n 2, 1) := by decide +kernel
theorem dX7_refuses_209 : decode cX7_refuses 209 = .ok (.invokevirtual 388, 3) := by decide +kernel
theorem dX7_refuses_212 : decode cX7_refuses 212 = .ok (.ifCond .ne 52, 3) := by decide +kernel
theorem dX7_refuses_215 : decode cX7_refuses 215 = .ok (.aload_n 0, 1) := by decide +kernel
theorem dX7_refuses_216 : decode cX7_refuses 216 = .ok (.iload_n 3, 1) := by decide +kernel
theorem dX7_refuses_217 : decode cX7_refuses 217 = .ok (.ifCond .eq 12, 3) := by decide +kernel
theorem dX7_refuses_220 : decode cX7_refuses 220 = .ok (.iload_n 3, 1) := by decide +kernel
theorem dX7_refuses_221 : decode cX7_refuses 221 = .ok (.iconst 1, 1) := by decide +kernel
theorem dX7_refuses_222 : decode cX7_refuses 222 = .ok (.if_icmp .eq 7, 3) := by decide +kernel
theorem dX7_refuses_225 : decode cX7_refuses 225 = .ok (.iconst 1, 1) := by decide +kernel
theorem dX7_refuses_226 : decode cX7_refuses 226 = .ok (.goto 4, 3) := by decide +kernel
theorem dX7_refuses_229 : decode cX7_refuses 229 = .ok (.iconst 0, 1) := by decide +kernel
theorem dX7_refuses_230 : decode cX7_refuses 230 = .ok (.iconst 4, 1) := by decide +kernel
theorem dX7_refuses_231 : decode cX7_refuses 231 = .ok (.iload_n 3, 1) := by decide +kernel
theorem dX7_refuses_232 : decode cX7_refuses 232 = .ok (.invokevirtual 384, 3) := by decide +kernel
theorem dX7_refuses_235 : decode cX7_refuses 235 = .ok (.ifCond .ne 29, 3) := by decide +kernel
theorem dX7_refuses_238 : decode cX7_refuses 238 = .ok (.aload_n 0, 1) := by decide +kernel
theorem dX7_refuses_239 : decode cX7_refuses 239 = .ok (.aload_n 0, 1) := by decide +kernel
theorem dX7_refuses_240 : decode cX7_refuses 240 = .ok (.getfield 12, 3) := by decide +kernel
theorem dX7_refuses_243 : decode cX7_refuses 243 = .ok (.iload_n 2, 1) := by decide +kernel
theorem dX7_refuses_244 : decode cX7_refuses 244 = .ok (.invokevirtual 116, 3) := by decide +kernel
theorem dX7_refuses_247 : decode cX7_refuses 247 = .ok (.iload_n 3, 1) := by decide +kernel
theorem dX7_refuses_248 : decode cX7_refuses 248 = .ok (.if_icmp .ne 7, 3) := by decide +kernel
theorem dX7_refuses_251 : decode cX7_refuses 251 = .ok (.iconst 1, 1) := by decide +kernel
theorem dX7_refuses_252 : decode cX7_refuses 252 = .ok (.goto 4, 3) := by decide +kernel
theorem dX7_refuses_255 : decode cX7_refuses 255 = .ok (.iconst 0, 1) := by decide +kernel
theorem dX7_refuses_256 : decode cX7_refuses 256 = .ok (.iconst 5, 1) := by decide +kernel
theorem dX7_refuses_257 : decode cX7_refuses 257 = .ok (.iload_n 3, 1) := by decide +kernel
theorem dX7_refuses_258 : decode cX7_refuses 258 = .ok (.invokevirtual 384, 3) := by decide +kernel
theorem dX7_refuses_261 : decode cX7_refuses 261 = .ok (.ifCond .eq 7, 3) := by decide +kernel
theorem dX7_refuses_264 : decode cX7_refuses 264 = .ok (.iconst 1, 1) := by decide +kernel
theorem dX7_refuses_265 : decode cX7_refuses 265 = .ok (.goto 4, 3) := by decide +kernel
theorem dX7_refuses_268 : decode cX7_refuses 268 = .ok (.iconst 0, 1) := by decide +kernel
theorem dX7_refuses_269 : decode cX7_refuses 269 = .ok (.ireturn, 1) := by decide +kernel
theorem dX7_refuses_270 : decode cX7_refuses 270 = .ok (.aload_n 0, 1) := by decide +kernel
theorem dX7_refuses_271 : decode cX7_refuses 271 = .ok (.aload_n 0, 1) := by decide +kernel
theorem dX7_refuses_272 : decode cX7_refuses 272 = .ok (.invokevirtual 196, 3) := by decide +kernel
theorem dX7_refuses_275 : decode cX7_refuses 275 = .ok (.bipush 7, 2) := by decide +kernel
theorem dX7_refuses_277 : decode cX7_refuses 277 = .ok (.aload_n 0, 1) := by decide +kernel
theorem dX7_refuses_278 : decode cX7_refuses 278 = .ok (.getfield 12, 3) := by decide +kernel
theorem dX7_refuses_281 : decode cX7_refuses 281 = .ok (.getfield 223, 3) := by decide +kernel
theorem dX7_refuses_284 : decode cX7_refuses 284 = .ok (.invokevirtual 384, 3) := by decide +kernel
theorem dX7_refuses_287 : decode cX7_refuses 287 = .ok (.ireturn, 1) := by decide +kernel
theorem dX7_refusesPair_0 : decode cX7_refusesPair 0 = .ok (.aload_n 0, 1) := by decide +kernel
theorem dX7_refusesPair_1 : decode cX7_refusesPair 1 = .ok (.iload_n 1, 1) := by decide +kernel
theorem dX7_refusesPair_2 : decode cX7_refusesPair 2 = .ok (.invokevirtual 388, 3) := by decide +kernel
theorem dX7_refusesPair_5 : decode cX7_refusesPair 5 = .ok (.ifCond .ne 30, 3) := by decide +kernel
theorem dX7_refusesPair_8 : decode cX7_refusesPair 8 = .ok (.aload_n 0, 1) := by decide +kernel
theorem dX7_refusesPair_9 : decode cX7_refusesPair 9 = .ok (.iload_n 2, 1) := by decide +kernel
theorem dX7_refusesPair_10 : decode cX7_refusesPair 10 = .ok (.invokevirtual 388, 3) := by decide +kernel
theorem dX7_refusesPair_13 : decode cX7_refusesPair 13 = .ok (.ifCond .ne 22, 3) := by decide +kernel
theorem dX7_refusesPair_16 : decode cX7_refusesPair 16 = .ok (.aload_n 0, 1) := by decide +kernel
theorem dX7_refusesPair_17 : decode cX7_refusesPair 17 = .ok (.iload_n 1, 1) := by decide +kernel
theorem dX7_refusesPair_18 : decode cX7_refusesPair 18 = .ok (.iload_n 2, 1) := by decide +kernel
theorem dX7_refusesPair_19 : decode cX7_refusesPair 19 = .ok (.if_icmp .ne 7, 3) := by decide +kernel
theorem dX7_refusesPair_22 : decode cX7_refusesPair 22 = .ok (.iconst 1, 1) := by decide +kernel
theorem dX7_refusesPair_23 : decode cX7_refusesPair 23 = .ok (.goto 4, 3) := by decide +kernel
theorem dX7_refusesPair_26 : decode cX7_refusesPair 26 = .ok (.iconst 0, 1) := by decide +kernel
theorem dX7_refusesPair_27 : decode cX7_refusesPair 27 = .ok (.iconst 3, 1) := by decide +kernel
theorem dX7_refusesPair_28 : decode cX7_refusesPair 28 = .ok (.iload_n 1, 1) := by decide +kernel
theorem dX7_refusesPair_29 : decode cX7_refusesPair 29 = .ok (.invokevirtual 384, 3) := by decide +kernel
theorem dX7_refusesPair_32 : decode cX7_refusesPair 32 = .ok (.ifCond .eq 7, 3) := by decide +kernel
theorem dX7_refusesPair_35 : decode cX7_refusesPair 35 = .ok (.iconst 1, 1) := by decide +kernel
theorem dX7_refusesPair_36 : decode cX7_refusesPair 36 = .ok (.goto 4, 3) := by decide +kernel
theorem dX7_refusesPair_39 : decode cX7_refusesPair 39 = .ok (.iconst 0, 1) := by decide +kernel
theorem dX7_refusesPair_40 : decode cX7_refusesPair 40 = .ok (.ireturn, 1) := by decide +kernel
theorem dX7_refusesHousehold_0 : decode cX7_refusesHousehold 0 = .ok (.aload_n 0, 1) := by decide +kernel
theorem dX7_refusesHousehold_1 : decode cX7_refusesHousehold 1 = .ok (.aload_n 0, 1) := by decide +kernel
theorem dX7_refusesHousehold_2 : decode cX7_refusesHousehold 2 = .ok (.getfield 12, 3) := by decide +kernel
theorem dX7_refusesHousehold_5 : decode cX7_refusesHousehold 5 = .ok (.iload_n 1, 1) := by decide +kernel
theorem dX7_refusesHousehold_6 : decode cX7_refusesHousehold 6 = .ok (.invokevirtual 105, 3) := by decide +kernel
theorem dX7_refusesHousehold_9 : decode cX7_refusesHousehold 9 = .ok (.ifCond .ne 7, 3) := by decide +kernel
theorem dX7_refusesHousehold_12 : decode cX7_refusesHousehold 12 = .ok (.iconst 1, 1) := by decide +kernel
theorem dX7_refusesHousehold_13 : decode cX7_refusesHousehold 13 = .ok (.goto 4, 3) := by decide +kernel
theorem dX7_refusesHousehold_16 : decode cX7_refusesHousehold 16 = .ok (.iconst 0, 1) := by decide +kernel
theorem dX7_refusesHousehold_17 : decode cX7_refusesHousehold 17 = .ok (.iconst 2, 1) := by decide +kernel
theorem dX7_refusesHousehold_18 : decode cX7_refusesHousehold 18 = .ok (.iload_n 1, 1) := by decide +kernel
theorem dX7_refusesHousehold_19 : decode cX7_refusesHousehold 19 = .ok (.invokevirtual 384, 3) := by decide +kernel
theorem dX7_refusesHousehold_22 : decode cX7_refusesHousehold 22 = .ok (.ireturn, 1) := by decide +kernel
theorem dX7_refusesIf_0 : decode cX7_refusesIf 0 = .ok (.iload_n 1, 1) := by decide +kernel
theorem dX7_refusesIf_1 : decode cX7_refusesIf 1 = .ok (.ifCond .eq 12, 3) := by decide +kernel
theorem dX7_refusesIf_4 : decode cX7_refusesIf 4 = .ok (.aload_n 0, 1) := by decide +kernel
theorem dX7_refusesIf_5 : decode cX7_refusesIf 5 = .ok (.getfield 60, 3) := by decide +kernel
theorem dX7_refusesIf_8 : decode cX7_refusesIf 8 = .ok (.iload_n 2, 1) := by decide +kernel
theorem dX7_refusesIf_9 : decode cX7_refusesIf 9 = .ok (.iload_n 3, 1) := by decide +kernel
theorem dX7_refusesIf_10 : decode cX7_refusesIf 10 = .ok (.invokevirtual 394, 3) := by decide +kernel
theorem dX7_refusesIf_13 : decode cX7_refusesIf 13 = .ok (.iload_n 1, 1) := by decide +kernel
theorem dX7_refusesIf_14 : decode cX7_refusesIf 14 = .ok (.ireturn, 1) := by decide +kernel
theorem dX7_changed_0 : decode cX7_changed 0 = .ok (.aload_n 0, 1) := by decide +kernel
theorem dX7_changed_1 : decode cX7_changed 1 = .ok (.getfield 25, 3) := by decide +kernel
theorem dX7_changed_4 : decode cX7_changed 4 = .ok (.aload_n 0, 1) := by decide +kernel
theorem dX7_changed_5 : decode cX7_changed 5 = .ok (.getfield 12, 3) := by decide +kernel
theorem dX7_changed_8 : decode cX7_changed 8 = .ok (.invokevirtual 397, 3) := by decide +kernel
theorem dX7_changed_11 : decode cX7_changed 11 = .ok (.aload_n 0, 1) := by decide +kernel
theorem dX7_changed_12 : decode cX7_changed 12 = .ok (.iload_n 1, 1) := by decide +kernel
theorem dX7_changed_13 : decode cX7_changed 13 = .ok (.iload_n 2, 1) := by decide +kernel
theorem dX7_changed_14 : decode cX7_changed 14 = .ok (.iload_n 3, 1) := by decide +kernel
theorem dX7_changed_15 : decode cX7_changed 15 = .ok (.iload 4, 2) := by decide +kernel
theorem dX7_changed_17 : decode cX7_changed 17 = .ok (.invokevirtual 399, 3) := by decide +kernel
theorem dX7_changed_20 : decode cX7_changed 20 = .ok (.ireturn, 1) := by decide +kernel
theorem dX7_done_0 : decode cX7_done 0 = .ok (.iload_n 1, 1) := by decide +kernel
theorem dX7_done_1 : decode cX7_done 1 = .ok (.tableswitch 106 0 5 #[39, 47, 56, 68, 79, 89], 39) := by decide +kernel
theorem dX7_done_40 : decode cX7_done 40 = .ok (.aload_n 0, 1) := by decide +kernel
theorem dX7_done_41 : decode cX7_done 41 = .ok (.getfield 12, 3) := by decide +kernel
theorem dX7_done_44 : decode cX7_done 44 = .ok (.invokevirtual 402, 3) := by decide +kernel
theorem dX7_done_47 : decode cX7_done 47 = .ok (.ireturn, 1) := by decide +kernel
theorem dX7_done_48 : decode cX7_done 48 = .ok (.aload_n 0, 1) := by decide +kernel
theorem dX7_done_49 : decode cX7_done 49 = .ok (.getfield 12, 3) := by decide +kernel
theorem dX7_done_52 : decode cX7_done 52 = .ok (.iload_n 2, 1) := by decide +kernel
theorem dX7_done_53 : decode cX7_done 53 = .ok (.invokevirtual 405, 3) := by decide +kernel
theorem dX7_done_56 : decode cX7_done 56 = .ok (.ireturn, 1) := by decide +kernel
theorem dX7_done_57 : decode cX7_done 57 = .ok (.aload_n 0, 1) := by decide +kernel
theorem dX7_done_58 : decode cX7_done 58 = .ok (.getfield 12, 3) := by decide +kernel
theorem dX7_done_61 : decode cX7_done 61 = .ok (.iload_n 2, 1) := by decide +kernel
theorem dX7_done_62 : decode cX7_done 62 = .ok (.iload_n 3, 1) := by decide +kernel
theorem dX7_done_63 : decode cX7_done 63 = .ok (.iload 4, 2) := by decide +kernel
theorem dX7_done_65 : decode cX7_done 65 = .ok (.invokevirtual 408, 3) := by decide +kernel
theorem dX7_done_68 : decode cX7_done 68 = .ok (.ireturn, 1) := by decide +kernel
theorem dX7_done_69 : decode cX7_done 69 = .ok (.aload_n 0, 1) := by decide +kernel
theorem dX7_done_70 : decode cX7_done 70 = .ok (.getfield 12, 3) := by decide +kernel
theorem dX7_done_73 : decode cX7_done 73 = .ok (.iload_n 2, 1) := by decide +kernel
theorem dX7_done_74 : decode cX7_done 74 = .ok (.iload_n 3, 1) := by decide +kernel
theorem dX7_done_75 : decode cX7_done 75 = .ok (.iconst 0, 1) := by decide +kernel
theorem dX7_done_76 : decode cX7_done 76 = .ok (.invokevirtual 408, 3) := by decide +kernel
theorem dX7_done_79 : decode cX7_done 79 = .ok (.ireturn, 1) := by decide +kernel
theorem dX7_done_80 : decode cX7_done 80 = .ok (.aload_n 0, 1) := by decide +kernel
theorem dX7_done_81 : decode cX7_done 81 = .ok (.getfield 12, 3) := by decide +kernel
theorem dX7_done_84 : decode cX7_done 84 = .ok (.iload_n 2, 1) := by decide +kernel
theorem dX7_done_85 : decode cX7_done 85 = .ok (.iload_n 3, 1) := by decide +kernel
theorem dX7_done_86 : decode cX7_done 86 = .ok (.invokevirtual 411, 3) := by decide +kernel
theorem dX7_done_89 : decode cX7_done 89 = .ok (.ireturn, 1) := by decide +kernel
theorem dX7_done_90 : decode cX7_done 90 = .ok (.aload_n 0, 1) := by decide +kernel
theorem dX7_done_91 : decode cX7_done 91 = .ok (.getfield 12, 3) := by decide +kernel
theorem dX7_done_94 : decode cX7_done 94 = .ok (.iload_n 2, 1) := by decide +kernel
theorem dX7_done_95 : decode cX7_done 95 = .ok (.iload_n 3, 1) := by decide +kernel
theorem dX7_done_96 : decode cX7_done 96 = .ok (.invokevirtual 414, 3) := by decide +kernel
theorem dX7_done_99 : decode cX7_done 99 = .ok (.aload_n 0, 1) := by decide +kernel
theorem dX7_done_100 : decode cX7_done 100 = .ok (.getfield 12, 3) := by decide +kernel
theorem dX7_done_103 : decode cX7_done 103 = .ok (.invokevirtual 152, 3) := by decide +kernel
theorem dX7_done_106 : decode cX7_done 106 = .ok (.ireturn, 1) := by decide +kernel
theorem dX7_done_107 : decode cX7_done 107 = .ok (.aload_n 0, 1) := by decide +kernel
theorem dX7_done_108 : decode cX7_done 108 = .ok (.getfield 32, 3) := by decide +kernel
theorem dX7_done_111 : decode cX7_done 111 = .ok (.aload_n 0, 1) := by decide +kernel
theorem dX7_done_112 : decode cX7_done 112 = .ok (.getfield 12, 3) := by decide +kernel
theorem dX7_done_115 : decode cX7_done 115 = .ok (.invokevirtual 166, 3) := by decide +kernel
theorem dX7_done_118 : decode cX7_done 118 = .ok (.aload_n 0, 1) := by decide +kernel
theorem dX7_done_119 : decode cX7_done 119 = .ok (.getfield 12, 3) := by decide +kernel
theorem dX7_done_122 : decode cX7_done 122 = .ok (.aload_n 0, 1) := by decide +kernel
theorem dX7_done_123 : decode cX7_done 123 = .ok (.getfield 32, 3) := by decide +kernel
theorem dX7_done_126 : decode cX7_done 126 = .ok (.invokevirtual 417, 3) := by decide +kernel
theorem dX7_done_129 : decode cX7_done 129 = .ok (.putfield 327, 3) := by decide +kernel
theorem dX7_done_132 : decode cX7_done 132 = .ok (.aload_n 0, 1) := by decide +kernel
theorem dX7_done_133 : decode cX7_done 133 = .ok (.getfield 12, 3) := by decide +kernel
theorem dX7_done_136 : decode cX7_done 136 = .ok (.invokevirtual 152, 3) := by decide +kernel
theorem dX7_done_139 : decode cX7_done 139 = .ok (.ireturn, 1) := by decide +kernel
theorem dX7_isTooSmall_0 : decode cX7_isTooSmall 0 = .ok (.aload_n 0, 1) := by decide +kernel
theorem dX7_isTooSmall_1 : decode cX7_isTooSmall 1 = .ok (.getfield 12, 3) := by decide +kernel
theorem dX7_isTooSmall_4 : decode cX7_isTooSmall 4 = .ok (.getfield 223, 3) := by decide +kernel
theorem dX7_isTooSmall_7 : decode cX7_isTooSmall 7 = .ok (.iconst 2, 1) := by decide +kernel
theorem dX7_isTooSmall_8 : decode cX7_isTooSmall 8 = .ok (.if_icmp .ge 7, 3) := by decide +kernel
theorem dX7_isTooSmall_11 : decode cX7_isTooSmall 11 = .ok (.iconst 1, 1) := by decide +kernel
theorem dX7_isTooSmall_12 : decode cX7_isTooSmall 12 = .ok (.goto 4, 3) := by decide +kernel
theorem dX7_isTooSmall_15 : decode cX7_isTooSmall 15 = .ok (.iconst 0, 1) := by decide +kernel
theorem dX7_isTooSmall_16 : decode cX7_isTooSmall 16 = .ok (.ireturn, 1) := by decide +kernel
theorem dX7_hasPhase_0 : decode cX7_hasPhase 0 = .ok (.iload_n 1, 1) := by decide +kernel
theorem dX7_hasPhase_1 : decode cX7_hasPhase 1 = .ok (.ifCond .lt 18, 3) := by decide +kernel
theorem dX7_hasPhase_4 : decode cX7_hasPhase 4 = .ok (.iload_n 1, 1) := by decide +kernel
theorem dX7_hasPhase_5 : decode cX7_hasPhase 5 = .ok (.aload_n 0, 1) := by decide +kernel
theorem dX7_hasPhase_6 : decode cX7_hasPhase 6 = .ok (.getfield 12, 3) := by decide +kernel
theorem dX7_hasPhase_9 : decode cX7_hasPhase 9 = .ok (.invokevirtual 158, 3) := by decide +kernel
theorem dX7_hasPhase_12 : decode cX7_hasPhase 12 = .ok (.if_icmp .ge 7, 3) := by decide +kernel
theorem dX7_hasPhase_15 : decode cX7_hasPhase 15 = .ok (.iconst 1, 1) := by decide +kernel
theorem dX7_hasPhase_16 : decode cX7_hasPhase 16 = .ok (.goto 4, 3) := by decide +kernel
theorem dX7_hasPhase_19 : decode cX7_hasPhase 19 = .ok (.iconst 0, 1) := by decide +kernel
theorem dX7_hasPhase_20 : decode cX7_hasPhase 20 = .ok (.ireturn, 1) := by decide +kernel
theorem dX7_leastByPhases_0 : decode cX7_leastByPhases 0 = .ok (.aload_n 0, 1) := by decide +kernel
theorem dX7_leastByPhases_1 : decode cX7_leastByPhases 1 = .ok (.getfield 32, 3) := by decide +kernel
theorem dX7_leastByPhases_4 : decode cX7_leastByPhases 4 = .ok (.aload_n 1, 1) := by decide +kernel
theorem dX7_leastByPhases_5 : decode cX7_leastByPhases 5 = .ok (.invokevirtual 166, 3) := by decide +kernel
theorem dX7_leastByPhases_8 : decode cX7_leastByPhases 8 = .ok (.aload_n 0, 1) := by decide +kernel
theorem dX7_leastByPhases_9 : decode cX7_leastByPhases 9 = .ok (.getfield 32, 3) := by decide +kernel
theorem dX7_leastByPhases_12 : decode cX7_leastByPhases 12 = .ok (.aload_n 0, 1) := by decide +kernel
theorem dX7_leastByPhases_13 : decode cX7_leastByPhases 13 = .ok (.getfield 32, 3) := by decide +kernel
theorem dX7_leastByPhases_16 : decode cX7_leastByPhases 16 = .ok (.invokevirtual 208, 3) := by decide +kernel
theorem dX7_leastByPhases_19 : decode cX7_leastByPhases 19 = .ok (.invokevirtual 173, 3) := by decide +kernel
theorem dX7_leastByPhases_22 : decode cX7_leastByPhases 22 = .ok (.ireturn, 1) := by decide +kernel
theorem dX7_isLeastTold_0 : decode cX7_isLeastTold 0 = .ok (.aload_n 0, 1) := by decide +kernel
theorem dX7_isLeastTold_1 : decode cX7_isLeastTold 1 = .ok (.aload_n 0, 1) := by decide +kernel
theorem dX7_isLeastTold_2 : decode cX7_isLeastTold 2 = .ok (.getfield 12, 3) := by decide +kernel
theorem dX7_isLeastTold_5 : decode cX7_isLeastTold 5 = .ok (.invokevirtual 200, 3) := by decide +kernel
theorem dX7_isLeastTold_8 : decode cX7_isLeastTold 8 = .ok (.istore_n 1, 1) := by decide +kernel
theorem dX7_isLeastTold_9 : decode cX7_isLeastTold 9 = .ok (.aload_n 0, 1) := by decide +kernel
theorem dX7_isLeastTold_10 : decode cX7_isLeastTold 10 = .ok (.getfield 39, 3) := by decide +kernel
theorem dX7_isLeastTold_13 : decode cX7_isLeastTold 13 = .ok (.aload_n 0, 1) := by decide +kernel
theorem dX7_isLeastTold_14 : decode cX7_isLeastTold 14 = .ok (.getfield 12, 3) := by decide +kernel
theorem dX7_isLeastTold_17 : decode cX7_isLeastTold 17 = .ok (.invokevirtual 204, 3) := by decide +kernel
theorem dX7_isLeastTold_20 : decode cX7_isLeastTold 20 = .ok (.iload_n 1, 1) := by decide +kernel
theorem dX7_isLeastTold_21 : decode cX7_isLeastTold 21 = .ok (.aload_n 0, 1) := by decide +kernel
theorem dX7_isLeastTold_22 : decode cX7_isLeastTold 22 = .ok (.getfield 39, 3) := by decide +kernel
theorem dX7_isLeastTold_25 : decode cX7_isLeastTold 25 = .ok (.invokevirtual 205, 3) := by decide +kernel
theorem dX7_isLeastTold_28 : decode cX7_isLeastTold 28 = .ok (.if_icmp .eq 5, 3) := by decide +kernel
theorem dX7_isLeastTold_31 : decode cX7_isLeastTold 31 = .ok (.iconst 0, 1) := by decide +kernel
theorem dX7_isLeastTold_32 : decode cX7_isLeastTold 32 = .ok (.ireturn, 1) := by decide +kernel
theorem dX7_isLeastTold_33 : decode cX7_isLeastTold 33 = .ok (.iconst 0, 1) := by decide +kernel
theorem dX7_isLeastTold_34 : decode cX7_isLeastTold 34 = .ok (.istore_n 2, 1) := by decide +kernel
theorem dX7_isLeastTold_35 : decode cX7_isLeastTold 35 = .ok (.iload_n 2, 1) := by decide +kernel
theorem dX7_isLeastTold_36 : decode cX7_isLeastTold 36 = .ok (.aload_n 0, 1) := by decide +kernel
theorem dX7_isLeastTold_37 : decode cX7_isLeastTold 37 = .ok (.getfield 12, 3) := by decide +kernel
theorem dX7_isLeastTold_40 : decode cX7_isLeastTold 40 = .ok (.getfield 223, 3) := by decide +kernel
theorem dX7_isLeastTold_43 : decode cX7_isLeastTold 43 = .ok (.if_icmp .ge 67, 3) := by decide +kernel
theorem dX7_isLeastTold_46 : decode cX7_isLeastTold 46 = .ok (.iload_n 2, 1) := by decide +kernel
theorem dX7_isLeastTold_47 : decode cX7_isLeastTold 47 = .ok (.iconst 1, 1) := by decide +kernel
theorem dX7_isLeastTold_48 : decode cX7_isLeastTold 48 = .ok (.iadd, 1) := by decide +kernel
theorem dX7_isLeastTold_49 : decode cX7_isLeastTold 49 = .ok (.istore_n 3, 1) := by decide +kernel
theorem dX7_isLeastTold_50 : decode cX7_isLeastTold 50 = .ok (.iload_n 3, 1) := by decide +kernel
theorem dX7_isLeastTold_51 : decode cX7_isLeastTold 51 = .ok (.aload_n 0, 1) := by decide +kernel
theorem dX7_isLeastTold_52 : decode cX7_isLeastTold 52 = .ok (.getfield 12, 3) := by decide +kernel
theorem dX7_isLeastTold_55 : decode cX7_isLeastTold 55 = .ok (.getfield 223, 3) := by decide +kernel
theorem dX7_isLeastTold_58 : decode cX7_isLeastTold 58 = .ok (.if_icmp .ge 46, 3) := by decide +kernel
theorem dX7_isLeastTold_61 : decode cX7_isLeastTold 61 = .ok (.aload_n 0, 1) := by decide +kernel
theorem dX7_isLeastTold_62 : decode cX7_isLeastTold 62 = .ok (.getfield 39, 3) := by decide +kernel
theorem dX7_isLeastTold_65 : decode cX7_isLeastTold 65 = .ok (.iload_n 2, 1) := by decide +kernel
theorem dX7_isLeastTold_66 : decode cX7_isLeastTold 66 = .ok (.iload_n 3, 1) := by decide +kernel
theorem dX7_isLeastTold_67 : decode cX7_isLeastTold 67 = .ok (.invokevirtual 216, 3) := by decide +kernel
theorem dX7_isLeastTold_70 : decode cX7_isLeastTold 70 = .ok (.istore 4, 2) := by decide +kernel
theorem dX7_isLeastTold_72 : decode cX7_isLeastTold 72 = .ok (.iload 4, 2) := by decide +kernel
theorem dX7_isLeastTold_74 : decode cX7_isLeastTold 74 = .ok (.aload_n 0, 1) := by decide +kernel
theorem dX7_isLeastTold_75 : decode cX7_isLeastTold 75 = .ok (.getfield 46, 3) := by decide +kernel
theorem dX7_isLeastTold_78 : decode cX7_isLeastTold 78 = .ok (.aload_n 0, 1) := by decide +kernel
theorem dX7_isLeastTold_79 : decode cX7_isLeastTold 79 = .ok (.getfield 12, 3) := by decide +kernel
theorem dX7_isLeastTold_82 : decode cX7_isLeastTold 82 = .ok (.iload_n 2, 1) := by decide +kernel
theorem dX7_isLeastTold_83 : decode cX7_isLeastTold 83 = .ok (.iload_n 3, 1) := by decide +kernel
theorem dX7_isLeastTold_84 : decode cX7_isLeastTold 84 = .ok (.invokevirtual 219, 3) := by decide +kernel
theorem dX7_isLeastTold_87 : decode cX7_isLeastTold 87 = .ok (.if_icmp .ne 9, 3) := by decide +kernel
theorem dX7_isLeastTold_90 : decode cX7_isLeastTold 90 = .ok (.iload_n 1, 1) := by decide +kernel
theorem dX7_isLeastTold_91 : decode cX7_isLeastTold 91 = .ok (.iload 4, 2) := by decide +kernel
theorem dX7_isLeastTold_93 : decode cX7_isLeastTold 93 = .ok (.if_icmp .le 5, 3) := by decide +kernel
theorem dX7_isLeastTold_96 : decode cX7_isLeastTold 96 = .ok (.iconst 0, 1) := by decide +kernel
theorem dX7_isLeastTold_97 : decode cX7_isLeastTold 97 = .ok (.ireturn, 1) := by decide +kernel
theorem dX7_isLeastTold_98 : decode cX7_isLeastTold 98 = .ok (.iinc 3 1, 3) := by decide +kernel
theorem dX7_isLeastTold_101 : decode cX7_isLeastTold 101 = .ok (.goto (-51), 3) := by decide +kernel
theorem dX7_isLeastTold_104 : decode cX7_isLeastTold 104 = .ok (.iinc 2 1, 3) := by decide +kernel
theorem dX7_isLeastTold_107 : decode cX7_isLeastTold 107 = .ok (.goto (-72), 3) := by decide +kernel
theorem dX7_isLeastTold_110 : decode cX7_isLeastTold 110 = .ok (.iconst 1, 1) := by decide +kernel
theorem dX7_isLeastTold_111 : decode cX7_isLeastTold 111 = .ok (.ireturn, 1) := by decide +kernel
theorem dX7_fillKeys_0 : decode cX7_fillKeys 0 = .ok (.iload_n 1, 1) := by decide +kernel
theorem dX7_fillKeys_1 : decode cX7_fillKeys 1 = .ok (.iconst 3, 1) := by decide +kernel
theorem dX7_fillKeys_2 : decode cX7_fillKeys 2 = .ok (.if_icmp .ne 21, 3) := by decide +kernel
theorem dX7_fillKeys_5 : decode cX7_fillKeys 5 = .ok (.aload_n 0, 1) := by decide +kernel
theorem dX7_fillKeys_6 : decode cX7_fillKeys 6 = .ok (.invokevirtual 196, 3) := by decide +kernel
theorem dX7_fillKeys_9 : decode cX7_fillKeys 9 = .ok (.ifCond .ne 14, 3) := by decide +kernel
theorem dX7_fillKeys_12 : decode cX7_fillKeys 12 = .ok (.aload_n 0, 1) := by decide +kernel
theorem dX7_fillKeys_13 : decode cX7_fillKeys 13 = .ok (.getfield 39, 3) := by decide +kernel
theorem dX7_fillKeys_16 : decode cX7_fillKeys 16 = .ok (.aload_n 0, 1) := by decide +kernel
theorem dX7_fillKeys_17 : decode cX7_fillKeys 17 = .ok (.getfield 12, 3) := by decide +kernel
theorem dX7_fillKeys_20 : decode cX7_fillKeys 20 = .ok (.invokevirtual 204, 3) := by decide +kernel
theorem dX7_fillKeys_23 : decode cX7_fillKeys 23 = .ok (.iconst 0, 1) := by decide +kernel
theorem dX7_fillKeys_24 : decode cX7_fillKeys 24 = .ok (.istore_n 2, 1) := by decide +kernel
theorem dX7_fillKeys_25 : decode cX7_fillKeys 25 = .ok (.iload_n 2, 1) := by decide +kernel
theorem dX7_fillKeys_26 : decode cX7_fillKeys 26 = .ok (.aload_n 0, 1) := by decide +kernel
theorem dX7_fillKeys_27 : decode cX7_fillKeys 27 = .ok (.getfield 12, 3) := by decide +kernel
theorem dX7_fillKeys_30 : decode cX7_fillKeys 30 = .ok (.getfield 223, 3) := by decide +kernel
theorem dX7_fillKeys_33 : decode cX7_fillKeys 33 = .ok (.if_icmp .ge 30, 3) := by decide +kernel
theorem dX7_fillKeys_36 : decode cX7_fillKeys 36 = .ok (.iload_n 2, 1) := by decide +kernel
theorem dX7_fillKeys_37 : decode cX7_fillKeys 37 = .ok (.aload_n 0, 1) := by decide +kernel
theorem dX7_fillKeys_38 : decode cX7_fillKeys 38 = .ok (.getfield 71, 3) := by decide +kernel
theorem dX7_fillKeys_41 : decode cX7_fillKeys 41 = .ok (.arraylength, 1) := by decide +kernel
theorem dX7_fillKeys_42 : decode cX7_fillKeys 42 = .ok (.if_icmp .ge 21, 3) := by decide +kernel
theorem dX7_fillKeys_45 : decode cX7_fillKeys 45 = .ok (.aload_n 0, 1) := by decide +kernel
theorem dX7_fillKeys_46 : decode cX7_fillKeys 46 = .ok (.getfield 71, 3) := by decide +kernel
theorem dX7_fillKeys_49 : decode cX7_fillKeys 49 = .ok (.iload_n 2, 1) := by decide +kernel
theorem dX7_fillKeys_50 : decode cX7_fillKeys 50 = .ok (.aload_n 0, 1) := by decide +kernel
theorem dX7_fillKeys_51 : decode cX7_fillKeys 51 = .ok (.iload_n 1, 1) := by decide +kernel
theorem dX7_fillKeys_52 : decode cX7_fillKeys 52 = .ok (.iload_n 2, 1) := by decide +kernel
theorem dX7_fillKeys_53 : decode cX7_fillKeys 53 = .ok (.invokevirtual 429, 3) := by decide +kernel
theorem dX7_fillKeys_56 : decode cX7_fillKeys 56 = .ok (.iastore, 1) := by decide +kernel
theorem dX7_fillKeys_57 : decode cX7_fillKeys 57 = .ok (.iinc 2 1, 3) := by decide +kernel
theorem dX7_fillKeys_60 : decode cX7_fillKeys 60 = .ok (.goto (-35), 3) := by decide +kernel
theorem dX7_fillKeys_63 : decode cX7_fillKeys 63 = .ok (.return_, 1) := by decide +kernel
theorem dX7_keyOf_0 : decode cX7_keyOf 0 = .ok (.iload_n 1, 1) := by decide +kernel
theorem dX7_keyOf_1 : decode cX7_keyOf 1 = .ok (.tableswitch 69 0 2 #[27, 43, 52], 27) := by decide +kernel
theorem dX7_keyOf_28 : decode cX7_keyOf 28 = .ok (.aload_n 0, 1) := by decide +kernel
theorem dX7_keyOf_29 : decode cX7_keyOf 29 = .ok (.getfield 12, 3) := by decide +kernel
theorem dX7_keyOf_32 : decode cX7_keyOf 32 = .ok (.iload_n 2, 1) := by decide +kernel
theorem dX7_keyOf_33 : decode cX7_keyOf 33 = .ok (.aload_n 0, 1) := by decide +kernel
theorem dX7_keyOf_34 : decode cX7_keyOf 34 = .ok (.getfield 12, 3) := by decide +kernel
theorem dX7_keyOf_37 : decode cX7_keyOf 37 = .ok (.invokevirtual 123, 3) := by decide +kernel
theorem dX7_keyOf_40 : decode cX7_keyOf 40 = .ok (.invokevirtual 127, 3) := by decide +kernel
theorem dX7_keyOf_43 : decode cX7_keyOf 43 = .ok (.ireturn, 1) := by decide +kernel
theorem dX7_keyOf_44 : decode cX7_keyOf 44 = .ok (.aload_n 0, 1) := by decide +kernel
theorem dX7_keyOf_45 : decode cX7_keyOf 45 = .ok (.getfield 12, 3) := by decide +kernel
theorem dX7_keyOf_48 : decode cX7_keyOf 48 = .ok (.iload_n 2, 1) := by decide +kernel
theorem dX7_keyOf_49 : decode cX7_keyOf 49 = .ok (.invokevirtual 120, 3) := by decide +kernel
theorem dX7_keyOf_52 : decode cX7_keyOf 52 = .ok (.ireturn, 1) := by decide +kernel
theorem dX7_keyOf_53 : decode cX7_keyOf 53 = .ok (.aload_n 0, 1) := by decide +kernel
theorem dX7_keyOf_54 : decode cX7_keyOf 54 = .ok (.getfield 12, 3) := by decide +kernel
theorem dX7_keyOf_57 : decode cX7_keyOf 57 = .ok (.iload_n 2, 1) := by decide +kernel
theorem dX7_keyOf_58 : decode cX7_keyOf 58 = .ok (.aload_n 0, 1) := by decide +kernel
theorem dX7_keyOf_59 : decode cX7_keyOf 59 = .ok (.getfield 12, 3) := by decide +kernel
theorem dX7_keyOf_62 : decode cX7_keyOf 62 = .ok (.iload_n 2, 1) := by decide +kernel
theorem dX7_keyOf_63 : decode cX7_keyOf 63 = .ok (.invokevirtual 133, 3) := by decide +kernel
theorem dX7_keyOf_66 : decode cX7_keyOf 66 = .ok (.invokevirtual 127, 3) := by decide +kernel
theorem dX7_keyOf_69 : decode cX7_keyOf 69 = .ok (.ireturn, 1) := by decide +kernel
theorem dX7_keyOf_70 : decode cX7_keyOf 70 = .ok (.iload_n 2, 1) := by decide +kernel
theorem dX7_keyOf_71 : decode cX7_keyOf 71 = .ok (.ifCond .ne 9, 3) := by decide +kernel
theorem dX7_keyOf_74 : decode cX7_keyOf 74 = .ok (.ldc_w 432, 3) := by decide +kernel
theorem dX7_keyOf_77 : decode cX7_keyOf 77 = .ok (.goto 13, 3) := by decide +kernel
theorem dX7_keyOf_80 : decode cX7_keyOf 80 = .ok (.aload_n 0, 1) := by decide +kernel
theorem dX7_keyOf_81 : decode cX7_keyOf 81 = .ok (.getfield 39, 3) := by decide +kernel
theorem dX7_keyOf_84 : decode cX7_keyOf 84 = .ok (.iconst 0, 1) := by decide +kernel
theorem dX7_keyOf_85 : decode cX7_keyOf 85 = .ok (.iload_n 2, 1) := by decide +kernel
theorem dX7_keyOf_86 : decode cX7_keyOf 86 = .ok (.invokevirtual 216, 3) := by decide +kernel
theorem dX7_keyOf_89 : decode cX7_keyOf 89 = .ok (.ineg, 1) := by decide +kernel
theorem dX7_keyOf_90 : decode cX7_keyOf 90 = .ok (.ireturn, 1) := by decide +kernel
theorem dX7_householdAtPlace_0 : decode cX7_householdAtPlace 0 = .ok (.iconst 0, 1) := by decide +kernel
theorem dX7_householdAtPlace_1 : decode cX7_householdAtPlace 1 = .ok (.istore_n 2, 1) := by decide +kernel
theorem dX7_householdAtPlace_2 : decode cX7_householdAtPlace 2 = .ok (.iload_n 2, 1) := by decide +kernel
theorem dX7_householdAtPlace_3 : decode cX7_householdAtPlace 3 = .ok (.aload_n 0, 1) := by decide +kernel
theorem dX7_householdAtPlace_4 : decode cX7_householdAtPlace 4 = .ok (.getfield 12, 3) := by decide +kernel
theorem dX7_householdAtPlace_7 : decode cX7_householdAtPlace 7 = .ok (.getfield 223, 3) := by decide +kernel
theorem dX7_householdAtPlace_10 : decode cX7_householdAtPlace 10 = .ok (.if_icmp .ge 20, 3) := by decide +kernel
theorem dX7_householdAtPlace_13 : decode cX7_householdAtPlace 13 = .ok (.aload_n 0, 1) := by decide +kernel
theorem dX7_householdAtPlace_14 : decode cX7_householdAtPlace 14 = .ok (.iload_n 2, 1) := by decide +kernel
theorem dX7_householdAtPlace_15 : decode cX7_householdAtPlace 15 = .ok (.invokevirtual 433, 3) := by decide +kernel
theorem dX7_householdAtPlace_18 : decode cX7_householdAtPlace 18 = .ok (.iload_n 1, 1) := by decide +kernel
theorem dX7_householdAtPlace_19 : decode cX7_householdAtPlace 19 = .ok (.if_icmp .ne 5, 3) := by decide +kernel
theorem dX7_householdAtPlace_22 : decode cX7_householdAtPlace 22 = .ok (.iload_n 2, 1) := by decide +kernel
theorem dX7_householdAtPlace_23 : decode cX7_householdAtPlace 23 = .ok (.ireturn, 1) := by decide +kernel
theorem dX7_householdAtPlace_24 : decode cX7_householdAtPlace 24 = .ok (.iinc 2 1, 3) := by decide +kernel
theorem dX7_householdAtPlace_27 : decode cX7_householdAtPlace 27 = .ok (.goto (-25), 3) := by decide +kernel
theorem dX7_householdAtPlace_30 : decode cX7_householdAtPlace 30 = .ok (.iconst (-1), 1) := by decide +kernel
theorem dX7_householdAtPlace_31 : decode cX7_householdAtPlace 31 = .ok (.ireturn, 1) := by decide +kernel
theorem dX7_placeOf_0 : decode cX7_placeOf 0 = .ok (.iconst 0, 1) := by decide +kernel
theorem dX7_placeOf_1 : decode cX7_placeOf 1 = .ok (.istore_n 2, 1) := by decide +kernel
theorem dX7_placeOf_2 : decode cX7_placeOf 2 = .ok (.iconst 0, 1) := by decide +kernel
theorem dX7_placeOf_3 : decode cX7_placeOf 3 = .ok (.istore_n 3, 1) := by decide +kernel
theorem dX7_placeOf_4 : decode cX7_placeOf 4 = .ok (.iload_n 3, 1) := by decide +kernel
theorem dX7_placeOf_5 : decode cX7_placeOf 5 = .ok (.aload_n 0, 1) := by decide +kernel
theorem dX7_placeOf_6 : decode cX7_placeOf 6 = .ok (.getfield 12, 3) := by decide +kernel
theorem dX7_placeOf_9 : decode cX7_placeOf 9 = .ok (.getfield 223, 3) := by decide +kernel
theorem dX7_placeOf_12 : decode cX7_placeOf 12 = .ok (.if_icmp .ge 68, 3) := by decide +kernel
theorem dX7_placeOf_15 : decode cX7_placeOf 15 = .ok (.iload_n 3, 1) := by decide +kernel
theorem dX7_placeOf_16 : decode cX7_placeOf 16 = .ok (.aload_n 0, 1) := by decide +kernel
theorem dX7_placeOf_17 : decode cX7_placeOf 17 = .ok (.getfield 71, 3) := by decide +kernel
theorem dX7_placeOf_20 : decode cX7_placeOf 20 = .ok (.arraylength, 1) := by decide +kernel
theorem dX7_placeOf_21 : decode cX7_placeOf 21 = .ok (.if_icmp .ge 59, 3) := by decide +kernel
theorem dX7_placeOf_24 : decode cX7_placeOf 24 = .ok (.aload_n 0, 1) := by decide +kernel
theorem dX7_placeOf_25 : decode cX7_placeOf 25 = .ok (.getfield 71, 3) := by decide +kernel
theorem dX7_placeOf_28 : decode cX7_placeOf 28 = .ok (.iload_n 3, 1) := by decide +kernel
theorem dX7_placeOf_29 : decode cX7_placeOf 29 = .ok (.iaload, 1) := by decide +kernel
theorem dX7_placeOf_30 : decode cX7_placeOf 30 = .ok (.aload_n 0, 1) := by decide +kernel
theorem dX7_placeOf_31 : decode cX7_placeOf 31 = .ok (.getfield 71, 3) := by decide +kernel
theorem dX7_placeOf_34 : decode cX7_placeOf 34 = .ok (.iload_n 1, 1) := by decide +kernel
theorem dX7_placeOf_35 : decode cX7_placeOf 35 = .ok (.iaload, 1) := by decide +kernel
theorem dX7_placeOf_36 : decode cX7_placeOf 36 = .ok (.if_icmp .gt 23, 3) := by decide +kernel
theorem dX7_placeOf_39 : decode cX7_placeOf 39 = .ok (.aload_n 0, 1) := by decide +kernel
theorem dX7_placeOf_40 : decode cX7_placeOf 40 = .ok (.getfield 71, 3) := by decide +kernel
theorem dX7_placeOf_43 : decode cX7_placeOf 43 = .ok (.iload_n 3, 1) := by decide +kernel
theorem dX7_placeOf_44 : decode cX7_placeOf 44 = .ok (.iaload, 1) := by decide +kernel
theorem dX7_placeOf_45 : decode cX7_placeOf 45 = .ok (.aload_n 0, 1) := by decide +kernel
theorem dX7_placeOf_46 : decode cX7_placeOf 46 = .ok (.getfield 71, 3) := by decide +kernel
theorem dX7_placeOf_49 : decode cX7_placeOf 49 = .ok (.iload_n 1, 1) := by decide +kernel
theorem dX7_placeOf_50 : decode cX7_placeOf 50 = .ok (.iaload, 1) := by decide +kernel
theorem dX7_placeOf_51 : decode cX7_placeOf 51 = .ok (.if_icmp .ne 12, 3) := by decide +kernel
theorem dX7_placeOf_54 : decode cX7_placeOf 54 = .ok (.iload_n 3, 1) := by decide +kernel
theorem dX7_placeOf_55 : decode cX7_placeOf 55 = .ok (.iload_n 1, 1) := by decide +kernel
theorem dX7_placeOf_56 : decode cX7_placeOf 56 = .ok (.if_icmp .ge 7, 3) := by decide +kernel
theorem dX7_placeOf_59 : decode cX7_placeOf 59 = .ok (.iconst 1, 1) := by decide +kernel
theorem dX7_placeOf_60 : decode cX7_placeOf 60 = .ok (.goto 4, 3) := by decide +kernel
theorem dX7_placeOf_63 : decode cX7_placeOf 63 = .ok (.iconst 0, 1) := by decide +kernel
theorem dX7_placeOf_64 : decode cX7_placeOf 64 = .ok (.istore 4, 2) := by decide +kernel
theorem dX7_placeOf_66 : decode cX7_placeOf 66 = .ok (.iload 4, 2) := by decide +kernel
theorem dX7_placeOf_68 : decode cX7_placeOf 68 = .ok (.ifCond .eq 6, 3) := by decide +kernel
theorem dX7_placeOf_71 : decode cX7_placeOf 71 = .ok (.iinc 2 1, 3) := by decide +kernel
theorem dX7_placeOf_74 : decode cX7_placeOf 74 = .ok (.iinc 3 1, 3) := by decide +kernel
theorem dX7_placeOf_77 : decode cX7_placeOf 77 = .ok (.goto (-73), 3) := by decide +kernel
theorem dX7_placeOf_80 : decode cX7_placeOf 80 = .ok (.iload_n 2, 1) := by decide +kernel
theorem dX7_placeOf_81 : decode cX7_placeOf 81 = .ok (.ireturn, 1) := by decide +kernel
theorem dX7_writeBond_0 : decode cX7_writeBond 0 = .ok (.aload_n 0, 1) := by decide +kernel
theorem dX7_writeBond_1 : decode cX7_writeBond 1 = .ok (.getfield 67, 3) := by decide +kernel
theorem dX7_writeBond_4 : decode cX7_writeBond 4 = .ok (.invokevirtual 316, 3) := by decide +kernel
theorem dX7_writeBond_7 : decode cX7_writeBond 7 = .ok (.ifCond .le 13, 3) := by decide +kernel
theorem dX7_writeBond_10 : decode cX7_writeBond 10 = .ok (.aload_n 0, 1) := by decide +kernel
theorem dX7_writeBond_11 : decode cX7_writeBond 11 = .ok (.getfield 67, 3) := by decide +kernel
theorem dX7_writeBond_14 : decode cX7_writeBond 14 = .ok (.bipush 32, 2) := by decide +kernel
theorem dX7_writeBond_16 : decode cX7_writeBond 16 = .ok (.invokevirtual 317, 3) := by decide +kernel
theorem dX7_writeBond_19 : decode cX7_writeBond 19 = .ok (.pop, 1) := by decide +kernel
theorem dX7_writeBond_20 : decode cX7_writeBond 20 = .ok (.aload_n 0, 1) := by decide +kernel
theorem dX7_writeBond_21 : decode cX7_writeBond 21 = .ok (.getfield 67, 3) := by decide +kernel
theorem dX7_writeBond_24 : decode cX7_writeBond 24 = .ok (.iload_n 1, 1) := by decide +kernel
theorem dX7_writeBond_25 : decode cX7_writeBond 25 = .ok (.invokevirtual 324, 3) := by decide +kernel
theorem dX7_writeBond_28 : decode cX7_writeBond 28 = .ok (.pop, 1) := by decide +kernel
theorem dX7_writeBond_29 : decode cX7_writeBond 29 = .ok (.aload_n 0, 1) := by decide +kernel
theorem dX7_writeBond_30 : decode cX7_writeBond 30 = .ok (.getfield 67, 3) := by decide +kernel
theorem dX7_writeBond_33 : decode cX7_writeBond 33 = .ok (.iload_n 2, 1) := by decide +kernel
theorem dX7_writeBond_34 : decode cX7_writeBond 34 = .ok (.invokevirtual 324, 3) := by decide +kernel
theorem dX7_writeBond_37 : decode cX7_writeBond 37 = .ok (.pop, 1) := by decide +kernel
theorem dX7_writeBond_38 : decode cX7_writeBond 38 = .ok (.aload_n 0, 1) := by decide +kernel
theorem dX7_writeBond_39 : decode cX7_writeBond 39 = .ok (.getfield 67, 3) := by decide +kernel
theorem dX7_writeBond_42 : decode cX7_writeBond 42 = .ok (.bipush 61, 2) := by decide +kernel
theorem dX7_writeBond_44 : decode cX7_writeBond 44 = .ok (.invokevirtual 317, 3) := by decide +kernel
theorem dX7_writeBond_47 : decode cX7_writeBond 47 = .ok (.pop, 1) := by decide +kernel
theorem dX7_writeBond_48 : decode cX7_writeBond 48 = .ok (.aload_n 0, 1) := by decide +kernel
theorem dX7_writeBond_49 : decode cX7_writeBond 49 = .ok (.getfield 67, 3) := by decide +kernel
theorem dX7_writeBond_52 : decode cX7_writeBond 52 = .ok (.aload_n 0, 1) := by decide +kernel
theorem dX7_writeBond_53 : decode cX7_writeBond 53 = .ok (.getfield 12, 3) := by decide +kernel
theorem dX7_writeBond_56 : decode cX7_writeBond 56 = .ok (.iload_n 1, 1) := by decide +kernel
theorem dX7_writeBond_57 : decode cX7_writeBond 57 = .ok (.iload_n 2, 1) := by decide +kernel
theorem dX7_writeBond_58 : decode cX7_writeBond 58 = .ok (.invokevirtual 112, 3) := by decide +kernel
theorem dX7_writeBond_61 : decode cX7_writeBond 61 = .ok (.invokevirtual 324, 3) := by decide +kernel
theorem dX7_writeBond_64 : decode cX7_writeBond 64 = .ok (.pop, 1) := by decide +kernel
theorem dX7_writeBond_65 : decode cX7_writeBond 65 = .ok (.return_, 1) := by decide +kernel
theorem dX7_writeSet_0 : decode cX7_writeSet 0 = .ok (.iconst 0, 1) := by decide +kernel
theorem dX7_writeSet_1 : decode cX7_writeSet 1 = .ok (.istore_n 2, 1) := by decide +kernel
theorem dX7_writeSet_2 : decode cX7_writeSet 2 = .ok (.iload_n 2, 1) := by decide +kernel
theorem dX7_writeSet_3 : decode cX7_writeSet 3 = .ok (.bipush 9, 2) := by decide +kernel
theorem dX7_writeSet_5 : decode cX7_writeSet 5 = .ok (.if_icmp .ge 26, 3) := by decide +kernel
theorem dX7_writeSet_8 : decode cX7_writeSet 8 = .ok (.iload_n 1, 1) := by decide +kernel
theorem dX7_writeSet_9 : decode cX7_writeSet 9 = .ok (.iload_n 2, 1) := by decide +kernel
theorem dX7_writeSet_10 : decode cX7_writeSet 10 = .ok (.invokestatic 436, 3) := by decide +kernel
theorem dX7_writeSet_13 : decode cX7_writeSet 13 = .ok (.ifCond .eq 12, 3) := by decide +kernel
theorem dX7_writeSet_16 : decode cX7_writeSet 16 = .ok (.aload_n 0, 1) := by decide +kernel
theorem dX7_writeSet_17 : decode cX7_writeSet 17 = .ok (.getfield 67, 3) := by decide +kernel
theorem dX7_writeSet_20 : decode cX7_writeSet 20 = .ok (.iload_n 2, 1) := by decide +kernel
theorem dX7_writeSet_21 : decode cX7_writeSet 21 = .ok (.invokevirtual 324, 3) := by decide +kernel
theorem dX7_writeSet_24 : decode cX7_writeSet 24 = .ok (.pop, 1) := by decide +kernel
theorem dX7_writeSet_25 : decode cX7_writeSet 25 = .ok (.iinc 2 1, 3) := by decide +kernel
theorem dX7_writeSet_28 : decode cX7_writeSet 28 = .ok (.goto (-26), 3) := by decide +kernel
theorem dX7_writeSet_31 : decode cX7_writeSet 31 = .ok (.return_, 1) := by decide +kernel
theorem dX7_isIn_0 : decode cX7_isIn 0 = .ok (.iload_n 0, 1) := by decide +kernel
theorem dX7_isIn_1 : decode cX7_isIn 1 = .ok (.iload_n 1, 1) := by decide +kernel
theorem dX7_isIn_2 : decode cX7_isIn 2 = .ok (.ishr, 1) := by decide +kernel
theorem dX7_isIn_3 : decode cX7_isIn 3 = .ok (.iconst 1, 1) := by decide +kernel
theorem dX7_isIn_4 : decode cX7_isIn 4 = .ok (.iand, 1) := by decide +kernel
theorem dX7_isIn_5 : decode cX7_isIn 5 = .ok (.iconst 1, 1) := by decide +kernel
theorem dX7_isIn_6 : decode cX7_isIn 6 = .ok (.if_icmp .ne 7, 3) := by decide +kernel
theorem dX7_isIn_9 : decode cX7_isIn 9 = .ok (.iconst 1, 1) := by decide +kernel
theorem dX7_isIn_10 : decode cX7_isIn 10 = .ok (.goto 4, 3) := by decide +kernel
theorem dX7_isIn_13 : decode cX7_isIn 13 = .ok (.iconst 0, 1) := by decide +kernel
theorem dX7_isIn_14 : decode cX7_isIn 14 = .ok (.ireturn, 1) := by decide +kernel
theorem dX7_lowestOf_0 : decode cX7_lowestOf 0 = .ok (.iconst 0, 1) := by decide +kernel
