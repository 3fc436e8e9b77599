/-! ===== BEGIN printed: names, fields, word lists, decode rows ===== -/
def RX0 : String := "QueryGateway$Answer"
def TX0 : u_T := fun k => match k with
  | 0 => ("QueryGateway$Answer", "graph", "LQueryGateway$Graph;", true)
  | 1 => ("QueryGateway$Answer", "query", "LQueryGateway$Query;", true)
  | 2 => ("QueryGateway$Answer", "plan", "LQueryGateway$Plan;", true)
  | 3 => ("QueryGateway$Answer", "entities", "[I", true)
  | 4 => ("QueryGateway$Answer", "values", "[I", true)
  | 5 => ("QueryGateway$Answer", "missing", "[Z", true)
  | _ => ("QueryGateway$Answer", "allMissing", "Z", false)
def tyX0 : Nat → FieldType := fun k => match k with
  | 0 => .object "QueryGateway$Graph"
  | 1 => .object "QueryGateway$Query"
  | 2 => .object "QueryGateway$Plan"
  | 3 => .array .int
  | 4 => .array .int
  | 5 => .array .boolean
  | _ => .boolean
abbrev wsX00 : List Cond := u_ws RX0 TX0 7
theorem nmX0 : ∀ a, a < 7 → ∀ b, b < 7 → a ≠ b → (TX0 a).2.1 ≠ (TX0 b).2.1 := by decide +kernel
theorem tyX0_ok : ∀ k, k < 7 → parseFieldDescriptor (TX0 k).2.2.1 = some (tyX0 k) := by decide +kernel
abbrev cX0_init : ByteArray := prog_2_method_1_code
def yX0_init : MethodName := ⟨RX0, "<init>", "(LQueryGateway$Graph;LQueryGateway$Query;LQueryGateway$Plan;)V"⟩
abbrev cX0_read : ByteArray := prog_2_method_2_code
def yX0_read : MethodName := ⟨RX0, "read", "(II)V"⟩
abbrev cX0_isAllMissing : ByteArray := prog_2_method_3_code
def yX0_isAllMissing : MethodName := ⟨RX0, "isAllMissing", "()Z"⟩
abbrev cX0_told : ByteArray := prog_2_method_4_code
def yX0_told : MethodName := ⟨RX0, "told", "(I)I"⟩
abbrev cX0_countFaults : ByteArray := prog_2_method_5_code
def yX0_countFaults : MethodName := ⟨RX0, "countFaults", "()I"⟩
abbrev cX0_differsFrom : ByteArray := prog_2_method_6_code
def yX0_differsFrom : MethodName := ⟨RX0, "differsFrom", "(LQueryGateway$Answer;)Z"⟩
abbrev cX0_readValues : ByteArray := prog_2_method_7_code
def yX0_readValues : MethodName := ⟨RX0, "readValues", "(II)V"⟩
abbrev cX0_letMissingClimb : ByteArray := prog_2_method_8_code
def yX0_letMissingClimb : MethodName := ⟨RX0, "letMissingClimb", "()V"⟩
abbrev cX0_letMissingFall : ByteArray := prog_2_method_9_code
def yX0_letMissingFall : MethodName := ⟨RX0, "letMissingFall", "()V"⟩
def RX1 : String := "QueryGateway$Graph"
def TX1 : u_T := fun k => match k with
  | 0 => ("QueryGateway$Graph", "counts", "[I", true)
  | 1 => ("QueryGateway$Graph", "leads", "[I", true)
  | 2 => ("QueryGateway$Graph", "required", "[Z", true)
  | 3 => ("QueryGateway$Graph", "owners", "[I", true)
  | 4 => ("QueryGateway$Graph", "values", "[I", true)
  | _ => ("QueryGateway$Graph", "failed", "I", false)
def tyX1 : Nat → FieldType := fun k => match k with
  | 0 => .array .int
  | 1 => .array .int
  | 2 => .array .boolean
  | 3 => .array .int
  | 4 => .array .int
  | _ => .int
abbrev wsX10 : List Cond := u_ws RX1 TX1 6
theorem nmX1 : ∀ a, a < 6 → ∀ b, b < 6 → a ≠ b → (TX1 a).2.1 ≠ (TX1 b).2.1 := by decide +kernel
theorem tyX1_ok : ∀ k, k < 6 → parseFieldDescriptor (TX1 k).2.2.1 = some (tyX1 k) := by decide +kernel
abbrev cX1_init : ByteArray := prog_3_method_1_code
def yX1_init : MethodName := ⟨RX1, "<init>", "()V"⟩
abbrev cX1_fieldsOf : ByteArray := prog_3_method_2_code
def yX1_fieldsOf : MethodName := ⟨RX1, "fieldsOf", "(I)I"⟩
abbrev cX1_append : ByteArray := prog_3_method_3_code
def yX1_append : MethodName := ⟨RX1, "append", "(IIZ)I"⟩
abbrev cX1_leadsOf : ByteArray := prog_3_method_4_code
def yX1_leadsOf : MethodName := ⟨RX1, "leadsOf", "(I)I"⟩
abbrev cX1_isRequired : ByteArray := prog_3_method_5_code
def yX1_isRequired : MethodName := ⟨RX1, "isRequired", "(I)Z"⟩
abbrev cX1_ownersOf : ByteArray := prog_3_method_6_code
def yX1_ownersOf : MethodName := ⟨RX1, "ownersOf", "(I)I"⟩
abbrev cX1_putOwner : ByteArray := prog_3_method_7_code
def yX1_putOwner : MethodName := ⟨RX1, "putOwner", "(IIZ)Z"⟩
abbrev cX1_takes : ByteArray := prog_3_method_8_code
def yX1_takes : MethodName := ⟨RX1, "takes", "(II)Z"⟩
abbrev cX1_valueOf : ByteArray := prog_3_method_9_code
def yX1_valueOf : MethodName := ⟨RX1, "valueOf", "(II)I"⟩
abbrev cX1_putValue : ByteArray := prog_3_method_10_code
def yX1_putValue : MethodName := ⟨RX1, "putValue", "(III)I"⟩
abbrev cX1_failures : ByteArray := prog_3_method_11_code
def yX1_failures : MethodName := ⟨RX1, "failures", "()I"⟩
abbrev cX1_putFailed : ByteArray := prog_3_method_12_code
def yX1_putFailed : MethodName := ⟨RX1, "putFailed", "(IZ)Z"⟩
def RX2 : String := "QueryGateway$Plan"
def TX2 : u_T := fun k => match k with
  | 0 => ("QueryGateway$Plan", "graph", "LQueryGateway$Graph;", true)
  | 1 => ("QueryGateway$Plan", "query", "LQueryGateway$Query;", true)
  | 2 => ("QueryGateway$Plan", "places", "[I", true)
  | 3 => ("QueryGateway$Plan", "choices", "[I", true)
  | 4 => ("QueryGateway$Plan", "hopsBelow", "[I", true)
  | 5 => ("QueryGateway$Plan", "services", "[I", true)
  | 6 => ("QueryGateway$Plan", "count", "I", false)
  | 7 => ("QueryGateway$Plan", "length", "I", false)
  | 8 => ("QueryGateway$Plan", "known", "Z", false)
  | _ => ("QueryGateway$Plan", "there", "Z", false)
def tyX2 : Nat → FieldType := fun k => match k with
  | 0 => .object "QueryGateway$Graph"
  | 1 => .object "QueryGateway$Query"
  | 2 => .array .int
  | 3 => .array .int
  | 4 => .array .int
  | 5 => .array .int
  | 6 => .int
  | 7 => .int
  | 8 => .boolean
  | _ => .boolean
abbrev wsX20 : List Cond := u_ws RX2 TX2 10
theorem nmX2 : ∀ a, a < 10 → ∀ b, b < 10 → a ≠ b → (TX2 a).2.1 ≠ (TX2 b).2.1 := by decide +kernel
theorem tyX2_ok : ∀ k, k < 10 → parseFieldDescriptor (TX2 k).2.2.1 = some (tyX2 k) := by decide +kernel
abbrev cX2_init : ByteArray := prog_4_method_1_code
def yX2_init : MethodName := ⟨RX2, "<init>", "(LQueryGateway$Graph;LQueryGateway$Query;)V"⟩
abbrev cX2_forget : ByteArray := prog_4_method_2_code
def yX2_forget : MethodName := ⟨RX2, "forget", "()V"⟩
abbrev cX2_find : ByteArray := prog_4_method_3_code
def yX2_find : MethodName := ⟨RX2, "find", "()Z"⟩
abbrev cX2_length : ByteArray := prog_4_method_4_code
def yX2_length : MethodName := ⟨RX2, "length", "()I"⟩
abbrev cX2_serviceOf : ByteArray := prog_4_method_5_code
def yX2_serviceOf : MethodName := ⟨RX2, "serviceOf", "(I)I"⟩
abbrev cX2_openChoices : ByteArray := prog_4_method_6_code
def yX2_openChoices : MethodName := ⟨RX2, "openChoices", "()Z"⟩
abbrev cX2_countHopsBelow : ByteArray := prog_4_method_7_code
def yX2_countHopsBelow : MethodName := ⟨RX2, "countHopsBelow", "()V"⟩
abbrev cX2_chooseServices : ByteArray := prog_4_method_8_code
def yX2_chooseServices : MethodName := ⟨RX2, "chooseServices", "()V"⟩
abbrev cX2_hopsAt : ByteArray := prog_4_method_9_code
def yX2_hopsAt : MethodName := ⟨RX2, "hopsAt", "(II)I"⟩
abbrev cX2_hopsUnder : ByteArray := prog_4_method_10_code
def yX2_hopsUnder : MethodName := ⟨RX2, "hopsUnder", "(II)I"⟩
def RX3 : String := "QueryGateway$Query"
def TX3 : u_T := fun k => match k with
  | 0 => ("QueryGateway$Query", "above", "[I", true)
  | 1 => ("QueryGateway$Query", "slots", "[I", true)
  | 2 => ("QueryGateway$Query", "type", "I", false)
  | _ => ("QueryGateway$Query", "count", "I", false)
def tyX3 : Nat → FieldType := fun k => match k with
  | 0 => .array .int
  | 1 => .array .int
  | 2 => .int
  | _ => .int
abbrev wsX30 : List Cond := u_ws RX3 TX3 4
theorem nmX3 : ∀ a, a < 4 → ∀ b, b < 4 → a ≠ b → (TX3 a).2.1 ≠ (TX3 b).2.1 := by decide +kernel
theorem tyX3_ok : ∀ k, k < 4 → parseFieldDescriptor (TX3 k).2.2.1 = some (tyX3 k) := by decide +kernel
abbrev cX3_init : ByteArray := prog_5_method_1_code
def yX3_init : MethodName := ⟨RX3, "<init>", "()V"⟩
abbrev cX3_restart : ByteArray := prog_5_method_2_code
def yX3_restart : MethodName := ⟨RX3, "restart", "(I)I"⟩
abbrev cX3_type : ByteArray := prog_5_method_3_code
def yX3_type : MethodName := ⟨RX3, "type", "()I"⟩
abbrev cX3_size : ByteArray := prog_5_method_4_code
def yX3_size : MethodName := ⟨RX3, "size", "()I"⟩
abbrev cX3_has : ByteArray := prog_5_method_5_code
def yX3_has : MethodName := ⟨RX3, "has", "(I)Z"⟩
abbrev cX3_aboveOf : ByteArray := prog_5_method_6_code
def yX3_aboveOf : MethodName := ⟨RX3, "aboveOf", "(I)I"⟩
abbrev cX3_slotAt : ByteArray := prog_5_method_7_code
def yX3_slotAt : MethodName := ⟨RX3, "slotAt", "(I)I"⟩
abbrev cX3_hasRoom : ByteArray := prog_5_method_8_code
def yX3_hasRoom : MethodName := ⟨RX3, "hasRoom", "(II)Z"⟩
abbrev cX3_append : ByteArray := prog_5_method_9_code
def yX3_append : MethodName := ⟨RX3, "append", "(II)I"⟩
def RX4 : String := "QueryGateway"
def TX4 : u_T := fun k => match k with
  | 0 => ("QueryGateway", "graph", "LQueryGateway$Graph;", true)
  | 1 => ("QueryGateway", "query", "LQueryGateway$Query;", true)
  | 2 => ("QueryGateway", "plan", "LQueryGateway$Plan;", true)
  | 3 => ("QueryGateway", "answer", "LQueryGateway$Answer;", true)
  | _ => ("QueryGateway", "unharmed", "LQueryGateway$Answer;", true)
def tyX4 : Nat → FieldType := fun k => match k with
  | 0 => .object "QueryGateway$Graph"
  | 1 => .object "QueryGateway$Query"
  | 2 => .object "QueryGateway$Plan"
  | 3 => .object "QueryGateway$Answer"
  | _ => .object "QueryGateway$Answer"
abbrev wsX40 : List Cond := u_ws RX4 TX4 5
theorem nmX4 : ∀ a, a < 5 → ∀ b, b < 5 → a ≠ b → (TX4 a).2.1 ≠ (TX4 b).2.1 := by decide +kernel
theorem tyX4_ok : ∀ k, k < 5 → parseFieldDescriptor (TX4 k).2.2.1 = some (tyX4 k) := by decide +kernel
abbrev cX4_init : ByteArray := prog_1_method_1_code
def yX4_init : MethodName := ⟨RX4, "<init>", "()V"⟩
abbrev cX4_addField : ByteArray := prog_1_method_2_code
def yX4_addField : MethodName := ⟨RX4, "addField", "(IIZ)I"⟩
abbrev cX4_own : ByteArray := prog_1_method_3_code
def yX4_own : MethodName := ⟨RX4, "own", "(IIIZ)Z"⟩
abbrev cX4_set : ByteArray := prog_1_method_4_code
def yX4_set : MethodName := ⟨RX4, "set", "(IIII)I"⟩
abbrev cX4_fail : ByteArray := prog_1_method_5_code
def yX4_fail : MethodName := ⟨RX4, "fail", "(IZ)Z"⟩
abbrev cX4_begin : ByteArray := prog_1_method_6_code
def yX4_begin : MethodName := ⟨RX4, "begin", "(I)I"⟩
abbrev cX4_node : ByteArray := prog_1_method_7_code
def yX4_node : MethodName := ⟨RX4, "node", "(II)I"⟩
abbrev cX4_nodes : ByteArray := prog_1_method_8_code
def yX4_nodes : MethodName := ⟨RX4, "nodes", "()I"⟩
abbrev cX4_typeOf : ByteArray := prog_1_method_9_code
def yX4_typeOf : MethodName := ⟨RX4, "typeOf", "(I)I"⟩
abbrev cX4_hops : ByteArray := prog_1_method_10_code
def yX4_hops : MethodName := ⟨RX4, "hops", "()I"⟩
abbrev cX4_takenFrom : ByteArray := prog_1_method_11_code
def yX4_takenFrom : MethodName := ⟨RX4, "takenFrom", "(I)I"⟩
abbrev cX4_used : ByteArray := prog_1_method_12_code
def yX4_used : MethodName := ⟨RX4, "used", "()I"⟩
abbrev cX4_value : ByteArray := prog_1_method_13_code
def yX4_value : MethodName := ⟨RX4, "value", "(II)I"⟩
abbrev cX4_isMissing : ByteArray := prog_1_method_14_code
def yX4_isMissing : MethodName := ⟨RX4, "isMissing", "(I)Z"⟩
abbrev cX4_faults : ByteArray := prog_1_method_15_code
def yX4_faults : MethodName := ⟨RX4, "faults", "(I)I"⟩
abbrev cX4_loaded : ByteArray := prog_1_method_16_code
def yX4_loaded : MethodName := ⟨RX4, "loaded", "(III)I"⟩
abbrev cX4_harmed : ByteArray := prog_1_method_17_code
def yX4_harmed : MethodName := ⟨RX4, "harmed", "()I"⟩
abbrev cX4_least : ByteArray := prog_1_method_18_code
def yX4_least : MethodName := ⟨RX4, "least", "(I)I"⟩
abbrev cX4_isService : ByteArray := prog_1_method_19_code
def yX4_isService : MethodName := ⟨RX4, "isService", "(I)Z"⟩
abbrev cX4_isType : ByteArray := prog_1_method_20_code
def yX4_isType : MethodName := ⟨RX4, "isType", "(I)Z"⟩
abbrev cX4_isKey : ByteArray := prog_1_method_21_code
def yX4_isKey : MethodName := ⟨RX4, "isKey", "(I)Z"⟩
abbrev cX4_isSlot : ByteArray := prog_1_method_22_code
def yX4_isSlot : MethodName := ⟨RX4, "isSlot", "(I)Z"⟩
abbrev cX4_slotOf : ByteArray := prog_1_method_23_code
def yX4_slotOf : MethodName := ⟨RX4, "slotOf", "(II)I"⟩
abbrev cX4_bit : ByteArray := prog_1_method_24_code
def yX4_bit : MethodName := ⟨RX4, "bit", "(I)I"⟩
abbrev cX4_checkService : ByteArray := prog_1_method_25_code
def yX4_checkService : MethodName := ⟨RX4, "checkService", "(I)V"⟩
abbrev cX4_checkType : ByteArray := prog_1_method_26_code
def yX4_checkType : MethodName := ⟨RX4, "checkType", "(I)V"⟩
abbrev cX4_checkKey : ByteArray := prog_1_method_27_code
def yX4_checkKey : MethodName := ⟨RX4, "checkKey", "(I)V"⟩
abbrev cX4_checkField : ByteArray := prog_1_method_28_code
def yX4_checkField : MethodName := ⟨RX4, "checkField", "(II)V"⟩
abbrev cX4_checkNode : ByteArray := prog_1_method_29_code
def yX4_checkNode : MethodName := ⟨RX4, "checkNode", "(I)V"⟩
abbrev cX4_checkPlan : ByteArray := prog_1_method_30_code
def yX4_checkPlan : MethodName := ⟨RX4, "checkPlan", "()V"⟩
abbrev cX4_typeAt : ByteArray := prog_1_method_31_code
def yX4_typeAt : MethodName := ⟨RX4, "typeAt", "(I)I"⟩
def RX5 : String := "QueryGatewayModel"
def TX5 : u_T := fun k => match k with
  | 0 => ("QueryGatewayModel", "thrown", "I", false)
  | 1 => ("QueryGatewayModel", "fields", "[I", true)
  | 2 => ("QueryGatewayModel", "leads", "[I", true)
  | 3 => ("QueryGatewayModel", "isRequired", "[Z", true)
  | 4 => ("QueryGatewayModel", "owners", "[I", true)
  | 5 => ("QueryGatewayModel", "values", "[I", true)
  | 6 => ("QueryGatewayModel", "failed", "I", false)
  | 7 => ("QueryGatewayModel", "queryType", "I", false)
  | 8 => ("QueryGatewayModel", "nodes", "I", false)
  | 9 => ("QueryGatewayModel", "above", "[I", true)
  | 10 => ("QueryGatewayModel", "field", "[I", true)
  | 11 => ("QueryGatewayModel", "type", "[I", true)
  | 12 => ("QueryGatewayModel", "may", "[I", true)
  | 13 => ("QueryGatewayModel", "fewest", "[I", true)
  | 14 => ("QueryGatewayModel", "from", "[I", true)
  | 15 => ("QueryGatewayModel", "raw", "[I", true)
  | 16 => ("QueryGatewayModel", "isMissing", "[Z", true)
  | 17 => ("QueryGatewayModel", "told", "[I", true)
  | 18 => ("QueryGatewayModel", "other", "[I", true)
  | _ => ("QueryGatewayModel", "isAnswerMissing", "Z", false)
def tyX5 : Nat → FieldType := fun k => match k with
  | 0 => .int
  | 1 => .array .int
  | 2 => .array .int
  | 3 => .array .boolean
  | 4 => .array .int
  | 5 => .array .int
  | 6 => .int
  | 7 => .int
  | 8 => .int
  | 9 => .array .int
  | 10 => .array .int
  | 11 => .array .int
  | 12 => .array .int
  | 13 => .array .int
  | 14 => .array .int
  | 15 => .array .int
  | 16 => .array .boolean
  | 17 => .array .int
  | 18 => .array .int
  | _ => .boolean
abbrev wsX50 : List Cond := u_ws RX5 TX5 20
theorem nmX5 : ∀ a, a < 20 → ∀ b, b < 20 → a ≠ b → (TX5 a).2.1 ≠ (TX5 b).2.1 := by decide +kernel
theorem tyX5_ok : ∀ k, k < 20 → parseFieldDescriptor (TX5 k).2.2.1 = some (tyX5 k) := by decide +kernel
abbrev cX5_init : ByteArray := prog_7_method_1_code
def yX5_init : MethodName := ⟨RX5, "<init>", "()V"⟩
abbrev cX5_thrown : ByteArray := prog_7_method_2_code
def yX5_thrown : MethodName := ⟨RX5, "thrown", "()I"⟩
abbrev cX5_in : ByteArray := prog_7_method_3_code
def yX5_in : MethodName := ⟨RX5, "in", "(III)Z"⟩
abbrev cX5_isType : ByteArray := prog_7_method_4_code
def yX5_isType : MethodName := ⟨RX5, "isType", "(I)Z"⟩
abbrev cX5_isService : ByteArray := prog_7_method_5_code
def yX5_isService : MethodName := ⟨RX5, "isService", "(I)Z"⟩
abbrev cX5_isKey : ByteArray := prog_7_method_6_code
def yX5_isKey : MethodName := ⟨RX5, "isKey", "(I)Z"⟩
abbrev cX5_isField : ByteArray := prog_7_method_7_code
def yX5_isField : MethodName := ⟨RX5, "isField", "(II)Z"⟩
abbrev cX5_addField : ByteArray := prog_7_method_8_code
def yX5_addField : MethodName := ⟨RX5, "addField", "(IIZ)I"⟩
abbrev cX5_own : ByteArray := prog_7_method_9_code
def yX5_own : MethodName := ⟨RX5, "own", "(IIIZ)Z"⟩
abbrev cX5_set : ByteArray := prog_7_method_10_code
def yX5_set : MethodName := ⟨RX5, "set", "(IIII)I"⟩
abbrev cX5_fail : ByteArray := prog_7_method_11_code
def yX5_fail : MethodName := ⟨RX5, "fail", "(IZ)Z"⟩
abbrev cX5_begin : ByteArray := prog_7_method_12_code
def yX5_begin : MethodName := ⟨RX5, "begin", "(I)I"⟩
abbrev cX5_isNode : ByteArray := prog_7_method_13_code
def yX5_isNode : MethodName := ⟨RX5, "isNode", "(I)Z"⟩
abbrev cX5_fieldOf : ByteArray := prog_7_method_14_code
def yX5_fieldOf : MethodName := ⟨RX5, "fieldOf", "(I)I"⟩
abbrev cX5_node : ByteArray := prog_7_method_15_code
def yX5_node : MethodName := ⟨RX5, "node", "(II)I"⟩
abbrev cX5_nodes : ByteArray := prog_7_method_16_code
def yX5_nodes : MethodName := ⟨RX5, "nodes", "()I"⟩
abbrev cX5_typeOf : ByteArray := prog_7_method_17_code
def yX5_typeOf : MethodName := ⟨RX5, "typeOf", "(I)I"⟩
abbrev cX5_manyOf : ByteArray := prog_7_method_18_code
def yX5_manyOf : MethodName := ⟨RX5, "manyOf", "(I)I"⟩
abbrev cX5_fewestBy : ByteArray := prog_7_method_19_code
def yX5_fewestBy : MethodName := ⟨RX5, "fewestBy", "(II)I"⟩
abbrev cX5_hopsBelow : ByteArray := prog_7_method_20_code
def yX5_hopsBelow : MethodName := ⟨RX5, "hopsBelow", "(II)I"⟩
abbrev cX5_tries : ByteArray := prog_7_method_21_code
def yX5_tries : MethodName := ⟨RX5, "tries", "()I"⟩
abbrev cX5_hasPlan : ByteArray := prog_7_method_22_code
def yX5_hasPlan : MethodName := ⟨RX5, "hasPlan", "()Z"⟩
abbrev cX5_laysPlan : ByteArray := prog_7_method_23_code
def yX5_laysPlan : MethodName := ⟨RX5, "laysPlan", "()I"⟩
abbrev cX5_hops : ByteArray := prog_7_method_24_code
def yX5_hops : MethodName := ⟨RX5, "hops", "()I"⟩
abbrev cX5_takenFrom : ByteArray := prog_7_method_25_code
def yX5_takenFrom : MethodName := ⟨RX5, "takenFrom", "(I)I"⟩
abbrev cX5_used : ByteArray := prog_7_method_26_code
def yX5_used : MethodName := ⟨RX5, "used", "()I"⟩
abbrev cX5_entityOf : ByteArray := prog_7_method_27_code
def yX5_entityOf : MethodName := ⟨RX5, "entityOf", "(II)I"⟩
abbrev cX5_answers : ByteArray := prog_7_method_28_code
def yX5_answers : MethodName := ⟨RX5, "answers", "(II)V"⟩
abbrev cX5_value : ByteArray := prog_7_method_29_code
def yX5_value : MethodName := ⟨RX5, "value", "(II)I"⟩
abbrev cX5_isMissing : ByteArray := prog_7_method_30_code
def yX5_isMissing : MethodName := ⟨RX5, "isMissing", "(I)Z"⟩
abbrev cX5_faults : ByteArray := prog_7_method_31_code
def yX5_faults : MethodName := ⟨RX5, "faults", "(I)I"⟩
abbrev cX5_loaded : ByteArray := prog_7_method_32_code
def yX5_loaded : MethodName := ⟨RX5, "loaded", "(III)I"⟩
abbrev cX5_harmed : ByteArray := prog_7_method_33_code
def yX5_harmed : MethodName := ⟨RX5, "harmed", "()I"⟩
abbrev cX5_least : ByteArray := prog_7_method_34_code
def yX5_least : MethodName := ⟨RX5, "least", "(I)I"⟩
def RJx145de : String := "java/io/Serializable"
def TJx145de : u_T := fun k => match k with
  | _ => ("", "", "", false)
def tyJx145de : Nat → FieldType := fun k => match k with
  | _ => .int
abbrev wsJx145de0 : List Cond := u_ws RJx145de TJx145de 0
theorem nmJx145de : ∀ a, a < 0 → ∀ b, b < 0 → a ≠ b → (TJx145de a).2.1 ≠ (TJx145de b).2.1 := by decide +kernel
theorem tyJx145de_ok : ∀ k, k < 0 → parseFieldDescriptor (TJx145de k).2.2.1 = some (tyJx145de k) := by decide +kernel
def RJ6 : String := "java/lang/Integer"
def TJ6 : u_T := fun k => match k with
  | _ => ("", "", "", false)
def tyJ6 : Nat → FieldType := fun k => match k with
  | _ => .int
abbrev wsJ60 : List Cond := u_ws RJ6 TJ6 0
theorem nmJ6 : ∀ a, a < 0 → ∀ b, b < 0 → a ≠ b → (TJ6 a).2.1 ≠ (TJ6 b).2.1 := by decide +kernel
theorem tyJ6_ok : ∀ k, k < 0 → parseFieldDescriptor (TJ6 k).2.2.1 = some (tyJ6 k) := by decide +kernel
abbrev cJ6_bitCount_0f7a4 : ByteArray := prog_13_method_49_code
def yJ6_bitCount_0f7a4 : MethodName := ⟨RJ6, "bitCount", "(I)I"⟩
def RJ9 : String := "java/lang/Math"
def TJ9 : u_T := fun k => match k with
  | _ => ("", "", "", false)
def tyJ9 : Nat → FieldType := fun k => match k with
  | _ => .int
abbrev wsJ90 : List Cond := u_ws RJ9 TJ9 0
theorem nmJ9 : ∀ a, a < 0 → ∀ b, b < 0 → a ≠ b → (TJ9 a).2.1 ≠ (TJ9 b).2.1 := by decide +kernel
theorem tyJ9_ok : ∀ k, k < 0 → parseFieldDescriptor (TJ9 k).2.2.1 = some (tyJ9 k) := by decide +kernel
abbrev cJ9_min_7cf53 : ByteArray := prog_14_method_69_code
def yJ9_min_7cf53 : MethodName := ⟨RJ9, "min", "(II)I"⟩
def RJ0 : String := "java/lang/String"
def TJ0 : u_T := fun k => match k with
  | _ => ("", "", "", false)
def tyJ0 : Nat → FieldType := fun k => match k with
  | _ => .int
abbrev wsJ00 : List Cond := u_ws RJ0 TJ0 0
theorem nmJ0 : ∀ a, a < 0 → ∀ b, b < 0 → a ≠ b → (TJ0 a).2.1 ≠ (TJ0 b).2.1 := by decide +kernel
theorem tyJ0_ok : ∀ k, k < 0 → parseFieldDescriptor (TJ0 k).2.2.1 = some (tyJ0 k) := by decide +kernel
def RJ7 : String := "java/util/Arrays"
def TJ7 : u_T := fun k => match k with
  | _ => ("", "", "", false)
def tyJ7 : Nat → FieldType := fun k => match k with
  | _ => .int
abbrev wsJ70 : List Cond := u_ws RJ7 TJ7 0
theorem nmJ7 : ∀ a, a < 0 → ∀ b, b < 0 → a ≠ b → (TJ7 a).2.1 ≠ (TJ7 b).2.1 := by decide +kernel
theorem tyJ7_ok : ∀ k, k < 0 → parseFieldDescriptor (TJ7 k).2.2.1 = some (tyJ7 k) := by decide +kernel
abbrev cJ7_fill_53178 : ByteArray := prog_18_method_103_code
def yJ7_fill_53178 : MethodName := ⟨RJ7, "fill", "([II)V"⟩
def RL : String := "QueryGatewayLaw"
abbrev cL_addField : ByteArray := method_3_code
def yL_addField : MethodName := ⟨RL, "addField", "(LQueryGateway;IIZ[J)I"⟩
abbrev cL_own : ByteArray := method_4_code
def yL_own : MethodName := ⟨RL, "own", "(LQueryGateway;IIIZ[J)I"⟩
abbrev cL_set : ByteArray := method_5_code
def yL_set : MethodName := ⟨RL, "set", "(LQueryGateway;IIII[J)I"⟩
abbrev cL_fail : ByteArray := method_6_code
def yL_fail : MethodName := ⟨RL, "fail", "(LQueryGateway;IZ[J)I"⟩
abbrev cL_begin : ByteArray := method_7_code
def yL_begin : MethodName := ⟨RL, "begin", "(LQueryGateway;I[J)I"⟩
abbrev cL_node : ByteArray := method_8_code
def yL_node : MethodName := ⟨RL, "node", "(LQueryGateway;II[J)I"⟩
abbrev cL_typeOf : ByteArray := method_9_code
def yL_typeOf : MethodName := ⟨RL, "typeOf", "(LQueryGateway;I[J)I"⟩
abbrev cL_hops : ByteArray := method_10_code
def yL_hops : MethodName := ⟨RL, "hops", "(LQueryGateway;[J)I"⟩
abbrev cL_takenFrom : ByteArray := method_11_code
def yL_takenFrom : MethodName := ⟨RL, "takenFrom", "(LQueryGateway;I[J)I"⟩
abbrev cL_used : ByteArray := method_12_code
def yL_used : MethodName := ⟨RL, "used", "(LQueryGateway;[J)I"⟩
abbrev cL_value : ByteArray := method_13_code
def yL_value : MethodName := ⟨RL, "value", "(LQueryGateway;II[J)I"⟩
abbrev cL_isMissing : ByteArray := method_14_code
def yL_isMissing : MethodName := ⟨RL, "isMissing", "(LQueryGateway;I[J)I"⟩
abbrev cL_faults : ByteArray := method_15_code
def yL_faults : MethodName := ⟨RL, "faults", "(LQueryGateway;I[J)I"⟩
abbrev cL_loaded : ByteArray := method_16_code
def yL_loaded : MethodName := ⟨RL, "loaded", "(LQueryGateway;III[J)I"⟩
abbrev cL_harmed : ByteArray := method_17_code
def yL_harmed : MethodName := ⟨RL, "harmed", "(LQueryGateway;[J)I"⟩
abbrev cL_least : ByteArray := method_18_code
def yL_least : MethodName := ⟨RL, "least", "(LQueryGateway;I[J)I"⟩
abbrev cL_law : ByteArray := code
def yL_law : MethodName := ⟨RL, "law", "([I)Z"⟩
def wsX0_init : List Cond := .code yX0_init cX0_init 4 none :: ([.methodLink RX0 3 objectInit, .instanceMethod objectInit, .code objectInit ⟨#[0xb1]⟩ 1 none, .fieldLink RX0 9 "QueryGateway$Answer" "graph" "LQueryGateway$Graph;", .fieldLink RX0 15 "QueryGateway$Answer" "query" "LQueryGateway$Query;", .fieldLink RX0 19 "QueryGateway$Answer" "plan" "LQueryGateway$Plan;", .arrayClass .int, .fieldLink RX0 23 "QueryGateway$Answer" "entities" "[I", .fieldLink RX0 27 "QueryGateway$Answer" "values" "[I", .arrayClass .boolean, .fieldLink RX0 30 "QueryGateway$Answer" "missing" "[Z"] ++ wsX00)
def wsX3_size : List Cond := .code yX3_size cX3_size 1 (some .int) :: ([.fieldLink RX3 18 "QueryGateway$Query" "count" "I"] ++ wsX30)
def wsX3_has : List Cond := .code yX3_has cX3_has 2 (some .boolean) :: ([.fieldLink RX3 18 "QueryGateway$Query" "count" "I"] ++ wsX30)
def wsX3_aboveOf : List Cond := .code yX3_aboveOf cX3_aboveOf 2 (some .int) :: ([.fieldLink RX3 9 "QueryGateway$Query" "above" "[I", .methodLink RX3 25 yX3_has, .instanceMethod yX3_has, .selects RX3 yX3_has yX3_has, .initialized RX3, .code yX3_has cX3_has 2 (some .boolean), .fieldLink RX3 18 "QueryGateway$Query" "count" "I"] ++ wsX30)
def wsX2_serviceOf : List Cond := .code yX2_serviceOf cX2_serviceOf 2 (some .int) :: ([.fieldLink RX2 15 "QueryGateway$Plan" "query" "LQueryGateway$Query;", .fieldLink RX2 29 "QueryGateway$Plan" "services" "[I", .methodLink RX2 57 yX3_has, .instanceMethod yX3_has, .selects RX3 yX3_has yX3_has, .initialized RX3, .code yX3_has cX3_has 2 (some .boolean), .fieldLink RX3 18 "QueryGateway$Query" "count" "I"] ++ wsX20 ++ wsX30)
def wsX4_bit : List Cond := .code yX4_bit cX4_bit 1 (some .int) :: ([])
def wsX3_slotAt : List Cond := .code yX3_slotAt cX3_slotAt 2 (some .int) :: ([.fieldLink RX3 15 "QueryGateway$Query" "slots" "[I", .methodLink RX3 25 yX3_has, .instanceMethod yX3_has, .selects RX3 yX3_has yX3_has, .initialized RX3, .code yX3_has cX3_has 2 (some .boolean), .fieldLink RX3 18 "QueryGateway$Query" "count" "I"] ++ wsX30)
def wsX4_isSlot : List Cond := .code yX4_isSlot cX4_isSlot 1 (some .boolean) :: ([])
def wsX4_isKey : List Cond := .code yX4_isKey cX4_isKey 1 (some .boolean) :: ([])
def wsX1_valueOf : List Cond := .code yX1_valueOf cX1_valueOf 3 (some .int) :: ([.fieldLink RX1 25 "QueryGateway$Graph" "values" "[I", .static yX4_isSlot, .initialized RX4, .code yX4_isSlot cX4_isSlot 1 (some .boolean), .static yX4_isKey, .code yX4_isKey cX4_isKey 1 (some .boolean)] ++ wsX10)
def wsX0_readValues_r1 : List Cond := [Cond.fieldLink RX0 15 "QueryGateway$Answer" "query" "LQueryGateway$Query;", Cond.fieldLink RX0 27 "QueryGateway$Answer" "values" "[I", Cond.fieldLink RX0 19 "QueryGateway$Answer" "plan" "LQueryGateway$Plan;", Cond.fieldLink RX0 23 "QueryGateway$Answer" "entities" "[I", Cond.fieldLink RX0 9 "QueryGateway$Answer" "graph" "LQueryGateway$Graph;", Cond.fieldLink RX0 30 "QueryGateway$Answer" "missing" "[Z", Cond.methodLink RX0 54 yX3_size, Cond.instanceMethod yX3_size, Cond.selects RX3 yX3_size yX3_size, Cond.initialized RX3, Cond.code yX3_size cX3_size 1 (some .int), Cond.fieldLink RX3 18 "QueryGateway$Query" "count" "I", Cond.methodLink RX0 66 yX3_aboveOf, Cond.instanceMethod yX3_aboveOf, Cond.selects RX3 yX3_aboveOf yX3_aboveOf, Cond.code yX3_aboveOf cX3_aboveOf 2 (some .int), Cond.fieldLink RX3 9 "QueryGateway$Query" "above" "[I", Cond.methodLink RX3 25 yX3_has, Cond.instanceMethod yX3_has, Cond.selects RX3 yX3_has yX3_has, Cond.code yX3_has cX3_has 2 (some .boolean), Cond.methodLink RX0 48 yX3_has, Cond.methodLink RX0 69 yX2_serviceOf, Cond.instanceMethod yX2_serviceOf]
def wsX0_readValues_r2 : List Cond := [Cond.selects RX2 yX2_serviceOf yX2_serviceOf, Cond.initialized RX2, Cond.code yX2_serviceOf cX2_serviceOf 2 (some .int), Cond.fieldLink RX2 15 "QueryGateway$Plan" "query" "LQueryGateway$Query;", Cond.fieldLink RX2 29 "QueryGateway$Plan" "services" "[I", Cond.methodLink RX2 57 yX3_has, Cond.static yX4_bit, Cond.initialized RX4, Cond.code yX4_bit cX4_bit 1 (some .int), Cond.methodLink RX0 77 yX3_slotAt, Cond.instanceMethod yX3_slotAt, Cond.selects RX3 yX3_slotAt yX3_slotAt, Cond.code yX3_slotAt cX3_slotAt 2 (some .int), Cond.fieldLink RX3 15 "QueryGateway$Query" "slots" "[I", Cond.methodLink RX0 80 yX1_valueOf, Cond.instanceMethod yX1_valueOf, Cond.selects RX1 yX1_valueOf yX1_valueOf, Cond.initialized RX1, Cond.code yX1_valueOf cX1_valueOf 3 (some .int), Cond.fieldLink RX1 25 "QueryGateway$Graph" "values" "[I", Cond.static yX4_isSlot, Cond.code yX4_isSlot cX4_isSlot 1 (some .boolean), Cond.static yX4_isKey, Cond.code yX4_isKey cX4_isKey 1 (some .boolean)]
def wsX0_readValues : List Cond := .code yX0_readValues cX0_readValues 7 none :: ((wsX0_readValues_r1 ++ wsX0_readValues_r2) ++ wsX00 ++ wsX30 ++ wsX20 ++ wsX10)
def wsX1_isRequired : List Cond := .code yX1_isRequired cX1_isRequired 2 (some .boolean) :: ([.fieldLink RX1 18 "QueryGateway$Graph" "required" "[Z", .static yX4_isSlot, .initialized RX4, .code yX4_isSlot cX4_isSlot 1 (some .boolean)] ++ wsX10)
def wsX0_letMissingClimb_r1 : List Cond := [Cond.fieldLink RX0 44 "QueryGateway$Answer" "allMissing" "Z", Cond.fieldLink RX0 15 "QueryGateway$Answer" "query" "LQueryGateway$Query;", Cond.methodLink RX0 86 Lib.Math.min.name, Cond.static Lib.Math.min.name, Cond.initialized "java/lang/Math", Cond.code Lib.Math.min.name Lib.Math.min.code 2 (some .int), Cond.fieldLink RX0 30 "QueryGateway$Answer" "missing" "[Z", Cond.fieldLink RX0 9 "QueryGateway$Answer" "graph" "LQueryGateway$Graph;", Cond.methodLink RX0 54 yX3_size, Cond.instanceMethod yX3_size, Cond.selects RX3 yX3_size yX3_size, Cond.initialized RX3, Cond.code yX3_size cX3_size 1 (some .int), Cond.fieldLink RX3 18 "QueryGateway$Query" "count" "I", Cond.methodLink RX0 77 yX3_slotAt, Cond.instanceMethod yX3_slotAt, Cond.selects RX3 yX3_slotAt yX3_slotAt, Cond.code yX3_slotAt cX3_slotAt 2 (some .int), Cond.fieldLink RX3 15 "QueryGateway$Query" "slots" "[I", Cond.methodLink RX3 25 yX3_has, Cond.instanceMethod yX3_has, Cond.selects RX3 yX3_has yX3_has, Cond.code yX3_has cX3_has 2 (some .boolean), Cond.methodLink RX0 91 yX1_isRequired]
def wsX0_letMissingClimb_r2 : List Cond := [Cond.instanceMethod yX1_isRequired, Cond.selects RX1 yX1_isRequired yX1_isRequired, Cond.initialized RX1, Cond.code yX1_isRequired cX1_isRequired 2 (some .boolean), Cond.fieldLink RX1 18 "QueryGateway$Graph" "required" "[Z", Cond.static yX4_isSlot, Cond.initialized RX4, Cond.code yX4_isSlot cX4_isSlot 1 (some .boolean), Cond.methodLink RX0 66 yX3_aboveOf, Cond.instanceMethod yX3_aboveOf, Cond.selects RX3 yX3_aboveOf yX3_aboveOf, Cond.code yX3_aboveOf cX3_aboveOf 2 (some .int), Cond.fieldLink RX3 9 "QueryGateway$Query" "above" "[I", Cond.methodLink RX0 48 yX3_has]
def wsX0_letMissingClimb : List Cond := .code yX0_letMissingClimb cX0_letMissingClimb 3 none :: ((wsX0_letMissingClimb_r1 ++ wsX0_letMissingClimb_r2) ++ wsX00 ++ wsX30 ++ wsX10)
def wsX0_letMissingFall : List Cond := .code yX0_letMissingFall cX0_letMissingFall 3 none :: ([.fieldLink RX0 15 "QueryGateway$Answer" "query" "LQueryGateway$Query;", .fieldLink RX0 30 "QueryGateway$Answer" "missing" "[Z", .fieldLink RX0 44 "QueryGateway$Answer" "allMissing" "Z", .methodLink RX0 54 yX3_size, .instanceMethod yX3_size, .selects RX3 yX3_size yX3_size, .initialized RX3, .code yX3_size cX3_size 1 (some .int), .fieldLink RX3 18 "QueryGateway$Query" "count" "I", .methodLink RX0 66 yX3_aboveOf, .instanceMethod yX3_aboveOf, .selects RX3 yX3_aboveOf yX3_aboveOf, .code yX3_aboveOf cX3_aboveOf 2 (some .int), .fieldLink RX3 9 "QueryGateway$Query" "above" "[I", .methodLink RX3 25 yX3_has, .instanceMethod yX3_has, .selects RX3 yX3_has yX3_has, .code yX3_has cX3_has 2 (some .boolean), .methodLink RX0 48 yX3_has] ++ wsX00 ++ wsX30)
def wsX0_read_r1 : List Cond := [Cond.methodLink RX0 34 yX0_readValues, Cond.instanceMethod yX0_readValues, Cond.selects RX0 yX0_readValues yX0_readValues, Cond.initialized RX0, Cond.code yX0_readValues cX0_readValues 7 none, Cond.fieldLink RX0 15 "QueryGateway$Answer" "query" "LQueryGateway$Query;", Cond.fieldLink RX0 27 "QueryGateway$Answer" "values" "[I", Cond.fieldLink RX0 19 "QueryGateway$Answer" "plan" "LQueryGateway$Plan;", Cond.fieldLink RX0 23 "QueryGateway$Answer" "entities" "[I", Cond.fieldLink RX0 9 "QueryGateway$Answer" "graph" "LQueryGateway$Graph;", Cond.fieldLink RX0 30 "QueryGateway$Answer" "missing" "[Z", Cond.methodLink RX0 54 yX3_size, Cond.instanceMethod yX3_size, Cond.selects RX3 yX3_size yX3_size, Cond.initialized RX3, Cond.code yX3_size cX3_size 1 (some .int), Cond.fieldLink RX3 18 "QueryGateway$Query" "count" "I", Cond.methodLink RX0 66 yX3_aboveOf, Cond.instanceMethod yX3_aboveOf, Cond.selects RX3 yX3_aboveOf yX3_aboveOf, Cond.code yX3_aboveOf cX3_aboveOf 2 (some .int), Cond.fieldLink RX3 9 "QueryGateway$Query" "above" "[I", Cond.methodLink RX3 25 yX3_has, Cond.instanceMethod yX3_has]
def wsX0_read_r2 : List Cond := [Cond.selects RX3 yX3_has yX3_has, Cond.code yX3_has cX3_has 2 (some .boolean), Cond.methodLink RX0 48 yX3_has, Cond.methodLink RX0 69 yX2_serviceOf, Cond.instanceMethod yX2_serviceOf, Cond.selects RX2 yX2_serviceOf yX2_serviceOf, Cond.initialized RX2, Cond.code yX2_serviceOf cX2_serviceOf 2 (some .int), Cond.fieldLink RX2 15 "QueryGateway$Plan" "query" "LQueryGateway$Query;", Cond.fieldLink RX2 29 "QueryGateway$Plan" "services" "[I", Cond.methodLink RX2 57 yX3_has, Cond.static yX4_bit, Cond.initialized RX4, Cond.code yX4_bit cX4_bit 1 (some .int), Cond.methodLink RX0 77 yX3_slotAt, Cond.instanceMethod yX3_slotAt, Cond.selects RX3 yX3_slotAt yX3_slotAt, Cond.code yX3_slotAt cX3_slotAt 2 (some .int), Cond.fieldLink RX3 15 "QueryGateway$Query" "slots" "[I", Cond.methodLink RX0 80 yX1_valueOf, Cond.instanceMethod yX1_valueOf, Cond.selects RX1 yX1_valueOf yX1_valueOf, Cond.initialized RX1, Cond.code yX1_valueOf cX1_valueOf 3 (some .int)]
def wsX0_read_r3 : List Cond := [Cond.fieldLink RX1 25 "QueryGateway$Graph" "values" "[I", Cond.static yX4_isSlot, Cond.code yX4_isSlot cX4_isSlot 1 (some .boolean), Cond.static yX4_isKey, Cond.code yX4_isKey cX4_isKey 1 (some .boolean), Cond.methodLink RX0 38 yX0_letMissingClimb, Cond.instanceMethod yX0_letMissingClimb, Cond.selects RX0 yX0_letMissingClimb yX0_letMissingClimb, Cond.code yX0_letMissingClimb cX0_letMissingClimb 3 none, Cond.fieldLink RX0 44 "QueryGateway$Answer" "allMissing" "Z", Cond.methodLink RX0 86 Lib.Math.min.name, Cond.static Lib.Math.min.name, Cond.initialized "java/lang/Math", Cond.code Lib.Math.min.name Lib.Math.min.code 2 (some .int), Cond.methodLink RX0 91 yX1_isRequired, Cond.instanceMethod yX1_isRequired, Cond.selects RX1 yX1_isRequired yX1_isRequired, Cond.code yX1_isRequired cX1_isRequired 2 (some .boolean), Cond.fieldLink RX1 18 "QueryGateway$Graph" "required" "[Z", Cond.methodLink RX0 41 yX0_letMissingFall, Cond.instanceMethod yX0_letMissingFall, Cond.selects RX0 yX0_letMissingFall yX0_letMissingFall, Cond.code yX0_letMissingFall cX0_letMissingFall 3 none]
def wsX0_read : List Cond := .code yX0_read cX0_read 3 none :: ((wsX0_read_r1 ++ (wsX0_read_r2 ++ wsX0_read_r3)) ++ wsX00 ++ wsX30 ++ wsX20 ++ wsX10)
def wsX0_isAllMissing : List Cond := .code yX0_isAllMissing cX0_isAllMissing 1 (some .boolean) :: ([.fieldLink RX0 44 "QueryGateway$Answer" "allMissing" "Z"] ++ wsX00)
def wsX0_told : List Cond := .code yX0_told cX0_told 2 (some .int) :: ([.fieldLink RX0 15 "QueryGateway$Answer" "query" "LQueryGateway$Query;", .fieldLink RX0 30 "QueryGateway$Answer" "missing" "[Z", .fieldLink RX0 27 "QueryGateway$Answer" "values" "[I", .methodLink RX0 48 yX3_has, .instanceMethod yX3_has, .selects RX3 yX3_has yX3_has, .initialized RX3, .code yX3_has cX3_has 2 (some .boolean), .fieldLink RX3 18 "QueryGateway$Query" "count" "I"] ++ wsX00 ++ wsX30)
def wsX0_countFaults : List Cond := .code yX0_countFaults cX0_countFaults 3 (some .int) :: ([.fieldLink RX0 15 "QueryGateway$Answer" "query" "LQueryGateway$Query;", .fieldLink RX0 23 "QueryGateway$Answer" "entities" "[I", .fieldLink RX0 27 "QueryGateway$Answer" "values" "[I", .methodLink RX0 54 yX3_size, .instanceMethod yX3_size, .selects RX3 yX3_size yX3_size, .initialized RX3, .code yX3_size cX3_size 1 (some .int), .fieldLink RX3 18 "QueryGateway$Query" "count" "I"] ++ wsX00 ++ wsX30)
def wsX0_differsFrom : List Cond := .code yX0_differsFrom cX0_differsFrom 4 (some .boolean) :: ([.fieldLink RX0 44 "QueryGateway$Answer" "allMissing" "Z", .fieldLink RX0 15 "QueryGateway$Answer" "query" "LQueryGateway$Query;", .methodLink RX0 58 yX0_isAllMissing, .instanceMethod yX0_isAllMissing, .selects RX0 yX0_isAllMissing yX0_isAllMissing, .initialized RX0, .code yX0_isAllMissing cX0_isAllMissing 1 (some .boolean), .methodLink RX0 54 yX3_size, .instanceMethod yX3_size, .selects RX3 yX3_size yX3_size, .initialized RX3, .code yX3_size cX3_size 1 (some .int), .fieldLink RX3 18 "QueryGateway$Query" "count" "I", .methodLink RX0 62 yX0_told, .instanceMethod yX0_told, .selects RX0 yX0_told yX0_told, .code yX0_told cX0_told 2 (some .int), .fieldLink RX0 30 "QueryGateway$Answer" "missing" "[Z", .fieldLink RX0 27 "QueryGateway$Answer" "values" "[I", .methodLink RX0 48 yX3_has, .instanceMethod yX3_has, .selects RX3 yX3_has yX3_has, .code yX3_has cX3_has 2 (some .boolean)] ++ wsX00 ++ wsX30)
def wsJ7_fill_53178 : List Cond := .code yJ7_fill_53178 cJ7_fill_53178 4 none :: ([])
def wsX1_init : List Cond := .code yX1_init cX1_init 1 none :: ([.methodLink RX1 3 objectInit, .instanceMethod objectInit, .code objectInit ⟨#[0xb1]⟩ 1 none, .arrayClass .int, .fieldLink RX1 9 "QueryGateway$Graph" "counts" "[I", .fieldLink RX1 15 "QueryGateway$Graph" "leads" "[I", .arrayClass .boolean, .fieldLink RX1 18 "QueryGateway$Graph" "required" "[Z", .fieldLink RX1 22 "QueryGateway$Graph" "owners" "[I", .fieldLink RX1 25 "QueryGateway$Graph" "values" "[I", .methodLink RX1 28 yJ7_fill_53178, .static yJ7_fill_53178, .initialized RJ7, .code yJ7_fill_53178 cJ7_fill_53178 4 none] ++ wsX10)
def wsX4_isType : List Cond := .code yX4_isType cX4_isType 1 (some .boolean) :: ([])
def wsX1_fieldsOf : List Cond := .code yX1_fieldsOf cX1_fieldsOf 2 (some .int) :: ([.fieldLink RX1 9 "QueryGateway$Graph" "counts" "[I", .static yX4_isType, .initialized RX4, .code yX4_isType cX4_isType 1 (some .boolean)] ++ wsX10)
def wsX4_slotOf : List Cond := .code yX4_slotOf cX4_slotOf 2 (some .int) :: ([])
def wsX1_append : List Cond := .code yX1_append cX1_append 6 (some .int) :: ([.fieldLink RX1 15 "QueryGateway$Graph" "leads" "[I", .fieldLink RX1 18 "QueryGateway$Graph" "required" "[Z", .fieldLink RX1 9 "QueryGateway$Graph" "counts" "[I", .methodLink RX1 38 yX1_fieldsOf, .instanceMethod yX1_fieldsOf, .selects RX1 yX1_fieldsOf yX1_fieldsOf, .initialized RX1, .code yX1_fieldsOf cX1_fieldsOf 2 (some .int), .static yX4_isType, .initialized RX4, .code yX4_isType cX4_isType 1 (some .boolean), .static yX4_slotOf, .code yX4_slotOf cX4_slotOf 2 (some .int), .static yX4_isSlot, .code yX4_isSlot cX4_isSlot 1 (some .boolean)] ++ wsX10)
def wsX1_leadsOf : List Cond := .code yX1_leadsOf cX1_leadsOf 2 (some .int) :: ([.fieldLink RX1 15 "QueryGateway$Graph" "leads" "[I", .static yX4_isSlot, .initialized RX4, .code yX4_isSlot cX4_isSlot 1 (some .boolean)] ++ wsX10)
def wsX1_ownersOf : List Cond := .code yX1_ownersOf cX1_ownersOf 2 (some .int) :: ([.fieldLink RX1 22 "QueryGateway$Graph" "owners" "[I", .static yX4_isSlot, .initialized RX4, .code yX4_isSlot cX4_isSlot 1 (some .boolean)] ++ wsX10)
def wsX1_putOwner : List Cond := .code yX1_putOwner cX1_putOwner 5 (some .boolean) :: ([.fieldLink RX1 22 "QueryGateway$Graph" "owners" "[I", .static yX4_isSlot, .initialized RX4, .code yX4_isSlot cX4_isSlot 1 (some .boolean), .static yX4_bit, .code yX4_bit cX4_bit 1 (some .int)] ++ wsX10)
def wsX1_takes : List Cond := .code yX1_takes cX1_takes 4 (some .boolean) :: ([.methodLink RX1 52 yX1_leadsOf, .instanceMethod yX1_leadsOf, .selects RX1 yX1_leadsOf yX1_leadsOf, .initialized RX1, .code yX1_leadsOf cX1_leadsOf 2 (some .int), .fieldLink RX1 15 "QueryGateway$Graph" "leads" "[I", .static yX4_isSlot, .initialized RX4, .code yX4_isSlot cX4_isSlot 1 (some .boolean)] ++ wsX10)
def wsX1_putValue : List Cond := .code yX1_putValue cX1_putValue 5 (some .int) :: ([.fieldLink RX1 25 "QueryGateway$Graph" "values" "[I", .methodLink RX1 58 yX1_valueOf, .instanceMethod yX1_valueOf, .selects RX1 yX1_valueOf yX1_valueOf, .initialized RX1, .code yX1_valueOf cX1_valueOf 3 (some .int), .static yX4_isSlot, .initialized RX4, .code yX4_isSlot cX4_isSlot 1 (some .boolean), .static yX4_isKey, .code yX4_isKey cX4_isKey 1 (some .boolean)] ++ wsX10)
def wsX1_failures : List Cond := .code yX1_failures cX1_failures 1 (some .int) :: ([.fieldLink RX1 61 "QueryGateway$Graph" "failed" "I"] ++ wsX10)
def wsX1_putFailed : List Cond := .code yX1_putFailed cX1_putFailed 4 (some .boolean) :: ([.fieldLink RX1 61 "QueryGateway$Graph" "failed" "I", .static yX4_bit, .initialized RX4, .code yX4_bit cX4_bit 1 (some .int)] ++ wsX10)
def wsX2_init : List Cond := .code yX2_init cX2_init 3 none :: ([.methodLink RX2 3 objectInit, .instanceMethod objectInit, .code objectInit ⟨#[0xb1]⟩ 1 none, .fieldLink RX2 9 "QueryGateway$Plan" "graph" "LQueryGateway$Graph;", .fieldLink RX2 15 "QueryGateway$Plan" "query" "LQueryGateway$Query;", .arrayClass .int, .fieldLink RX2 19 "QueryGateway$Plan" "places" "[I", .fieldLink RX2 23 "QueryGateway$Plan" "choices" "[I", .fieldLink RX2 26 "QueryGateway$Plan" "hopsBelow" "[I", .fieldLink RX2 29 "QueryGateway$Plan" "services" "[I"] ++ wsX20)
def wsX2_forget : List Cond := .code yX2_forget cX2_forget 1 none :: ([.fieldLink RX2 32 "QueryGateway$Plan" "known" "Z"] ++ wsX20)
def wsX2_openChoices_r1 : List Cond := [Cond.fieldLink RX2 15 "QueryGateway$Plan" "query" "LQueryGateway$Query;", Cond.methodLink RX2 67 Lib.Math.min.name, Cond.static Lib.Math.min.name, Cond.initialized "java/lang/Math", Cond.code Lib.Math.min.name Lib.Math.min.code 2 (some .int), Cond.fieldLink RX2 72 "QueryGateway$Plan" "count" "I", Cond.fieldLink RX2 19 "QueryGateway$Plan" "places" "[I", Cond.fieldLink RX2 23 "QueryGateway$Plan" "choices" "[I", Cond.fieldLink RX2 9 "QueryGateway$Plan" "graph" "LQueryGateway$Graph;", Cond.methodLink RX2 63 yX3_size, Cond.instanceMethod yX3_size, Cond.selects RX3 yX3_size yX3_size, Cond.initialized RX3, Cond.code yX3_size cX3_size 1 (some .int), Cond.fieldLink RX3 18 "QueryGateway$Query" "count" "I", Cond.methodLink RX2 75 yX3_aboveOf, Cond.instanceMethod yX3_aboveOf, Cond.selects RX3 yX3_aboveOf yX3_aboveOf, Cond.code yX3_aboveOf cX3_aboveOf 2 (some .int), Cond.fieldLink RX3 9 "QueryGateway$Query" "above" "[I", Cond.methodLink RX3 25 yX3_has, Cond.instanceMethod yX3_has, Cond.selects RX3 yX3_has yX3_has, Cond.code yX3_has cX3_has 2 (some .boolean)]
def wsX2_openChoices_r2 : List Cond := [Cond.methodLink RX2 79 yX3_slotAt, Cond.instanceMethod yX3_slotAt, Cond.selects RX3 yX3_slotAt yX3_slotAt, Cond.code yX3_slotAt cX3_slotAt 2 (some .int), Cond.fieldLink RX3 15 "QueryGateway$Query" "slots" "[I", Cond.methodLink RX2 82 yX1_ownersOf, Cond.instanceMethod yX1_ownersOf, Cond.selects RX1 yX1_ownersOf yX1_ownersOf, Cond.initialized RX1, Cond.code yX1_ownersOf cX1_ownersOf 2 (some .int), Cond.fieldLink RX1 22 "QueryGateway$Graph" "owners" "[I", Cond.static yX4_isSlot, Cond.initialized RX4, Cond.code yX4_isSlot cX4_isSlot 1 (some .boolean)]
def wsX2_openChoices : List Cond := .code yX2_openChoices cX2_openChoices 3 (some .boolean) :: ((wsX2_openChoices_r1 ++ wsX2_openChoices_r2) ++ wsX20 ++ wsX30 ++ wsX10)
def wsJ6_bitCount_0f7a4 : List Cond := .code yJ6_bitCount_0f7a4 cJ6_bitCount_0f7a4 1 (some .int) :: ([.constant RJ6 265 (1431655765), .constant RJ6 266 (858993459), .constant RJ6 267 (252645135)])
def wsX2_hopsUnder : List Cond := .code yX2_hopsUnder cX2_hopsUnder 7 (some .int) :: ([.fieldLink RX2 72 "QueryGateway$Plan" "count" "I", .fieldLink RX2 19 "QueryGateway$Plan" "places" "[I", .fieldLink RX2 23 "QueryGateway$Plan" "choices" "[I", .fieldLink RX2 26 "QueryGateway$Plan" "hopsBelow" "[I", .methodLink RX2 67 Lib.Math.min.name, .static Lib.Math.min.name, .initialized "java/lang/Math", .code Lib.Math.min.name Lib.Math.min.code 2 (some .int), .static yX4_bit, .initialized RX4, .code yX4_bit cX4_bit 1 (some .int)] ++ wsX20)
def wsX2_hopsAt : List Cond := .code yX2_hopsAt cX2_hopsAt 6 (some .int) :: ([.methodLink RX2 67 Lib.Math.min.name, .static Lib.Math.min.name, .initialized "java/lang/Math", .code Lib.Math.min.name Lib.Math.min.code 2 (some .int), .static yX4_bit, .initialized RX4, .code yX4_bit cX4_bit 1 (some .int), .methodLink RX2 93 yJ6_bitCount_0f7a4, .static yJ6_bitCount_0f7a4, .initialized RJ6, .code yJ6_bitCount_0f7a4 cJ6_bitCount_0f7a4 1 (some .int), .constant RJ6 265 (1431655765), .constant RJ6 266 (858993459), .constant RJ6 267 (252645135), .methodLink RX2 98 yX2_hopsUnder, .instanceMethod yX2_hopsUnder, .selects RX2 yX2_hopsUnder yX2_hopsUnder, .initialized RX2, .code yX2_hopsUnder cX2_hopsUnder 7 (some .int), .fieldLink RX2 72 "QueryGateway$Plan" "count" "I", .fieldLink RX2 19 "QueryGateway$Plan" "places" "[I", .fieldLink RX2 23 "QueryGateway$Plan" "choices" "[I", .fieldLink RX2 26 "QueryGateway$Plan" "hopsBelow" "[I"] ++ wsX20)
def wsX2_countHopsBelow_r1 : List Cond := [Cond.fieldLink RX2 72 "QueryGateway$Plan" "count" "I", Cond.fieldLink RX2 26 "QueryGateway$Plan" "hopsBelow" "[I", Cond.methodLink RX2 46 yX2_hopsAt, Cond.instanceMethod yX2_hopsAt, Cond.selects RX2 yX2_hopsAt yX2_hopsAt, Cond.initialized RX2, Cond.code yX2_hopsAt cX2_hopsAt 6 (some .int), Cond.methodLink RX2 67 Lib.Math.min.name, Cond.static Lib.Math.min.name, Cond.initialized "java/lang/Math", Cond.code Lib.Math.min.name Lib.Math.min.code 2 (some .int), Cond.static yX4_bit, Cond.initialized RX4, Cond.code yX4_bit cX4_bit 1 (some .int), Cond.methodLink RX2 93 yJ6_bitCount_0f7a4, Cond.static yJ6_bitCount_0f7a4, Cond.initialized RJ6, Cond.code yJ6_bitCount_0f7a4 cJ6_bitCount_0f7a4 1 (some .int), Cond.constant RJ6 265 (1431655765), Cond.constant RJ6 266 (858993459), Cond.constant RJ6 267 (252645135), Cond.methodLink RX2 98 yX2_hopsUnder, Cond.instanceMethod yX2_hopsUnder, Cond.selects RX2 yX2_hopsUnder yX2_hopsUnder]
def wsX2_countHopsBelow_r2 : List Cond := [Cond.code yX2_hopsUnder cX2_hopsUnder 7 (some .int), Cond.fieldLink RX2 19 "QueryGateway$Plan" "places" "[I", Cond.fieldLink RX2 23 "QueryGateway$Plan" "choices" "[I"]
def wsX2_countHopsBelow : List Cond := .code yX2_countHopsBelow cX2_countHopsBelow 3 none :: ((wsX2_countHopsBelow_r1 ++ wsX2_countHopsBelow_r2) ++ wsX20)
def wsX2_chooseServices_r1 : List Cond := [Cond.fieldLink RX2 72 "QueryGateway$Plan" "count" "I", Cond.fieldLink RX2 19 "QueryGateway$Plan" "places" "[I", Cond.fieldLink RX2 23 "QueryGateway$Plan" "choices" "[I", Cond.fieldLink RX2 29 "QueryGateway$Plan" "services" "[I", Cond.methodLink RX2 87 yX2_serviceOf, Cond.instanceMethod yX2_serviceOf, Cond.selects RX2 yX2_serviceOf yX2_serviceOf, Cond.initialized RX2, Cond.code yX2_serviceOf cX2_serviceOf 2 (some .int), Cond.fieldLink RX2 15 "QueryGateway$Plan" "query" "LQueryGateway$Query;", Cond.methodLink RX2 57 yX3_has, Cond.instanceMethod yX3_has, Cond.selects RX3 yX3_has yX3_has, Cond.initialized RX3, Cond.code yX3_has cX3_has 2 (some .boolean), Cond.fieldLink RX3 18 "QueryGateway$Query" "count" "I", Cond.methodLink RX2 46 yX2_hopsAt, Cond.instanceMethod yX2_hopsAt, Cond.selects RX2 yX2_hopsAt yX2_hopsAt, Cond.code yX2_hopsAt cX2_hopsAt 6 (some .int), Cond.methodLink RX2 67 Lib.Math.min.name, Cond.static Lib.Math.min.name, Cond.initialized "java/lang/Math", Cond.code Lib.Math.min.name Lib.Math.min.code 2 (some .int)]
def wsX2_chooseServices_r2 : List Cond := [Cond.static yX4_bit, Cond.initialized RX4, Cond.code yX4_bit cX4_bit 1 (some .int), Cond.methodLink RX2 93 yJ6_bitCount_0f7a4, Cond.static yJ6_bitCount_0f7a4, Cond.initialized RJ6, Cond.code yJ6_bitCount_0f7a4 cJ6_bitCount_0f7a4 1 (some .int), Cond.constant RJ6 265 (1431655765), Cond.constant RJ6 266 (858993459), Cond.constant RJ6 267 (252645135), Cond.methodLink RX2 98 yX2_hopsUnder, Cond.instanceMethod yX2_hopsUnder, Cond.selects RX2 yX2_hopsUnder yX2_hopsUnder, Cond.code yX2_hopsUnder cX2_hopsUnder 7 (some .int), Cond.fieldLink RX2 26 "QueryGateway$Plan" "hopsBelow" "[I"]
def wsX2_chooseServices : List Cond := .code yX2_chooseServices cX2_chooseServices 7 none :: ((wsX2_chooseServices_r1 ++ wsX2_chooseServices_r2) ++ wsX20 ++ wsX30)
def wsX2_find_r1 : List Cond := [Cond.fieldLink RX2 32 "QueryGateway$Plan" "known" "Z", Cond.fieldLink RX2 40 "QueryGateway$Plan" "there" "Z", Cond.fieldLink RX2 50 "QueryGateway$Plan" "length" "I", Cond.methodLink RX2 36 yX2_openChoices, Cond.instanceMethod yX2_openChoices, Cond.selects RX2 yX2_openChoices yX2_openChoices, Cond.initialized RX2, Cond.code yX2_openChoices cX2_openChoices 3 (some .boolean), Cond.fieldLink RX2 15 "QueryGateway$Plan" "query" "LQueryGateway$Query;", Cond.methodLink RX2 67 Lib.Math.min.name, Cond.static Lib.Math.min.name, Cond.initialized "java/lang/Math", Cond.code Lib.Math.min.name Lib.Math.min.code 2 (some .int), Cond.fieldLink RX2 72 "QueryGateway$Plan" "count" "I", Cond.fieldLink RX2 19 "QueryGateway$Plan" "places" "[I", Cond.fieldLink RX2 23 "QueryGateway$Plan" "choices" "[I", Cond.fieldLink RX2 9 "QueryGateway$Plan" "graph" "LQueryGateway$Graph;", Cond.methodLink RX2 63 yX3_size, Cond.instanceMethod yX3_size, Cond.selects RX3 yX3_size yX3_size, Cond.initialized RX3, Cond.code yX3_size cX3_size 1 (some .int), Cond.fieldLink RX3 18 "QueryGateway$Query" "count" "I", Cond.methodLink RX2 75 yX3_aboveOf]
def wsX2_find_r2 : List Cond := [Cond.instanceMethod yX3_aboveOf, Cond.selects RX3 yX3_aboveOf yX3_aboveOf, Cond.code yX3_aboveOf cX3_aboveOf 2 (some .int), Cond.fieldLink RX3 9 "QueryGateway$Query" "above" "[I", Cond.methodLink RX3 25 yX3_has, Cond.instanceMethod yX3_has, Cond.selects RX3 yX3_has yX3_has, Cond.code yX3_has cX3_has 2 (some .boolean), Cond.methodLink RX2 79 yX3_slotAt, Cond.instanceMethod yX3_slotAt, Cond.selects RX3 yX3_slotAt yX3_slotAt, Cond.code yX3_slotAt cX3_slotAt 2 (some .int), Cond.fieldLink RX3 15 "QueryGateway$Query" "slots" "[I", Cond.methodLink RX2 82 yX1_ownersOf, Cond.instanceMethod yX1_ownersOf, Cond.selects RX1 yX1_ownersOf yX1_ownersOf, Cond.initialized RX1, Cond.code yX1_ownersOf cX1_ownersOf 2 (some .int), Cond.fieldLink RX1 22 "QueryGateway$Graph" "owners" "[I", Cond.static yX4_isSlot, Cond.initialized RX4, Cond.code yX4_isSlot cX4_isSlot 1 (some .boolean), Cond.methodLink RX2 43 yX2_countHopsBelow, Cond.instanceMethod yX2_countHopsBelow]
def wsX2_find_r3 : List Cond := [Cond.selects RX2 yX2_countHopsBelow yX2_countHopsBelow, Cond.code yX2_countHopsBelow cX2_countHopsBelow 3 none, Cond.fieldLink RX2 26 "QueryGateway$Plan" "hopsBelow" "[I", Cond.methodLink RX2 46 yX2_hopsAt, Cond.instanceMethod yX2_hopsAt, Cond.selects RX2 yX2_hopsAt yX2_hopsAt, Cond.code yX2_hopsAt cX2_hopsAt 6 (some .int), Cond.static yX4_bit, Cond.code yX4_bit cX4_bit 1 (some .int), Cond.methodLink RX2 93 yJ6_bitCount_0f7a4, Cond.static yJ6_bitCount_0f7a4, Cond.initialized RJ6, Cond.code yJ6_bitCount_0f7a4 cJ6_bitCount_0f7a4 1 (some .int), Cond.constant RJ6 265 (1431655765), Cond.constant RJ6 266 (858993459), Cond.constant RJ6 267 (252645135), Cond.methodLink RX2 98 yX2_hopsUnder, Cond.instanceMethod yX2_hopsUnder, Cond.selects RX2 yX2_hopsUnder yX2_hopsUnder, Cond.code yX2_hopsUnder cX2_hopsUnder 7 (some .int), Cond.methodLink RX2 54 yX2_chooseServices, Cond.instanceMethod yX2_chooseServices, Cond.selects RX2 yX2_chooseServices yX2_chooseServices, Cond.code yX2_chooseServices cX2_chooseServices 7 none]
def wsX2_find_r4 : List Cond := [Cond.fieldLink RX2 29 "QueryGateway$Plan" "services" "[I", Cond.methodLink RX2 87 yX2_serviceOf, Cond.instanceMethod yX2_serviceOf, Cond.selects RX2 yX2_serviceOf yX2_serviceOf, Cond.code yX2_serviceOf cX2_serviceOf 2 (some .int), Cond.methodLink RX2 57 yX3_has]
def wsX2_find : List Cond := .code yX2_find cX2_find 1 (some .boolean) :: ((wsX2_find_r1 ++ (wsX2_find_r2 ++ (wsX2_find_r3 ++ wsX2_find_r4))) ++ wsX20 ++ wsX30 ++ wsX10)
def wsX2_length : List Cond := .code yX2_length cX2_length 1 (some .int) :: ([.fieldLink RX2 50 "QueryGateway$Plan" "length" "I"] ++ wsX20)
def wsX3_init : List Cond := .code yX3_init cX3_init 1 none :: ([.methodLink RX3 3 objectInit, .instanceMethod objectInit, .code objectInit ⟨#[0xb1]⟩ 1 none, .arrayClass .int, .fieldLink RX3 9 "QueryGateway$Query" "above" "[I", .fieldLink RX3 15 "QueryGateway$Query" "slots" "[I"] ++ wsX30)
def wsX3_restart : List Cond := .code yX3_restart cX3_restart 3 (some .int) :: ([.fieldLink RX3 18 "QueryGateway$Query" "count" "I", .fieldLink RX3 22 "QueryGateway$Query" "type" "I"] ++ wsX30)
def wsX3_type : List Cond := .code yX3_type cX3_type 1 (some .int) :: ([.fieldLink RX3 22 "QueryGateway$Query" "type" "I"] ++ wsX30)
def wsX3_hasRoom : List Cond := .code yX3_hasRoom cX3_hasRoom 5 (some .boolean) :: ([.fieldLink RX3 18 "QueryGateway$Query" "count" "I", .methodLink RX3 29 yX3_aboveOf, .instanceMethod yX3_aboveOf, .selects RX3 yX3_aboveOf yX3_aboveOf, .initialized RX3, .code yX3_aboveOf cX3_aboveOf 2 (some .int), .fieldLink RX3 9 "QueryGateway$Query" "above" "[I", .methodLink RX3 25 yX3_has, .instanceMethod yX3_has, .selects RX3 yX3_has yX3_has, .code yX3_has cX3_has 2 (some .boolean), .methodLink RX3 33 yX3_slotAt, .instanceMethod yX3_slotAt, .selects RX3 yX3_slotAt yX3_slotAt, .code yX3_slotAt cX3_slotAt 2 (some .int), .fieldLink RX3 15 "QueryGateway$Query" "slots" "[I"] ++ wsX30)
def wsX3_append : List Cond := .code yX3_append cX3_append 4 (some .int) :: ([.fieldLink RX3 18 "QueryGateway$Query" "count" "I", .fieldLink RX3 9 "QueryGateway$Query" "above" "[I", .fieldLink RX3 15 "QueryGateway$Query" "slots" "[I"] ++ wsX30)
def wsX4_init_r1 : List Cond := [Cond.methodLink RX4 3 objectInit, Cond.instanceMethod objectInit, Cond.code objectInit ⟨#[0xb1]⟩ 1 none, Cond.classLink RX4 9 RX1, Cond.instantiable RX1 6, Cond.initialized RX1, Cond.classLink RX4 12 RX3, Cond.instantiable RX3 4, Cond.initialized RX3, Cond.classLink RX4 15 RX2, Cond.instantiable RX2 10, Cond.initialized RX2, Cond.fieldLink RX4 20 "QueryGateway" "graph" "LQueryGateway$Graph;", Cond.fieldLink RX4 24 "QueryGateway" "query" "LQueryGateway$Query;", Cond.fieldLink RX4 28 "QueryGateway" "plan" "LQueryGateway$Plan;", Cond.classLink RX4 32 RX0, Cond.instantiable RX0 7, Cond.initialized RX0, Cond.fieldLink RX4 37 "QueryGateway" "answer" "LQueryGateway$Answer;", Cond.fieldLink RX4 41 "QueryGateway" "unharmed" "LQueryGateway$Answer;", Cond.methodLink RX4 11 yX1_init, Cond.instanceMethod yX1_init, Cond.code yX1_init cX1_init 1 none, Cond.methodLink RX1 3 objectInit]
def wsX4_init_r2 : List Cond := [Cond.arrayClass .int, Cond.fieldLink RX1 9 "QueryGateway$Graph" "counts" "[I", Cond.fieldLink RX1 15 "QueryGateway$Graph" "leads" "[I", Cond.arrayClass .boolean, Cond.fieldLink RX1 18 "QueryGateway$Graph" "required" "[Z", Cond.fieldLink RX1 22 "QueryGateway$Graph" "owners" "[I", Cond.fieldLink RX1 25 "QueryGateway$Graph" "values" "[I", Cond.methodLink RX1 28 yJ7_fill_53178, Cond.static yJ7_fill_53178, Cond.initialized RJ7, Cond.code yJ7_fill_53178 cJ7_fill_53178 4 none, Cond.methodLink RX4 14 yX3_init, Cond.instanceMethod yX3_init, Cond.code yX3_init cX3_init 1 none, Cond.methodLink RX3 3 objectInit, Cond.fieldLink RX3 9 "QueryGateway$Query" "above" "[I", Cond.fieldLink RX3 15 "QueryGateway$Query" "slots" "[I", Cond.methodLink RX4 17 yX2_init, Cond.instanceMethod yX2_init, Cond.code yX2_init cX2_init 3 none, Cond.methodLink RX2 3 objectInit, Cond.fieldLink RX2 9 "QueryGateway$Plan" "graph" "LQueryGateway$Graph;", Cond.fieldLink RX2 15 "QueryGateway$Plan" "query" "LQueryGateway$Query;", Cond.fieldLink RX2 19 "QueryGateway$Plan" "places" "[I"]
def wsX4_init_r3 : List Cond := [Cond.fieldLink RX2 23 "QueryGateway$Plan" "choices" "[I", Cond.fieldLink RX2 26 "QueryGateway$Plan" "hopsBelow" "[I", Cond.fieldLink RX2 29 "QueryGateway$Plan" "services" "[I", Cond.methodLink RX4 34 yX0_init, Cond.instanceMethod yX0_init, Cond.code yX0_init cX0_init 4 none, Cond.methodLink RX0 3 objectInit, Cond.fieldLink RX0 9 "QueryGateway$Answer" "graph" "LQueryGateway$Graph;", Cond.fieldLink RX0 15 "QueryGateway$Answer" "query" "LQueryGateway$Query;", Cond.fieldLink RX0 19 "QueryGateway$Answer" "plan" "LQueryGateway$Plan;", Cond.fieldLink RX0 23 "QueryGateway$Answer" "entities" "[I", Cond.fieldLink RX0 27 "QueryGateway$Answer" "values" "[I", Cond.fieldLink RX0 30 "QueryGateway$Answer" "missing" "[Z"]
def wsX4_init : List Cond := .code yX4_init cX4_init 4 none :: ((wsX4_init_r1 ++ (wsX4_init_r2 ++ wsX4_init_r3)) ++ wsX10 ++ wsX30 ++ wsX20 ++ wsX40 ++ wsX00)
def wsX4_checkType : List Cond := .code yX4_checkType cX4_checkType 1 none :: ([.classLink RX4 52 "java/lang/IllegalArgumentException", .initialized "java/lang/IllegalArgumentException", .methodLink RX4 48 yX4_isType, .static yX4_isType, .initialized RX4, .code yX4_isType cX4_isType 1 (some .boolean)] ++ (vx_atS RX4 56 "java/lang/IllegalArgumentException" ["java/lang/RuntimeException", "java/lang/Exception"]).filter goodWord)
def wsX4_addField_r1 : List Cond := [Cond.classLink RX4 52 "java/lang/IllegalArgumentException", Cond.initialized "java/lang/IllegalArgumentException", Cond.classLink RX4 63 "java/lang/IllegalStateException", Cond.initialized "java/lang/IllegalStateException", Cond.fieldLink RX4 20 "QueryGateway" "graph" "LQueryGateway$Graph;", Cond.methodLink RX4 44 yX4_checkType, Cond.static yX4_checkType, Cond.initialized RX4, Cond.code yX4_checkType cX4_checkType 1 none, Cond.methodLink RX4 48 yX4_isType, Cond.static yX4_isType, Cond.code yX4_isType cX4_isType 1 (some .boolean), Cond.methodLink RX4 59 yX1_fieldsOf, Cond.instanceMethod yX1_fieldsOf, Cond.selects RX1 yX1_fieldsOf yX1_fieldsOf, Cond.initialized RX1, Cond.code yX1_fieldsOf cX1_fieldsOf 2 (some .int), Cond.fieldLink RX1 9 "QueryGateway$Graph" "counts" "[I", Cond.methodLink RX4 68 yX1_append, Cond.instanceMethod yX1_append, Cond.selects RX1 yX1_append yX1_append, Cond.code yX1_append cX1_append 6 (some .int), Cond.fieldLink RX1 15 "QueryGateway$Graph" "leads" "[I", Cond.fieldLink RX1 18 "QueryGateway$Graph" "required" "[Z"]
def wsX4_addField_r2 : List Cond := [Cond.methodLink RX1 38 yX1_fieldsOf, Cond.static yX4_slotOf, Cond.code yX4_slotOf cX4_slotOf 2 (some .int), Cond.static yX4_isSlot, Cond.code yX4_isSlot cX4_isSlot 1 (some .boolean)]
def wsX4_addField : List Cond := .code yX4_addField cX4_addField 4 (some .int) :: ((wsX4_addField_r1 ++ wsX4_addField_r2) ++ wsX40 ++ wsX10 ++ (vx_atS RX4 56 "java/lang/IllegalArgumentException" ["java/lang/RuntimeException", "java/lang/Exception"]).filter goodWord ++ (vx_atS RX4 67 "java/lang/IllegalStateException" ["java/lang/RuntimeException", "java/lang/Exception"]).filter goodWord)
def wsX4_isService : List Cond := .code yX4_isService cX4_isService 1 (some .boolean) :: ([])
def wsX4_checkService : List Cond := .code yX4_checkService cX4_checkService 1 none :: ([.classLink RX4 52 "java/lang/IllegalArgumentException", .initialized "java/lang/IllegalArgumentException", .methodLink RX4 178 yX4_isService, .static yX4_isService, .initialized RX4, .code yX4_isService cX4_isService 1 (some .boolean)] ++ (vx_atS RX4 56 "java/lang/IllegalArgumentException" ["java/lang/RuntimeException", "java/lang/Exception"]).filter goodWord)
def wsX4_checkField : List Cond := .code yX4_checkField cX4_checkField 3 none :: ([.classLink RX4 190 "java/lang/IndexOutOfBoundsException", .initialized "java/lang/IndexOutOfBoundsException", .fieldLink RX4 20 "QueryGateway" "graph" "LQueryGateway$Graph;", .methodLink RX4 59 yX1_fieldsOf, .instanceMethod yX1_fieldsOf, .selects RX1 yX1_fieldsOf yX1_fieldsOf, .initialized RX1, .code yX1_fieldsOf cX1_fieldsOf 2 (some .int), .fieldLink RX1 9 "QueryGateway$Graph" "counts" "[I", .static yX4_isType, .initialized RX4, .code yX4_isType cX4_isType 1 (some .boolean)] ++ wsX40 ++ wsX10 ++ (vx_atS RX4 194 "java/lang/IndexOutOfBoundsException" ["java/lang/RuntimeException", "java/lang/Exception"]).filter goodWord)
def wsX4_own_r1 : List Cond := [Cond.fieldLink RX4 28 "QueryGateway" "plan" "LQueryGateway$Plan;", Cond.fieldLink RX4 20 "QueryGateway" "graph" "LQueryGateway$Graph;", Cond.methodLink RX4 72 yX4_checkService, Cond.static yX4_checkService, Cond.initialized RX4, Cond.code yX4_checkService cX4_checkService 1 none, Cond.classLink RX4 52 "java/lang/IllegalArgumentException", Cond.initialized "java/lang/IllegalArgumentException", Cond.methodLink RX4 178 yX4_isService, Cond.static yX4_isService, Cond.code yX4_isService cX4_isService 1 (some .boolean), Cond.methodLink RX4 44 yX4_checkType, Cond.static yX4_checkType, Cond.code yX4_checkType cX4_checkType 1 none, Cond.methodLink RX4 48 yX4_isType, Cond.static yX4_isType, Cond.code yX4_isType cX4_isType 1 (some .boolean), Cond.methodLink RX4 75 yX4_checkField, Cond.instanceMethod yX4_checkField, Cond.selects RX4 yX4_checkField yX4_checkField, Cond.code yX4_checkField cX4_checkField 3 none, Cond.classLink RX4 190 "java/lang/IndexOutOfBoundsException", Cond.initialized "java/lang/IndexOutOfBoundsException", Cond.methodLink RX4 59 yX1_fieldsOf]
def wsX4_own_r2 : List Cond := [Cond.instanceMethod yX1_fieldsOf, Cond.selects RX1 yX1_fieldsOf yX1_fieldsOf, Cond.initialized RX1, Cond.code yX1_fieldsOf cX1_fieldsOf 2 (some .int), Cond.fieldLink RX1 9 "QueryGateway$Graph" "counts" "[I", Cond.methodLink RX4 79 yX2_forget, Cond.instanceMethod yX2_forget, Cond.selects RX2 yX2_forget yX2_forget, Cond.initialized RX2, Cond.code yX2_forget cX2_forget 1 none, Cond.fieldLink RX2 32 "QueryGateway$Plan" "known" "Z", Cond.methodLink RX4 82 yX4_slotOf, Cond.static yX4_slotOf, Cond.code yX4_slotOf cX4_slotOf 2 (some .int), Cond.methodLink RX4 86 yX1_putOwner, Cond.instanceMethod yX1_putOwner, Cond.selects RX1 yX1_putOwner yX1_putOwner, Cond.code yX1_putOwner cX1_putOwner 5 (some .boolean), Cond.fieldLink RX1 22 "QueryGateway$Graph" "owners" "[I", Cond.static yX4_isSlot, Cond.code yX4_isSlot cX4_isSlot 1 (some .boolean), Cond.static yX4_bit, Cond.code yX4_bit cX4_bit 1 (some .int)]
def wsX4_own : List Cond := .code yX4_own cX4_own 5 (some .boolean) :: ((wsX4_own_r1 ++ wsX4_own_r2) ++ wsX40 ++ wsX10 ++ wsX20 ++ (vx_atS RX4 56 "java/lang/IllegalArgumentException" ["java/lang/RuntimeException", "java/lang/Exception"]).filter goodWord ++ (vx_atS RX4 194 "java/lang/IndexOutOfBoundsException" ["java/lang/RuntimeException", "java/lang/Exception"]).filter goodWord)
def wsX4_checkKey : List Cond := .code yX4_checkKey cX4_checkKey 1 none :: ([.classLink RX4 52 "java/lang/IllegalArgumentException", .initialized "java/lang/IllegalArgumentException", .methodLink RX4 185 yX4_isKey, .static yX4_isKey, .initialized RX4, .code yX4_isKey cX4_isKey 1 (some .boolean)] ++ (vx_atS RX4 56 "java/lang/IllegalArgumentException" ["java/lang/RuntimeException", "java/lang/Exception"]).filter goodWord)
def wsX4_set_r1 : List Cond := [Cond.classLink RX4 52 "java/lang/IllegalArgumentException", Cond.initialized "java/lang/IllegalArgumentException", Cond.fieldLink RX4 20 "QueryGateway" "graph" "LQueryGateway$Graph;", Cond.methodLink RX4 44 yX4_checkType, Cond.static yX4_checkType, Cond.initialized RX4, Cond.code yX4_checkType cX4_checkType 1 none, Cond.methodLink RX4 48 yX4_isType, Cond.static yX4_isType, Cond.code yX4_isType cX4_isType 1 (some .boolean), Cond.methodLink RX4 90 yX4_checkKey, Cond.static yX4_checkKey, Cond.code yX4_checkKey cX4_checkKey 1 none, Cond.methodLink RX4 185 yX4_isKey, Cond.static yX4_isKey, Cond.code yX4_isKey cX4_isKey 1 (some .boolean), Cond.methodLink RX4 75 yX4_checkField, Cond.instanceMethod yX4_checkField, Cond.selects RX4 yX4_checkField yX4_checkField, Cond.code yX4_checkField cX4_checkField 3 none, Cond.classLink RX4 190 "java/lang/IndexOutOfBoundsException", Cond.initialized "java/lang/IndexOutOfBoundsException", Cond.methodLink RX4 59 yX1_fieldsOf, Cond.instanceMethod yX1_fieldsOf]
def wsX4_set_r2 : List Cond := [Cond.selects RX1 yX1_fieldsOf yX1_fieldsOf, Cond.initialized RX1, Cond.code yX1_fieldsOf cX1_fieldsOf 2 (some .int), Cond.fieldLink RX1 9 "QueryGateway$Graph" "counts" "[I", Cond.methodLink RX4 82 yX4_slotOf, Cond.static yX4_slotOf, Cond.code yX4_slotOf cX4_slotOf 2 (some .int), Cond.methodLink RX4 93 yX1_takes, Cond.instanceMethod yX1_takes, Cond.selects RX1 yX1_takes yX1_takes, Cond.code yX1_takes cX1_takes 4 (some .boolean), Cond.methodLink RX1 52 yX1_leadsOf, Cond.instanceMethod yX1_leadsOf, Cond.selects RX1 yX1_leadsOf yX1_leadsOf, Cond.code yX1_leadsOf cX1_leadsOf 2 (some .int), Cond.fieldLink RX1 15 "QueryGateway$Graph" "leads" "[I", Cond.static yX4_isSlot, Cond.code yX4_isSlot cX4_isSlot 1 (some .boolean), Cond.methodLink RX4 99 yX1_putValue, Cond.instanceMethod yX1_putValue, Cond.selects RX1 yX1_putValue yX1_putValue, Cond.code yX1_putValue cX1_putValue 5 (some .int), Cond.fieldLink RX1 25 "QueryGateway$Graph" "values" "[I", Cond.methodLink RX1 58 yX1_valueOf]
def wsX4_set_r3 : List Cond := [Cond.instanceMethod yX1_valueOf, Cond.selects RX1 yX1_valueOf yX1_valueOf, Cond.code yX1_valueOf cX1_valueOf 3 (some .int)]
def wsX4_set : List Cond := .code yX4_set cX4_set 6 (some .int) :: ((wsX4_set_r1 ++ (wsX4_set_r2 ++ wsX4_set_r3)) ++ wsX40 ++ wsX10 ++ (vx_atS RX4 56 "java/lang/IllegalArgumentException" ["java/lang/RuntimeException", "java/lang/Exception"]).filter goodWord ++ (vx_atS RX4 194 "java/lang/IndexOutOfBoundsException" ["java/lang/RuntimeException", "java/lang/Exception"]).filter goodWord)
def wsX4_fail : List Cond := .code yX4_fail cX4_fail 3 (some .boolean) :: ([.fieldLink RX4 20 "QueryGateway" "graph" "LQueryGateway$Graph;", .methodLink RX4 72 yX4_checkService, .static yX4_checkService, .initialized RX4, .code yX4_checkService cX4_checkService 1 none, .classLink RX4 52 "java/lang/IllegalArgumentException", .initialized "java/lang/IllegalArgumentException", .methodLink RX4 178 yX4_isService, .static yX4_isService, .code yX4_isService cX4_isService 1 (some .boolean), .methodLink RX4 103 yX1_putFailed, .instanceMethod yX1_putFailed, .selects RX1 yX1_putFailed yX1_putFailed, .initialized RX1, .code yX1_putFailed cX1_putFailed 4 (some .boolean), .fieldLink RX1 61 "QueryGateway$Graph" "failed" "I", .static yX4_bit, .code yX4_bit cX4_bit 1 (some .int)] ++ wsX40 ++ wsX10 ++ (vx_atS RX4 56 "java/lang/IllegalArgumentException" ["java/lang/RuntimeException", "java/lang/Exception"]).filter goodWord)
def wsX4_begin : List Cond := .code yX4_begin cX4_begin 2 (some .int) :: ([.fieldLink RX4 28 "QueryGateway" "plan" "LQueryGateway$Plan;", .fieldLink RX4 24 "QueryGateway" "query" "LQueryGateway$Query;", .methodLink RX4 44 yX4_checkType, .static yX4_checkType, .initialized RX4, .code yX4_checkType cX4_checkType 1 none, .classLink RX4 52 "java/lang/IllegalArgumentException", .initialized "java/lang/IllegalArgumentException", .methodLink RX4 48 yX4_isType, .static yX4_isType, .code yX4_isType cX4_isType 1 (some .boolean), .methodLink RX4 79 yX2_forget, .instanceMethod yX2_forget, .selects RX2 yX2_forget yX2_forget, .initialized RX2, .code yX2_forget cX2_forget 1 none, .fieldLink RX2 32 "QueryGateway$Plan" "known" "Z", .methodLink RX4 107 yX3_restart, .instanceMethod yX3_restart, .selects RX3 yX3_restart yX3_restart, .initialized RX3, .code yX3_restart cX3_restart 3 (some .int), .fieldLink RX3 18 "QueryGateway$Query" "count" "I", .fieldLink RX3 22 "QueryGateway$Query" "type" "I"] ++ wsX40 ++ wsX20 ++ wsX30 ++ (vx_atS RX4 56 "java/lang/IllegalArgumentException" ["java/lang/RuntimeException", "java/lang/Exception"]).filter goodWord)
def wsX4_checkNode : List Cond := .code yX4_checkNode cX4_checkNode 2 none :: ([.classLink RX4 190 "java/lang/IndexOutOfBoundsException", .initialized "java/lang/IndexOutOfBoundsException", .fieldLink RX4 24 "QueryGateway" "query" "LQueryGateway$Query;", .methodLink RX4 195 yX3_has, .instanceMethod yX3_has, .selects RX3 yX3_has yX3_has, .initialized RX3, .code yX3_has cX3_has 2 (some .boolean), .fieldLink RX3 18 "QueryGateway$Query" "count" "I"] ++ wsX40 ++ wsX30 ++ (vx_atS RX4 194 "java/lang/IndexOutOfBoundsException" ["java/lang/RuntimeException", "java/lang/Exception"]).filter goodWord)
def wsX4_typeAt_r1 : List Cond := [Cond.fieldLink RX4 24 "QueryGateway" "query" "LQueryGateway$Query;", Cond.fieldLink RX4 20 "QueryGateway" "graph" "LQueryGateway$Graph;", Cond.methodLink RX4 205 yX3_type, Cond.instanceMethod yX3_type, Cond.selects RX3 yX3_type yX3_type, Cond.initialized RX3, Cond.code yX3_type cX3_type 1 (some .int), Cond.fieldLink RX3 22 "QueryGateway$Query" "type" "I", Cond.methodLink RX4 129 yX3_slotAt, Cond.instanceMethod yX3_slotAt, Cond.selects RX3 yX3_slotAt yX3_slotAt, Cond.code yX3_slotAt cX3_slotAt 2 (some .int), Cond.fieldLink RX3 15 "QueryGateway$Query" "slots" "[I", Cond.methodLink RX3 25 yX3_has, Cond.instanceMethod yX3_has, Cond.selects RX3 yX3_has yX3_has, Cond.code yX3_has cX3_has 2 (some .boolean), Cond.fieldLink RX3 18 "QueryGateway$Query" "count" "I", Cond.methodLink RX4 208 yX1_leadsOf, Cond.instanceMethod yX1_leadsOf, Cond.selects RX1 yX1_leadsOf yX1_leadsOf, Cond.initialized RX1, Cond.code yX1_leadsOf cX1_leadsOf 2 (some .int), Cond.fieldLink RX1 15 "QueryGateway$Graph" "leads" "[I"]
def wsX4_typeAt_r2 : List Cond := [Cond.static yX4_isSlot, Cond.initialized RX4, Cond.code yX4_isSlot cX4_isSlot 1 (some .boolean)]
def wsX4_typeAt : List Cond := .code yX4_typeAt cX4_typeAt 2 (some .int) :: ((wsX4_typeAt_r1 ++ wsX4_typeAt_r2) ++ wsX40 ++ wsX30 ++ wsX10)
def wsX4_node_r1 : List Cond := [Cond.classLink RX4 63 "java/lang/IllegalStateException", Cond.initialized "java/lang/IllegalStateException", Cond.fieldLink RX4 24 "QueryGateway" "query" "LQueryGateway$Query;", Cond.fieldLink RX4 28 "QueryGateway" "plan" "LQueryGateway$Plan;", Cond.methodLink RX4 110 yX4_checkNode, Cond.instanceMethod yX4_checkNode, Cond.selects RX4 yX4_checkNode yX4_checkNode, Cond.initialized RX4, Cond.code yX4_checkNode cX4_checkNode 2 none, Cond.classLink RX4 190 "java/lang/IndexOutOfBoundsException", Cond.initialized "java/lang/IndexOutOfBoundsException", Cond.methodLink RX4 195 yX3_has, Cond.instanceMethod yX3_has, Cond.selects RX3 yX3_has yX3_has, Cond.initialized RX3, Cond.code yX3_has cX3_has 2 (some .boolean), Cond.fieldLink RX3 18 "QueryGateway$Query" "count" "I", Cond.methodLink RX4 113 yX4_typeAt, Cond.instanceMethod yX4_typeAt, Cond.selects RX4 yX4_typeAt yX4_typeAt, Cond.code yX4_typeAt cX4_typeAt 2 (some .int), Cond.fieldLink RX4 20 "QueryGateway" "graph" "LQueryGateway$Graph;", Cond.methodLink RX4 205 yX3_type, Cond.instanceMethod yX3_type]
def wsX4_node_r2 : List Cond := [Cond.selects RX3 yX3_type yX3_type, Cond.code yX3_type cX3_type 1 (some .int), Cond.fieldLink RX3 22 "QueryGateway$Query" "type" "I", Cond.methodLink RX4 129 yX3_slotAt, Cond.instanceMethod yX3_slotAt, Cond.selects RX3 yX3_slotAt yX3_slotAt, Cond.code yX3_slotAt cX3_slotAt 2 (some .int), Cond.fieldLink RX3 15 "QueryGateway$Query" "slots" "[I", Cond.methodLink RX3 25 yX3_has, Cond.methodLink RX4 208 yX1_leadsOf, Cond.instanceMethod yX1_leadsOf, Cond.selects RX1 yX1_leadsOf yX1_leadsOf, Cond.initialized RX1, Cond.code yX1_leadsOf cX1_leadsOf 2 (some .int), Cond.fieldLink RX1 15 "QueryGateway$Graph" "leads" "[I", Cond.static yX4_isSlot, Cond.code yX4_isSlot cX4_isSlot 1 (some .boolean), Cond.methodLink RX4 75 yX4_checkField, Cond.instanceMethod yX4_checkField, Cond.selects RX4 yX4_checkField yX4_checkField, Cond.code yX4_checkField cX4_checkField 3 none, Cond.methodLink RX4 59 yX1_fieldsOf, Cond.instanceMethod yX1_fieldsOf, Cond.selects RX1 yX1_fieldsOf yX1_fieldsOf]
def wsX4_node_r3 : List Cond := [Cond.code yX1_fieldsOf cX1_fieldsOf 2 (some .int), Cond.fieldLink RX1 9 "QueryGateway$Graph" "counts" "[I", Cond.static yX4_isType, Cond.code yX4_isType cX4_isType 1 (some .boolean), Cond.methodLink RX4 82 yX4_slotOf, Cond.static yX4_slotOf, Cond.code yX4_slotOf cX4_slotOf 2 (some .int), Cond.methodLink RX4 118 yX3_hasRoom, Cond.instanceMethod yX3_hasRoom, Cond.selects RX3 yX3_hasRoom yX3_hasRoom, Cond.code yX3_hasRoom cX3_hasRoom 5 (some .boolean), Cond.methodLink RX3 29 yX3_aboveOf, Cond.instanceMethod yX3_aboveOf, Cond.selects RX3 yX3_aboveOf yX3_aboveOf, Cond.code yX3_aboveOf cX3_aboveOf 2 (some .int), Cond.fieldLink RX3 9 "QueryGateway$Query" "above" "[I", Cond.methodLink RX3 33 yX3_slotAt, Cond.methodLink RX4 79 yX2_forget, Cond.instanceMethod yX2_forget, Cond.selects RX2 yX2_forget yX2_forget, Cond.initialized RX2, Cond.code yX2_forget cX2_forget 1 none, Cond.fieldLink RX2 32 "QueryGateway$Plan" "known" "Z", Cond.methodLink RX4 123 yX3_append]
def wsX4_node_r4 : List Cond := [Cond.instanceMethod yX3_append, Cond.selects RX3 yX3_append yX3_append, Cond.code yX3_append cX3_append 4 (some .int)]
def wsX4_node : List Cond := .code yX4_node cX4_node 5 (some .int) :: ((wsX4_node_r1 ++ (wsX4_node_r2 ++ (wsX4_node_r3 ++ wsX4_node_r4))) ++ wsX40 ++ wsX30 ++ wsX10 ++ wsX20 ++ (vx_atS RX4 67 "java/lang/IllegalStateException" ["java/lang/RuntimeException", "java/lang/Exception"]).filter goodWord ++ (vx_atS RX4 194 "java/lang/IndexOutOfBoundsException" ["java/lang/RuntimeException", "java/lang/Exception"]).filter goodWord)
def wsX4_nodes : List Cond := .code yX4_nodes cX4_nodes 1 (some .int) :: ([.fieldLink RX4 24 "QueryGateway" "query" "LQueryGateway$Query;", .methodLink RX4 125 yX3_size, .instanceMethod yX3_size, .selects RX3 yX3_size yX3_size, .initialized RX3, .code yX3_size cX3_size 1 (some .int), .fieldLink RX3 18 "QueryGateway$Query" "count" "I"] ++ wsX40 ++ wsX30)
def wsX4_typeOf : List Cond := .code yX4_typeOf cX4_typeOf 2 (some .int) :: ([.fieldLink RX4 24 "QueryGateway" "query" "LQueryGateway$Query;", .methodLink RX4 110 yX4_checkNode, .instanceMethod yX4_checkNode, .selects RX4 yX4_checkNode yX4_checkNode, .initialized RX4, .code yX4_checkNode cX4_checkNode 2 none, .classLink RX4 190 "java/lang/IndexOutOfBoundsException", .initialized "java/lang/IndexOutOfBoundsException", .methodLink RX4 195 yX3_has, .instanceMethod yX3_has, .selects RX3 yX3_has yX3_has, .initialized RX3, .code yX3_has cX3_has 2 (some .boolean), .fieldLink RX3 18 "QueryGateway$Query" "count" "I", .methodLink RX4 129 yX3_slotAt, .instanceMethod yX3_slotAt, .selects RX3 yX3_slotAt yX3_slotAt, .code yX3_slotAt cX3_slotAt 2 (some .int), .fieldLink RX3 15 "QueryGateway$Query" "slots" "[I", .methodLink RX3 25 yX3_has] ++ wsX40 ++ wsX30 ++ (vx_atS RX4 194 "java/lang/IndexOutOfBoundsException" ["java/lang/RuntimeException", "java/lang/Exception"]).filter goodWord)
def wsX4_checkPlan_r1 : List Cond := [Cond.classLink RX4 63 "java/lang/IllegalStateException", Cond.initialized "java/lang/IllegalStateException", Cond.fieldLink RX4 28 "QueryGateway" "plan" "LQueryGateway$Plan;", Cond.methodLink RX4 200 yX2_find, Cond.instanceMethod yX2_find, Cond.selects RX2 yX2_find yX2_find, Cond.initialized RX2, Cond.code yX2_find cX2_find 1 (some .boolean), Cond.fieldLink RX2 32 "QueryGateway$Plan" "known" "Z", Cond.fieldLink RX2 40 "QueryGateway$Plan" "there" "Z", Cond.fieldLink RX2 50 "QueryGateway$Plan" "length" "I", Cond.methodLink RX2 36 yX2_openChoices, Cond.instanceMethod yX2_openChoices, Cond.selects RX2 yX2_openChoices yX2_openChoices, Cond.code yX2_openChoices cX2_openChoices 3 (some .boolean), Cond.fieldLink RX2 15 "QueryGateway$Plan" "query" "LQueryGateway$Query;", Cond.methodLink RX2 67 Lib.Math.min.name, Cond.static Lib.Math.min.name, Cond.initialized "java/lang/Math", Cond.code Lib.Math.min.name Lib.Math.min.code 2 (some .int), Cond.fieldLink RX2 72 "QueryGateway$Plan" "count" "I", Cond.fieldLink RX2 19 "QueryGateway$Plan" "places" "[I", Cond.fieldLink RX2 23 "QueryGateway$Plan" "choices" "[I", Cond.fieldLink RX2 9 "QueryGateway$Plan" "graph" "LQueryGateway$Graph;"]
def wsX4_checkPlan_r2 : List Cond := [Cond.methodLink RX2 63 yX3_size, Cond.instanceMethod yX3_size, Cond.selects RX3 yX3_size yX3_size, Cond.initialized RX3, Cond.code yX3_size cX3_size 1 (some .int), Cond.fieldLink RX3 18 "QueryGateway$Query" "count" "I", Cond.methodLink RX2 75 yX3_aboveOf, Cond.instanceMethod yX3_aboveOf, Cond.selects RX3 yX3_aboveOf yX3_aboveOf, Cond.code yX3_aboveOf cX3_aboveOf 2 (some .int), Cond.fieldLink RX3 9 "QueryGateway$Query" "above" "[I", Cond.methodLink RX3 25 yX3_has, Cond.instanceMethod yX3_has, Cond.selects RX3 yX3_has yX3_has, Cond.code yX3_has cX3_has 2 (some .boolean), Cond.methodLink RX2 79 yX3_slotAt, Cond.instanceMethod yX3_slotAt, Cond.selects RX3 yX3_slotAt yX3_slotAt, Cond.code yX3_slotAt cX3_slotAt 2 (some .int), Cond.fieldLink RX3 15 "QueryGateway$Query" "slots" "[I", Cond.methodLink RX2 82 yX1_ownersOf, Cond.instanceMethod yX1_ownersOf, Cond.selects RX1 yX1_ownersOf yX1_ownersOf, Cond.initialized RX1]
def wsX4_checkPlan_r3 : List Cond := [Cond.code yX1_ownersOf cX1_ownersOf 2 (some .int), Cond.fieldLink RX1 22 "QueryGateway$Graph" "owners" "[I", Cond.static yX4_isSlot, Cond.initialized RX4, Cond.code yX4_isSlot cX4_isSlot 1 (some .boolean), Cond.methodLink RX2 43 yX2_countHopsBelow, Cond.instanceMethod yX2_countHopsBelow, Cond.selects RX2 yX2_countHopsBelow yX2_countHopsBelow, Cond.code yX2_countHopsBelow cX2_countHopsBelow 3 none, Cond.fieldLink RX2 26 "QueryGateway$Plan" "hopsBelow" "[I", Cond.methodLink RX2 46 yX2_hopsAt, Cond.instanceMethod yX2_hopsAt, Cond.selects RX2 yX2_hopsAt yX2_hopsAt, Cond.code yX2_hopsAt cX2_hopsAt 6 (some .int), Cond.static yX4_bit, Cond.code yX4_bit cX4_bit 1 (some .int), Cond.methodLink RX2 93 yJ6_bitCount_0f7a4, Cond.static yJ6_bitCount_0f7a4, Cond.initialized RJ6, Cond.code yJ6_bitCount_0f7a4 cJ6_bitCount_0f7a4 1 (some .int), Cond.constant RJ6 265 (1431655765), Cond.constant RJ6 266 (858993459), Cond.constant RJ6 267 (252645135), Cond.methodLink RX2 98 yX2_hopsUnder]
def wsX4_checkPlan_r4 : List Cond := [Cond.instanceMethod yX2_hopsUnder, Cond.selects RX2 yX2_hopsUnder yX2_hopsUnder, Cond.code yX2_hopsUnder cX2_hopsUnder 7 (some .int), Cond.methodLink RX2 54 yX2_chooseServices, Cond.instanceMethod yX2_chooseServices, Cond.selects RX2 yX2_chooseServices yX2_chooseServices, Cond.code yX2_chooseServices cX2_chooseServices 7 none, Cond.fieldLink RX2 29 "QueryGateway$Plan" "services" "[I", Cond.methodLink RX2 87 yX2_serviceOf, Cond.instanceMethod yX2_serviceOf, Cond.selects RX2 yX2_serviceOf yX2_serviceOf, Cond.code yX2_serviceOf cX2_serviceOf 2 (some .int), Cond.methodLink RX2 57 yX3_has]
def wsX4_checkPlan : List Cond := .code yX4_checkPlan cX4_checkPlan 1 none :: ((wsX4_checkPlan_r1 ++ (wsX4_checkPlan_r2 ++ (wsX4_checkPlan_r3 ++ wsX4_checkPlan_r4))) ++ wsX40 ++ wsX20 ++ wsX30 ++ wsX10 ++ (vx_atS RX4 67 "java/lang/IllegalStateException" ["java/lang/RuntimeException", "java/lang/Exception"]).filter goodWord)
def wsX4_hops_r1 : List Cond := [Cond.fieldLink RX4 28 "QueryGateway" "plan" "LQueryGateway$Plan;", Cond.methodLink RX4 132 yX4_checkPlan, Cond.instanceMethod yX4_checkPlan, Cond.selects RX4 yX4_checkPlan yX4_checkPlan, Cond.initialized RX4, Cond.code yX4_checkPlan cX4_checkPlan 1 none, Cond.classLink RX4 63 "java/lang/IllegalStateException", Cond.initialized "java/lang/IllegalStateException", Cond.methodLink RX4 200 yX2_find, Cond.instanceMethod yX2_find, Cond.selects RX2 yX2_find yX2_find, Cond.initialized RX2, Cond.code yX2_find cX2_find 1 (some .boolean), Cond.fieldLink RX2 32 "QueryGateway$Plan" "known" "Z", Cond.fieldLink RX2 40 "QueryGateway$Plan" "there" "Z", Cond.fieldLink RX2 50 "QueryGateway$Plan" "length" "I", Cond.methodLink RX2 36 yX2_openChoices, Cond.instanceMethod yX2_openChoices, Cond.selects RX2 yX2_openChoices yX2_openChoices, Cond.code yX2_openChoices cX2_openChoices 3 (some .boolean), Cond.fieldLink RX2 15 "QueryGateway$Plan" "query" "LQueryGateway$Query;", Cond.methodLink RX2 67 Lib.Math.min.name, Cond.static Lib.Math.min.name, Cond.initialized "java/lang/Math"]
def wsX4_hops_r2 : List Cond := [Cond.code Lib.Math.min.name Lib.Math.min.code 2 (some .int), Cond.fieldLink RX2 72 "QueryGateway$Plan" "count" "I", Cond.fieldLink RX2 19 "QueryGateway$Plan" "places" "[I", Cond.fieldLink RX2 23 "QueryGateway$Plan" "choices" "[I", Cond.fieldLink RX2 9 "QueryGateway$Plan" "graph" "LQueryGateway$Graph;", Cond.methodLink RX2 63 yX3_size, Cond.instanceMethod yX3_size, Cond.selects RX3 yX3_size yX3_size, Cond.initialized RX3, Cond.code yX3_size cX3_size 1 (some .int), Cond.fieldLink RX3 18 "QueryGateway$Query" "count" "I", Cond.methodLink RX2 75 yX3_aboveOf, Cond.instanceMethod yX3_aboveOf, Cond.selects RX3 yX3_aboveOf yX3_aboveOf, Cond.code yX3_aboveOf cX3_aboveOf 2 (some .int), Cond.fieldLink RX3 9 "QueryGateway$Query" "above" "[I", Cond.methodLink RX3 25 yX3_has, Cond.instanceMethod yX3_has, Cond.selects RX3 yX3_has yX3_has, Cond.code yX3_has cX3_has 2 (some .boolean), Cond.methodLink RX2 79 yX3_slotAt, Cond.instanceMethod yX3_slotAt, Cond.selects RX3 yX3_slotAt yX3_slotAt, Cond.code yX3_slotAt cX3_slotAt 2 (some .int)]
def wsX4_hops_r3 : List Cond := [Cond.fieldLink RX3 15 "QueryGateway$Query" "slots" "[I", Cond.methodLink RX2 82 yX1_ownersOf, Cond.instanceMethod yX1_ownersOf, Cond.selects RX1 yX1_ownersOf yX1_ownersOf, Cond.initialized RX1, Cond.code yX1_ownersOf cX1_ownersOf 2 (some .int), Cond.fieldLink RX1 22 "QueryGateway$Graph" "owners" "[I", Cond.static yX4_isSlot, Cond.code yX4_isSlot cX4_isSlot 1 (some .boolean), Cond.methodLink RX2 43 yX2_countHopsBelow, Cond.instanceMethod yX2_countHopsBelow, Cond.selects RX2 yX2_countHopsBelow yX2_countHopsBelow, Cond.code yX2_countHopsBelow cX2_countHopsBelow 3 none, Cond.fieldLink RX2 26 "QueryGateway$Plan" "hopsBelow" "[I", Cond.methodLink RX2 46 yX2_hopsAt, Cond.instanceMethod yX2_hopsAt, Cond.selects RX2 yX2_hopsAt yX2_hopsAt, Cond.code yX2_hopsAt cX2_hopsAt 6 (some .int), Cond.static yX4_bit, Cond.code yX4_bit cX4_bit 1 (some .int), Cond.methodLink RX2 93 yJ6_bitCount_0f7a4, Cond.static yJ6_bitCount_0f7a4, Cond.initialized RJ6, Cond.code yJ6_bitCount_0f7a4 cJ6_bitCount_0f7a4 1 (some .int)]
def wsX4_hops_r4 : List Cond := [Cond.constant RJ6 265 (1431655765), Cond.constant RJ6 266 (858993459), Cond.constant RJ6 267 (252645135), Cond.methodLink RX2 98 yX2_hopsUnder, Cond.instanceMethod yX2_hopsUnder, Cond.selects RX2 yX2_hopsUnder yX2_hopsUnder, Cond.code yX2_hopsUnder cX2_hopsUnder 7 (some .int), Cond.methodLink RX2 54 yX2_chooseServices, Cond.instanceMethod yX2_chooseServices, Cond.selects RX2 yX2_chooseServices yX2_chooseServices, Cond.code yX2_chooseServices cX2_chooseServices 7 none, Cond.fieldLink RX2 29 "QueryGateway$Plan" "services" "[I", Cond.methodLink RX2 87 yX2_serviceOf, Cond.instanceMethod yX2_serviceOf, Cond.selects RX2 yX2_serviceOf yX2_serviceOf, Cond.code yX2_serviceOf cX2_serviceOf 2 (some .int), Cond.methodLink RX2 57 yX3_has, Cond.methodLink RX4 135 yX2_length, Cond.instanceMethod yX2_length, Cond.selects RX2 yX2_length yX2_length, Cond.code yX2_length cX2_length 1 (some .int)]
def wsX4_hops : List Cond := .code yX4_hops cX4_hops 1 (some .int) :: ((wsX4_hops_r1 ++ (wsX4_hops_r2 ++ (wsX4_hops_r3 ++ wsX4_hops_r4))) ++ wsX40 ++ wsX20 ++ wsX30 ++ wsX10 ++ (vx_atS RX4 67 "java/lang/IllegalStateException" ["java/lang/RuntimeException", "java/lang/Exception"]).filter goodWord)
def wsX4_takenFrom_r1 : List Cond := [Cond.fieldLink RX4 28 "QueryGateway" "plan" "LQueryGateway$Plan;", Cond.methodLink RX4 110 yX4_checkNode, Cond.instanceMethod yX4_checkNode, Cond.selects RX4 yX4_checkNode yX4_checkNode, Cond.initialized RX4, Cond.code yX4_checkNode cX4_checkNode 2 none, Cond.classLink RX4 190 "java/lang/IndexOutOfBoundsException", Cond.initialized "java/lang/IndexOutOfBoundsException", Cond.fieldLink RX4 24 "QueryGateway" "query" "LQueryGateway$Query;", Cond.methodLink RX4 195 yX3_has, Cond.instanceMethod yX3_has, Cond.selects RX3 yX3_has yX3_has, Cond.initialized RX3, Cond.code yX3_has cX3_has 2 (some .boolean), Cond.fieldLink RX3 18 "QueryGateway$Query" "count" "I", Cond.methodLink RX4 132 yX4_checkPlan, Cond.instanceMethod yX4_checkPlan, Cond.selects RX4 yX4_checkPlan yX4_checkPlan, Cond.code yX4_checkPlan cX4_checkPlan 1 none, Cond.classLink RX4 63 "java/lang/IllegalStateException", Cond.initialized "java/lang/IllegalStateException", Cond.methodLink RX4 200 yX2_find, Cond.instanceMethod yX2_find, Cond.selects RX2 yX2_find yX2_find]
def wsX4_takenFrom_r2 : List Cond := [Cond.initialized RX2, Cond.code yX2_find cX2_find 1 (some .boolean), Cond.fieldLink RX2 32 "QueryGateway$Plan" "known" "Z", Cond.fieldLink RX2 40 "QueryGateway$Plan" "there" "Z", Cond.fieldLink RX2 50 "QueryGateway$Plan" "length" "I", Cond.methodLink RX2 36 yX2_openChoices, Cond.instanceMethod yX2_openChoices, Cond.selects RX2 yX2_openChoices yX2_openChoices, Cond.code yX2_openChoices cX2_openChoices 3 (some .boolean), Cond.fieldLink RX2 15 "QueryGateway$Plan" "query" "LQueryGateway$Query;", Cond.methodLink RX2 67 Lib.Math.min.name, Cond.static Lib.Math.min.name, Cond.initialized "java/lang/Math", Cond.code Lib.Math.min.name Lib.Math.min.code 2 (some .int), Cond.fieldLink RX2 72 "QueryGateway$Plan" "count" "I", Cond.fieldLink RX2 19 "QueryGateway$Plan" "places" "[I", Cond.fieldLink RX2 23 "QueryGateway$Plan" "choices" "[I", Cond.fieldLink RX2 9 "QueryGateway$Plan" "graph" "LQueryGateway$Graph;", Cond.methodLink RX2 63 yX3_size, Cond.instanceMethod yX3_size, Cond.selects RX3 yX3_size yX3_size, Cond.code yX3_size cX3_size 1 (some .int), Cond.methodLink RX2 75 yX3_aboveOf, Cond.instanceMethod yX3_aboveOf]
def wsX4_takenFrom_r3 : List Cond := [Cond.selects RX3 yX3_aboveOf yX3_aboveOf, Cond.code yX3_aboveOf cX3_aboveOf 2 (some .int), Cond.fieldLink RX3 9 "QueryGateway$Query" "above" "[I", Cond.methodLink RX3 25 yX3_has, Cond.methodLink RX2 79 yX3_slotAt, Cond.instanceMethod yX3_slotAt, Cond.selects RX3 yX3_slotAt yX3_slotAt, Cond.code yX3_slotAt cX3_slotAt 2 (some .int), Cond.fieldLink RX3 15 "QueryGateway$Query" "slots" "[I", Cond.methodLink RX2 82 yX1_ownersOf, Cond.instanceMethod yX1_ownersOf, Cond.selects RX1 yX1_ownersOf yX1_ownersOf, Cond.initialized RX1, Cond.code yX1_ownersOf cX1_ownersOf 2 (some .int), Cond.fieldLink RX1 22 "QueryGateway$Graph" "owners" "[I", Cond.static yX4_isSlot, Cond.code yX4_isSlot cX4_isSlot 1 (some .boolean), Cond.methodLink RX2 43 yX2_countHopsBelow, Cond.instanceMethod yX2_countHopsBelow, Cond.selects RX2 yX2_countHopsBelow yX2_countHopsBelow, Cond.code yX2_countHopsBelow cX2_countHopsBelow 3 none, Cond.fieldLink RX2 26 "QueryGateway$Plan" "hopsBelow" "[I", Cond.methodLink RX2 46 yX2_hopsAt, Cond.instanceMethod yX2_hopsAt]
def wsX4_takenFrom_r4 : List Cond := [Cond.selects RX2 yX2_hopsAt yX2_hopsAt, Cond.code yX2_hopsAt cX2_hopsAt 6 (some .int), Cond.static yX4_bit, Cond.code yX4_bit cX4_bit 1 (some .int), Cond.methodLink RX2 93 yJ6_bitCount_0f7a4, Cond.static yJ6_bitCount_0f7a4, Cond.initialized RJ6, Cond.code yJ6_bitCount_0f7a4 cJ6_bitCount_0f7a4 1 (some .int), Cond.constant RJ6 265 (1431655765), Cond.constant RJ6 266 (858993459), Cond.constant RJ6 267 (252645135), Cond.methodLink RX2 98 yX2_hopsUnder, Cond.instanceMethod yX2_hopsUnder, Cond.selects RX2 yX2_hopsUnder yX2_hopsUnder, Cond.code yX2_hopsUnder cX2_hopsUnder 7 (some .int), Cond.methodLink RX2 54 yX2_chooseServices, Cond.instanceMethod yX2_chooseServices, Cond.selects RX2 yX2_chooseServices yX2_chooseServices, Cond.code yX2_chooseServices cX2_chooseServices 7 none, Cond.fieldLink RX2 29 "QueryGateway$Plan" "services" "[I", Cond.methodLink RX2 87 yX2_serviceOf, Cond.instanceMethod yX2_serviceOf, Cond.selects RX2 yX2_serviceOf yX2_serviceOf, Cond.code yX2_serviceOf cX2_serviceOf 2 (some .int)]
def wsX4_takenFrom_r5 : List Cond := [Cond.methodLink RX2 57 yX3_has, Cond.methodLink RX4 138 yX2_serviceOf]
def wsX4_takenFrom : List Cond := .code yX4_takenFrom cX4_takenFrom 2 (some .int) :: ((wsX4_takenFrom_r1 ++ (wsX4_takenFrom_r2 ++ (wsX4_takenFrom_r3 ++ (wsX4_takenFrom_r4 ++ wsX4_takenFrom_r5)))) ++ wsX40 ++ wsX30 ++ wsX20 ++ wsX10 ++ (vx_atS RX4 194 "java/lang/IndexOutOfBoundsException" ["java/lang/RuntimeException", "java/lang/Exception"]).filter goodWord ++ (vx_atS RX4 67 "java/lang/IllegalStateException" ["java/lang/RuntimeException", "java/lang/Exception"]).filter goodWord)
def wsX4_used_r1 : List Cond := [Cond.fieldLink RX4 24 "QueryGateway" "query" "LQueryGateway$Query;", Cond.fieldLink RX4 28 "QueryGateway" "plan" "LQueryGateway$Plan;", Cond.methodLink RX4 132 yX4_checkPlan, Cond.instanceMethod yX4_checkPlan, Cond.selects RX4 yX4_checkPlan yX4_checkPlan, Cond.initialized RX4, Cond.code yX4_checkPlan cX4_checkPlan 1 none, Cond.classLink RX4 63 "java/lang/IllegalStateException", Cond.initialized "java/lang/IllegalStateException", Cond.methodLink RX4 200 yX2_find, Cond.instanceMethod yX2_find, Cond.selects RX2 yX2_find yX2_find, Cond.initialized RX2, Cond.code yX2_find cX2_find 1 (some .boolean), Cond.fieldLink RX2 32 "QueryGateway$Plan" "known" "Z", Cond.fieldLink RX2 40 "QueryGateway$Plan" "there" "Z", Cond.fieldLink RX2 50 "QueryGateway$Plan" "length" "I", Cond.methodLink RX2 36 yX2_openChoices, Cond.instanceMethod yX2_openChoices, Cond.selects RX2 yX2_openChoices yX2_openChoices, Cond.code yX2_openChoices cX2_openChoices 3 (some .boolean), Cond.fieldLink RX2 15 "QueryGateway$Plan" "query" "LQueryGateway$Query;", Cond.methodLink RX2 67 Lib.Math.min.name, Cond.static Lib.Math.min.name]
def wsX4_used_r2 : List Cond := [Cond.initialized "java/lang/Math", Cond.code Lib.Math.min.name Lib.Math.min.code 2 (some .int), Cond.fieldLink RX2 72 "QueryGateway$Plan" "count" "I", Cond.fieldLink RX2 19 "QueryGateway$Plan" "places" "[I", Cond.fieldLink RX2 23 "QueryGateway$Plan" "choices" "[I", Cond.fieldLink RX2 9 "QueryGateway$Plan" "graph" "LQueryGateway$Graph;", Cond.methodLink RX2 63 yX3_size, Cond.instanceMethod yX3_size, Cond.selects RX3 yX3_size yX3_size, Cond.initialized RX3, Cond.code yX3_size cX3_size 1 (some .int), Cond.fieldLink RX3 18 "QueryGateway$Query" "count" "I", Cond.methodLink RX2 75 yX3_aboveOf, Cond.instanceMethod yX3_aboveOf, Cond.selects RX3 yX3_aboveOf yX3_aboveOf, Cond.code yX3_aboveOf cX3_aboveOf 2 (some .int), Cond.fieldLink RX3 9 "QueryGateway$Query" "above" "[I", Cond.methodLink RX3 25 yX3_has, Cond.instanceMethod yX3_has, Cond.selects RX3 yX3_has yX3_has, Cond.code yX3_has cX3_has 2 (some .boolean), Cond.methodLink RX2 79 yX3_slotAt, Cond.instanceMethod yX3_slotAt, Cond.selects RX3 yX3_slotAt yX3_slotAt]
def wsX4_used_r3 : List Cond := [Cond.code yX3_slotAt cX3_slotAt 2 (some .int), Cond.fieldLink RX3 15 "QueryGateway$Query" "slots" "[I", Cond.methodLink RX2 82 yX1_ownersOf, Cond.instanceMethod yX1_ownersOf, Cond.selects RX1 yX1_ownersOf yX1_ownersOf, Cond.initialized RX1, Cond.code yX1_ownersOf cX1_ownersOf 2 (some .int), Cond.fieldLink RX1 22 "QueryGateway$Graph" "owners" "[I", Cond.static yX4_isSlot, Cond.code yX4_isSlot cX4_isSlot 1 (some .boolean), Cond.methodLink RX2 43 yX2_countHopsBelow, Cond.instanceMethod yX2_countHopsBelow, Cond.selects RX2 yX2_countHopsBelow yX2_countHopsBelow, Cond.code yX2_countHopsBelow cX2_countHopsBelow 3 none, Cond.fieldLink RX2 26 "QueryGateway$Plan" "hopsBelow" "[I", Cond.methodLink RX2 46 yX2_hopsAt, Cond.instanceMethod yX2_hopsAt, Cond.selects RX2 yX2_hopsAt yX2_hopsAt, Cond.code yX2_hopsAt cX2_hopsAt 6 (some .int), Cond.static yX4_bit, Cond.code yX4_bit cX4_bit 1 (some .int), Cond.methodLink RX2 93 yJ6_bitCount_0f7a4, Cond.static yJ6_bitCount_0f7a4, Cond.initialized RJ6]
def wsX4_used_r4 : List Cond := [Cond.code yJ6_bitCount_0f7a4 cJ6_bitCount_0f7a4 1 (some .int), Cond.constant RJ6 265 (1431655765), Cond.constant RJ6 266 (858993459), Cond.constant RJ6 267 (252645135), Cond.methodLink RX2 98 yX2_hopsUnder, Cond.instanceMethod yX2_hopsUnder, Cond.selects RX2 yX2_hopsUnder yX2_hopsUnder, Cond.code yX2_hopsUnder cX2_hopsUnder 7 (some .int), Cond.methodLink RX2 54 yX2_chooseServices, Cond.instanceMethod yX2_chooseServices, Cond.selects RX2 yX2_chooseServices yX2_chooseServices, Cond.code yX2_chooseServices cX2_chooseServices 7 none, Cond.fieldLink RX2 29 "QueryGateway$Plan" "services" "[I", Cond.methodLink RX2 87 yX2_serviceOf, Cond.instanceMethod yX2_serviceOf, Cond.selects RX2 yX2_serviceOf yX2_serviceOf, Cond.code yX2_serviceOf cX2_serviceOf 2 (some .int), Cond.methodLink RX2 57 yX3_has, Cond.methodLink RX4 125 yX3_size, Cond.methodLink RX4 138 yX2_serviceOf, Cond.methodLink RX4 141 yX4_bit]
def wsX4_used : List Cond := .code yX4_used cX4_used 3 (some .int) :: ((wsX4_used_r1 ++ (wsX4_used_r2 ++ (wsX4_used_r3 ++ wsX4_used_r4))) ++ wsX40 ++ wsX20 ++ wsX30 ++ wsX10 ++ (vx_atS RX4 67 "java/lang/IllegalStateException" ["java/lang/RuntimeException", "java/lang/Exception"]).filter goodWord)
def wsX4_value_r1 : List Cond := [Cond.fieldLink RX4 37 "QueryGateway" "answer" "LQueryGateway$Answer;", Cond.fieldLink RX4 20 "QueryGateway" "graph" "LQueryGateway$Graph;", Cond.methodLink RX4 90 yX4_checkKey, Cond.static yX4_checkKey, Cond.initialized RX4, Cond.code yX4_checkKey cX4_checkKey 1 none, Cond.classLink RX4 52 "java/lang/IllegalArgumentException", Cond.initialized "java/lang/IllegalArgumentException", Cond.methodLink RX4 185 yX4_isKey, Cond.static yX4_isKey, Cond.code yX4_isKey cX4_isKey 1 (some .boolean), Cond.methodLink RX4 110 yX4_checkNode, Cond.instanceMethod yX4_checkNode, Cond.selects RX4 yX4_checkNode yX4_checkNode, Cond.code yX4_checkNode cX4_checkNode 2 none, Cond.classLink RX4 190 "java/lang/IndexOutOfBoundsException", Cond.initialized "java/lang/IndexOutOfBoundsException", Cond.fieldLink RX4 24 "QueryGateway" "query" "LQueryGateway$Query;", Cond.methodLink RX4 195 yX3_has, Cond.instanceMethod yX3_has, Cond.selects RX3 yX3_has yX3_has, Cond.initialized RX3, Cond.code yX3_has cX3_has 2 (some .boolean), Cond.fieldLink RX3 18 "QueryGateway$Query" "count" "I"]
def wsX4_value_r2 : List Cond := [Cond.methodLink RX4 132 yX4_checkPlan, Cond.instanceMethod yX4_checkPlan, Cond.selects RX4 yX4_checkPlan yX4_checkPlan, Cond.code yX4_checkPlan cX4_checkPlan 1 none, Cond.classLink RX4 63 "java/lang/IllegalStateException", Cond.initialized "java/lang/IllegalStateException", Cond.fieldLink RX4 28 "QueryGateway" "plan" "LQueryGateway$Plan;", Cond.methodLink RX4 200 yX2_find, Cond.instanceMethod yX2_find, Cond.selects RX2 yX2_find yX2_find, Cond.initialized RX2, Cond.code yX2_find cX2_find 1 (some .boolean), Cond.fieldLink RX2 32 "QueryGateway$Plan" "known" "Z", Cond.fieldLink RX2 40 "QueryGateway$Plan" "there" "Z", Cond.fieldLink RX2 50 "QueryGateway$Plan" "length" "I", Cond.methodLink RX2 36 yX2_openChoices, Cond.instanceMethod yX2_openChoices, Cond.selects RX2 yX2_openChoices yX2_openChoices, Cond.code yX2_openChoices cX2_openChoices 3 (some .boolean), Cond.fieldLink RX2 15 "QueryGateway$Plan" "query" "LQueryGateway$Query;", Cond.methodLink RX2 67 Lib.Math.min.name, Cond.static Lib.Math.min.name, Cond.initialized "java/lang/Math", Cond.code Lib.Math.min.name Lib.Math.min.code 2 (some .int)]
def wsX4_value_r3 : List Cond := [Cond.fieldLink RX2 72 "QueryGateway$Plan" "count" "I", Cond.fieldLink RX2 19 "QueryGateway$Plan" "places" "[I", Cond.fieldLink RX2 23 "QueryGateway$Plan" "choices" "[I", Cond.fieldLink RX2 9 "QueryGateway$Plan" "graph" "LQueryGateway$Graph;", Cond.methodLink RX2 63 yX3_size, Cond.instanceMethod yX3_size, Cond.selects RX3 yX3_size yX3_size, Cond.code yX3_size cX3_size 1 (some .int), Cond.methodLink RX2 75 yX3_aboveOf, Cond.instanceMethod yX3_aboveOf, Cond.selects RX3 yX3_aboveOf yX3_aboveOf, Cond.code yX3_aboveOf cX3_aboveOf 2 (some .int), Cond.fieldLink RX3 9 "QueryGateway$Query" "above" "[I", Cond.methodLink RX3 25 yX3_has, Cond.methodLink RX2 79 yX3_slotAt, Cond.instanceMethod yX3_slotAt, Cond.selects RX3 yX3_slotAt yX3_slotAt, Cond.code yX3_slotAt cX3_slotAt 2 (some .int), Cond.fieldLink RX3 15 "QueryGateway$Query" "slots" "[I", Cond.methodLink RX2 82 yX1_ownersOf, Cond.instanceMethod yX1_ownersOf, Cond.selects RX1 yX1_ownersOf yX1_ownersOf, Cond.initialized RX1, Cond.code yX1_ownersOf cX1_ownersOf 2 (some .int)]
def wsX4_value_r4 : List Cond := [Cond.fieldLink RX1 22 "QueryGateway$Graph" "owners" "[I", Cond.static yX4_isSlot, Cond.code yX4_isSlot cX4_isSlot 1 (some .boolean), Cond.methodLink RX2 43 yX2_countHopsBelow, Cond.instanceMethod yX2_countHopsBelow, Cond.selects RX2 yX2_countHopsBelow yX2_countHopsBelow, Cond.code yX2_countHopsBelow cX2_countHopsBelow 3 none, Cond.fieldLink RX2 26 "QueryGateway$Plan" "hopsBelow" "[I", Cond.methodLink RX2 46 yX2_hopsAt, Cond.instanceMethod yX2_hopsAt, Cond.selects RX2 yX2_hopsAt yX2_hopsAt, Cond.code yX2_hopsAt cX2_hopsAt 6 (some .int), Cond.static yX4_bit, Cond.code yX4_bit cX4_bit 1 (some .int), Cond.methodLink RX2 93 yJ6_bitCount_0f7a4, Cond.static yJ6_bitCount_0f7a4, Cond.initialized RJ6, Cond.code yJ6_bitCount_0f7a4 cJ6_bitCount_0f7a4 1 (some .int), Cond.constant RJ6 265 (1431655765), Cond.constant RJ6 266 (858993459), Cond.constant RJ6 267 (252645135), Cond.methodLink RX2 98 yX2_hopsUnder, Cond.instanceMethod yX2_hopsUnder, Cond.selects RX2 yX2_hopsUnder yX2_hopsUnder]
def wsX4_value_r5 : List Cond := [Cond.code yX2_hopsUnder cX2_hopsUnder 7 (some .int), Cond.methodLink RX2 54 yX2_chooseServices, Cond.instanceMethod yX2_chooseServices, Cond.selects RX2 yX2_chooseServices yX2_chooseServices, Cond.code yX2_chooseServices cX2_chooseServices 7 none, Cond.fieldLink RX2 29 "QueryGateway$Plan" "services" "[I", Cond.methodLink RX2 87 yX2_serviceOf, Cond.instanceMethod yX2_serviceOf, Cond.selects RX2 yX2_serviceOf yX2_serviceOf, Cond.code yX2_serviceOf cX2_serviceOf 2 (some .int), Cond.methodLink RX2 57 yX3_has, Cond.methodLink RX4 144 yX1_failures, Cond.instanceMethod yX1_failures, Cond.selects RX1 yX1_failures yX1_failures, Cond.code yX1_failures cX1_failures 1 (some .int), Cond.fieldLink RX1 61 "QueryGateway$Graph" "failed" "I", Cond.methodLink RX4 147 yX0_read, Cond.instanceMethod yX0_read, Cond.selects RX0 yX0_read yX0_read, Cond.initialized RX0, Cond.code yX0_read cX0_read 3 none, Cond.methodLink RX0 34 yX0_readValues, Cond.instanceMethod yX0_readValues, Cond.selects RX0 yX0_readValues yX0_readValues]
def wsX4_value_r6 : List Cond := [Cond.code yX0_readValues cX0_readValues 7 none, Cond.fieldLink RX0 15 "QueryGateway$Answer" "query" "LQueryGateway$Query;", Cond.fieldLink RX0 27 "QueryGateway$Answer" "values" "[I", Cond.fieldLink RX0 19 "QueryGateway$Answer" "plan" "LQueryGateway$Plan;", Cond.fieldLink RX0 23 "QueryGateway$Answer" "entities" "[I", Cond.fieldLink RX0 9 "QueryGateway$Answer" "graph" "LQueryGateway$Graph;", Cond.fieldLink RX0 30 "QueryGateway$Answer" "missing" "[Z", Cond.methodLink RX0 54 yX3_size, Cond.methodLink RX0 66 yX3_aboveOf, Cond.methodLink RX0 48 yX3_has, Cond.methodLink RX0 69 yX2_serviceOf, Cond.methodLink RX0 77 yX3_slotAt, Cond.methodLink RX0 80 yX1_valueOf, Cond.instanceMethod yX1_valueOf, Cond.selects RX1 yX1_valueOf yX1_valueOf, Cond.code yX1_valueOf cX1_valueOf 3 (some .int), Cond.fieldLink RX1 25 "QueryGateway$Graph" "values" "[I", Cond.methodLink RX0 38 yX0_letMissingClimb, Cond.instanceMethod yX0_letMissingClimb, Cond.selects RX0 yX0_letMissingClimb yX0_letMissingClimb, Cond.code yX0_letMissingClimb cX0_letMissingClimb 3 none, Cond.fieldLink RX0 44 "QueryGateway$Answer" "allMissing" "Z", Cond.methodLink RX0 86 Lib.Math.min.name, Cond.methodLink RX0 91 yX1_isRequired]
def wsX4_value_r7 : List Cond := [Cond.instanceMethod yX1_isRequired, Cond.selects RX1 yX1_isRequired yX1_isRequired, Cond.code yX1_isRequired cX1_isRequired 2 (some .boolean), Cond.fieldLink RX1 18 "QueryGateway$Graph" "required" "[Z", Cond.methodLink RX0 41 yX0_letMissingFall, Cond.instanceMethod yX0_letMissingFall, Cond.selects RX0 yX0_letMissingFall yX0_letMissingFall, Cond.code yX0_letMissingFall cX0_letMissingFall 3 none, Cond.methodLink RX4 150 yX0_told, Cond.instanceMethod yX0_told, Cond.selects RX0 yX0_told yX0_told, Cond.code yX0_told cX0_told 2 (some .int)]
def wsX4_value : List Cond := .code yX4_value cX4_value 3 (some .int) :: ((wsX4_value_r1 ++ (wsX4_value_r2 ++ (wsX4_value_r3 ++ (wsX4_value_r4 ++ (wsX4_value_r5 ++ (wsX4_value_r6 ++ wsX4_value_r7)))))) ++ wsX40 ++ wsX30 ++ wsX20 ++ wsX10 ++ wsX00 ++ (vx_atS RX4 56 "java/lang/IllegalArgumentException" ["java/lang/RuntimeException", "java/lang/Exception"]).filter goodWord ++ (vx_atS RX4 194 "java/lang/IndexOutOfBoundsException" ["java/lang/RuntimeException", "java/lang/Exception"]).filter goodWord ++ (vx_atS RX4 67 "java/lang/IllegalStateException" ["java/lang/RuntimeException", "java/lang/Exception"]).filter goodWord)
def wsX4_isMissing_r1 : List Cond := [Cond.fieldLink RX4 37 "QueryGateway" "answer" "LQueryGateway$Answer;", Cond.fieldLink RX4 20 "QueryGateway" "graph" "LQueryGateway$Graph;", Cond.methodLink RX4 90 yX4_checkKey, Cond.static yX4_checkKey, Cond.initialized RX4, Cond.code yX4_checkKey cX4_checkKey 1 none, Cond.classLink RX4 52 "java/lang/IllegalArgumentException", Cond.initialized "java/lang/IllegalArgumentException", Cond.methodLink RX4 185 yX4_isKey, Cond.static yX4_isKey, Cond.code yX4_isKey cX4_isKey 1 (some .boolean), Cond.methodLink RX4 132 yX4_checkPlan, Cond.instanceMethod yX4_checkPlan, Cond.selects RX4 yX4_checkPlan yX4_checkPlan, Cond.code yX4_checkPlan cX4_checkPlan 1 none, Cond.classLink RX4 63 "java/lang/IllegalStateException", Cond.initialized "java/lang/IllegalStateException", Cond.fieldLink RX4 28 "QueryGateway" "plan" "LQueryGateway$Plan;", Cond.methodLink RX4 200 yX2_find, Cond.instanceMethod yX2_find, Cond.selects RX2 yX2_find yX2_find, Cond.initialized RX2, Cond.code yX2_find cX2_find 1 (some .boolean), Cond.fieldLink RX2 32 "QueryGateway$Plan" "known" "Z"]
def wsX4_isMissing_r2 : List Cond := [Cond.fieldLink RX2 40 "QueryGateway$Plan" "there" "Z", Cond.fieldLink RX2 50 "QueryGateway$Plan" "length" "I", Cond.methodLink RX2 36 yX2_openChoices, Cond.instanceMethod yX2_openChoices, Cond.selects RX2 yX2_openChoices yX2_openChoices, Cond.code yX2_openChoices cX2_openChoices 3 (some .boolean), Cond.fieldLink RX2 15 "QueryGateway$Plan" "query" "LQueryGateway$Query;", Cond.methodLink RX2 67 Lib.Math.min.name, Cond.static Lib.Math.min.name, Cond.initialized "java/lang/Math", Cond.code Lib.Math.min.name Lib.Math.min.code 2 (some .int), Cond.fieldLink RX2 72 "QueryGateway$Plan" "count" "I", Cond.fieldLink RX2 19 "QueryGateway$Plan" "places" "[I", Cond.fieldLink RX2 23 "QueryGateway$Plan" "choices" "[I", Cond.fieldLink RX2 9 "QueryGateway$Plan" "graph" "LQueryGateway$Graph;", Cond.methodLink RX2 63 yX3_size, Cond.instanceMethod yX3_size, Cond.selects RX3 yX3_size yX3_size, Cond.initialized RX3, Cond.code yX3_size cX3_size 1 (some .int), Cond.fieldLink RX3 18 "QueryGateway$Query" "count" "I", Cond.methodLink RX2 75 yX3_aboveOf, Cond.instanceMethod yX3_aboveOf, Cond.selects RX3 yX3_aboveOf yX3_aboveOf]
def wsX4_isMissing_r3 : List Cond := [Cond.code yX3_aboveOf cX3_aboveOf 2 (some .int), Cond.fieldLink RX3 9 "QueryGateway$Query" "above" "[I", Cond.methodLink RX3 25 yX3_has, Cond.instanceMethod yX3_has, Cond.selects RX3 yX3_has yX3_has, Cond.code yX3_has cX3_has 2 (some .boolean), Cond.methodLink RX2 79 yX3_slotAt, Cond.instanceMethod yX3_slotAt, Cond.selects RX3 yX3_slotAt yX3_slotAt, Cond.code yX3_slotAt cX3_slotAt 2 (some .int), Cond.fieldLink RX3 15 "QueryGateway$Query" "slots" "[I", Cond.methodLink RX2 82 yX1_ownersOf, Cond.instanceMethod yX1_ownersOf, Cond.selects RX1 yX1_ownersOf yX1_ownersOf, Cond.initialized RX1, Cond.code yX1_ownersOf cX1_ownersOf 2 (some .int), Cond.fieldLink RX1 22 "QueryGateway$Graph" "owners" "[I", Cond.static yX4_isSlot, Cond.code yX4_isSlot cX4_isSlot 1 (some .boolean), Cond.methodLink RX2 43 yX2_countHopsBelow, Cond.instanceMethod yX2_countHopsBelow, Cond.selects RX2 yX2_countHopsBelow yX2_countHopsBelow, Cond.code yX2_countHopsBelow cX2_countHopsBelow 3 none, Cond.fieldLink RX2 26 "QueryGateway$Plan" "hopsBelow" "[I"]
def wsX4_isMissing_r4 : List Cond := [Cond.methodLink RX2 46 yX2_hopsAt, Cond.instanceMethod yX2_hopsAt, Cond.selects RX2 yX2_hopsAt yX2_hopsAt, Cond.code yX2_hopsAt cX2_hopsAt 6 (some .int), Cond.static yX4_bit, Cond.code yX4_bit cX4_bit 1 (some .int), Cond.methodLink RX2 93 yJ6_bitCount_0f7a4, Cond.static yJ6_bitCount_0f7a4, Cond.initialized RJ6, Cond.code yJ6_bitCount_0f7a4 cJ6_bitCount_0f7a4 1 (some .int), Cond.constant RJ6 265 (1431655765), Cond.constant RJ6 266 (858993459), Cond.constant RJ6 267 (252645135), Cond.methodLink RX2 98 yX2_hopsUnder, Cond.instanceMethod yX2_hopsUnder, Cond.selects RX2 yX2_hopsUnder yX2_hopsUnder, Cond.code yX2_hopsUnder cX2_hopsUnder 7 (some .int), Cond.methodLink RX2 54 yX2_chooseServices, Cond.instanceMethod yX2_chooseServices, Cond.selects RX2 yX2_chooseServices yX2_chooseServices, Cond.code yX2_chooseServices cX2_chooseServices 7 none, Cond.fieldLink RX2 29 "QueryGateway$Plan" "services" "[I", Cond.methodLink RX2 87 yX2_serviceOf, Cond.instanceMethod yX2_serviceOf]
def wsX4_isMissing_r5 : List Cond := [Cond.selects RX2 yX2_serviceOf yX2_serviceOf, Cond.code yX2_serviceOf cX2_serviceOf 2 (some .int), Cond.methodLink RX2 57 yX3_has, Cond.methodLink RX4 144 yX1_failures, Cond.instanceMethod yX1_failures, Cond.selects RX1 yX1_failures yX1_failures, Cond.code yX1_failures cX1_failures 1 (some .int), Cond.fieldLink RX1 61 "QueryGateway$Graph" "failed" "I", Cond.methodLink RX4 147 yX0_read, Cond.instanceMethod yX0_read, Cond.selects RX0 yX0_read yX0_read, Cond.initialized RX0, Cond.code yX0_read cX0_read 3 none, Cond.methodLink RX0 34 yX0_readValues, Cond.instanceMethod yX0_readValues, Cond.selects RX0 yX0_readValues yX0_readValues, Cond.code yX0_readValues cX0_readValues 7 none, Cond.fieldLink RX0 15 "QueryGateway$Answer" "query" "LQueryGateway$Query;", Cond.fieldLink RX0 27 "QueryGateway$Answer" "values" "[I", Cond.fieldLink RX0 19 "QueryGateway$Answer" "plan" "LQueryGateway$Plan;", Cond.fieldLink RX0 23 "QueryGateway$Answer" "entities" "[I", Cond.fieldLink RX0 9 "QueryGateway$Answer" "graph" "LQueryGateway$Graph;", Cond.fieldLink RX0 30 "QueryGateway$Answer" "missing" "[Z", Cond.methodLink RX0 54 yX3_size]
def wsX4_isMissing_r6 : List Cond := [Cond.methodLink RX0 66 yX3_aboveOf, Cond.methodLink RX0 48 yX3_has, Cond.methodLink RX0 69 yX2_serviceOf, Cond.methodLink RX0 77 yX3_slotAt, Cond.methodLink RX0 80 yX1_valueOf, Cond.instanceMethod yX1_valueOf, Cond.selects RX1 yX1_valueOf yX1_valueOf, Cond.code yX1_valueOf cX1_valueOf 3 (some .int), Cond.fieldLink RX1 25 "QueryGateway$Graph" "values" "[I", Cond.methodLink RX0 38 yX0_letMissingClimb, Cond.instanceMethod yX0_letMissingClimb, Cond.selects RX0 yX0_letMissingClimb yX0_letMissingClimb, Cond.code yX0_letMissingClimb cX0_letMissingClimb 3 none, Cond.fieldLink RX0 44 "QueryGateway$Answer" "allMissing" "Z", Cond.methodLink RX0 86 Lib.Math.min.name, Cond.methodLink RX0 91 yX1_isRequired, Cond.instanceMethod yX1_isRequired, Cond.selects RX1 yX1_isRequired yX1_isRequired, Cond.code yX1_isRequired cX1_isRequired 2 (some .boolean), Cond.fieldLink RX1 18 "QueryGateway$Graph" "required" "[Z", Cond.methodLink RX0 41 yX0_letMissingFall, Cond.instanceMethod yX0_letMissingFall, Cond.selects RX0 yX0_letMissingFall yX0_letMissingFall, Cond.code yX0_letMissingFall cX0_letMissingFall 3 none]
def wsX4_isMissing_r7 : List Cond := [Cond.methodLink RX4 153 yX0_isAllMissing, Cond.instanceMethod yX0_isAllMissing, Cond.selects RX0 yX0_isAllMissing yX0_isAllMissing, Cond.code yX0_isAllMissing cX0_isAllMissing 1 (some .boolean)]
def wsX4_isMissing : List Cond := .code yX4_isMissing cX4_isMissing 2 (some .boolean) :: ((wsX4_isMissing_r1 ++ (wsX4_isMissing_r2 ++ (wsX4_isMissing_r3 ++ (wsX4_isMissing_r4 ++ (wsX4_isMissing_r5 ++ (wsX4_isMissing_r6 ++ wsX4_isMissing_r7)))))) ++ wsX40 ++ wsX20 ++ wsX30 ++ wsX10 ++ wsX00 ++ (vx_atS RX4 56 "java/lang/IllegalArgumentException" ["java/lang/RuntimeException", "java/lang/Exception"]).filter goodWord ++ (vx_atS RX4 67 "java/lang/IllegalStateException" ["java/lang/RuntimeException", "java/lang/Exception"]).filter goodWord)
def wsX4_faults_r1 : List Cond := [Cond.fieldLink RX4 37 "QueryGateway" "answer" "LQueryGateway$Answer;", Cond.fieldLink RX4 20 "QueryGateway" "graph" "LQueryGateway$Graph;", Cond.methodLink RX4 90 yX4_checkKey, Cond.static yX4_checkKey, Cond.initialized RX4, Cond.code yX4_checkKey cX4_checkKey 1 none, Cond.classLink RX4 52 "java/lang/IllegalArgumentException", Cond.initialized "java/lang/IllegalArgumentException", Cond.methodLink RX4 185 yX4_isKey, Cond.static yX4_isKey, Cond.code yX4_isKey cX4_isKey 1 (some .boolean), Cond.methodLink RX4 132 yX4_checkPlan, Cond.instanceMethod yX4_checkPlan, Cond.selects RX4 yX4_checkPlan yX4_checkPlan, Cond.code yX4_checkPlan cX4_checkPlan 1 none, Cond.classLink RX4 63 "java/lang/IllegalStateException", Cond.initialized "java/lang/IllegalStateException", Cond.fieldLink RX4 28 "QueryGateway" "plan" "LQueryGateway$Plan;", Cond.methodLink RX4 200 yX2_find, Cond.instanceMethod yX2_find, Cond.selects RX2 yX2_find yX2_find, Cond.initialized RX2, Cond.code yX2_find cX2_find 1 (some .boolean), Cond.fieldLink RX2 32 "QueryGateway$Plan" "known" "Z"]
def wsX4_faults_r2 : List Cond := [Cond.fieldLink RX2 40 "QueryGateway$Plan" "there" "Z", Cond.fieldLink RX2 50 "QueryGateway$Plan" "length" "I", Cond.methodLink RX2 36 yX2_openChoices, Cond.instanceMethod yX2_openChoices, Cond.selects RX2 yX2_openChoices yX2_openChoices, Cond.code yX2_openChoices cX2_openChoices 3 (some .boolean), Cond.fieldLink RX2 15 "QueryGateway$Plan" "query" "LQueryGateway$Query;", Cond.methodLink RX2 67 Lib.Math.min.name, Cond.static Lib.Math.min.name, Cond.initialized "java/lang/Math", Cond.code Lib.Math.min.name Lib.Math.min.code 2 (some .int), Cond.fieldLink RX2 72 "QueryGateway$Plan" "count" "I", Cond.fieldLink RX2 19 "QueryGateway$Plan" "places" "[I", Cond.fieldLink RX2 23 "QueryGateway$Plan" "choices" "[I", Cond.fieldLink RX2 9 "QueryGateway$Plan" "graph" "LQueryGateway$Graph;", Cond.methodLink RX2 63 yX3_size, Cond.instanceMethod yX3_size, Cond.selects RX3 yX3_size yX3_size, Cond.initialized RX3, Cond.code yX3_size cX3_size 1 (some .int), Cond.fieldLink RX3 18 "QueryGateway$Query" "count" "I", Cond.methodLink RX2 75 yX3_aboveOf, Cond.instanceMethod yX3_aboveOf, Cond.selects RX3 yX3_aboveOf yX3_aboveOf]
def wsX4_faults_r3 : List Cond := [Cond.code yX3_aboveOf cX3_aboveOf 2 (some .int), Cond.fieldLink RX3 9 "QueryGateway$Query" "above" "[I", Cond.methodLink RX3 25 yX3_has, Cond.instanceMethod yX3_has, Cond.selects RX3 yX3_has yX3_has, Cond.code yX3_has cX3_has 2 (some .boolean), Cond.methodLink RX2 79 yX3_slotAt, Cond.instanceMethod yX3_slotAt, Cond.selects RX3 yX3_slotAt yX3_slotAt, Cond.code yX3_slotAt cX3_slotAt 2 (some .int), Cond.fieldLink RX3 15 "QueryGateway$Query" "slots" "[I", Cond.methodLink RX2 82 yX1_ownersOf, Cond.instanceMethod yX1_ownersOf, Cond.selects RX1 yX1_ownersOf yX1_ownersOf, Cond.initialized RX1, Cond.code yX1_ownersOf cX1_ownersOf 2 (some .int), Cond.fieldLink RX1 22 "QueryGateway$Graph" "owners" "[I", Cond.static yX4_isSlot, Cond.code yX4_isSlot cX4_isSlot 1 (some .boolean), Cond.methodLink RX2 43 yX2_countHopsBelow, Cond.instanceMethod yX2_countHopsBelow, Cond.selects RX2 yX2_countHopsBelow yX2_countHopsBelow, Cond.code yX2_countHopsBelow cX2_countHopsBelow 3 none, Cond.fieldLink RX2 26 "QueryGateway$Plan" "hopsBelow" "[I"]
def wsX4_faults_r4 : List Cond := [Cond.methodLink RX2 46 yX2_hopsAt, Cond.instanceMethod yX2_hopsAt, Cond.selects RX2 yX2_hopsAt yX2_hopsAt, Cond.code yX2_hopsAt cX2_hopsAt 6 (some .int), Cond.static yX4_bit, Cond.code yX4_bit cX4_bit 1 (some .int), Cond.methodLink RX2 93 yJ6_bitCount_0f7a4, Cond.static yJ6_bitCount_0f7a4, Cond.initialized RJ6, Cond.code yJ6_bitCount_0f7a4 cJ6_bitCount_0f7a4 1 (some .int), Cond.constant RJ6 265 (1431655765), Cond.constant RJ6 266 (858993459), Cond.constant RJ6 267 (252645135), Cond.methodLink RX2 98 yX2_hopsUnder, Cond.instanceMethod yX2_hopsUnder, Cond.selects RX2 yX2_hopsUnder yX2_hopsUnder, Cond.code yX2_hopsUnder cX2_hopsUnder 7 (some .int), Cond.methodLink RX2 54 yX2_chooseServices, Cond.instanceMethod yX2_chooseServices, Cond.selects RX2 yX2_chooseServices yX2_chooseServices, Cond.code yX2_chooseServices cX2_chooseServices 7 none, Cond.fieldLink RX2 29 "QueryGateway$Plan" "services" "[I", Cond.methodLink RX2 87 yX2_serviceOf, Cond.instanceMethod yX2_serviceOf]
def wsX4_faults_r5 : List Cond := [Cond.selects RX2 yX2_serviceOf yX2_serviceOf, Cond.code yX2_serviceOf cX2_serviceOf 2 (some .int), Cond.methodLink RX2 57 yX3_has, Cond.methodLink RX4 144 yX1_failures, Cond.instanceMethod yX1_failures, Cond.selects RX1 yX1_failures yX1_failures, Cond.code yX1_failures cX1_failures 1 (some .int), Cond.fieldLink RX1 61 "QueryGateway$Graph" "failed" "I", Cond.methodLink RX4 147 yX0_read, Cond.instanceMethod yX0_read, Cond.selects RX0 yX0_read yX0_read, Cond.initialized RX0, Cond.code yX0_read cX0_read 3 none, Cond.methodLink RX0 34 yX0_readValues, Cond.instanceMethod yX0_readValues, Cond.selects RX0 yX0_readValues yX0_readValues, Cond.code yX0_readValues cX0_readValues 7 none, Cond.fieldLink RX0 15 "QueryGateway$Answer" "query" "LQueryGateway$Query;", Cond.fieldLink RX0 27 "QueryGateway$Answer" "values" "[I", Cond.fieldLink RX0 19 "QueryGateway$Answer" "plan" "LQueryGateway$Plan;", Cond.fieldLink RX0 23 "QueryGateway$Answer" "entities" "[I", Cond.fieldLink RX0 9 "QueryGateway$Answer" "graph" "LQueryGateway$Graph;", Cond.fieldLink RX0 30 "QueryGateway$Answer" "missing" "[Z", Cond.methodLink RX0 54 yX3_size]
def wsX4_faults_r6 : List Cond := [Cond.methodLink RX0 66 yX3_aboveOf, Cond.methodLink RX0 48 yX3_has, Cond.methodLink RX0 69 yX2_serviceOf, Cond.methodLink RX0 77 yX3_slotAt, Cond.methodLink RX0 80 yX1_valueOf, Cond.instanceMethod yX1_valueOf, Cond.selects RX1 yX1_valueOf yX1_valueOf, Cond.code yX1_valueOf cX1_valueOf 3 (some .int), Cond.fieldLink RX1 25 "QueryGateway$Graph" "values" "[I", Cond.methodLink RX0 38 yX0_letMissingClimb, Cond.instanceMethod yX0_letMissingClimb, Cond.selects RX0 yX0_letMissingClimb yX0_letMissingClimb, Cond.code yX0_letMissingClimb cX0_letMissingClimb 3 none, Cond.fieldLink RX0 44 "QueryGateway$Answer" "allMissing" "Z", Cond.methodLink RX0 86 Lib.Math.min.name, Cond.methodLink RX0 91 yX1_isRequired, Cond.instanceMethod yX1_isRequired, Cond.selects RX1 yX1_isRequired yX1_isRequired, Cond.code yX1_isRequired cX1_isRequired 2 (some .boolean), Cond.fieldLink RX1 18 "QueryGateway$Graph" "required" "[Z", Cond.methodLink RX0 41 yX0_letMissingFall, Cond.instanceMethod yX0_letMissingFall, Cond.selects RX0 yX0_letMissingFall yX0_letMissingFall, Cond.code yX0_letMissingFall cX0_letMissingFall 3 none]
def wsX4_faults_r7 : List Cond := [Cond.methodLink RX4 157 yX0_countFaults, Cond.instanceMethod yX0_countFaults, Cond.selects RX0 yX0_countFaults yX0_countFaults, Cond.code yX0_countFaults cX0_countFaults 3 (some .int)]
def wsX4_faults : List Cond := .code yX4_faults cX4_faults 2 (some .int) :: ((wsX4_faults_r1 ++ (wsX4_faults_r2 ++ (wsX4_faults_r3 ++ (wsX4_faults_r4 ++ (wsX4_faults_r5 ++ (wsX4_faults_r6 ++ wsX4_faults_r7)))))) ++ wsX40 ++ wsX20 ++ wsX30 ++ wsX10 ++ wsX00 ++ (vx_atS RX4 56 "java/lang/IllegalArgumentException" ["java/lang/RuntimeException", "java/lang/Exception"]).filter goodWord ++ (vx_atS RX4 67 "java/lang/IllegalStateException" ["java/lang/RuntimeException", "java/lang/Exception"]).filter goodWord)
def wsX4_loaded_r1 : List Cond := [Cond.classLink RX4 52 "java/lang/IllegalArgumentException", Cond.initialized "java/lang/IllegalArgumentException", Cond.classLink RX4 63 "java/lang/IllegalStateException", Cond.initialized "java/lang/IllegalStateException", Cond.fieldLink RX4 37 "QueryGateway" "answer" "LQueryGateway$Answer;", Cond.fieldLink RX4 20 "QueryGateway" "graph" "LQueryGateway$Graph;", Cond.methodLink RX4 90 yX4_checkKey, Cond.static yX4_checkKey, Cond.initialized RX4, Cond.code yX4_checkKey cX4_checkKey 1 none, Cond.methodLink RX4 185 yX4_isKey, Cond.static yX4_isKey, Cond.code yX4_isKey cX4_isKey 1 (some .boolean), Cond.methodLink RX4 110 yX4_checkNode, Cond.instanceMethod yX4_checkNode, Cond.selects RX4 yX4_checkNode yX4_checkNode, Cond.code yX4_checkNode cX4_checkNode 2 none, Cond.classLink RX4 190 "java/lang/IndexOutOfBoundsException", Cond.initialized "java/lang/IndexOutOfBoundsException", Cond.fieldLink RX4 24 "QueryGateway" "query" "LQueryGateway$Query;", Cond.methodLink RX4 195 yX3_has, Cond.instanceMethod yX3_has, Cond.selects RX3 yX3_has yX3_has, Cond.initialized RX3]
def wsX4_loaded_r2 : List Cond := [Cond.code yX3_has cX3_has 2 (some .boolean), Cond.fieldLink RX3 18 "QueryGateway$Query" "count" "I", Cond.methodLink RX4 113 yX4_typeAt, Cond.instanceMethod yX4_typeAt, Cond.selects RX4 yX4_typeAt yX4_typeAt, Cond.code yX4_typeAt cX4_typeAt 2 (some .int), Cond.methodLink RX4 205 yX3_type, Cond.instanceMethod yX3_type, Cond.selects RX3 yX3_type yX3_type, Cond.code yX3_type cX3_type 1 (some .int), Cond.fieldLink RX3 22 "QueryGateway$Query" "type" "I", Cond.methodLink RX4 129 yX3_slotAt, Cond.instanceMethod yX3_slotAt, Cond.selects RX3 yX3_slotAt yX3_slotAt, Cond.code yX3_slotAt cX3_slotAt 2 (some .int), Cond.fieldLink RX3 15 "QueryGateway$Query" "slots" "[I", Cond.methodLink RX3 25 yX3_has, Cond.methodLink RX4 208 yX1_leadsOf, Cond.instanceMethod yX1_leadsOf, Cond.selects RX1 yX1_leadsOf yX1_leadsOf, Cond.initialized RX1, Cond.code yX1_leadsOf cX1_leadsOf 2 (some .int), Cond.fieldLink RX1 15 "QueryGateway$Graph" "leads" "[I", Cond.static yX4_isSlot]
def wsX4_loaded_r3 : List Cond := [Cond.code yX4_isSlot cX4_isSlot 1 (some .boolean), Cond.methodLink RX4 132 yX4_checkPlan, Cond.instanceMethod yX4_checkPlan, Cond.selects RX4 yX4_checkPlan yX4_checkPlan, Cond.code yX4_checkPlan cX4_checkPlan 1 none, Cond.fieldLink RX4 28 "QueryGateway" "plan" "LQueryGateway$Plan;", Cond.methodLink RX4 200 yX2_find, Cond.instanceMethod yX2_find, Cond.selects RX2 yX2_find yX2_find, Cond.initialized RX2, Cond.code yX2_find cX2_find 1 (some .boolean), Cond.fieldLink RX2 32 "QueryGateway$Plan" "known" "Z", Cond.fieldLink RX2 40 "QueryGateway$Plan" "there" "Z", Cond.fieldLink RX2 50 "QueryGateway$Plan" "length" "I", Cond.methodLink RX2 36 yX2_openChoices, Cond.instanceMethod yX2_openChoices, Cond.selects RX2 yX2_openChoices yX2_openChoices, Cond.code yX2_openChoices cX2_openChoices 3 (some .boolean), Cond.fieldLink RX2 15 "QueryGateway$Plan" "query" "LQueryGateway$Query;", Cond.methodLink RX2 67 Lib.Math.min.name, Cond.static Lib.Math.min.name, Cond.initialized "java/lang/Math", Cond.code Lib.Math.min.name Lib.Math.min.code 2 (some .int), Cond.fieldLink RX2 72 "QueryGateway$Plan" "count" "I"]
def wsX4_loaded_r4 : List Cond := [Cond.fieldLink RX2 19 "QueryGateway$Plan" "places" "[I", Cond.fieldLink RX2 23 "QueryGateway$Plan" "choices" "[I", Cond.fieldLink RX2 9 "QueryGateway$Plan" "graph" "LQueryGateway$Graph;", Cond.methodLink RX2 63 yX3_size, Cond.instanceMethod yX3_size, Cond.selects RX3 yX3_size yX3_size, Cond.code yX3_size cX3_size 1 (some .int), Cond.methodLink RX2 75 yX3_aboveOf, Cond.instanceMethod yX3_aboveOf, Cond.selects RX3 yX3_aboveOf yX3_aboveOf, Cond.code yX3_aboveOf cX3_aboveOf 2 (some .int), Cond.fieldLink RX3 9 "QueryGateway$Query" "above" "[I", Cond.methodLink RX2 79 yX3_slotAt, Cond.methodLink RX2 82 yX1_ownersOf, Cond.instanceMethod yX1_ownersOf, Cond.selects RX1 yX1_ownersOf yX1_ownersOf, Cond.code yX1_ownersOf cX1_ownersOf 2 (some .int), Cond.fieldLink RX1 22 "QueryGateway$Graph" "owners" "[I", Cond.methodLink RX2 43 yX2_countHopsBelow, Cond.instanceMethod yX2_countHopsBelow, Cond.selects RX2 yX2_countHopsBelow yX2_countHopsBelow, Cond.code yX2_countHopsBelow cX2_countHopsBelow 3 none, Cond.fieldLink RX2 26 "QueryGateway$Plan" "hopsBelow" "[I", Cond.methodLink RX2 46 yX2_hopsAt]
def wsX4_loaded_r5 : List Cond := [Cond.instanceMethod yX2_hopsAt, Cond.selects RX2 yX2_hopsAt yX2_hopsAt, Cond.code yX2_hopsAt cX2_hopsAt 6 (some .int), Cond.static yX4_bit, Cond.code yX4_bit cX4_bit 1 (some .int), Cond.methodLink RX2 93 yJ6_bitCount_0f7a4, Cond.static yJ6_bitCount_0f7a4, Cond.initialized RJ6, Cond.code yJ6_bitCount_0f7a4 cJ6_bitCount_0f7a4 1 (some .int), Cond.constant RJ6 265 (1431655765), Cond.constant RJ6 266 (858993459), Cond.constant RJ6 267 (252645135), Cond.methodLink RX2 98 yX2_hopsUnder, Cond.instanceMethod yX2_hopsUnder, Cond.selects RX2 yX2_hopsUnder yX2_hopsUnder, Cond.code yX2_hopsUnder cX2_hopsUnder 7 (some .int), Cond.methodLink RX2 54 yX2_chooseServices, Cond.instanceMethod yX2_chooseServices, Cond.selects RX2 yX2_chooseServices yX2_chooseServices, Cond.code yX2_chooseServices cX2_chooseServices 7 none, Cond.fieldLink RX2 29 "QueryGateway$Plan" "services" "[I", Cond.methodLink RX2 87 yX2_serviceOf, Cond.instanceMethod yX2_serviceOf, Cond.selects RX2 yX2_serviceOf yX2_serviceOf]
def wsX4_loaded_r6 : List Cond := [Cond.code yX2_serviceOf cX2_serviceOf 2 (some .int), Cond.methodLink RX2 57 yX3_has, Cond.methodLink RX4 144 yX1_failures, Cond.instanceMethod yX1_failures, Cond.selects RX1 yX1_failures yX1_failures, Cond.code yX1_failures cX1_failures 1 (some .int), Cond.fieldLink RX1 61 "QueryGateway$Graph" "failed" "I", Cond.methodLink RX4 147 yX0_read, Cond.instanceMethod yX0_read, Cond.selects RX0 yX0_read yX0_read, Cond.initialized RX0, Cond.code yX0_read cX0_read 3 none, Cond.methodLink RX0 34 yX0_readValues, Cond.instanceMethod yX0_readValues, Cond.selects RX0 yX0_readValues yX0_readValues, Cond.code yX0_readValues cX0_readValues 7 none, Cond.fieldLink RX0 15 "QueryGateway$Answer" "query" "LQueryGateway$Query;", Cond.fieldLink RX0 27 "QueryGateway$Answer" "values" "[I", Cond.fieldLink RX0 19 "QueryGateway$Answer" "plan" "LQueryGateway$Plan;", Cond.fieldLink RX0 23 "QueryGateway$Answer" "entities" "[I", Cond.fieldLink RX0 9 "QueryGateway$Answer" "graph" "LQueryGateway$Graph;", Cond.fieldLink RX0 30 "QueryGateway$Answer" "missing" "[Z", Cond.methodLink RX0 54 yX3_size, Cond.methodLink RX0 66 yX3_aboveOf]
def wsX4_loaded_r7 : List Cond := [Cond.methodLink RX0 48 yX3_has, Cond.methodLink RX0 69 yX2_serviceOf, Cond.methodLink RX0 77 yX3_slotAt, Cond.methodLink RX0 80 yX1_valueOf, Cond.instanceMethod yX1_valueOf, Cond.selects RX1 yX1_valueOf yX1_valueOf, Cond.code yX1_valueOf cX1_valueOf 3 (some .int), Cond.fieldLink RX1 25 "QueryGateway$Graph" "values" "[I", Cond.methodLink RX0 38 yX0_letMissingClimb, Cond.instanceMethod yX0_letMissingClimb, Cond.selects RX0 yX0_letMissingClimb yX0_letMissingClimb, Cond.code yX0_letMissingClimb cX0_letMissingClimb 3 none, Cond.fieldLink RX0 44 "QueryGateway$Answer" "allMissing" "Z", Cond.methodLink RX0 86 Lib.Math.min.name, Cond.methodLink RX0 91 yX1_isRequired, Cond.instanceMethod yX1_isRequired, Cond.selects RX1 yX1_isRequired yX1_isRequired, Cond.code yX1_isRequired cX1_isRequired 2 (some .boolean), Cond.fieldLink RX1 18 "QueryGateway$Graph" "required" "[Z", Cond.methodLink RX0 41 yX0_letMissingFall, Cond.instanceMethod yX0_letMissingFall, Cond.selects RX0 yX0_letMissingFall yX0_letMissingFall, Cond.code yX0_letMissingFall cX0_letMissingFall 3 none, Cond.methodLink RX4 150 yX0_told]
def wsX4_loaded_r8 : List Cond := [Cond.instanceMethod yX0_told, Cond.selects RX0 yX0_told yX0_told, Cond.code yX0_told cX0_told 2 (some .int), Cond.methodLink RX4 141 yX4_bit, Cond.methodLink RX4 164 yJ6_bitCount_0f7a4]
def wsX4_loaded : List Cond := .code yX4_loaded cX4_loaded 6 (some .int) :: ((wsX4_loaded_r1 ++ (wsX4_loaded_r2 ++ (wsX4_loaded_r3 ++ (wsX4_loaded_r4 ++ (wsX4_loaded_r5 ++ (wsX4_loaded_r6 ++ (wsX4_loaded_r7 ++ wsX4_loaded_r8))))))) ++ wsX40 ++ wsX30 ++ wsX10 ++ wsX20 ++ wsX00 ++ (vx_atS RX4 56 "java/lang/IllegalArgumentException" ["java/lang/RuntimeException", "java/lang/Exception"]).filter goodWord ++ (vx_atS RX4 67 "java/lang/IllegalStateException" ["java/lang/RuntimeException", "java/lang/Exception"]).filter goodWord ++ (vx_atS RX4 194 "java/lang/IndexOutOfBoundsException" ["java/lang/RuntimeException", "java/lang/Exception"]).filter goodWord)
def wsX4_harmed_r1 : List Cond := [Cond.fieldLink RX4 37 "QueryGateway" "answer" "LQueryGateway$Answer;", Cond.fieldLink RX4 20 "QueryGateway" "graph" "LQueryGateway$Graph;", Cond.fieldLink RX4 41 "QueryGateway" "unharmed" "LQueryGateway$Answer;", Cond.methodLink RX4 132 yX4_checkPlan, Cond.instanceMethod yX4_checkPlan, Cond.selects RX4 yX4_checkPlan yX4_checkPlan, Cond.initialized RX4, Cond.code yX4_checkPlan cX4_checkPlan 1 none, Cond.classLink RX4 63 "java/lang/IllegalStateException", Cond.initialized "java/lang/IllegalStateException", Cond.fieldLink RX4 28 "QueryGateway" "plan" "LQueryGateway$Plan;", Cond.methodLink RX4 200 yX2_find, Cond.instanceMethod yX2_find, Cond.selects RX2 yX2_find yX2_find, Cond.initialized RX2, Cond.code yX2_find cX2_find 1 (some .boolean), Cond.fieldLink RX2 32 "QueryGateway$Plan" "known" "Z", Cond.fieldLink RX2 40 "QueryGateway$Plan" "there" "Z", Cond.fieldLink RX2 50 "QueryGateway$Plan" "length" "I", Cond.methodLink RX2 36 yX2_openChoices, Cond.instanceMethod yX2_openChoices, Cond.selects RX2 yX2_openChoices yX2_openChoices, Cond.code yX2_openChoices cX2_openChoices 3 (some .boolean), Cond.fieldLink RX2 15 "QueryGateway$Plan" "query" "LQueryGateway$Query;"]
def wsX4_harmed_r2 : List Cond := [Cond.methodLink RX2 67 Lib.Math.min.name, Cond.static Lib.Math.min.name, Cond.initialized "java/lang/Math", Cond.code Lib.Math.min.name Lib.Math.min.code 2 (some .int), Cond.fieldLink RX2 72 "QueryGateway$Plan" "count" "I", Cond.fieldLink RX2 19 "QueryGateway$Plan" "places" "[I", Cond.fieldLink RX2 23 "QueryGateway$Plan" "choices" "[I", Cond.fieldLink RX2 9 "QueryGateway$Plan" "graph" "LQueryGateway$Graph;", Cond.methodLink RX2 63 yX3_size, Cond.instanceMethod yX3_size, Cond.selects RX3 yX3_size yX3_size, Cond.initialized RX3, Cond.code yX3_size cX3_size 1 (some .int), Cond.fieldLink RX3 18 "QueryGateway$Query" "count" "I", Cond.methodLink RX2 75 yX3_aboveOf, Cond.instanceMethod yX3_aboveOf, Cond.selects RX3 yX3_aboveOf yX3_aboveOf, Cond.code yX3_aboveOf cX3_aboveOf 2 (some .int), Cond.fieldLink RX3 9 "QueryGateway$Query" "above" "[I", Cond.methodLink RX3 25 yX3_has, Cond.instanceMethod yX3_has, Cond.selects RX3 yX3_has yX3_has, Cond.code yX3_has cX3_has 2 (some .boolean), Cond.methodLink RX2 79 yX3_slotAt]
def wsX4_harmed_r3 : List Cond := [Cond.instanceMethod yX3_slotAt, Cond.selects RX3 yX3_slotAt yX3_slotAt, Cond.code yX3_slotAt cX3_slotAt 2 (some .int), Cond.fieldLink RX3 15 "QueryGateway$Query" "slots" "[I", Cond.methodLink RX2 82 yX1_ownersOf, Cond.instanceMethod yX1_ownersOf, Cond.selects RX1 yX1_ownersOf yX1_ownersOf, Cond.initialized RX1, Cond.code yX1_ownersOf cX1_ownersOf 2 (some .int), Cond.fieldLink RX1 22 "QueryGateway$Graph" "owners" "[I", Cond.static yX4_isSlot, Cond.code yX4_isSlot cX4_isSlot 1 (some .boolean), Cond.methodLink RX2 43 yX2_countHopsBelow, Cond.instanceMethod yX2_countHopsBelow, Cond.selects RX2 yX2_countHopsBelow yX2_countHopsBelow, Cond.code yX2_countHopsBelow cX2_countHopsBelow 3 none, Cond.fieldLink RX2 26 "QueryGateway$Plan" "hopsBelow" "[I", Cond.methodLink RX2 46 yX2_hopsAt, Cond.instanceMethod yX2_hopsAt, Cond.selects RX2 yX2_hopsAt yX2_hopsAt, Cond.code yX2_hopsAt cX2_hopsAt 6 (some .int), Cond.static yX4_bit, Cond.code yX4_bit cX4_bit 1 (some .int), Cond.methodLink RX2 93 yJ6_bitCount_0f7a4]
def wsX4_harmed_r4 : List Cond := [Cond.static yJ6_bitCount_0f7a4, Cond.initialized RJ6, Cond.code yJ6_bitCount_0f7a4 cJ6_bitCount_0f7a4 1 (some .int), Cond.constant RJ6 265 (1431655765), Cond.constant RJ6 266 (858993459), Cond.constant RJ6 267 (252645135), Cond.methodLink RX2 98 yX2_hopsUnder, Cond.instanceMethod yX2_hopsUnder, Cond.selects RX2 yX2_hopsUnder yX2_hopsUnder, Cond.code yX2_hopsUnder cX2_hopsUnder 7 (some .int), Cond.methodLink RX2 54 yX2_chooseServices, Cond.instanceMethod yX2_chooseServices, Cond.selects RX2 yX2_chooseServices yX2_chooseServices, Cond.code yX2_chooseServices cX2_chooseServices 7 none, Cond.fieldLink RX2 29 "QueryGateway$Plan" "services" "[I", Cond.methodLink RX2 87 yX2_serviceOf, Cond.instanceMethod yX2_serviceOf, Cond.selects RX2 yX2_serviceOf yX2_serviceOf, Cond.code yX2_serviceOf cX2_serviceOf 2 (some .int), Cond.methodLink RX2 57 yX3_has, Cond.methodLink RX4 144 yX1_failures, Cond.instanceMethod yX1_failures, Cond.selects RX1 yX1_failures yX1_failures, Cond.code yX1_failures cX1_failures 1 (some .int)]
def wsX4_harmed_r5 : List Cond := [Cond.fieldLink RX1 61 "QueryGateway$Graph" "failed" "I", Cond.methodLink RX4 147 yX0_read, Cond.instanceMethod yX0_read, Cond.selects RX0 yX0_read yX0_read, Cond.initialized RX0, Cond.code yX0_read cX0_read 3 none, Cond.methodLink RX0 34 yX0_readValues, Cond.instanceMethod yX0_readValues, Cond.selects RX0 yX0_readValues yX0_readValues, Cond.code yX0_readValues cX0_readValues 7 none, Cond.fieldLink RX0 15 "QueryGateway$Answer" "query" "LQueryGateway$Query;", Cond.fieldLink RX0 27 "QueryGateway$Answer" "values" "[I", Cond.fieldLink RX0 19 "QueryGateway$Answer" "plan" "LQueryGateway$Plan;", Cond.fieldLink RX0 23 "QueryGateway$Answer" "entities" "[I", Cond.fieldLink RX0 9 "QueryGateway$Answer" "graph" "LQueryGateway$Graph;", Cond.fieldLink RX0 30 "QueryGateway$Answer" "missing" "[Z", Cond.methodLink RX0 54 yX3_size, Cond.methodLink RX0 66 yX3_aboveOf, Cond.methodLink RX0 48 yX3_has, Cond.methodLink RX0 69 yX2_serviceOf, Cond.methodLink RX0 77 yX3_slotAt, Cond.methodLink RX0 80 yX1_valueOf, Cond.instanceMethod yX1_valueOf, Cond.selects RX1 yX1_valueOf yX1_valueOf]
def wsX4_harmed_r6 : List Cond := [Cond.code yX1_valueOf cX1_valueOf 3 (some .int), Cond.fieldLink RX1 25 "QueryGateway$Graph" "values" "[I", Cond.static yX4_isKey, Cond.code yX4_isKey cX4_isKey 1 (some .boolean), Cond.methodLink RX0 38 yX0_letMissingClimb, Cond.instanceMethod yX0_letMissingClimb, Cond.selects RX0 yX0_letMissingClimb yX0_letMissingClimb, Cond.code yX0_letMissingClimb cX0_letMissingClimb 3 none, Cond.fieldLink RX0 44 "QueryGateway$Answer" "allMissing" "Z", Cond.methodLink RX0 86 Lib.Math.min.name, Cond.methodLink RX0 91 yX1_isRequired, Cond.instanceMethod yX1_isRequired, Cond.selects RX1 yX1_isRequired yX1_isRequired, Cond.code yX1_isRequired cX1_isRequired 2 (some .boolean), Cond.fieldLink RX1 18 "QueryGateway$Graph" "required" "[Z", Cond.methodLink RX0 41 yX0_letMissingFall, Cond.instanceMethod yX0_letMissingFall, Cond.selects RX0 yX0_letMissingFall yX0_letMissingFall, Cond.code yX0_letMissingFall cX0_letMissingFall 3 none, Cond.methodLink RX4 169 yX0_differsFrom, Cond.instanceMethod yX0_differsFrom, Cond.selects RX0 yX0_differsFrom yX0_differsFrom, Cond.code yX0_differsFrom cX0_differsFrom 4 (some .boolean), Cond.methodLink RX0 58 yX0_isAllMissing]
def wsX4_harmed_r7 : List Cond := [Cond.instanceMethod yX0_isAllMissing, Cond.selects RX0 yX0_isAllMissing yX0_isAllMissing, Cond.code yX0_isAllMissing cX0_isAllMissing 1 (some .boolean), Cond.methodLink RX0 62 yX0_told, Cond.instanceMethod yX0_told, Cond.selects RX0 yX0_told yX0_told, Cond.code yX0_told cX0_told 2 (some .int)]
def wsX4_harmed : List Cond := .code yX4_harmed cX4_harmed 3 (some .int) :: ((wsX4_harmed_r1 ++ (wsX4_harmed_r2 ++ (wsX4_harmed_r3 ++ (wsX4_harmed_r4 ++ (wsX4_harmed_r5 ++ (wsX4_harmed_r6 ++ wsX4_harmed_r7)))))) ++ wsX40 ++ wsX20 ++ wsX30 ++ wsX10 ++ wsX00 ++ (vx_atS RX4 67 "java/lang/IllegalStateException" ["java/lang/RuntimeException", "java/lang/Exception"]).filter goodWord)
def wsX4_least_r1 : List Cond := [Cond.classLink RX4 173 "java/util/NoSuchElementException", Cond.initialized "java/util/NoSuchElementException", Cond.fieldLink RX4 37 "QueryGateway" "answer" "LQueryGateway$Answer;", Cond.fieldLink RX4 20 "QueryGateway" "graph" "LQueryGateway$Graph;", Cond.methodLink RX4 110 yX4_checkNode, Cond.instanceMethod yX4_checkNode, Cond.selects RX4 yX4_checkNode yX4_checkNode, Cond.initialized RX4, Cond.code yX4_checkNode cX4_checkNode 2 none, Cond.classLink RX4 190 "java/lang/IndexOutOfBoundsException", Cond.initialized "java/lang/IndexOutOfBoundsException", Cond.fieldLink RX4 24 "QueryGateway" "query" "LQueryGateway$Query;", Cond.methodLink RX4 195 yX3_has, Cond.instanceMethod yX3_has, Cond.selects RX3 yX3_has yX3_has, Cond.initialized RX3, Cond.code yX3_has cX3_has 2 (some .boolean), Cond.fieldLink RX3 18 "QueryGateway$Query" "count" "I", Cond.methodLink RX4 132 yX4_checkPlan, Cond.instanceMethod yX4_checkPlan, Cond.selects RX4 yX4_checkPlan yX4_checkPlan, Cond.code yX4_checkPlan cX4_checkPlan 1 none, Cond.classLink RX4 63 "java/lang/IllegalStateException", Cond.initialized "java/lang/IllegalStateException"]
def wsX4_least_r2 : List Cond := [Cond.fieldLink RX4 28 "QueryGateway" "plan" "LQueryGateway$Plan;", Cond.methodLink RX4 200 yX2_find, Cond.instanceMethod yX2_find, Cond.selects RX2 yX2_find yX2_find, Cond.initialized RX2, Cond.code yX2_find cX2_find 1 (some .boolean), Cond.fieldLink RX2 32 "QueryGateway$Plan" "known" "Z", Cond.fieldLink RX2 40 "QueryGateway$Plan" "there" "Z", Cond.fieldLink RX2 50 "QueryGateway$Plan" "length" "I", Cond.methodLink RX2 36 yX2_openChoices, Cond.instanceMethod yX2_openChoices, Cond.selects RX2 yX2_openChoices yX2_openChoices, Cond.code yX2_openChoices cX2_openChoices 3 (some .boolean), Cond.fieldLink RX2 15 "QueryGateway$Plan" "query" "LQueryGateway$Query;", Cond.methodLink RX2 67 Lib.Math.min.name, Cond.static Lib.Math.min.name, Cond.initialized "java/lang/Math", Cond.code Lib.Math.min.name Lib.Math.min.code 2 (some .int), Cond.fieldLink RX2 72 "QueryGateway$Plan" "count" "I", Cond.fieldLink RX2 19 "QueryGateway$Plan" "places" "[I", Cond.fieldLink RX2 23 "QueryGateway$Plan" "choices" "[I", Cond.fieldLink RX2 9 "QueryGateway$Plan" "graph" "LQueryGateway$Graph;", Cond.methodLink RX2 63 yX3_size, Cond.instanceMethod yX3_size]
def wsX4_least_r3 : List Cond := [Cond.selects RX3 yX3_size yX3_size, Cond.code yX3_size cX3_size 1 (some .int), Cond.methodLink RX2 75 yX3_aboveOf, Cond.instanceMethod yX3_aboveOf, Cond.selects RX3 yX3_aboveOf yX3_aboveOf, Cond.code yX3_aboveOf cX3_aboveOf 2 (some .int), Cond.fieldLink RX3 9 "QueryGateway$Query" "above" "[I", Cond.methodLink RX3 25 yX3_has, Cond.methodLink RX2 79 yX3_slotAt, Cond.instanceMethod yX3_slotAt, Cond.selects RX3 yX3_slotAt yX3_slotAt, Cond.code yX3_slotAt cX3_slotAt 2 (some .int), Cond.fieldLink RX3 15 "QueryGateway$Query" "slots" "[I", Cond.methodLink RX2 82 yX1_ownersOf, Cond.instanceMethod yX1_ownersOf, Cond.selects RX1 yX1_ownersOf yX1_ownersOf, Cond.initialized RX1, Cond.code yX1_ownersOf cX1_ownersOf 2 (some .int), Cond.fieldLink RX1 22 "QueryGateway$Graph" "owners" "[I", Cond.static yX4_isSlot, Cond.code yX4_isSlot cX4_isSlot 1 (some .boolean), Cond.methodLink RX2 43 yX2_countHopsBelow, Cond.instanceMethod yX2_countHopsBelow, Cond.selects RX2 yX2_countHopsBelow yX2_countHopsBelow]
def wsX4_least_r4 : List Cond := [Cond.code yX2_countHopsBelow cX2_countHopsBelow 3 none, Cond.fieldLink RX2 26 "QueryGateway$Plan" "hopsBelow" "[I", Cond.methodLink RX2 46 yX2_hopsAt, Cond.instanceMethod yX2_hopsAt, Cond.selects RX2 yX2_hopsAt yX2_hopsAt, Cond.code yX2_hopsAt cX2_hopsAt 6 (some .int), Cond.static yX4_bit, Cond.code yX4_bit cX4_bit 1 (some .int), Cond.methodLink RX2 93 yJ6_bitCount_0f7a4, Cond.static yJ6_bitCount_0f7a4, Cond.initialized RJ6, Cond.code yJ6_bitCount_0f7a4 cJ6_bitCount_0f7a4 1 (some .int), Cond.constant RJ6 265 (1431655765), Cond.constant RJ6 266 (858993459), Cond.constant RJ6 267 (252645135), Cond.methodLink RX2 98 yX2_hopsUnder, Cond.instanceMethod yX2_hopsUnder, Cond.selects RX2 yX2_hopsUnder yX2_hopsUnder, Cond.code yX2_hopsUnder cX2_hopsUnder 7 (some .int), Cond.methodLink RX2 54 yX2_chooseServices, Cond.instanceMethod yX2_chooseServices, Cond.selects RX2 yX2_chooseServices yX2_chooseServices, Cond.code yX2_chooseServices cX2_chooseServices 7 none, Cond.fieldLink RX2 29 "QueryGateway$Plan" "services" "[I"]
def wsX4_least_r5 : List Cond := [Cond.methodLink RX2 87 yX2_serviceOf, Cond.instanceMethod yX2_serviceOf, Cond.selects RX2 yX2_serviceOf yX2_serviceOf, Cond.code yX2_serviceOf cX2_serviceOf 2 (some .int), Cond.methodLink RX2 57 yX3_has, Cond.methodLink RX4 144 yX1_failures, Cond.instanceMethod yX1_failures, Cond.selects RX1 yX1_failures yX1_failures, Cond.code yX1_failures cX1_failures 1 (some .int), Cond.fieldLink RX1 61 "QueryGateway$Graph" "failed" "I", Cond.methodLink RX4 147 yX0_read, Cond.instanceMethod yX0_read, Cond.selects RX0 yX0_read yX0_read, Cond.initialized RX0, Cond.code yX0_read cX0_read 3 none, Cond.methodLink RX0 34 yX0_readValues, Cond.instanceMethod yX0_readValues, Cond.selects RX0 yX0_readValues yX0_readValues, Cond.code yX0_readValues cX0_readValues 7 none, Cond.fieldLink RX0 15 "QueryGateway$Answer" "query" "LQueryGateway$Query;", Cond.fieldLink RX0 27 "QueryGateway$Answer" "values" "[I", Cond.fieldLink RX0 19 "QueryGateway$Answer" "plan" "LQueryGateway$Plan;", Cond.fieldLink RX0 23 "QueryGateway$Answer" "entities" "[I", Cond.fieldLink RX0 9 "QueryGateway$Answer" "graph" "LQueryGateway$Graph;"]
def wsX4_least_r6 : List Cond := [Cond.fieldLink RX0 30 "QueryGateway$Answer" "missing" "[Z", Cond.methodLink RX0 54 yX3_size, Cond.methodLink RX0 66 yX3_aboveOf, Cond.methodLink RX0 48 yX3_has, Cond.methodLink RX0 69 yX2_serviceOf, Cond.methodLink RX0 77 yX3_slotAt, Cond.methodLink RX0 80 yX1_valueOf, Cond.instanceMethod yX1_valueOf, Cond.selects RX1 yX1_valueOf yX1_valueOf, Cond.code yX1_valueOf cX1_valueOf 3 (some .int), Cond.fieldLink RX1 25 "QueryGateway$Graph" "values" "[I", Cond.static yX4_isKey, Cond.code yX4_isKey cX4_isKey 1 (some .boolean), Cond.methodLink RX0 38 yX0_letMissingClimb, Cond.instanceMethod yX0_letMissingClimb, Cond.selects RX0 yX0_letMissingClimb yX0_letMissingClimb, Cond.code yX0_letMissingClimb cX0_letMissingClimb 3 none, Cond.fieldLink RX0 44 "QueryGateway$Answer" "allMissing" "Z", Cond.methodLink RX0 86 Lib.Math.min.name, Cond.methodLink RX0 91 yX1_isRequired, Cond.instanceMethod yX1_isRequired, Cond.selects RX1 yX1_isRequired yX1_isRequired, Cond.code yX1_isRequired cX1_isRequired 2 (some .boolean), Cond.fieldLink RX1 18 "QueryGateway$Graph" "required" "[Z"]
def wsX4_least_r7 : List Cond := [Cond.methodLink RX0 41 yX0_letMissingFall, Cond.instanceMethod yX0_letMissingFall, Cond.selects RX0 yX0_letMissingFall yX0_letMissingFall, Cond.code yX0_letMissingFall cX0_letMissingFall 3 none, Cond.methodLink RX4 150 yX0_told, Cond.instanceMethod yX0_told, Cond.selects RX0 yX0_told yX0_told, Cond.code yX0_told cX0_told 2 (some .int)]
def wsX4_least : List Cond := .code yX4_least cX4_least 6 (some .int) :: ((wsX4_least_r1 ++ (wsX4_least_r2 ++ (wsX4_least_r3 ++ (wsX4_least_r4 ++ (wsX4_least_r5 ++ (wsX4_least_r6 ++ wsX4_least_r7)))))) ++ wsX40 ++ wsX30 ++ wsX20 ++ wsX10 ++ wsX00 ++ (vx_atS RX4 177 "java/util/NoSuchElementException" ["java/lang/RuntimeException", "java/lang/Exception"]).filter goodWord ++ (vx_atS RX4 194 "java/lang/IndexOutOfBoundsException" ["java/lang/RuntimeException", "java/lang/Exception"]).filter goodWord ++ (vx_atS RX4 67 "java/lang/IllegalStateException" ["java/lang/RuntimeException", "java/lang/Exception"]).filter goodWord)
def wsX5_init : List Cond := .code yX5_init cX5_init 1 none :: ([.methodLink RX5 1 objectInit, .instanceMethod objectInit, .code objectInit ⟨#[0xb1]⟩ 1 none, .arrayClass .int, .fieldLink RX5 7 "QueryGatewayModel" "fields" "[I", .fieldLink RX5 13 "QueryGatewayModel" "leads" "[I", .arrayClass .boolean, .fieldLink RX5 16 "QueryGatewayModel" "isRequired" "[Z", .fieldLink RX5 20 "QueryGatewayModel" "owners" "[I", .fieldLink RX5 23 "QueryGatewayModel" "values" "[I", .fieldLink RX5 26 "QueryGatewayModel" "above" "[I", .fieldLink RX5 29 "QueryGatewayModel" "field" "[I", .fieldLink RX5 32 "QueryGatewayModel" "type" "[I", .fieldLink RX5 35 "QueryGatewayModel" "may" "[I", .fieldLink RX5 38 "QueryGatewayModel" "fewest" "[I", .fieldLink RX5 41 "QueryGatewayModel" "from" "[I", .fieldLink RX5 44 "QueryGatewayModel" "raw" "[I", .fieldLink RX5 47 "QueryGatewayModel" "isMissing" "[Z", .fieldLink RX5 50 "QueryGatewayModel" "told" "[I", .fieldLink RX5 53 "QueryGatewayModel" "other" "[I"] ++ wsX50)
def wsX5_thrown : List Cond := .code yX5_thrown cX5_thrown 1 (some .int) :: ([.fieldLink RX5 56 "QueryGatewayModel" "thrown" "I"] ++ wsX50)
def wsX5_in : List Cond := .code yX5_in cX5_in 3 (some .boolean) :: ([])
def wsX5_isType : List Cond := .code yX5_isType cX5_isType 1 (some .boolean) :: ([.methodLink RX5 60 yX5_in, .static yX5_in, .initialized RX5, .code yX5_in cX5_in 3 (some .boolean)])
def wsX5_isService : List Cond := .code yX5_isService cX5_isService 1 (some .boolean) :: ([.methodLink RX5 60 yX5_in, .static yX5_in, .initialized RX5, .code yX5_in cX5_in 3 (some .boolean)])
def wsX5_isKey : List Cond := .code yX5_isKey cX5_isKey 1 (some .boolean) :: ([.methodLink RX5 60 yX5_in, .static yX5_in, .initialized RX5, .code yX5_in cX5_in 3 (some .boolean)])
def wsX5_isField : List Cond := .code yX5_isField cX5_isField 3 (some .boolean) :: ([.fieldLink RX5 7 "QueryGatewayModel" "fields" "[I", .methodLink RX5 60 yX5_in, .static yX5_in, .initialized RX5, .code yX5_in cX5_in 3 (some .boolean)] ++ wsX50)
def wsX5_addField : List Cond := .code yX5_addField cX5_addField 5 (some .int) :: ([.fieldLink RX5 7 "QueryGatewayModel" "fields" "[I", .fieldLink RX5 56 "QueryGatewayModel" "thrown" "I", .fieldLink RX5 13 "QueryGatewayModel" "leads" "[I", .fieldLink RX5 16 "QueryGatewayModel" "isRequired" "[Z", .methodLink RX5 64 yX5_isType, .static yX5_isType, .initialized RX5, .code yX5_isType cX5_isType 1 (some .boolean), .methodLink RX5 60 yX5_in, .static yX5_in, .code yX5_in cX5_in 3 (some .boolean)] ++ wsX50)
def wsX5_own : List Cond := .code yX5_own cX5_own 7 (some .boolean) :: ([.fieldLink RX5 56 "QueryGatewayModel" "thrown" "I", .fieldLink RX5 20 "QueryGatewayModel" "owners" "[I", .methodLink RX5 68 yX5_isService, .static yX5_isService, .initialized RX5, .code yX5_isService cX5_isService 1 (some .boolean), .methodLink RX5 60 yX5_in, .static yX5_in, .code yX5_in cX5_in 3 (some .boolean), .methodLink RX5 64 yX5_isType, .static yX5_isType, .code yX5_isType cX5_isType 1 (some .boolean), .methodLink RX5 71 yX5_isField, .instanceMethod yX5_isField, .selects RX5 yX5_isField yX5_isField, .code yX5_isField cX5_isField 3 (some .boolean), .fieldLink RX5 7 "QueryGatewayModel" "fields" "[I"] ++ wsX50)
def wsX5_set : List Cond := .code yX5_set cX5_set 7 (some .int) :: ([.fieldLink RX5 56 "QueryGatewayModel" "thrown" "I", .fieldLink RX5 13 "QueryGatewayModel" "leads" "[I", .fieldLink RX5 23 "QueryGatewayModel" "values" "[I", .methodLink RX5 64 yX5_isType, .static yX5_isType, .initialized RX5, .code yX5_isType cX5_isType 1 (some .boolean), .methodLink RX5 60 yX5_in, .static yX5_in, .code yX5_in cX5_in 3 (some .boolean), .methodLink RX5 75 yX5_isKey, .static yX5_isKey, .code yX5_isKey cX5_isKey 1 (some .boolean), .methodLink RX5 71 yX5_isField, .instanceMethod yX5_isField, .selects RX5 yX5_isField yX5_isField, .code yX5_isField cX5_isField 3 (some .boolean), .fieldLink RX5 7 "QueryGatewayModel" "fields" "[I"] ++ wsX50)
def wsX5_fail : List Cond := .code yX5_fail cX5_fail 4 (some .boolean) :: ([.fieldLink RX5 56 "QueryGatewayModel" "thrown" "I", .fieldLink RX5 78 "QueryGatewayModel" "failed" "I", .methodLink RX5 68 yX5_isService, .static yX5_isService, .initialized RX5, .code yX5_isService cX5_isService 1 (some .boolean), .methodLink RX5 60 yX5_in, .static yX5_in, .code yX5_in cX5_in 3 (some .boolean)] ++ wsX50)
def wsX5_begin : List Cond := .code yX5_begin cX5_begin 3 (some .int) :: ([.fieldLink RX5 56 "QueryGatewayModel" "thrown" "I", .fieldLink RX5 81 "QueryGatewayModel" "nodes" "I", .fieldLink RX5 84 "QueryGatewayModel" "queryType" "I", .methodLink RX5 64 yX5_isType, .static yX5_isType, .initialized RX5, .code yX5_isType cX5_isType 1 (some .boolean), .methodLink RX5 60 yX5_in, .static yX5_in, .code yX5_in cX5_in 3 (some .boolean)] ++ wsX50)
def wsX5_isNode : List Cond := .code yX5_isNode cX5_isNode 2 (some .boolean) :: ([.fieldLink RX5 81 "QueryGatewayModel" "nodes" "I", .methodLink RX5 60 yX5_in, .static yX5_in, .initialized RX5, .code yX5_in cX5_in 3 (some .boolean)] ++ wsX50)
def wsX5_fieldOf : List Cond := .code yX5_fieldOf cX5_fieldOf 2 (some .int) :: ([.fieldLink RX5 32 "QueryGatewayModel" "type" "[I", .fieldLink RX5 29 "QueryGatewayModel" "field" "[I"] ++ wsX50)
def wsX5_node : List Cond := .code yX5_node cX5_node 7 (some .int) :: ([.fieldLink RX5 56 "QueryGatewayModel" "thrown" "I", .fieldLink RX5 84 "QueryGatewayModel" "queryType" "I", .fieldLink RX5 13 "QueryGatewayModel" "leads" "[I", .fieldLink RX5 81 "QueryGatewayModel" "nodes" "I", .fieldLink RX5 26 "QueryGatewayModel" "above" "[I", .fieldLink RX5 29 "QueryGatewayModel" "field" "[I", .fieldLink RX5 32 "QueryGatewayModel" "type" "[I", .methodLink RX5 87 yX5_isNode, .instanceMethod yX5_isNode, .selects RX5 yX5_isNode yX5_isNode, .initialized RX5, .code yX5_isNode cX5_isNode 2 (some .boolean), .methodLink RX5 60 yX5_in, .static yX5_in, .code yX5_in cX5_in 3 (some .boolean), .methodLink RX5 90 yX5_fieldOf, .instanceMethod yX5_fieldOf, .selects RX5 yX5_fieldOf yX5_fieldOf, .code yX5_fieldOf cX5_fieldOf 2 (some .int), .methodLink RX5 71 yX5_isField, .instanceMethod yX5_isField, .selects RX5 yX5_isField yX5_isField, .code yX5_isField cX5_isField 3 (some .boolean), .fieldLink RX5 7 "QueryGatewayModel" "fields" "[I"] ++ wsX50)
def wsX5_nodes : List Cond := .code yX5_nodes cX5_nodes 1 (some .int) :: ([.fieldLink RX5 56 "QueryGatewayModel" "thrown" "I", .fieldLink RX5 81 "QueryGatewayModel" "nodes" "I"] ++ wsX50)
def wsX5_typeOf : List Cond := .code yX5_typeOf cX5_typeOf 2 (some .int) :: ([.fieldLink RX5 56 "QueryGatewayModel" "thrown" "I", .fieldLink RX5 32 "QueryGatewayModel" "type" "[I", .methodLink RX5 87 yX5_isNode, .instanceMethod yX5_isNode, .selects RX5 yX5_isNode yX5_isNode, .initialized RX5, .code yX5_isNode cX5_isNode 2 (some .boolean), .fieldLink RX5 81 "QueryGatewayModel" "nodes" "I", .methodLink RX5 60 yX5_in, .static yX5_in, .code yX5_in cX5_in 3 (some .boolean)] ++ wsX50)
def wsX5_manyOf : List Cond := .code yX5_manyOf cX5_manyOf 3 (some .int) :: ([])
def wsX5_fewestBy : List Cond := .code yX5_fewestBy cX5_fewestBy 6 (some .int) :: ([.fieldLink RX5 35 "QueryGatewayModel" "may" "[I", .fieldLink RX5 38 "QueryGatewayModel" "fewest" "[I"] ++ wsX50)
def wsX5_hopsBelow : List Cond := .code yX5_hopsBelow cX5_hopsBelow 7 (some .int) :: ([.fieldLink RX5 81 "QueryGatewayModel" "nodes" "I", .fieldLink RX5 26 "QueryGatewayModel" "above" "[I", .methodLink RX5 94 yX5_manyOf, .static yX5_manyOf, .initialized RX5, .code yX5_manyOf cX5_manyOf 3 (some .int), .methodLink RX5 97 yX5_fewestBy, .instanceMethod yX5_fewestBy, .selects RX5 yX5_fewestBy yX5_fewestBy, .code yX5_fewestBy cX5_fewestBy 6 (some .int), .fieldLink RX5 35 "QueryGatewayModel" "may" "[I", .fieldLink RX5 38 "QueryGatewayModel" "fewest" "[I"] ++ wsX50)
def wsX5_tries : List Cond := .code yX5_tries cX5_tries 3 (some .int) :: ([.fieldLink RX5 81 "QueryGatewayModel" "nodes" "I", .fieldLink RX5 38 "QueryGatewayModel" "fewest" "[I", .methodLink RX5 101 yX5_hopsBelow, .instanceMethod yX5_hopsBelow, .selects RX5 yX5_hopsBelow yX5_hopsBelow, .initialized RX5, .code yX5_hopsBelow cX5_hopsBelow 7 (some .int), .fieldLink RX5 26 "QueryGatewayModel" "above" "[I", .methodLink RX5 94 yX5_manyOf, .static yX5_manyOf, .code yX5_manyOf cX5_manyOf 3 (some .int), .methodLink RX5 97 yX5_fewestBy, .instanceMethod yX5_fewestBy, .selects RX5 yX5_fewestBy yX5_fewestBy, .code yX5_fewestBy cX5_fewestBy 6 (some .int), .fieldLink RX5 35 "QueryGatewayModel" "may" "[I"] ++ wsX50)
def wsX5_hasPlan : List Cond := .code yX5_hasPlan cX5_hasPlan 3 (some .boolean) :: ([.fieldLink RX5 81 "QueryGatewayModel" "nodes" "I", .fieldLink RX5 35 "QueryGatewayModel" "may" "[I", .fieldLink RX5 20 "QueryGatewayModel" "owners" "[I", .methodLink RX5 90 yX5_fieldOf, .instanceMethod yX5_fieldOf, .selects RX5 yX5_fieldOf yX5_fieldOf, .initialized RX5, .code yX5_fieldOf cX5_fieldOf 2 (some .int), .fieldLink RX5 32 "QueryGatewayModel" "type" "[I", .fieldLink RX5 29 "QueryGatewayModel" "field" "[I"] ++ wsX50)
def wsX5_laysPlan : List Cond := .code yX5_laysPlan cX5_laysPlan 6 (some .int) :: ([.fieldLink RX5 81 "QueryGatewayModel" "nodes" "I", .fieldLink RX5 35 "QueryGatewayModel" "may" "[I", .fieldLink RX5 41 "QueryGatewayModel" "from" "[I", .methodLink RX5 104 yX5_tries, .instanceMethod yX5_tries, .selects RX5 yX5_tries yX5_tries, .initialized RX5, .code yX5_tries cX5_tries 3 (some .int), .fieldLink RX5 38 "QueryGatewayModel" "fewest" "[I", .methodLink RX5 101 yX5_hopsBelow, .instanceMethod yX5_hopsBelow, .selects RX5 yX5_hopsBelow yX5_hopsBelow, .code yX5_hopsBelow cX5_hopsBelow 7 (some .int), .fieldLink RX5 26 "QueryGatewayModel" "above" "[I", .methodLink RX5 94 yX5_manyOf, .static yX5_manyOf, .code yX5_manyOf cX5_manyOf 3 (some .int), .methodLink RX5 97 yX5_fewestBy, .instanceMethod yX5_fewestBy, .selects RX5 yX5_fewestBy yX5_fewestBy, .code yX5_fewestBy cX5_fewestBy 6 (some .int)] ++ wsX50)
def wsX5_hops_r1 : List Cond := [Cond.fieldLink RX5 56 "QueryGatewayModel" "thrown" "I", Cond.methodLink RX5 108 yX5_hasPlan, Cond.instanceMethod yX5_hasPlan, Cond.selects RX5 yX5_hasPlan yX5_hasPlan, Cond.initialized RX5, Cond.code yX5_hasPlan cX5_hasPlan 3 (some .boolean), Cond.fieldLink RX5 81 "QueryGatewayModel" "nodes" "I", Cond.fieldLink RX5 35 "QueryGatewayModel" "may" "[I", Cond.fieldLink RX5 20 "QueryGatewayModel" "owners" "[I", Cond.methodLink RX5 90 yX5_fieldOf, Cond.instanceMethod yX5_fieldOf, Cond.selects RX5 yX5_fieldOf yX5_fieldOf, Cond.code yX5_fieldOf cX5_fieldOf 2 (some .int), Cond.fieldLink RX5 32 "QueryGatewayModel" "type" "[I", Cond.fieldLink RX5 29 "QueryGatewayModel" "field" "[I", Cond.methodLink RX5 104 yX5_tries, Cond.instanceMethod yX5_tries, Cond.selects RX5 yX5_tries yX5_tries, Cond.code yX5_tries cX5_tries 3 (some .int), Cond.fieldLink RX5 38 "QueryGatewayModel" "fewest" "[I", Cond.methodLink RX5 101 yX5_hopsBelow, Cond.instanceMethod yX5_hopsBelow, Cond.selects RX5 yX5_hopsBelow yX5_hopsBelow, Cond.code yX5_hopsBelow cX5_hopsBelow 7 (some .int)]
def wsX5_hops_r2 : List Cond := [Cond.fieldLink RX5 26 "QueryGatewayModel" "above" "[I", Cond.methodLink RX5 94 yX5_manyOf, Cond.static yX5_manyOf, Cond.code yX5_manyOf cX5_manyOf 3 (some .int), Cond.methodLink RX5 97 yX5_fewestBy, Cond.instanceMethod yX5_fewestBy, Cond.selects RX5 yX5_fewestBy yX5_fewestBy, Cond.code yX5_fewestBy cX5_fewestBy 6 (some .int)]
def wsX5_hops : List Cond := .code yX5_hops cX5_hops 1 (some .int) :: ((wsX5_hops_r1 ++ wsX5_hops_r2) ++ wsX50)
def wsX5_takenFrom_r1 : List Cond := [Cond.fieldLink RX5 56 "QueryGatewayModel" "thrown" "I", Cond.fieldLink RX5 41 "QueryGatewayModel" "from" "[I", Cond.methodLink RX5 87 yX5_isNode, Cond.instanceMethod yX5_isNode, Cond.selects RX5 yX5_isNode yX5_isNode, Cond.initialized RX5, Cond.code yX5_isNode cX5_isNode 2 (some .boolean), Cond.fieldLink RX5 81 "QueryGatewayModel" "nodes" "I", Cond.methodLink RX5 60 yX5_in, Cond.static yX5_in, Cond.code yX5_in cX5_in 3 (some .boolean), Cond.methodLink RX5 108 yX5_hasPlan, Cond.instanceMethod yX5_hasPlan, Cond.selects RX5 yX5_hasPlan yX5_hasPlan, Cond.code yX5_hasPlan cX5_hasPlan 3 (some .boolean), Cond.fieldLink RX5 35 "QueryGatewayModel" "may" "[I", Cond.fieldLink RX5 20 "QueryGatewayModel" "owners" "[I", Cond.methodLink RX5 90 yX5_fieldOf, Cond.instanceMethod yX5_fieldOf, Cond.selects RX5 yX5_fieldOf yX5_fieldOf, Cond.code yX5_fieldOf cX5_fieldOf 2 (some .int), Cond.fieldLink RX5 32 "QueryGatewayModel" "type" "[I", Cond.fieldLink RX5 29 "QueryGatewayModel" "field" "[I", Cond.methodLink RX5 112 yX5_laysPlan]
def wsX5_takenFrom_r2 : List Cond := [Cond.instanceMethod yX5_laysPlan, Cond.selects RX5 yX5_laysPlan yX5_laysPlan, Cond.code yX5_laysPlan cX5_laysPlan 6 (some .int), Cond.methodLink RX5 104 yX5_tries, Cond.instanceMethod yX5_tries, Cond.selects RX5 yX5_tries yX5_tries, Cond.code yX5_tries cX5_tries 3 (some .int), Cond.fieldLink RX5 38 "QueryGatewayModel" "fewest" "[I", Cond.methodLink RX5 101 yX5_hopsBelow, Cond.instanceMethod yX5_hopsBelow, Cond.selects RX5 yX5_hopsBelow yX5_hopsBelow, Cond.code yX5_hopsBelow cX5_hopsBelow 7 (some .int), Cond.fieldLink RX5 26 "QueryGatewayModel" "above" "[I", Cond.methodLink RX5 94 yX5_manyOf, Cond.static yX5_manyOf, Cond.code yX5_manyOf cX5_manyOf 3 (some .int), Cond.methodLink RX5 97 yX5_fewestBy, Cond.instanceMethod yX5_fewestBy, Cond.selects RX5 yX5_fewestBy yX5_fewestBy, Cond.code yX5_fewestBy cX5_fewestBy 6 (some .int)]
def wsX5_takenFrom : List Cond := .code yX5_takenFrom cX5_takenFrom 2 (some .int) :: ((wsX5_takenFrom_r1 ++ wsX5_takenFrom_r2) ++ wsX50)
def wsX5_used_r1 : List Cond := [Cond.fieldLink RX5 56 "QueryGatewayModel" "thrown" "I", Cond.fieldLink RX5 81 "QueryGatewayModel" "nodes" "I", Cond.fieldLink RX5 41 "QueryGatewayModel" "from" "[I", Cond.methodLink RX5 108 yX5_hasPlan, Cond.instanceMethod yX5_hasPlan, Cond.selects RX5 yX5_hasPlan yX5_hasPlan, Cond.initialized RX5, Cond.code yX5_hasPlan cX5_hasPlan 3 (some .boolean), Cond.fieldLink RX5 35 "QueryGatewayModel" "may" "[I", Cond.fieldLink RX5 20 "QueryGatewayModel" "owners" "[I", Cond.methodLink RX5 90 yX5_fieldOf, Cond.instanceMethod yX5_fieldOf, Cond.selects RX5 yX5_fieldOf yX5_fieldOf, Cond.code yX5_fieldOf cX5_fieldOf 2 (some .int), Cond.fieldLink RX5 32 "QueryGatewayModel" "type" "[I", Cond.fieldLink RX5 29 "QueryGatewayModel" "field" "[I", Cond.methodLink RX5 112 yX5_laysPlan, Cond.instanceMethod yX5_laysPlan, Cond.selects RX5 yX5_laysPlan yX5_laysPlan, Cond.code yX5_laysPlan cX5_laysPlan 6 (some .int), Cond.methodLink RX5 104 yX5_tries, Cond.instanceMethod yX5_tries, Cond.selects RX5 yX5_tries yX5_tries, Cond.code yX5_tries cX5_tries 3 (some .int)]
def wsX5_used_r2 : List Cond := [Cond.fieldLink RX5 38 "QueryGatewayModel" "fewest" "[I", Cond.methodLink RX5 101 yX5_hopsBelow, Cond.instanceMethod yX5_hopsBelow, Cond.selects RX5 yX5_hopsBelow yX5_hopsBelow, Cond.code yX5_hopsBelow cX5_hopsBelow 7 (some .int), Cond.fieldLink RX5 26 "QueryGatewayModel" "above" "[I", Cond.methodLink RX5 94 yX5_manyOf, Cond.static yX5_manyOf, Cond.code yX5_manyOf cX5_manyOf 3 (some .int), Cond.methodLink RX5 97 yX5_fewestBy, Cond.instanceMethod yX5_fewestBy, Cond.selects RX5 yX5_fewestBy yX5_fewestBy, Cond.code yX5_fewestBy cX5_fewestBy 6 (some .int)]
def wsX5_used : List Cond := .code yX5_used cX5_used 3 (some .int) :: ((wsX5_used_r1 ++ wsX5_used_r2) ++ wsX50)
def wsX5_entityOf : List Cond := .code yX5_entityOf cX5_entityOf 3 (some .int) :: ([.fieldLink RX5 26 "QueryGatewayModel" "above" "[I", .fieldLink RX5 44 "QueryGatewayModel" "raw" "[I"] ++ wsX50)
def wsX5_answers : List Cond := .code yX5_answers cX5_answers 6 none :: ([.fieldLink RX5 81 "QueryGatewayModel" "nodes" "I", .fieldLink RX5 41 "QueryGatewayModel" "from" "[I", .fieldLink RX5 44 "QueryGatewayModel" "raw" "[I", .fieldLink RX5 23 "QueryGatewayModel" "values" "[I", .fieldLink RX5 32 "QueryGatewayModel" "type" "[I", .fieldLink RX5 29 "QueryGatewayModel" "field" "[I", .fieldLink RX5 47 "QueryGatewayModel" "isMissing" "[Z", .fieldLink RX5 118 "QueryGatewayModel" "isAnswerMissing" "Z", .fieldLink RX5 16 "QueryGatewayModel" "isRequired" "[Z", .fieldLink RX5 26 "QueryGatewayModel" "above" "[I", .fieldLink RX5 50 "QueryGatewayModel" "told" "[I", .methodLink RX5 115 yX5_entityOf, .instanceMethod yX5_entityOf, .selects RX5 yX5_entityOf yX5_entityOf, .initialized RX5, .code yX5_entityOf cX5_entityOf 3 (some .int), .methodLink RX5 90 yX5_fieldOf, .instanceMethod yX5_fieldOf, .selects RX5 yX5_fieldOf yX5_fieldOf, .code yX5_fieldOf cX5_fieldOf 2 (some .int)] ++ wsX50)
def wsX5_value_r1 : List Cond := [Cond.fieldLink RX5 56 "QueryGatewayModel" "thrown" "I", Cond.fieldLink RX5 78 "QueryGatewayModel" "failed" "I", Cond.fieldLink RX5 50 "QueryGatewayModel" "told" "[I", Cond.methodLink RX5 75 yX5_isKey, Cond.static yX5_isKey, Cond.initialized RX5, Cond.code yX5_isKey cX5_isKey 1 (some .boolean), Cond.methodLink RX5 60 yX5_in, Cond.static yX5_in, Cond.code yX5_in cX5_in 3 (some .boolean), Cond.methodLink RX5 87 yX5_isNode, Cond.instanceMethod yX5_isNode, Cond.selects RX5 yX5_isNode yX5_isNode, Cond.code yX5_isNode cX5_isNode 2 (some .boolean), Cond.fieldLink RX5 81 "QueryGatewayModel" "nodes" "I", Cond.methodLink RX5 108 yX5_hasPlan, Cond.instanceMethod yX5_hasPlan, Cond.selects RX5 yX5_hasPlan yX5_hasPlan, Cond.code yX5_hasPlan cX5_hasPlan 3 (some .boolean), Cond.fieldLink RX5 35 "QueryGatewayModel" "may" "[I", Cond.fieldLink RX5 20 "QueryGatewayModel" "owners" "[I", Cond.methodLink RX5 90 yX5_fieldOf, Cond.instanceMethod yX5_fieldOf, Cond.selects RX5 yX5_fieldOf yX5_fieldOf]
def wsX5_value_r2 : List Cond := [Cond.code yX5_fieldOf cX5_fieldOf 2 (some .int), Cond.fieldLink RX5 32 "QueryGatewayModel" "type" "[I", Cond.fieldLink RX5 29 "QueryGatewayModel" "field" "[I", Cond.methodLink RX5 112 yX5_laysPlan, Cond.instanceMethod yX5_laysPlan, Cond.selects RX5 yX5_laysPlan yX5_laysPlan, Cond.code yX5_laysPlan cX5_laysPlan 6 (some .int), Cond.fieldLink RX5 41 "QueryGatewayModel" "from" "[I", Cond.methodLink RX5 104 yX5_tries, Cond.instanceMethod yX5_tries, Cond.selects RX5 yX5_tries yX5_tries, Cond.code yX5_tries cX5_tries 3 (some .int), Cond.fieldLink RX5 38 "QueryGatewayModel" "fewest" "[I", Cond.methodLink RX5 101 yX5_hopsBelow, Cond.instanceMethod yX5_hopsBelow, Cond.selects RX5 yX5_hopsBelow yX5_hopsBelow, Cond.code yX5_hopsBelow cX5_hopsBelow 7 (some .int), Cond.fieldLink RX5 26 "QueryGatewayModel" "above" "[I", Cond.methodLink RX5 94 yX5_manyOf, Cond.static yX5_manyOf, Cond.code yX5_manyOf cX5_manyOf 3 (some .int), Cond.methodLink RX5 97 yX5_fewestBy, Cond.instanceMethod yX5_fewestBy, Cond.selects RX5 yX5_fewestBy yX5_fewestBy]
def wsX5_value_r3 : List Cond := [Cond.code yX5_fewestBy cX5_fewestBy 6 (some .int), Cond.methodLink RX5 122 yX5_answers, Cond.instanceMethod yX5_answers, Cond.selects RX5 yX5_answers yX5_answers, Cond.code yX5_answers cX5_answers 6 none, Cond.fieldLink RX5 44 "QueryGatewayModel" "raw" "[I", Cond.fieldLink RX5 23 "QueryGatewayModel" "values" "[I", Cond.fieldLink RX5 47 "QueryGatewayModel" "isMissing" "[Z", Cond.fieldLink RX5 118 "QueryGatewayModel" "isAnswerMissing" "Z", Cond.fieldLink RX5 16 "QueryGatewayModel" "isRequired" "[Z", Cond.methodLink RX5 115 yX5_entityOf, Cond.instanceMethod yX5_entityOf, Cond.selects RX5 yX5_entityOf yX5_entityOf, Cond.code yX5_entityOf cX5_entityOf 3 (some .int)]
def wsX5_value : List Cond := .code yX5_value cX5_value 3 (some .int) :: ((wsX5_value_r1 ++ (wsX5_value_r2 ++ wsX5_value_r3)) ++ wsX50)
def wsX5_isMissing_r1 : List Cond := [Cond.fieldLink RX5 56 "QueryGatewayModel" "thrown" "I", Cond.fieldLink RX5 78 "QueryGatewayModel" "failed" "I", Cond.fieldLink RX5 118 "QueryGatewayModel" "isAnswerMissing" "Z", Cond.methodLink RX5 75 yX5_isKey, Cond.static yX5_isKey, Cond.initialized RX5, Cond.code yX5_isKey cX5_isKey 1 (some .boolean), Cond.methodLink RX5 60 yX5_in, Cond.static yX5_in, Cond.code yX5_in cX5_in 3 (some .boolean), Cond.methodLink RX5 108 yX5_hasPlan, Cond.instanceMethod yX5_hasPlan, Cond.selects RX5 yX5_hasPlan yX5_hasPlan, Cond.code yX5_hasPlan cX5_hasPlan 3 (some .boolean), Cond.fieldLink RX5 81 "QueryGatewayModel" "nodes" "I", Cond.fieldLink RX5 35 "QueryGatewayModel" "may" "[I", Cond.fieldLink RX5 20 "QueryGatewayModel" "owners" "[I", Cond.methodLink RX5 90 yX5_fieldOf, Cond.instanceMethod yX5_fieldOf, Cond.selects RX5 yX5_fieldOf yX5_fieldOf, Cond.code yX5_fieldOf cX5_fieldOf 2 (some .int), Cond.fieldLink RX5 32 "QueryGatewayModel" "type" "[I", Cond.fieldLink RX5 29 "QueryGatewayModel" "field" "[I", Cond.methodLink RX5 112 yX5_laysPlan]
def wsX5_isMissing_r2 : List Cond := [Cond.instanceMethod yX5_laysPlan, Cond.selects RX5 yX5_laysPlan yX5_laysPlan, Cond.code yX5_laysPlan cX5_laysPlan 6 (some .int), Cond.fieldLink RX5 41 "QueryGatewayModel" "from" "[I", Cond.methodLink RX5 104 yX5_tries, Cond.instanceMethod yX5_tries, Cond.selects RX5 yX5_tries yX5_tries, Cond.code yX5_tries cX5_tries 3 (some .int), Cond.fieldLink RX5 38 "QueryGatewayModel" "fewest" "[I", Cond.methodLink RX5 101 yX5_hopsBelow, Cond.instanceMethod yX5_hopsBelow, Cond.selects RX5 yX5_hopsBelow yX5_hopsBelow, Cond.code yX5_hopsBelow cX5_hopsBelow 7 (some .int), Cond.fieldLink RX5 26 "QueryGatewayModel" "above" "[I", Cond.methodLink RX5 94 yX5_manyOf, Cond.static yX5_manyOf, Cond.code yX5_manyOf cX5_manyOf 3 (some .int), Cond.methodLink RX5 97 yX5_fewestBy, Cond.instanceMethod yX5_fewestBy, Cond.selects RX5 yX5_fewestBy yX5_fewestBy, Cond.code yX5_fewestBy cX5_fewestBy 6 (some .int), Cond.methodLink RX5 122 yX5_answers, Cond.instanceMethod yX5_answers, Cond.selects RX5 yX5_answers yX5_answers]
def wsX5_isMissing_r3 : List Cond := [Cond.code yX5_answers cX5_answers 6 none, Cond.fieldLink RX5 44 "QueryGatewayModel" "raw" "[I", Cond.fieldLink RX5 23 "QueryGatewayModel" "values" "[I", Cond.fieldLink RX5 47 "QueryGatewayModel" "isMissing" "[Z", Cond.fieldLink RX5 16 "QueryGatewayModel" "isRequired" "[Z", Cond.fieldLink RX5 50 "QueryGatewayModel" "told" "[I", Cond.methodLink RX5 115 yX5_entityOf, Cond.instanceMethod yX5_entityOf, Cond.selects RX5 yX5_entityOf yX5_entityOf, Cond.code yX5_entityOf cX5_entityOf 3 (some .int)]
def wsX5_isMissing : List Cond := .code yX5_isMissing cX5_isMissing 2 (some .boolean) :: ((wsX5_isMissing_r1 ++ (wsX5_isMissing_r2 ++ wsX5_isMissing_r3)) ++ wsX50)
def wsX5_faults_r1 : List Cond := [Cond.fieldLink RX5 56 "QueryGatewayModel" "thrown" "I", Cond.fieldLink RX5 78 "QueryGatewayModel" "failed" "I", Cond.fieldLink RX5 81 "QueryGatewayModel" "nodes" "I", Cond.fieldLink RX5 44 "QueryGatewayModel" "raw" "[I", Cond.methodLink RX5 75 yX5_isKey, Cond.static yX5_isKey, Cond.initialized RX5, Cond.code yX5_isKey cX5_isKey 1 (some .boolean), Cond.methodLink RX5 60 yX5_in, Cond.static yX5_in, Cond.code yX5_in cX5_in 3 (some .boolean), Cond.methodLink RX5 108 yX5_hasPlan, Cond.instanceMethod yX5_hasPlan, Cond.selects RX5 yX5_hasPlan yX5_hasPlan, Cond.code yX5_hasPlan cX5_hasPlan 3 (some .boolean), Cond.fieldLink RX5 35 "QueryGatewayModel" "may" "[I", Cond.fieldLink RX5 20 "QueryGatewayModel" "owners" "[I", Cond.methodLink RX5 90 yX5_fieldOf, Cond.instanceMethod yX5_fieldOf, Cond.selects RX5 yX5_fieldOf yX5_fieldOf, Cond.code yX5_fieldOf cX5_fieldOf 2 (some .int), Cond.fieldLink RX5 32 "QueryGatewayModel" "type" "[I", Cond.fieldLink RX5 29 "QueryGatewayModel" "field" "[I", Cond.methodLink RX5 112 yX5_laysPlan]
def wsX5_faults_r2 : List Cond := [Cond.instanceMethod yX5_laysPlan, Cond.selects RX5 yX5_laysPlan yX5_laysPlan, Cond.code yX5_laysPlan cX5_laysPlan 6 (some .int), Cond.fieldLink RX5 41 "QueryGatewayModel" "from" "[I", Cond.methodLink RX5 104 yX5_tries, Cond.instanceMethod yX5_tries, Cond.selects RX5 yX5_tries yX5_tries, Cond.code yX5_tries cX5_tries 3 (some .int), Cond.fieldLink RX5 38 "QueryGatewayModel" "fewest" "[I", Cond.methodLink RX5 101 yX5_hopsBelow, Cond.instanceMethod yX5_hopsBelow, Cond.selects RX5 yX5_hopsBelow yX5_hopsBelow, Cond.code yX5_hopsBelow cX5_hopsBelow 7 (some .int), Cond.fieldLink RX5 26 "QueryGatewayModel" "above" "[I", Cond.methodLink RX5 94 yX5_manyOf, Cond.static yX5_manyOf, Cond.code yX5_manyOf cX5_manyOf 3 (some .int), Cond.methodLink RX5 97 yX5_fewestBy, Cond.instanceMethod yX5_fewestBy, Cond.selects RX5 yX5_fewestBy yX5_fewestBy, Cond.code yX5_fewestBy cX5_fewestBy 6 (some .int), Cond.methodLink RX5 122 yX5_answers, Cond.instanceMethod yX5_answers, Cond.selects RX5 yX5_answers yX5_answers]
def wsX5_faults_r3 : List Cond := [Cond.code yX5_answers cX5_answers 6 none, Cond.fieldLink RX5 23 "QueryGatewayModel" "values" "[I", Cond.fieldLink RX5 47 "QueryGatewayModel" "isMissing" "[Z", Cond.fieldLink RX5 118 "QueryGatewayModel" "isAnswerMissing" "Z", Cond.fieldLink RX5 16 "QueryGatewayModel" "isRequired" "[Z", Cond.fieldLink RX5 50 "QueryGatewayModel" "told" "[I", Cond.methodLink RX5 115 yX5_entityOf, Cond.instanceMethod yX5_entityOf, Cond.selects RX5 yX5_entityOf yX5_entityOf, Cond.code yX5_entityOf cX5_entityOf 3 (some .int)]
def wsX5_faults : List Cond := .code yX5_faults cX5_faults 4 (some .int) :: ((wsX5_faults_r1 ++ (wsX5_faults_r2 ++ wsX5_faults_r3)) ++ wsX50)
def wsX5_loaded_r1 : List Cond := [Cond.fieldLink RX5 56 "QueryGatewayModel" "thrown" "I", Cond.fieldLink RX5 13 "QueryGatewayModel" "leads" "[I", Cond.fieldLink RX5 78 "QueryGatewayModel" "failed" "I", Cond.fieldLink RX5 50 "QueryGatewayModel" "told" "[I", Cond.methodLink RX5 75 yX5_isKey, Cond.static yX5_isKey, Cond.initialized RX5, Cond.code yX5_isKey cX5_isKey 1 (some .boolean), Cond.methodLink RX5 60 yX5_in, Cond.static yX5_in, Cond.code yX5_in cX5_in 3 (some .boolean), Cond.methodLink RX5 87 yX5_isNode, Cond.instanceMethod yX5_isNode, Cond.selects RX5 yX5_isNode yX5_isNode, Cond.code yX5_isNode cX5_isNode 2 (some .boolean), Cond.fieldLink RX5 81 "QueryGatewayModel" "nodes" "I", Cond.methodLink RX5 90 yX5_fieldOf, Cond.instanceMethod yX5_fieldOf, Cond.selects RX5 yX5_fieldOf yX5_fieldOf, Cond.code yX5_fieldOf cX5_fieldOf 2 (some .int), Cond.fieldLink RX5 32 "QueryGatewayModel" "type" "[I", Cond.fieldLink RX5 29 "QueryGatewayModel" "field" "[I", Cond.methodLink RX5 108 yX5_hasPlan, Cond.instanceMethod yX5_hasPlan]
def wsX5_loaded_r2 : List Cond := [Cond.selects RX5 yX5_hasPlan yX5_hasPlan, Cond.code yX5_hasPlan cX5_hasPlan 3 (some .boolean), Cond.fieldLink RX5 35 "QueryGatewayModel" "may" "[I", Cond.fieldLink RX5 20 "QueryGatewayModel" "owners" "[I", Cond.methodLink RX5 112 yX5_laysPlan, Cond.instanceMethod yX5_laysPlan, Cond.selects RX5 yX5_laysPlan yX5_laysPlan, Cond.code yX5_laysPlan cX5_laysPlan 6 (some .int), Cond.fieldLink RX5 41 "QueryGatewayModel" "from" "[I", Cond.methodLink RX5 104 yX5_tries, Cond.instanceMethod yX5_tries, Cond.selects RX5 yX5_tries yX5_tries, Cond.code yX5_tries cX5_tries 3 (some .int), Cond.fieldLink RX5 38 "QueryGatewayModel" "fewest" "[I", Cond.methodLink RX5 101 yX5_hopsBelow, Cond.instanceMethod yX5_hopsBelow, Cond.selects RX5 yX5_hopsBelow yX5_hopsBelow, Cond.code yX5_hopsBelow cX5_hopsBelow 7 (some .int), Cond.fieldLink RX5 26 "QueryGatewayModel" "above" "[I", Cond.methodLink RX5 94 yX5_manyOf, Cond.static yX5_manyOf, Cond.code yX5_manyOf cX5_manyOf 3 (some .int), Cond.methodLink RX5 97 yX5_fewestBy, Cond.instanceMethod yX5_fewestBy]
def wsX5_loaded_r3 : List Cond := [Cond.selects RX5 yX5_fewestBy yX5_fewestBy, Cond.code yX5_fewestBy cX5_fewestBy 6 (some .int), Cond.methodLink RX5 122 yX5_answers, Cond.instanceMethod yX5_answers, Cond.selects RX5 yX5_answers yX5_answers, Cond.code yX5_answers cX5_answers 6 none, Cond.fieldLink RX5 44 "QueryGatewayModel" "raw" "[I", Cond.fieldLink RX5 23 "QueryGatewayModel" "values" "[I", Cond.fieldLink RX5 47 "QueryGatewayModel" "isMissing" "[Z", Cond.fieldLink RX5 118 "QueryGatewayModel" "isAnswerMissing" "Z", Cond.fieldLink RX5 16 "QueryGatewayModel" "isRequired" "[Z", Cond.methodLink RX5 115 yX5_entityOf, Cond.instanceMethod yX5_entityOf, Cond.selects RX5 yX5_entityOf yX5_entityOf, Cond.code yX5_entityOf cX5_entityOf 3 (some .int)]
def wsX5_loaded : List Cond := .code yX5_loaded cX5_loaded 7 (some .int) :: ((wsX5_loaded_r1 ++ (wsX5_loaded_r2 ++ wsX5_loaded_r3)) ++ wsX50)
def wsX5_harmed_r1 : List Cond := [Cond.fieldLink RX5 56 "QueryGatewayModel" "thrown" "I", Cond.fieldLink RX5 118 "QueryGatewayModel" "isAnswerMissing" "Z", Cond.fieldLink RX5 81 "QueryGatewayModel" "nodes" "I", Cond.fieldLink RX5 53 "QueryGatewayModel" "other" "[I", Cond.fieldLink RX5 50 "QueryGatewayModel" "told" "[I", Cond.fieldLink RX5 78 "QueryGatewayModel" "failed" "I", Cond.methodLink RX5 108 yX5_hasPlan, Cond.instanceMethod yX5_hasPlan, Cond.selects RX5 yX5_hasPlan yX5_hasPlan, Cond.initialized RX5, Cond.code yX5_hasPlan cX5_hasPlan 3 (some .boolean), Cond.fieldLink RX5 35 "QueryGatewayModel" "may" "[I", Cond.fieldLink RX5 20 "QueryGatewayModel" "owners" "[I", Cond.methodLink RX5 90 yX5_fieldOf, Cond.instanceMethod yX5_fieldOf, Cond.selects RX5 yX5_fieldOf yX5_fieldOf, Cond.code yX5_fieldOf cX5_fieldOf 2 (some .int), Cond.fieldLink RX5 32 "QueryGatewayModel" "type" "[I", Cond.fieldLink RX5 29 "QueryGatewayModel" "field" "[I", Cond.methodLink RX5 112 yX5_laysPlan, Cond.instanceMethod yX5_laysPlan, Cond.selects RX5 yX5_laysPlan yX5_laysPlan, Cond.code yX5_laysPlan cX5_laysPlan 6 (some .int), Cond.fieldLink RX5 41 "QueryGatewayModel" "from" "[I"]
def wsX5_harmed_r2 : List Cond := [Cond.methodLink RX5 104 yX5_tries, Cond.instanceMethod yX5_tries, Cond.selects RX5 yX5_tries yX5_tries, Cond.code yX5_tries cX5_tries 3 (some .int), Cond.fieldLink RX5 38 "QueryGatewayModel" "fewest" "[I", Cond.methodLink RX5 101 yX5_hopsBelow, Cond.instanceMethod yX5_hopsBelow, Cond.selects RX5 yX5_hopsBelow yX5_hopsBelow, Cond.code yX5_hopsBelow cX5_hopsBelow 7 (some .int), Cond.fieldLink RX5 26 "QueryGatewayModel" "above" "[I", Cond.methodLink RX5 94 yX5_manyOf, Cond.static yX5_manyOf, Cond.code yX5_manyOf cX5_manyOf 3 (some .int), Cond.methodLink RX5 97 yX5_fewestBy, Cond.instanceMethod yX5_fewestBy, Cond.selects RX5 yX5_fewestBy yX5_fewestBy, Cond.code yX5_fewestBy cX5_fewestBy 6 (some .int), Cond.methodLink RX5 122 yX5_answers, Cond.instanceMethod yX5_answers, Cond.selects RX5 yX5_answers yX5_answers, Cond.code yX5_answers cX5_answers 6 none, Cond.fieldLink RX5 44 "QueryGatewayModel" "raw" "[I", Cond.fieldLink RX5 23 "QueryGatewayModel" "values" "[I", Cond.fieldLink RX5 47 "QueryGatewayModel" "isMissing" "[Z"]
def wsX5_harmed_r3 : List Cond := [Cond.fieldLink RX5 16 "QueryGatewayModel" "isRequired" "[Z", Cond.methodLink RX5 115 yX5_entityOf, Cond.instanceMethod yX5_entityOf, Cond.selects RX5 yX5_entityOf yX5_entityOf, Cond.code yX5_entityOf cX5_entityOf 3 (some .int)]
def wsX5_harmed : List Cond := .code yX5_harmed cX5_harmed 6 (some .int) :: ((wsX5_harmed_r1 ++ (wsX5_harmed_r2 ++ wsX5_harmed_r3)) ++ wsX50)
def wsX5_least_r1 : List Cond := [Cond.fieldLink RX5 56 "QueryGatewayModel" "thrown" "I", Cond.fieldLink RX5 78 "QueryGatewayModel" "failed" "I", Cond.fieldLink RX5 50 "QueryGatewayModel" "told" "[I", Cond.methodLink RX5 87 yX5_isNode, Cond.instanceMethod yX5_isNode, Cond.selects RX5 yX5_isNode yX5_isNode, Cond.initialized RX5, Cond.code yX5_isNode cX5_isNode 2 (some .boolean), Cond.fieldLink RX5 81 "QueryGatewayModel" "nodes" "I", Cond.methodLink RX5 60 yX5_in, Cond.static yX5_in, Cond.code yX5_in cX5_in 3 (some .boolean), Cond.methodLink RX5 108 yX5_hasPlan, Cond.instanceMethod yX5_hasPlan, Cond.selects RX5 yX5_hasPlan yX5_hasPlan, Cond.code yX5_hasPlan cX5_hasPlan 3 (some .boolean), Cond.fieldLink RX5 35 "QueryGatewayModel" "may" "[I", Cond.fieldLink RX5 20 "QueryGatewayModel" "owners" "[I", Cond.methodLink RX5 90 yX5_fieldOf, Cond.instanceMethod yX5_fieldOf, Cond.selects RX5 yX5_fieldOf yX5_fieldOf, Cond.code yX5_fieldOf cX5_fieldOf 2 (some .int), Cond.fieldLink RX5 32 "QueryGatewayModel" "type" "[I", Cond.fieldLink RX5 29 "QueryGatewayModel" "field" "[I"]
def wsX5_least_r2 : List Cond := [Cond.methodLink RX5 112 yX5_laysPlan, Cond.instanceMethod yX5_laysPlan, Cond.selects RX5 yX5_laysPlan yX5_laysPlan, Cond.code yX5_laysPlan cX5_laysPlan 6 (some .int), Cond.fieldLink RX5 41 "QueryGatewayModel" "from" "[I", Cond.methodLink RX5 104 yX5_tries, Cond.instanceMethod yX5_tries, Cond.selects RX5 yX5_tries yX5_tries, Cond.code yX5_tries cX5_tries 3 (some .int), Cond.fieldLink RX5 38 "QueryGatewayModel" "fewest" "[I", Cond.methodLink RX5 101 yX5_hopsBelow, Cond.instanceMethod yX5_hopsBelow, Cond.selects RX5 yX5_hopsBelow yX5_hopsBelow, Cond.code yX5_hopsBelow cX5_hopsBelow 7 (some .int), Cond.fieldLink RX5 26 "QueryGatewayModel" "above" "[I", Cond.methodLink RX5 94 yX5_manyOf, Cond.static yX5_manyOf, Cond.code yX5_manyOf cX5_manyOf 3 (some .int), Cond.methodLink RX5 97 yX5_fewestBy, Cond.instanceMethod yX5_fewestBy, Cond.selects RX5 yX5_fewestBy yX5_fewestBy, Cond.code yX5_fewestBy cX5_fewestBy 6 (some .int), Cond.methodLink RX5 122 yX5_answers, Cond.instanceMethod yX5_answers]
def wsX5_least_r3 : List Cond := [Cond.selects RX5 yX5_answers yX5_answers, Cond.code yX5_answers cX5_answers 6 none, Cond.fieldLink RX5 44 "QueryGatewayModel" "raw" "[I", Cond.fieldLink RX5 23 "QueryGatewayModel" "values" "[I", Cond.fieldLink RX5 47 "QueryGatewayModel" "isMissing" "[Z", Cond.fieldLink RX5 118 "QueryGatewayModel" "isAnswerMissing" "Z", Cond.fieldLink RX5 16 "QueryGatewayModel" "isRequired" "[Z", Cond.methodLink RX5 115 yX5_entityOf, Cond.instanceMethod yX5_entityOf, Cond.selects RX5 yX5_entityOf yX5_entityOf, Cond.code yX5_entityOf cX5_entityOf 3 (some .int)]
def wsX5_least : List Cond := .code yX5_least cX5_least 5 (some .int) :: ((wsX5_least_r1 ++ (wsX5_least_r2 ++ wsX5_least_r3)) ++ wsX50)
def wsJ9_min_7cf53 : List Cond := .code yJ9_min_7cf53 cJ9_min_7cf53 2 (some .int) :: ([])
def wsL_addField_r1 : List Cond := [Cond.classLink RL 13 "java/lang/IllegalArgumentException", Cond.classLink RL 15 "java/lang/IllegalStateException", Cond.methodLink RL 7 yX4_addField, Cond.instanceMethod yX4_addField, Cond.selects RX4 yX4_addField yX4_addField, Cond.initialized RX4, Cond.code yX4_addField cX4_addField 4 (some .int), Cond.classLink RX4 52 "java/lang/IllegalArgumentException", Cond.initialized "java/lang/IllegalArgumentException", Cond.classLink RX4 63 "java/lang/IllegalStateException", Cond.initialized "java/lang/IllegalStateException", Cond.fieldLink RX4 20 "QueryGateway" "graph" "LQueryGateway$Graph;", Cond.methodLink RX4 44 yX4_checkType, Cond.static yX4_checkType, Cond.code yX4_checkType cX4_checkType 1 none, Cond.methodLink RX4 48 yX4_isType, Cond.static yX4_isType, Cond.code yX4_isType cX4_isType 1 (some .boolean), Cond.methodLink RX4 59 yX1_fieldsOf, Cond.instanceMethod yX1_fieldsOf, Cond.selects RX1 yX1_fieldsOf yX1_fieldsOf, Cond.initialized RX1, Cond.code yX1_fieldsOf cX1_fieldsOf 2 (some .int), Cond.fieldLink RX1 9 "QueryGateway$Graph" "counts" "[I"]
def wsL_addField_r2 : List Cond := [Cond.methodLink RX4 68 yX1_append, Cond.instanceMethod yX1_append, Cond.selects RX1 yX1_append yX1_append, Cond.code yX1_append cX1_append 6 (some .int), Cond.fieldLink RX1 15 "QueryGateway$Graph" "leads" "[I", Cond.fieldLink RX1 18 "QueryGateway$Graph" "required" "[Z", Cond.methodLink RX1 38 yX1_fieldsOf, Cond.static yX4_slotOf, Cond.code yX4_slotOf cX4_slotOf 2 (some .int), Cond.static yX4_isSlot, Cond.code yX4_isSlot cX4_isSlot 1 (some .boolean)]
def wsL_addField : List Cond := .codeWith yL_addField cL_addField 6 (some .int) [(0, 12, 15, 13), (0, 12, 19, 15)] :: ((wsL_addField_r1 ++ wsL_addField_r2) ++ wsX40 ++ wsX10 ++ (vx_atS RX4 56 "java/lang/IllegalArgumentException" ["java/lang/RuntimeException", "java/lang/Exception"]).filter goodWord ++ (vx_atS RX4 67 "java/lang/IllegalStateException" ["java/lang/RuntimeException", "java/lang/Exception"]).filter goodWord)
def wsL_own_r1 : List Cond := [Cond.classLink RL 13 "java/lang/IllegalArgumentException", Cond.classLink RL 21 "java/lang/IndexOutOfBoundsException", Cond.methodLink RL 17 yX4_own, Cond.instanceMethod yX4_own, Cond.selects RX4 yX4_own yX4_own, Cond.initialized RX4, Cond.code yX4_own cX4_own 5 (some .boolean), Cond.fieldLink RX4 28 "QueryGateway" "plan" "LQueryGateway$Plan;", Cond.fieldLink RX4 20 "QueryGateway" "graph" "LQueryGateway$Graph;", Cond.methodLink RX4 72 yX4_checkService, Cond.static yX4_checkService, Cond.code yX4_checkService cX4_checkService 1 none, Cond.classLink RX4 52 "java/lang/IllegalArgumentException", Cond.initialized "java/lang/IllegalArgumentException", Cond.methodLink RX4 178 yX4_isService, Cond.static yX4_isService, Cond.code yX4_isService cX4_isService 1 (some .boolean), Cond.methodLink RX4 44 yX4_checkType, Cond.static yX4_checkType, Cond.code yX4_checkType cX4_checkType 1 none, Cond.methodLink RX4 48 yX4_isType, Cond.static yX4_isType, Cond.code yX4_isType cX4_isType 1 (some .boolean), Cond.methodLink RX4 75 yX4_checkField]
def wsL_own_r2 : List Cond := [Cond.instanceMethod yX4_checkField, Cond.selects RX4 yX4_checkField yX4_checkField, Cond.code yX4_checkField cX4_checkField 3 none, Cond.classLink RX4 190 "java/lang/IndexOutOfBoundsException", Cond.initialized "java/lang/IndexOutOfBoundsException", Cond.methodLink RX4 59 yX1_fieldsOf, Cond.instanceMethod yX1_fieldsOf, Cond.selects RX1 yX1_fieldsOf yX1_fieldsOf, Cond.initialized RX1, Cond.code yX1_fieldsOf cX1_fieldsOf 2 (some .int), Cond.fieldLink RX1 9 "QueryGateway$Graph" "counts" "[I", Cond.methodLink RX4 79 yX2_forget, Cond.instanceMethod yX2_forget, Cond.selects RX2 yX2_forget yX2_forget, Cond.initialized RX2, Cond.code yX2_forget cX2_forget 1 none, Cond.fieldLink RX2 32 "QueryGateway$Plan" "known" "Z", Cond.methodLink RX4 82 yX4_slotOf, Cond.static yX4_slotOf, Cond.code yX4_slotOf cX4_slotOf 2 (some .int), Cond.methodLink RX4 86 yX1_putOwner, Cond.instanceMethod yX1_putOwner, Cond.selects RX1 yX1_putOwner yX1_putOwner, Cond.code yX1_putOwner cX1_putOwner 5 (some .boolean)]
def wsL_own_r3 : List Cond := [Cond.fieldLink RX1 22 "QueryGateway$Graph" "owners" "[I", Cond.static yX4_isSlot, Cond.code yX4_isSlot cX4_isSlot 1 (some .boolean), Cond.static yX4_bit, Cond.code yX4_bit cX4_bit 1 (some .int)]
def wsL_own : List Cond := .codeWith yL_own cL_own 7 (some .int) [(0, 21, 24, 13), (0, 21, 28, 21)] :: ((wsL_own_r1 ++ (wsL_own_r2 ++ wsL_own_r3)) ++ wsX40 ++ wsX10 ++ wsX20 ++ (vx_atS RX4 56 "java/lang/IllegalArgumentException" ["java/lang/RuntimeException", "java/lang/Exception"]).filter goodWord ++ (vx_atS RX4 194 "java/lang/IndexOutOfBoundsException" ["java/lang/RuntimeException", "java/lang/Exception"]).filter goodWord)
def wsL_set_r1 : List Cond := [Cond.classLink RL 13 "java/lang/IllegalArgumentException", Cond.classLink RL 21 "java/lang/IndexOutOfBoundsException", Cond.methodLink RL 23 yX4_set, Cond.instanceMethod yX4_set, Cond.selects RX4 yX4_set yX4_set, Cond.initialized RX4, Cond.code yX4_set cX4_set 6 (some .int), Cond.classLink RX4 52 "java/lang/IllegalArgumentException", Cond.initialized "java/lang/IllegalArgumentException", Cond.fieldLink RX4 20 "QueryGateway" "graph" "LQueryGateway$Graph;", Cond.methodLink RX4 44 yX4_checkType, Cond.static yX4_checkType, Cond.code yX4_checkType cX4_checkType 1 none, Cond.methodLink RX4 48 yX4_isType, Cond.static yX4_isType, Cond.code yX4_isType cX4_isType 1 (some .boolean), Cond.methodLink RX4 90 yX4_checkKey, Cond.static yX4_checkKey, Cond.code yX4_checkKey cX4_checkKey 1 none, Cond.methodLink RX4 185 yX4_isKey, Cond.static yX4_isKey, Cond.code yX4_isKey cX4_isKey 1 (some .boolean), Cond.methodLink RX4 75 yX4_checkField, Cond.instanceMethod yX4_checkField]
def wsL_set_r2 : List Cond := [Cond.selects RX4 yX4_checkField yX4_checkField, Cond.code yX4_checkField cX4_checkField 3 none, Cond.classLink RX4 190 "java/lang/IndexOutOfBoundsException", Cond.initialized "java/lang/IndexOutOfBoundsException", Cond.methodLink RX4 59 yX1_fieldsOf, Cond.instanceMethod yX1_fieldsOf, Cond.selects RX1 yX1_fieldsOf yX1_fieldsOf, Cond.initialized RX1, Cond.code yX1_fieldsOf cX1_fieldsOf 2 (some .int), Cond.fieldLink RX1 9 "QueryGateway$Graph" "counts" "[I", Cond.methodLink RX4 82 yX4_slotOf, Cond.static yX4_slotOf, Cond.code yX4_slotOf cX4_slotOf 2 (some .int), Cond.methodLink RX4 93 yX1_takes, Cond.instanceMethod yX1_takes, Cond.selects RX1 yX1_takes yX1_takes, Cond.code yX1_takes cX1_takes 4 (some .boolean), Cond.methodLink RX1 52 yX1_leadsOf, Cond.instanceMethod yX1_leadsOf, Cond.selects RX1 yX1_leadsOf yX1_leadsOf, Cond.code yX1_leadsOf cX1_leadsOf 2 (some .int), Cond.fieldLink RX1 15 "QueryGateway$Graph" "leads" "[I", Cond.static yX4_isSlot, Cond.code yX4_isSlot cX4_isSlot 1 (some .boolean)]
def wsL_set_r3 : List Cond := [Cond.methodLink RX4 99 yX1_putValue, Cond.instanceMethod yX1_putValue, Cond.selects RX1 yX1_putValue yX1_putValue, Cond.code yX1_putValue cX1_putValue 5 (some .int), Cond.fieldLink RX1 25 "QueryGateway$Graph" "values" "[I", Cond.methodLink RX1 58 yX1_valueOf, Cond.instanceMethod yX1_valueOf, Cond.selects RX1 yX1_valueOf yX1_valueOf, Cond.code yX1_valueOf cX1_valueOf 3 (some .int)]
def wsL_set : List Cond := .codeWith yL_set cL_set 7 (some .int) [(0, 14, 17, 13), (0, 14, 21, 21)] :: ((wsL_set_r1 ++ (wsL_set_r2 ++ wsL_set_r3)) ++ wsX40 ++ wsX10 ++ (vx_atS RX4 56 "java/lang/IllegalArgumentException" ["java/lang/RuntimeException", "java/lang/Exception"]).filter goodWord ++ (vx_atS RX4 194 "java/lang/IndexOutOfBoundsException" ["java/lang/RuntimeException", "java/lang/Exception"]).filter goodWord)
def wsL_fail : List Cond := .codeWith yL_fail cL_fail 5 (some .int) [(0, 17, 20, 13)] :: ([.classLink RL 13 "java/lang/IllegalArgumentException", .methodLink RL 27 yX4_fail, .instanceMethod yX4_fail, .selects RX4 yX4_fail yX4_fail, .initialized RX4, .code yX4_fail cX4_fail 3 (some .boolean), .fieldLink RX4 20 "QueryGateway" "graph" "LQueryGateway$Graph;", .methodLink RX4 72 yX4_checkService, .static yX4_checkService, .code yX4_checkService cX4_checkService 1 none, .classLink RX4 52 "java/lang/IllegalArgumentException", .initialized "java/lang/IllegalArgumentException", .methodLink RX4 178 yX4_isService, .static yX4_isService, .code yX4_isService cX4_isService 1 (some .boolean), .methodLink RX4 103 yX1_putFailed, .instanceMethod yX1_putFailed, .selects RX1 yX1_putFailed yX1_putFailed, .initialized RX1, .code yX1_putFailed cX1_putFailed 4 (some .boolean), .fieldLink RX1 61 "QueryGateway$Graph" "failed" "I", .static yX4_bit, .code yX4_bit cX4_bit 1 (some .int)] ++ wsX40 ++ wsX10 ++ (vx_atS RX4 56 "java/lang/IllegalArgumentException" ["java/lang/RuntimeException", "java/lang/Exception"]).filter goodWord)
def wsL_begin_r1 : List Cond := [Cond.classLink RL 13 "java/lang/IllegalArgumentException", Cond.methodLink RL 31 yX4_begin, Cond.instanceMethod yX4_begin, Cond.selects RX4 yX4_begin yX4_begin, Cond.initialized RX4, Cond.code yX4_begin cX4_begin 2 (some .int), Cond.fieldLink RX4 28 "QueryGateway" "plan" "LQueryGateway$Plan;", Cond.fieldLink RX4 24 "QueryGateway" "query" "LQueryGateway$Query;", Cond.methodLink RX4 44 yX4_checkType, Cond.static yX4_checkType, Cond.code yX4_checkType cX4_checkType 1 none, Cond.classLink RX4 52 "java/lang/IllegalArgumentException", Cond.initialized "java/lang/IllegalArgumentException", Cond.methodLink RX4 48 yX4_isType, Cond.static yX4_isType, Cond.code yX4_isType cX4_isType 1 (some .boolean), Cond.methodLink RX4 79 yX2_forget, Cond.instanceMethod yX2_forget, Cond.selects RX2 yX2_forget yX2_forget, Cond.initialized RX2, Cond.code yX2_forget cX2_forget 1 none, Cond.fieldLink RX2 32 "QueryGateway$Plan" "known" "Z", Cond.methodLink RX4 107 yX3_restart, Cond.instanceMethod yX3_restart]
def wsL_begin_r2 : List Cond := [Cond.selects RX3 yX3_restart yX3_restart, Cond.initialized RX3, Cond.code yX3_restart cX3_restart 3 (some .int), Cond.fieldLink RX3 18 "QueryGateway$Query" "count" "I", Cond.fieldLink RX3 22 "QueryGateway$Query" "type" "I"]
def wsL_begin : List Cond := .codeWith yL_begin cL_begin 4 (some .int) [(0, 9, 12, 13)] :: ((wsL_begin_r1 ++ wsL_begin_r2) ++ wsX40 ++ wsX20 ++ wsX30 ++ (vx_atS RX4 56 "java/lang/IllegalArgumentException" ["java/lang/RuntimeException", "java/lang/Exception"]).filter goodWord)
def wsL_node_r1 : List Cond := [Cond.classLink RL 21 "java/lang/IndexOutOfBoundsException", Cond.classLink RL 15 "java/lang/IllegalStateException", Cond.methodLink RL 35 yX4_node, Cond.instanceMethod yX4_node, Cond.selects RX4 yX4_node yX4_node, Cond.initialized RX4, Cond.code yX4_node cX4_node 5 (some .int), Cond.classLink RX4 63 "java/lang/IllegalStateException", Cond.initialized "java/lang/IllegalStateException", Cond.fieldLink RX4 24 "QueryGateway" "query" "LQueryGateway$Query;", Cond.fieldLink RX4 28 "QueryGateway" "plan" "LQueryGateway$Plan;", Cond.methodLink RX4 110 yX4_checkNode, Cond.instanceMethod yX4_checkNode, Cond.selects RX4 yX4_checkNode yX4_checkNode, Cond.code yX4_checkNode cX4_checkNode 2 none, Cond.classLink RX4 190 "java/lang/IndexOutOfBoundsException", Cond.initialized "java/lang/IndexOutOfBoundsException", Cond.methodLink RX4 195 yX3_has, Cond.instanceMethod yX3_has, Cond.selects RX3 yX3_has yX3_has, Cond.initialized RX3, Cond.code yX3_has cX3_has 2 (some .boolean), Cond.fieldLink RX3 18 "QueryGateway$Query" "count" "I", Cond.methodLink RX4 113 yX4_typeAt]
def wsL_node_r2 : List Cond := [Cond.instanceMethod yX4_typeAt, Cond.selects RX4 yX4_typeAt yX4_typeAt, Cond.code yX4_typeAt cX4_typeAt 2 (some .int), Cond.fieldLink RX4 20 "QueryGateway" "graph" "LQueryGateway$Graph;", Cond.methodLink RX4 205 yX3_type, Cond.instanceMethod yX3_type, Cond.selects RX3 yX3_type yX3_type, Cond.code yX3_type cX3_type 1 (some .int), Cond.fieldLink RX3 22 "QueryGateway$Query" "type" "I", Cond.methodLink RX4 129 yX3_slotAt, Cond.instanceMethod yX3_slotAt, Cond.selects RX3 yX3_slotAt yX3_slotAt, Cond.code yX3_slotAt cX3_slotAt 2 (some .int), Cond.fieldLink RX3 15 "QueryGateway$Query" "slots" "[I", Cond.methodLink RX3 25 yX3_has, Cond.methodLink RX4 208 yX1_leadsOf, Cond.instanceMethod yX1_leadsOf, Cond.selects RX1 yX1_leadsOf yX1_leadsOf, Cond.initialized RX1, Cond.code yX1_leadsOf cX1_leadsOf 2 (some .int), Cond.fieldLink RX1 15 "QueryGateway$Graph" "leads" "[I", Cond.static yX4_isSlot, Cond.code yX4_isSlot cX4_isSlot 1 (some .boolean), Cond.methodLink RX4 75 yX4_checkField]
def wsL_node_r3 : List Cond := [Cond.instanceMethod yX4_checkField, Cond.selects RX4 yX4_checkField yX4_checkField, Cond.code yX4_checkField cX4_checkField 3 none, Cond.methodLink RX4 59 yX1_fieldsOf, Cond.instanceMethod yX1_fieldsOf, Cond.selects RX1 yX1_fieldsOf yX1_fieldsOf, Cond.code yX1_fieldsOf cX1_fieldsOf 2 (some .int), Cond.fieldLink RX1 9 "QueryGateway$Graph" "counts" "[I", Cond.static yX4_isType, Cond.code yX4_isType cX4_isType 1 (some .boolean), Cond.methodLink RX4 82 yX4_slotOf, Cond.static yX4_slotOf, Cond.code yX4_slotOf cX4_slotOf 2 (some .int), Cond.methodLink RX4 118 yX3_hasRoom, Cond.instanceMethod yX3_hasRoom, Cond.selects RX3 yX3_hasRoom yX3_hasRoom, Cond.code yX3_hasRoom cX3_hasRoom 5 (some .boolean), Cond.methodLink RX3 29 yX3_aboveOf, Cond.instanceMethod yX3_aboveOf, Cond.selects RX3 yX3_aboveOf yX3_aboveOf, Cond.code yX3_aboveOf cX3_aboveOf 2 (some .int), Cond.fieldLink RX3 9 "QueryGateway$Query" "above" "[I", Cond.methodLink RX3 33 yX3_slotAt, Cond.methodLink RX4 79 yX2_forget]
def wsL_node_r4 : List Cond := [Cond.instanceMethod yX2_forget, Cond.selects RX2 yX2_forget yX2_forget, Cond.initialized RX2, Cond.code yX2_forget cX2_forget 1 none, Cond.fieldLink RX2 32 "QueryGateway$Plan" "known" "Z", Cond.methodLink RX4 123 yX3_append, Cond.instanceMethod yX3_append, Cond.selects RX3 yX3_append yX3_append, Cond.code yX3_append cX3_append 4 (some .int)]
def wsL_node : List Cond := .codeWith yL_node cL_node 5 (some .int) [(0, 10, 13, 21), (0, 10, 17, 15)] :: ((wsL_node_r1 ++ (wsL_node_r2 ++ (wsL_node_r3 ++ wsL_node_r4))) ++ wsX40 ++ wsX30 ++ wsX10 ++ wsX20 ++ (vx_atS RX4 67 "java/lang/IllegalStateException" ["java/lang/RuntimeException", "java/lang/Exception"]).filter goodWord ++ (vx_atS RX4 194 "java/lang/IndexOutOfBoundsException" ["java/lang/RuntimeException", "java/lang/Exception"]).filter goodWord)
def wsL_typeOf_r1 : List Cond := [Cond.classLink RL 21 "java/lang/IndexOutOfBoundsException", Cond.methodLink RL 39 yX4_typeOf, Cond.instanceMethod yX4_typeOf, Cond.selects RX4 yX4_typeOf yX4_typeOf, Cond.initialized RX4, Cond.code yX4_typeOf cX4_typeOf 2 (some .int), Cond.fieldLink RX4 24 "QueryGateway" "query" "LQueryGateway$Query;", Cond.methodLink RX4 110 yX4_checkNode, Cond.instanceMethod yX4_checkNode, Cond.selects RX4 yX4_checkNode yX4_checkNode, Cond.code yX4_checkNode cX4_checkNode 2 none, Cond.classLink RX4 190 "java/lang/IndexOutOfBoundsException", Cond.initialized "java/lang/IndexOutOfBoundsException", Cond.methodLink RX4 195 yX3_has, Cond.instanceMethod yX3_has, Cond.selects RX3 yX3_has yX3_has, Cond.initialized RX3, Cond.code yX3_has cX3_has 2 (some .boolean), Cond.fieldLink RX3 18 "QueryGateway$Query" "count" "I", Cond.methodLink RX4 129 yX3_slotAt, Cond.instanceMethod yX3_slotAt, Cond.selects RX3 yX3_slotAt yX3_slotAt, Cond.code yX3_slotAt cX3_slotAt 2 (some .int), Cond.fieldLink RX3 15 "QueryGateway$Query" "slots" "[I"]
def wsL_typeOf_r2 : List Cond := [Cond.methodLink RX3 25 yX3_has]
def wsL_typeOf : List Cond := .codeWith yL_typeOf cL_typeOf 4 (some .int) [(0, 9, 12, 21)] :: ((wsL_typeOf_r1 ++ wsL_typeOf_r2) ++ wsX40 ++ wsX30 ++ (vx_atS RX4 194 "java/lang/IndexOutOfBoundsException" ["java/lang/RuntimeException", "java/lang/Exception"]).filter goodWord)
def wsL_hops_r1 : List Cond := [Cond.classLink RL 15 "java/lang/IllegalStateException", Cond.methodLink RL 42 yX4_hops, Cond.instanceMethod yX4_hops, Cond.selects RX4 yX4_hops yX4_hops, Cond.initialized RX4, Cond.code yX4_hops cX4_hops 1 (some .int), Cond.fieldLink RX4 28 "QueryGateway" "plan" "LQueryGateway$Plan;", Cond.methodLink RX4 132 yX4_checkPlan, Cond.instanceMethod yX4_checkPlan, Cond.selects RX4 yX4_checkPlan yX4_checkPlan, Cond.code yX4_checkPlan cX4_checkPlan 1 none, Cond.classLink RX4 63 "java/lang/IllegalStateException", Cond.initialized "java/lang/IllegalStateException", Cond.methodLink RX4 200 yX2_find, Cond.instanceMethod yX2_find, Cond.selects RX2 yX2_find yX2_find, Cond.initialized RX2, Cond.code yX2_find cX2_find 1 (some .boolean), Cond.fieldLink RX2 32 "QueryGateway$Plan" "known" "Z", Cond.fieldLink RX2 40 "QueryGateway$Plan" "there" "Z", Cond.fieldLink RX2 50 "QueryGateway$Plan" "length" "I", Cond.methodLink RX2 36 yX2_openChoices, Cond.instanceMethod yX2_openChoices, Cond.selects RX2 yX2_openChoices yX2_openChoices]
def wsL_hops_r2 : List Cond := [Cond.code yX2_openChoices cX2_openChoices 3 (some .boolean), Cond.fieldLink RX2 15 "QueryGateway$Plan" "query" "LQueryGateway$Query;", Cond.methodLink RX2 67 Lib.Math.min.name, Cond.static Lib.Math.min.name, Cond.initialized "java/lang/Math", Cond.code Lib.Math.min.name Lib.Math.min.code 2 (some .int), Cond.fieldLink RX2 72 "QueryGateway$Plan" "count" "I", Cond.fieldLink RX2 19 "QueryGateway$Plan" "places" "[I", Cond.fieldLink RX2 23 "QueryGateway$Plan" "choices" "[I", Cond.fieldLink RX2 9 "QueryGateway$Plan" "graph" "LQueryGateway$Graph;", Cond.methodLink RX2 63 yX3_size, Cond.instanceMethod yX3_size, Cond.selects RX3 yX3_size yX3_size, Cond.initialized RX3, Cond.code yX3_size cX3_size 1 (some .int), Cond.fieldLink RX3 18 "QueryGateway$Query" "count" "I", Cond.methodLink RX2 75 yX3_aboveOf, Cond.instanceMethod yX3_aboveOf, Cond.selects RX3 yX3_aboveOf yX3_aboveOf, Cond.code yX3_aboveOf cX3_aboveOf 2 (some .int), Cond.fieldLink RX3 9 "QueryGateway$Query" "above" "[I", Cond.methodLink RX3 25 yX3_has, Cond.instanceMethod yX3_has, Cond.selects RX3 yX3_has yX3_has]
def wsL_hops_r3 : List Cond := [Cond.code yX3_has cX3_has 2 (some .boolean), Cond.methodLink RX2 79 yX3_slotAt, Cond.instanceMethod yX3_slotAt, Cond.selects RX3 yX3_slotAt yX3_slotAt, Cond.code yX3_slotAt cX3_slotAt 2 (some .int), Cond.fieldLink RX3 15 "QueryGateway$Query" "slots" "[I", Cond.methodLink RX2 82 yX1_ownersOf, Cond.instanceMethod yX1_ownersOf, Cond.selects RX1 yX1_ownersOf yX1_ownersOf, Cond.initialized RX1, Cond.code yX1_ownersOf cX1_ownersOf 2 (some .int), Cond.fieldLink RX1 22 "QueryGateway$Graph" "owners" "[I", Cond.static yX4_isSlot, Cond.code yX4_isSlot cX4_isSlot 1 (some .boolean), Cond.methodLink RX2 43 yX2_countHopsBelow, Cond.instanceMethod yX2_countHopsBelow, Cond.selects RX2 yX2_countHopsBelow yX2_countHopsBelow, Cond.code yX2_countHopsBelow cX2_countHopsBelow 3 none, Cond.fieldLink RX2 26 "QueryGateway$Plan" "hopsBelow" "[I", Cond.methodLink RX2 46 yX2_hopsAt, Cond.instanceMethod yX2_hopsAt, Cond.selects RX2 yX2_hopsAt yX2_hopsAt, Cond.code yX2_hopsAt cX2_hopsAt 6 (some .int), Cond.static yX4_bit]
def wsL_hops_r4 : List Cond := [Cond.code yX4_bit cX4_bit 1 (some .int), Cond.methodLink RX2 93 yJ6_bitCount_0f7a4, Cond.static yJ6_bitCount_0f7a4, Cond.initialized RJ6, Cond.code yJ6_bitCount_0f7a4 cJ6_bitCount_0f7a4 1 (some .int), Cond.constant RJ6 265 (1431655765), Cond.constant RJ6 266 (858993459), Cond.constant RJ6 267 (252645135), Cond.methodLink RX2 98 yX2_hopsUnder, Cond.instanceMethod yX2_hopsUnder, Cond.selects RX2 yX2_hopsUnder yX2_hopsUnder, Cond.code yX2_hopsUnder cX2_hopsUnder 7 (some .int), Cond.methodLink RX2 54 yX2_chooseServices, Cond.instanceMethod yX2_chooseServices, Cond.selects RX2 yX2_chooseServices yX2_chooseServices, Cond.code yX2_chooseServices cX2_chooseServices 7 none, Cond.fieldLink RX2 29 "QueryGateway$Plan" "services" "[I", Cond.methodLink RX2 87 yX2_serviceOf, Cond.instanceMethod yX2_serviceOf, Cond.selects RX2 yX2_serviceOf yX2_serviceOf, Cond.code yX2_serviceOf cX2_serviceOf 2 (some .int), Cond.methodLink RX2 57 yX3_has, Cond.methodLink RX4 135 yX2_length, Cond.instanceMethod yX2_length]
def wsL_hops_r5 : List Cond := [Cond.selects RX2 yX2_length yX2_length, Cond.code yX2_length cX2_length 1 (some .int)]
def wsL_hops : List Cond := .codeWith yL_hops cL_hops 3 (some .int) [(0, 8, 11, 15)] :: ((wsL_hops_r1 ++ (wsL_hops_r2 ++ (wsL_hops_r3 ++ (wsL_hops_r4 ++ wsL_hops_r5)))) ++ wsX40 ++ wsX20 ++ wsX30 ++ wsX10 ++ (vx_atS RX4 67 "java/lang/IllegalStateException" ["java/lang/RuntimeException", "java/lang/Exception"]).filter goodWord)
def wsL_takenFrom_r1 : List Cond := [Cond.classLink RL 21 "java/lang/IndexOutOfBoundsException", Cond.classLink RL 15 "java/lang/IllegalStateException", Cond.methodLink RL 46 yX4_takenFrom, Cond.instanceMethod yX4_takenFrom, Cond.selects RX4 yX4_takenFrom yX4_takenFrom, Cond.initialized RX4, Cond.code yX4_takenFrom cX4_takenFrom 2 (some .int), Cond.fieldLink RX4 28 "QueryGateway" "plan" "LQueryGateway$Plan;", Cond.methodLink RX4 110 yX4_checkNode, Cond.instanceMethod yX4_checkNode, Cond.selects RX4 yX4_checkNode yX4_checkNode, Cond.code yX4_checkNode cX4_checkNode 2 none, Cond.classLink RX4 190 "java/lang/IndexOutOfBoundsException", Cond.initialized "java/lang/IndexOutOfBoundsException", Cond.fieldLink RX4 24 "QueryGateway" "query" "LQueryGateway$Query;", Cond.methodLink RX4 195 yX3_has, Cond.instanceMethod yX3_has, Cond.selects RX3 yX3_has yX3_has, Cond.initialized RX3, Cond.code yX3_has cX3_has 2 (some .boolean), Cond.fieldLink RX3 18 "QueryGateway$Query" "count" "I", Cond.methodLink RX4 132 yX4_checkPlan, Cond.instanceMethod yX4_checkPlan, Cond.selects RX4 yX4_checkPlan yX4_checkPlan]
def wsL_takenFrom_r2 : List Cond := [Cond.code yX4_checkPlan cX4_checkPlan 1 none, Cond.classLink RX4 63 "java/lang/IllegalStateException", Cond.initialized "java/lang/IllegalStateException", Cond.methodLink RX4 200 yX2_find, Cond.instanceMethod yX2_find, Cond.selects RX2 yX2_find yX2_find, Cond.initialized RX2, Cond.code yX2_find cX2_find 1 (some .boolean), Cond.fieldLink RX2 32 "QueryGateway$Plan" "known" "Z", Cond.fieldLink RX2 40 "QueryGateway$Plan" "there" "Z", Cond.fieldLink RX2 50 "QueryGateway$Plan" "length" "I", Cond.methodLink RX2 36 yX2_openChoices, Cond.instanceMethod yX2_openChoices, Cond.selects RX2 yX2_openChoices yX2_openChoices, Cond.code yX2_openChoices cX2_openChoices 3 (some .boolean), Cond.fieldLink RX2 15 "QueryGateway$Plan" "query" "LQueryGateway$Query;", Cond.methodLink RX2 67 Lib.Math.min.name, Cond.static Lib.Math.min.name, Cond.initialized "java/lang/Math", Cond.code Lib.Math.min.name Lib.Math.min.code 2 (some .int), Cond.fieldLink RX2 72 "QueryGateway$Plan" "count" "I", Cond.fieldLink RX2 19 "QueryGateway$Plan" "places" "[I", Cond.fieldLink RX2 23 "QueryGateway$Plan" "choices" "[I", Cond.fieldLink RX2 9 "QueryGateway$Plan" "graph" "LQueryGateway$Graph;"]
def wsL_takenFrom_r3 : List Cond := [Cond.methodLink RX2 63 yX3_size, Cond.instanceMethod yX3_size, Cond.selects RX3 yX3_size yX3_size, Cond.code yX3_size cX3_size 1 (some .int), Cond.methodLink RX2 75 yX3_aboveOf, Cond.instanceMethod yX3_aboveOf, Cond.selects RX3 yX3_aboveOf yX3_aboveOf, Cond.code yX3_aboveOf cX3_aboveOf 2 (some .int), Cond.fieldLink RX3 9 "QueryGateway$Query" "above" "[I", Cond.methodLink RX3 25 yX3_has, Cond.methodLink RX2 79 yX3_slotAt, Cond.instanceMethod yX3_slotAt, Cond.selects RX3 yX3_slotAt yX3_slotAt, Cond.code yX3_slotAt cX3_slotAt 2 (some .int), Cond.fieldLink RX3 15 "QueryGateway$Query" "slots" "[I", Cond.methodLink RX2 82 yX1_ownersOf, Cond.instanceMethod yX1_ownersOf, Cond.selects RX1 yX1_ownersOf yX1_ownersOf, Cond.initialized RX1, Cond.code yX1_ownersOf cX1_ownersOf 2 (some .int), Cond.fieldLink RX1 22 "QueryGateway$Graph" "owners" "[I", Cond.static yX4_isSlot, Cond.code yX4_isSlot cX4_isSlot 1 (some .boolean), Cond.methodLink RX2 43 yX2_countHopsBelow]
def wsL_takenFrom_r4 : List Cond := [Cond.instanceMethod yX2_countHopsBelow, Cond.selects RX2 yX2_countHopsBelow yX2_countHopsBelow, Cond.code yX2_countHopsBelow cX2_countHopsBelow 3 none, Cond.fieldLink RX2 26 "QueryGateway$Plan" "hopsBelow" "[I", Cond.methodLink RX2 46 yX2_hopsAt, Cond.instanceMethod yX2_hopsAt, Cond.selects RX2 yX2_hopsAt yX2_hopsAt, Cond.code yX2_hopsAt cX2_hopsAt 6 (some .int), Cond.static yX4_bit, Cond.code yX4_bit cX4_bit 1 (some .int), Cond.methodLink RX2 93 yJ6_bitCount_0f7a4, Cond.static yJ6_bitCount_0f7a4, Cond.initialized RJ6, Cond.code yJ6_bitCount_0f7a4 cJ6_bitCount_0f7a4 1 (some .int), Cond.constant RJ6 265 (1431655765), Cond.constant RJ6 266 (858993459), Cond.constant RJ6 267 (252645135), Cond.methodLink RX2 98 yX2_hopsUnder, Cond.instanceMethod yX2_hopsUnder, Cond.selects RX2 yX2_hopsUnder yX2_hopsUnder, Cond.code yX2_hopsUnder cX2_hopsUnder 7 (some .int), Cond.methodLink RX2 54 yX2_chooseServices, Cond.instanceMethod yX2_chooseServices, Cond.selects RX2 yX2_chooseServices yX2_chooseServices]
def wsL_takenFrom_r5 : List Cond := [Cond.code yX2_chooseServices cX2_chooseServices 7 none, Cond.fieldLink RX2 29 "QueryGateway$Plan" "services" "[I", Cond.methodLink RX2 87 yX2_serviceOf, Cond.instanceMethod yX2_serviceOf, Cond.selects RX2 yX2_serviceOf yX2_serviceOf, Cond.code yX2_serviceOf cX2_serviceOf 2 (some .int), Cond.methodLink RX2 57 yX3_has, Cond.methodLink RX4 138 yX2_serviceOf]
def wsL_takenFrom : List Cond := .codeWith yL_takenFrom cL_takenFrom 4 (some .int) [(0, 9, 12, 21), (0, 9, 15, 15)] :: ((wsL_takenFrom_r1 ++ (wsL_takenFrom_r2 ++ (wsL_takenFrom_r3 ++ (wsL_takenFrom_r4 ++ wsL_takenFrom_r5)))) ++ wsX40 ++ wsX30 ++ wsX20 ++ wsX10 ++ (vx_atS RX4 194 "java/lang/IndexOutOfBoundsException" ["java/lang/RuntimeException", "java/lang/Exception"]).filter goodWord ++ (vx_atS RX4 67 "java/lang/IllegalStateException" ["java/lang/RuntimeException", "java/lang/Exception"]).filter goodWord)
def wsL_used_r1 : List Cond := [Cond.classLink RL 15 "java/lang/IllegalStateException", Cond.methodLink RL 49 yX4_used, Cond.instanceMethod yX4_used, Cond.selects RX4 yX4_used yX4_used, Cond.initialized RX4, Cond.code yX4_used cX4_used 3 (some .int), Cond.fieldLink RX4 24 "QueryGateway" "query" "LQueryGateway$Query;", Cond.fieldLink RX4 28 "QueryGateway" "plan" "LQueryGateway$Plan;", Cond.methodLink RX4 132 yX4_checkPlan, Cond.instanceMethod yX4_checkPlan, Cond.selects RX4 yX4_checkPlan yX4_checkPlan, Cond.code yX4_checkPlan cX4_checkPlan 1 none, Cond.classLink RX4 63 "java/lang/IllegalStateException", Cond.initialized "java/lang/IllegalStateException", Cond.methodLink RX4 200 yX2_find, Cond.instanceMethod yX2_find, Cond.selects RX2 yX2_find yX2_find, Cond.initialized RX2, Cond.code yX2_find cX2_find 1 (some .boolean), Cond.fieldLink RX2 32 "QueryGateway$Plan" "known" "Z", Cond.fieldLink RX2 40 "QueryGateway$Plan" "there" "Z", Cond.fieldLink RX2 50 "QueryGateway$Plan" "length" "I", Cond.methodLink RX2 36 yX2_openChoices, Cond.instanceMethod yX2_openChoices]
def wsL_used_r2 : List Cond := [Cond.selects RX2 yX2_openChoices yX2_openChoices, Cond.code yX2_openChoices cX2_openChoices 3 (some .boolean), Cond.fieldLink RX2 15 "QueryGateway$Plan" "query" "LQueryGateway$Query;", Cond.methodLink RX2 67 Lib.Math.min.name, Cond.static Lib.Math.min.name, Cond.initialized "java/lang/Math", Cond.code Lib.Math.min.name Lib.Math.min.code 2 (some .int), Cond.fieldLink RX2 72 "QueryGateway$Plan" "count" "I", Cond.fieldLink RX2 19 "QueryGateway$Plan" "places" "[I", Cond.fieldLink RX2 23 "QueryGateway$Plan" "choices" "[I", Cond.fieldLink RX2 9 "QueryGateway$Plan" "graph" "LQueryGateway$Graph;", Cond.methodLink RX2 63 yX3_size, Cond.instanceMethod yX3_size, Cond.selects RX3 yX3_size yX3_size, Cond.initialized RX3, Cond.code yX3_size cX3_size 1 (some .int), Cond.fieldLink RX3 18 "QueryGateway$Query" "count" "I", Cond.methodLink RX2 75 yX3_aboveOf, Cond.instanceMethod yX3_aboveOf, Cond.selects RX3 yX3_aboveOf yX3_aboveOf, Cond.code yX3_aboveOf cX3_aboveOf 2 (some .int), Cond.fieldLink RX3 9 "QueryGateway$Query" "above" "[I", Cond.methodLink RX3 25 yX3_has, Cond.instanceMethod yX3_has]
def wsL_used_r3 : List Cond := [Cond.selects RX3 yX3_has yX3_has, Cond.code yX3_has cX3_has 2 (some .boolean), Cond.methodLink RX2 79 yX3_slotAt, Cond.instanceMethod yX3_slotAt, Cond.selects RX3 yX3_slotAt yX3_slotAt, Cond.code yX3_slotAt cX3_slotAt 2 (some .int), Cond.fieldLink RX3 15 "QueryGateway$Query" "slots" "[I", Cond.methodLink RX2 82 yX1_ownersOf, Cond.instanceMethod yX1_ownersOf, Cond.selects RX1 yX1_ownersOf yX1_ownersOf, Cond.initialized RX1, Cond.code yX1_ownersOf cX1_ownersOf 2 (some .int), Cond.fieldLink RX1 22 "QueryGateway$Graph" "owners" "[I", Cond.static yX4_isSlot, Cond.code yX4_isSlot cX4_isSlot 1 (some .boolean), Cond.methodLink RX2 43 yX2_countHopsBelow, Cond.instanceMethod yX2_countHopsBelow, Cond.selects RX2 yX2_countHopsBelow yX2_countHopsBelow, Cond.code yX2_countHopsBelow cX2_countHopsBelow 3 none, Cond.fieldLink RX2 26 "QueryGateway$Plan" "hopsBelow" "[I", Cond.methodLink RX2 46 yX2_hopsAt, Cond.instanceMethod yX2_hopsAt, Cond.selects RX2 yX2_hopsAt yX2_hopsAt, Cond.code yX2_hopsAt cX2_hopsAt 6 (some .int)]
def wsL_used_r4 : List Cond := [Cond.static yX4_bit, Cond.code yX4_bit cX4_bit 1 (some .int), Cond.methodLink RX2 93 yJ6_bitCount_0f7a4, Cond.static yJ6_bitCount_0f7a4, Cond.initialized RJ6, Cond.code yJ6_bitCount_0f7a4 cJ6_bitCount_0f7a4 1 (some .int), Cond.constant RJ6 265 (1431655765), Cond.constant RJ6 266 (858993459), Cond.constant RJ6 267 (252645135), Cond.methodLink RX2 98 yX2_hopsUnder, Cond.instanceMethod yX2_hopsUnder, Cond.selects RX2 yX2_hopsUnder yX2_hopsUnder, Cond.code yX2_hopsUnder cX2_hopsUnder 7 (some .int), Cond.methodLink RX2 54 yX2_chooseServices, Cond.instanceMethod yX2_chooseServices, Cond.selects RX2 yX2_chooseServices yX2_chooseServices, Cond.code yX2_chooseServices cX2_chooseServices 7 none, Cond.fieldLink RX2 29 "QueryGateway$Plan" "services" "[I", Cond.methodLink RX2 87 yX2_serviceOf, Cond.instanceMethod yX2_serviceOf, Cond.selects RX2 yX2_serviceOf yX2_serviceOf, Cond.code yX2_serviceOf cX2_serviceOf 2 (some .int), Cond.methodLink RX2 57 yX3_has, Cond.methodLink RX4 125 yX3_size]
def wsL_used_r5 : List Cond := [Cond.methodLink RX4 138 yX2_serviceOf, Cond.methodLink RX4 141 yX4_bit]
def wsL_used : List Cond := .codeWith yL_used cL_used 3 (some .int) [(0, 8, 11, 15)] :: ((wsL_used_r1 ++ (wsL_used_r2 ++ (wsL_used_r3 ++ (wsL_used_r4 ++ wsL_used_r5)))) ++ wsX40 ++ wsX20 ++ wsX30 ++ wsX10 ++ (vx_atS RX4 67 "java/lang/IllegalStateException" ["java/lang/RuntimeException", "java/lang/Exception"]).filter goodWord)
def wsL_value_r1 : List Cond := [Cond.classLink RL 13 "java/lang/IllegalArgumentException", Cond.classLink RL 21 "java/lang/IndexOutOfBoundsException", Cond.classLink RL 15 "java/lang/IllegalStateException", Cond.methodLink RL 52 yX4_value, Cond.instanceMethod yX4_value, Cond.selects RX4 yX4_value yX4_value, Cond.initialized RX4, Cond.code yX4_value cX4_value 3 (some .int), Cond.fieldLink RX4 37 "QueryGateway" "answer" "LQueryGateway$Answer;", Cond.fieldLink RX4 20 "QueryGateway" "graph" "LQueryGateway$Graph;", Cond.methodLink RX4 90 yX4_checkKey, Cond.static yX4_checkKey, Cond.code yX4_checkKey cX4_checkKey 1 none, Cond.classLink RX4 52 "java/lang/IllegalArgumentException", Cond.initialized "java/lang/IllegalArgumentException", Cond.methodLink RX4 185 yX4_isKey, Cond.static yX4_isKey, Cond.code yX4_isKey cX4_isKey 1 (some .boolean), Cond.methodLink RX4 110 yX4_checkNode, Cond.instanceMethod yX4_checkNode, Cond.selects RX4 yX4_checkNode yX4_checkNode, Cond.code yX4_checkNode cX4_checkNode 2 none, Cond.classLink RX4 190 "java/lang/IndexOutOfBoundsException", Cond.initialized "java/lang/IndexOutOfBoundsException"]
def wsL_value_r2 : List Cond := [Cond.fieldLink RX4 24 "QueryGateway" "query" "LQueryGateway$Query;", Cond.methodLink RX4 195 yX3_has, Cond.instanceMethod yX3_has, Cond.selects RX3 yX3_has yX3_has, Cond.initialized RX3, Cond.code yX3_has cX3_has 2 (some .boolean), Cond.fieldLink RX3 18 "QueryGateway$Query" "count" "I", Cond.methodLink RX4 132 yX4_checkPlan, Cond.instanceMethod yX4_checkPlan, Cond.selects RX4 yX4_checkPlan yX4_checkPlan, Cond.code yX4_checkPlan cX4_checkPlan 1 none, Cond.classLink RX4 63 "java/lang/IllegalStateException", Cond.initialized "java/lang/IllegalStateException", Cond.fieldLink RX4 28 "QueryGateway" "plan" "LQueryGateway$Plan;", Cond.methodLink RX4 200 yX2_find, Cond.instanceMethod yX2_find, Cond.selects RX2 yX2_find yX2_find, Cond.initialized RX2, Cond.code yX2_find cX2_find 1 (some .boolean), Cond.fieldLink RX2 32 "QueryGateway$Plan" "known" "Z", Cond.fieldLink RX2 40 "QueryGateway$Plan" "there" "Z", Cond.fieldLink RX2 50 "QueryGateway$Plan" "length" "I", Cond.methodLink RX2 36 yX2_openChoices, Cond.instanceMethod yX2_openChoices]
def wsL_value_r3 : List Cond := [Cond.selects RX2 yX2_openChoices yX2_openChoices, Cond.code yX2_openChoices cX2_openChoices 3 (some .boolean), Cond.fieldLink RX2 15 "QueryGateway$Plan" "query" "LQueryGateway$Query;", Cond.methodLink RX2 67 Lib.Math.min.name, Cond.static Lib.Math.min.name, Cond.initialized "java/lang/Math", Cond.code Lib.Math.min.name Lib.Math.min.code 2 (some .int), Cond.fieldLink RX2 72 "QueryGateway$Plan" "count" "I", Cond.fieldLink RX2 19 "QueryGateway$Plan" "places" "[I", Cond.fieldLink RX2 23 "QueryGateway$Plan" "choices" "[I", Cond.fieldLink RX2 9 "QueryGateway$Plan" "graph" "LQueryGateway$Graph;", Cond.methodLink RX2 63 yX3_size, Cond.instanceMethod yX3_size, Cond.selects RX3 yX3_size yX3_size, Cond.code yX3_size cX3_size 1 (some .int), Cond.methodLink RX2 75 yX3_aboveOf, Cond.instanceMethod yX3_aboveOf, Cond.selects RX3 yX3_aboveOf yX3_aboveOf, Cond.code yX3_aboveOf cX3_aboveOf 2 (some .int), Cond.fieldLink RX3 9 "QueryGateway$Query" "above" "[I", Cond.methodLink RX3 25 yX3_has, Cond.methodLink RX2 79 yX3_slotAt, Cond.instanceMethod yX3_slotAt, Cond.selects RX3 yX3_slotAt yX3_slotAt]
def wsL_value_r4 : List Cond := [Cond.code yX3_slotAt cX3_slotAt 2 (some .int), Cond.fieldLink RX3 15 "QueryGateway$Query" "slots" "[I", Cond.methodLink RX2 82 yX1_ownersOf, Cond.instanceMethod yX1_ownersOf, Cond.selects RX1 yX1_ownersOf yX1_ownersOf, Cond.initialized RX1, Cond.code yX1_ownersOf cX1_ownersOf 2 (some .int), Cond.fieldLink RX1 22 "QueryGateway$Graph" "owners" "[I", Cond.static yX4_isSlot, Cond.code yX4_isSlot cX4_isSlot 1 (some .boolean), Cond.methodLink RX2 43 yX2_countHopsBelow, Cond.instanceMethod yX2_countHopsBelow, Cond.selects RX2 yX2_countHopsBelow yX2_countHopsBelow, Cond.code yX2_countHopsBelow cX2_countHopsBelow 3 none, Cond.fieldLink RX2 26 "QueryGateway$Plan" "hopsBelow" "[I", Cond.methodLink RX2 46 yX2_hopsAt, Cond.instanceMethod yX2_hopsAt, Cond.selects RX2 yX2_hopsAt yX2_hopsAt, Cond.code yX2_hopsAt cX2_hopsAt 6 (some .int), Cond.static yX4_bit, Cond.code yX4_bit cX4_bit 1 (some .int), Cond.methodLink RX2 93 yJ6_bitCount_0f7a4, Cond.static yJ6_bitCount_0f7a4, Cond.initialized RJ6]
def wsL_value_r5 : List Cond := [Cond.code yJ6_bitCount_0f7a4 cJ6_bitCount_0f7a4 1 (some .int), Cond.constant RJ6 265 (1431655765), Cond.constant RJ6 266 (858993459), Cond.constant RJ6 267 (252645135), Cond.methodLink RX2 98 yX2_hopsUnder, Cond.instanceMethod yX2_hopsUnder, Cond.selects RX2 yX2_hopsUnder yX2_hopsUnder, Cond.code yX2_hopsUnder cX2_hopsUnder 7 (some .int), Cond.methodLink RX2 54 yX2_chooseServices, Cond.instanceMethod yX2_chooseServices, Cond.selects RX2 yX2_chooseServices yX2_chooseServices, Cond.code yX2_chooseServices cX2_chooseServices 7 none, Cond.fieldLink RX2 29 "QueryGateway$Plan" "services" "[I", Cond.methodLink RX2 87 yX2_serviceOf, Cond.instanceMethod yX2_serviceOf, Cond.selects RX2 yX2_serviceOf yX2_serviceOf, Cond.code yX2_serviceOf cX2_serviceOf 2 (some .int), Cond.methodLink RX2 57 yX3_has, Cond.methodLink RX4 144 yX1_failures, Cond.instanceMethod yX1_failures, Cond.selects RX1 yX1_failures yX1_failures, Cond.code yX1_failures cX1_failures 1 (some .int), Cond.fieldLink RX1 61 "QueryGateway$Graph" "failed" "I", Cond.methodLink RX4 147 yX0_read]
def wsL_value_r6 : List Cond := [Cond.instanceMethod yX0_read, Cond.selects RX0 yX0_read yX0_read, Cond.initialized RX0, Cond.code yX0_read cX0_read 3 none, Cond.methodLink RX0 34 yX0_readValues, Cond.instanceMethod yX0_readValues, Cond.selects RX0 yX0_readValues yX0_readValues, Cond.code yX0_readValues cX0_readValues 7 none, Cond.fieldLink RX0 15 "QueryGateway$Answer" "query" "LQueryGateway$Query;", Cond.fieldLink RX0 27 "QueryGateway$Answer" "values" "[I", Cond.fieldLink RX0 19 "QueryGateway$Answer" "plan" "LQueryGateway$Plan;", Cond.fieldLink RX0 23 "QueryGateway$Answer" "entities" "[I", Cond.fieldLink RX0 9 "QueryGateway$Answer" "graph" "LQueryGateway$Graph;", Cond.fieldLink RX0 30 "QueryGateway$Answer" "missing" "[Z", Cond.methodLink RX0 54 yX3_size, Cond.methodLink RX0 66 yX3_aboveOf, Cond.methodLink RX0 48 yX3_has, Cond.methodLink RX0 69 yX2_serviceOf, Cond.methodLink RX0 77 yX3_slotAt, Cond.methodLink RX0 80 yX1_valueOf, Cond.instanceMethod yX1_valueOf, Cond.selects RX1 yX1_valueOf yX1_valueOf, Cond.code yX1_valueOf cX1_valueOf 3 (some .int), Cond.fieldLink RX1 25 "QueryGateway$Graph" "values" "[I"]
def wsL_value_r7 : List Cond := [Cond.methodLink RX0 38 yX0_letMissingClimb, Cond.instanceMethod yX0_letMissingClimb, Cond.selects RX0 yX0_letMissingClimb yX0_letMissingClimb, Cond.code yX0_letMissingClimb cX0_letMissingClimb 3 none, Cond.fieldLink RX0 44 "QueryGateway$Answer" "allMissing" "Z", Cond.methodLink RX0 86 Lib.Math.min.name, Cond.methodLink RX0 91 yX1_isRequired, Cond.instanceMethod yX1_isRequired, Cond.selects RX1 yX1_isRequired yX1_isRequired, Cond.code yX1_isRequired cX1_isRequired 2 (some .boolean), Cond.fieldLink RX1 18 "QueryGateway$Graph" "required" "[Z", Cond.methodLink RX0 41 yX0_letMissingFall, Cond.instanceMethod yX0_letMissingFall, Cond.selects RX0 yX0_letMissingFall yX0_letMissingFall, Cond.code yX0_letMissingFall cX0_letMissingFall 3 none, Cond.methodLink RX4 150 yX0_told, Cond.instanceMethod yX0_told, Cond.selects RX0 yX0_told yX0_told, Cond.code yX0_told cX0_told 2 (some .int)]
def wsL_value : List Cond := .codeWith yL_value cL_value 5 (some .int) [(0, 10, 13, 13), (0, 10, 17, 21), (0, 10, 21, 15)] :: ((wsL_value_r1 ++ (wsL_value_r2 ++ (wsL_value_r3 ++ (wsL_value_r4 ++ (wsL_value_r5 ++ (wsL_value_r6 ++ wsL_value_r7)))))) ++ wsX40 ++ wsX30 ++ wsX20 ++ wsX10 ++ wsX00 ++ (vx_atS RX4 56 "java/lang/IllegalArgumentException" ["java/lang/RuntimeException", "java/lang/Exception"]).filter goodWord ++ (vx_atS RX4 194 "java/lang/IndexOutOfBoundsException" ["java/lang/RuntimeException", "java/lang/Exception"]).filter goodWord ++ (vx_atS RX4 67 "java/lang/IllegalStateException" ["java/lang/RuntimeException", "java/lang/Exception"]).filter goodWord)
def wsL_isMissing_r1 : List Cond := [Cond.classLink RL 13 "java/lang/IllegalArgumentException", Cond.classLink RL 15 "java/lang/IllegalStateException", Cond.methodLink RL 55 yX4_isMissing, Cond.instanceMethod yX4_isMissing, Cond.selects RX4 yX4_isMissing yX4_isMissing, Cond.initialized RX4, Cond.code yX4_isMissing cX4_isMissing 2 (some .boolean), Cond.fieldLink RX4 37 "QueryGateway" "answer" "LQueryGateway$Answer;", Cond.fieldLink RX4 20 "QueryGateway" "graph" "LQueryGateway$Graph;", Cond.methodLink RX4 90 yX4_checkKey, Cond.static yX4_checkKey, Cond.code yX4_checkKey cX4_checkKey 1 none, Cond.classLink RX4 52 "java/lang/IllegalArgumentException", Cond.initialized "java/lang/IllegalArgumentException", Cond.methodLink RX4 185 yX4_isKey, Cond.static yX4_isKey, Cond.code yX4_isKey cX4_isKey 1 (some .boolean), Cond.methodLink RX4 132 yX4_checkPlan, Cond.instanceMethod yX4_checkPlan, Cond.selects RX4 yX4_checkPlan yX4_checkPlan, Cond.code yX4_checkPlan cX4_checkPlan 1 none, Cond.classLink RX4 63 "java/lang/IllegalStateException", Cond.initialized "java/lang/IllegalStateException", Cond.fieldLink RX4 28 "QueryGateway" "plan" "LQueryGateway$Plan;"]
def wsL_isMissing_r2 : List Cond := [Cond.methodLink RX4 200 yX2_find, Cond.instanceMethod yX2_find, Cond.selects RX2 yX2_find yX2_find, Cond.initialized RX2, Cond.code yX2_find cX2_find 1 (some .boolean), Cond.fieldLink RX2 32 "QueryGateway$Plan" "known" "Z", Cond.fieldLink RX2 40 "QueryGateway$Plan" "there" "Z", Cond.fieldLink RX2 50 "QueryGateway$Plan" "length" "I", Cond.methodLink RX2 36 yX2_openChoices, Cond.instanceMethod yX2_openChoices, Cond.selects RX2 yX2_openChoices yX2_openChoices, Cond.code yX2_openChoices cX2_openChoices 3 (some .boolean), Cond.fieldLink RX2 15 "QueryGateway$Plan" "query" "LQueryGateway$Query;", Cond.methodLink RX2 67 Lib.Math.min.name, Cond.static Lib.Math.min.name, Cond.initialized "java/lang/Math", Cond.code Lib.Math.min.name Lib.Math.min.code 2 (some .int), Cond.fieldLink RX2 72 "QueryGateway$Plan" "count" "I", Cond.fieldLink RX2 19 "QueryGateway$Plan" "places" "[I", Cond.fieldLink RX2 23 "QueryGateway$Plan" "choices" "[I", Cond.fieldLink RX2 9 "QueryGateway$Plan" "graph" "LQueryGateway$Graph;", Cond.methodLink RX2 63 yX3_size, Cond.instanceMethod yX3_size, Cond.selects RX3 yX3_size yX3_size]
def wsL_isMissing_r3 : List Cond := [Cond.initialized RX3, Cond.code yX3_size cX3_size 1 (some .int), Cond.fieldLink RX3 18 "QueryGateway$Query" "count" "I", Cond.methodLink RX2 75 yX3_aboveOf, Cond.instanceMethod yX3_aboveOf, Cond.selects RX3 yX3_aboveOf yX3_aboveOf, Cond.code yX3_aboveOf cX3_aboveOf 2 (some .int), Cond.fieldLink RX3 9 "QueryGateway$Query" "above" "[I", Cond.methodLink RX3 25 yX3_has, Cond.instanceMethod yX3_has, Cond.selects RX3 yX3_has yX3_has, Cond.code yX3_has cX3_has 2 (some .boolean), Cond.methodLink RX2 79 yX3_slotAt, Cond.instanceMethod yX3_slotAt, Cond.selects RX3 yX3_slotAt yX3_slotAt, Cond.code yX3_slotAt cX3_slotAt 2 (some .int), Cond.fieldLink RX3 15 "QueryGateway$Query" "slots" "[I", Cond.methodLink RX2 82 yX1_ownersOf, Cond.instanceMethod yX1_ownersOf, Cond.selects RX1 yX1_ownersOf yX1_ownersOf, Cond.initialized RX1, Cond.code yX1_ownersOf cX1_ownersOf 2 (some .int), Cond.fieldLink RX1 22 "QueryGateway$Graph" "owners" "[I", Cond.static yX4_isSlot]
def wsL_isMissing_r4 : List Cond := [Cond.code yX4_isSlot cX4_isSlot 1 (some .boolean), Cond.methodLink RX2 43 yX2_countHopsBelow, Cond.instanceMethod yX2_countHopsBelow, Cond.selects RX2 yX2_countHopsBelow yX2_countHopsBelow, Cond.code yX2_countHopsBelow cX2_countHopsBelow 3 none, Cond.fieldLink RX2 26 "QueryGateway$Plan" "hopsBelow" "[I", Cond.methodLink RX2 46 yX2_hopsAt, Cond.instanceMethod yX2_hopsAt, Cond.selects RX2 yX2_hopsAt yX2_hopsAt, Cond.code yX2_hopsAt cX2_hopsAt 6 (some .int), Cond.static yX4_bit, Cond.code yX4_bit cX4_bit 1 (some .int), Cond.methodLink RX2 93 yJ6_bitCount_0f7a4, Cond.static yJ6_bitCount_0f7a4, Cond.initialized RJ6, Cond.code yJ6_bitCount_0f7a4 cJ6_bitCount_0f7a4 1 (some .int), Cond.constant RJ6 265 (1431655765), Cond.constant RJ6 266 (858993459), Cond.constant RJ6 267 (252645135), Cond.methodLink RX2 98 yX2_hopsUnder, Cond.instanceMethod yX2_hopsUnder, Cond.selects RX2 yX2_hopsUnder yX2_hopsUnder, Cond.code yX2_hopsUnder cX2_hopsUnder 7 (some .int), Cond.methodLink RX2 54 yX2_chooseServices]
def wsL_isMissing_r5 : List Cond := [Cond.instanceMethod yX2_chooseServices, Cond.selects RX2 yX2_chooseServices yX2_chooseServices, Cond.code yX2_chooseServices cX2_chooseServices 7 none, Cond.fieldLink RX2 29 "QueryGateway$Plan" "services" "[I", Cond.methodLink RX2 87 yX2_serviceOf, Cond.instanceMethod yX2_serviceOf, Cond.selects RX2 yX2_serviceOf yX2_serviceOf, Cond.code yX2_serviceOf cX2_serviceOf 2 (some .int), Cond.methodLink RX2 57 yX3_has, Cond.methodLink RX4 144 yX1_failures, Cond.instanceMethod yX1_failures, Cond.selects RX1 yX1_failures yX1_failures, Cond.code yX1_failures cX1_failures 1 (some .int), Cond.fieldLink RX1 61 "QueryGateway$Graph" "failed" "I", Cond.methodLink RX4 147 yX0_read, Cond.instanceMethod yX0_read, Cond.selects RX0 yX0_read yX0_read, Cond.initialized RX0, Cond.code yX0_read cX0_read 3 none, Cond.methodLink RX0 34 yX0_readValues, Cond.instanceMethod yX0_readValues, Cond.selects RX0 yX0_readValues yX0_readValues, Cond.code yX0_readValues cX0_readValues 7 none, Cond.fieldLink RX0 15 "QueryGateway$Answer" "query" "LQueryGateway$Query;"]
def wsL_isMissing_r6 : List Cond := [Cond.fieldLink RX0 27 "QueryGateway$Answer" "values" "[I", Cond.fieldLink RX0 19 "QueryGateway$Answer" "plan" "LQueryGateway$Plan;", Cond.fieldLink RX0 23 "QueryGateway$Answer" "entities" "[I", Cond.fieldLink RX0 9 "QueryGateway$Answer" "graph" "LQueryGateway$Graph;", Cond.fieldLink RX0 30 "QueryGateway$Answer" "missing" "[Z", Cond.methodLink RX0 54 yX3_size, Cond.methodLink RX0 66 yX3_aboveOf, Cond.methodLink RX0 48 yX3_has, Cond.methodLink RX0 69 yX2_serviceOf, Cond.methodLink RX0 77 yX3_slotAt, Cond.methodLink RX0 80 yX1_valueOf, Cond.instanceMethod yX1_valueOf, Cond.selects RX1 yX1_valueOf yX1_valueOf, Cond.code yX1_valueOf cX1_valueOf 3 (some .int), Cond.fieldLink RX1 25 "QueryGateway$Graph" "values" "[I", Cond.methodLink RX0 38 yX0_letMissingClimb, Cond.instanceMethod yX0_letMissingClimb, Cond.selects RX0 yX0_letMissingClimb yX0_letMissingClimb, Cond.code yX0_letMissingClimb cX0_letMissingClimb 3 none, Cond.fieldLink RX0 44 "QueryGateway$Answer" "allMissing" "Z", Cond.methodLink RX0 86 Lib.Math.min.name, Cond.methodLink RX0 91 yX1_isRequired, Cond.instanceMethod yX1_isRequired, Cond.selects RX1 yX1_isRequired yX1_isRequired]
def wsL_isMissing_r7 : List Cond := [Cond.code yX1_isRequired cX1_isRequired 2 (some .boolean), Cond.fieldLink RX1 18 "QueryGateway$Graph" "required" "[Z", Cond.methodLink RX0 41 yX0_letMissingFall, Cond.instanceMethod yX0_letMissingFall, Cond.selects RX0 yX0_letMissingFall yX0_letMissingFall, Cond.code yX0_letMissingFall cX0_letMissingFall 3 none, Cond.methodLink RX4 153 yX0_isAllMissing, Cond.instanceMethod yX0_isAllMissing, Cond.selects RX0 yX0_isAllMissing yX0_isAllMissing, Cond.code yX0_isAllMissing cX0_isAllMissing 1 (some .boolean)]
def wsL_isMissing : List Cond := .codeWith yL_isMissing cL_isMissing 4 (some .int) [(0, 16, 19, 13), (0, 16, 22, 15)] :: ((wsL_isMissing_r1 ++ (wsL_isMissing_r2 ++ (wsL_isMissing_r3 ++ (wsL_isMissing_r4 ++ (wsL_isMissing_r5 ++ (wsL_isMissing_r6 ++ wsL_isMissing_r7)))))) ++ wsX40 ++ wsX20 ++ wsX30 ++ wsX10 ++ wsX00 ++ (vx_atS RX4 56 "java/lang/IllegalArgumentException" ["java/lang/RuntimeException", "java/lang/Exception"]).filter goodWord ++ (vx_atS RX4 67 "java/lang/IllegalStateException" ["java/lang/RuntimeException", "java/lang/Exception"]).filter goodWord)
def wsL_faults_r1 : List Cond := [Cond.classLink RL 13 "java/lang/IllegalArgumentException", Cond.classLink RL 15 "java/lang/IllegalStateException", Cond.methodLink RL 59 yX4_faults, Cond.instanceMethod yX4_faults, Cond.selects RX4 yX4_faults yX4_faults, Cond.initialized RX4, Cond.code yX4_faults cX4_faults 2 (some .int), Cond.fieldLink RX4 37 "QueryGateway" "answer" "LQueryGateway$Answer;", Cond.fieldLink RX4 20 "QueryGateway" "graph" "LQueryGateway$Graph;", Cond.methodLink RX4 90 yX4_checkKey, Cond.static yX4_checkKey, Cond.code yX4_checkKey cX4_checkKey 1 none, Cond.classLink RX4 52 "java/lang/IllegalArgumentException", Cond.initialized "java/lang/IllegalArgumentException", Cond.methodLink RX4 185 yX4_isKey, Cond.static yX4_isKey, Cond.code yX4_isKey cX4_isKey 1 (some .boolean), Cond.methodLink RX4 132 yX4_checkPlan, Cond.instanceMethod yX4_checkPlan, Cond.selects RX4 yX4_checkPlan yX4_checkPlan, Cond.code yX4_checkPlan cX4_checkPlan 1 none, Cond.classLink RX4 63 "java/lang/IllegalStateException", Cond.initialized "java/lang/IllegalStateException", Cond.fieldLink RX4 28 "QueryGateway" "plan" "LQueryGateway$Plan;"]
def wsL_faults_r2 : List Cond := [Cond.methodLink RX4 200 yX2_find, Cond.instanceMethod yX2_find, Cond.selects RX2 yX2_find yX2_find, Cond.initialized RX2, Cond.code yX2_find cX2_find 1 (some .boolean), Cond.fieldLink RX2 32 "QueryGateway$Plan" "known" "Z", Cond.fieldLink RX2 40 "QueryGateway$Plan" "there" "Z", Cond.fieldLink RX2 50 "QueryGateway$Plan" "length" "I", Cond.methodLink RX2 36 yX2_openChoices, Cond.instanceMethod yX2_openChoices, Cond.selects RX2 yX2_openChoices yX2_openChoices, Cond.code yX2_openChoices cX2_openChoices 3 (some .boolean), Cond.fieldLink RX2 15 "QueryGateway$Plan" "query" "LQueryGateway$Query;", Cond.methodLink RX2 67 Lib.Math.min.name, Cond.static Lib.Math.min.name, Cond.initialized "java/lang/Math", Cond.code Lib.Math.min.name Lib.Math.min.code 2 (some .int), Cond.fieldLink RX2 72 "QueryGateway$Plan" "count" "I", Cond.fieldLink RX2 19 "QueryGateway$Plan" "places" "[I", Cond.fieldLink RX2 23 "QueryGateway$Plan" "choices" "[I", Cond.fieldLink RX2 9 "QueryGateway$Plan" "graph" "LQueryGateway$Graph;", Cond.methodLink RX2 63 yX3_size, Cond.instanceMethod yX3_size, Cond.selects RX3 yX3_size yX3_size]
def wsL_faults_r3 : List Cond := [Cond.initialized RX3, Cond.code yX3_size cX3_size 1 (some .int), Cond.fieldLink RX3 18 "QueryGateway$Query" "count" "I", Cond.methodLink RX2 75 yX3_aboveOf, Cond.instanceMethod yX3_aboveOf, Cond.selects RX3 yX3_aboveOf yX3_aboveOf, Cond.code yX3_aboveOf cX3_aboveOf 2 (some .int), Cond.fieldLink RX3 9 "QueryGateway$Query" "above" "[I", Cond.methodLink RX3 25 yX3_has, Cond.instanceMethod yX3_has, Cond.selects RX3 yX3_has yX3_has, Cond.code yX3_has cX3_has 2 (some .boolean), Cond.methodLink RX2 79 yX3_slotAt, Cond.instanceMethod yX3_slotAt, Cond.selects RX3 yX3_slotAt yX3_slotAt, Cond.code yX3_slotAt cX3_slotAt 2 (some .int), Cond.fieldLink RX3 15 "QueryGateway$Query" "slots" "[I", Cond.methodLink RX2 82 yX1_ownersOf, Cond.instanceMethod yX1_ownersOf, Cond.selects RX1 yX1_ownersOf yX1_ownersOf, Cond.initialized RX1, Cond.code yX1_ownersOf cX1_ownersOf 2 (some .int), Cond.fieldLink RX1 22 "QueryGateway$Graph" "owners" "[I", Cond.static yX4_isSlot]
def wsL_faults_r4 : List Cond := [Cond.code yX4_isSlot cX4_isSlot 1 (some .boolean), Cond.methodLink RX2 43 yX2_countHopsBelow, Cond.instanceMethod yX2_countHopsBelow, Cond.selects RX2 yX2_countHopsBelow yX2_countHopsBelow, Cond.code yX2_countHopsBelow cX2_countHopsBelow 3 none, Cond.fieldLink RX2 26 "QueryGateway$Plan" "hopsBelow" "[I", Cond.methodLink RX2 46 yX2_hopsAt, Cond.instanceMethod yX2_hopsAt, Cond.selects RX2 yX2_hopsAt yX2_hopsAt, Cond.code yX2_hopsAt cX2_hopsAt 6 (some .int), Cond.static yX4_bit, Cond.code yX4_bit cX4_bit 1 (some .int), Cond.methodLink RX2 93 yJ6_bitCount_0f7a4, Cond.static yJ6_bitCount_0f7a4, Cond.initialized RJ6, Cond.code yJ6_bitCount_0f7a4 cJ6_bitCount_0f7a4 1 (some .int), Cond.constant RJ6 265 (1431655765), Cond.constant RJ6 266 (858993459), Cond.constant RJ6 267 (252645135), Cond.methodLink RX2 98 yX2_hopsUnder, Cond.instanceMethod yX2_hopsUnder, Cond.selects RX2 yX2_hopsUnder yX2_hopsUnder, Cond.code yX2_hopsUnder cX2_hopsUnder 7 (some .int), Cond.methodLink RX2 54 yX2_chooseServices]
def wsL_faults_r5 : List Cond := [Cond.instanceMethod yX2_chooseServices, Cond.selects RX2 yX2_chooseServices yX2_chooseServices, Cond.code yX2_chooseServices cX2_chooseServices 7 none, Cond.fieldLink RX2 29 "QueryGateway$Plan" "services" "[I", Cond.methodLink RX2 87 yX2_serviceOf, Cond.instanceMethod yX2_serviceOf, Cond.selects RX2 yX2_serviceOf yX2_serviceOf, Cond.code yX2_serviceOf cX2_serviceOf 2 (some .int), Cond.methodLink RX2 57 yX3_has, Cond.methodLink RX4 144 yX1_failures, Cond.instanceMethod yX1_failures, Cond.selects RX1 yX1_failures yX1_failures, Cond.code yX1_failures cX1_failures 1 (some .int), Cond.fieldLink RX1 61 "QueryGateway$Graph" "failed" "I", Cond.methodLink RX4 147 yX0_read, Cond.instanceMethod yX0_read, Cond.selects RX0 yX0_read yX0_read, Cond.initialized RX0, Cond.code yX0_read cX0_read 3 none, Cond.methodLink RX0 34 yX0_readValues, Cond.instanceMethod yX0_readValues, Cond.selects RX0 yX0_readValues yX0_readValues, Cond.code yX0_readValues cX0_readValues 7 none, Cond.fieldLink RX0 15 "QueryGateway$Answer" "query" "LQueryGateway$Query;"]
def wsL_faults_r6 : List Cond := [Cond.fieldLink RX0 27 "QueryGateway$Answer" "values" "[I", Cond.fieldLink RX0 19 "QueryGateway$Answer" "plan" "LQueryGateway$Plan;", Cond.fieldLink RX0 23 "QueryGateway$Answer" "entities" "[I", Cond.fieldLink RX0 9 "QueryGateway$Answer" "graph" "LQueryGateway$Graph;", Cond.fieldLink RX0 30 "QueryGateway$Answer" "missing" "[Z", Cond.methodLink RX0 54 yX3_size, Cond.methodLink RX0 66 yX3_aboveOf, Cond.methodLink RX0 48 yX3_has, Cond.methodLink RX0 69 yX2_serviceOf, Cond.methodLink RX0 77 yX3_slotAt, Cond.methodLink RX0 80 yX1_valueOf, Cond.instanceMethod yX1_valueOf, Cond.selects RX1 yX1_valueOf yX1_valueOf, Cond.code yX1_valueOf cX1_valueOf 3 (some .int), Cond.fieldLink RX1 25 "QueryGateway$Graph" "values" "[I", Cond.methodLink RX0 38 yX0_letMissingClimb, Cond.instanceMethod yX0_letMissingClimb, Cond.selects RX0 yX0_letMissingClimb yX0_letMissingClimb, Cond.code yX0_letMissingClimb cX0_letMissingClimb 3 none, Cond.fieldLink RX0 44 "QueryGateway$Answer" "allMissing" "Z", Cond.methodLink RX0 86 Lib.Math.min.name, Cond.methodLink RX0 91 yX1_isRequired, Cond.instanceMethod yX1_isRequired, Cond.selects RX1 yX1_isRequired yX1_isRequired]
def wsL_faults_r7 : List Cond := [Cond.code yX1_isRequired cX1_isRequired 2 (some .boolean), Cond.fieldLink RX1 18 "QueryGateway$Graph" "required" "[Z", Cond.methodLink RX0 41 yX0_letMissingFall, Cond.instanceMethod yX0_letMissingFall, Cond.selects RX0 yX0_letMissingFall yX0_letMissingFall, Cond.code yX0_letMissingFall cX0_letMissingFall 3 none, Cond.methodLink RX4 157 yX0_countFaults, Cond.instanceMethod yX0_countFaults, Cond.selects RX0 yX0_countFaults yX0_countFaults, Cond.code yX0_countFaults cX0_countFaults 3 (some .int)]
def wsL_faults : List Cond := .codeWith yL_faults cL_faults 4 (some .int) [(0, 9, 12, 13), (0, 9, 15, 15)] :: ((wsL_faults_r1 ++ (wsL_faults_r2 ++ (wsL_faults_r3 ++ (wsL_faults_r4 ++ (wsL_faults_r5 ++ (wsL_faults_r6 ++ wsL_faults_r7)))))) ++ wsX40 ++ wsX20 ++ wsX30 ++ wsX10 ++ wsX00 ++ (vx_atS RX4 56 "java/lang/IllegalArgumentException" ["java/lang/RuntimeException", "java/lang/Exception"]).filter goodWord ++ (vx_atS RX4 67 "java/lang/IllegalStateException" ["java/lang/RuntimeException", "java/lang/Exception"]).filter goodWord)
def wsL_loaded_r1 : List Cond := [Cond.classLink RL 13 "java/lang/IllegalArgumentException", Cond.classLink RL 21 "java/lang/IndexOutOfBoundsException", Cond.classLink RL 15 "java/lang/IllegalStateException", Cond.methodLink RL 62 yX4_loaded, Cond.instanceMethod yX4_loaded, Cond.selects RX4 yX4_loaded yX4_loaded, Cond.initialized RX4, Cond.code yX4_loaded cX4_loaded 6 (some .int), Cond.classLink RX4 52 "java/lang/IllegalArgumentException", Cond.initialized "java/lang/IllegalArgumentException", Cond.classLink RX4 63 "java/lang/IllegalStateException", Cond.initialized "java/lang/IllegalStateException", Cond.fieldLink RX4 37 "QueryGateway" "answer" "LQueryGateway$Answer;", Cond.fieldLink RX4 20 "QueryGateway" "graph" "LQueryGateway$Graph;", Cond.methodLink RX4 90 yX4_checkKey, Cond.static yX4_checkKey, Cond.code yX4_checkKey cX4_checkKey 1 none, Cond.methodLink RX4 185 yX4_isKey, Cond.static yX4_isKey, Cond.code yX4_isKey cX4_isKey 1 (some .boolean), Cond.methodLink RX4 110 yX4_checkNode, Cond.instanceMethod yX4_checkNode, Cond.selects RX4 yX4_checkNode yX4_checkNode, Cond.code yX4_checkNode cX4_checkNode 2 none]
def wsL_loaded_r2 : List Cond := [Cond.classLink RX4 190 "java/lang/IndexOutOfBoundsException", Cond.initialized "java/lang/IndexOutOfBoundsException", Cond.fieldLink RX4 24 "QueryGateway" "query" "LQueryGateway$Query;", Cond.methodLink RX4 195 yX3_has, Cond.instanceMethod yX3_has, Cond.selects RX3 yX3_has yX3_has, Cond.initialized RX3, Cond.code yX3_has cX3_has 2 (some .boolean), Cond.fieldLink RX3 18 "QueryGateway$Query" "count" "I", Cond.methodLink RX4 113 yX4_typeAt, Cond.instanceMethod yX4_typeAt, Cond.selects RX4 yX4_typeAt yX4_typeAt, Cond.code yX4_typeAt cX4_typeAt 2 (some .int), Cond.methodLink RX4 205 yX3_type, Cond.instanceMethod yX3_type, Cond.selects RX3 yX3_type yX3_type, Cond.code yX3_type cX3_type 1 (some .int), Cond.fieldLink RX3 22 "QueryGateway$Query" "type" "I", Cond.methodLink RX4 129 yX3_slotAt, Cond.instanceMethod yX3_slotAt, Cond.selects RX3 yX3_slotAt yX3_slotAt, Cond.code yX3_slotAt cX3_slotAt 2 (some .int), Cond.fieldLink RX3 15 "QueryGateway$Query" "slots" "[I", Cond.methodLink RX3 25 yX3_has]
def wsL_loaded_r3 : List Cond := [Cond.methodLink RX4 208 yX1_leadsOf, Cond.instanceMethod yX1_leadsOf, Cond.selects RX1 yX1_leadsOf yX1_leadsOf, Cond.initialized RX1, Cond.code yX1_leadsOf cX1_leadsOf 2 (some .int), Cond.fieldLink RX1 15 "QueryGateway$Graph" "leads" "[I", Cond.static yX4_isSlot, Cond.code yX4_isSlot cX4_isSlot 1 (some .boolean), Cond.methodLink RX4 132 yX4_checkPlan, Cond.instanceMethod yX4_checkPlan, Cond.selects RX4 yX4_checkPlan yX4_checkPlan, Cond.code yX4_checkPlan cX4_checkPlan 1 none, Cond.fieldLink RX4 28 "QueryGateway" "plan" "LQueryGateway$Plan;", Cond.methodLink RX4 200 yX2_find, Cond.instanceMethod yX2_find, Cond.selects RX2 yX2_find yX2_find, Cond.initialized RX2, Cond.code yX2_find cX2_find 1 (some .boolean), Cond.fieldLink RX2 32 "QueryGateway$Plan" "known" "Z", Cond.fieldLink RX2 40 "QueryGateway$Plan" "there" "Z", Cond.fieldLink RX2 50 "QueryGateway$Plan" "length" "I", Cond.methodLink RX2 36 yX2_openChoices, Cond.instanceMethod yX2_openChoices, Cond.selects RX2 yX2_openChoices yX2_openChoices]
def wsL_loaded_r4 : List Cond := [Cond.code yX2_openChoices cX2_openChoices 3 (some .boolean), Cond.fieldLink RX2 15 "QueryGateway$Plan" "query" "LQueryGateway$Query;", Cond.methodLink RX2 67 Lib.Math.min.name, Cond.static Lib.Math.min.name, Cond.initialized "java/lang/Math", Cond.code Lib.Math.min.name Lib.Math.min.code 2 (some .int), Cond.fieldLink RX2 72 "QueryGateway$Plan" "count" "I", Cond.fieldLink RX2 19 "QueryGateway$Plan" "places" "[I", Cond.fieldLink RX2 23 "QueryGateway$Plan" "choices" "[I", Cond.fieldLink RX2 9 "QueryGateway$Plan" "graph" "LQueryGateway$Graph;", Cond.methodLink RX2 63 yX3_size, Cond.instanceMethod yX3_size, Cond.selects RX3 yX3_size yX3_size, Cond.code yX3_size cX3_size 1 (some .int), Cond.methodLink RX2 75 yX3_aboveOf, Cond.instanceMethod yX3_aboveOf, Cond.selects RX3 yX3_aboveOf yX3_aboveOf, Cond.code yX3_aboveOf cX3_aboveOf 2 (some .int), Cond.fieldLink RX3 9 "QueryGateway$Query" "above" "[I", Cond.methodLink RX2 79 yX3_slotAt, Cond.methodLink RX2 82 yX1_ownersOf, Cond.instanceMethod yX1_ownersOf, Cond.selects RX1 yX1_ownersOf yX1_ownersOf, Cond.code yX1_ownersOf cX1_ownersOf 2 (some .int)]
def wsL_loaded_r5 : List Cond := [Cond.fieldLink RX1 22 "QueryGateway$Graph" "owners" "[I", Cond.methodLink RX2 43 yX2_countHopsBelow, Cond.instanceMethod yX2_countHopsBelow, Cond.selects RX2 yX2_countHopsBelow yX2_countHopsBelow, Cond.code yX2_countHopsBelow cX2_countHopsBelow 3 none, Cond.fieldLink RX2 26 "QueryGateway$Plan" "hopsBelow" "[I", Cond.methodLink RX2 46 yX2_hopsAt, Cond.instanceMethod yX2_hopsAt, Cond.selects RX2 yX2_hopsAt yX2_hopsAt, Cond.code yX2_hopsAt cX2_hopsAt 6 (some .int), Cond.static yX4_bit, Cond.code yX4_bit cX4_bit 1 (some .int), Cond.methodLink RX2 93 yJ6_bitCount_0f7a4, Cond.static yJ6_bitCount_0f7a4, Cond.initialized RJ6, Cond.code yJ6_bitCount_0f7a4 cJ6_bitCount_0f7a4 1 (some .int), Cond.constant RJ6 265 (1431655765), Cond.constant RJ6 266 (858993459), Cond.constant RJ6 267 (252645135), Cond.methodLink RX2 98 yX2_hopsUnder, Cond.instanceMethod yX2_hopsUnder, Cond.selects RX2 yX2_hopsUnder yX2_hopsUnder, Cond.code yX2_hopsUnder cX2_hopsUnder 7 (some .int), Cond.methodLink RX2 54 yX2_chooseServices]
def wsL_loaded_r6 : List Cond := [Cond.instanceMethod yX2_chooseServices, Cond.selects RX2 yX2_chooseServices yX2_chooseServices, Cond.code yX2_chooseServices cX2_chooseServices 7 none, Cond.fieldLink RX2 29 "QueryGateway$Plan" "services" "[I", Cond.methodLink RX2 87 yX2_serviceOf, Cond.instanceMethod yX2_serviceOf, Cond.selects RX2 yX2_serviceOf yX2_serviceOf, Cond.code yX2_serviceOf cX2_serviceOf 2 (some .int), Cond.methodLink RX2 57 yX3_has, Cond.methodLink RX4 144 yX1_failures, Cond.instanceMethod yX1_failures, Cond.selects RX1 yX1_failures yX1_failures, Cond.code yX1_failures cX1_failures 1 (some .int), Cond.fieldLink RX1 61 "QueryGateway$Graph" "failed" "I", Cond.methodLink RX4 147 yX0_read, Cond.instanceMethod yX0_read, Cond.selects RX0 yX0_read yX0_read, Cond.initialized RX0, Cond.code yX0_read cX0_read 3 none, Cond.methodLink RX0 34 yX0_readValues, Cond.instanceMethod yX0_readValues, Cond.selects RX0 yX0_readValues yX0_readValues, Cond.code yX0_readValues cX0_readValues 7 none, Cond.fieldLink RX0 15 "QueryGateway$Answer" "query" "LQueryGateway$Query;"]
def wsL_loaded_r7 : List Cond := [Cond.fieldLink RX0 27 "QueryGateway$Answer" "values" "[I", Cond.fieldLink RX0 19 "QueryGateway$Answer" "plan" "LQueryGateway$Plan;", Cond.fieldLink RX0 23 "QueryGateway$Answer" "entities" "[I", Cond.fieldLink RX0 9 "QueryGateway$Answer" "graph" "LQueryGateway$Graph;", Cond.fieldLink RX0 30 "QueryGateway$Answer" "missing" "[Z", Cond.methodLink RX0 54 yX3_size, Cond.methodLink RX0 66 yX3_aboveOf, Cond.methodLink RX0 48 yX3_has, Cond.methodLink RX0 69 yX2_serviceOf, Cond.methodLink RX0 77 yX3_slotAt, Cond.methodLink RX0 80 yX1_valueOf, Cond.instanceMethod yX1_valueOf, Cond.selects RX1 yX1_valueOf yX1_valueOf, Cond.code yX1_valueOf cX1_valueOf 3 (some .int), Cond.fieldLink RX1 25 "QueryGateway$Graph" "values" "[I", Cond.methodLink RX0 38 yX0_letMissingClimb, Cond.instanceMethod yX0_letMissingClimb, Cond.selects RX0 yX0_letMissingClimb yX0_letMissingClimb, Cond.code yX0_letMissingClimb cX0_letMissingClimb 3 none, Cond.fieldLink RX0 44 "QueryGateway$Answer" "allMissing" "Z", Cond.methodLink RX0 86 Lib.Math.min.name, Cond.methodLink RX0 91 yX1_isRequired, Cond.instanceMethod yX1_isRequired, Cond.selects RX1 yX1_isRequired yX1_isRequired]
def wsL_loaded_r8 : List Cond := [Cond.code yX1_isRequired cX1_isRequired 2 (some .boolean), Cond.fieldLink RX1 18 "QueryGateway$Graph" "required" "[Z", Cond.methodLink RX0 41 yX0_letMissingFall, Cond.instanceMethod yX0_letMissingFall, Cond.selects RX0 yX0_letMissingFall yX0_letMissingFall, Cond.code yX0_letMissingFall cX0_letMissingFall 3 none, Cond.methodLink RX4 150 yX0_told, Cond.instanceMethod yX0_told, Cond.selects RX0 yX0_told yX0_told, Cond.code yX0_told cX0_told 2 (some .int), Cond.methodLink RX4 141 yX4_bit, Cond.methodLink RX4 164 yJ6_bitCount_0f7a4]
def wsL_loaded : List Cond := .codeWith yL_loaded cL_loaded 6 (some .int) [(0, 12, 15, 13), (0, 12, 19, 21), (0, 12, 23, 15)] :: ((wsL_loaded_r1 ++ (wsL_loaded_r2 ++ (wsL_loaded_r3 ++ (wsL_loaded_r4 ++ (wsL_loaded_r5 ++ (wsL_loaded_r6 ++ (wsL_loaded_r7 ++ wsL_loaded_r8))))))) ++ wsX40 ++ wsX30 ++ wsX10 ++ wsX20 ++ wsX00 ++ (vx_atS RX4 56 "java/lang/IllegalArgumentException" ["java/lang/RuntimeException", "java/lang/Exception"]).filter goodWord ++ (vx_atS RX4 67 "java/lang/IllegalStateException" ["java/lang/RuntimeException", "java/lang/Exception"]).filter goodWord ++ (vx_atS RX4 194 "java/lang/IndexOutOfBoundsException" ["java/lang/RuntimeException", "java/lang/Exception"]).filter goodWord)
def wsL_harmed_r1 : List Cond := [Cond.classLink RL 15 "java/lang/IllegalStateException", Cond.methodLink RL 66 yX4_harmed, Cond.instanceMethod yX4_harmed, Cond.selects RX4 yX4_harmed yX4_harmed, Cond.initialized RX4, Cond.code yX4_harmed cX4_harmed 3 (some .int), Cond.fieldLink RX4 37 "QueryGateway" "answer" "LQueryGateway$Answer;", Cond.fieldLink RX4 20 "QueryGateway" "graph" "LQueryGateway$Graph;", Cond.fieldLink RX4 41 "QueryGateway" "unharmed" "LQueryGateway$Answer;", Cond.methodLink RX4 132 yX4_checkPlan, Cond.instanceMethod yX4_checkPlan, Cond.selects RX4 yX4_checkPlan yX4_checkPlan, Cond.code yX4_checkPlan cX4_checkPlan 1 none, Cond.classLink RX4 63 "java/lang/IllegalStateException", Cond.initialized "java/lang/IllegalStateException", Cond.fieldLink RX4 28 "QueryGateway" "plan" "LQueryGateway$Plan;", Cond.methodLink RX4 200 yX2_find, Cond.instanceMethod yX2_find, Cond.selects RX2 yX2_find yX2_find, Cond.initialized RX2, Cond.code yX2_find cX2_find 1 (some .boolean), Cond.fieldLink RX2 32 "QueryGateway$Plan" "known" "Z", Cond.fieldLink RX2 40 "QueryGateway$Plan" "there" "Z", Cond.fieldLink RX2 50 "QueryGateway$Plan" "length" "I"]
def wsL_harmed_r2 : List Cond := [Cond.methodLink RX2 36 yX2_openChoices, Cond.instanceMethod yX2_openChoices, Cond.selects RX2 yX2_openChoices yX2_openChoices, Cond.code yX2_openChoices cX2_openChoices 3 (some .boolean), Cond.fieldLink RX2 15 "QueryGateway$Plan" "query" "LQueryGateway$Query;", Cond.methodLink RX2 67 Lib.Math.min.name, Cond.static Lib.Math.min.name, Cond.initialized "java/lang/Math", Cond.code Lib.Math.min.name Lib.Math.min.code 2 (some .int), Cond.fieldLink RX2 72 "QueryGateway$Plan" "count" "I", Cond.fieldLink RX2 19 "QueryGateway$Plan" "places" "[I", Cond.fieldLink RX2 23 "QueryGateway$Plan" "choices" "[I", Cond.fieldLink RX2 9 "QueryGateway$Plan" "graph" "LQueryGateway$Graph;", Cond.methodLink RX2 63 yX3_size, Cond.instanceMethod yX3_size, Cond.selects RX3 yX3_size yX3_size, Cond.initialized RX3, Cond.code yX3_size cX3_size 1 (some .int), Cond.fieldLink RX3 18 "QueryGateway$Query" "count" "I", Cond.methodLink RX2 75 yX3_aboveOf, Cond.instanceMethod yX3_aboveOf, Cond.selects RX3 yX3_aboveOf yX3_aboveOf, Cond.code yX3_aboveOf cX3_aboveOf 2 (some .int), Cond.fieldLink RX3 9 "QueryGateway$Query" "above" "[I"]
def wsL_harmed_r3 : List Cond := [Cond.methodLink RX3 25 yX3_has, Cond.instanceMethod yX3_has, Cond.selects RX3 yX3_has yX3_has, Cond.code yX3_has cX3_has 2 (some .boolean), Cond.methodLink RX2 79 yX3_slotAt, Cond.instanceMethod yX3_slotAt, Cond.selects RX3 yX3_slotAt yX3_slotAt, Cond.code yX3_slotAt cX3_slotAt 2 (some .int), Cond.fieldLink RX3 15 "QueryGateway$Query" "slots" "[I", Cond.methodLink RX2 82 yX1_ownersOf, Cond.instanceMethod yX1_ownersOf, Cond.selects RX1 yX1_ownersOf yX1_ownersOf, Cond.initialized RX1, Cond.code yX1_ownersOf cX1_ownersOf 2 (some .int), Cond.fieldLink RX1 22 "QueryGateway$Graph" "owners" "[I", Cond.static yX4_isSlot, Cond.code yX4_isSlot cX4_isSlot 1 (some .boolean), Cond.methodLink RX2 43 yX2_countHopsBelow, Cond.instanceMethod yX2_countHopsBelow, Cond.selects RX2 yX2_countHopsBelow yX2_countHopsBelow, Cond.code yX2_countHopsBelow cX2_countHopsBelow 3 none, Cond.fieldLink RX2 26 "QueryGateway$Plan" "hopsBelow" "[I", Cond.methodLink RX2 46 yX2_hopsAt, Cond.instanceMethod yX2_hopsAt]
def wsL_harmed_r4 : List Cond := [Cond.selects RX2 yX2_hopsAt yX2_hopsAt, Cond.code yX2_hopsAt cX2_hopsAt 6 (some .int), Cond.static yX4_bit, Cond.code yX4_bit cX4_bit 1 (some .int), Cond.methodLink RX2 93 yJ6_bitCount_0f7a4, Cond.static yJ6_bitCount_0f7a4, Cond.initialized RJ6, Cond.code yJ6_bitCount_0f7a4 cJ6_bitCount_0f7a4 1 (some .int), Cond.constant RJ6 265 (1431655765), Cond.constant RJ6 266 (858993459), Cond.constant RJ6 267 (252645135), Cond.methodLink RX2 98 yX2_hopsUnder, Cond.instanceMethod yX2_hopsUnder, Cond.selects RX2 yX2_hopsUnder yX2_hopsUnder, Cond.code yX2_hopsUnder cX2_hopsUnder 7 (some .int), Cond.methodLink RX2 54 yX2_chooseServices, Cond.instanceMethod yX2_chooseServices, Cond.selects RX2 yX2_chooseServices yX2_chooseServices, Cond.code yX2_chooseServices cX2_chooseServices 7 none, Cond.fieldLink RX2 29 "QueryGateway$Plan" "services" "[I", Cond.methodLink RX2 87 yX2_serviceOf, Cond.instanceMethod yX2_serviceOf, Cond.selects RX2 yX2_serviceOf yX2_serviceOf, Cond.code yX2_serviceOf cX2_serviceOf 2 (some .int)]
def wsL_harmed_r5 : List Cond := [Cond.methodLink RX2 57 yX3_has, Cond.methodLink RX4 144 yX1_failures, Cond.instanceMethod yX1_failures, Cond.selects RX1 yX1_failures yX1_failures, Cond.code yX1_failures cX1_failures 1 (some .int), Cond.fieldLink RX1 61 "QueryGateway$Graph" "failed" "I", Cond.methodLink RX4 147 yX0_read, Cond.instanceMethod yX0_read, Cond.selects RX0 yX0_read yX0_read, Cond.initialized RX0, Cond.code yX0_read cX0_read 3 none, Cond.methodLink RX0 34 yX0_readValues, Cond.instanceMethod yX0_readValues, Cond.selects RX0 yX0_readValues yX0_readValues, Cond.code yX0_readValues cX0_readValues 7 none, Cond.fieldLink RX0 15 "QueryGateway$Answer" "query" "LQueryGateway$Query;", Cond.fieldLink RX0 27 "QueryGateway$Answer" "values" "[I", Cond.fieldLink RX0 19 "QueryGateway$Answer" "plan" "LQueryGateway$Plan;", Cond.fieldLink RX0 23 "QueryGateway$Answer" "entities" "[I", Cond.fieldLink RX0 9 "QueryGateway$Answer" "graph" "LQueryGateway$Graph;", Cond.fieldLink RX0 30 "QueryGateway$Answer" "missing" "[Z", Cond.methodLink RX0 54 yX3_size, Cond.methodLink RX0 66 yX3_aboveOf, Cond.methodLink RX0 48 yX3_has]
def wsL_harmed_r6 : List Cond := [Cond.methodLink RX0 69 yX2_serviceOf, Cond.methodLink RX0 77 yX3_slotAt, Cond.methodLink RX0 80 yX1_valueOf, Cond.instanceMethod yX1_valueOf, Cond.selects RX1 yX1_valueOf yX1_valueOf, Cond.code yX1_valueOf cX1_valueOf 3 (some .int), Cond.fieldLink RX1 25 "QueryGateway$Graph" "values" "[I", Cond.static yX4_isKey, Cond.code yX4_isKey cX4_isKey 1 (some .boolean), Cond.methodLink RX0 38 yX0_letMissingClimb, Cond.instanceMethod yX0_letMissingClimb, Cond.selects RX0 yX0_letMissingClimb yX0_letMissingClimb, Cond.code yX0_letMissingClimb cX0_letMissingClimb 3 none, Cond.fieldLink RX0 44 "QueryGateway$Answer" "allMissing" "Z", Cond.methodLink RX0 86 Lib.Math.min.name, Cond.methodLink RX0 91 yX1_isRequired, Cond.instanceMethod yX1_isRequired, Cond.selects RX1 yX1_isRequired yX1_isRequired, Cond.code yX1_isRequired cX1_isRequired 2 (some .boolean), Cond.fieldLink RX1 18 "QueryGateway$Graph" "required" "[Z", Cond.methodLink RX0 41 yX0_letMissingFall, Cond.instanceMethod yX0_letMissingFall, Cond.selects RX0 yX0_letMissingFall yX0_letMissingFall, Cond.code yX0_letMissingFall cX0_letMissingFall 3 none]
def wsL_harmed_r7 : List Cond := [Cond.methodLink RX4 169 yX0_differsFrom, Cond.instanceMethod yX0_differsFrom, Cond.selects RX0 yX0_differsFrom yX0_differsFrom, Cond.code yX0_differsFrom cX0_differsFrom 4 (some .boolean), Cond.methodLink RX0 58 yX0_isAllMissing, Cond.instanceMethod yX0_isAllMissing, Cond.selects RX0 yX0_isAllMissing yX0_isAllMissing, Cond.code yX0_isAllMissing cX0_isAllMissing 1 (some .boolean), Cond.methodLink RX0 62 yX0_told, Cond.instanceMethod yX0_told, Cond.selects RX0 yX0_told yX0_told, Cond.code yX0_told cX0_told 2 (some .int)]
def wsL_harmed : List Cond := .codeWith yL_harmed cL_harmed 3 (some .int) [(0, 8, 11, 15)] :: ((wsL_harmed_r1 ++ (wsL_harmed_r2 ++ (wsL_harmed_r3 ++ (wsL_harmed_r4 ++ (wsL_harmed_r5 ++ (wsL_harmed_r6 ++ wsL_harmed_r7)))))) ++ wsX40 ++ wsX20 ++ wsX30 ++ wsX10 ++ wsX00 ++ (vx_atS RX4 67 "java/lang/IllegalStateException" ["java/lang/RuntimeException", "java/lang/Exception"]).filter goodWord)
def wsL_least_r1 : List Cond := [Cond.classLink RL 21 "java/lang/IndexOutOfBoundsException", Cond.classLink RL 15 "java/lang/IllegalStateException", Cond.classLink RL 72 "java/util/NoSuchElementException", Cond.methodLink RL 69 yX4_least, Cond.instanceMethod yX4_least, Cond.selects RX4 yX4_least yX4_least, Cond.initialized RX4, Cond.code yX4_least cX4_least 6 (some .int), Cond.classLink RX4 173 "java/util/NoSuchElementException", Cond.initialized "java/util/NoSuchElementException", Cond.fieldLink RX4 37 "QueryGateway" "answer" "LQueryGateway$Answer;", Cond.fieldLink RX4 20 "QueryGateway" "graph" "LQueryGateway$Graph;", Cond.methodLink RX4 110 yX4_checkNode, Cond.instanceMethod yX4_checkNode, Cond.selects RX4 yX4_checkNode yX4_checkNode, Cond.code yX4_checkNode cX4_checkNode 2 none, Cond.classLink RX4 190 "java/lang/IndexOutOfBoundsException", Cond.initialized "java/lang/IndexOutOfBoundsException", Cond.fieldLink RX4 24 "QueryGateway" "query" "LQueryGateway$Query;", Cond.methodLink RX4 195 yX3_has, Cond.instanceMethod yX3_has, Cond.selects RX3 yX3_has yX3_has, Cond.initialized RX3, Cond.code yX3_has cX3_has 2 (some .boolean)]
def wsL_least_r2 : List Cond := [Cond.fieldLink RX3 18 "QueryGateway$Query" "count" "I", Cond.methodLink RX4 132 yX4_checkPlan, Cond.instanceMethod yX4_checkPlan, Cond.selects RX4 yX4_checkPlan yX4_checkPlan, Cond.code yX4_checkPlan cX4_checkPlan 1 none, Cond.classLink RX4 63 "java/lang/IllegalStateException", Cond.initialized "java/lang/IllegalStateException", Cond.fieldLink RX4 28 "QueryGateway" "plan" "LQueryGateway$Plan;", Cond.methodLink RX4 200 yX2_find, Cond.instanceMethod yX2_find, Cond.selects RX2 yX2_find yX2_find, Cond.initialized RX2, Cond.code yX2_find cX2_find 1 (some .boolean), Cond.fieldLink RX2 32 "QueryGateway$Plan" "known" "Z", Cond.fieldLink RX2 40 "QueryGateway$Plan" "there" "Z", Cond.fieldLink RX2 50 "QueryGateway$Plan" "length" "I", Cond.methodLink RX2 36 yX2_openChoices, Cond.instanceMethod yX2_openChoices, Cond.selects RX2 yX2_openChoices yX2_openChoices, Cond.code yX2_openChoices cX2_openChoices 3 (some .boolean), Cond.fieldLink RX2 15 "QueryGateway$Plan" "query" "LQueryGateway$Query;", Cond.methodLink RX2 67 Lib.Math.min.name, Cond.static Lib.Math.min.name, Cond.initialized "java/lang/Math"]
def wsL_least_r3 : List Cond := [Cond.code Lib.Math.min.name Lib.Math.min.code 2 (some .int), Cond.fieldLink RX2 72 "QueryGateway$Plan" "count" "I", Cond.fieldLink RX2 19 "QueryGateway$Plan" "places" "[I", Cond.fieldLink RX2 23 "QueryGateway$Plan" "choices" "[I", Cond.fieldLink RX2 9 "QueryGateway$Plan" "graph" "LQueryGateway$Graph;", Cond.methodLink RX2 63 yX3_size, Cond.instanceMethod yX3_size, Cond.selects RX3 yX3_size yX3_size, Cond.code yX3_size cX3_size 1 (some .int), Cond.methodLink RX2 75 yX3_aboveOf, Cond.instanceMethod yX3_aboveOf, Cond.selects RX3 yX3_aboveOf yX3_aboveOf, Cond.code yX3_aboveOf cX3_aboveOf 2 (some .int), Cond.fieldLink RX3 9 "QueryGateway$Query" "above" "[I", Cond.methodLink RX3 25 yX3_has, Cond.methodLink RX2 79 yX3_slotAt, Cond.instanceMethod yX3_slotAt, Cond.selects RX3 yX3_slotAt yX3_slotAt, Cond.code yX3_slotAt cX3_slotAt 2 (some .int), Cond.fieldLink RX3 15 "QueryGateway$Query" "slots" "[I", Cond.methodLink RX2 82 yX1_ownersOf, Cond.instanceMethod yX1_ownersOf, Cond.selects RX1 yX1_ownersOf yX1_ownersOf, Cond.initialized RX1]
def wsL_least_r4 : List Cond := [Cond.code yX1_ownersOf cX1_ownersOf 2 (some .int), Cond.fieldLink RX1 22 "QueryGateway$Graph" "owners" "[I", Cond.static yX4_isSlot, Cond.code yX4_isSlot cX4_isSlot 1 (some .boolean), Cond.methodLink RX2 43 yX2_countHopsBelow, Cond.instanceMethod yX2_countHopsBelow, Cond.selects RX2 yX2_countHopsBelow yX2_countHopsBelow, Cond.code yX2_countHopsBelow cX2_countHopsBelow 3 none, Cond.fieldLink RX2 26 "QueryGateway$Plan" "hopsBelow" "[I", Cond.methodLink RX2 46 yX2_hopsAt, Cond.instanceMethod yX2_hopsAt, Cond.selects RX2 yX2_hopsAt yX2_hopsAt, Cond.code yX2_hopsAt cX2_hopsAt 6 (some .int), Cond.static yX4_bit, Cond.code yX4_bit cX4_bit 1 (some .int), Cond.methodLink RX2 93 yJ6_bitCount_0f7a4, Cond.static yJ6_bitCount_0f7a4, Cond.initialized RJ6, Cond.code yJ6_bitCount_0f7a4 cJ6_bitCount_0f7a4 1 (some .int), Cond.constant RJ6 265 (1431655765), Cond.constant RJ6 266 (858993459), Cond.constant RJ6 267 (252645135), Cond.methodLink RX2 98 yX2_hopsUnder, Cond.instanceMethod yX2_hopsUnder]
def wsL_least_r5 : List Cond := [Cond.selects RX2 yX2_hopsUnder yX2_hopsUnder, Cond.code yX2_hopsUnder cX2_hopsUnder 7 (some .int), Cond.methodLink RX2 54 yX2_chooseServices, Cond.instanceMethod yX2_chooseServices, Cond.selects RX2 yX2_chooseServices yX2_chooseServices, Cond.code yX2_chooseServices cX2_chooseServices 7 none, Cond.fieldLink RX2 29 "QueryGateway$Plan" "services" "[I", Cond.methodLink RX2 87 yX2_serviceOf, Cond.instanceMethod yX2_serviceOf, Cond.selects RX2 yX2_serviceOf yX2_serviceOf, Cond.code yX2_serviceOf cX2_serviceOf 2 (some .int), Cond.methodLink RX2 57 yX3_has, Cond.methodLink RX4 144 yX1_failures, Cond.instanceMethod yX1_failures, Cond.selects RX1 yX1_failures yX1_failures, Cond.code yX1_failures cX1_failures 1 (some .int), Cond.fieldLink RX1 61 "QueryGateway$Graph" "failed" "I", Cond.methodLink RX4 147 yX0_read, Cond.instanceMethod yX0_read, Cond.selects RX0 yX0_read yX0_read, Cond.initialized RX0, Cond.code yX0_read cX0_read 3 none, Cond.methodLink RX0 34 yX0_readValues, Cond.instanceMethod yX0_readValues]
def wsL_least_r6 : List Cond := [Cond.selects RX0 yX0_readValues yX0_readValues, Cond.code yX0_readValues cX0_readValues 7 none, Cond.fieldLink RX0 15 "QueryGateway$Answer" "query" "LQueryGateway$Query;", Cond.fieldLink RX0 27 "QueryGateway$Answer" "values" "[I", Cond.fieldLink RX0 19 "QueryGateway$Answer" "plan" "LQueryGateway$Plan;", Cond.fieldLink RX0 23 "QueryGateway$Answer" "entities" "[I", Cond.fieldLink RX0 9 "QueryGateway$Answer" "graph" "LQueryGateway$Graph;", Cond.fieldLink RX0 30 "QueryGateway$Answer" "missing" "[Z", Cond.methodLink RX0 54 yX3_size, Cond.methodLink RX0 66 yX3_aboveOf, Cond.methodLink RX0 48 yX3_has, Cond.methodLink RX0 69 yX2_serviceOf, Cond.methodLink RX0 77 yX3_slotAt, Cond.methodLink RX0 80 yX1_valueOf, Cond.instanceMethod yX1_valueOf, Cond.selects RX1 yX1_valueOf yX1_valueOf, Cond.code yX1_valueOf cX1_valueOf 3 (some .int), Cond.fieldLink RX1 25 "QueryGateway$Graph" "values" "[I", Cond.static yX4_isKey, Cond.code yX4_isKey cX4_isKey 1 (some .boolean), Cond.methodLink RX0 38 yX0_letMissingClimb, Cond.instanceMethod yX0_letMissingClimb, Cond.selects RX0 yX0_letMissingClimb yX0_letMissingClimb, Cond.code yX0_letMissingClimb cX0_letMissingClimb 3 none]
def wsL_least_r7 : List Cond := [Cond.fieldLink RX0 44 "QueryGateway$Answer" "allMissing" "Z", Cond.methodLink RX0 86 Lib.Math.min.name, Cond.methodLink RX0 91 yX1_isRequired, Cond.instanceMethod yX1_isRequired, Cond.selects RX1 yX1_isRequired yX1_isRequired, Cond.code yX1_isRequired cX1_isRequired 2 (some .boolean), Cond.fieldLink RX1 18 "QueryGateway$Graph" "required" "[Z", Cond.methodLink RX0 41 yX0_letMissingFall, Cond.instanceMethod yX0_letMissingFall, Cond.selects RX0 yX0_letMissingFall yX0_letMissingFall, Cond.code yX0_letMissingFall cX0_letMissingFall 3 none, Cond.methodLink RX4 150 yX0_told, Cond.instanceMethod yX0_told, Cond.selects RX0 yX0_told yX0_told, Cond.code yX0_told cX0_told 2 (some .int)]
def wsL_least : List Cond := .codeWith yL_least cL_least 4 (some .int) [(0, 9, 12, 21), (0, 9, 15, 15), (0, 9, 18, 72)] :: ((wsL_least_r1 ++ (wsL_least_r2 ++ (wsL_least_r3 ++ (wsL_least_r4 ++ (wsL_least_r5 ++ (wsL_least_r6 ++ wsL_least_r7)))))) ++ wsX40 ++ wsX30 ++ wsX20 ++ wsX10 ++ wsX00 ++ (vx_atS RX4 177 "java/util/NoSuchElementException" ["java/lang/RuntimeException", "java/lang/Exception"]).filter goodWord ++ (vx_atS RX4 194 "java/lang/IndexOutOfBoundsException" ["java/lang/RuntimeException", "java/lang/Exception"]).filter goodWord ++ (vx_atS RX4 67 "java/lang/IllegalStateException" ["java/lang/RuntimeException", "java/lang/Exception"]).filter goodWord)
def wsL_law0_r1 : List Cond := [Cond.classLink RL 8 RX4, Cond.instantiable RX4 5, Cond.initialized RX4, Cond.classLink RL 75 RX5, Cond.instantiable RX5 20, Cond.initialized RX5, Cond.arrayClass .long, Cond.methodLink RL 74 yX4_init, Cond.instanceMethod yX4_init, Cond.code yX4_init cX4_init 4 none, Cond.methodLink RX4 3 objectInit, Cond.instanceMethod objectInit, Cond.code objectInit ⟨#[0xb1]⟩ 1 none, Cond.classLink RX4 9 RX1, Cond.instantiable RX1 6, Cond.initialized RX1, Cond.classLink RX4 12 RX3, Cond.instantiable RX3 4, Cond.initialized RX3, Cond.classLink RX4 15 RX2, Cond.instantiable RX2 10, Cond.initialized RX2, Cond.fieldLink RX4 20 "QueryGateway" "graph" "LQueryGateway$Graph;", Cond.fieldLink RX4 24 "QueryGateway" "query" "LQueryGateway$Query;"]
def wsL_law0_r2 : List Cond := [Cond.fieldLink RX4 28 "QueryGateway" "plan" "LQueryGateway$Plan;", Cond.classLink RX4 32 RX0, Cond.instantiable RX0 7, Cond.initialized RX0, Cond.fieldLink RX4 37 "QueryGateway" "answer" "LQueryGateway$Answer;", Cond.fieldLink RX4 41 "QueryGateway" "unharmed" "LQueryGateway$Answer;", Cond.methodLink RX4 11 yX1_init, Cond.instanceMethod yX1_init, Cond.code yX1_init cX1_init 1 none, Cond.methodLink RX1 3 objectInit, Cond.arrayClass .int, Cond.fieldLink RX1 9 "QueryGateway$Graph" "counts" "[I", Cond.fieldLink RX1 15 "QueryGateway$Graph" "leads" "[I", Cond.arrayClass .boolean, Cond.fieldLink RX1 18 "QueryGateway$Graph" "required" "[Z", Cond.fieldLink RX1 22 "QueryGateway$Graph" "owners" "[I", Cond.fieldLink RX1 25 "QueryGateway$Graph" "values" "[I", Cond.methodLink RX1 28 yJ7_fill_53178, Cond.static yJ7_fill_53178, Cond.initialized RJ7, Cond.code yJ7_fill_53178 cJ7_fill_53178 4 none, Cond.methodLink RX4 14 yX3_init, Cond.instanceMethod yX3_init, Cond.code yX3_init cX3_init 1 none]
def wsL_law0_r3 : List Cond := [Cond.methodLink RX3 3 objectInit, Cond.fieldLink RX3 9 "QueryGateway$Query" "above" "[I", Cond.fieldLink RX3 15 "QueryGateway$Query" "slots" "[I", Cond.methodLink RX4 17 yX2_init, Cond.instanceMethod yX2_init, Cond.code yX2_init cX2_init 3 none, Cond.methodLink RX2 3 objectInit, Cond.fieldLink RX2 9 "QueryGateway$Plan" "graph" "LQueryGateway$Graph;", Cond.fieldLink RX2 15 "QueryGateway$Plan" "query" "LQueryGateway$Query;", Cond.fieldLink RX2 19 "QueryGateway$Plan" "places" "[I", Cond.fieldLink RX2 23 "QueryGateway$Plan" "choices" "[I", Cond.fieldLink RX2 26 "QueryGateway$Plan" "hopsBelow" "[I", Cond.fieldLink RX2 29 "QueryGateway$Plan" "services" "[I", Cond.methodLink RX4 34 yX0_init, Cond.instanceMethod yX0_init, Cond.code yX0_init cX0_init 4 none, Cond.methodLink RX0 3 objectInit, Cond.fieldLink RX0 9 "QueryGateway$Answer" "graph" "LQueryGateway$Graph;", Cond.fieldLink RX0 15 "QueryGateway$Answer" "query" "LQueryGateway$Query;", Cond.fieldLink RX0 19 "QueryGateway$Answer" "plan" "LQueryGateway$Plan;", Cond.fieldLink RX0 23 "QueryGateway$Answer" "entities" "[I", Cond.fieldLink RX0 27 "QueryGateway$Answer" "values" "[I", Cond.fieldLink RX0 30 "QueryGateway$Answer" "missing" "[Z", Cond.methodLink RL 77 yX5_init]
def wsL_law0_r4 : List Cond := [Cond.instanceMethod yX5_init, Cond.code yX5_init cX5_init 1 none, Cond.methodLink RX5 1 objectInit, Cond.fieldLink RX5 7 "QueryGatewayModel" "fields" "[I", Cond.fieldLink RX5 13 "QueryGatewayModel" "leads" "[I", Cond.fieldLink RX5 16 "QueryGatewayModel" "isRequired" "[Z", Cond.fieldLink RX5 20 "QueryGatewayModel" "owners" "[I", Cond.fieldLink RX5 23 "QueryGatewayModel" "values" "[I", Cond.fieldLink RX5 26 "QueryGatewayModel" "above" "[I", Cond.fieldLink RX5 29 "QueryGatewayModel" "field" "[I", Cond.fieldLink RX5 32 "QueryGatewayModel" "type" "[I", Cond.fieldLink RX5 35 "QueryGatewayModel" "may" "[I", Cond.fieldLink RX5 38 "QueryGatewayModel" "fewest" "[I", Cond.fieldLink RX5 41 "QueryGatewayModel" "from" "[I", Cond.fieldLink RX5 44 "QueryGatewayModel" "raw" "[I", Cond.fieldLink RX5 47 "QueryGatewayModel" "isMissing" "[Z", Cond.fieldLink RX5 50 "QueryGatewayModel" "told" "[I", Cond.fieldLink RX5 53 "QueryGatewayModel" "other" "[I", Cond.methodLink RL 78 yL_addField, Cond.static yL_addField, Cond.initialized RL, Cond.codeWith yL_addField cL_addField 6 (some .int) [(0, 12, 15, 13), (0, 12, 19, 15)], Cond.classLink RL 13 "java/lang/IllegalArgumentException", Cond.classLink RL 15 "java/lang/IllegalStateException"]
def wsL_law0_r5 : List Cond := [Cond.methodLink RL 7 yX4_addField, Cond.instanceMethod yX4_addField, Cond.selects RX4 yX4_addField yX4_addField, Cond.code yX4_addField cX4_addField 4 (some .int), Cond.classLink RX4 52 "java/lang/IllegalArgumentException", Cond.initialized "java/lang/IllegalArgumentException", Cond.classLink RX4 63 "java/lang/IllegalStateException", Cond.initialized "java/lang/IllegalStateException", Cond.methodLink RX4 44 yX4_checkType, Cond.static yX4_checkType, Cond.code yX4_checkType cX4_checkType 1 none, Cond.methodLink RX4 48 yX4_isType, Cond.static yX4_isType, Cond.code yX4_isType cX4_isType 1 (some .boolean), Cond.methodLink RX4 59 yX1_fieldsOf, Cond.instanceMethod yX1_fieldsOf, Cond.selects RX1 yX1_fieldsOf yX1_fieldsOf, Cond.code yX1_fieldsOf cX1_fieldsOf 2 (some .int), Cond.methodLink RX4 68 yX1_append, Cond.instanceMethod yX1_append, Cond.selects RX1 yX1_append yX1_append, Cond.code yX1_append cX1_append 6 (some .int), Cond.methodLink RX1 38 yX1_fieldsOf, Cond.static yX4_slotOf]
def wsL_law0_r6 : List Cond := [Cond.code yX4_slotOf cX4_slotOf 2 (some .int), Cond.static yX4_isSlot, Cond.code yX4_isSlot cX4_isSlot 1 (some .boolean), Cond.methodLink RL 83 yX5_addField, Cond.instanceMethod yX5_addField, Cond.selects RX5 yX5_addField yX5_addField, Cond.code yX5_addField cX5_addField 5 (some .int), Cond.fieldLink RX5 56 "QueryGatewayModel" "thrown" "I", Cond.methodLink RX5 64 yX5_isType, Cond.static yX5_isType, Cond.code yX5_isType cX5_isType 1 (some .boolean), Cond.methodLink RX5 60 yX5_in, Cond.static yX5_in, Cond.code yX5_in cX5_in 3 (some .boolean), Cond.methodLink RL 84 yX5_thrown, Cond.instanceMethod yX5_thrown, Cond.selects RX5 yX5_thrown yX5_thrown, Cond.code yX5_thrown cX5_thrown 1 (some .int), Cond.methodLink RL 87 yL_own, Cond.static yL_own, Cond.codeWith yL_own cL_own 7 (some .int) [(0, 21, 24, 13), (0, 21, 28, 21)], Cond.classLink RL 21 "java/lang/IndexOutOfBoundsException", Cond.methodLink RL 17 yX4_own, Cond.instanceMethod yX4_own]
def wsL_law0_r7 : List Cond := [Cond.selects RX4 yX4_own yX4_own, Cond.code yX4_own cX4_own 5 (some .boolean), Cond.methodLink RX4 72 yX4_checkService, Cond.static yX4_checkService, Cond.code yX4_checkService cX4_checkService 1 none, Cond.methodLink RX4 178 yX4_isService, Cond.static yX4_isService, Cond.code yX4_isService cX4_isService 1 (some .boolean), Cond.methodLink RX4 75 yX4_checkField, Cond.instanceMethod yX4_checkField, Cond.selects RX4 yX4_checkField yX4_checkField, Cond.code yX4_checkField cX4_checkField 3 none, Cond.classLink RX4 190 "java/lang/IndexOutOfBoundsException", Cond.initialized "java/lang/IndexOutOfBoundsException", Cond.methodLink RX4 79 yX2_forget, Cond.instanceMethod yX2_forget, Cond.selects RX2 yX2_forget yX2_forget, Cond.code yX2_forget cX2_forget 1 none, Cond.fieldLink RX2 32 "QueryGateway$Plan" "known" "Z", Cond.methodLink RX4 82 yX4_slotOf, Cond.methodLink RX4 86 yX1_putOwner, Cond.instanceMethod yX1_putOwner, Cond.selects RX1 yX1_putOwner yX1_putOwner, Cond.code yX1_putOwner cX1_putOwner 5 (some .boolean)]
def wsL_law0_r8 : List Cond := [Cond.static yX4_bit, Cond.code yX4_bit cX4_bit 1 (some .int), Cond.methodLink RL 90 yX5_own, Cond.instanceMethod yX5_own, Cond.selects RX5 yX5_own yX5_own, Cond.code yX5_own cX5_own 7 (some .boolean), Cond.methodLink RX5 68 yX5_isService, Cond.static yX5_isService, Cond.code yX5_isService cX5_isService 1 (some .boolean), Cond.methodLink RX5 71 yX5_isField, Cond.instanceMethod yX5_isField, Cond.selects RX5 yX5_isField yX5_isField, Cond.code yX5_isField cX5_isField 3 (some .boolean), Cond.methodLink RL 91 yL_set, Cond.static yL_set, Cond.codeWith yL_set cL_set 7 (some .int) [(0, 14, 17, 13), (0, 14, 21, 21)], Cond.methodLink RL 23 yX4_set, Cond.instanceMethod yX4_set, Cond.selects RX4 yX4_set yX4_set, Cond.code yX4_set cX4_set 6 (some .int), Cond.methodLink RX4 90 yX4_checkKey, Cond.static yX4_checkKey, Cond.code yX4_checkKey cX4_checkKey 1 none, Cond.methodLink RX4 185 yX4_isKey]
def wsL_law0_r9 : List Cond := [Cond.static yX4_isKey, Cond.code yX4_isKey cX4_isKey 1 (some .boolean), Cond.methodLink RX4 93 yX1_takes, Cond.instanceMethod yX1_takes, Cond.selects RX1 yX1_takes yX1_takes, Cond.code yX1_takes cX1_takes 4 (some .boolean), Cond.methodLink RX1 52 yX1_leadsOf, Cond.instanceMethod yX1_leadsOf, Cond.selects RX1 yX1_leadsOf yX1_leadsOf, Cond.code yX1_leadsOf cX1_leadsOf 2 (some .int), Cond.methodLink RX4 99 yX1_putValue, Cond.instanceMethod yX1_putValue, Cond.selects RX1 yX1_putValue yX1_putValue, Cond.code yX1_putValue cX1_putValue 5 (some .int), Cond.methodLink RX1 58 yX1_valueOf, Cond.instanceMethod yX1_valueOf, Cond.selects RX1 yX1_valueOf yX1_valueOf, Cond.code yX1_valueOf cX1_valueOf 3 (some .int), Cond.methodLink RL 94 yX5_set, Cond.instanceMethod yX5_set, Cond.selects RX5 yX5_set yX5_set, Cond.code yX5_set cX5_set 7 (some .int), Cond.methodLink RX5 75 yX5_isKey, Cond.static yX5_isKey]
def wsL_law0_r10 : List Cond := [Cond.code yX5_isKey cX5_isKey 1 (some .boolean), Cond.methodLink RL 95 yL_fail, Cond.static yL_fail, Cond.codeWith yL_fail cL_fail 5 (some .int) [(0, 17, 20, 13)], Cond.methodLink RL 27 yX4_fail, Cond.instanceMethod yX4_fail, Cond.selects RX4 yX4_fail yX4_fail, Cond.code yX4_fail cX4_fail 3 (some .boolean), Cond.methodLink RX4 103 yX1_putFailed, Cond.instanceMethod yX1_putFailed, Cond.selects RX1 yX1_putFailed yX1_putFailed, Cond.code yX1_putFailed cX1_putFailed 4 (some .boolean), Cond.fieldLink RX1 61 "QueryGateway$Graph" "failed" "I", Cond.methodLink RL 98 yX5_fail, Cond.instanceMethod yX5_fail, Cond.selects RX5 yX5_fail yX5_fail, Cond.code yX5_fail cX5_fail 4 (some .boolean), Cond.fieldLink RX5 78 "QueryGatewayModel" "failed" "I", Cond.methodLink RL 99 yL_begin, Cond.static yL_begin, Cond.codeWith yL_begin cL_begin 4 (some .int) [(0, 9, 12, 13)], Cond.methodLink RL 31 yX4_begin, Cond.instanceMethod yX4_begin, Cond.selects RX4 yX4_begin yX4_begin]
def wsL_law0_r11 : List Cond := [Cond.code yX4_begin cX4_begin 2 (some .int), Cond.methodLink RX4 107 yX3_restart, Cond.instanceMethod yX3_restart, Cond.selects RX3 yX3_restart yX3_restart, Cond.code yX3_restart cX3_restart 3 (some .int), Cond.fieldLink RX3 18 "QueryGateway$Query" "count" "I", Cond.fieldLink RX3 22 "QueryGateway$Query" "type" "I", Cond.methodLink RL 102 yX5_begin, Cond.instanceMethod yX5_begin, Cond.selects RX5 yX5_begin yX5_begin, Cond.code yX5_begin cX5_begin 3 (some .int), Cond.fieldLink RX5 81 "QueryGatewayModel" "nodes" "I", Cond.fieldLink RX5 84 "QueryGatewayModel" "queryType" "I", Cond.methodLink RL 103 yL_node, Cond.static yL_node, Cond.codeWith yL_node cL_node 5 (some .int) [(0, 10, 13, 21), (0, 10, 17, 15)], Cond.methodLink RL 35 yX4_node, Cond.instanceMethod yX4_node, Cond.selects RX4 yX4_node yX4_node, Cond.code yX4_node cX4_node 5 (some .int), Cond.methodLink RX4 110 yX4_checkNode, Cond.instanceMethod yX4_checkNode, Cond.selects RX4 yX4_checkNode yX4_checkNode, Cond.code yX4_checkNode cX4_checkNode 2 none]
def wsL_law0_r12 : List Cond := [Cond.methodLink RX4 195 yX3_has, Cond.instanceMethod yX3_has, Cond.selects RX3 yX3_has yX3_has, Cond.code yX3_has cX3_has 2 (some .boolean), Cond.methodLink RX4 113 yX4_typeAt, Cond.instanceMethod yX4_typeAt, Cond.selects RX4 yX4_typeAt yX4_typeAt, Cond.code yX4_typeAt cX4_typeAt 2 (some .int), Cond.methodLink RX4 205 yX3_type, Cond.instanceMethod yX3_type, Cond.selects RX3 yX3_type yX3_type, Cond.code yX3_type cX3_type 1 (some .int), Cond.methodLink RX4 129 yX3_slotAt, Cond.instanceMethod yX3_slotAt, Cond.selects RX3 yX3_slotAt yX3_slotAt, Cond.code yX3_slotAt cX3_slotAt 2 (some .int), Cond.methodLink RX3 25 yX3_has, Cond.methodLink RX4 208 yX1_leadsOf, Cond.methodLink RX4 118 yX3_hasRoom, Cond.instanceMethod yX3_hasRoom, Cond.selects RX3 yX3_hasRoom yX3_hasRoom, Cond.code yX3_hasRoom cX3_hasRoom 5 (some .boolean), Cond.methodLink RX3 29 yX3_aboveOf, Cond.instanceMethod yX3_aboveOf]
def wsL_law0_r13 : List Cond := [Cond.selects RX3 yX3_aboveOf yX3_aboveOf, Cond.code yX3_aboveOf cX3_aboveOf 2 (some .int), Cond.methodLink RX3 33 yX3_slotAt, Cond.methodLink RX4 123 yX3_append, Cond.instanceMethod yX3_append, Cond.selects RX3 yX3_append yX3_append, Cond.code yX3_append cX3_append 4 (some .int), Cond.methodLink RL 106 yX5_node, Cond.instanceMethod yX5_node, Cond.selects RX5 yX5_node yX5_node, Cond.code yX5_node cX5_node 7 (some .int), Cond.methodLink RX5 87 yX5_isNode, Cond.instanceMethod yX5_isNode, Cond.selects RX5 yX5_isNode yX5_isNode, Cond.code yX5_isNode cX5_isNode 2 (some .boolean), Cond.methodLink RX5 90 yX5_fieldOf, Cond.instanceMethod yX5_fieldOf, Cond.selects RX5 yX5_fieldOf yX5_fieldOf, Cond.code yX5_fieldOf cX5_fieldOf 2 (some .int), Cond.methodLink RL 107 yX4_nodes, Cond.instanceMethod yX4_nodes, Cond.selects RX4 yX4_nodes yX4_nodes, Cond.code yX4_nodes cX4_nodes 1 (some .int), Cond.methodLink RX4 125 yX3_size]
def wsL_law0_r14 : List Cond := [Cond.instanceMethod yX3_size, Cond.selects RX3 yX3_size yX3_size, Cond.code yX3_size cX3_size 1 (some .int), Cond.methodLink RL 110 yX5_nodes, Cond.instanceMethod yX5_nodes, Cond.selects RX5 yX5_nodes yX5_nodes, Cond.code yX5_nodes cX5_nodes 1 (some .int), Cond.methodLink RL 111 yL_typeOf, Cond.static yL_typeOf, Cond.codeWith yL_typeOf cL_typeOf 4 (some .int) [(0, 9, 12, 21)], Cond.methodLink RL 39 yX4_typeOf, Cond.instanceMethod yX4_typeOf, Cond.selects RX4 yX4_typeOf yX4_typeOf, Cond.code yX4_typeOf cX4_typeOf 2 (some .int), Cond.methodLink RL 113 yX5_typeOf, Cond.instanceMethod yX5_typeOf, Cond.selects RX5 yX5_typeOf yX5_typeOf, Cond.code yX5_typeOf cX5_typeOf 2 (some .int), Cond.methodLink RL 114 yL_hops, Cond.static yL_hops, Cond.codeWith yL_hops cL_hops 3 (some .int) [(0, 8, 11, 15)], Cond.methodLink RL 42 yX4_hops, Cond.instanceMethod yX4_hops, Cond.selects RX4 yX4_hops yX4_hops]
def wsL_law0_r15 : List Cond := [Cond.code yX4_hops cX4_hops 1 (some .int), Cond.methodLink RX4 132 yX4_checkPlan, Cond.instanceMethod yX4_checkPlan, Cond.selects RX4 yX4_checkPlan yX4_checkPlan, Cond.code yX4_checkPlan cX4_checkPlan 1 none, Cond.methodLink RX4 200 yX2_find, Cond.instanceMethod yX2_find, Cond.selects RX2 yX2_find yX2_find, Cond.code yX2_find cX2_find 1 (some .boolean), Cond.fieldLink RX2 40 "QueryGateway$Plan" "there" "Z", Cond.fieldLink RX2 50 "QueryGateway$Plan" "length" "I", Cond.methodLink RX2 36 yX2_openChoices, Cond.instanceMethod yX2_openChoices, Cond.selects RX2 yX2_openChoices yX2_openChoices, Cond.code yX2_openChoices cX2_openChoices 3 (some .boolean), Cond.methodLink RX2 67 Lib.Math.min.name, Cond.static Lib.Math.min.name, Cond.initialized "java/lang/Math", Cond.code Lib.Math.min.name Lib.Math.min.code 2 (some .int), Cond.fieldLink RX2 72 "QueryGateway$Plan" "count" "I", Cond.methodLink RX2 63 yX3_size, Cond.methodLink RX2 75 yX3_aboveOf, Cond.methodLink RX2 79 yX3_slotAt, Cond.methodLink RX2 82 yX1_ownersOf]
def wsL_law0_r16 : List Cond := [Cond.instanceMethod yX1_ownersOf, Cond.selects RX1 yX1_ownersOf yX1_ownersOf, Cond.code yX1_ownersOf cX1_ownersOf 2 (some .int), Cond.methodLink RX2 43 yX2_countHopsBelow, Cond.instanceMethod yX2_countHopsBelow, Cond.selects RX2 yX2_countHopsBelow yX2_countHopsBelow, Cond.code yX2_countHopsBelow cX2_countHopsBelow 3 none, Cond.methodLink RX2 46 yX2_hopsAt, Cond.instanceMethod yX2_hopsAt, Cond.selects RX2 yX2_hopsAt yX2_hopsAt, Cond.code yX2_hopsAt cX2_hopsAt 6 (some .int), Cond.methodLink RX2 93 yJ6_bitCount_0f7a4, Cond.static yJ6_bitCount_0f7a4, Cond.initialized RJ6, Cond.code yJ6_bitCount_0f7a4 cJ6_bitCount_0f7a4 1 (some .int), Cond.constant RJ6 265 (1431655765), Cond.constant RJ6 266 (858993459), Cond.constant RJ6 267 (252645135), Cond.methodLink RX2 98 yX2_hopsUnder, Cond.instanceMethod yX2_hopsUnder, Cond.selects RX2 yX2_hopsUnder yX2_hopsUnder, Cond.code yX2_hopsUnder cX2_hopsUnder 7 (some .int), Cond.methodLink RX2 54 yX2_chooseServices, Cond.instanceMethod yX2_chooseServices]
def wsL_law0_r17 : List Cond := [Cond.selects RX2 yX2_chooseServices yX2_chooseServices, Cond.code yX2_chooseServices cX2_chooseServices 7 none, Cond.methodLink RX2 87 yX2_serviceOf, Cond.instanceMethod yX2_serviceOf, Cond.selects RX2 yX2_serviceOf yX2_serviceOf, Cond.code yX2_serviceOf cX2_serviceOf 2 (some .int), Cond.methodLink RX2 57 yX3_has, Cond.methodLink RX4 135 yX2_length, Cond.instanceMethod yX2_length, Cond.selects RX2 yX2_length yX2_length, Cond.code yX2_length cX2_length 1 (some .int), Cond.methodLink RL 117 yX5_hops, Cond.instanceMethod yX5_hops, Cond.selects RX5 yX5_hops yX5_hops, Cond.code yX5_hops cX5_hops 1 (some .int), Cond.methodLink RX5 108 yX5_hasPlan, Cond.instanceMethod yX5_hasPlan, Cond.selects RX5 yX5_hasPlan yX5_hasPlan, Cond.code yX5_hasPlan cX5_hasPlan 3 (some .boolean), Cond.methodLink RX5 104 yX5_tries, Cond.instanceMethod yX5_tries, Cond.selects RX5 yX5_tries yX5_tries, Cond.code yX5_tries cX5_tries 3 (some .int), Cond.methodLink RX5 101 yX5_hopsBelow]
def wsL_law0_r18 : List Cond := [Cond.instanceMethod yX5_hopsBelow, Cond.selects RX5 yX5_hopsBelow yX5_hopsBelow, Cond.code yX5_hopsBelow cX5_hopsBelow 7 (some .int), Cond.methodLink RX5 94 yX5_manyOf, Cond.static yX5_manyOf, Cond.code yX5_manyOf cX5_manyOf 3 (some .int), Cond.methodLink RX5 97 yX5_fewestBy, Cond.instanceMethod yX5_fewestBy, Cond.selects RX5 yX5_fewestBy yX5_fewestBy, Cond.code yX5_fewestBy cX5_fewestBy 6 (some .int), Cond.methodLink RL 118 yL_takenFrom, Cond.static yL_takenFrom, Cond.codeWith yL_takenFrom cL_takenFrom 4 (some .int) [(0, 9, 12, 21), (0, 9, 15, 15)], Cond.methodLink RL 46 yX4_takenFrom, Cond.instanceMethod yX4_takenFrom, Cond.selects RX4 yX4_takenFrom yX4_takenFrom, Cond.code yX4_takenFrom cX4_takenFrom 2 (some .int), Cond.methodLink RX4 138 yX2_serviceOf, Cond.methodLink RL 120 yX5_takenFrom, Cond.instanceMethod yX5_takenFrom, Cond.selects RX5 yX5_takenFrom yX5_takenFrom, Cond.code yX5_takenFrom cX5_takenFrom 2 (some .int), Cond.methodLink RX5 112 yX5_laysPlan, Cond.instanceMethod yX5_laysPlan]
def wsL_law0_r19 : List Cond := [Cond.selects RX5 yX5_laysPlan yX5_laysPlan, Cond.code yX5_laysPlan cX5_laysPlan 6 (some .int), Cond.methodLink RL 121 yL_used, Cond.static yL_used, Cond.codeWith yL_used cL_used 3 (some .int) [(0, 8, 11, 15)], Cond.methodLink RL 49 yX4_used, Cond.instanceMethod yX4_used, Cond.selects RX4 yX4_used yX4_used, Cond.code yX4_used cX4_used 3 (some .int), Cond.methodLink RX4 141 yX4_bit, Cond.methodLink RL 123 yX5_used, Cond.instanceMethod yX5_used, Cond.selects RX5 yX5_used yX5_used, Cond.code yX5_used cX5_used 3 (some .int), Cond.methodLink RL 124 yL_value, Cond.static yL_value, Cond.codeWith yL_value cL_value 5 (some .int) [(0, 10, 13, 13), (0, 10, 17, 21), (0, 10, 21, 15)], Cond.methodLink RL 52 yX4_value, Cond.instanceMethod yX4_value, Cond.selects RX4 yX4_value yX4_value, Cond.code yX4_value cX4_value 3 (some .int), Cond.methodLink RX4 144 yX1_failures, Cond.instanceMethod yX1_failures, Cond.selects RX1 yX1_failures yX1_failures]
def wsL_law0_r20 : List Cond := [Cond.code yX1_failures cX1_failures 1 (some .int), Cond.methodLink RX4 147 yX0_read, Cond.instanceMethod yX0_read, Cond.selects RX0 yX0_read yX0_read, Cond.code yX0_read cX0_read 3 none, Cond.methodLink RX0 34 yX0_readValues, Cond.instanceMethod yX0_readValues, Cond.selects RX0 yX0_readValues yX0_readValues, Cond.code yX0_readValues cX0_readValues 7 none, Cond.methodLink RX0 54 yX3_size, Cond.methodLink RX0 66 yX3_aboveOf, Cond.methodLink RX0 48 yX3_has, Cond.methodLink RX0 69 yX2_serviceOf, Cond.methodLink RX0 77 yX3_slotAt, Cond.methodLink RX0 80 yX1_valueOf, Cond.methodLink RX0 38 yX0_letMissingClimb, Cond.instanceMethod yX0_letMissingClimb, Cond.selects RX0 yX0_letMissingClimb yX0_letMissingClimb, Cond.code yX0_letMissingClimb cX0_letMissingClimb 3 none, Cond.fieldLink RX0 44 "QueryGateway$Answer" "allMissing" "Z", Cond.methodLink RX0 86 Lib.Math.min.name, Cond.methodLink RX0 91 yX1_isRequired, Cond.instanceMethod yX1_isRequired, Cond.selects RX1 yX1_isRequired yX1_isRequired]
def wsL_law0_r21 : List Cond := [Cond.code yX1_isRequired cX1_isRequired 2 (some .boolean), Cond.methodLink RX0 41 yX0_letMissingFall, Cond.instanceMethod yX0_letMissingFall, Cond.selects RX0 yX0_letMissingFall yX0_letMissingFall, Cond.code yX0_letMissingFall cX0_letMissingFall 3 none, Cond.methodLink RX4 150 yX0_told, Cond.instanceMethod yX0_told, Cond.selects RX0 yX0_told yX0_told, Cond.code yX0_told cX0_told 2 (some .int), Cond.methodLink RL 126 yX5_value, Cond.instanceMethod yX5_value, Cond.selects RX5 yX5_value yX5_value, Cond.code yX5_value cX5_value 3 (some .int), Cond.methodLink RX5 122 yX5_answers, Cond.instanceMethod yX5_answers, Cond.selects RX5 yX5_answers yX5_answers, Cond.code yX5_answers cX5_answers 6 none, Cond.fieldLink RX5 118 "QueryGatewayModel" "isAnswerMissing" "Z", Cond.methodLink RX5 115 yX5_entityOf, Cond.instanceMethod yX5_entityOf, Cond.selects RX5 yX5_entityOf yX5_entityOf, Cond.code yX5_entityOf cX5_entityOf 3 (some .int), Cond.methodLink RL 127 yL_isMissing, Cond.static yL_isMissing]
def wsL_law0_r22 : List Cond := [Cond.codeWith yL_isMissing cL_isMissing 4 (some .int) [(0, 16, 19, 13), (0, 16, 22, 15)], Cond.methodLink RL 55 yX4_isMissing, Cond.instanceMethod yX4_isMissing, Cond.selects RX4 yX4_isMissing yX4_isMissing, Cond.code yX4_isMissing cX4_isMissing 2 (some .boolean), Cond.methodLink RX4 153 yX0_isAllMissing, Cond.instanceMethod yX0_isAllMissing, Cond.selects RX0 yX0_isAllMissing yX0_isAllMissing, Cond.code yX0_isAllMissing cX0_isAllMissing 1 (some .boolean), Cond.methodLink RL 129 yX5_isMissing, Cond.instanceMethod yX5_isMissing, Cond.selects RX5 yX5_isMissing yX5_isMissing, Cond.code yX5_isMissing cX5_isMissing 2 (some .boolean), Cond.methodLink RL 130 yL_faults, Cond.static yL_faults, Cond.codeWith yL_faults cL_faults 4 (some .int) [(0, 9, 12, 13), (0, 9, 15, 15)], Cond.methodLink RL 59 yX4_faults, Cond.instanceMethod yX4_faults, Cond.selects RX4 yX4_faults yX4_faults, Cond.code yX4_faults cX4_faults 2 (some .int), Cond.methodLink RX4 157 yX0_countFaults, Cond.instanceMethod yX0_countFaults, Cond.selects RX0 yX0_countFaults yX0_countFaults, Cond.code yX0_countFaults cX0_countFaults 3 (some .int)]
def wsL_law0_r23 : List Cond := [Cond.methodLink RL 132 yX5_faults, Cond.instanceMethod yX5_faults, Cond.selects RX5 yX5_faults yX5_faults, Cond.code yX5_faults cX5_faults 4 (some .int), Cond.methodLink RL 133 yL_loaded, Cond.static yL_loaded, Cond.codeWith yL_loaded cL_loaded 6 (some .int) [(0, 12, 15, 13), (0, 12, 19, 21), (0, 12, 23, 15)], Cond.methodLink RL 62 yX4_loaded, Cond.instanceMethod yX4_loaded, Cond.selects RX4 yX4_loaded yX4_loaded, Cond.code yX4_loaded cX4_loaded 6 (some .int), Cond.methodLink RX4 164 yJ6_bitCount_0f7a4, Cond.methodLink RL 136 yX5_loaded, Cond.instanceMethod yX5_loaded, Cond.selects RX5 yX5_loaded yX5_loaded, Cond.code yX5_loaded cX5_loaded 7 (some .int), Cond.methodLink RL 137 yL_harmed, Cond.static yL_harmed, Cond.codeWith yL_harmed cL_harmed 3 (some .int) [(0, 8, 11, 15)], Cond.methodLink RL 66 yX4_harmed, Cond.instanceMethod yX4_harmed, Cond.selects RX4 yX4_harmed yX4_harmed, Cond.code yX4_harmed cX4_harmed 3 (some .int), Cond.methodLink RX4 169 yX0_differsFrom]
def wsL_law0_r24 : List Cond := [Cond.instanceMethod yX0_differsFrom, Cond.selects RX0 yX0_differsFrom yX0_differsFrom, Cond.code yX0_differsFrom cX0_differsFrom 4 (some .boolean), Cond.methodLink RX0 58 yX0_isAllMissing, Cond.methodLink RX0 62 yX0_told, Cond.methodLink RL 139 yX5_harmed, Cond.instanceMethod yX5_harmed, Cond.selects RX5 yX5_harmed yX5_harmed, Cond.code yX5_harmed cX5_harmed 6 (some .int), Cond.methodLink RL 140 yL_least, Cond.static yL_least, Cond.codeWith yL_least cL_least 4 (some .int) [(0, 9, 12, 21), (0, 9, 15, 15), (0, 9, 18, 72)], Cond.classLink RL 72 "java/util/NoSuchElementException", Cond.methodLink RL 69 yX4_least, Cond.instanceMethod yX4_least, Cond.selects RX4 yX4_least yX4_least, Cond.code yX4_least cX4_least 6 (some .int), Cond.classLink RX4 173 "java/util/NoSuchElementException", Cond.initialized "java/util/NoSuchElementException", Cond.methodLink RL 142 yX5_least, Cond.instanceMethod yX5_least, Cond.selects RX5 yX5_least yX5_least, Cond.code yX5_least cX5_least 5 (some .int)]
def wsL_law0 : List Cond := (wsL_law0_r1 ++ (wsL_law0_r2 ++ (wsL_law0_r3 ++ (wsL_law0_r4 ++ (wsL_law0_r5 ++ (wsL_law0_r6 ++ (wsL_law0_r7 ++ (wsL_law0_r8 ++ (wsL_law0_r9 ++ (wsL_law0_r10 ++ (wsL_law0_r11 ++ (wsL_law0_r12 ++ (wsL_law0_r13 ++ (wsL_law0_r14 ++ (wsL_law0_r15 ++ (wsL_law0_r16 ++ (wsL_law0_r17 ++ (wsL_law0_r18 ++ (wsL_law0_r19 ++ (wsL_law0_r20 ++ (wsL_law0_r21 ++ (wsL_law0_r22 ++ (wsL_law0_r23 ++ wsL_law0_r24))))))))))))))))))))))) ++ wsX40 ++ wsX50 ++ wsX10 ++ wsX30 ++ wsX20 ++ wsX00 ++ ([] : List Cond)
def wsL_law : List Cond := wsL_law0 ++ (vx_atS RX4 56 "java/lang/IllegalArgumentException" ["java/lang/RuntimeException", "java/lang/Exception"]).filter goodWord ++ (vx_atS RX4 67 "java/lang/IllegalStateException" ["java/lang/RuntimeException", "java/lang/Exception"]).filter goodWord ++ (vx_atS RX4 194 "java/lang/IndexOutOfBoundsException" ["java/lang/RuntimeException", "java/lang/Exception"]).filter goodWord ++ (vx_atS RX4 177 "java/util/NoSuchElementException" ["java/lang/RuntimeException", "java/lang/Exception"]).filter goodWord
set_option maxRecDepth 20000 in
theorem wsL_law_in0 : ∀ w ∈ wsL_law0, w ∈ lw_tbl := fun w h => (goodIn_p wsL_law0 [44, 47, 52, 56, 82, 101, 138, 650, 194, 197, 200, 274, 295, 299, 302, 720, 723, 726, 716, 310, 313, 316, 321, 341, 346, 349, 730, 733, 737, 356, 359, 362, 367, 371, 376, 380, 741, 744, 388, 392, 748, 399, 403, 752, 410, 414, 418, 423, 427, 431, 438, 442, 448, 756, 760, 764, 181, 185, 768, 455, 772, 462, 466, 470, 474, 478, 484, 488, 492, 496, 503, 507, 511, 517, 776, 780, 784, 788, 791, 795, 524, 799, 803, 532, 807, 540, 544, 548, 552, 563, 568, 572, 576, 811, 815, 819, 583, 587, 823, 594, 598, 827, 605, 831, 615, 619, 835, 629, 839] (by decide +kernel) (by decide +kernel) w h).1
theorem wsL_law_x0 : ∀ w ∈ (vx_atS RX4 56 "java/lang/IllegalArgumentException" ["java/lang/RuntimeException", "java/lang/Exception"]).filter goodWord, w ∈ lw_tbl := by decide +kernel
theorem wsL_law_x1 : ∀ w ∈ (vx_atS RX4 67 "java/lang/IllegalStateException" ["java/lang/RuntimeException", "java/lang/Exception"]).filter goodWord, w ∈ lw_tbl := by decide +kernel
theorem wsL_law_x2 : ∀ w ∈ (vx_atS RX4 194 "java/lang/IndexOutOfBoundsException" ["java/lang/RuntimeException", "java/lang/Exception"]).filter goodWord, w ∈ lw_tbl := by decide +kernel
theorem wsL_law_x3 : ∀ w ∈ (vx_atS RX4 177 "java/util/NoSuchElementException" ["java/lang/RuntimeException", "java/lang/Exception"]).filter goodWord, w ∈ lw_tbl := by decide +kernel
theorem wsL_law_in : ∀ w ∈ wsL_law, w ∈ lw_tbl := fun w h => (List.mem_append.mp h).elim (fun h => (List.mem_append.mp h).elim (fun h => (List.mem_append.mp h).elim (fun h => (List.mem_append.mp h).elim (fun h => wsL_law_in0 w h) (fun h => wsL_law_x0 w h)) (fun h => wsL_law_x1 w h)) (fun h => wsL_law_x2 w h)) (fun h => wsL_law_x3 w h)
theorem inlX0 : ∀ w ∈ wsX00, w ∈ wsL_law := fun _ h => List.mem_append_left _ (List.mem_append_left _ (List.mem_append_left _ (List.mem_append_left _ (List.mem_append_left _ (List.mem_append_right _ h)))))
theorem inX0 : ∀ w ∈ wsX00, w ∈ lw_tbl := fun w h => wsL_law_in w (inlX0 w h)
theorem inlX1 : ∀ w ∈ wsX10, w ∈ wsL_law := fun _ h => List.mem_append_left _ (List.mem_append_left _ (List.mem_append_left _ (List.mem_append_left _ (List.mem_append_left _ (List.mem_append_left _ (List.mem_append_left _ (List.mem_append_left _ (List.mem_append_right _ h))))))))
theorem inX1 : ∀ w ∈ wsX10, w ∈ lw_tbl := fun w h => wsL_law_in w (inlX1 w h)
theorem inlX2 : ∀ w ∈ wsX20, w ∈ wsL_law := fun _ h => List.mem_append_left _ (List.mem_append_left _ (List.mem_append_left _ (List.mem_append_left _ (List.mem_append_left _ (List.mem_append_left _ (List.mem_append_right _ h))))))
theorem inX2 : ∀ w ∈ wsX20, w ∈ lw_tbl := fun w h => wsL_law_in w (inlX2 w h)
theorem inlX3 : ∀ w ∈ wsX30, w ∈ wsL_law := fun _ h => List.mem_append_left _ (List.mem_append_left _ (List.mem_append_left _ (List.mem_append_left _ (List.mem_append_left _ (List.mem_append_left _ (List.mem_append_left _ (List.mem_append_right _ h)))))))
theorem inX3 : ∀ w ∈ wsX30, w ∈ lw_tbl := fun w h => wsL_law_in w (inlX3 w h)
theorem inlX4 : ∀ w ∈ wsX40, w ∈ wsL_law := fun _ h => List.mem_append_left _ (List.mem_append_left _ (List.mem_append_left _ (List.mem_append_left _ (List.mem_append_left _ (List.mem_append_left _ (List.mem_append_left _ (List.mem_append_left _ (List.mem_append_left _ (List.mem_append_left _ (List.mem_append_right _ h))))))))))
theorem inX4 : ∀ w ∈ wsX40, w ∈ lw_tbl := fun w h => wsL_law_in w (inlX4 w h)
theorem inlX5 : ∀ w ∈ wsX50, w ∈ wsL_law := fun _ h => List.mem_append_left _ (List.mem_append_left _ (List.mem_append_left _ (List.mem_append_left _ (List.mem_append_left _ (List.mem_append_left _ (List.mem_append_left _ (List.mem_append_left _ (List.mem_append_left _ (List.mem_append_right _ h)))))))))
theorem inX5 : ∀ w ∈ wsX50, w ∈ lw_tbl := fun w h => wsL_law_in w (inlX5 w h)
theorem inJx145de : ∀ w ∈ wsJx145de0, w ∈ lw_tbl := by decide +kernel
theorem inJ6 : ∀ w ∈ wsJ60, w ∈ lw_tbl := by decide +kernel
theorem inJ9 : ∀ w ∈ wsJ90, w ∈ lw_tbl := by decide +kernel
theorem inJ0 : ∀ w ∈ wsJ00, w ∈ lw_tbl := by decide +kernel
theorem inJ7 : ∀ w ∈ wsJ70, w ∈ lw_tbl := by decide +kernel
theorem dX0_init_0 : decode cX0_init 0 = .ok (.aload_n 0, 1) := by decide +kernel
theorem dX0_init_1 : decode cX0_init 1 = .ok (.invokespecial 3, 3) := by decide +kernel
theorem dX0_init_4 : decode cX0_init 4 = .ok (.aload_n 0, 1) := by decide +kernel
theorem dX0_init_5 : decode cX0_init 5 = .ok (.aload_n 1, 1) := by decide +kernel
theorem dX0_init_6 : decode cX0_init 6 = .ok (.putfield 9, 3) := by decide +kernel
theorem dX0_init_9 : decode cX0_init 9 = .ok (.aload_n 0, 1) := by decide +kernel
theorem dX0_init_10 : decode cX0_init 10 = .ok (.aload_n 2, 1) := by decide +kernel
theorem dX0_init_11 : decode cX0_init 11 = .ok (.putfield 15, 3) := by decide +kernel
theorem dX0_init_14 : decode cX0_init 14 = .ok (.aload_n 0, 1) := by decide +kernel
theorem dX0_init_15 : decode cX0_init 15 = .ok (.aload_n 3, 1) := by decide +kernel
theorem dX0_init_16 : decode cX0_init 16 = .ok (.putfield 19, 3) := by decide +kernel
theorem dX0_init_19 : decode cX0_init 19 = .ok (.aload_n 0, 1) := by decide +kernel
theorem dX0_init_20 : decode cX0_init 20 = .ok (.bipush 12, 2) := by decide +kernel
theorem dX0_init_22 : decode cX0_init 22 = .ok (.newarray .int, 2) := by decide +kernel
theorem dX0_init_24 : decode cX0_init 24 = .ok (.putfield 23, 3) := by decide +kernel
theorem dX0_init_27 : decode cX0_init 27 = .ok (.aload_n 0, 1) := by decide +kernel
theorem dX0_init_28 : decode cX0_init 28 = .ok (.bipush 12, 2) := by decide +kernel
theorem dX0_init_30 : decode cX0_init 30 = .ok (.newarray .int, 2) := by decide +kernel
theorem dX0_init_32 : decode cX0_init 32 = .ok (.putfield 27, 3) := by decide +kernel
theorem dX0_init_35 : decode cX0_init 35 = .ok (.aload_n 0, 1) := by decide +kernel
theorem dX0_init_36 : decode cX0_init 36 = .ok (.bipush 12, 2) := by decide +kernel
theorem dX0_init_38 : decode cX0_init 38 = .ok (.newarray .boolean, 2) := by decide +kernel
theorem dX0_init_40 : decode cX0_init 40 = .ok (.putfield 30, 3) := by decide +kernel
theorem dX0_init_43 : decode cX0_init 43 = .ok (.return_, 1) := by decide +kernel
set_option maxRecDepth 20000 in
theorem ggX0_read_X0_readValues : GoodIn wsX0_read wsX0_readValues := goodIn_r _ [5, 6, 7, 8, 9, 10, 11, 12, 13, 14, 15, 16, 17, 18, 19, 20, 21, 22, 23, 24, 25, 26, 27, 28, 29, 30, 31, 32, 33, 34, 35, 36, 37, 38, 39, 40, 41, 42, 43, 44, 45, 46, 47, 48, 49, 50, 51, 52, 53, 72, 73, 74, 75, 76, 77, 78, 79, 80, 81, 82, 83, 84, 85, 86, 87, 88, 89, 90, 91, 92, 93, 94, 95, 96, 97, 98] (by decide +kernel) (by decide +kernel)
set_option maxRecDepth 20000 in
theorem gX0_read_X0_readValues : GoodIn wsX0_read (wsV RX0 34 RX0 yX0_readValues wsX0_readValues) := goodIn_app (goodIn_of _ (by decide +kernel)) ggX0_read_X0_readValues
set_option maxRecDepth 20000 in
theorem ggX0_read_X0_letMissingClimb : GoodIn wsX0_read wsX0_letMissingClimb := goodIn_r _ [57, 58, 6, 59, 60, 61, 62, 11, 10, 12, 13, 14, 15, 16, 17, 39, 40, 41, 42, 43, 23, 24, 25, 26, 63, 64, 65, 47, 66, 67, 50, 37, 51, 18, 19, 20, 21, 22, 27, 72, 73, 74, 75, 76, 77, 78, 79, 80, 81, 82, 93, 94, 95, 96, 97, 98] (by decide +kernel) (by decide +kernel)
set_option maxRecDepth 20000 in
theorem gX0_read_X0_letMissingClimb : GoodIn wsX0_read (wsV RX0 38 RX0 yX0_letMissingClimb wsX0_letMissingClimb) := goodIn_app (goodIn_of _ (by decide +kernel)) ggX0_read_X0_letMissingClimb
set_option maxRecDepth 20000 in
theorem ggX0_read_X0_letMissingFall : GoodIn wsX0_read wsX0_letMissingFall := goodIn_r _ [71, 6, 11, 58, 12, 13, 14, 15, 16, 17, 18, 19, 20, 21, 22, 23, 24, 25, 26, 27, 72, 73, 74, 75, 76, 77, 78, 79, 80, 81, 82] (by decide +kernel) (by decide +kernel)
set_option maxRecDepth 20000 in
theorem gX0_read_X0_letMissingFall : GoodIn wsX0_read (wsV RX0 41 RX0 yX0_letMissingFall wsX0_letMissingFall) := goodIn_app (goodIn_of _ (by decide +kernel)) ggX0_read_X0_letMissingFall
theorem dX0_read_0 : decode cX0_read 0 = .ok (.aload_n 0, 1) := by decide +kernel
theorem dX0_read_1 : decode cX0_read 1 = .ok (.iload_n 1, 1) := by decide +kernel
theorem dX0_read_2 : decode cX0_read 2 = .ok (.iload_n 2, 1) := by decide +kernel
theorem dX0_read_3 : decode cX0_read 3 = .ok (.invokevirtual 34, 3) := by decide +kernel
theorem dX0_read_6 : decode cX0_read 6 = .ok (.aload_n 0, 1) := by decide +kernel
theorem dX0_read_7 : decode cX0_read 7 = .ok (.invokevirtual 38, 3) := by decide +kernel
theorem dX0_read_10 : decode cX0_read 10 = .ok (.aload_n 0, 1) := by decide +kernel
theorem dX0_read_11 : decode cX0_read 11 = .ok (.invokevirtual 41, 3) := by decide +kernel
theorem dX0_read_14 : decode cX0_read 14 = .ok (.return_, 1) := by decide +kernel
theorem dX0_isAllMissing_0 : decode cX0_isAllMissing 0 = .ok (.aload_n 0, 1) := by decide +kernel
theorem dX0_isAllMissing_1 : decode cX0_isAllMissing 1 = .ok (.getfield 44, 3) := by decide +kernel
theorem dX0_isAllMissing_4 : decode cX0_isAllMissing 4 = .ok (.ireturn, 1) := by decide +kernel
set_option maxRecDepth 20000 in
theorem ggX0_told_X3_has : GoodIn wsX0_told wsX3_has := goodIn_r _ [8, 9, 17, 18, 19, 20] (by decide +kernel) (by decide +kernel)
set_option maxRecDepth 20000 in
theorem gX0_told_X3_has : GoodIn wsX0_told (wsV RX0 48 RX3 yX3_has wsX3_has) := goodIn_app (goodIn_of _ (by decide +kernel)) ggX0_told_X3_has
theorem dX0_told_0 : decode cX0_told 0 = .ok (.aload_n 0, 1) := by decide +kernel
theorem dX0_told_1 : decode cX0_told 1 = .ok (.getfield 15, 3) := by decide +kernel
theorem dX0_told_4 : decode cX0_told 4 = .ok (.iload_n 1, 1) := by decide +kernel
theorem dX0_told_5 : decode cX0_told 5 = .ok (.invokevirtual 48, 3) := by decide +kernel
theorem dX0_told_8 : decode cX0_told 8 = .ok (.ifCond .eq 21, 3) := by decide +kernel
theorem dX0_told_11 : decode cX0_told 11 = .ok (.aload_n 0, 1) := by decide +kernel
theorem dX0_told_12 : decode cX0_told 12 = .ok (.getfield 30, 3) := by decide +kernel
theorem dX0_told_15 : decode cX0_told 15 = .ok (.iload_n 1, 1) := by decide +kernel
theorem dX0_told_16 : decode cX0_told 16 = .ok (.baload, 1) := by decide +kernel
theorem dX0_told_17 : decode cX0_told 17 = .ok (.ifCond .ne 12, 3) := by decide +kernel
theorem dX0_told_20 : decode cX0_told 20 = .ok (.aload_n 0, 1) := by decide +kernel
theorem dX0_told_21 : decode cX0_told 21 = .ok (.getfield 27, 3) := by decide +kernel
theorem dX0_told_24 : decode cX0_told 24 = .ok (.iload_n 1, 1) := by decide +kernel
theorem dX0_told_25 : decode cX0_told 25 = .ok (.iaload, 1) := by decide +kernel
theorem dX0_told_26 : decode cX0_told 26 = .ok (.goto 4, 3) := by decide +kernel
theorem dX0_told_29 : decode cX0_told 29 = .ok (.iconst (-1), 1) := by decide +kernel
theorem dX0_told_30 : decode cX0_told 30 = .ok (.ireturn, 1) := by decide +kernel
set_option maxRecDepth 20000 in
theorem ggX0_countFaults_X3_size : GoodIn wsX0_countFaults wsX3_size := goodIn_r _ [8, 9, 17, 18, 19, 20] (by decide +kernel) (by decide +kernel)
set_option maxRecDepth 20000 in
theorem gX0_countFaults_X3_size : GoodIn wsX0_countFaults (wsV RX0 54 RX3 yX3_size wsX3_size) := goodIn_app (goodIn_of _ (by decide +kernel)) ggX0_countFaults_X3_size
theorem dX0_countFaults_0 : decode cX0_countFaults 0 = .ok (.iconst 0, 1) := by decide +kernel
theorem dX0_countFaults_1 : decode cX0_countFaults 1 = .ok (.istore_n 1, 1) := by decide +kernel
theorem dX0_countFaults_2 : decode cX0_countFaults 2 = .ok (.iconst 0, 1) := by decide +kernel
theorem dX0_countFaults_3 : decode cX0_countFaults 3 = .ok (.istore_n 2, 1) := by decide +kernel
theorem dX0_countFaults_4 : decode cX0_countFaults 4 = .ok (.iload_n 2, 1) := by decide +kernel
theorem dX0_countFaults_5 : decode cX0_countFaults 5 = .ok (.aload_n 0, 1) := by decide +kernel
theorem dX0_countFaults_6 : decode cX0_countFaults 6 = .ok (.getfield 15, 3) := by decide +kernel
theorem dX0_countFaults_9 : decode cX0_countFaults 9 = .ok (.invokevirtual 54, 3) := by decide +kernel
theorem dX0_countFaults_12 : decode cX0_countFaults 12 = .ok (.if_icmp .ge 38, 3) := by decide +kernel
theorem dX0_countFaults_15 : decode cX0_countFaults 15 = .ok (.iload_n 2, 1) := by decide +kernel
theorem dX0_countFaults_16 : decode cX0_countFaults 16 = .ok (.bipush 12, 2) := by decide +kernel
theorem dX0_countFaults_18 : decode cX0_countFaults 18 = .ok (.if_icmp .ge 32, 3) := by decide +kernel
theorem dX0_countFaults_21 : decode cX0_countFaults 21 = .ok (.aload_n 0, 1) := by decide +kernel
theorem dX0_countFaults_22 : decode cX0_countFaults 22 = .ok (.getfield 23, 3) := by decide +kernel
theorem dX0_countFaults_25 : decode cX0_countFaults 25 = .ok (.iload_n 2, 1) := by decide +kernel
theorem dX0_countFaults_26 : decode cX0_countFaults 26 = .ok (.iaload, 1) := by decide +kernel
theorem dX0_countFaults_27 : decode cX0_countFaults 27 = .ok (.iconst (-1), 1) := by decide +kernel
theorem dX0_countFaults_28 : decode cX0_countFaults 28 = .ok (.if_icmp .eq 16, 3) := by decide +kernel
theorem dX0_countFaults_31 : decode cX0_countFaults 31 = .ok (.aload_n 0, 1) := by decide +kernel
theorem dX0_countFaults_32 : decode cX0_countFaults 32 = .ok (.getfield 27, 3) := by decide +kernel
theorem dX0_countFaults_35 : decode cX0_countFaults 35 = .ok (.iload_n 2, 1) := by decide +kernel
theorem dX0_countFaults_36 : decode cX0_countFaults 36 = .ok (.iaload, 1) := by decide +kernel
theorem dX0_countFaults_37 : decode cX0_countFaults 37 = .ok (.iconst (-1), 1) := by decide +kernel
theorem dX0_countFaults_38 : decode cX0_countFaults 38 = .ok (.if_icmp .ne 6, 3) := by decide +kernel
theorem dX0_countFaults_41 : decode cX0_countFaults 41 = .ok (.iinc 1 1, 3) := by decide +kernel
theorem dX0_countFaults_44 : decode cX0_countFaults 44 = .ok (.iinc 2 1, 3) := by decide +kernel
theorem dX0_countFaults_47 : decode cX0_countFaults 47 = .ok (.goto (-43), 3) := by decide +kernel
theorem dX0_countFaults_50 : decode cX0_countFaults 50 = .ok (.iload_n 1, 1) := by decide +kernel
theorem dX0_countFaults_51 : decode cX0_countFaults 51 = .ok (.ireturn, 1) := by decide +kernel
set_option maxRecDepth 20000 in
theorem ggX0_differsFrom_X0_isAllMissing : GoodIn wsX0_differsFrom wsX0_isAllMissing := goodIn_r _ [7, 1, 24, 25, 26, 27, 28, 29, 30] (by decide +kernel) (by decide +kernel)
set_option maxRecDepth 20000 in
theorem gX0_differsFrom_X0_isAllMissing : GoodIn wsX0_differsFrom (wsV RX0 58 RX0 yX0_isAllMissing wsX0_isAllMissing) := goodIn_app (goodIn_of _ (by decide +kernel)) ggX0_differsFrom_X0_isAllMissing
set_option maxRecDepth 20000 in
theorem ggX0_differsFrom_X3_size : GoodIn wsX0_differsFrom wsX3_size := goodIn_r _ [12, 13, 31, 32, 33, 34] (by decide +kernel) (by decide +kernel)
set_option maxRecDepth 20000 in
theorem gX0_differsFrom_X3_size : GoodIn wsX0_differsFrom (wsV RX0 54 RX3 yX3_size wsX3_size) := goodIn_app (goodIn_of _ (by decide +kernel)) ggX0_differsFrom_X3_size
set_option maxRecDepth 20000 in
theorem ggX0_differsFrom_X0_told : GoodIn wsX0_differsFrom wsX0_told := goodIn_r _ [17, 2, 18, 19, 20, 21, 22, 11, 23, 13, 24, 25, 26, 27, 28, 29, 30, 31, 32, 33, 34] (by decide +kernel) (by decide +kernel)
set_option maxRecDepth 20000 in
theorem gX0_differsFrom_X0_told : GoodIn wsX0_differsFrom (wsV RX0 62 RX0 yX0_told wsX0_told) := goodIn_app (goodIn_of _ (by decide +kernel)) ggX0_differsFrom_X0_told
theorem dX0_differsFrom_0 : decode cX0_differsFrom 0 = .ok (.aload_n 0, 1) := by decide +kernel
theorem dX0_differsFrom_1 : decode cX0_differsFrom 1 = .ok (.getfield 44, 3) := by decide +kernel
theorem dX0_differsFrom_4 : decode cX0_differsFrom 4 = .ok (.aload_n 1, 1) := by decide +kernel
theorem dX0_differsFrom_5 : decode cX0_differsFrom 5 = .ok (.invokevirtual 58, 3) := by decide +kernel
theorem dX0_differsFrom_8 : decode cX0_differsFrom 8 = .ok (.if_icmp .eq 7, 3) := by decide +kernel
theorem dX0_differsFrom_11 : decode cX0_differsFrom 11 = .ok (.iconst 1, 1) := by decide +kernel
theorem dX0_differsFrom_12 : decode cX0_differsFrom 12 = .ok (.goto 4, 3) := by decide +kernel
theorem dX0_differsFrom_15 : decode cX0_differsFrom 15 = .ok (.iconst 0, 1) := by decide +kernel
theorem dX0_differsFrom_16 : decode cX0_differsFrom 16 = .ok (.istore_n 2, 1) := by decide +kernel
theorem dX0_differsFrom_17 : decode cX0_differsFrom 17 = .ok (.iconst 0, 1) := by decide +kernel
theorem dX0_differsFrom_18 : decode cX0_differsFrom 18 = .ok (.istore_n 3, 1) := by decide +kernel
theorem dX0_differsFrom_19 : decode cX0_differsFrom 19 = .ok (.iload_n 3, 1) := by decide +kernel
theorem dX0_differsFrom_20 : decode cX0_differsFrom 20 = .ok (.aload_n 0, 1) := by decide +kernel
theorem dX0_differsFrom_21 : decode cX0_differsFrom 21 = .ok (.getfield 15, 3) := by decide +kernel
theorem dX0_differsFrom_24 : decode cX0_differsFrom 24 = .ok (.invokevirtual 54, 3) := by decide +kernel
theorem dX0_differsFrom_27 : decode cX0_differsFrom 27 = .ok (.if_icmp .ge 32, 3) := by decide +kernel
theorem dX0_differsFrom_30 : decode cX0_differsFrom 30 = .ok (.iload_n 2, 1) := by decide +kernel
theorem dX0_differsFrom_31 : decode cX0_differsFrom 31 = .ok (.ifCond .ne 16, 3) := by decide +kernel
theorem dX0_differsFrom_34 : decode cX0_differsFrom 34 = .ok (.aload_n 0, 1) := by decide +kernel
theorem dX0_differsFrom_35 : decode cX0_differsFrom 35 = .ok (.iload_n 3, 1) := by decide +kernel
theorem dX0_differsFrom_36 : decode cX0_differsFrom 36 = .ok (.invokevirtual 62, 3) := by decide +kernel
theorem dX0_differsFrom_39 : decode cX0_differsFrom 39 = .ok (.aload_n 1, 1) := by decide +kernel
theorem dX0_differsFrom_40 : decode cX0_differsFrom 40 = .ok (.iload_n 3, 1) := by decide +kernel
theorem dX0_differsFrom_41 : decode cX0_differsFrom 41 = .ok (.invokevirtual 62, 3) := by decide +kernel
theorem dX0_differsFrom_44 : decode cX0_differsFrom 44 = .ok (.if_icmp .eq 7, 3) := by decide +kernel
theorem dX0_differsFrom_47 : decode cX0_differsFrom 47 = .ok (.iconst 1, 1) := by decide +kernel
theorem dX0_differsFrom_48 : decode cX0_differsFrom 48 = .ok (.goto 4, 3) := by decide +kernel
theorem dX0_differsFrom_51 : decode cX0_differsFrom 51 = .ok (.iconst 0, 1) := by decide +kernel
theorem dX0_differsFrom_52 : decode cX0_differsFrom 52 = .ok (.istore_n 2, 1) := by decide +kernel
theorem dX0_differsFrom_53 : decode cX0_differsFrom 53 = .ok (.iinc 3 1, 3) := by decide +kernel
theorem dX0_differsFrom_56 : decode cX0_differsFrom 56 = .ok (.goto (-37), 3) := by decide +kernel
theorem dX0_differsFrom_59 : decode cX0_differsFrom 59 = .ok (.iload_n 2, 1) := by decide +kernel
theorem dX0_differsFrom_60 : decode cX0_differsFrom 60 = .ok (.ireturn, 1) := by decide +kernel
set_option maxRecDepth 20000 in
theorem ggX0_readValues_X3_size : GoodIn wsX0_readValues wsX3_size := goodIn_r _ [11, 12, 56, 57, 58, 59] (by decide +kernel) (by decide +kernel)
set_option maxRecDepth 20000 in
theorem gX0_readValues_X3_size : GoodIn wsX0_readValues (wsV RX0 54 RX3 yX3_size wsX3_size) := goodIn_app (goodIn_of _ (by decide +kernel)) ggX0_readValues_X3_size
set_option maxRecDepth 20000 in
theorem ggX0_readValues_X3_aboveOf : GoodIn wsX0_readValues wsX3_aboveOf := goodIn_r _ [16, 17, 18, 19, 20, 10, 21, 12, 56, 57, 58, 59] (by decide +kernel) (by decide +kernel)
set_option maxRecDepth 20000 in
theorem gX0_readValues_X3_aboveOf : GoodIn wsX0_readValues (wsV RX0 66 RX3 yX3_aboveOf wsX3_aboveOf) := goodIn_app (goodIn_of _ (by decide +kernel)) ggX0_readValues_X3_aboveOf
set_option maxRecDepth 20000 in
theorem ggX0_readValues_X3_has : GoodIn wsX0_readValues wsX3_has := goodIn_r _ [21, 12, 56, 57, 58, 59] (by decide +kernel) (by decide +kernel)
set_option maxRecDepth 20000 in
theorem gX0_readValues_X3_has : GoodIn wsX0_readValues (wsV RX0 48 RX3 yX3_has wsX3_has) := goodIn_app (goodIn_of _ (by decide +kernel)) ggX0_readValues_X3_has
set_option maxRecDepth 20000 in
theorem ggX0_readValues_X2_serviceOf : GoodIn wsX0_readValues wsX2_serviceOf := goodIn_r _ [27, 28, 29, 30, 19, 20, 10, 21, 12, 60, 61, 62, 63, 64, 65, 66, 67, 68, 69, 56, 57, 58, 59] (by decide +kernel) (by decide +kernel)
set_option maxRecDepth 20000 in
theorem gX0_readValues_X2_serviceOf : GoodIn wsX0_readValues (wsV RX0 69 RX2 yX2_serviceOf wsX2_serviceOf) := goodIn_app (goodIn_of _ (by decide +kernel)) ggX0_readValues_X2_serviceOf
set_option maxRecDepth 20000 in
theorem ggX0_readValues_X4_bit : GoodIn wsX0_readValues wsX4_bit := goodIn_r _ [33] (by decide +kernel) (by decide +kernel)
set_option maxRecDepth 20000 in
theorem gX0_readValues_X4_bit_n74 : GoodIn wsX0_readValues (wsX4_bit) := ggX0_readValues_X4_bit
set_option maxRecDepth 20000 in
theorem ggX0_readValues_X3_slotAt : GoodIn wsX0_readValues wsX3_slotAt := goodIn_r _ [37, 38, 18, 19, 20, 10, 21, 12, 56, 57, 58, 59] (by decide +kernel) (by decide +kernel)
set_option maxRecDepth 20000 in
theorem gX0_readValues_X3_slotAt : GoodIn wsX0_readValues (wsV RX0 77 RX3 yX3_slotAt wsX3_slotAt) := goodIn_app (goodIn_of _ (by decide +kernel)) ggX0_readValues_X3_slotAt
set_option maxRecDepth 20000 in
theorem ggX0_readValues_X1_valueOf : GoodIn wsX0_readValues wsX1_valueOf := goodIn_r _ [43, 44, 45, 32, 46, 47, 48, 70, 71, 72, 73, 74, 75] (by decide +kernel) (by decide +kernel)
set_option maxRecDepth 20000 in
theorem gX0_readValues_X1_valueOf : GoodIn wsX0_readValues (wsV RX0 80 RX1 yX1_valueOf wsX1_valueOf) := goodIn_app (goodIn_of _ (by decide +kernel)) ggX0_readValues_X1_valueOf
theorem dX0_readValues_0 : decode cX0_readValues 0 = .ok (.iconst 0, 1) := by decide +kernel
theorem dX0_readValues_1 : decode cX0_readValues 1 = .ok (.istore_n 3, 1) := by decide +kernel
theorem dX0_readValues_2 : decode cX0_readValues 2 = .ok (.iload_n 3, 1) := by decide +kernel
theorem dX0_readValues_3 : decode cX0_readValues 3 = .ok (.aload_n 0, 1) := by decide +kernel
theorem dX0_readValues_4 : decode cX0_readValues 4 = .ok (.getfield 15, 3) := by decide +kernel
theorem dX0_readValues_7 : decode cX0_readValues 7 = .ok (.invokevirtual 54, 3) := by decide +kernel
theorem dX0_readValues_10 : decode cX0_readValues 10 = .ok (.if_icmp .ge 134, 3) := by decide +kernel
theorem dX0_readValues_13 : decode cX0_readValues 13 = .ok (.iload_n 3, 1) := by decide +kernel
theorem dX0_readValues_14 : decode cX0_readValues 14 = .ok (.bipush 12, 2) := by decide +kernel
theorem dX0_readValues_16 : decode cX0_readValues 16 = .ok (.if_icmp .ge 128, 3) := by decide +kernel
theorem dX0_readValues_19 : decode cX0_readValues 19 = .ok (.aload_n 0, 1) := by decide +kernel
theorem dX0_readValues_20 : decode cX0_readValues 20 = .ok (.getfield 15, 3) := by decide +kernel
theorem dX0_readValues_23 : decode cX0_readValues 23 = .ok (.iload_n 3, 1) := by decide +kernel
theorem dX0_readValues_24 : decode cX0_readValues 24 = .ok (.invokevirtual 66, 3) := by decide +kernel
theorem dX0_readValues_27 : decode cX0_readValues 27 = .ok (.istore 4, 2) := by decide +kernel
theorem dX0_readValues_29 : decode cX0_readValues 29 = .ok (.aload_n 0, 1) := by decide +kernel
theorem dX0_readValues_30 : decode cX0_readValues 30 = .ok (.getfield 15, 3) := by decide +kernel
theorem dX0_readValues_33 : decode cX0_readValues 33 = .ok (.iload 4, 2) := by decide +kernel
theorem dX0_readValues_35 : decode cX0_readValues 35 = .ok (.invokevirtual 48, 3) := by decide +kernel
theorem dX0_readValues_38 : decode cX0_readValues 38 = .ok (.ifCond .eq 13, 3) := by decide +kernel
theorem dX0_readValues_41 : decode cX0_readValues 41 = .ok (.aload_n 0, 1) := by decide +kernel
theorem dX0_readValues_42 : decode cX0_readValues 42 = .ok (.getfield 27, 3) := by decide +kernel
theorem dX0_readValues_45 : decode cX0_readValues 45 = .ok (.iload 4, 2) := by decide +kernel
theorem dX0_readValues_47 : decode cX0_readValues 47 = .ok (.iaload, 1) := by decide +kernel
theorem dX0_readValues_48 : decode cX0_readValues 48 = .ok (.goto 4, 3) := by decide +kernel
theorem dX0_readValues_51 : decode cX0_readValues 51 = .ok (.iload_n 1, 1) := by decide +kernel
theorem dX0_readValues_52 : decode cX0_readValues 52 = .ok (.istore 5, 2) := by decide +kernel
theorem dX0_readValues_54 : decode cX0_readValues 54 = .ok (.iload_n 2, 1) := by decide +kernel
theorem dX0_readValues_55 : decode cX0_readValues 55 = .ok (.aload_n 0, 1) := by decide +kernel
theorem dX0_readValues_56 : decode cX0_readValues 56 = .ok (.getfield 19, 3) := by decide +kernel
theorem dX0_readValues_59 : decode cX0_readValues 59 = .ok (.iload_n 3, 1) := by decide +kernel
theorem dX0_readValues_60 : decode cX0_readValues 60 = .ok (.invokevirtual 69, 3) := by decide +kernel
theorem dX0_readValues_63 : decode cX0_readValues 63 = .ok (.invokestatic 74, 3) := by decide +kernel
theorem dX0_readValues_66 : decode cX0_readValues 66 = .ok (.iand, 1) := by decide +kernel
theorem dX0_readValues_67 : decode cX0_readValues 67 = .ok (.ifCond .eq 7, 3) := by decide +kernel
theorem dX0_readValues_70 : decode cX0_readValues 70 = .ok (.iconst 1, 1) := by decide +kernel
theorem dX0_readValues_71 : decode cX0_readValues 71 = .ok (.goto 4, 3) := by decide +kernel
theorem dX0_readValues_74 : decode cX0_readValues 74 = .ok (.iconst 0, 1) := by decide +kernel
theorem dX0_readValues_75 : decode cX0_readValues 75 = .ok (.istore 6, 2) := by decide +kernel
theorem dX0_readValues_77 : decode cX0_readValues 77 = .ok (.aload_n 0, 1) := by decide +kernel
theorem dX0_readValues_78 : decode cX0_readValues 78 = .ok (.getfield 23, 3) := by decide +kernel
theorem dX0_readValues_81 : decode cX0_readValues 81 = .ok (.iload_n 3, 1) := by decide +kernel
theorem dX0_readValues_82 : decode cX0_readValues 82 = .ok (.iload 5, 2) := by decide +kernel
theorem dX0_readValues_84 : decode cX0_readValues 84 = .ok (.iastore, 1) := by decide +kernel
theorem dX0_readValues_85 : decode cX0_readValues 85 = .ok (.aload_n 0, 1) := by decide +kernel
theorem dX0_readValues_86 : decode cX0_readValues 86 = .ok (.getfield 27, 3) := by decide +kernel
theorem dX0_readValues_89 : decode cX0_readValues 89 = .ok (.iload_n 3, 1) := by decide +kernel
theorem dX0_readValues_90 : decode cX0_readValues 90 = .ok (.iload 6, 2) := by decide +kernel
theorem dX0_readValues_92 : decode cX0_readValues 92 = .ok (.ifCond .eq 7, 3) := by decide +kernel
theorem dX0_readValues_95 : decode cX0_readValues 95 = .ok (.iconst (-1), 1) := by decide +kernel
theorem dX0_readValues_96 : decode cX0_readValues 96 = .ok (.goto 20, 3) := by decide +kernel
theorem dX0_readValues_99 : decode cX0_readValues 99 = .ok (.aload_n 0, 1) := by decide +kernel
theorem dX0_readValues_100 : decode cX0_readValues 100 = .ok (.getfield 9, 3) := by decide +kernel
theorem dX0_readValues_103 : decode cX0_readValues 103 = .ok (.aload_n 0, 1) := by decide +kernel
theorem dX0_readValues_104 : decode cX0_readValues 104 = .ok (.getfield 15, 3) := by decide +kernel
theorem dX0_readValues_107 : decode cX0_readValues 107 = .ok (.iload_n 3, 1) := by decide +kernel
theorem dX0_readValues_108 : decode cX0_readValues 108 = .ok (.invokevirtual 77, 3) := by decide +kernel
theorem dX0_readValues_111 : decode cX0_readValues 111 = .ok (.iload 5, 2) := by decide +kernel
theorem dX0_readValues_113 : decode cX0_readValues 113 = .ok (.invokevirtual 80, 3) := by decide +kernel
theorem dX0_readValues_116 : decode cX0_readValues 116 = .ok (.iastore, 1) := by decide +kernel
theorem dX0_readValues_117 : decode cX0_readValues 117 = .ok (.aload_n 0, 1) := by decide +kernel
theorem dX0_readValues_118 : decode cX0_readValues 118 = .ok (.getfield 30, 3) := by decide +kernel
theorem dX0_readValues_121 : decode cX0_readValues 121 = .ok (.iload_n 3, 1) := by decide +kernel
theorem dX0_readValues_122 : decode cX0_readValues 122 = .ok (.aload_n 0, 1) := by decide +kernel
theorem dX0_readValues_123 : decode cX0_readValues 123 = .ok (.getfield 27, 3) := by decide +kernel
theorem dX0_readValues_126 : decode cX0_readValues 126 = .ok (.iload_n 3, 1) := by decide +kernel
theorem dX0_readValues_127 : decode cX0_readValues 127 = .ok (.iaload, 1) := by decide +kernel
theorem dX0_readValues_128 : decode cX0_readValues 128 = .ok (.iconst (-1), 1) := by decide +kernel
theorem dX0_readValues_129 : decode cX0_readValues 129 = .ok (.if_icmp .ne 7, 3) := by decide +kernel
theorem dX0_readValues_132 : decode cX0_readValues 132 = .ok (.iconst 1, 1) := by decide +kernel
theorem dX0_readValues_133 : decode cX0_readValues 133 = .ok (.goto 4, 3) := by decide +kernel
theorem dX0_readValues_136 : decode cX0_readValues 136 = .ok (.iconst 0, 1) := by decide +kernel
theorem dX0_readValues_137 : decode cX0_readValues 137 = .ok (.bastore, 1) := by decide +kernel
theorem dX0_readValues_138 : decode cX0_readValues 138 = .ok (.iinc 3 1, 3) := by decide +kernel
theorem dX0_readValues_141 : decode cX0_readValues 141 = .ok (.goto (-139), 3) := by decide +kernel
theorem dX0_readValues_144 : decode cX0_readValues 144 = .ok (.return_, 1) := by decide +kernel
set_option maxRecDepth 20000 in
theorem ggX0_letMissingClimb_X3_size : GoodIn wsX0_letMissingClimb wsX3_size := goodIn_r _ [13, 14, 46, 47, 48, 49] (by decide +kernel) (by decide +kernel)
set_option maxRecDepth 20000 in
theorem gX0_letMissingClimb_X3_size : GoodIn wsX0_letMissingClimb (wsV RX0 54 RX3 yX3_size wsX3_size) := goodIn_app (goodIn_of _ (by decide +kernel)) ggX0_letMissingClimb_X3_size
set_option maxRecDepth 20000 in
theorem ggX0_letMissingClimb_X3_slotAt : GoodIn wsX0_letMissingClimb wsX3_slotAt := goodIn_r _ [18, 19, 20, 21, 22, 12, 23, 14, 46, 47, 48, 49] (by decide +kernel) (by decide +kernel)
set_option maxRecDepth 20000 in
theorem gX0_letMissingClimb_X3_slotAt : GoodIn wsX0_letMissingClimb (wsV RX0 77 RX3 yX3_slotAt wsX3_slotAt) := goodIn_app (goodIn_of _ (by decide +kernel)) ggX0_letMissingClimb_X3_slotAt
set_option maxRecDepth 20000 in
theorem ggX0_letMissingClimb_X1_isRequired : GoodIn wsX0_letMissingClimb wsX1_isRequired := goodIn_r _ [28, 29, 30, 31, 32, 50, 51, 52, 53, 54, 55] (by decide +kernel) (by decide +kernel)
set_option maxRecDepth 20000 in
theorem gX0_letMissingClimb_X1_isRequired : GoodIn wsX0_letMissingClimb (wsV RX0 91 RX1 yX1_isRequired wsX1_isRequired) := goodIn_app (goodIn_of _ (by decide +kernel)) ggX0_letMissingClimb_X1_isRequired
set_option maxRecDepth 20000 in
theorem ggX0_letMissingClimb_X3_aboveOf : GoodIn wsX0_letMissingClimb wsX3_aboveOf := goodIn_r _ [36, 37, 20, 21, 22, 12, 23, 14, 46, 47, 48, 49] (by decide +kernel) (by decide +kernel)
set_option maxRecDepth 20000 in
theorem gX0_letMissingClimb_X3_aboveOf : GoodIn wsX0_letMissingClimb (wsV RX0 66 RX3 yX3_aboveOf wsX3_aboveOf) := goodIn_app (goodIn_of _ (by decide +kernel)) ggX0_letMissingClimb_X3_aboveOf
set_option maxRecDepth 20000 in
theorem ggX0_letMissingClimb_X3_has : GoodIn wsX0_letMissingClimb wsX3_has := goodIn_r _ [23, 14, 46, 47, 48, 49] (by decide +kernel) (by decide +kernel)
set_option maxRecDepth 20000 in
theorem gX0_letMissingClimb_X3_has : GoodIn wsX0_letMissingClimb (wsV RX0 48 RX3 yX3_has wsX3_has) := goodIn_app (goodIn_of _ (by decide +kernel)) ggX0_letMissingClimb_X3_has
theorem dX0_letMissingClimb_0 : decode cX0_letMissingClimb 0 = .ok (.aload_n 0, 1) := by decide +kernel
theorem dX0_letMissingClimb_1 : decode cX0_letMissingClimb 1 = .ok (.iconst 0, 1) := by decide +kernel
theorem dX0_letMissingClimb_2 : decode cX0_letMissingClimb 2 = .ok (.putfield 44, 3) := by decide +kernel
theorem dX0_letMissingClimb_5 : decode cX0_letMissingClimb 5 = .ok (.aload_n 0, 1) := by decide +kernel
theorem dX0_letMissingClimb_6 : decode cX0_letMissingClimb 6 = .ok (.getfield 15, 3) := by decide +kernel
theorem dX0_letMissingClimb_9 : decode cX0_letMissingClimb 9 = .ok (.invokevirtual 54, 3) := by decide +kernel
theorem dX0_letMissingClimb_12 : decode cX0_letMissingClimb 12 = .ok (.bipush 12, 2) := by decide +kernel
theorem dX0_letMissingClimb_14 : decode cX0_letMissingClimb 14 = .ok (.invokestatic 86, 3) := by decide +kernel
theorem dX0_letMissingClimb_17 : decode cX0_letMissingClimb 17 = .ok (.iconst 1, 1) := by decide +kernel
theorem dX0_letMissingClimb_18 : decode cX0_letMissingClimb 18 = .ok (.isub, 1) := by decide +kernel
theorem dX0_letMissingClimb_19 : decode cX0_letMissingClimb 19 = .ok (.istore_n 1, 1) := by decide +kernel
theorem dX0_letMissingClimb_20 : decode cX0_letMissingClimb 20 = .ok (.iload_n 1, 1) := by decide +kernel
theorem dX0_letMissingClimb_21 : decode cX0_letMissingClimb 21 = .ok (.ifCond .lt 71, 3) := by decide +kernel
theorem dX0_letMissingClimb_24 : decode cX0_letMissingClimb 24 = .ok (.aload_n 0, 1) := by decide +kernel
theorem dX0_letMissingClimb_25 : decode cX0_letMissingClimb 25 = .ok (.getfield 30, 3) := by decide +kernel
theorem dX0_letMissingClimb_28 : decode cX0_letMissingClimb 28 = .ok (.iload_n 1, 1) := by decide +kernel
theorem dX0_letMissingClimb_29 : decode cX0_letMissingClimb 29 = .ok (.baload, 1) := by decide +kernel
theorem dX0_letMissingClimb_30 : decode cX0_letMissingClimb 30 = .ok (.ifCond .eq 56, 3) := by decide +kernel
theorem dX0_letMissingClimb_33 : decode cX0_letMissingClimb 33 = .ok (.aload_n 0, 1) := by decide +kernel
theorem dX0_letMissingClimb_34 : decode cX0_letMissingClimb 34 = .ok (.getfield 9, 3) := by decide +kernel
theorem dX0_letMissingClimb_37 : decode cX0_letMissingClimb 37 = .ok (.aload_n 0, 1) := by decide +kernel
theorem dX0_letMissingClimb_38 : decode cX0_letMissingClimb 38 = .ok (.getfield 15, 3) := by decide +kernel
theorem dX0_letMissingClimb_41 : decode cX0_letMissingClimb 41 = .ok (.iload_n 1, 1) := by decide +kernel
theorem dX0_letMissingClimb_42 : decode cX0_letMissingClimb 42 = .ok (.invokevirtual 77, 3) := by decide +kernel
theorem dX0_letMissingClimb_45 : decode cX0_letMissingClimb 45 = .ok (.invokevirtual 91, 3) := by decide +kernel
theorem dX0_letMissingClimb_48 : decode cX0_letMissingClimb 48 = .ok (.ifCond .eq 38, 3) := by decide +kernel
theorem dX0_letMissingClimb_51 : decode cX0_letMissingClimb 51 = .ok (.aload_n 0, 1) := by decide +kernel
theorem dX0_letMissingClimb_52 : decode cX0_letMissingClimb 52 = .ok (.getfield 15, 3) := by decide +kernel
theorem dX0_letMissingClimb_55 : decode cX0_letMissingClimb 55 = .ok (.iload_n 1, 1) := by decide +kernel
theorem dX0_letMissingClimb_56 : decode cX0_letMissingClimb 56 = .ok (.invokevirtual 66, 3) := by decide +kernel
theorem dX0_letMissingClimb_59 : decode cX0_letMissingClimb 59 = .ok (.istore_n 2, 1) := by decide +kernel
theorem dX0_letMissingClimb_60 : decode cX0_letMissingClimb 60 = .ok (.aload_n 0, 1) := by decide +kernel
theorem dX0_letMissingClimb_61 : decode cX0_letMissingClimb 61 = .ok (.getfield 15, 3) := by decide +kernel
theorem dX0_letMissingClimb_64 : decode cX0_letMissingClimb 64 = .ok (.iload_n 2, 1) := by decide +kernel
theorem dX0_letMissingClimb_65 : decode cX0_letMissingClimb 65 = .ok (.invokevirtual 48, 3) := by decide +kernel
theorem dX0_letMissingClimb_68 : decode cX0_letMissingClimb 68 = .ok (.ifCond .eq 13, 3) := by decide +kernel
theorem dX0_letMissingClimb_71 : decode cX0_letMissingClimb 71 = .ok (.aload_n 0, 1) := by decide +kernel
theorem dX0_letMissingClimb_72 : decode cX0_letMissingClimb 72 = .ok (.getfield 30, 3) := by decide +kernel
theorem dX0_letMissingClimb_75 : decode cX0_letMissingClimb 75 = .ok (.iload_n 2, 1) := by decide +kernel
theorem dX0_letMissingClimb_76 : decode cX0_letMissingClimb 76 = .ok (.iconst 1, 1) := by decide +kernel
theorem dX0_letMissingClimb_77 : decode cX0_letMissingClimb 77 = .ok (.bastore, 1) := by decide +kernel
theorem dX0_letMissingClimb_78 : decode cX0_letMissingClimb 78 = .ok (.goto 8, 3) := by decide +kernel
theorem dX0_letMissingClimb_81 : decode cX0_letMissingClimb 81 = .ok (.aload_n 0, 1) := by decide +kernel
theorem dX0_letMissingClimb_82 : decode cX0_letMissingClimb 82 = .ok (.iconst 1, 1) := by decide +kernel
theorem dX0_letMissingClimb_83 : decode cX0_letMissingClimb 83 = .ok (.putfield 44, 3) := by decide +kernel
theorem dX0_letMissingClimb_86 : decode cX0_letMissingClimb 86 = .ok (.iinc 1 (-1), 3) := by decide +kernel
theorem dX0_letMissingClimb_89 : decode cX0_letMissingClimb 89 = .ok (.goto (-69), 3) := by decide +kernel
theorem dX0_letMissingClimb_92 : decode cX0_letMissingClimb 92 = .ok (.return_, 1) := by decide +kernel
set_option maxRecDepth 20000 in
theorem ggX0_letMissingFall_X3_size : GoodIn wsX0_letMissingFall wsX3_size := goodIn_r _ [8, 9, 27, 28, 29, 30] (by decide +kernel) (by decide +kernel)
set_option maxRecDepth 20000 in
theorem gX0_letMissingFall_X3_size : GoodIn wsX0_letMissingFall (wsV RX0 54 RX3 yX3_size wsX3_size) := goodIn_app (goodIn_of _ (by decide +kernel)) ggX0_letMissingFall_X3_size
set_option maxRecDepth 20000 in
theorem ggX0_letMissingFall_X3_aboveOf : GoodIn wsX0_letMissingFall wsX3_aboveOf := goodIn_r _ [13, 14, 15, 16, 17, 7, 18, 9, 27, 28, 29, 30] (by decide +kernel) (by decide +kernel)
set_option maxRecDepth 20000 in
theorem gX0_letMissingFall_X3_aboveOf : GoodIn wsX0_letMissingFall (wsV RX0 66 RX3 yX3_aboveOf wsX3_aboveOf) := goodIn_app (goodIn_of _ (by decide +kernel)) ggX0_letMissingFall_X3_aboveOf
set_option maxRecDepth 20000 in
theorem ggX0_letMissingFall_X3_has : GoodIn wsX0_letMissingFall wsX3_has := goodIn_r _ [18, 9, 27, 28, 29, 30] (by decide +kernel) (by decide +kernel)
set_option maxRecDepth 20000 in
theorem gX0_letMissingFall_X3_has : GoodIn wsX0_letMissingFall (wsV RX0 48 RX3 yX3_has wsX3_has) := goodIn_app (goodIn_of _ (by decide +kernel)) ggX0_letMissingFall_X3_has
theorem dX0_letMissingFall_0 : decode cX0_letMissingFall 0 = .ok (.iconst 0, 1) := by decide +kernel
theorem dX0_letMissingFall_1 : decode cX0_letMissingFall 1 = .ok (.istore_n 1, 1) := by decide +kernel
theorem dX0_letMissingFall_2 : decode cX0_letMissingFall 2 = .ok (.iload_n 1, 1) := by decide +kernel
theorem dX0_letMissingFall_3 : decode cX0_letMissingFall 3 = .ok (.aload_n 0, 1) := by decide +kernel
theorem dX0_letMissingFall_4 : decode cX0_letMissingFall 4 = .ok (.getfield 15, 3) := by decide +kernel
theorem dX0_letMissingFall_7 : decode cX0_letMissingFall 7 = .ok (.invokevirtual 54, 3) := by decide +kernel
theorem dX0_letMissingFall_10 : decode cX0_letMissingFall 10 = .ok (.if_icmp .ge 71, 3) := by decide +kernel
theorem dX0_letMissingFall_13 : decode cX0_letMissingFall 13 = .ok (.iload_n 1, 1) := by decide +kernel
theorem dX0_letMissingFall_14 : decode cX0_letMissingFall 14 = .ok (.bipush 12, 2) := by decide +kernel
theorem dX0_letMissingFall_16 : decode cX0_letMissingFall 16 = .ok (.if_icmp .ge 65, 3) := by decide +kernel
theorem dX0_letMissingFall_19 : decode cX0_letMissingFall 19 = .ok (.aload_n 0, 1) := by decide +kernel
theorem dX0_letMissingFall_20 : decode cX0_letMissingFall 20 = .ok (.getfield 15, 3) := by decide +kernel
theorem dX0_letMissingFall_23 : decode cX0_letMissingFall 23 = .ok (.iload_n 1, 1) := by decide +kernel
theorem dX0_letMissingFall_24 : decode cX0_letMissingFall 24 = .ok (.invokevirtual 66, 3) := by decide +kernel
theorem dX0_letMissingFall_27 : decode cX0_letMissingFall 27 = .ok (.istore_n 2, 1) := by decide +kernel
theorem dX0_letMissingFall_28 : decode cX0_letMissingFall 28 = .ok (.aload_n 0, 1) := by decide +kernel
theorem dX0_letMissingFall_29 : decode cX0_letMissingFall 29 = .ok (.getfield 30, 3) := by decide +kernel
theorem dX0_letMissingFall_32 : decode cX0_letMissingFall 32 = .ok (.iload_n 1, 1) := by decide +kernel
theorem dX0_letMissingFall_33 : decode cX0_letMissingFall 33 = .ok (.aload_n 0, 1) := by decide +kernel
theorem dX0_letMissingFall_34 : decode cX0_letMissingFall 34 = .ok (.getfield 30, 3) := by decide +kernel
theorem dX0_letMissingFall_37 : decode cX0_letMissingFall 37 = .ok (.iload_n 1, 1) := by decide +kernel
theorem dX0_letMissingFall_38 : decode cX0_letMissingFall 38 = .ok (.baload, 1) := by decide +kernel
theorem dX0_letMissingFall_39 : decode cX0_letMissingFall 39 = .ok (.ifCond .ne 30, 3) := by decide +kernel
theorem dX0_letMissingFall_42 : decode cX0_letMissingFall 42 = .ok (.aload_n 0, 1) := by decide +kernel
theorem dX0_letMissingFall_43 : decode cX0_letMissingFall 43 = .ok (.getfield 44, 3) := by decide +kernel
theorem dX0_letMissingFall_46 : decode cX0_letMissingFall 46 = .ok (.ifCond .ne 23, 3) := by decide +kernel
theorem dX0_letMissingFall_49 : decode cX0_letMissingFall 49 = .ok (.aload_n 0, 1) := by decide +kernel
theorem dX0_letMissingFall_50 : decode cX0_letMissingFall 50 = .ok (.getfield 15, 3) := by decide +kernel
theorem dX0_letMissingFall_53 : decode cX0_letMissingFall 53 = .ok (.iload_n 2, 1) := by decide +kernel
theorem dX0_letMissingFall_54 : decode cX0_letMissingFall 54 = .ok (.invokevirtual 48, 3) := by decide +kernel
theorem dX0_letMissingFall_57 : decode cX0_letMissingFall 57 = .ok (.ifCond .eq 16, 3) := by decide +kernel
theorem dX0_letMissingFall_60 : decode cX0_letMissingFall 60 = .ok (.aload_n 0, 1) := by decide +kernel
theorem dX0_letMissingFall_61 : decode cX0_letMissingFall 61 = .ok (.getfield 30, 3) := by decide +kernel
theorem dX0_letMissingFall_64 : decode cX0_letMissingFall 64 = .ok (.iload_n 2, 1) := by decide +kernel
theorem dX0_letMissingFall_65 : decode cX0_letMissingFall 65 = .ok (.baload, 1) := by decide +kernel
theorem dX0_letMissingFall_66 : decode cX0_letMissingFall 66 = .ok (.ifCond .eq 7, 3) := by decide +kernel
theorem dX0_letMissingFall_69 : decode cX0_letMissingFall 69 = .ok (.iconst 1, 1) := by decide +kernel
theorem dX0_letMissingFall_70 : decode cX0_letMissingFall 70 = .ok (.goto 4, 3) := by decide +kernel
theorem dX0_letMissingFall_73 : decode cX0_letMissingFall 73 = .ok (.iconst 0, 1) := by decide +kernel
theorem dX0_letMissingFall_74 : decode cX0_letMissingFall 74 = .ok (.bastore, 1) := by decide +kernel
theorem dX0_letMissingFall_75 : decode cX0_letMissingFall 75 = .ok (.iinc 1 1, 3) := by decide +kernel
theorem dX0_letMissingFall_78 : decode cX0_letMissingFall 78 = .ok (.goto (-76), 3) := by decide +kernel
theorem dX0_letMissingFall_81 : decode cX0_letMissingFall 81 = .ok (.return_, 1) := by decide +kernel
set_option maxRecDepth 20000 in
theorem ggX1_init_J7_fill_53178 : GoodIn wsX1_init wsJ7_fill_53178 := goodIn_r _ [14] (by decide +kernel) (by decide +kernel)
set_option maxRecDepth 20000 in
theorem gX1_init_J7_fill_53178 : GoodIn wsX1_init (va_wsS RX1 28 yJ7_fill_53178 wsJ7_fill_53178) := goodIn_app (goodIn_of _ (by decide +kernel)) ggX1_init_J7_fill_53178
theorem dX1_init_0 : decode cX1_init 0 = .ok (.aload_n 0, 1) := by decide +kernel
theorem dX1_init_1 : decode cX1_init 1 = .ok (.invokespecial 3, 3) := by decide +kernel
theorem dX1_init_4 : decode cX1_init 4 = .ok (.aload_n 0, 1) := by decide +kernel
theorem dX1_init_5 : decode cX1_init 5 = .ok (.iconst 4, 1) := by decide +kernel
theorem dX1_init_6 : decode cX1_init 6 = .ok (.newarray .int, 2) := by decide +kernel
theorem dX1_init_8 : decode cX1_init 8 = .ok (.putfield 9, 3) := by decide +kernel
theorem dX1_init_11 : decode cX1_init 11 = .ok (.aload_n 0, 1) := by decide +kernel
theorem dX1_init_12 : decode cX1_init 12 = .ok (.bipush 32, 2) := by decide +kernel
theorem dX1_init_14 : decode cX1_init 14 = .ok (.newarray .int, 2) := by decide +kernel
theorem dX1_init_16 : decode cX1_init 16 = .ok (.putfield 15, 3) := by decide +kernel
theorem dX1_init_19 : decode cX1_init 19 = .ok (.aload_n 0, 1) := by decide +kernel
theorem dX1_init_20 : decode cX1_init 20 = .ok (.bipush 32, 2) := by decide +kernel
theorem dX1_init_22 : decode cX1_init 22 = .ok (.newarray .boolean, 2) := by decide +kernel
theorem dX1_init_24 : decode cX1_init 24 = .ok (.putfield 18, 3) := by decide +kernel
theorem dX1_init_27 : decode cX1_init 27 = .ok (.aload_n 0, 1) := by decide +kernel
theorem dX1_init_28 : decode cX1_init 28 = .ok (.bipush 32, 2) := by decide +kernel
theorem dX1_init_30 : decode cX1_init 30 = .ok (.newarray .int, 2) := by decide +kernel
theorem dX1_init_32 : decode cX1_init 32 = .ok (.putfield 22, 3) := by decide +kernel
theorem dX1_init_35 : decode cX1_init 35 = .ok (.aload_n 0, 1) := by decide +kernel
theorem dX1_init_36 : decode cX1_init 36 = .ok (.sipush 640, 3) := by decide +kernel
theorem dX1_init_39 : decode cX1_init 39 = .ok (.newarray .int, 2) := by decide +kernel
theorem dX1_init_41 : decode cX1_init 41 = .ok (.putfield 25, 3) := by decide +kernel
theorem dX1_init_44 : decode cX1_init 44 = .ok (.aload_n 0, 1) := by decide +kernel
theorem dX1_init_45 : decode cX1_init 45 = .ok (.getfield 15, 3) := by decide +kernel
theorem dX1_init_48 : decode cX1_init 48 = .ok (.iconst (-1), 1) := by decide +kernel
theorem dX1_init_49 : decode cX1_init 49 = .ok (.invokestatic 28, 3) := by decide +kernel
theorem dX1_init_52 : decode cX1_init 52 = .ok (.aload_n 0, 1) := by decide +kernel
theorem dX1_init_53 : decode cX1_init 53 = .ok (.getfield 25, 3) := by decide +kernel
theorem dX1_init_56 : decode cX1_init 56 = .ok (.iconst (-1), 1) := by decide +kernel
theorem dX1_init_57 : decode cX1_init 57 = .ok (.invokestatic 28, 3) := by decide +kernel
theorem dX1_init_60 : decode cX1_init 60 = .ok (.return_, 1) := by decide +kernel
set_option maxRecDepth 20000 in
theorem ggX1_fieldsOf_X4_isType : GoodIn wsX1_fieldsOf wsX4_isType := goodIn_r _ [4] (by decide +kernel) (by decide +kernel)
set_option maxRecDepth 20000 in
theorem gX1_fieldsOf_X4_isType_n34 : GoodIn wsX1_fieldsOf (wsX4_isType) := ggX1_fieldsOf_X4_isType
theorem dX1_fieldsOf_0 : decode cX1_fieldsOf 0 = .ok (.iload_n 1, 1) := by decide +kernel
theorem dX1_fieldsOf_1 : decode cX1_fieldsOf 1 = .ok (.invokestatic 34, 3) := by decide +kernel
theorem dX1_fieldsOf_4 : decode cX1_fieldsOf 4 = .ok (.ifCond .eq 12, 3) := by decide +kernel
theorem dX1_fieldsOf_7 : decode cX1_fieldsOf 7 = .ok (.aload_n 0, 1) := by decide +kernel
theorem dX1_fieldsOf_8 : decode cX1_fieldsOf 8 = .ok (.getfield 9, 3) := by decide +kernel
theorem dX1_fieldsOf_11 : decode cX1_fieldsOf 11 = .ok (.iload_n 1, 1) := by decide +kernel
theorem dX1_fieldsOf_12 : decode cX1_fieldsOf 12 = .ok (.iaload, 1) := by decide +kernel
theorem dX1_fieldsOf_13 : decode cX1_fieldsOf 13 = .ok (.goto 4, 3) := by decide +kernel
theorem dX1_fieldsOf_16 : decode cX1_fieldsOf 16 = .ok (.iconst 0, 1) := by decide +kernel
theorem dX1_fieldsOf_17 : decode cX1_fieldsOf 17 = .ok (.ireturn, 1) := by decide +kernel
set_option maxRecDepth 20000 in
theorem ggX1_append_X1_fieldsOf : GoodIn wsX1_append wsX1_fieldsOf := goodIn_r _ [8, 3, 9, 10, 11, 16, 17, 18, 19, 20, 21] (by decide +kernel) (by decide +kernel)
set_option maxRecDepth 20000 in
theorem gX1_append_X1_fieldsOf : GoodIn wsX1_append (wsV RX1 38 RX1 yX1_fieldsOf wsX1_fieldsOf) := goodIn_app (goodIn_of _ (by decide +kernel)) ggX1_append_X1_fieldsOf
set_option maxRecDepth 20000 in
theorem ggX1_append_X4_slotOf : GoodIn wsX1_append wsX4_slotOf := goodIn_r _ [13] (by decide +kernel) (by decide +kernel)
set_option maxRecDepth 20000 in
theorem gX1_append_X4_slotOf_n42 : GoodIn wsX1_append (wsX4_slotOf) := ggX1_append_X4_slotOf
set_option maxRecDepth 20000 in
theorem ggX1_append_X4_isType : GoodIn wsX1_append wsX4_isType := goodIn_r _ [11] (by decide +kernel) (by decide +kernel)
set_option maxRecDepth 20000 in
theorem gX1_append_X4_isType_n34 : GoodIn wsX1_append (wsX4_isType) := ggX1_append_X4_isType
set_option maxRecDepth 20000 in
theorem ggX1_append_X4_isSlot : GoodIn wsX1_append wsX4_isSlot := goodIn_r _ [15] (by decide +kernel) (by decide +kernel)
set_option maxRecDepth 20000 in
theorem gX1_append_X4_isSlot_n46 : GoodIn wsX1_append (wsX4_isSlot) := ggX1_append_X4_isSlot
theorem dX1_append_0 : decode cX1_append 0 = .ok (.aload_n 0, 1) := by decide +kernel
theorem dX1_append_1 : decode cX1_append 1 = .ok (.iload_n 1, 1) := by decide +kernel
theorem dX1_append_2 : decode cX1_append 2 = .ok (.invokevirtual 38, 3) := by decide +kernel
theorem dX1_append_5 : decode cX1_append 5 = .ok (.istore 4, 2) := by decide +kernel
theorem dX1_append_7 : decode cX1_append 7 = .ok (.iload_n 1, 1) := by decide +kernel
theorem dX1_append_8 : decode cX1_append 8 = .ok (.iload 4, 2) := by decide +kernel
theorem dX1_append_10 : decode cX1_append 10 = .ok (.invokestatic 42, 3) := by decide +kernel
theorem dX1_append_13 : decode cX1_append 13 = .ok (.istore 5, 2) := by decide +kernel
theorem dX1_append_15 : decode cX1_append 15 = .ok (.iload_n 1, 1) := by decide +kernel
theorem dX1_append_16 : decode cX1_append 16 = .ok (.invokestatic 34, 3) := by decide +kernel
theorem dX1_append_19 : decode cX1_append 19 = .ok (.ifCond .eq 18, 3) := by decide +kernel
theorem dX1_append_22 : decode cX1_append 22 = .ok (.iload 4, 2) := by decide +kernel
theorem dX1_append_24 : decode cX1_append 24 = .ok (.bipush 8, 2) := by decide +kernel
theorem dX1_append_26 : decode cX1_append 26 = .ok (.if_icmp .ge 11, 3) := by decide +kernel
theorem dX1_append_29 : decode cX1_append 29 = .ok (.iload 5, 2) := by decide +kernel
theorem dX1_append_31 : decode cX1_append 31 = .ok (.invokestatic 46, 3) := by decide +kernel
theorem dX1_append_34 : decode cX1_append 34 = .ok (.ifCond .ne 5, 3) := by decide +kernel
theorem dX1_append_37 : decode cX1_append 37 = .ok (.iconst (-1), 1) := by decide +kernel
theorem dX1_append_38 : decode cX1_append 38 = .ok (.ireturn, 1) := by decide +kernel
theorem dX1_append_39 : decode cX1_append 39 = .ok (.aload_n 0, 1) := by decide +kernel
theorem dX1_append_40 : decode cX1_append 40 = .ok (.getfield 15, 3) := by decide +kernel
theorem dX1_append_43 : decode cX1_append 43 = .ok (.iload 5, 2) := by decide +kernel
theorem dX1_append_45 : decode cX1_append 45 = .ok (.iload_n 2, 1) := by decide +kernel
theorem dX1_append_46 : decode cX1_append 46 = .ok (.iastore, 1) := by decide +kernel
theorem dX1_append_47 : decode cX1_append 47 = .ok (.aload_n 0, 1) := by decide +kernel
theorem dX1_append_48 : decode cX1_append 48 = .ok (.getfield 18, 3) := by decide +kernel
theorem dX1_append_51 : decode cX1_append 51 = .ok (.iload 5, 2) := by decide +kernel
theorem dX1_append_53 : decode cX1_append 53 = .ok (.iload_n 3, 1) := by decide +kernel
theorem dX1_append_54 : decode cX1_append 54 = .ok (.bastore, 1) := by decide +kernel
theorem dX1_append_55 : decode cX1_append 55 = .ok (.aload_n 0, 1) := by decide +kernel
theorem dX1_append_56 : decode cX1_append 56 = .ok (.getfield 9, 3) := by decide +kernel
theorem dX1_append_59 : decode cX1_append 59 = .ok (.iload_n 1, 1) := by decide +kernel
theorem dX1_append_60 : decode cX1_append 60 = .ok (.iload 4, 2) := by decide +kernel
theorem dX1_append_62 : decode cX1_append 62 = .ok (.iconst 1, 1) := by decide +kernel
theorem dX1_append_63 : decode cX1_append 63 = .ok (.iadd, 1) := by decide +kernel
theorem dX1_append_64 : decode cX1_append 64 = .ok (.iastore, 1) := by decide +kernel
theorem dX1_append_65 : decode cX1_append 65 = .ok (.iload 4, 2) := by decide +kernel
theorem dX1_append_67 : decode cX1_append 67 = .ok (.ireturn, 1) := by decide +kernel
set_option maxRecDepth 20000 in
theorem ggX1_leadsOf_X4_isSlot : GoodIn wsX1_leadsOf wsX4_isSlot := goodIn_r _ [4] (by decide +kernel) (by decide +kernel)
set_option maxRecDepth 20000 in
theorem gX1_leadsOf_X4_isSlot_n46 : GoodIn wsX1_leadsOf (wsX4_isSlot) := ggX1_leadsOf_X4_isSlot
theorem dX1_leadsOf_0 : decode cX1_leadsOf 0 = .ok (.iload_n 1, 1) := by decide +kernel
theorem dX1_leadsOf_1 : decode cX1_leadsOf 1 = .ok (.invokestatic 46, 3) := by decide +kernel
theorem dX1_leadsOf_4 : decode cX1_leadsOf 4 = .ok (.ifCond .eq 12, 3) := by decide +kernel
theorem dX1_leadsOf_7 : decode cX1_leadsOf 7 = .ok (.aload_n 0, 1) := by decide +kernel
theorem dX1_leadsOf_8 : decode cX1_leadsOf 8 = .ok (.getfield 15, 3) := by decide +kernel
theorem dX1_leadsOf_11 : decode cX1_leadsOf 11 = .ok (.iload_n 1, 1) := by decide +kernel
theorem dX1_leadsOf_12 : decode cX1_leadsOf 12 = .ok (.iaload, 1) := by decide +kernel
theorem dX1_leadsOf_13 : decode cX1_leadsOf 13 = .ok (.goto 4, 3) := by decide +kernel
theorem dX1_leadsOf_16 : decode cX1_leadsOf 16 = .ok (.iconst (-1), 1) := by decide +kernel
theorem dX1_leadsOf_17 : decode cX1_leadsOf 17 = .ok (.ireturn, 1) := by decide +kernel
set_option maxRecDepth 20000 in
theorem ggX1_isRequired_X4_isSlot : GoodIn wsX1_isRequired wsX4_isSlot := goodIn_r _ [4] (by decide +kernel) (by decide +kernel)
set_option maxRecDepth 20000 in
theorem gX1_isRequired_X4_isSlot_n46 : GoodIn wsX1_isRequired (wsX4_isSlot) := ggX1_isRequired_X4_isSlot
theorem dX1_isRequired_0 : decode cX1_isRequired 0 = .ok (.iload_n 1, 1) := by decide +kernel
theorem dX1_isRequired_1 : decode cX1_isRequired 1 = .ok (.invokestatic 46, 3) := by decide +kernel
theorem dX1_isRequired_4 : decode cX1_isRequired 4 = .ok (.ifCond .eq 16, 3) := by decide +kernel
theorem dX1_isRequired_7 : decode cX1_isRequired 7 = .ok (.aload_n 0, 1) := by decide +kernel
theorem dX1_isRequired_8 : decode cX1_isRequired 8 = .ok (.getfield 18, 3) := by decide +kernel
theorem dX1_isRequired_11 : decode cX1_isRequired 11 = .ok (.iload_n 1, 1) := by decide +kernel
theorem dX1_isRequired_12 : decode cX1_isRequired 12 = .ok (.baload, 1) := by decide +kernel
theorem dX1_isRequired_13 : decode cX1_isRequired 13 = .ok (.ifCond .eq 7, 3) := by decide +kernel
theorem dX1_isRequired_16 : decode cX1_isRequired 16 = .ok (.iconst 1, 1) := by decide +kernel
theorem dX1_isRequired_17 : decode cX1_isRequired 17 = .ok (.goto 4, 3) := by decide +kernel
theorem dX1_isRequired_20 : decode cX1_isRequired 20 = .ok (.iconst 0, 1) := by decide +kernel
theorem dX1_isRequired_21 : decode cX1_isRequired 21 = .ok (.ireturn, 1) := by decide +kernel
set_option maxRecDepth 20000 in
theorem ggX1_ownersOf_X4_isSlot : GoodIn wsX1_ownersOf wsX4_isSlot := goodIn_r _ [4] (by decide +kernel) (by decide +kernel)
set_option maxRecDepth 20000 in
theorem gX1_ownersOf_X4_isSlot_n46 : GoodIn wsX1_ownersOf (wsX4_isSlot) := ggX1_ownersOf_X4_isSlot
theorem dX1_ownersOf_0 : decode cX1_ownersOf 0 = .ok (.iload_n 1, 1) := by decide +kernel
theorem dX1_ownersOf_1 : decode cX1_ownersOf 1 = .ok (.invokestatic 46, 3) := by decide +kernel
theorem dX1_ownersOf_4 : decode cX1_ownersOf 4 = .ok (.ifCond .eq 12, 3) := by decide +kernel
theorem dX1_ownersOf_7 : decode cX1_ownersOf 7 = .ok (.aload_n 0, 1) := by decide +kernel
theorem dX1_ownersOf_8 : decode cX1_ownersOf 8 = .ok (.getfield 22, 3) := by decide +kernel
theorem dX1_ownersOf_11 : decode cX1_ownersOf 11 = .ok (.iload_n 1, 1) := by decide +kernel
theorem dX1_ownersOf_12 : decode cX1_ownersOf 12 = .ok (.iaload, 1) := by decide +kernel
theorem dX1_ownersOf_13 : decode cX1_ownersOf 13 = .ok (.goto 4, 3) := by decide +kernel
theorem dX1_ownersOf_16 : decode cX1_ownersOf 16 = .ok (.iconst 0, 1) := by decide +kernel
theorem dX1_ownersOf_17 : decode cX1_ownersOf 17 = .ok (.ireturn, 1) := by decide +kernel
set_option maxRecDepth 20000 in
theorem ggX1_putOwner_X4_isSlot : GoodIn wsX1_putOwner wsX4_isSlot := goodIn_r _ [4] (by decide +kernel) (by decide +kernel)
set_option maxRecDepth 20000 in
theorem gX1_putOwner_X4_isSlot_n46 : GoodIn wsX1_putOwner (wsX4_isSlot) := ggX1_putOwner_X4_isSlot
set_option maxRecDepth 20000 in
theorem ggX1_putOwner_X4_bit : GoodIn wsX1_putOwner wsX4_bit := goodIn_r _ [6] (by decide +kernel) (by decide +kernel)
set_option maxRecDepth 20000 in
theorem gX1_putOwner_X4_bit_n49 : GoodIn wsX1_putOwner (wsX4_bit) := ggX1_putOwner_X4_bit
theorem dX1_putOwner_0 : decode cX1_putOwner 0 = .ok (.iload_n 1, 1) := by decide +kernel
theorem dX1_putOwner_1 : decode cX1_putOwner 1 = .ok (.invokestatic 46, 3) := by decide +kernel
theorem dX1_putOwner_4 : decode cX1_putOwner 4 = .ok (.ifCond .ne 5, 3) := by decide +kernel
theorem dX1_putOwner_7 : decode cX1_putOwner 7 = .ok (.iconst 0, 1) := by decide +kernel
theorem dX1_putOwner_8 : decode cX1_putOwner 8 = .ok (.ireturn, 1) := by decide +kernel
theorem dX1_putOwner_9 : decode cX1_putOwner 9 = .ok (.aload_n 0, 1) := by decide +kernel
theorem dX1_putOwner_10 : decode cX1_putOwner 10 = .ok (.getfield 22, 3) := by decide +kernel
theorem dX1_putOwner_13 : decode cX1_putOwner 13 = .ok (.iload_n 1, 1) := by decide +kernel
theorem dX1_putOwner_14 : decode cX1_putOwner 14 = .ok (.iaload, 1) := by decide +kernel
theorem dX1_putOwner_15 : decode cX1_putOwner 15 = .ok (.iload_n 2, 1) := by decide +kernel
theorem dX1_putOwner_16 : decode cX1_putOwner 16 = .ok (.invokestatic 49, 3) := by decide +kernel
theorem dX1_putOwner_19 : decode cX1_putOwner 19 = .ok (.iand, 1) := by decide +kernel
theorem dX1_putOwner_20 : decode cX1_putOwner 20 = .ok (.ifCond .eq 7, 3) := by decide +kernel
theorem dX1_putOwner_23 : decode cX1_putOwner 23 = .ok (.iconst 1, 1) := by decide +kernel
theorem dX1_putOwner_24 : decode cX1_putOwner 24 = .ok (.goto 4, 3) := by decide +kernel
theorem dX1_putOwner_27 : decode cX1_putOwner 27 = .ok (.iconst 0, 1) := by decide +kernel
theorem dX1_putOwner_28 : decode cX1_putOwner 28 = .ok (.istore 4, 2) := by decide +kernel
theorem dX1_putOwner_30 : decode cX1_putOwner 30 = .ok (.aload_n 0, 1) := by decide +kernel
theorem dX1_putOwner_31 : decode cX1_putOwner 31 = .ok (.getfield 22, 3) := by decide +kernel
theorem dX1_putOwner_34 : decode cX1_putOwner 34 = .ok (.iload_n 1, 1) := by decide +kernel
theorem dX1_putOwner_35 : decode cX1_putOwner 35 = .ok (.iload_n 3, 1) := by decide +kernel
theorem dX1_putOwner_36 : decode cX1_putOwner 36 = .ok (.ifCond .eq 17, 3) := by decide +kernel
theorem dX1_putOwner_39 : decode cX1_putOwner 39 = .ok (.aload_n 0, 1) := by decide +kernel
theorem dX1_putOwner_40 : decode cX1_putOwner 40 = .ok (.getfield 22, 3) := by decide +kernel
theorem dX1_putOwner_43 : decode cX1_putOwner 43 = .ok (.iload_n 1, 1) := by decide +kernel
theorem dX1_putOwner_44 : decode cX1_putOwner 44 = .ok (.iaload, 1) := by decide +kernel
theorem dX1_putOwner_45 : decode cX1_putOwner 45 = .ok (.iload_n 2, 1) := by decide +kernel
theorem dX1_putOwner_46 : decode cX1_putOwner 46 = .ok (.invokestatic 49, 3) := by decide +kernel
theorem dX1_putOwner_49 : decode cX1_putOwner 49 = .ok (.ior, 1) := by decide +kernel
theorem dX1_putOwner_50 : decode cX1_putOwner 50 = .ok (.goto 16, 3) := by decide +kernel
theorem dX1_putOwner_53 : decode cX1_putOwner 53 = .ok (.aload_n 0, 1) := by decide +kernel
theorem dX1_putOwner_54 : decode cX1_putOwner 54 = .ok (.getfield 22, 3) := by decide +kernel
theorem dX1_putOwner_57 : decode cX1_putOwner 57 = .ok (.iload_n 1, 1) := by decide +kernel
theorem dX1_putOwner_58 : decode cX1_putOwner 58 = .ok (.iaload, 1) := by decide +kernel
theorem dX1_putOwner_59 : decode cX1_putOwner 59 = .ok (.iload_n 2, 1) := by decide +kernel
theorem dX1_putOwner_60 : decode cX1_putOwner 60 = .ok (.invokestatic 49, 3) := by decide +kernel
theorem dX1_putOwner_63 : decode cX1_putOwner 63 = .ok (.iconst (-1), 1) := by decide +kernel
theorem dX1_putOwner_64 : decode cX1_putOwner 64 = .ok (.ixor, 1) := by decide +kernel
theorem dX1_putOwner_65 : decode cX1_putOwner 65 = .ok (.iand, 1) := by decide +kernel
theorem dX1_putOwner_66 : decode cX1_putOwner 66 = .ok (.iastore, 1) := by decide +kernel
theorem dX1_putOwner_67 : decode cX1_putOwner 67 = .ok (.iload 4, 2) := by decide +kernel
theorem dX1_putOwner_69 : decode cX1_putOwner 69 = .ok (.ireturn, 1) := by decide +kernel
set_option maxRecDepth 20000 in
theorem ggX1_takes_X1_leadsOf : GoodIn wsX1_takes wsX1_leadsOf := goodIn_r _ [5, 6, 7, 8, 9, 10, 11, 12, 13, 14, 15] (by decide +kernel) (by decide +kernel)
set_option maxRecDepth 20000 in
theorem gX1_takes_X1_leadsOf : GoodIn wsX1_takes (wsV RX1 52 RX1 yX1_leadsOf wsX1_leadsOf) := goodIn_app (goodIn_of _ (by decide +kernel)) ggX1_takes_X1_leadsOf
theorem dX1_takes_0 : decode cX1_takes 0 = .ok (.aload_n 0, 1) := by decide +kernel
theorem dX1_takes_1 : decode cX1_takes 1 = .ok (.iload_n 1, 1) := by decide +kernel
theorem dX1_takes_2 : decode cX1_takes 2 = .ok (.invokevirtual 52, 3) := by decide +kernel
theorem dX1_takes_5 : decode cX1_takes 5 = .ok (.iconst (-1), 1) := by decide +kernel
theorem dX1_takes_6 : decode cX1_takes 6 = .ok (.if_icmp .ne 8, 3) := by decide +kernel
theorem dX1_takes_9 : decode cX1_takes 9 = .ok (.bipush 100, 2) := by decide +kernel
theorem dX1_takes_11 : decode cX1_takes 11 = .ok (.goto 5, 3) := by decide +kernel
theorem dX1_takes_14 : decode cX1_takes 14 = .ok (.bipush 20, 2) := by decide +kernel
theorem dX1_takes_16 : decode cX1_takes 16 = .ok (.istore_n 3, 1) := by decide +kernel
theorem dX1_takes_17 : decode cX1_takes 17 = .ok (.iload_n 2, 1) := by decide +kernel
theorem dX1_takes_18 : decode cX1_takes 18 = .ok (.iconst (-1), 1) := by decide +kernel
theorem dX1_takes_19 : decode cX1_takes 19 = .ok (.if_icmp .eq 12, 3) := by decide +kernel
theorem dX1_takes_22 : decode cX1_takes 22 = .ok (.iload_n 2, 1) := by decide +kernel
theorem dX1_takes_23 : decode cX1_takes 23 = .ok (.ifCond .lt 12, 3) := by decide +kernel
theorem dX1_takes_26 : decode cX1_takes 26 = .ok (.iload_n 2, 1) := by decide +kernel
theorem dX1_takes_27 : decode cX1_takes 27 = .ok (.iload_n 3, 1) := by decide +kernel
theorem dX1_takes_28 : decode cX1_takes 28 = .ok (.if_icmp .ge 7, 3) := by decide +kernel
theorem dX1_takes_31 : decode cX1_takes 31 = .ok (.iconst 1, 1) := by decide +kernel
theorem dX1_takes_32 : decode cX1_takes 32 = .ok (.goto 4, 3) := by decide +kernel
theorem dX1_takes_35 : decode cX1_takes 35 = .ok (.iconst 0, 1) := by decide +kernel
theorem dX1_takes_36 : decode cX1_takes 36 = .ok (.ireturn, 1) := by decide +kernel
set_option maxRecDepth 20000 in
theorem ggX1_valueOf_X4_isSlot : GoodIn wsX1_valueOf wsX4_isSlot := goodIn_r _ [4] (by decide +kernel) (by decide +kernel)
set_option maxRecDepth 20000 in
theorem gX1_valueOf_X4_isSlot_n46 : GoodIn wsX1_valueOf (wsX4_isSlot) := ggX1_valueOf_X4_isSlot
set_option maxRecDepth 20000 in
theorem ggX1_valueOf_X4_isKey : GoodIn wsX1_valueOf wsX4_isKey := goodIn_r _ [6] (by decide +kernel) (by decide +kernel)
set_option maxRecDepth 20000 in
theorem gX1_valueOf_X4_isKey_n55 : GoodIn wsX1_valueOf (wsX4_isKey) := ggX1_valueOf_X4_isKey
theorem dX1_valueOf_0 : decode cX1_valueOf 0 = .ok (.iload_n 1, 1) := by decide +kernel
theorem dX1_valueOf_1 : decode cX1_valueOf 1 = .ok (.invokestatic 46, 3) := by decide +kernel
theorem dX1_valueOf_4 : decode cX1_valueOf 4 = .ok (.ifCond .eq 24, 3) := by decide +kernel
theorem dX1_valueOf_7 : decode cX1_valueOf 7 = .ok (.iload_n 2, 1) := by decide +kernel
theorem dX1_valueOf_8 : decode cX1_valueOf 8 = .ok (.invokestatic 55, 3) := by decide +kernel
theorem dX1_valueOf_11 : decode cX1_valueOf 11 = .ok (.ifCond .eq 17, 3) := by decide +kernel
theorem dX1_valueOf_14 : decode cX1_valueOf 14 = .ok (.aload_n 0, 1) := by decide +kernel
theorem dX1_valueOf_15 : decode cX1_valueOf 15 = .ok (.getfield 25, 3) := by decide +kernel
theorem dX1_valueOf_18 : decode cX1_valueOf 18 = .ok (.iload_n 1, 1) := by decide +kernel
theorem dX1_valueOf_19 : decode cX1_valueOf 19 = .ok (.bipush 20, 2) := by decide +kernel
theorem dX1_valueOf_21 : decode cX1_valueOf 21 = .ok (.imul, 1) := by decide +kernel
theorem dX1_valueOf_22 : decode cX1_valueOf 22 = .ok (.iload_n 2, 1) := by decide +kernel
theorem dX1_valueOf_23 : decode cX1_valueOf 23 = .ok (.iadd, 1) := by decide +kernel
theorem dX1_valueOf_24 : decode cX1_valueOf 24 = .ok (.iaload, 1) := by decide +kernel
theorem dX1_valueOf_25 : decode cX1_valueOf 25 = .ok (.goto 4, 3) := by decide +kernel
theorem dX1_valueOf_28 : decode cX1_valueOf 28 = .ok (.iconst (-1), 1) := by decide +kernel
theorem dX1_valueOf_29 : decode cX1_valueOf 29 = .ok (.ireturn, 1) := by decide +kernel
set_option maxRecDepth 20000 in
theorem ggX1_putValue_X1_valueOf : GoodIn wsX1_putValue wsX1_valueOf := goodIn_r _ [6, 1, 7, 8, 9, 10, 11, 12, 13, 14, 15, 16, 17] (by decide +kernel) (by decide +kernel)
set_option maxRecDepth 20000 in
theorem gX1_putValue_X1_valueOf : GoodIn wsX1_putValue (wsV RX1 58 RX1 yX1_valueOf wsX1_valueOf) := goodIn_app (goodIn_of _ (by decide +kernel)) ggX1_putValue_X1_valueOf
set_option maxRecDepth 20000 in
theorem ggX1_putValue_X4_isSlot : GoodIn wsX1_putValue wsX4_isSlot := goodIn_r _ [9] (by decide +kernel) (by decide +kernel)
set_option maxRecDepth 20000 in
theorem gX1_putValue_X4_isSlot_n46 : GoodIn wsX1_putValue (wsX4_isSlot) := ggX1_putValue_X4_isSlot
set_option maxRecDepth 20000 in
theorem ggX1_putValue_X4_isKey : GoodIn wsX1_putValue wsX4_isKey := goodIn_r _ [11] (by decide +kernel) (by decide +kernel)
set_option maxRecDepth 20000 in
theorem gX1_putValue_X4_isKey_n55 : GoodIn wsX1_putValue (wsX4_isKey) := ggX1_putValue_X4_isKey
theorem dX1_putValue_0 : decode cX1_putValue 0 = .ok (.aload_n 0, 1) := by decide +kernel
theorem dX1_putValue_1 : decode cX1_putValue 1 = .ok (.iload_n 1, 1) := by decide +kernel
theorem dX1_putValue_2 : decode cX1_putValue 2 = .ok (.iload_n 2, 1) := by decide +kernel
theorem dX1_putValue_3 : decode cX1_putValue 3 = .ok (.invokevirtual 58, 3) := by decide +kernel
theorem dX1_putValue_6 : decode cX1_putValue 6 = .ok (.istore 4, 2) := by decide +kernel
theorem dX1_putValue_8 : decode cX1_putValue 8 = .ok (.iload_n 1, 1) := by decide +kernel
theorem dX1_putValue_9 : decode cX1_putValue 9 = .ok (.invokestatic 46, 3) := by decide +kernel
theorem dX1_putValue_12 : decode cX1_putValue 12 = .ok (.ifCond .eq 22, 3) := by decide +kernel
theorem dX1_putValue_15 : decode cX1_putValue 15 = .ok (.iload_n 2, 1) := by decide +kernel
theorem dX1_putValue_16 : decode cX1_putValue 16 = .ok (.invokestatic 55, 3) := by decide +kernel
theorem dX1_putValue_19 : decode cX1_putValue 19 = .ok (.ifCond .eq 15, 3) := by decide +kernel
theorem dX1_putValue_22 : decode cX1_putValue 22 = .ok (.aload_n 0, 1) := by decide +kernel
theorem dX1_putValue_23 : decode cX1_putValue 23 = .ok (.getfield 25, 3) := by decide +kernel
theorem dX1_putValue_26 : decode cX1_putValue 26 = .ok (.iload_n 1, 1) := by decide +kernel
theorem dX1_putValue_27 : decode cX1_putValue 27 = .ok (.bipush 20, 2) := by decide +kernel
theorem dX1_putValue_29 : decode cX1_putValue 29 = .ok (.imul, 1) := by decide +kernel
theorem dX1_putValue_30 : decode cX1_putValue 30 = .ok (.iload_n 2, 1) := by decide +kernel
theorem dX1_putValue_31 : decode cX1_putValue 31 = .ok (.iadd, 1) := by decide +kernel
theorem dX1_putValue_32 : decode cX1_putValue 32 = .ok (.iload_n 3, 1) := by decide +kernel
theorem dX1_putValue_33 : decode cX1_putValue 33 = .ok (.iastore, 1) := by decide +kernel
theorem dX1_putValue_34 : decode cX1_putValue 34 = .ok (.iload 4, 2) := by decide +kernel
theorem dX1_putValue_36 : decode cX1_putValue 36 = .ok (.ireturn, 1) := by decide +kernel
theorem dX1_failures_0 : decode cX1_failures 0 = .ok (.aload_n 0, 1) := by decide +kernel
theorem dX1_failures_1 : decode cX1_failures 1 = .ok (.getfield 61, 3) := by decide +kernel
theorem dX1_failures_4 : decode cX1_failures 4 = .ok (.ireturn, 1) := by decide +kernel
set_option maxRecDepth 20000 in
theorem ggX1_putFailed_X4_bit : GoodIn wsX1_putFailed wsX4_bit := goodIn_r _ [4] (by decide +kernel) (by decide +kernel)
set_option maxRecDepth 20000 in
theorem gX1_putFailed_X4_bit_n49 : GoodIn wsX1_putFailed (wsX4_bit) := ggX1_putFailed_X4_bit
theorem dX1_putFailed_0 : decode cX1_putFailed 0 = .ok (.aload_n 0, 1) := by decide +kernel
theorem dX1_putFailed_1 : decode cX1_putFailed 1 = .ok (.getfield 61, 3) := by decide +kernel
theorem dX1_putFailed_4 : decode cX1_putFailed 4 = .ok (.iload_n 1, 1) := by decide +kernel
theorem dX1_putFailed_5 : decode cX1_putFailed 5 = .ok (.invokestatic 49, 3) := by decide +kernel
theorem dX1_putFailed_8 : decode cX1_putFailed 8 = .ok (.iand, 1) := by decide +kernel
theorem dX1_putFailed_9 : decode cX1_putFailed 9 = .ok (.ifCond .eq 7, 3) := by decide +kernel
theorem dX1_putFailed_12 : decode cX1_putFailed 12 = .ok (.iconst 1, 1) := by decide +kernel
theorem dX1_putFailed_13 : decode cX1_putFailed 13 = .ok (.goto 4, 3) := by decide +kernel
theorem dX1_putFailed_16 : decode cX1_putFailed 16 = .ok (.iconst 0, 1) := by decide +kernel
theorem dX1_putFailed_17 : decode cX1_putFailed 17 = .ok (.istore_n 3, 1) := by decide +kernel
theorem dX1_putFailed_18 : decode cX1_putFailed 18 = .ok (.aload_n 0, 1) := by decide +kernel
theorem dX1_putFailed_19 : decode cX1_putFailed 19 = .ok (.iload_n 2, 1) := by decide +kernel
theorem dX1_putFailed_20 : decode cX1_putFailed 20 = .ok (.ifCond .eq 15, 3) := by decide +kernel
theorem dX1_putFailed_23 : decode cX1_putFailed 23 = .ok (.aload_n 0, 1) := by decide +kernel
theorem dX1_putFailed_24 : decode cX1_putFailed 24 = .ok (.getfield 61, 3) := by decide +kernel
theorem dX1_putFailed_27 : decode cX1_putFailed 27 = .ok (.iload_n 1, 1) := by decide +kernel
theorem dX1_putFailed_28 : decode cX1_putFailed 28 = .ok (.invokestatic 49, 3) := by decide +kernel
theorem dX1_putFailed_31 : decode cX1_putFailed 31 = .ok (.ior, 1) := by decide +kernel
theorem dX1_putFailed_32 : decode cX1_putFailed 32 = .ok (.goto 14, 3) := by decide +kernel
theorem dX1_putFailed_35 : decode cX1_putFailed 35 = .ok (.aload_n 0, 1) := by decide +kernel
theorem dX1_putFailed_36 : decode cX1_putFailed 36 = .ok (.getfield 61, 3) := by decide +kernel
theorem dX1_putFailed_39 : decode cX1_putFailed 39 = .ok (.iload_n 1, 1) := by decide +kernel
theorem dX1_putFailed_40 : decode cX1_putFailed 40 = .ok (.invokestatic 49, 3) := by decide +kernel
theorem dX1_putFailed_43 : decode cX1_putFailed 43 = .ok (.iconst (-1), 1) := by decide +kernel
theorem dX1_putFailed_44 : decode cX1_putFailed 44 = .ok (.ixor, 1) := by decide +kernel
theorem dX1_putFailed_45 : decode cX1_putFailed 45 = .ok (.iand, 1) := by decide +kernel
theorem dX1_putFailed_46 : decode cX1_putFailed 46 = .ok (.putfield 61, 3) := by decide +kernel
theorem dX1_putFailed_49 : decode cX1_putFailed 49 = .ok (.iload_n 3, 1) := by decide +kernel
theorem dX1_putFailed_50 : decode cX1_putFailed 50 = .ok (.ireturn, 1) := by decide +kernel
theorem dX2_init_0 : decode cX2_init 0 = .ok (.aload_n 0, 1) := by decide +kernel
theorem dX2_init_1 : decode cX2_init 1 = .ok (.invokespecial 3, 3) := by decide +kernel
theorem dX2_init_4 : decode cX2_init 4 = .ok (.aload_n 0, 1) := by decide +kernel
theorem dX2_init_5 : decode cX2_init 5 = .ok (.aload_n 1, 1) := by decide +kernel
theorem dX2_init_6 : decode cX2_init 6 = .ok (.putfield 9, 3) := by decide +kernel
theorem dX2_init_9 : decode cX2_init 9 = .ok (.aload_n 0, 1) := by decide +kernel
theorem dX2_init_10 : decode cX2_init 10 = .ok (.aload_n 2, 1) := by decide +kernel
theorem dX2_init_11 : decode cX2_init 11 = .ok (.putfield 15, 3) := by decide +kernel
theorem dX2_init_14 : decode cX2_init 14 = .ok (.aload_n 0, 1) := by decide +kernel
theorem dX2_init_15 : decode cX2_init 15 = .ok (.bipush 12, 2) := by decide +kernel
theorem dX2_init_17 : decode cX2_init 17 = .ok (.newarray .int, 2) := by decide +kernel
theorem dX2_init_19 : decode cX2_init 19 = .ok (.putfield 19, 3) := by decide +kernel
theorem dX2_init_22 : decode cX2_init 22 = .ok (.aload_n 0, 1) := by decide +kernel
theorem dX2_init_23 : decode cX2_init 23 = .ok (.bipush 12, 2) := by decide +kernel
theorem dX2_init_25 : decode cX2_init 25 = .ok (.newarray .int, 2) := by decide +kernel
theorem dX2_init_27 : decode cX2_init 27 = .ok (.putfield 23, 3) := by decide +kernel
theorem dX2_init_30 : decode cX2_init 30 = .ok (.aload_n 0, 1) := by decide +kernel
theorem dX2_init_31 : decode cX2_init 31 = .ok (.bipush 48, 2) := by decide +kernel
theorem dX2_init_33 : decode cX2_init 33 = .ok (.newarray .int, 2) := by decide +kernel
theorem dX2_init_35 : decode cX2_init 35 = .ok (.putfield 26, 3) := by decide +kernel
theorem dX2_init_38 : decode cX2_init 38 = .ok (.aload_n 0, 1) := by decide +kernel
theorem dX2_init_39 : decode cX2_init 39 = .ok (.bipush 12, 2) := by decide +kernel
theorem dX2_init_41 : decode cX2_init 41 = .ok (.newarray .int, 2) := by decide +kernel
theorem dX2_init_43 : decode cX2_init 43 = .ok (.putfield 29, 3) := by decide +kernel
theorem dX2_init_46 : decode cX2_init 46 = .ok (.return_, 1) := by decide +kernel
theorem dX2_forget_0 : decode cX2_forget 0 = .ok (.aload_n 0, 1) := by decide +kernel
theorem dX2_forget_1 : decode cX2_forget 1 = .ok (.iconst 0, 1) := by decide +kernel
theorem dX2_forget_2 : decode cX2_forget 2 = .ok (.putfield 32, 3) := by decide +kernel
theorem dX2_forget_5 : decode cX2_forget 5 = .ok (.return_, 1) := by decide +kernel
set_option maxRecDepth 20000 in
theorem ggX2_find_X2_openChoices : GoodIn wsX2_find wsX2_openChoices := goodIn_r _ [8, 9, 10, 11, 12, 13, 14, 15, 16, 17, 18, 19, 20, 21, 22, 23, 24, 25, 26, 27, 28, 29, 30, 31, 32, 33, 34, 35, 36, 37, 38, 39, 40, 41, 42, 43, 44, 45, 46, 79, 80, 81, 82, 83, 84, 85, 86, 87, 88, 89, 90, 91, 92, 93, 94, 95, 96, 97, 98] (by decide +kernel) (by decide +kernel)
set_option maxRecDepth 20000 in
theorem gX2_find_X2_openChoices : GoodIn wsX2_find (wsV RX2 36 RX2 yX2_openChoices wsX2_openChoices) := goodIn_app (goodIn_of _ (by decide +kernel)) ggX2_find_X2_openChoices
set_option maxRecDepth 20000 in
theorem ggX2_find_X2_countHopsBelow : GoodIn wsX2_find wsX2_countHopsBelow := goodIn_r _ [50, 14, 51, 52, 53, 54, 7, 55, 10, 11, 12, 13, 56, 45, 57, 58, 59, 60, 61, 62, 63, 64, 65, 66, 67, 68, 15, 16, 79, 80, 81, 82, 83, 84, 85, 86, 87, 88] (by decide +kernel) (by decide +kernel)
set_option maxRecDepth 20000 in
theorem gX2_find_X2_countHopsBelow : GoodIn wsX2_find (wsV RX2 43 RX2 yX2_countHopsBelow wsX2_countHopsBelow) := goodIn_app (goodIn_of _ (by decide +kernel)) ggX2_find_X2_countHopsBelow
set_option maxRecDepth 20000 in
theorem ggX2_find_X2_hopsAt : GoodIn wsX2_find wsX2_hopsAt := goodIn_r _ [55, 10, 11, 12, 13, 56, 45, 57, 58, 59, 60, 61, 62, 63, 64, 65, 66, 67, 7, 68, 14, 15, 16, 51, 79, 80, 81, 82, 83, 84, 85, 86, 87, 88] (by decide +kernel) (by decide +kernel)
set_option maxRecDepth 20000 in
theorem gX2_find_X2_hopsAt : GoodIn wsX2_find (wsV RX2 46 RX2 yX2_hopsAt wsX2_hopsAt) := goodIn_app (goodIn_of _ (by decide +kernel)) ggX2_find_X2_hopsAt
set_option maxRecDepth 20000 in
theorem ggX2_find_X2_chooseServices : GoodIn wsX2_find wsX2_chooseServices := goodIn_r _ [72, 14, 15, 16, 73, 74, 75, 76, 7, 77, 9, 78, 30, 31, 21, 32, 23, 52, 53, 54, 55, 10, 11, 12, 13, 56, 45, 57, 58, 59, 60, 61, 62, 63, 64, 65, 66, 67, 68, 51, 79, 80, 81, 82, 83, 84, 85, 86, 87, 88, 89, 90, 91, 92] (by decide +kernel) (by decide +kernel)
set_option maxRecDepth 20000 in
theorem gX2_find_X2_chooseServices : GoodIn wsX2_find (wsV RX2 54 RX2 yX2_chooseServices wsX2_chooseServices) := goodIn_app (goodIn_of _ (by decide +kernel)) ggX2_find_X2_chooseServices
theorem dX2_find_0 : decode cX2_find 0 = .ok (.aload_n 0, 1) := by decide +kernel
theorem dX2_find_1 : decode cX2_find 1 = .ok (.getfield 32, 3) := by decide +kernel
theorem dX2_find_4 : decode cX2_find 4 = .ok (.ifCond .ne 41, 3) := by decide +kernel
theorem dX2_find_7 : decode cX2_find 7 = .ok (.aload_n 0, 1) := by decide +kernel
theorem dX2_find_8 : decode cX2_find 8 = .ok (.aload_n 0, 1) := by decide +kernel
theorem dX2_find_9 : decode cX2_find 9 = .ok (.invokevirtual 36, 3) := by decide +kernel
theorem dX2_find_12 : decode cX2_find 12 = .ok (.putfield 40, 3) := by decide +kernel
theorem dX2_find_15 : decode cX2_find 15 = .ok (.aload_n 0, 1) := by decide +kernel
theorem dX2_find_16 : decode cX2_find 16 = .ok (.getfield 40, 3) := by decide +kernel
theorem dX2_find_19 : decode cX2_find 19 = .ok (.ifCond .eq 21, 3) := by decide +kernel
theorem dX2_find_22 : decode cX2_find 22 = .ok (.aload_n 0, 1) := by decide +kernel
theorem dX2_find_23 : decode cX2_find 23 = .ok (.invokevirtual 43, 3) := by decide +kernel
theorem dX2_find_26 : decode cX2_find 26 = .ok (.aload_n 0, 1) := by decide +kernel
theorem dX2_find_27 : decode cX2_find 27 = .ok (.aload_n 0, 1) := by decide +kernel
theorem dX2_find_28 : decode cX2_find 28 = .ok (.iconst (-1), 1) := by decide +kernel
theorem dX2_find_29 : decode cX2_find 29 = .ok (.iconst (-1), 1) := by decide +kernel
theorem dX2_find_30 : decode cX2_find 30 = .ok (.invokevirtual 46, 3) := by decide +kernel
theorem dX2_find_33 : decode cX2_find 33 = .ok (.putfield 50, 3) := by decide +kernel
theorem dX2_find_36 : decode cX2_find 36 = .ok (.aload_n 0, 1) := by decide +kernel
theorem dX2_find_37 : decode cX2_find 37 = .ok (.invokevirtual 54, 3) := by decide +kernel
theorem dX2_find_40 : decode cX2_find 40 = .ok (.aload_n 0, 1) := by decide +kernel
theorem dX2_find_41 : decode cX2_find 41 = .ok (.iconst 1, 1) := by decide +kernel
theorem dX2_find_42 : decode cX2_find 42 = .ok (.putfield 32, 3) := by decide +kernel
theorem dX2_find_45 : decode cX2_find 45 = .ok (.aload_n 0, 1) := by decide +kernel
theorem dX2_find_46 : decode cX2_find 46 = .ok (.getfield 40, 3) := by decide +kernel
theorem dX2_find_49 : decode cX2_find 49 = .ok (.ireturn, 1) := by decide +kernel
theorem dX2_length_0 : decode cX2_length 0 = .ok (.aload_n 0, 1) := by decide +kernel
theorem dX2_length_1 : decode cX2_length 1 = .ok (.getfield 50, 3) := by decide +kernel
theorem dX2_length_4 : decode cX2_length 4 = .ok (.ireturn, 1) := by decide +kernel
set_option maxRecDepth 20000 in
theorem ggX2_serviceOf_X3_has : GoodIn wsX2_serviceOf wsX3_has := goodIn_r _ [7, 8, 19, 20, 21, 22] (by decide +kernel) (by decide +kernel)
set_option maxRecDepth 20000 in
theorem gX2_serviceOf_X3_has : GoodIn wsX2_serviceOf (wsV RX2 57 RX3 yX3_has wsX3_has) := goodIn_app (goodIn_of _ (by decide +kernel)) ggX2_serviceOf_X3_has
theorem dX2_serviceOf_0 : decode cX2_serviceOf 0 = .ok (.aload_n 0, 1) := by decide +kernel
theorem dX2_serviceOf_1 : decode cX2_serviceOf 1 = .ok (.getfield 15, 3) := by decide +kernel
theorem dX2_serviceOf_4 : decode cX2_serviceOf 4 = .ok (.iload_n 1, 1) := by decide +kernel
theorem dX2_serviceOf_5 : decode cX2_serviceOf 5 = .ok (.invokevirtual 57, 3) := by decide +kernel
theorem dX2_serviceOf_8 : decode cX2_serviceOf 8 = .ok (.ifCond .eq 12, 3) := by decide +kernel
theorem dX2_serviceOf_11 : decode cX2_serviceOf 11 = .ok (.aload_n 0, 1) := by decide +kernel
theorem dX2_serviceOf_12 : decode cX2_serviceOf 12 = .ok (.getfield 29, 3) := by decide +kernel
theorem dX2_serviceOf_15 : decode cX2_serviceOf 15 = .ok (.iload_n 1, 1) := by decide +kernel
theorem dX2_serviceOf_16 : decode cX2_serviceOf 16 = .ok (.iaload, 1) := by decide +kernel
theorem dX2_serviceOf_17 : decode cX2_serviceOf 17 = .ok (.goto 4, 3) := by decide +kernel
theorem dX2_serviceOf_20 : decode cX2_serviceOf 20 = .ok (.iconst (-1), 1) := by decide +kernel
theorem dX2_serviceOf_21 : decode cX2_serviceOf 21 = .ok (.ireturn, 1) := by decide +kernel
set_option maxRecDepth 20000 in
theorem ggX2_openChoices_X3_size : GoodIn wsX2_openChoices wsX3_size := goodIn_r _ [14, 15, 49, 50, 51, 52] (by decide +kernel) (by decide +kernel)
set_option maxRecDepth 20000 in
theorem gX2_openChoices_X3_size : GoodIn wsX2_openChoices (wsV RX2 63 RX3 yX3_size wsX3_size) := goodIn_app (goodIn_of _ (by decide +kernel)) ggX2_openChoices_X3_size
set_option maxRecDepth 20000 in
theorem ggX2_openChoices_X3_aboveOf : GoodIn wsX2_openChoices wsX3_aboveOf := goodIn_r _ [19, 20, 21, 22, 23, 13, 24, 15, 49, 50, 51, 52] (by decide +kernel) (by decide +kernel)
set_option maxRecDepth 20000 in
theorem gX2_openChoices_X3_aboveOf : GoodIn wsX2_openChoices (wsV RX2 75 RX3 yX3_aboveOf wsX3_aboveOf) := goodIn_app (goodIn_of _ (by decide +kernel)) ggX2_openChoices_X3_aboveOf
set_option maxRecDepth 20000 in
theorem ggX2_openChoices_X3_slotAt : GoodIn wsX2_openChoices wsX3_slotAt := goodIn_r _ [28, 29, 21, 22, 23, 13, 24, 15, 49, 50, 51, 52] (by decide +kernel) (by decide +kernel)
set_option maxRecDepth 20000 in
theorem gX2_openChoices_X3_slotAt : GoodIn wsX2_openChoices (wsV RX2 79 RX3 yX3_slotAt wsX3_slotAt) := goodIn_app (goodIn_of _ (by decide +kernel)) ggX2_openChoices_X3_slotAt
set_option maxRecDepth 20000 in
theorem ggX2_openChoices_X1_ownersOf : GoodIn wsX2_openChoices wsX1_ownersOf := goodIn_r _ [34, 35, 36, 37, 38, 53, 54, 55, 56, 57, 58] (by decide +kernel) (by decide +kernel)
set_option maxRecDepth 20000 in
theorem gX2_openChoices_X1_ownersOf : GoodIn wsX2_openChoices (wsV RX2 82 RX1 yX1_ownersOf wsX1_ownersOf) := goodIn_app (goodIn_of _ (by decide +kernel)) ggX2_openChoices_X1_ownersOf
theorem dX2_openChoices_0 : decode cX2_openChoices 0 = .ok (.iconst 1, 1) := by decide +kernel
theorem dX2_openChoices_1 : decode cX2_openChoices 1 = .ok (.istore_n 1, 1) := by decide +kernel
theorem dX2_openChoices_2 : decode cX2_openChoices 2 = .ok (.aload_n 0, 1) := by decide +kernel
theorem dX2_openChoices_3 : decode cX2_openChoices 3 = .ok (.aload_n 0, 1) := by decide +kernel
theorem dX2_openChoices_4 : decode cX2_openChoices 4 = .ok (.getfield 15, 3) := by decide +kernel
theorem dX2_openChoices_7 : decode cX2_openChoices 7 = .ok (.invokevirtual 63, 3) := by decide +kernel
theorem dX2_openChoices_10 : decode cX2_openChoices 10 = .ok (.bipush 12, 2) := by decide +kernel
theorem dX2_openChoices_12 : decode cX2_openChoices 12 = .ok (.invokestatic 67, 3) := by decide +kernel
theorem dX2_openChoices_15 : decode cX2_openChoices 15 = .ok (.putfield 72, 3) := by decide +kernel
theorem dX2_openChoices_18 : decode cX2_openChoices 18 = .ok (.iconst 0, 1) := by decide +kernel
theorem dX2_openChoices_19 : decode cX2_openChoices 19 = .ok (.istore_n 2, 1) := by decide +kernel
theorem dX2_openChoices_20 : decode cX2_openChoices 20 = .ok (.iload_n 2, 1) := by decide +kernel
theorem dX2_openChoices_21 : decode cX2_openChoices 21 = .ok (.aload_n 0, 1) := by decide +kernel
theorem dX2_openChoices_22 : decode cX2_openChoices 22 = .ok (.getfield 72, 3) := by decide +kernel
theorem dX2_openChoices_25 : decode cX2_openChoices 25 = .ok (.if_icmp .ge 63, 3) := by decide +kernel
theorem dX2_openChoices_28 : decode cX2_openChoices 28 = .ok (.aload_n 0, 1) := by decide +kernel
theorem dX2_openChoices_29 : decode cX2_openChoices 29 = .ok (.getfield 19, 3) := by decide +kernel
theorem dX2_openChoices_32 : decode cX2_openChoices 32 = .ok (.iload_n 2, 1) := by decide +kernel
theorem dX2_openChoices_33 : decode cX2_openChoices 33 = .ok (.aload_n 0, 1) := by decide +kernel
theorem dX2_openChoices_34 : decode cX2_openChoices 34 = .ok (.getfield 15, 3) := by decide +kernel
theorem dX2_openChoices_37 : decode cX2_openChoices 37 = .ok (.iload_n 2, 1) := by decide +kernel
theorem dX2_openChoices_38 : decode cX2_openChoices 38 = .ok (.invokevirtual 75, 3) := by decide +kernel
theorem dX2_openChoices_41 : decode cX2_openChoices 41 = .ok (.iastore, 1) := by decide +kernel
theorem dX2_openChoices_42 : decode cX2_openChoices 42 = .ok (.aload_n 0, 1) := by decide +kernel
theorem dX2_openChoices_43 : decode cX2_openChoices 43 = .ok (.getfield 23, 3) := by decide +kernel
theorem dX2_openChoices_46 : decode cX2_openChoices 46 = .ok (.iload_n 2, 1) := by decide +kernel
theorem dX2_openChoices_47 : decode cX2_openChoices 47 = .ok (.aload_n 0, 1) := by decide +kernel
theorem dX2_openChoices_48 : decode cX2_openChoices 48 = .ok (.getfield 9, 3) := by decide +kernel
theorem dX2_openChoices_51 : decode cX2_openChoices 51 = .ok (.aload_n 0, 1) := by decide +kernel
theorem dX2_openChoices_52 : decode cX2_openChoices 52 = .ok (.getfield 15, 3) := by decide +kernel
theorem dX2_openChoices_55 : decode cX2_openChoices 55 = .ok (.iload_n 2, 1) := by decide +kernel
theorem dX2_openChoices_56 : decode cX2_openChoices 56 = .ok (.invokevirtual 79, 3) := by decide +kernel
theorem dX2_openChoices_59 : decode cX2_openChoices 59 = .ok (.invokevirtual 82, 3) := by decide +kernel
theorem dX2_openChoices_62 : decode cX2_openChoices 62 = .ok (.iastore, 1) := by decide +kernel
theorem dX2_openChoices_63 : decode cX2_openChoices 63 = .ok (.iload_n 1, 1) := by decide +kernel
theorem dX2_openChoices_64 : decode cX2_openChoices 64 = .ok (.ifCond .eq 16, 3) := by decide +kernel
theorem dX2_openChoices_67 : decode cX2_openChoices 67 = .ok (.aload_n 0, 1) := by decide +kernel
theorem dX2_openChoices_68 : decode cX2_openChoices 68 = .ok (.getfield 23, 3) := by decide +kernel
theorem dX2_openChoices_71 : decode cX2_openChoices 71 = .ok (.iload_n 2, 1) := by decide +kernel
theorem dX2_openChoices_72 : decode cX2_openChoices 72 = .ok (.iaload, 1) := by decide +kernel
theorem dX2_openChoices_73 : decode cX2_openChoices 73 = .ok (.ifCond .eq 7, 3) := by decide +kernel
theorem dX2_openChoices_76 : decode cX2_openChoices 76 = .ok (.iconst 1, 1) := by decide +kernel
theorem dX2_openChoices_77 : decode cX2_openChoices 77 = .ok (.goto 4, 3) := by decide +kernel
theorem dX2_openChoices_80 : decode cX2_openChoices 80 = .ok (.iconst 0, 1) := by decide +kernel
theorem dX2_openChoices_81 : decode cX2_openChoices 81 = .ok (.istore_n 1, 1) := by decide +kernel
theorem dX2_openChoices_82 : decode cX2_openChoices 82 = .ok (.iinc 2 1, 3) := by decide +kernel
theorem dX2_openChoices_85 : decode cX2_openChoices 85 = .ok (.goto (-65), 3) := by decide +kernel
theorem dX2_openChoices_88 : decode cX2_openChoices 88 = .ok (.iload_n 1, 1) := by decide +kernel
theorem dX2_openChoices_89 : decode cX2_openChoices 89 = .ok (.ireturn, 1) := by decide +kernel
set_option maxRecDepth 20000 in
theorem ggX2_countHopsBelow_X2_hopsAt : GoodIn wsX2_countHopsBelow wsX2_hopsAt := goodIn_r _ [7, 8, 9, 10, 11, 12, 13, 14, 15, 16, 17, 18, 19, 20, 21, 22, 23, 24, 6, 25, 1, 26, 27, 2, 28, 29, 30, 31, 32, 33, 34, 35, 36, 37] (by decide +kernel) (by decide +kernel)
set_option maxRecDepth 20000 in
theorem gX2_countHopsBelow_X2_hopsAt : GoodIn wsX2_countHopsBelow (wsV RX2 46 RX2 yX2_hopsAt wsX2_hopsAt) := goodIn_app (goodIn_of _ (by decide +kernel)) ggX2_countHopsBelow_X2_hopsAt
theorem dX2_countHopsBelow_0 : decode cX2_countHopsBelow 0 = .ok (.aload_n 0, 1) := by decide +kernel
theorem dX2_countHopsBelow_1 : decode cX2_countHopsBelow 1 = .ok (.getfield 72, 3) := by decide +kernel
theorem dX2_countHopsBelow_4 : decode cX2_countHopsBelow 4 = .ok (.iconst 1, 1) := by decide +kernel
theorem dX2_countHopsBelow_5 : decode cX2_countHopsBelow 5 = .ok (.isub, 1) := by decide +kernel
theorem dX2_countHopsBelow_6 : decode cX2_countHopsBelow 6 = .ok (.istore_n 1, 1) := by decide +kernel
theorem dX2_countHopsBelow_7 : decode cX2_countHopsBelow 7 = .ok (.iload_n 1, 1) := by decide +kernel
theorem dX2_countHopsBelow_8 : decode cX2_countHopsBelow 8 = .ok (.ifCond .lt 38, 3) := by decide +kernel
theorem dX2_countHopsBelow_11 : decode cX2_countHopsBelow 11 = .ok (.iconst 0, 1) := by decide +kernel
theorem dX2_countHopsBelow_12 : decode cX2_countHopsBelow 12 = .ok (.istore_n 2, 1) := by decide +kernel
theorem dX2_countHopsBelow_13 : decode cX2_countHopsBelow 13 = .ok (.iload_n 2, 1) := by decide +kernel
theorem dX2_countHopsBelow_14 : decode cX2_countHopsBelow 14 = .ok (.iconst 4, 1) := by decide +kernel
theorem dX2_countHopsBelow_15 : decode cX2_countHopsBelow 15 = .ok (.if_icmp .ge 25, 3) := by decide +kernel
theorem dX2_countHopsBelow_18 : decode cX2_countHopsBelow 18 = .ok (.aload_n 0, 1) := by decide +kernel
theorem dX2_countHopsBelow_19 : decode cX2_countHopsBelow 19 = .ok (.getfield 26, 3) := by decide +kernel
theorem dX2_countHopsBelow_22 : decode cX2_countHopsBelow 22 = .ok (.iload_n 1, 1) := by decide +kernel
theorem dX2_countHopsBelow_23 : decode cX2_countHopsBelow 23 = .ok (.iconst 4, 1) := by decide +kernel
theorem dX2_countHopsBelow_24 : decode cX2_countHopsBelow 24 = .ok (.imul, 1) := by decide +kernel
theorem dX2_countHopsBelow_25 : decode cX2_countHopsBelow 25 = .ok (.iload_n 2, 1) := by decide +kernel
theorem dX2_countHopsBelow_26 : decode cX2_countHopsBelow 26 = .ok (.iadd, 1) := by decide +kernel
theorem dX2_countHopsBelow_27 : decode cX2_countHopsBelow 27 = .ok (.aload_n 0, 1) := by decide +kernel
theorem dX2_countHopsBelow_28 : decode cX2_countHopsBelow 28 = .ok (.iload_n 1, 1) := by decide +kernel
theorem dX2_countHopsBelow_29 : decode cX2_countHopsBelow 29 = .ok (.iload_n 2, 1) := by decide +kernel
theorem dX2_countHopsBelow_30 : decode cX2_countHopsBelow 30 = .ok (.invokevirtual 46, 3) := by decide +kernel
theorem dX2_countHopsBelow_33 : decode cX2_countHopsBelow 33 = .ok (.iastore, 1) := by decide +kernel
theorem dX2_countHopsBelow_34 : decode cX2_countHopsBelow 34 = .ok (.iinc 2 1, 3) := by decide +kernel
theorem dX2_countHopsBelow_37 : decode cX2_countHopsBelow 37 = .ok (.goto (-24), 3) := by decide +kernel
theorem dX2_countHopsBelow_40 : decode cX2_countHopsBelow 40 = .ok (.iinc 1 (-1), 3) := by decide +kernel
theorem dX2_countHopsBelow_43 : decode cX2_countHopsBelow 43 = .ok (.goto (-36), 3) := by decide +kernel
theorem dX2_countHopsBelow_46 : decode cX2_countHopsBelow 46 = .ok (.return_, 1) := by decide +kernel
set_option maxRecDepth 20000 in
theorem ggX2_chooseServices_X2_serviceOf : GoodIn wsX2_chooseServices wsX2_serviceOf := goodIn_r _ [9, 10, 4, 11, 12, 13, 14, 15, 16, 40, 41, 42, 43, 44, 45, 46, 47, 48, 49, 50, 51, 52, 53] (by decide +kernel) (by decide +kernel)
set_option maxRecDepth 20000 in
theorem gX2_chooseServices_X2_serviceOf : GoodIn wsX2_chooseServices (wsV RX2 87 RX2 yX2_serviceOf wsX2_serviceOf) := goodIn_app (goodIn_of _ (by decide +kernel)) ggX2_chooseServices_X2_serviceOf
set_option maxRecDepth 20000 in
theorem ggX2_chooseServices_X2_hopsAt : GoodIn wsX2_chooseServices wsX2_hopsAt := goodIn_r _ [20, 21, 22, 23, 24, 25, 26, 27, 28, 29, 30, 31, 32, 33, 34, 35, 36, 37, 8, 38, 1, 2, 3, 39, 40, 41, 42, 43, 44, 45, 46, 47, 48, 49] (by decide +kernel) (by decide +kernel)
set_option maxRecDepth 20000 in
theorem gX2_chooseServices_X2_hopsAt : GoodIn wsX2_chooseServices (wsV RX2 46 RX2 yX2_hopsAt wsX2_hopsAt) := goodIn_app (goodIn_of _ (by decide +kernel)) ggX2_chooseServices_X2_hopsAt
set_option maxRecDepth 20000 in
theorem ggX2_chooseServices_X4_bit : GoodIn wsX2_chooseServices wsX4_bit := goodIn_r _ [27] (by decide +kernel) (by decide +kernel)
set_option maxRecDepth 20000 in
theorem gX2_chooseServices_X4_bit_n90 : GoodIn wsX2_chooseServices (wsX4_bit) := ggX2_chooseServices_X4_bit
theorem dX2_chooseServices_0 : decode cX2_chooseServices 0 = .ok (.iconst 0, 1) := by decide +kernel
theorem dX2_chooseServices_1 : decode cX2_chooseServices 1 = .ok (.istore_n 1, 1) := by decide +kernel
theorem dX2_chooseServices_2 : decode cX2_chooseServices 2 = .ok (.iload_n 1, 1) := by decide +kernel
theorem dX2_chooseServices_3 : decode cX2_chooseServices 3 = .ok (.aload_n 0, 1) := by decide +kernel
theorem dX2_chooseServices_4 : decode cX2_chooseServices 4 = .ok (.getfield 72, 3) := by decide +kernel
theorem dX2_chooseServices_7 : decode cX2_chooseServices 7 = .ok (.if_icmp .ge 107, 3) := by decide +kernel
theorem dX2_chooseServices_10 : decode cX2_chooseServices 10 = .ok (.aload_n 0, 1) := by decide +kernel
theorem dX2_chooseServices_11 : decode cX2_chooseServices 11 = .ok (.aload_n 0, 1) := by decide +kernel
theorem dX2_chooseServices_12 : decode cX2_chooseServices 12 = .ok (.getfield 19, 3) := by decide +kernel
theorem dX2_chooseServices_15 : decode cX2_chooseServices 15 = .ok (.iload_n 1, 1) := by decide +kernel
theorem dX2_chooseServices_16 : decode cX2_chooseServices 16 = .ok (.iaload, 1) := by decide +kernel
theorem dX2_chooseServices_17 : decode cX2_chooseServices 17 = .ok (.invokevirtual 87, 3) := by decide +kernel
theorem dX2_chooseServices_20 : decode cX2_chooseServices 20 = .ok (.istore_n 2, 1) := by decide +kernel
theorem dX2_chooseServices_21 : decode cX2_chooseServices 21 = .ok (.aload_n 0, 1) := by decide +kernel
theorem dX2_chooseServices_22 : decode cX2_chooseServices 22 = .ok (.aload_n 0, 1) := by decide +kernel
theorem dX2_chooseServices_23 : decode cX2_chooseServices 23 = .ok (.getfield 19, 3) := by decide +kernel
theorem dX2_chooseServices_26 : decode cX2_chooseServices 26 = .ok (.iload_n 1, 1) := by decide +kernel
theorem dX2_chooseServices_27 : decode cX2_chooseServices 27 = .ok (.iaload, 1) := by decide +kernel
theorem dX2_chooseServices_28 : decode cX2_chooseServices 28 = .ok (.iload_n 2, 1) := by decide +kernel
theorem dX2_chooseServices_29 : decode cX2_chooseServices 29 = .ok (.invokevirtual 46, 3) := by decide +kernel
theorem dX2_chooseServices_32 : decode cX2_chooseServices 32 = .ok (.istore_n 3, 1) := by decide +kernel
theorem dX2_chooseServices_33 : decode cX2_chooseServices 33 = .ok (.aload_n 0, 1) := by decide +kernel
theorem dX2_chooseServices_34 : decode cX2_chooseServices 34 = .ok (.getfield 23, 3) := by decide +kernel
theorem dX2_chooseServices_37 : decode cX2_chooseServices 37 = .ok (.iload_n 1, 1) := by decide +kernel
theorem dX2_chooseServices_38 : decode cX2_chooseServices 38 = .ok (.iaload, 1) := by decide +kernel
theorem dX2_chooseServices_39 : decode cX2_chooseServices 39 = .ok (.istore 4, 2) := by decide +kernel
theorem dX2_chooseServices_41 : decode cX2_chooseServices 41 = .ok (.iconst 0, 1) := by decide +kernel
theorem dX2_chooseServices_42 : decode cX2_chooseServices 42 = .ok (.istore 5, 2) := by decide +kernel
theorem dX2_chooseServices_44 : decode cX2_chooseServices 44 = .ok (.iconst 0, 1) := by decide +kernel
theorem dX2_chooseServices_45 : decode cX2_chooseServices 45 = .ok (.istore 6, 2) := by decide +kernel
theorem dX2_chooseServices_47 : decode cX2_chooseServices 47 = .ok (.iload 6, 2) := by decide +kernel
theorem dX2_chooseServices_49 : decode cX2_chooseServices 49 = .ok (.iconst 4, 1) := by decide +kernel
theorem dX2_chooseServices_50 : decode cX2_chooseServices 50 = .ok (.if_icmp .ge 58, 3) := by decide +kernel
theorem dX2_chooseServices_53 : decode cX2_chooseServices 53 = .ok (.iload 5, 2) := by decide +kernel
theorem dX2_chooseServices_55 : decode cX2_chooseServices 55 = .ok (.ifCond .ne 53, 3) := by decide +kernel
theorem dX2_chooseServices_58 : decode cX2_chooseServices 58 = .ok (.aload_n 0, 1) := by decide +kernel
theorem dX2_chooseServices_59 : decode cX2_chooseServices 59 = .ok (.getfield 23, 3) := by decide +kernel
theorem dX2_chooseServices_62 : decode cX2_chooseServices 62 = .ok (.iload_n 1, 1) := by decide +kernel
theorem dX2_chooseServices_63 : decode cX2_chooseServices 63 = .ok (.iload 4, 2) := by decide +kernel
theorem dX2_chooseServices_65 : decode cX2_chooseServices 65 = .ok (.iload 6, 2) := by decide +kernel
theorem dX2_chooseServices_67 : decode cX2_chooseServices 67 = .ok (.invokestatic 90, 3) := by decide +kernel
theorem dX2_chooseServices_70 : decode cX2_chooseServices 70 = .ok (.iand, 1) := by decide +kernel
theorem dX2_chooseServices_71 : decode cX2_chooseServices 71 = .ok (.iastore, 1) := by decide +kernel
theorem dX2_chooseServices_72 : decode cX2_chooseServices 72 = .ok (.aload_n 0, 1) := by decide +kernel
theorem dX2_chooseServices_73 : decode cX2_chooseServices 73 = .ok (.aload_n 0, 1) := by decide +kernel
theorem dX2_chooseServices_74 : decode cX2_chooseServices 74 = .ok (.getfield 19, 3) := by decide +kernel
theorem dX2_chooseServices_77 : decode cX2_chooseServices 77 = .ok (.iload_n 1, 1) := by decide +kernel
theorem dX2_chooseServices_78 : decode cX2_chooseServices 78 = .ok (.iaload, 1) := by decide +kernel
theorem dX2_chooseServices_79 : decode cX2_chooseServices 79 = .ok (.iload_n 2, 1) := by decide +kernel
theorem dX2_chooseServices_80 : decode cX2_chooseServices 80 = .ok (.invokevirtual 46, 3) := by decide +kernel
theorem dX2_chooseServices_83 : decode cX2_chooseServices 83 = .ok (.iload_n 3, 1) := by decide +kernel
theorem dX2_chooseServices_84 : decode cX2_chooseServices 84 = .ok (.if_icmp .ne 7, 3) := by decide +kernel
theorem dX2_chooseServices_87 : decode cX2_chooseServices 87 = .ok (.iconst 1, 1) := by decide +kernel
theorem dX2_chooseServices_88 : decode cX2_chooseServices 88 = .ok (.goto 4, 3) := by decide +kernel
theorem dX2_chooseServices_91 : decode cX2_chooseServices 91 = .ok (.iconst 0, 1) := by decide +kernel
theorem dX2_chooseServices_92 : decode cX2_chooseServices 92 = .ok (.istore 5, 2) := by decide +kernel
theorem dX2_chooseServices_94 : decode cX2_chooseServices 94 = .ok (.aload_n 0, 1) := by decide +kernel
theorem dX2_chooseServices_95 : decode cX2_chooseServices 95 = .ok (.getfield 29, 3) := by decide +kernel
theorem dX2_chooseServices_98 : decode cX2_chooseServices 98 = .ok (.iload_n 1, 1) := by decide +kernel
theorem dX2_chooseServices_99 : decode cX2_chooseServices 99 = .ok (.iload 6, 2) := by decide +kernel
theorem dX2_chooseServices_101 : decode cX2_chooseServices 101 = .ok (.iastore, 1) := by decide +kernel
theorem dX2_chooseServices_102 : decode cX2_chooseServices 102 = .ok (.iinc 6 1, 3) := by decide +kernel
theorem dX2_chooseServices_105 : decode cX2_chooseServices 105 = .ok (.goto (-58), 3) := by decide +kernel
theorem dX2_chooseServices_108 : decode cX2_chooseServices 108 = .ok (.iinc 1 1, 3) := by decide +kernel
theorem dX2_chooseServices_111 : decode cX2_chooseServices 111 = .ok (.goto (-109), 3) := by decide +kernel
theorem dX2_chooseServices_114 : decode cX2_chooseServices 114 = .ok (.return_, 1) := by decide +kernel
set_option maxRecDepth 20000 in
theorem ggX2_hopsAt_X4_bit : GoodIn wsX2_hopsAt wsX4_bit := goodIn_r _ [7] (by decide +kernel) (by decide +kernel)
set_option maxRecDepth 20000 in
theorem gX2_hopsAt_X4_bit_n90 : GoodIn wsX2_hopsAt (wsX4_bit) := ggX2_hopsAt_X4_bit
set_option maxRecDepth 20000 in
theorem ggX2_hopsAt_J6_bitCount_0f7a4 : GoodIn wsX2_hopsAt wsJ6_bitCount_0f7a4 := goodIn_r _ [11, 12, 13, 14] (by decide +kernel) (by decide +kernel)
set_option maxRecDepth 20000 in
theorem gX2_hopsAt_J6_bitCount_0f7a4 : GoodIn wsX2_hopsAt (va_wsS RX2 93 yJ6_bitCount_0f7a4 wsJ6_bitCount_0f7a4) := goodIn_app (goodIn_of _ (by decide +kernel)) ggX2_hopsAt_J6_bitCount_0f7a4
set_option maxRecDepth 20000 in
theorem ggX2_hopsAt_X2_hopsUnder : GoodIn wsX2_hopsAt wsX2_hopsUnder := goodIn_r _ [19, 20, 21, 22, 23, 1, 2, 3, 4, 5, 6, 7, 24, 25, 26, 27, 28, 29, 30, 31, 32, 33] (by decide +kernel) (by decide +kernel)
set_option maxRecDepth 20000 in
theorem gX2_hopsAt_X2_hopsUnder : GoodIn wsX2_hopsAt (wsV RX2 98 RX2 yX2_hopsUnder wsX2_hopsUnder) := goodIn_app (goodIn_of _ (by decide +kernel)) ggX2_hopsAt_X2_hopsUnder
theorem dX2_hopsAt_0 : decode cX2_hopsAt 0 = .ok (.sipush 1000, 3) := by decide +kernel
theorem dX2_hopsAt_3 : decode cX2_hopsAt 3 = .ok (.istore_n 3, 1) := by decide +kernel
theorem dX2_hopsAt_4 : decode cX2_hopsAt 4 = .ok (.iconst 0, 1) := by decide +kernel
theorem dX2_hopsAt_5 : decode cX2_hopsAt 5 = .ok (.istore 4, 2) := by decide +kernel
theorem dX2_hopsAt_7 : decode cX2_hopsAt 7 = .ok (.iload 4, 2) := by decide +kernel
theorem dX2_hopsAt_9 : decode cX2_hopsAt 9 = .ok (.bipush 16, 2) := by decide +kernel
theorem dX2_hopsAt_11 : decode cX2_hopsAt 11 = .ok (.if_icmp .ge 42, 3) := by decide +kernel
theorem dX2_hopsAt_14 : decode cX2_hopsAt 14 = .ok (.iload_n 3, 1) := by decide +kernel
theorem dX2_hopsAt_15 : decode cX2_hopsAt 15 = .ok (.ifCond .le 38, 3) := by decide +kernel
theorem dX2_hopsAt_18 : decode cX2_hopsAt 18 = .ok (.iload 4, 2) := by decide +kernel
theorem dX2_hopsAt_20 : decode cX2_hopsAt 20 = .ok (.iload_n 2, 1) := by decide +kernel
theorem dX2_hopsAt_21 : decode cX2_hopsAt 21 = .ok (.invokestatic 90, 3) := by decide +kernel
theorem dX2_hopsAt_24 : decode cX2_hopsAt 24 = .ok (.iconst (-1), 1) := by decide +kernel
theorem dX2_hopsAt_25 : decode cX2_hopsAt 25 = .ok (.ixor, 1) := by decide +kernel
theorem dX2_hopsAt_26 : decode cX2_hopsAt 26 = .ok (.iand, 1) := by decide +kernel
theorem dX2_hopsAt_27 : decode cX2_hopsAt 27 = .ok (.invokestatic 93, 3) := by decide +kernel
theorem dX2_hopsAt_30 : decode cX2_hopsAt 30 = .ok (.aload_n 0, 1) := by decide +kernel
theorem dX2_hopsAt_31 : decode cX2_hopsAt 31 = .ok (.iload_n 1, 1) := by decide +kernel
theorem dX2_hopsAt_32 : decode cX2_hopsAt 32 = .ok (.iload 4, 2) := by decide +kernel
theorem dX2_hopsAt_34 : decode cX2_hopsAt 34 = .ok (.invokevirtual 98, 3) := by decide +kernel
theorem dX2_hopsAt_37 : decode cX2_hopsAt 37 = .ok (.iadd, 1) := by decide +kernel
theorem dX2_hopsAt_38 : decode cX2_hopsAt 38 = .ok (.istore 5, 2) := by decide +kernel
theorem dX2_hopsAt_40 : decode cX2_hopsAt 40 = .ok (.iload_n 3, 1) := by decide +kernel
theorem dX2_hopsAt_41 : decode cX2_hopsAt 41 = .ok (.iload 5, 2) := by decide +kernel
theorem dX2_hopsAt_43 : decode cX2_hopsAt 43 = .ok (.invokestatic 67, 3) := by decide +kernel
theorem dX2_hopsAt_46 : decode cX2_hopsAt 46 = .ok (.istore_n 3, 1) := by decide +kernel
theorem dX2_hopsAt_47 : decode cX2_hopsAt 47 = .ok (.iinc 4 1, 3) := by decide +kernel
theorem dX2_hopsAt_50 : decode cX2_hopsAt 50 = .ok (.goto (-43), 3) := by decide +kernel
theorem dX2_hopsAt_53 : decode cX2_hopsAt 53 = .ok (.iload_n 3, 1) := by decide +kernel
theorem dX2_hopsAt_54 : decode cX2_hopsAt 54 = .ok (.ireturn, 1) := by decide +kernel
set_option maxRecDepth 20000 in
theorem ggX2_hopsUnder_X4_bit : GoodIn wsX2_hopsUnder wsX4_bit := goodIn_r _ [11] (by decide +kernel) (by decide +kernel)
set_option maxRecDepth 20000 in
theorem gX2_hopsUnder_X4_bit_n90 : GoodIn wsX2_hopsUnder (wsX4_bit) := ggX2_hopsUnder_X4_bit
theorem dX2_hopsUnder_0 : decode cX2_hopsUnder 0 = .ok (.iconst 0, 1) := by decide +kernel
theorem dX2_hopsUnder_1 : decode cX2_hopsUnder 1 = .ok (.istore_n 3, 1) := by decide +kernel
theorem dX2_hopsUnder_2 : decode cX2_hopsUnder 2 = .ok (.iconst 0, 1) := by decide +kernel
theorem dX2_hopsUnder_3 : decode cX2_hopsUnder 3 = .ok (.istore 4, 2) := by decide +kernel
theorem dX2_hopsUnder_5 : decode cX2_hopsUnder 5 = .ok (.iload 4, 2) := by decide +kernel
theorem dX2_hopsUnder_7 : decode cX2_hopsUnder 7 = .ok (.aload_n 0, 1) := by decide +kernel
theorem dX2_hopsUnder_8 : decode cX2_hopsUnder 8 = .ok (.getfield 72, 3) := by decide +kernel
theorem dX2_hopsUnder_11 : decode cX2_hopsUnder 11 = .ok (.if_icmp .ge 82, 3) := by decide +kernel
theorem dX2_hopsUnder_14 : decode cX2_hopsUnder 14 = .ok (.aload_n 0, 1) := by decide +kernel
theorem dX2_hopsUnder_15 : decode cX2_hopsUnder 15 = .ok (.getfield 19, 3) := by decide +kernel
theorem dX2_hopsUnder_18 : decode cX2_hopsUnder 18 = .ok (.iload 4, 2) := by decide +kernel
theorem dX2_hopsUnder_20 : decode cX2_hopsUnder 20 = .ok (.iaload, 1) := by decide +kernel
theorem dX2_hopsUnder_21 : decode cX2_hopsUnder 21 = .ok (.iload_n 1, 1) := by decide +kernel
theorem dX2_hopsUnder_22 : decode cX2_hopsUnder 22 = .ok (.if_icmp .ne 65, 3) := by decide +kernel
theorem dX2_hopsUnder_25 : decode cX2_hopsUnder 25 = .ok (.sipush 1000, 3) := by decide +kernel
theorem dX2_hopsUnder_28 : decode cX2_hopsUnder 28 = .ok (.istore 5, 2) := by decide +kernel
theorem dX2_hopsUnder_30 : decode cX2_hopsUnder 30 = .ok (.iconst 0, 1) := by decide +kernel
theorem dX2_hopsUnder_31 : decode cX2_hopsUnder 31 = .ok (.istore 6, 2) := by decide +kernel
theorem dX2_hopsUnder_33 : decode cX2_hopsUnder 33 = .ok (.iload 6, 2) := by decide +kernel
theorem dX2_hopsUnder_35 : decode cX2_hopsUnder 35 = .ok (.iconst 4, 1) := by decide +kernel
theorem dX2_hopsUnder_36 : decode cX2_hopsUnder 36 = .ok (.if_icmp .ge 46, 3) := by decide +kernel
theorem dX2_hopsUnder_39 : decode cX2_hopsUnder 39 = .ok (.iload_n 2, 1) := by decide +kernel
theorem dX2_hopsUnder_40 : decode cX2_hopsUnder 40 = .ok (.aload_n 0, 1) := by decide +kernel
theorem dX2_hopsUnder_41 : decode cX2_hopsUnder 41 = .ok (.getfield 23, 3) := by decide +kernel
theorem dX2_hopsUnder_44 : decode cX2_hopsUnder 44 = .ok (.iload 4, 2) := by decide +kernel
theorem dX2_hopsUnder_46 : decode cX2_hopsUnder 46 = .ok (.iaload, 1) := by decide +kernel
theorem dX2_hopsUnder_47 : decode cX2_hopsUnder 47 = .ok (.iand, 1) := by decide +kernel
theorem dX2_hopsUnder_48 : decode cX2_hopsUnder 48 = .ok (.iload 6, 2) := by decide +kernel
theorem dX2_hopsUnder_50 : decode cX2_hopsUnder 50 = .ok (.invokestatic 90, 3) := by decide +kernel
theorem dX2_hopsUnder_53 : decode cX2_hopsUnder 53 = .ok (.iand, 1) := by decide +kernel
theorem dX2_hopsUnder_54 : decode cX2_hopsUnder 54 = .ok (.ifCond .eq 22, 3) := by decide +kernel
theorem dX2_hopsUnder_57 : decode cX2_hopsUnder 57 = .ok (.iload 5, 2) := by decide +kernel
theorem dX2_hopsUnder_59 : decode cX2_hopsUnder 59 = .ok (.aload_n 0, 1) := by decide +kernel
theorem dX2_hopsUnder_60 : decode cX2_hopsUnder 60 = .ok (.getfield 26, 3) := by decide +kernel
theorem dX2_hopsUnder_63 : decode cX2_hopsUnder 63 = .ok (.iload 4, 2) := by decide +kernel
theorem dX2_hopsUnder_65 : decode cX2_hopsUnder 65 = .ok (.iconst 4, 1) := by decide +kernel
theorem dX2_hopsUnder_66 : decode cX2_hopsUnder 66 = .ok (.imul, 1) := by decide +kernel
theorem dX2_hopsUnder_67 : decode cX2_hopsUnder 67 = .ok (.iload 6, 2) := by decide +kernel
theorem dX2_hopsUnder_69 : decode cX2_hopsUnder 69 = .ok (.iadd, 1) := by decide +kernel
theorem dX2_hopsUnder_70 : decode cX2_hopsUnder 70 = .ok (.iaload, 1) := by decide +kernel
theorem dX2_hopsUnder_71 : decode cX2_hopsUnder 71 = .ok (.invokestatic 67, 3) := by decide +kernel
theorem dX2_hopsUnder_74 : decode cX2_hopsUnder 74 = .ok (.istore 5, 2) := by decide +kernel
theorem dX2_hopsUnder_76 : decode cX2_hopsUnder 76 = .ok (.iinc 6 1, 3) := by decide +kernel
theorem dX2_hopsUnder_79 : decode cX2_hopsUnder 79 = .ok (.goto (-46), 3) := by decide +kernel
theorem dX2_hopsUnder_82 : decode cX2_hopsUnder 82 = .ok (.iload_n 3, 1) := by decide +kernel
theorem dX2_hopsUnder_83 : decode cX2_hopsUnder 83 = .ok (.iload 5, 2) := by decide +kernel
theorem dX2_hopsUnder_85 : decode cX2_hopsUnder 85 = .ok (.iadd, 1) := by decide +kernel
theorem dX2_hopsUnder_86 : decode cX2_hopsUnder 86 = .ok (.istore_n 3, 1) := by decide +kernel
theorem dX2_hopsUnder_87 : decode cX2_hopsUnder 87 = .ok (.iinc 4 1, 3) := by decide +kernel
theorem dX2_hopsUnder_90 : decode cX2_hopsUnder 90 = .ok (.goto (-85), 3) := by decide +kernel
theorem dX2_hopsUnder_93 : decode cX2_hopsUnder 93 = .ok (.iload_n 3, 1) := by decide +kernel
theorem dX2_hopsUnder_94 : decode cX2_hopsUnder 94 = .ok (.ireturn, 1) := by decide +kernel
theorem dX3_init_0 : decode cX3_init 0 = .ok (.aload_n 0, 1) := by decide +kernel
theorem dX3_init_1 : decode cX3_init 1 = .ok (.invokespecial 3, 3) := by decide +kernel
theorem dX3_init_4 : decode cX3_init 4 = .ok (.aload_n 0, 1) := by decide +kernel
theorem dX3_init_5 : decode cX3_init 5 = .ok (.bipush 12, 2) := by decide +kernel
theorem dX3_init_7 : decode cX3_init 7 = .ok (.newarray .int, 2) := by decide +kernel
theorem dX3_init_9 : decode cX3_init 9 = .ok (.putfield 9, 3) := by decide +kernel
theorem dX3_init_12 : decode cX3_init 12 = .ok (.aload_n 0, 1) := by decide +kernel
theorem dX3_init_13 : decode cX3_init 13 = .ok (.bipush 12, 2) := by decide +kernel
theorem dX3_init_15 : decode cX3_init 15 = .ok (.newarray .int, 2) := by decide +kernel
theorem dX3_init_17 : decode cX3_init 17 = .ok (.putfield 15, 3) := by decide +kernel
theorem dX3_init_20 : decode cX3_init 20 = .ok (.return_, 1) := by decide +kernel
theorem dX3_restart_0 : decode cX3_restart 0 = .ok (.aload_n 0, 1) := by decide +kernel
theorem dX3_restart_1 : decode cX3_restart 1 = .ok (.getfield 18, 3) := by decide +kernel
theorem dX3_restart_4 : decode cX3_restart 4 = .ok (.istore_n 2, 1) := by decide +kernel
theorem dX3_restart_5 : decode cX3_restart 5 = .ok (.aload_n 0, 1) := by decide +kernel
theorem dX3_restart_6 : decode cX3_restart 6 = .ok (.iload_n 1, 1) := by decide +kernel
theorem dX3_restart_7 : decode cX3_restart 7 = .ok (.putfield 22, 3) := by decide +kernel
theorem dX3_restart_10 : decode cX3_restart 10 = .ok (.aload_n 0, 1) := by decide +kernel
theorem dX3_restart_11 : decode cX3_restart 11 = .ok (.iconst 0, 1) := by decide +kernel
theorem dX3_restart_12 : decode cX3_restart 12 = .ok (.putfield 18, 3) := by decide +kernel
theorem dX3_restart_15 : decode cX3_restart 15 = .ok (.iload_n 2, 1) := by decide +kernel
theorem dX3_restart_16 : decode cX3_restart 16 = .ok (.ireturn, 1) := by decide +kernel
theorem dX3_type_0 : decode cX3_type 0 = .ok (.aload_n 0, 1) := by decide +kernel
theorem dX3_type_1 : decode cX3_type 1 = .ok (.getfield 22, 3) := by decide +kernel
theorem dX3_type_4 : decode cX3_type 4 = .ok (.ireturn, 1) := by decide +kernel
theorem dX3_size_0 : decode cX3_size 0 = .ok (.aload_n 0, 1) := by decide +kernel
theorem dX3_size_1 : decode cX3_size 1 = .ok (.getfield 18, 3) := by decide +kernel
theorem dX3_size_4 : decode cX3_size 4 = .ok (.ireturn, 1) := by decide +kernel
theorem dX3_has_0 : decode cX3_has 0 = .ok (.iload_n 1, 1) := by decide +kernel
theorem dX3_has_1 : decode cX3_has 1 = .ok (.ifCond .lt 21, 3) := by decide +kernel
theorem dX3_has_4 : decode cX3_has 4 = .ok (.iload_n 1, 1) := by decide +kernel
theorem dX3_has_5 : decode cX3_has 5 = .ok (.aload_n 0, 1) := by decide +kernel
theorem dX3_has_6 : decode cX3_has 6 = .ok (.getfield 18, 3) := by decide +kernel
theorem dX3_has_9 : decode cX3_has 9 = .ok (.if_icmp .ge 13, 3) := by decide +kernel
theorem dX3_has_12 : decode cX3_has 12 = .ok (.iload_n 1, 1) := by decide +kernel
theorem dX3_has_13 : decode cX3_has 13 = .ok (.bipush 12, 2) := by decide +kernel
theorem dX3_has_15 : decode cX3_has 15 = .ok (.if_icmp .ge 7, 3) := by decide +kernel
theorem dX3_has_18 : decode cX3_has 18 = .ok (.iconst 1, 1) := by decide +kernel
theorem dX3_has_19 : decode cX3_has 19 = .ok (.goto 4, 3) := by decide +kernel
theorem dX3_has_22 : decode cX3_has 22 = .ok (.iconst 0, 1) := by decide +kernel
theorem dX3_has_23 : decode cX3_has 23 = .ok (.ireturn, 1) := by decide +kernel
set_option maxRecDepth 20000 in
theorem ggX3_aboveOf_X3_has : GoodIn wsX3_aboveOf wsX3_has := goodIn_r _ [6, 7, 8, 9, 10, 11] (by decide +kernel) (by decide +kernel)
set_option maxRecDepth 20000 in
theorem gX3_aboveOf_X3_has : GoodIn wsX3_aboveOf (wsV RX3 25 RX3 yX3_has wsX3_has) := goodIn_app (goodIn_of _ (by decide +kernel)) ggX3_aboveOf_X3_has
theorem dX3_aboveOf_0 : decode cX3_aboveOf 0 = .ok (.aload_n 0, 1) := by decide +kernel
theorem dX3_aboveOf_1 : decode cX3_aboveOf 1 = .ok (.iload_n 1, 1) := by decide +kernel
theorem dX3_aboveOf_2 : decode cX3_aboveOf 2 = .ok (.invokevirtual 25, 3) := by decide +kernel
theorem dX3_aboveOf_5 : decode cX3_aboveOf 5 = .ok (.ifCond .eq 12, 3) := by decide +kernel
theorem dX3_aboveOf_8 : decode cX3_aboveOf 8 = .ok (.aload_n 0, 1) := by decide +kernel
theorem dX3_aboveOf_9 : decode cX3_aboveOf 9 = .ok (.getfield 9, 3) := by decide +kernel
theorem dX3_aboveOf_12 : decode cX3_aboveOf 12 = .ok (.iload_n 1, 1) := by decide +kernel
theorem dX3_aboveOf_13 : decode cX3_aboveOf 13 = .ok (.iaload, 1) := by decide +kernel
theorem dX3_aboveOf_14 : decode cX3_aboveOf 14 = .ok (.goto 4, 3) := by decide +kernel
theorem dX3_aboveOf_17 : decode cX3_aboveOf 17 = .ok (.iconst (-1), 1) := by decide +kernel
theorem dX3_aboveOf_18 : decode cX3_aboveOf 18 = .ok (.ireturn, 1) := by decide +kernel
set_option maxRecDepth 20000 in
theorem ggX3_slotAt_X3_has : GoodIn wsX3_slotAt wsX3_has := goodIn_r _ [6, 7, 8, 9, 10, 11] (by decide +kernel) (by decide +kernel)
set_option maxRecDepth 20000 in
theorem gX3_slotAt_X3_has : GoodIn wsX3_slotAt (wsV RX3 25 RX3 yX3_has wsX3_has) := goodIn_app (goodIn_of _ (by decide +kernel)) ggX3_slotAt_X3_has
theorem dX3_slotAt_0 : decode cX3_slotAt 0 = .ok (.aload_n 0, 1) := by decide +kernel
theorem dX3_slotAt_1 : decode cX3_slotAt 1 = .ok (.iload_n 1, 1) := by decide +kernel
theorem dX3_slotAt_2 : decode cX3_slotAt 2 = .ok (.invokevirtual 25, 3) := by decide +kernel
theorem dX3_slotAt_5 : decode cX3_slotAt 5 = .ok (.ifCond .eq 12, 3) := by decide +kernel
theorem dX3_slotAt_8 : decode cX3_slotAt 8 = .ok (.aload_n 0, 1) := by decide +kernel
theorem dX3_slotAt_9 : decode cX3_slotAt 9 = .ok (.getfield 15, 3) := by decide +kernel
theorem dX3_slotAt_12 : decode cX3_slotAt 12 = .ok (.iload_n 1, 1) := by decide +kernel
theorem dX3_slotAt_13 : decode cX3_slotAt 13 = .ok (.iaload, 1) := by decide +kernel
theorem dX3_slotAt_14 : decode cX3_slotAt 14 = .ok (.goto 4, 3) := by decide +kernel
theorem dX3_slotAt_17 : decode cX3_slotAt 17 = .ok (.iconst (-1), 1) := by decide +kernel
theorem dX3_slotAt_18 : decode cX3_slotAt 18 = .ok (.ireturn, 1) := by decide +kernel
set_option maxRecDepth 20000 in
theorem ggX3_hasRoom_X3_aboveOf : GoodIn wsX3_hasRoom wsX3_aboveOf := goodIn_r _ [6, 7, 8, 9, 10, 5, 11, 1, 17, 18, 19, 20] (by decide +kernel) (by decide +kernel)
set_option maxRecDepth 20000 in
theorem gX3_hasRoom_X3_aboveOf : GoodIn wsX3_hasRoom (wsV RX3 29 RX3 yX3_aboveOf wsX3_aboveOf) := goodIn_app (goodIn_of _ (by decide +kernel)) ggX3_hasRoom_X3_aboveOf
set_option maxRecDepth 20000 in
theorem ggX3_hasRoom_X3_slotAt : GoodIn wsX3_hasRoom wsX3_slotAt := goodIn_r _ [15, 16, 8, 9, 10, 5, 11, 1, 17, 18, 19, 20] (by decide +kernel) (by decide +kernel)
set_option maxRecDepth 20000 in
theorem gX3_hasRoom_X3_slotAt : GoodIn wsX3_hasRoom (wsV RX3 33 RX3 yX3_slotAt wsX3_slotAt) := goodIn_app (goodIn_of _ (by decide +kernel)) ggX3_hasRoom_X3_slotAt
theorem dX3_hasRoom_0 : decode cX3_hasRoom 0 = .ok (.iconst 0, 1) := by decide +kernel
theorem dX3_hasRoom_1 : decode cX3_hasRoom 1 = .ok (.istore_n 3, 1) := by decide +kernel
theorem dX3_hasRoom_2 : decode cX3_hasRoom 2 = .ok (.iconst 0, 1) := by decide +kernel
theorem dX3_hasRoom_3 : decode cX3_hasRoom 3 = .ok (.istore 4, 2) := by decide +kernel
theorem dX3_hasRoom_5 : decode cX3_hasRoom 5 = .ok (.iload 4, 2) := by decide +kernel
theorem dX3_hasRoom_7 : decode cX3_hasRoom 7 = .ok (.aload_n 0, 1) := by decide +kernel
theorem dX3_hasRoom_8 : decode cX3_hasRoom 8 = .ok (.getfield 18, 3) := by decide +kernel
theorem dX3_hasRoom_11 : decode cX3_hasRoom 11 = .ok (.if_icmp .ge 34, 3) := by decide +kernel
theorem dX3_hasRoom_14 : decode cX3_hasRoom 14 = .ok (.aload_n 0, 1) := by decide +kernel
theorem dX3_hasRoom_15 : decode cX3_hasRoom 15 = .ok (.iload 4, 2) := by decide +kernel
theorem dX3_hasRoom_17 : decode cX3_hasRoom 17 = .ok (.invokevirtual 29, 3) := by decide +kernel
theorem dX3_hasRoom_20 : decode cX3_hasRoom 20 = .ok (.iload_n 1, 1) := by decide +kernel
theorem dX3_hasRoom_21 : decode cX3_hasRoom 21 = .ok (.if_icmp .ne 18, 3) := by decide +kernel
theorem dX3_hasRoom_24 : decode cX3_hasRoom 24 = .ok (.iinc 3 1, 3) := by decide +kernel
theorem dX3_hasRoom_27 : decode cX3_hasRoom 27 = .ok (.aload_n 0, 1) := by decide +kernel
theorem dX3_hasRoom_28 : decode cX3_hasRoom 28 = .ok (.iload 4, 2) := by decide +kernel
theorem dX3_hasRoom_30 : decode cX3_hasRoom 30 = .ok (.invokevirtual 33, 3) := by decide +kernel
theorem dX3_hasRoom_33 : decode cX3_hasRoom 33 = .ok (.iload_n 2, 1) := by decide +kernel
theorem dX3_hasRoom_34 : decode cX3_hasRoom 34 = .ok (.if_icmp .ne 5, 3) := by decide +kernel
theorem dX3_hasRoom_37 : decode cX3_hasRoom 37 = .ok (.iconst 0, 1) := by decide +kernel
theorem dX3_hasRoom_38 : decode cX3_hasRoom 38 = .ok (.ireturn, 1) := by decide +kernel
theorem dX3_hasRoom_39 : decode cX3_hasRoom 39 = .ok (.iinc 4 1, 3) := by decide +kernel
theorem dX3_hasRoom_42 : decode cX3_hasRoom 42 = .ok (.goto (-37), 3) := by decide +kernel
theorem dX3_hasRoom_45 : decode cX3_hasRoom 45 = .ok (.aload_n 0, 1) := by decide +kernel
theorem dX3_hasRoom_46 : decode cX3_hasRoom 46 = .ok (.getfield 18, 3) := by decide +kernel
theorem dX3_hasRoom_49 : decode cX3_hasRoom 49 = .ok (.bipush 12, 2) := by decide +kernel
theorem dX3_hasRoom_51 : decode cX3_hasRoom 51 = .ok (.if_icmp .ge 12, 3) := by decide +kernel
theorem dX3_hasRoom_54 : decode cX3_hasRoom 54 = .ok (.iload_n 3, 1) := by decide +kernel
theorem dX3_hasRoom_55 : decode cX3_hasRoom 55 = .ok (.iconst 4, 1) := by decide +kernel
theorem dX3_hasRoom_56 : decode cX3_hasRoom 56 = .ok (.if_icmp .ge 7, 3) := by decide +kernel
theorem dX3_hasRoom_59 : decode cX3_hasRoom 59 = .ok (.iconst 1, 1) := by decide +kernel
theorem dX3_hasRoom_60 : decode cX3_hasRoom 60 = .ok (.goto 4, 3) := by decide +kernel
theorem dX3_hasRoom_63 : decode cX3_hasRoom 63 = .ok (.iconst 0, 1) := by decide +kernel
theorem dX3_hasRoom_64 : decode cX3_hasRoom 64 = .ok (.ireturn, 1) := by decide +kernel
theorem dX3_append_0 : decode cX3_append 0 = .ok (.aload_n 0, 1) := by decide +kernel
theorem dX3_append_1 : decode cX3_append 1 = .ok (.getfield 18, 3) := by decide +kernel
theorem dX3_append_4 : decode cX3_append 4 = .ok (.ifCond .lt 12, 3) := by decide +kernel
theorem dX3_append_7 : decode cX3_append 7 = .ok (.aload_n 0, 1) := by decide +kernel
theorem dX3_append_8 : decode cX3_append 8 = .ok (.getfield 18, 3) := by decide +kernel
theorem dX3_append_11 : decode cX3_append 11 = .ok (.bipush 12, 2) := by decide +kernel
theorem dX3_append_13 : decode cX3_append 13 = .ok (.if_icmp .lt 5, 3) := by decide +kernel
theorem dX3_append_16 : decode cX3_append 16 = .ok (.iconst (-1), 1) := by decide +kernel
theorem dX3_append_17 : decode cX3_append 17 = .ok (.ireturn, 1) := by decide +kernel
theorem dX3_append_18 : decode cX3_append 18 = .ok (.aload_n 0, 1) := by decide +kernel
theorem dX3_append_19 : decode cX3_append 19 = .ok (.getfield 18, 3) := by decide +kernel
theorem dX3_append_22 : decode cX3_append 22 = .ok (.istore_n 3, 1) := by decide +kernel
theorem dX3_append_23 : decode cX3_append 23 = .ok (.aload_n 0, 1) := by decide +kernel
theorem dX3_append_24 : decode cX3_append 24 = .ok (.getfield 9, 3) := by decide +kernel
theorem dX3_append_27 : decode cX3_append 27 = .ok (.iload_n 3, 1) := by decide +kernel
theorem dX3_append_28 : decode cX3_append 28 = .ok (.iload_n 1, 1) := by decide +kernel
theorem dX3_append_29 : decode cX3_append 29 = .ok (.iastore, 1) := by decide +kernel
theorem dX3_append_30 : decode cX3_append 30 = .ok (.aload_n 0, 1) := by decide +kernel
theorem dX3_append_31 : decode cX3_append 31 = .ok (.getfield 15, 3) := by decide +kernel
theorem dX3_append_34 : decode cX3_append 34 = .ok (.iload_n 3, 1) := by decide +kernel
theorem dX3_append_35 : decode cX3_append 35 = .ok (.iload_n 2, 1) := by decide +kernel
theorem dX3_append_36 : decode cX3_append 36 = .ok (.iastore, 1) := by decide +kernel
theorem dX3_append_37 : decode cX3_append 37 = .ok (.aload_n 0, 1) := by decide +kernel
theorem dX3_append_38 : decode cX3_append 38 = .ok (.iload_n 3, 1) := by decide +kernel
theorem dX3_append_39 : decode cX3_append 39 = .ok (.iconst 1, 1) := by decide +kernel
theorem dX3_append_40 : decode cX3_append 40 = .ok (.iadd, 1) := by decide +kernel
theorem dX3_append_41 : decode cX3_append 41 = .ok (.putfield 18, 3) := by decide +kernel
theorem dX3_append_44 : decode cX3_append 44 = .ok (.iload_n 3, 1) := by decide +kernel
theorem dX3_append_45 : decode cX3_append 45 = .ok (.ireturn, 1) := by decide +kernel
set_option maxRecDepth 20000 in
theorem ggX4_init_X1_init : GoodIn wsX4_init wsX1_init := goodIn_r _ [23, 24, 2, 3, 25, 26, 27, 28, 29, 30, 31, 32, 33, 34, 35, 62, 63, 64, 65, 66, 67] (by decide +kernel) (by decide +kernel)
set_option maxRecDepth 20000 in
theorem gX4_init_X1_init : GoodIn wsX4_init (wsX1_init) := ggX4_init_X1_init
set_option maxRecDepth 20000 in
theorem ggX4_init_X3_init : GoodIn wsX4_init wsX3_init := goodIn_r _ [38, 39, 2, 3, 25, 40, 41, 68, 69, 70, 71] (by decide +kernel) (by decide +kernel)
set_option maxRecDepth 20000 in
theorem gX4_init_X3_init : GoodIn wsX4_init (wsX3_init) := ggX4_init_X3_init
set_option maxRecDepth 20000 in
theorem ggX4_init_X2_init : GoodIn wsX4_init wsX2_init := goodIn_r _ [44, 45, 2, 3, 46, 47, 25, 48, 49, 50, 51, 72, 73, 74, 75, 76, 77, 78, 79, 80, 81] (by decide +kernel) (by decide +kernel)
set_option maxRecDepth 20000 in
theorem gX4_init_X2_init : GoodIn wsX4_init (wsX2_init) := ggX4_init_X2_init
set_option maxRecDepth 20000 in
theorem ggX4_init_X0_init : GoodIn wsX4_init wsX0_init := goodIn_r _ [54, 55, 2, 3, 56, 57, 58, 25, 59, 60, 28, 61, 87, 88, 89, 90, 91, 92, 93] (by decide +kernel) (by decide +kernel)
set_option maxRecDepth 20000 in
theorem gX4_init_X0_init : GoodIn wsX4_init (wsX0_init) := ggX4_init_X0_init
theorem dX4_init_0 : decode cX4_init 0 = .ok (.aload_n 0, 1) := by decide +kernel
theorem dX4_init_1 : decode cX4_init 1 = .ok (.invokespecial 3, 3) := by decide +kernel
theorem dX4_init_4 : decode cX4_init 4 = .ok (.new 9, 3) := by decide +kernel
theorem dX4_init_7 : decode cX4_init 7 = .ok (.dup, 1) := by decide +kernel
theorem dX4_init_8 : decode cX4_init 8 = .ok (.invokespecial 11, 3) := by decide +kernel
theorem dX4_init_11 : decode cX4_init 11 = .ok (.astore_n 1, 1) := by decide +kernel
theorem dX4_init_12 : decode cX4_init 12 = .ok (.new 12, 3) := by decide +kernel
theorem dX4_init_15 : decode cX4_init 15 = .ok (.dup, 1) := by decide +kernel
theorem dX4_init_16 : decode cX4_init 16 = .ok (.invokespecial 14, 3) := by decide +kernel
theorem dX4_init_19 : decode cX4_init 19 = .ok (.astore_n 2, 1) := by decide +kernel
theorem dX4_init_20 : decode cX4_init 20 = .ok (.new 15, 3) := by decide +kernel
theorem dX4_init_23 : decode cX4_init 23 = .ok (.dup, 1) := by decide +kernel
theorem dX4_init_24 : decode cX4_init 24 = .ok (.aload_n 1, 1) := by decide +kernel
theorem dX4_init_25 : decode cX4_init 25 = .ok (.aload_n 2, 1) := by decide +kernel
theorem dX4_init_26 : decode cX4_init 26 = .ok (.invokespecial 17, 3) := by decide +kernel
theorem dX4_init_29 : decode cX4_init 29 = .ok (.astore_n 3, 1) := by decide +kernel
theorem dX4_init_30 : decode cX4_init 30 = .ok (.aload_n 0, 1) := by decide +kernel
theorem dX4_init_31 : decode cX4_init 31 = .ok (.aload_n 1, 1) := by decide +kernel
theorem dX4_init_32 : decode cX4_init 32 = .ok (.putfield 20, 3) := by decide +kernel
theorem dX4_init_35 : decode cX4_init 35 = .ok (.aload_n 0, 1) := by decide +kernel
theorem dX4_init_36 : decode cX4_init 36 = .ok (.aload_n 2, 1) := by decide +kernel
theorem dX4_init_37 : decode cX4_init 37 = .ok (.putfield 24, 3) := by decide +kernel
theorem dX4_init_40 : decode cX4_init 40 = .ok (.aload_n 0, 1) := by decide +kernel
theorem dX4_init_41 : decode cX4_init 41 = .ok (.aload_n 3, 1) := by decide +kernel
theorem dX4_init_42 : decode cX4_init 42 = .ok (.putfield 28, 3) := by decide +kernel
theorem dX4_init_45 : decode cX4_init 45 = .ok (.aload_n 0, 1) := by decide +kernel
theorem dX4_init_46 : decode cX4_init 46 = .ok (.new 32, 3) := by decide +kernel
theorem dX4_init_49 : decode cX4_init 49 = .ok (.dup, 1) := by decide +kernel
theorem dX4_init_50 : decode cX4_init 50 = .ok (.aload_n 1, 1) := by decide +kernel
theorem dX4_init_51 : decode cX4_init 51 = .ok (.aload_n 2, 1) := by decide +kernel
theorem dX4_init_52 : decode cX4_init 52 = .ok (.aload_n 3, 1) := by decide +kernel
theorem dX4_init_53 : decode cX4_init 53 = .ok (.invokespecial 34, 3) := by decide +kernel
theorem dX4_init_56 : decode cX4_init 56 = .ok (.putfield 37, 3) := by decide +kernel
theorem dX4_init_59 : decode cX4_init 59 = .ok (.aload_n 0, 1) := by decide +kernel
theorem dX4_init_60 : decode cX4_init 60 = .ok (.new 32, 3) := by decide +kernel
theorem dX4_init_63 : decode cX4_init 63 = .ok (.dup, 1) := by decide +kernel
theorem dX4_init_64 : decode cX4_init 64 = .ok (.aload_n 1, 1) := by decide +kernel
theorem dX4_init_65 : decode cX4_init 65 = .ok (.aload_n 2, 1) := by decide +kernel
theorem dX4_init_66 : decode cX4_init 66 = .ok (.aload_n 3, 1) := by decide +kernel
theorem dX4_init_67 : decode cX4_init 67 = .ok (.invokespecial 34, 3) := by decide +kernel
theorem dX4_init_70 : decode cX4_init 70 = .ok (.putfield 41, 3) := by decide +kernel
theorem dX4_init_73 : decode cX4_init 73 = .ok (.return_, 1) := by decide +kernel
set_option maxRecDepth 20000 in
theorem ggX4_addField_X4_checkType : GoodIn wsX4_addField wsX4_checkType := goodIn_ca (goodIn_r _ [9, 1, 2, 10, 11, 8, 12] (by decide +kernel) (by decide +kernel)) (goodIn_sub (fun _ h => List.mem_cons_of_mem _ (List.mem_append_left _ (List.mem_append_right _ h))) (by decide +kernel))
set_option maxRecDepth 20000 in
theorem gX4_addField_X4_checkType : GoodIn wsX4_addField (va_wsS RX4 44 yX4_checkType wsX4_checkType) := goodIn_app (goodIn_of _ (by decide +kernel)) ggX4_addField_X4_checkType
set_option maxRecDepth 20000 in
theorem ggX4_addField_X4_isType : GoodIn wsX4_addField wsX4_isType := goodIn_r _ [12] (by decide +kernel) (by decide +kernel)
set_option maxRecDepth 20000 in
theorem gX4_addField_X4_isType : GoodIn wsX4_addField (va_wsS RX4 48 yX4_isType wsX4_isType) := goodIn_app (goodIn_of _ (by decide +kernel)) ggX4_addField_X4_isType
set_option maxRecDepth 20000 in
theorem ggX4_addField_X1_fieldsOf : GoodIn wsX4_addField wsX1_fieldsOf := goodIn_r _ [17, 18, 11, 8, 12, 35, 36, 37, 38, 39, 40] (by decide +kernel) (by decide +kernel)
set_option maxRecDepth 20000 in
theorem gX4_addField_X1_fieldsOf : GoodIn wsX4_addField (wsV RX4 59 RX1 yX1_fieldsOf wsX1_fieldsOf) := goodIn_app (goodIn_of _ (by decide +kernel)) ggX4_addField_X1_fieldsOf
set_option maxRecDepth 20000 in
theorem ggX4_addField_X1_append : GoodIn wsX4_addField wsX1_append := goodIn_r _ [22, 23, 24, 18, 25, 14, 15, 16, 17, 11, 8, 12, 26, 27, 28, 29, 35, 36, 37, 38, 39, 40] (by decide +kernel) (by decide +kernel)
set_option maxRecDepth 20000 in
theorem gX4_addField_X1_append : GoodIn wsX4_addField (wsV RX4 68 RX1 yX1_append wsX1_append) := goodIn_app (goodIn_of _ (by decide +kernel)) ggX4_addField_X1_append
theorem dX4_addField_0 : decode cX4_addField 0 = .ok (.iload_n 1, 1) := by decide +kernel
theorem dX4_addField_1 : decode cX4_addField 1 = .ok (.invokestatic 44, 3) := by decide +kernel
theorem dX4_addField_4 : decode cX4_addField 4 = .ok (.iload_n 2, 1) := by decide +kernel
theorem dX4_addField_5 : decode cX4_addField 5 = .ok (.iconst (-1), 1) := by decide +kernel
theorem dX4_addField_6 : decode cX4_addField 6 = .ok (.if_icmp .eq 20, 3) := by decide +kernel
theorem dX4_addField_9 : decode cX4_addField 9 = .ok (.iload_n 2, 1) := by decide +kernel
theorem dX4_addField_10 : decode cX4_addField 10 = .ok (.invokestatic 48, 3) := by decide +kernel
theorem dX4_addField_13 : decode cX4_addField 13 = .ok (.ifCond .ne 13, 3) := by decide +kernel
theorem dX4_addField_16 : decode cX4_addField 16 = .ok (.new 52, 3) := by decide +kernel
theorem dX4_addField_19 : decode cX4_addField 19 = .ok (.dup, 1) := by decide +kernel
theorem dX4_addField_20 : decode cX4_addField 20 = .ok (.ldc 54, 2) := by decide +kernel
theorem dX4_addField_22 : decode cX4_addField 22 = .ok (.invokespecial 56, 3) := by decide +kernel
theorem dX4_addField_25 : decode cX4_addField 25 = .ok (.athrow, 1) := by decide +kernel
theorem dX4_addField_26 : decode cX4_addField 26 = .ok (.aload_n 0, 1) := by decide +kernel
theorem dX4_addField_27 : decode cX4_addField 27 = .ok (.getfield 20, 3) := by decide +kernel
theorem dX4_addField_30 : decode cX4_addField 30 = .ok (.iload_n 1, 1) := by decide +kernel
theorem dX4_addField_31 : decode cX4_addField 31 = .ok (.invokevirtual 59, 3) := by decide +kernel
theorem dX4_addField_34 : decode cX4_addField 34 = .ok (.bipush 8, 2) := by decide +kernel
theorem dX4_addField_36 : decode cX4_addField 36 = .ok (.if_icmp .lt 13, 3) := by decide +kernel
theorem dX4_addField_39 : decode cX4_addField 39 = .ok (.new 63, 3) := by decide +kernel
theorem dX4_addField_42 : decode cX4_addField 42 = .ok (.dup, 1) := by decide +kernel
theorem dX4_addField_43 : decode cX4_addField 43 = .ok (.ldc 65, 2) := by decide +kernel
theorem dX4_addField_45 : decode cX4_addField 45 = .ok (.invokespecial 67, 3) := by decide +kernel
theorem dX4_addField_48 : decode cX4_addField 48 = .ok (.athrow, 1) := by decide +kernel
theorem dX4_addField_49 : decode cX4_addField 49 = .ok (.aload_n 0, 1) := by decide +kernel
theorem dX4_addField_50 : decode cX4_addField 50 = .ok (.getfield 20, 3) := by decide +kernel
theorem dX4_addField_53 : decode cX4_addField 53 = .ok (.iload_n 1, 1) := by decide +kernel
theorem dX4_addField_54 : decode cX4_addField 54 = .ok (.iload_n 2, 1) := by decide +kernel
theorem dX4_addField_55 : decode cX4_addField 55 = .ok (.iload_n 3, 1) := by decide +kernel
theorem dX4_addField_56 : decode cX4_addField 56 = .ok (.invokevirtual 68, 3) := by decide +kernel
theorem dX4_addField_59 : decode cX4_addField 59 = .ok (.ireturn, 1) := by decide +kernel
set_option maxRecDepth 20000 in
theorem ggX4_own_X4_checkService : GoodIn wsX4_own wsX4_checkService := goodIn_ca (goodIn_r _ [6, 7, 8, 9, 10, 5, 11] (by decide +kernel) (by decide +kernel)) (goodIn_sub (fun _ h => List.mem_cons_of_mem _ (List.mem_append_left _ (List.mem_append_right _ h))) (by decide +kernel))
set_option maxRecDepth 20000 in
theorem gX4_own_X4_checkService : GoodIn wsX4_own (va_wsS RX4 72 yX4_checkService wsX4_checkService) := goodIn_app (goodIn_of _ (by decide +kernel)) ggX4_own_X4_checkService
set_option maxRecDepth 20000 in
theorem ggX4_own_X4_checkType : GoodIn wsX4_own wsX4_checkType := goodIn_ca (goodIn_r _ [14, 7, 8, 15, 16, 5, 17] (by decide +kernel) (by decide +kernel)) (goodIn_sub (fun _ h => List.mem_cons_of_mem _ (List.mem_append_left _ (List.mem_append_right _ h))) (by decide +kernel))
set_option maxRecDepth 20000 in
theorem gX4_own_X4_checkType : GoodIn wsX4_own (va_wsS RX4 44 yX4_checkType wsX4_checkType) := goodIn_app (goodIn_of _ (by decide +kernel)) ggX4_own_X4_checkType
set_option maxRecDepth 20000 in
theorem ggX4_own_X4_checkField : GoodIn wsX4_own wsX4_checkField := goodIn_ca (goodIn_r _ [21, 22, 23, 2, 24, 25, 26, 27, 28, 29, 16, 5, 17, 48, 49, 50, 51, 52, 53, 54, 55, 56, 57, 58] (by decide +kernel) (by decide +kernel)) (goodIn_sub (fun _ h => List.mem_cons_of_mem _ (List.mem_append_right _ h)) (by decide +kernel))
set_option maxRecDepth 20000 in
theorem gX4_own_X4_checkField : GoodIn wsX4_own (wsV RX4 75 RX4 yX4_checkField wsX4_checkField) := goodIn_app (goodIn_of _ (by decide +kernel)) ggX4_own_X4_checkField
set_option maxRecDepth 20000 in
theorem ggX4_own_X2_forget : GoodIn wsX4_own wsX2_forget := goodIn_r _ [34, 35, 59, 60, 61, 62, 63, 64, 65, 66, 67, 68] (by decide +kernel) (by decide +kernel)
set_option maxRecDepth 20000 in
theorem gX4_own_X2_forget : GoodIn wsX4_own (wsV RX4 79 RX2 yX2_forget wsX2_forget) := goodIn_app (goodIn_of _ (by decide +kernel)) ggX4_own_X2_forget
set_option maxRecDepth 20000 in
theorem ggX4_own_X4_slotOf : GoodIn wsX4_own wsX4_slotOf := goodIn_r _ [38] (by decide +kernel) (by decide +kernel)
set_option maxRecDepth 20000 in
theorem gX4_own_X4_slotOf : GoodIn wsX4_own (va_wsS RX4 82 yX4_slotOf wsX4_slotOf) := goodIn_app (goodIn_of _ (by decide +kernel)) ggX4_own_X4_slotOf
set_option maxRecDepth 20000 in
theorem ggX4_own_X1_putOwner : GoodIn wsX4_own wsX1_putOwner := goodIn_r _ [42, 43, 44, 5, 45, 46, 47, 53, 54, 55, 56, 57, 58] (by decide +kernel) (by decide +kernel)
set_option maxRecDepth 20000 in
theorem gX4_own_X1_putOwner : GoodIn wsX4_own (wsV RX4 86 RX1 yX1_putOwner wsX1_putOwner) := goodIn_app (goodIn_of _ (by decide +kernel)) ggX4_own_X1_putOwner
theorem dX4_own_0 : decode cX4_own 0 = .ok (.iload_n 1, 1) := by decide +kernel
theorem dX4_own_1 : decode cX4_own 1 = .ok (.invokestatic 72, 3) := by decide +kernel
theorem dX4_own_4 : decode cX4_own 4 = .ok (.iload_n 2, 1) := by decide +kernel
theorem dX4_own_5 : decode cX4_own 5 = .ok (.invokestatic 44, 3) := by decide +kernel
theorem dX4_own_8 : decode cX4_own 8 = .ok (.aload_n 0, 1) := by decide +kernel
theorem dX4_own_9 : decode cX4_own 9 = .ok (.iload_n 2, 1) := by decide +kernel
theorem dX4_own_10 : decode cX4_own 10 = .ok (.iload_n 3, 1) := by decide +kernel
theorem dX4_own_11 : decode cX4_own 11 = .ok (.invokevirtual 75, 3) := by decide +kernel
theorem dX4_own_14 : decode cX4_own 14 = .ok (.aload_n 0, 1) := by decide +kernel
theorem dX4_own_15 : decode cX4_own 15 = .ok (.getfield 28, 3) := by decide +kernel
theorem dX4_own_18 : decode cX4_own 18 = .ok (.invokevirtual 79, 3) := by decide +kernel
theorem dX4_own_21 : decode cX4_own 21 = .ok (.aload_n 0, 1) := by decide +kernel
theorem dX4_own_22 : decode cX4_own 22 = .ok (.getfield 20, 3) := by decide +kernel
theorem dX4_own_25 : decode cX4_own 25 = .ok (.iload_n 2, 1) := by decide +kernel
theorem dX4_own_26 : decode cX4_own 26 = .ok (.iload_n 3, 1) := by decide +kernel
theorem dX4_own_27 : decode cX4_own 27 = .ok (.invokestatic 82, 3) := by decide +kernel
theorem dX4_own_30 : decode cX4_own 30 = .ok (.iload_n 1, 1) := by decide +kernel
theorem dX4_own_31 : decode cX4_own 31 = .ok (.iload 4, 2) := by decide +kernel
theorem dX4_own_33 : decode cX4_own 33 = .ok (.invokevirtual 86, 3) := by decide +kernel
theorem dX4_own_36 : decode cX4_own 36 = .ok (.ireturn, 1) := by decide +kernel
set_option maxRecDepth 20000 in
theorem ggX4_set_X4_checkType : GoodIn wsX4_set wsX4_checkType := goodIn_ca (goodIn_r _ [7, 1, 2, 8, 9, 6, 10] (by decide +kernel) (by decide +kernel)) (goodIn_sub (fun _ h => List.mem_cons_of_mem _ (List.mem_append_left _ (List.mem_append_right _ h))) (by decide +kernel))
set_option maxRecDepth 20000 in
theorem gX4_set_X4_checkType : GoodIn wsX4_set (va_wsS RX4 44 yX4_checkType wsX4_checkType) := goodIn_app (goodIn_of _ (by decide +kernel)) ggX4_set_X4_checkType
set_option maxRecDepth 20000 in
theorem ggX4_set_X4_checkKey : GoodIn wsX4_set wsX4_checkKey := goodIn_ca (goodIn_r _ [13, 1, 2, 14, 15, 6, 16] (by decide +kernel) (by decide +kernel)) (goodIn_sub (fun _ h => List.mem_cons_of_mem _ (List.mem_append_left _ (List.mem_append_right _ h))) (by decide +kernel))
set_option maxRecDepth 20000 in
theorem gX4_set_X4_checkKey : GoodIn wsX4_set (va_wsS RX4 90 yX4_checkKey wsX4_checkKey) := goodIn_app (goodIn_of _ (by decide +kernel)) ggX4_set_X4_checkKey
set_option maxRecDepth 20000 in
theorem ggX4_set_X4_checkField : GoodIn wsX4_set wsX4_checkField := goodIn_ca (goodIn_r _ [20, 21, 22, 3, 23, 24, 25, 26, 27, 28, 9, 6, 10, 52, 53, 54, 55, 56, 57, 58, 59, 60, 61, 62] (by decide +kernel) (by decide +kernel)) (goodIn_sub (fun _ h => List.mem_cons_of_mem _ (List.mem_append_right _ h)) (by decide +kernel))
set_option maxRecDepth 20000 in
theorem gX4_set_X4_checkField : GoodIn wsX4_set (wsV RX4 75 RX4 yX4_checkField wsX4_checkField) := goodIn_app (goodIn_of _ (by decide +kernel)) ggX4_set_X4_checkField
set_option maxRecDepth 20000 in
theorem ggX4_set_X4_slotOf : GoodIn wsX4_set wsX4_slotOf := goodIn_r _ [31] (by decide +kernel) (by decide +kernel)
set_option maxRecDepth 20000 in
theorem gX4_set_X4_slotOf : GoodIn wsX4_set (va_wsS RX4 82 yX4_slotOf wsX4_slotOf) := goodIn_app (goodIn_of _ (by decide +kernel)) ggX4_set_X4_slotOf
set_option maxRecDepth 20000 in
theorem ggX4_set_X1_takes : GoodIn wsX4_set wsX1_takes := goodIn_r _ [35, 36, 37, 38, 26, 39, 40, 41, 6, 42, 57, 58, 59, 60, 61, 62] (by decide +kernel) (by decide +kernel)
set_option maxRecDepth 20000 in
theorem gX4_set_X1_takes : GoodIn wsX4_set (wsV RX4 93 RX1 yX1_takes wsX1_takes) := goodIn_app (goodIn_of _ (by decide +kernel)) ggX4_set_X1_takes
set_option maxRecDepth 20000 in
theorem ggX4_set_X1_putValue : GoodIn wsX4_set wsX1_putValue := goodIn_r _ [46, 47, 48, 49, 50, 26, 51, 41, 6, 42, 15, 16, 57, 58, 59, 60, 61, 62] (by decide +kernel) (by decide +kernel)
set_option maxRecDepth 20000 in
theorem gX4_set_X1_putValue : GoodIn wsX4_set (wsV RX4 99 RX1 yX1_putValue wsX1_putValue) := goodIn_app (goodIn_of _ (by decide +kernel)) ggX4_set_X1_putValue
theorem dX4_set_0 : decode cX4_set 0 = .ok (.iload_n 1, 1) := by decide +kernel
theorem dX4_set_1 : decode cX4_set 1 = .ok (.invokestatic 44, 3) := by decide +kernel
theorem dX4_set_4 : decode cX4_set 4 = .ok (.iload_n 2, 1) := by decide +kernel
theorem dX4_set_5 : decode cX4_set 5 = .ok (.invokestatic 90, 3) := by decide +kernel
theorem dX4_set_8 : decode cX4_set 8 = .ok (.aload_n 0, 1) := by decide +kernel
theorem dX4_set_9 : decode cX4_set 9 = .ok (.iload_n 1, 1) := by decide +kernel
theorem dX4_set_10 : decode cX4_set 10 = .ok (.iload_n 3, 1) := by decide +kernel
theorem dX4_set_11 : decode cX4_set 11 = .ok (.invokevirtual 75, 3) := by decide +kernel
theorem dX4_set_14 : decode cX4_set 14 = .ok (.iload_n 1, 1) := by decide +kernel
theorem dX4_set_15 : decode cX4_set 15 = .ok (.iload_n 3, 1) := by decide +kernel
theorem dX4_set_16 : decode cX4_set 16 = .ok (.invokestatic 82, 3) := by decide +kernel
theorem dX4_set_19 : decode cX4_set 19 = .ok (.istore 5, 2) := by decide +kernel
theorem dX4_set_21 : decode cX4_set 21 = .ok (.aload_n 0, 1) := by decide +kernel
theorem dX4_set_22 : decode cX4_set 22 = .ok (.getfield 20, 3) := by decide +kernel
theorem dX4_set_25 : decode cX4_set 25 = .ok (.iload 5, 2) := by decide +kernel
theorem dX4_set_27 : decode cX4_set 27 = .ok (.iload 4, 2) := by decide +kernel
theorem dX4_set_29 : decode cX4_set 29 = .ok (.invokevirtual 93, 3) := by decide +kernel
theorem dX4_set_32 : decode cX4_set 32 = .ok (.ifCond .ne 13, 3) := by decide +kernel
theorem dX4_set_35 : decode cX4_set 35 = .ok (.new 52, 3) := by decide +kernel
theorem dX4_set_38 : decode cX4_set 38 = .ok (.dup, 1) := by decide +kernel
theorem dX4_set_39 : decode cX4_set 39 = .ok (.ldc 97, 2) := by decide +kernel
theorem dX4_set_41 : decode cX4_set 41 = .ok (.invokespecial 56, 3) := by decide +kernel
theorem dX4_set_44 : decode cX4_set 44 = .ok (.athrow, 1) := by decide +kernel
theorem dX4_set_45 : decode cX4_set 45 = .ok (.aload_n 0, 1) := by decide +kernel
theorem dX4_set_46 : decode cX4_set 46 = .ok (.getfield 20, 3) := by decide +kernel
theorem dX4_set_49 : decode cX4_set 49 = .ok (.iload 5, 2) := by decide +kernel
theorem dX4_set_51 : decode cX4_set 51 = .ok (.iload_n 2, 1) := by decide +kernel
theorem dX4_set_52 : decode cX4_set 52 = .ok (.iload 4, 2) := by decide +kernel
theorem dX4_set_54 : decode cX4_set 54 = .ok (.invokevirtual 99, 3) := by decide +kernel
theorem dX4_set_57 : decode cX4_set 57 = .ok (.ireturn, 1) := by decide +kernel
set_option maxRecDepth 20000 in
theorem ggX4_fail_X4_checkService : GoodIn wsX4_fail wsX4_checkService := goodIn_ca (goodIn_r _ [5, 6, 7, 8, 9, 4, 10] (by decide +kernel) (by decide +kernel)) (goodIn_sub (fun _ h => List.mem_cons_of_mem _ (List.mem_append_right _ h)) (by decide +kernel))
set_option maxRecDepth 20000 in
theorem gX4_fail_X4_checkService : GoodIn wsX4_fail (va_wsS RX4 72 yX4_checkService wsX4_checkService) := goodIn_app (goodIn_of _ (by decide +kernel)) ggX4_fail_X4_checkService
set_option maxRecDepth 20000 in
theorem ggX4_fail_X1_putFailed : GoodIn wsX4_fail wsX1_putFailed := goodIn_r _ [15, 16, 17, 4, 18, 24, 25, 26, 27, 28, 29] (by decide +kernel) (by decide +kernel)
set_option maxRecDepth 20000 in
theorem gX4_fail_X1_putFailed : GoodIn wsX4_fail (wsV RX4 103 RX1 yX1_putFailed wsX1_putFailed) := goodIn_app (goodIn_of _ (by decide +kernel)) ggX4_fail_X1_putFailed
theorem dX4_fail_0 : decode cX4_fail 0 = .ok (.iload_n 1, 1) := by decide +kernel
theorem dX4_fail_1 : decode cX4_fail 1 = .ok (.invokestatic 72, 3) := by decide +kernel
theorem dX4_fail_4 : decode cX4_fail 4 = .ok (.aload_n 0, 1) := by decide +kernel
theorem dX4_fail_5 : decode cX4_fail 5 = .ok (.getfield 20, 3) := by decide +kernel
theorem dX4_fail_8 : decode cX4_fail 8 = .ok (.iload_n 1, 1) := by decide +kernel
theorem dX4_fail_9 : decode cX4_fail 9 = .ok (.iload_n 2, 1) := by decide +kernel
theorem dX4_fail_10 : decode cX4_fail 10 = .ok (.invokevirtual 103, 3) := by decide +kernel
theorem dX4_fail_13 : decode cX4_fail 13 = .ok (.ireturn, 1) := by decide +kernel
set_option maxRecDepth 20000 in
theorem ggX4_begin_X4_checkType : GoodIn wsX4_begin wsX4_checkType := goodIn_ca (goodIn_r _ [6, 7, 8, 9, 10, 5, 11] (by decide +kernel) (by decide +kernel)) (goodIn_sub (fun _ h => List.mem_cons_of_mem _ (List.mem_append_right _ h)) (by decide +kernel))
set_option maxRecDepth 20000 in
theorem gX4_begin_X4_checkType : GoodIn wsX4_begin (va_wsS RX4 44 yX4_checkType wsX4_checkType) := goodIn_app (goodIn_of _ (by decide +kernel)) ggX4_begin_X4_checkType
set_option maxRecDepth 20000 in
theorem ggX4_begin_X2_forget : GoodIn wsX4_begin wsX2_forget := goodIn_r _ [16, 17, 30, 31, 32, 33, 34, 35, 36, 37, 38, 39] (by decide +kernel) (by decide +kernel)
set_option maxRecDepth 20000 in
theorem gX4_begin_X2_forget : GoodIn wsX4_begin (wsV RX4 79 RX2 yX2_forget wsX2_forget) := goodIn_app (goodIn_of _ (by decide +kernel)) ggX4_begin_X2_forget
set_option maxRecDepth 20000 in
theorem ggX4_begin_X3_restart : GoodIn wsX4_begin wsX3_restart := goodIn_r _ [22, 23, 24, 40, 41, 42, 43] (by decide +kernel) (by decide +kernel)
set_option maxRecDepth 20000 in
theorem gX4_begin_X3_restart : GoodIn wsX4_begin (wsV RX4 107 RX3 yX3_restart wsX3_restart) := goodIn_app (goodIn_of _ (by decide +kernel)) ggX4_begin_X3_restart
theorem dX4_begin_0 : decode cX4_begin 0 = .ok (.iload_n 1, 1) := by decide +kernel
theorem dX4_begin_1 : decode cX4_begin 1 = .ok (.invokestatic 44, 3) := by decide +kernel
theorem dX4_begin_4 : decode cX4_begin 4 = .ok (.aload_n 0, 1) := by decide +kernel
theorem dX4_begin_5 : decode cX4_begin 5 = .ok (.getfield 28, 3) := by decide +kernel
theorem dX4_begin_8 : decode cX4_begin 8 = .ok (.invokevirtual 79, 3) := by decide +kernel
theorem dX4_begin_11 : decode cX4_begin 11 = .ok (.aload_n 0, 1) := by decide +kernel
theorem dX4_begin_12 : decode cX4_begin 12 = .ok (.getfield 24, 3) := by decide +kernel
theorem dX4_begin_15 : decode cX4_begin 15 = .ok (.iload_n 1, 1) := by decide +kernel
theorem dX4_begin_16 : decode cX4_begin 16 = .ok (.invokevirtual 107, 3) := by decide +kernel
theorem dX4_begin_19 : decode cX4_begin 19 = .ok (.ireturn, 1) := by decide +kernel
set_option maxRecDepth 20000 in
theorem ggX4_node_X4_checkNode : GoodIn wsX4_node wsX4_checkNode := goodIn_ca (goodIn_r _ [9, 10, 11, 3, 12, 13, 14, 15, 16, 17, 76, 77, 78, 79, 80, 81, 82, 83, 84] (by decide +kernel) (by decide +kernel)) (goodIn_sub (fun _ h => List.mem_cons_of_mem _ (List.mem_append_right _ h)) (by decide +kernel))
set_option maxRecDepth 20000 in
theorem gX4_node_X4_checkNode : GoodIn wsX4_node (wsV RX4 110 RX4 yX4_checkNode wsX4_checkNode) := goodIn_app (goodIn_of _ (by decide +kernel)) ggX4_node_X4_checkNode
set_option maxRecDepth 20000 in
theorem ggX4_node_X4_typeAt : GoodIn wsX4_node wsX4_typeAt := goodIn_r _ [21, 3, 22, 23, 24, 25, 15, 26, 27, 28, 29, 30, 31, 32, 33, 13, 14, 16, 17, 34, 35, 36, 37, 38, 39, 40, 8, 41, 76, 77, 78, 79, 80, 81, 82, 83, 84, 85, 86, 87, 88, 89, 90] (by decide +kernel) (by decide +kernel)
set_option maxRecDepth 20000 in
theorem gX4_node_X4_typeAt : GoodIn wsX4_node (wsV RX4 113 RX4 yX4_typeAt wsX4_typeAt) := goodIn_app (goodIn_of _ (by decide +kernel)) ggX4_node_X4_typeAt
set_option maxRecDepth 20000 in
theorem ggX4_node_X4_checkField : GoodIn wsX4_node wsX4_checkField := goodIn_ca (goodIn_r _ [45, 10, 11, 22, 46, 47, 48, 37, 49, 50, 51, 8, 52, 76, 77, 78, 79, 80, 85, 86, 87, 88, 89, 90] (by decide +kernel) (by decide +kernel)) (goodIn_sub (fun _ h => List.mem_cons_of_mem _ (List.mem_append_right _ h)) (by decide +kernel))
set_option maxRecDepth 20000 in
theorem gX4_node_X4_checkField : GoodIn wsX4_node (wsV RX4 75 RX4 yX4_checkField wsX4_checkField) := goodIn_app (goodIn_of _ (by decide +kernel)) ggX4_node_X4_checkField
set_option maxRecDepth 20000 in
theorem ggX4_node_X4_slotOf : GoodIn wsX4_node wsX4_slotOf := goodIn_r _ [55] (by decide +kernel) (by decide +kernel)
set_option maxRecDepth 20000 in
theorem gX4_node_X4_slotOf : GoodIn wsX4_node (va_wsS RX4 82 yX4_slotOf wsX4_slotOf) := goodIn_app (goodIn_of _ (by decide +kernel)) ggX4_node_X4_slotOf
set_option maxRecDepth 20000 in
theorem ggX4_node_X3_hasRoom : GoodIn wsX4_node wsX3_hasRoom := goodIn_r _ [59, 17, 60, 61, 62, 15, 63, 64, 33, 13, 14, 16, 65, 29, 30, 31, 32, 81, 82, 83, 84] (by decide +kernel) (by decide +kernel)
set_option maxRecDepth 20000 in
theorem gX4_node_X3_hasRoom : GoodIn wsX4_node (wsV RX4 118 RX3 yX3_hasRoom wsX3_hasRoom) := goodIn_app (goodIn_of _ (by decide +kernel)) ggX4_node_X3_hasRoom
set_option maxRecDepth 20000 in
theorem ggX4_node_X2_forget : GoodIn wsX4_node wsX2_forget := goodIn_r _ [70, 71, 91, 92, 93, 94, 95, 96, 97, 98, 99, 100] (by decide +kernel) (by decide +kernel)
set_option maxRecDepth 20000 in
theorem gX4_node_X2_forget : GoodIn wsX4_node (wsV RX4 79 RX2 yX2_forget wsX2_forget) := goodIn_app (goodIn_of _ (by decide +kernel)) ggX4_node_X2_forget
set_option maxRecDepth 20000 in
theorem ggX4_node_X3_append : GoodIn wsX4_node wsX3_append := goodIn_r _ [75, 17, 64, 32, 81, 82, 83, 84] (by decide +kernel) (by decide +kernel)
set_option maxRecDepth 20000 in
theorem gX4_node_X3_append : GoodIn wsX4_node (wsV RX4 123 RX3 yX3_append wsX3_append) := goodIn_app (goodIn_of _ (by decide +kernel)) ggX4_node_X3_append
theorem dX4_node_0 : decode cX4_node 0 = .ok (.iload_n 1, 1) := by decide +kernel
theorem dX4_node_1 : decode cX4_node 1 = .ok (.iconst (-1), 1) := by decide +kernel
theorem dX4_node_2 : decode cX4_node 2 = .ok (.if_icmp .eq 8, 3) := by decide +kernel
theorem dX4_node_5 : decode cX4_node 5 = .ok (.aload_n 0, 1) := by decide +kernel
theorem dX4_node_6 : decode cX4_node 6 = .ok (.iload_n 1, 1) := by decide +kernel
theorem dX4_node_7 : decode cX4_node 7 = .ok (.invokevirtual 110, 3) := by decide +kernel
theorem dX4_node_10 : decode cX4_node 10 = .ok (.aload_n 0, 1) := by decide +kernel
theorem dX4_node_11 : decode cX4_node 11 = .ok (.iload_n 1, 1) := by decide +kernel
theorem dX4_node_12 : decode cX4_node 12 = .ok (.invokevirtual 113, 3) := by decide +kernel
theorem dX4_node_15 : decode cX4_node 15 = .ok (.istore_n 3, 1) := by decide +kernel
theorem dX4_node_16 : decode cX4_node 16 = .ok (.iload_n 3, 1) := by decide +kernel
theorem dX4_node_17 : decode cX4_node 17 = .ok (.iconst (-1), 1) := by decide +kernel
theorem dX4_node_18 : decode cX4_node 18 = .ok (.if_icmp .ne 13, 3) := by decide +kernel
theorem dX4_node_21 : decode cX4_node 21 = .ok (.new 63, 3) := by decide +kernel
theorem dX4_node_24 : decode cX4_node 24 = .ok (.dup, 1) := by decide +kernel
theorem dX4_node_25 : decode cX4_node 25 = .ok (.ldc 116, 2) := by decide +kernel
theorem dX4_node_27 : decode cX4_node 27 = .ok (.invokespecial 67, 3) := by decide +kernel
theorem dX4_node_30 : decode cX4_node 30 = .ok (.athrow, 1) := by decide +kernel
theorem dX4_node_31 : decode cX4_node 31 = .ok (.aload_n 0, 1) := by decide +kernel
theorem dX4_node_32 : decode cX4_node 32 = .ok (.iload_n 3, 1) := by decide +kernel
theorem dX4_node_33 : decode cX4_node 33 = .ok (.iload_n 2, 1) := by decide +kernel
theorem dX4_node_34 : decode cX4_node 34 = .ok (.invokevirtual 75, 3) := by decide +kernel
theorem dX4_node_37 : decode cX4_node 37 = .ok (.iload_n 3, 1) := by decide +kernel
theorem dX4_node_38 : decode cX4_node 38 = .ok (.iload_n 2, 1) := by decide +kernel
theorem dX4_node_39 : decode cX4_node 39 = .ok (.invokestatic 82, 3) := by decide +kernel
theorem dX4_node_42 : decode cX4_node 42 = .ok (.istore 4, 2) := by decide +kernel
theorem dX4_node_44 : decode cX4_node 44 = .ok (.aload_n 0, 1) := by decide +kernel
theorem dX4_node_45 : decode cX4_node 45 = .ok (.getfield 24, 3) := by decide +kernel
theorem dX4_node_48 : decode cX4_node 48 = .ok (.iload_n 1, 1) := by decide +kernel
theorem dX4_node_49 : decode cX4_node 49 = .ok (.iload 4, 2) := by decide +kernel
theorem dX4_node_51 : decode cX4_node 51 = .ok (.invokevirtual 118, 3) := by decide +kernel
theorem dX4_node_54 : decode cX4_node 54 = .ok (.ifCond .ne 13, 3) := by decide +kernel
theorem dX4_node_57 : decode cX4_node 57 = .ok (.new 63, 3) := by decide +kernel
theorem dX4_node_60 : decode cX4_node 60 = .ok (.dup, 1) := by decide +kernel
theorem dX4_node_61 : decode cX4_node 61 = .ok (.ldc 121, 2) := by decide +kernel
theorem dX4_node_63 : decode cX4_node 63 = .ok (.invokespecial 67, 3) := by decide +kernel
theorem dX4_node_66 : decode cX4_node 66 = .ok (.athrow, 1) := by decide +kernel
theorem dX4_node_67 : decode cX4_node 67 = .ok (.aload_n 0, 1) := by decide +kernel
theorem dX4_node_68 : decode cX4_node 68 = .ok (.getfield 28, 3) := by decide +kernel
theorem dX4_node_71 : decode cX4_node 71 = .ok (.invokevirtual 79, 3) := by decide +kernel
theorem dX4_node_74 : decode cX4_node 74 = .ok (.aload_n 0, 1) := by decide +kernel
theorem dX4_node_75 : decode cX4_node 75 = .ok (.getfield 24, 3) := by decide +kernel
theorem dX4_node_78 : decode cX4_node 78 = .ok (.iload_n 1, 1) := by decide +kernel
theorem dX4_node_79 : decode cX4_node 79 = .ok (.iload 4, 2) := by decide +kernel
theorem dX4_node_81 : decode cX4_node 81 = .ok (.invokevirtual 123, 3) := by decide +kernel
theorem dX4_node_84 : decode cX4_node 84 = .ok (.ireturn, 1) := by decide +kernel
set_option maxRecDepth 20000 in
theorem ggX4_nodes_X3_size : GoodIn wsX4_nodes wsX3_size := goodIn_r _ [6, 7, 13, 14, 15, 16] (by decide +kernel) (by decide +kernel)
set_option maxRecDepth 20000 in
theorem gX4_nodes_X3_size : GoodIn wsX4_nodes (wsV RX4 125 RX3 yX3_size wsX3_size) := goodIn_app (goodIn_of _ (by decide +kernel)) ggX4_nodes_X3_size
theorem dX4_nodes_0 : decode cX4_nodes 0 = .ok (.aload_n 0, 1) := by decide +kernel
theorem dX4_nodes_1 : decode cX4_nodes 1 = .ok (.getfield 24, 3) := by decide +kernel
theorem dX4_nodes_4 : decode cX4_nodes 4 = .ok (.invokevirtual 125, 3) := by decide +kernel
theorem dX4_nodes_7 : decode cX4_nodes 7 = .ok (.ireturn, 1) := by decide +kernel
set_option maxRecDepth 20000 in
theorem ggX4_typeOf_X4_checkNode : GoodIn wsX4_typeOf wsX4_checkNode := goodIn_ca (goodIn_r _ [6, 7, 8, 1, 9, 10, 11, 12, 13, 14, 21, 22, 23, 24, 25, 26, 27, 28, 29] (by decide +kernel) (by decide +kernel)) (goodIn_sub (fun _ h => List.mem_cons_of_mem _ (List.mem_append_right _ h)) (by decide +kernel))
set_option maxRecDepth 20000 in
theorem gX4_typeOf_X4_checkNode : GoodIn wsX4_typeOf (wsV RX4 110 RX4 yX4_checkNode wsX4_checkNode) := goodIn_app (goodIn_of _ (by decide +kernel)) ggX4_typeOf_X4_checkNode
set_option maxRecDepth 20000 in
theorem ggX4_typeOf_X3_slotAt : GoodIn wsX4_typeOf wsX3_slotAt := goodIn_r _ [18, 19, 20, 10, 11, 12, 13, 14, 26, 27, 28, 29] (by decide +kernel) (by decide +kernel)
set_option maxRecDepth 20000 in
theorem gX4_typeOf_X3_slotAt : GoodIn wsX4_typeOf (wsV RX4 129 RX3 yX3_slotAt wsX3_slotAt) := goodIn_app (goodIn_of _ (by decide +kernel)) ggX4_typeOf_X3_slotAt
theorem dX4_typeOf_0 : decode cX4_typeOf 0 = .ok (.aload_n 0, 1) := by decide +kernel
theorem dX4_typeOf_1 : decode cX4_typeOf 1 = .ok (.iload_n 1, 1) := by decide +kernel
theorem dX4_typeOf_2 : decode cX4_typeOf 2 = .ok (.invokevirtual 110, 3) := by decide +kernel
theorem dX4_typeOf_5 : decode cX4_typeOf 5 = .ok (.aload_n 0, 1) := by decide +kernel
theorem dX4_typeOf_6 : decode cX4_typeOf 6 = .ok (.getfield 24, 3) := by decide +kernel
theorem dX4_typeOf_9 : decode cX4_typeOf 9 = .ok (.iload_n 1, 1) := by decide +kernel
theorem dX4_typeOf_10 : decode cX4_typeOf 10 = .ok (.invokevirtual 129, 3) := by decide +kernel
theorem dX4_typeOf_13 : decode cX4_typeOf 13 = .ok (.bipush 8, 2) := by decide +kernel
theorem dX4_typeOf_15 : decode cX4_typeOf 15 = .ok (.idiv, 1) := by decide +kernel
theorem dX4_typeOf_16 : decode cX4_typeOf 16 = .ok (.ireturn, 1) := by decide +kernel
set_option maxRecDepth 20000 in
theorem ggX4_hops_X4_checkPlan : GoodIn wsX4_hops wsX4_checkPlan := goodIn_ca (goodIn_r _ [6, 7, 8, 1, 9, 10, 11, 12, 13, 14, 15, 16, 17, 18, 19, 20, 21, 22, 23, 24, 25, 26, 27, 28, 29, 30, 31, 32, 33, 34, 35, 36, 37, 38, 39, 40, 41, 42, 43, 44, 45, 46, 47, 48, 49, 50, 51, 52, 53, 54, 55, 56, 5, 57, 58, 59, 60, 61, 62, 63, 64, 65, 66, 67, 68, 69, 70, 71, 72, 73, 74, 75, 76, 77, 78, 79, 80, 81, 82, 83, 84, 85, 86, 87, 88, 89, 94, 95, 96, 97, 98, 99, 100, 101, 102, 103, 104, 105, 106, 107, 108, 109, 110, 111, 112, 113, 114, 115, 116, 117, 118] (by decide +kernel) (by decide +kernel)) (goodIn_sub (fun _ h => List.mem_cons_of_mem _ (List.mem_append_right _ h)) (by decide +kernel))
set_option maxRecDepth 20000 in
theorem gX4_hops_X4_checkPlan : GoodIn wsX4_hops (wsV RX4 132 RX4 yX4_checkPlan wsX4_checkPlan) := goodIn_app (goodIn_of _ (by decide +kernel)) ggX4_hops_X4_checkPlan
set_option maxRecDepth 20000 in
theorem ggX4_hops_X2_length : GoodIn wsX4_hops wsX2_length := goodIn_r _ [93, 16, 99, 100, 101, 102, 103, 104, 105, 106, 107, 108] (by decide +kernel) (by decide +kernel)
set_option maxRecDepth 20000 in
theorem gX4_hops_X2_length : GoodIn wsX4_hops (wsV RX4 135 RX2 yX2_length wsX2_length) := goodIn_app (goodIn_of _ (by decide +kernel)) ggX4_hops_X2_length
theorem dX4_hops_0 : decode cX4_hops 0 = .ok (.aload_n 0, 1) := by decide +kernel
theorem dX4_hops_1 : decode cX4_hops 1 = .ok (.invokevirtual 132, 3) := by decide +kernel
theorem dX4_hops_4 : decode cX4_hops 4 = .ok (.aload_n 0, 1) := by decide +kernel
theorem dX4_hops_5 : decode cX4_hops 5 = .ok (.getfield 28, 3) := by decide +kernel
theorem dX4_hops_8 : decode cX4_hops 8 = .ok (.invokevirtual 135, 3) := by decide +kernel
theorem dX4_hops_11 : decode cX4_hops 11 = .ok (.ireturn, 1) := by decide +kernel
set_option maxRecDepth 20000 in
theorem ggX4_takenFrom_X4_checkNode : GoodIn wsX4_takenFrom wsX4_checkNode := goodIn_ca (goodIn_r _ [6, 7, 8, 9, 10, 11, 12, 13, 14, 15, 99, 100, 101, 102, 103, 104, 105, 106, 107] (by decide +kernel) (by decide +kernel)) (goodIn_sub (fun _ h => List.mem_cons_of_mem _ (List.mem_append_left _ (List.mem_append_right _ h))) (by decide +kernel))
set_option maxRecDepth 20000 in
theorem gX4_takenFrom_X4_checkNode : GoodIn wsX4_takenFrom (wsV RX4 110 RX4 yX4_checkNode wsX4_checkNode) := goodIn_app (goodIn_of _ (by decide +kernel)) ggX4_takenFrom_X4_checkNode
set_option maxRecDepth 20000 in
theorem ggX4_takenFrom_X4_checkPlan : GoodIn wsX4_takenFrom wsX4_checkPlan := goodIn_ca (goodIn_r _ [19, 20, 21, 1, 22, 23, 24, 25, 26, 27, 28, 29, 30, 31, 32, 33, 34, 35, 36, 37, 38, 39, 40, 41, 42, 43, 44, 45, 13, 46, 15, 47, 48, 49, 50, 51, 52, 11, 12, 14, 53, 54, 55, 56, 57, 58, 59, 60, 61, 62, 63, 64, 5, 65, 66, 67, 68, 69, 70, 71, 72, 73, 74, 75, 76, 77, 78, 79, 80, 81, 82, 83, 84, 85, 86, 87, 88, 89, 90, 91, 92, 93, 94, 95, 96, 97, 99, 100, 101, 102, 103, 108, 109, 110, 111, 112, 113, 114, 115, 116, 117, 104, 105, 106, 107, 118, 119, 120, 121, 122, 123] (by decide +kernel) (by decide +kernel)) (goodIn_sub (fun _ h => List.mem_cons_of_mem _ (List.mem_append_right _ h)) (by decide +kernel))
set_option maxRecDepth 20000 in
theorem gX4_takenFrom_X4_checkPlan : GoodIn wsX4_takenFrom (wsV RX4 132 RX4 yX4_checkPlan wsX4_checkPlan) := goodIn_app (goodIn_of _ (by decide +kernel)) ggX4_takenFrom_X4_checkPlan
set_option maxRecDepth 20000 in
theorem ggX4_takenFrom_X2_serviceOf : GoodIn wsX4_takenFrom wsX2_serviceOf := goodIn_r _ [96, 34, 92, 97, 11, 12, 13, 14, 15, 108, 109, 110, 111, 112, 113, 114, 115, 116, 117, 104, 105, 106, 107] (by decide +kernel) (by decide +kernel)
set_option maxRecDepth 20000 in
theorem gX4_takenFrom_X2_serviceOf : GoodIn wsX4_takenFrom (wsV RX4 138 RX2 yX2_serviceOf wsX2_serviceOf) := goodIn_app (goodIn_of _ (by decide +kernel)) ggX4_takenFrom_X2_serviceOf
theorem dX4_takenFrom_0 : decode cX4_takenFrom 0 = .ok (.aload_n 0, 1) := by decide +kernel
theorem dX4_takenFrom_1 : decode cX4_takenFrom 1 = .ok (.iload_n 1, 1) := by decide +kernel
theorem dX4_takenFrom_2 : decode cX4_takenFrom 2 = .ok (.invokevirtual 110, 3) := by decide +kernel
theorem dX4_takenFrom_5 : decode cX4_takenFrom 5 = .ok (.aload_n 0, 1) := by decide +kernel
theorem dX4_takenFrom_6 : decode cX4_takenFrom 6 = .ok (.invokevirtual 132, 3) := by decide +kernel
theorem dX4_takenFrom_9 : decode cX4_takenFrom 9 = .ok (.aload_n 0, 1) := by decide +kernel
theorem dX4_takenFrom_10 : decode cX4_takenFrom 10 = .ok (.getfield 28, 3) := by decide +kernel
theorem dX4_takenFrom_13 : decode cX4_takenFrom 13 = .ok (.iload_n 1, 1) := by decide +kernel
theorem dX4_takenFrom_14 : decode cX4_takenFrom 14 = .ok (.invokevirtual 138, 3) := by decide +kernel
theorem dX4_takenFrom_17 : decode cX4_takenFrom 17 = .ok (.ireturn, 1) := by decide +kernel
set_option maxRecDepth 20000 in
theorem ggX4_used_X4_checkPlan : GoodIn wsX4_used wsX4_checkPlan := goodIn_ca (goodIn_r _ [7, 8, 9, 2, 10, 11, 12, 13, 14, 15, 16, 17, 18, 19, 20, 21, 22, 23, 24, 25, 26, 27, 28, 29, 30, 31, 32, 33, 34, 35, 36, 37, 38, 39, 40, 41, 42, 43, 44, 45, 46, 47, 48, 49, 50, 51, 52, 53, 54, 55, 56, 57, 6, 58, 59, 60, 61, 62, 63, 64, 65, 66, 67, 68, 69, 70, 71, 72, 73, 74, 75, 76, 77, 78, 79, 80, 81, 82, 83, 84, 85, 86, 87, 88, 89, 90, 94, 95, 96, 97, 98, 99, 100, 101, 102, 103, 104, 105, 106, 107, 108, 109, 110, 111, 112, 113, 114, 115, 116, 117, 118] (by decide +kernel) (by decide +kernel)) (goodIn_sub (fun _ h => List.mem_cons_of_mem _ (List.mem_append_right _ h)) (by decide +kernel))
set_option maxRecDepth 20000 in
theorem gX4_used_X4_checkPlan : GoodIn wsX4_used (wsV RX4 132 RX4 yX4_checkPlan wsX4_checkPlan) := goodIn_app (goodIn_of _ (by decide +kernel)) ggX4_used_X4_checkPlan
set_option maxRecDepth 20000 in
theorem ggX4_used_X3_size : GoodIn wsX4_used wsX3_size := goodIn_r _ [35, 36, 109, 110, 111, 112] (by decide +kernel) (by decide +kernel)
set_option maxRecDepth 20000 in
theorem gX4_used_X3_size : GoodIn wsX4_used (wsV RX4 125 RX3 yX3_size wsX3_size) := goodIn_app (goodIn_of _ (by decide +kernel)) ggX4_used_X3_size
set_option maxRecDepth 20000 in
theorem ggX4_used_X2_serviceOf : GoodIn wsX4_used wsX2_serviceOf := goodIn_r _ [89, 22, 85, 90, 43, 44, 34, 45, 36, 99, 100, 101, 102, 103, 104, 105, 106, 107, 108, 109, 110, 111, 112] (by decide +kernel) (by decide +kernel)
set_option maxRecDepth 20000 in
theorem gX4_used_X2_serviceOf : GoodIn wsX4_used (wsV RX4 138 RX2 yX2_serviceOf wsX2_serviceOf) := goodIn_app (goodIn_of _ (by decide +kernel)) ggX4_used_X2_serviceOf
set_option maxRecDepth 20000 in
theorem ggX4_used_X4_bit : GoodIn wsX4_used wsX4_bit := goodIn_r _ [69] (by decide +kernel) (by decide +kernel)
set_option maxRecDepth 20000 in
theorem gX4_used_X4_bit : GoodIn wsX4_used (va_wsS RX4 141 yX4_bit wsX4_bit) := goodIn_app (goodIn_of _ (by decide +kernel)) ggX4_used_X4_bit
theorem dX4_used_0 : decode cX4_used 0 = .ok (.aload_n 0, 1) := by decide +kernel
theorem dX4_used_1 : decode cX4_used 1 = .ok (.invokevirtual 132, 3) := by decide +kernel
theorem dX4_used_4 : decode cX4_used 4 = .ok (.iconst 0, 1) := by decide +kernel
theorem dX4_used_5 : decode cX4_used 5 = .ok (.istore_n 1, 1) := by decide +kernel
theorem dX4_used_6 : decode cX4_used 6 = .ok (.iconst 0, 1) := by decide +kernel
theorem dX4_used_7 : decode cX4_used 7 = .ok (.istore_n 2, 1) := by decide +kernel
theorem dX4_used_8 : decode cX4_used 8 = .ok (.iload_n 2, 1) := by decide +kernel
theorem dX4_used_9 : decode cX4_used 9 = .ok (.aload_n 0, 1) := by decide +kernel
theorem dX4_used_10 : decode cX4_used 10 = .ok (.getfield 24, 3) := by decide +kernel
theorem dX4_used_13 : decode cX4_used 13 = .ok (.invokevirtual 125, 3) := by decide +kernel
theorem dX4_used_16 : decode cX4_used 16 = .ok (.if_icmp .ge 23, 3) := by decide +kernel
theorem dX4_used_19 : decode cX4_used 19 = .ok (.iload_n 1, 1) := by decide +kernel
theorem dX4_used_20 : decode cX4_used 20 = .ok (.aload_n 0, 1) := by decide +kernel
theorem dX4_used_21 : decode cX4_used 21 = .ok (.getfield 28, 3) := by decide +kernel
theorem dX4_used_24 : decode cX4_used 24 = .ok (.iload_n 2, 1) := by decide +kernel
theorem dX4_used_25 : decode cX4_used 25 = .ok (.invokevirtual 138, 3) := by decide +kernel
theorem dX4_used_28 : decode cX4_used 28 = .ok (.invokestatic 141, 3) := by decide +kernel
theorem dX4_used_31 : decode cX4_used 31 = .ok (.ior, 1) := by decide +kernel
theorem dX4_used_32 : decode cX4_used 32 = .ok (.istore_n 1, 1) := by decide +kernel
theorem dX4_used_33 : decode cX4_used 33 = .ok (.iinc 2 1, 3) := by decide +kernel
theorem dX4_used_36 : decode cX4_used 36 = .ok (.goto (-28), 3) := by decide +kernel
theorem dX4_used_39 : decode cX4_used 39 = .ok (.iload_n 1, 1) := by decide +kernel
theorem dX4_used_40 : decode cX4_used 40 = .ok (.ireturn, 1) := by decide +kernel
set_option maxRecDepth 20000 in
theorem ggX4_value_X4_checkKey : GoodIn wsX4_value wsX4_checkKey := goodIn_ca (goodIn_r _ [6, 7, 8, 9, 10, 5, 11] (by decide +kernel) (by decide +kernel)) (goodIn_sub (fun _ h => List.mem_cons_of_mem _ (List.mem_append_left _ (List.mem_append_left _ (List.mem_append_right _ h)))) (by decide +kernel))
set_option maxRecDepth 20000 in
theorem gX4_value_X4_checkKey : GoodIn wsX4_value (va_wsS RX4 90 yX4_checkKey wsX4_checkKey) := goodIn_app (goodIn_of _ (by decide +kernel)) ggX4_value_X4_checkKey
set_option maxRecDepth 20000 in
theorem ggX4_value_X4_checkNode : GoodIn wsX4_value wsX4_checkNode := goodIn_ca (goodIn_r _ [15, 16, 17, 18, 19, 20, 21, 22, 23, 24, 157, 158, 159, 160, 161, 162, 163, 164, 165] (by decide +kernel) (by decide +kernel)) (goodIn_sub (fun _ h => List.mem_cons_of_mem _ (List.mem_append_left _ (List.mem_append_right _ h))) (by decide +kernel))
set_option maxRecDepth 20000 in
theorem gX4_value_X4_checkNode : GoodIn wsX4_value (wsV RX4 110 RX4 yX4_checkNode wsX4_checkNode) := goodIn_app (goodIn_of _ (by decide +kernel)) ggX4_value_X4_checkNode
set_option maxRecDepth 20000 in
theorem ggX4_value_X4_checkPlan : GoodIn wsX4_value wsX4_checkPlan := goodIn_ca (goodIn_r _ [28, 29, 30, 31, 32, 33, 34, 35, 36, 37, 38, 39, 40, 41, 42, 43, 44, 45, 46, 47, 48, 49, 50, 51, 52, 53, 54, 55, 22, 56, 24, 57, 58, 59, 60, 61, 62, 20, 21, 23, 63, 64, 65, 66, 67, 68, 69, 70, 71, 72, 73, 74, 5, 75, 76, 77, 78, 79, 80, 81, 82, 83, 84, 85, 86, 87, 88, 89, 90, 91, 92, 93, 94, 95, 96, 97, 98, 99, 100, 101, 102, 103, 104, 105, 106, 107, 157, 158, 159, 160, 161, 166, 167, 168, 169, 170, 171, 172, 173, 174, 175, 162, 163, 164, 165, 176, 177, 178, 179, 180, 181] (by decide +kernel) (by decide +kernel)) (goodIn_sub (fun _ h => List.mem_cons_of_mem _ (List.mem_append_right _ h)) (by decide +kernel))
set_option maxRecDepth 20000 in
theorem gX4_value_X4_checkPlan : GoodIn wsX4_value (wsV RX4 132 RX4 yX4_checkPlan wsX4_checkPlan) := goodIn_app (goodIn_of _ (by decide +kernel)) ggX4_value_X4_checkPlan
set_option maxRecDepth 20000 in
theorem ggX4_value_X1_failures : GoodIn wsX4_value wsX1_failures := goodIn_r _ [111, 112, 176, 177, 178, 179, 180, 181] (by decide +kernel) (by decide +kernel)
set_option maxRecDepth 20000 in
theorem gX4_value_X1_failures : GoodIn wsX4_value (wsV RX4 144 RX1 yX1_failures wsX1_failures) := goodIn_app (goodIn_of _ (by decide +kernel)) ggX4_value_X1_failures
set_option maxRecDepth 20000 in
theorem ggX4_value_X0_read : GoodIn wsX4_value wsX0_read := goodIn_r _ [117, 118, 119, 120, 116, 121, 122, 123, 124, 125, 126, 127, 128, 54, 55, 22, 56, 24, 129, 58, 59, 60, 61, 62, 20, 21, 23, 130, 131, 104, 105, 35, 106, 44, 102, 107, 85, 5, 86, 132, 64, 65, 66, 67, 133, 134, 135, 71, 136, 137, 74, 75, 10, 11, 138, 139, 140, 141, 142, 143, 46, 47, 48, 144, 145, 146, 147, 148, 149, 150, 151, 152, 182, 183, 184, 185, 186, 187, 188, 162, 163, 164, 165, 166, 167, 168, 169, 170, 171, 172, 173, 174, 175, 176, 177, 178, 179, 180, 181] (by decide +kernel) (by decide +kernel)
set_option maxRecDepth 20000 in
theorem gX4_value_X0_read : GoodIn wsX4_value (wsV RX4 147 RX0 yX0_read wsX0_read) := goodIn_app (goodIn_of _ (by decide +kernel)) ggX4_value_X0_read
set_option maxRecDepth 20000 in
theorem ggX4_value_X0_told : GoodIn wsX4_value wsX0_told := goodIn_r _ [156, 122, 127, 123, 130, 20, 21, 22, 23, 24, 182, 183, 184, 185, 186, 187, 188, 162, 163, 164, 165] (by decide +kernel) (by decide +kernel)
set_option maxRecDepth 20000 in
theorem gX4_value_X0_told : GoodIn wsX4_value (wsV RX4 150 RX0 yX0_told wsX0_told) := goodIn_app (goodIn_of _ (by decide +kernel)) ggX4_value_X0_told
theorem dX4_value_0 : decode cX4_value 0 = .ok (.iload_n 1, 1) := by decide +kernel
theorem dX4_value_1 : decode cX4_value 1 = .ok (.invokestatic 90, 3) := by decide +kernel
theorem dX4_value_4 : decode cX4_value 4 = .ok (.aload_n 0, 1) := by decide +kernel
theorem dX4_value_5 : decode cX4_value 5 = .ok (.iload_n 2, 1) := by decide +kernel
theorem dX4_value_6 : decode cX4_value 6 = .ok (.invokevirtual 110, 3) := by decide +kernel
theorem dX4_value_9 : decode cX4_value 9 = .ok (.aload_n 0, 1) := by decide +kernel
theorem dX4_value_10 : decode cX4_value 10 = .ok (.invokevirtual 132, 3) := by decide +kernel
theorem dX4_value_13 : decode cX4_value 13 = .ok (.aload_n 0, 1) := by decide +kernel
theorem dX4_value_14 : decode cX4_value 14 = .ok (.getfield 37, 3) := by decide +kernel
theorem dX4_value_17 : decode cX4_value 17 = .ok (.iload_n 1, 1) := by decide +kernel
theorem dX4_value_18 : decode cX4_value 18 = .ok (.aload_n 0, 1) := by decide +kernel
theorem dX4_value_19 : decode cX4_value 19 = .ok (.getfield 20, 3) := by decide +kernel
theorem dX4_value_22 : decode cX4_value 22 = .ok (.invokevirtual 144, 3) := by decide +kernel
theorem dX4_value_25 : decode cX4_value 25 = .ok (.invokevirtual 147, 3) := by decide +kernel
theorem dX4_value_28 : decode cX4_value 28 = .ok (.aload_n 0, 1) := by decide +kernel
theorem dX4_value_29 : decode cX4_value 29 = .ok (.getfield 37, 3) := by decide +kernel
theorem dX4_value_32 : decode cX4_value 32 = .ok (.iload_n 2, 1) := by decide +kernel
theorem dX4_value_33 : decode cX4_value 33 = .ok (.invokevirtual 150, 3) := by decide +kernel
theorem dX4_value_36 : decode cX4_value 36 = .ok (.ireturn, 1) := by decide +kernel
set_option maxRecDepth 20000 in
theorem ggX4_isMissing_X4_checkKey : GoodIn wsX4_isMissing wsX4_checkKey := goodIn_ca (goodIn_r _ [6, 7, 8, 9, 10, 5, 11] (by decide +kernel) (by decide +kernel)) (goodIn_sub (fun _ h => List.mem_cons_of_mem _ (List.mem_append_left _ (List.mem_append_right _ h))) (by decide +kernel))
set_option maxRecDepth 20000 in
theorem gX4_isMissing_X4_checkKey : GoodIn wsX4_isMissing (va_wsS RX4 90 yX4_checkKey wsX4_checkKey) := goodIn_app (goodIn_of _ (by decide +kernel)) ggX4_isMissing_X4_checkKey
set_option maxRecDepth 20000 in
theorem ggX4_isMissing_X4_checkPlan : GoodIn wsX4_isMissing wsX4_checkPlan := goodIn_ca (goodIn_r _ [15, 16, 17, 18, 19, 20, 21, 22, 23, 24, 25, 26, 27, 28, 29, 30, 31, 32, 33, 34, 35, 36, 37, 38, 39, 40, 41, 42, 43, 44, 45, 46, 47, 48, 49, 50, 51, 52, 53, 54, 55, 56, 57, 58, 59, 60, 61, 62, 63, 64, 65, 66, 5, 67, 68, 69, 70, 71, 72, 73, 74, 75, 76, 77, 78, 79, 80, 81, 82, 83, 84, 85, 86, 87, 88, 89, 90, 91, 92, 93, 94, 95, 96, 97, 98, 99, 149, 150, 151, 152, 153, 154, 155, 156, 157, 158, 159, 160, 161, 162, 163, 164, 165, 166, 167, 168, 169, 170, 171, 172, 173] (by decide +kernel) (by decide +kernel)) (goodIn_sub (fun _ h => List.mem_cons_of_mem _ (List.mem_append_right _ h)) (by decide +kernel))
set_option maxRecDepth 20000 in
theorem gX4_isMissing_X4_checkPlan : GoodIn wsX4_isMissing (wsV RX4 132 RX4 yX4_checkPlan wsX4_checkPlan) := goodIn_app (goodIn_of _ (by decide +kernel)) ggX4_isMissing_X4_checkPlan
set_option maxRecDepth 20000 in
theorem ggX4_isMissing_X1_failures : GoodIn wsX4_isMissing wsX1_failures := goodIn_r _ [103, 104, 168, 169, 170, 171, 172, 173] (by decide +kernel) (by decide +kernel)
set_option maxRecDepth 20000 in
theorem gX4_isMissing_X1_failures : GoodIn wsX4_isMissing (wsV RX4 144 RX1 yX1_failures wsX1_failures) := goodIn_app (goodIn_of _ (by decide +kernel)) ggX4_isMissing_X1_failures
set_option maxRecDepth 20000 in
theorem ggX4_isMissing_X0_read : GoodIn wsX4_isMissing wsX0_read := goodIn_r _ [109, 110, 111, 112, 108, 113, 114, 115, 116, 117, 118, 119, 120, 41, 42, 43, 44, 45, 121, 47, 48, 49, 50, 51, 52, 53, 54, 122, 123, 96, 97, 22, 98, 31, 94, 99, 77, 5, 78, 124, 56, 57, 58, 59, 125, 126, 127, 63, 128, 129, 66, 67, 10, 11, 130, 131, 132, 133, 134, 135, 33, 34, 35, 136, 137, 138, 139, 140, 141, 142, 143, 144, 174, 175, 176, 177, 178, 179, 180, 164, 165, 166, 167, 154, 155, 156, 157, 158, 159, 160, 161, 162, 163, 168, 169, 170, 171, 172, 173] (by decide +kernel) (by decide +kernel)
set_option maxRecDepth 20000 in
theorem gX4_isMissing_X0_read : GoodIn wsX4_isMissing (wsV RX4 147 RX0 yX0_read wsX0_read) := goodIn_app (goodIn_of _ (by decide +kernel)) ggX4_isMissing_X0_read
set_option maxRecDepth 20000 in
theorem ggX4_isMissing_X0_isAllMissing : GoodIn wsX4_isMissing wsX0_isAllMissing := goodIn_r _ [148, 134, 174, 175, 176, 177, 178, 179, 180] (by decide +kernel) (by decide +kernel)
set_option maxRecDepth 20000 in
theorem gX4_isMissing_X0_isAllMissing : GoodIn wsX4_isMissing (wsV RX4 153 RX0 yX0_isAllMissing wsX0_isAllMissing) := goodIn_app (goodIn_of _ (by decide +kernel)) ggX4_isMissing_X0_isAllMissing
theorem dX4_isMissing_0 : decode cX4_isMissing 0 = .ok (.iload_n 1, 1) := by decide +kernel
theorem dX4_isMissing_1 : decode cX4_isMissing 1 = .ok (.invokestatic 90, 3) := by decide +kernel
theorem dX4_isMissing_4 : decode cX4_isMissing 4 = .ok (.aload_n 0, 1) := by decide +kernel
theorem dX4_isMissing_5 : decode cX4_isMissing 5 = .ok (.invokevirtual 132, 3) := by decide +kernel
theorem dX4_isMissing_8 : decode cX4_isMissing 8 = .ok (.aload_n 0, 1) := by decide +kernel
theorem dX4_isMissing_9 : decode cX4_isMissing 9 = .ok (.getfield 37, 3) := by decide +kernel
theorem dX4_isMissing_12 : decode cX4_isMissing 12 = .ok (.iload_n 1, 1) := by decide +kernel
theorem dX4_isMissing_13 : decode cX4_isMissing 13 = .ok (.aload_n 0, 1) := by decide +kernel
theorem dX4_isMissing_14 : decode cX4_isMissing 14 = .ok (.getfield 20, 3) := by decide +kernel
theorem dX4_isMissing_17 : decode cX4_isMissing 17 = .ok (.invokevirtual 144, 3) := by decide +kernel
theorem dX4_isMissing_20 : decode cX4_isMissing 20 = .ok (.invokevirtual 147, 3) := by decide +kernel
theorem dX4_isMissing_23 : decode cX4_isMissing 23 = .ok (.aload_n 0, 1) := by decide +kernel
theorem dX4_isMissing_24 : decode cX4_isMissing 24 = .ok (.getfield 37, 3) := by decide +kernel
theorem dX4_isMissing_27 : decode cX4_isMissing 27 = .ok (.invokevirtual 153, 3) := by decide +kernel
theorem dX4_isMissing_30 : decode cX4_isMissing 30 = .ok (.ireturn, 1) := by decide +kernel
set_option maxRecDepth 20000 in
theorem ggX4_faults_X4_checkKey : GoodIn wsX4_faults wsX4_checkKey := goodIn_ca (goodIn_r _ [6, 7, 8, 9, 10, 5, 11] (by decide +kernel) (by decide +kernel)) (goodIn_sub (fun _ h => List.mem_cons_of_mem _ (List.mem_append_left _ (List.mem_append_right _ h))) (by decide +kernel))
set_option maxRecDepth 20000 in
theorem gX4_faults_X4_checkKey : GoodIn wsX4_faults (va_wsS RX4 90 yX4_checkKey wsX4_checkKey) := goodIn_app (goodIn_of _ (by decide +kernel)) ggX4_faults_X4_checkKey
set_option maxRecDepth 20000 in
theorem ggX4_faults_X4_checkPlan : GoodIn wsX4_faults wsX4_checkPlan := goodIn_ca (goodIn_r _ [15, 16, 17, 18, 19, 20, 21, 22, 23, 24, 25, 26, 27, 28, 29, 30, 31, 32, 33, 34, 35, 36, 37, 38, 39, 40, 41, 42, 43, 44, 45, 46, 47, 48, 49, 50, 51, 52, 53, 54, 55, 56, 57, 58, 59, 60, 61, 62, 63, 64, 65, 66, 5, 67, 68, 69, 70, 71, 72, 73, 74, 75, 76, 77, 78, 79, 80, 81, 82, 83, 84, 85, 86, 87, 88, 89, 90, 91, 92, 93, 94, 95, 96, 97, 98, 99, 149, 150, 151, 152, 153, 154, 155, 156, 157, 158, 159, 160, 161, 162, 163, 164, 165, 166, 167, 168, 169, 170, 171, 172, 173] (by decide +kernel) (by decide +kernel)) (goodIn_sub (fun _ h => List.mem_cons_of_mem _ (List.mem_append_right _ h)) (by decide +kernel))
set_option maxRecDepth 20000 in
theorem gX4_faults_X4_checkPlan : GoodIn wsX4_faults (wsV RX4 132 RX4 yX4_checkPlan wsX4_checkPlan) := goodIn_app (goodIn_of _ (by decide +kernel)) ggX4_faults_X4_checkPlan
set_option maxRecDepth 20000 in
theorem ggX4_faults_X1_failures : GoodIn wsX4_faults wsX1_failures := goodIn_r _ [103, 104, 168, 169, 170, 171, 172, 173] (by decide +kernel) (by decide +kernel)
set_option maxRecDepth 20000 in
theorem gX4_faults_X1_failures : GoodIn wsX4_faults (wsV RX4 144 RX1 yX1_failures wsX1_failures) := goodIn_app (goodIn_of _ (by decide +kernel)) ggX4_faults_X1_failures
set_option maxRecDepth 20000 in
theorem ggX4_faults_X0_read : GoodIn wsX4_faults wsX0_read := goodIn_r _ [109, 110, 111, 112, 108, 113, 114, 115, 116, 117, 118, 119, 120, 41, 42, 43, 44, 45, 121, 47, 48, 49, 50, 51, 52, 53, 54, 122, 123, 96, 97, 22, 98, 31, 94, 99, 77, 5, 78, 124, 56, 57, 58, 59, 125, 126, 127, 63, 128, 129, 66, 67, 10, 11, 130, 131, 132, 133, 134, 135, 33, 34, 35, 136, 137, 138, 139, 140, 141, 142, 143, 144, 174, 175, 176, 177, 178, 179, 180, 164, 165, 166, 167, 154, 155, 156, 157, 158, 159, 160, 161, 162, 163, 168, 169, 170, 171, 172, 173] (by decide +kernel) (by decide +kernel)
set_option maxRecDepth 20000 in
theorem gX4_faults_X0_read : GoodIn wsX4_faults (wsV RX4 147 RX0 yX0_read wsX0_read) := goodIn_app (goodIn_of _ (by decide +kernel)) ggX4_faults_X0_read
set_option maxRecDepth 20000 in
theorem ggX4_faults_X0_countFaults : GoodIn wsX4_faults wsX0_countFaults := goodIn_r _ [148, 114, 117, 115, 120, 41, 42, 43, 44, 45, 174, 175, 176, 177, 178, 179, 180, 164, 165, 166, 167] (by decide +kernel) (by decide +kernel)
set_option maxRecDepth 20000 in
theorem gX4_faults_X0_countFaults : GoodIn wsX4_faults (wsV RX4 157 RX0 yX0_countFaults wsX0_countFaults) := goodIn_app (goodIn_of _ (by decide +kernel)) ggX4_faults_X0_countFaults
theorem dX4_faults_0 : decode cX4_faults 0 = .ok (.iload_n 1, 1) := by decide +kernel
theorem dX4_faults_1 : decode cX4_faults 1 = .ok (.invokestatic 90, 3) := by decide +kernel
theorem dX4_faults_4 : decode cX4_faults 4 = .ok (.aload_n 0, 1) := by decide +kernel
theorem dX4_faults_5 : decode cX4_faults 5 = .ok (.invokevirtual 132, 3) := by decide +kernel
theorem dX4_faults_8 : decode cX4_faults 8 = .ok (.aload_n 0, 1) := by decide +kernel
theorem dX4_faults_9 : decode cX4_faults 9 = .ok (.getfield 37, 3) := by decide +kernel
theorem dX4_faults_12 : decode cX4_faults 12 = .ok (.iload_n 1, 1) := by decide +kernel
theorem dX4_faults_13 : decode cX4_faults 13 = .ok (.aload_n 0, 1) := by decide +kernel
theorem dX4_faults_14 : decode cX4_faults 14 = .ok (.getfield 20, 3) := by decide +kernel
theorem dX4_faults_17 : decode cX4_faults 17 = .ok (.invokevirtual 144, 3) := by decide +kernel
theorem dX4_faults_20 : decode cX4_faults 20 = .ok (.invokevirtual 147, 3) := by decide +kernel
theorem dX4_faults_23 : decode cX4_faults 23 = .ok (.aload_n 0, 1) := by decide +kernel
theorem dX4_faults_24 : decode cX4_faults 24 = .ok (.getfield 37, 3) := by decide +kernel
theorem dX4_faults_27 : decode cX4_faults 27 = .ok (.invokevirtual 157, 3) := by decide +kernel
theorem dX4_faults_30 : decode cX4_faults 30 = .ok (.ireturn, 1) := by decide +kernel
set_option maxRecDepth 20000 in
theorem ggX4_loaded_X4_checkKey : GoodIn wsX4_loaded wsX4_checkKey := goodIn_ca (goodIn_r _ [10, 1, 2, 11, 12, 9, 13] (by decide +kernel) (by decide +kernel)) (goodIn_sub (fun _ h => List.mem_cons_of_mem _ (List.mem_append_left _ (List.mem_append_left _ (List.mem_append_right _ h)))) (by decide +kernel))
set_option maxRecDepth 20000 in
theorem gX4_loaded_X4_checkKey : GoodIn wsX4_loaded (va_wsS RX4 90 yX4_checkKey wsX4_checkKey) := goodIn_app (goodIn_of _ (by decide +kernel)) ggX4_loaded_X4_checkKey
set_option maxRecDepth 20000 in
theorem ggX4_loaded_X4_checkNode : GoodIn wsX4_loaded wsX4_checkNode := goodIn_ca (goodIn_r _ [17, 18, 19, 20, 21, 22, 23, 24, 25, 26, 174, 175, 176, 177, 178, 179, 180, 181, 182] (by decide +kernel) (by decide +kernel)) (goodIn_sub (fun _ h => List.mem_cons_of_mem _ (List.mem_append_right _ h)) (by decide +kernel))
set_option maxRecDepth 20000 in
theorem gX4_loaded_X4_checkNode : GoodIn wsX4_loaded (wsV RX4 110 RX4 yX4_checkNode wsX4_checkNode) := goodIn_app (goodIn_of _ (by decide +kernel)) ggX4_loaded_X4_checkNode
set_option maxRecDepth 20000 in
theorem ggX4_loaded_X4_typeAt : GoodIn wsX4_loaded wsX4_typeAt := goodIn_r _ [30, 20, 6, 31, 32, 33, 24, 34, 35, 36, 37, 38, 39, 40, 41, 22, 23, 25, 26, 42, 43, 44, 45, 46, 47, 48, 9, 49, 174, 175, 176, 177, 178, 179, 180, 181, 182, 183, 184, 185, 186, 187, 188] (by decide +kernel) (by decide +kernel)
set_option maxRecDepth 20000 in
theorem gX4_loaded_X4_typeAt : GoodIn wsX4_loaded (wsV RX4 113 RX4 yX4_typeAt wsX4_typeAt) := goodIn_app (goodIn_of _ (by decide +kernel)) ggX4_loaded_X4_typeAt
set_option maxRecDepth 20000 in
theorem ggX4_loaded_X4_checkPlan : GoodIn wsX4_loaded wsX4_checkPlan := goodIn_ca (goodIn_r _ [53, 3, 4, 54, 55, 56, 57, 58, 59, 60, 61, 62, 63, 64, 65, 66, 67, 68, 69, 70, 71, 72, 73, 74, 75, 76, 77, 78, 24, 79, 26, 80, 81, 82, 83, 84, 41, 22, 23, 25, 85, 37, 38, 39, 40, 86, 87, 88, 45, 89, 90, 48, 9, 49, 91, 92, 93, 94, 95, 96, 97, 98, 99, 100, 101, 102, 103, 104, 105, 106, 107, 108, 109, 110, 111, 112, 113, 114, 115, 116, 117, 118, 119, 120, 121, 122, 174, 175, 176, 177, 178, 189, 190, 191, 192, 193, 194, 195, 196, 197, 198, 179, 180, 181, 182, 183, 184, 185, 186, 187, 188] (by decide +kernel) (by decide +kernel)) (goodIn_sub (fun _ h => List.mem_cons_of_mem _ (List.mem_append_left _ (List.mem_append_right _ h))) (by decide +kernel))
set_option maxRecDepth 20000 in
theorem gX4_loaded_X4_checkPlan : GoodIn wsX4_loaded (wsV RX4 132 RX4 yX4_checkPlan wsX4_checkPlan) := goodIn_app (goodIn_of _ (by decide +kernel)) ggX4_loaded_X4_checkPlan
set_option maxRecDepth 20000 in
theorem ggX4_loaded_X1_failures : GoodIn wsX4_loaded wsX1_failures := goodIn_r _ [126, 127, 183, 184, 185, 186, 187, 188] (by decide +kernel) (by decide +kernel)
set_option maxRecDepth 20000 in
theorem gX4_loaded_X1_failures : GoodIn wsX4_loaded (wsV RX4 144 RX1 yX1_failures wsX1_failures) := goodIn_app (goodIn_of _ (by decide +kernel)) ggX4_loaded_X1_failures
set_option maxRecDepth 20000 in
theorem ggX4_loaded_X0_read : GoodIn wsX4_loaded wsX0_read := goodIn_r _ [132, 133, 134, 135, 131, 136, 137, 138, 139, 140, 141, 142, 143, 77, 78, 24, 79, 26, 144, 81, 82, 83, 84, 41, 22, 23, 25, 145, 146, 119, 120, 58, 121, 67, 117, 122, 100, 9, 101, 147, 37, 38, 39, 40, 148, 149, 150, 45, 151, 152, 48, 49, 12, 13, 153, 154, 155, 156, 157, 158, 69, 70, 71, 159, 160, 161, 162, 163, 164, 165, 166, 167, 199, 200, 201, 202, 203, 204, 205, 179, 180, 181, 182, 189, 190, 191, 192, 193, 194, 195, 196, 197, 198, 183, 184, 185, 186, 187, 188] (by decide +kernel) (by decide +kernel)
set_option maxRecDepth 20000 in
theorem gX4_loaded_X0_read : GoodIn wsX4_loaded (wsV RX4 147 RX0 yX0_read wsX0_read) := goodIn_app (goodIn_of _ (by decide +kernel)) ggX4_loaded_X0_read
set_option maxRecDepth 20000 in
theorem ggX4_loaded_X0_told : GoodIn wsX4_loaded wsX0_told := goodIn_r _ [171, 137, 142, 138, 145, 22, 23, 24, 25, 26, 199, 200, 201, 202, 203, 204, 205, 179, 180, 181, 182] (by decide +kernel) (by decide +kernel)
set_option maxRecDepth 20000 in
theorem gX4_loaded_X0_told : GoodIn wsX4_loaded (wsV RX4 150 RX0 yX0_told wsX0_told) := goodIn_app (goodIn_of _ (by decide +kernel)) ggX4_loaded_X0_told
set_option maxRecDepth 20000 in
theorem ggX4_loaded_X4_bit : GoodIn wsX4_loaded wsX4_bit := goodIn_r _ [101] (by decide +kernel) (by decide +kernel)
set_option maxRecDepth 20000 in
theorem gX4_loaded_X4_bit : GoodIn wsX4_loaded (va_wsS RX4 141 yX4_bit wsX4_bit) := goodIn_app (goodIn_of _ (by decide +kernel)) ggX4_loaded_X4_bit
set_option maxRecDepth 20000 in
theorem ggX4_loaded_J6_bitCount_0f7a4 : GoodIn wsX4_loaded wsJ6_bitCount_0f7a4 := goodIn_r _ [105, 106, 107, 108] (by decide +kernel) (by decide +kernel)
set_option maxRecDepth 20000 in
theorem gX4_loaded_J6_bitCount_0f7a4 : GoodIn wsX4_loaded (va_wsS RX4 164 yJ6_bitCount_0f7a4 wsJ6_bitCount_0f7a4) := goodIn_app (goodIn_of _ (by decide +kernel)) ggX4_loaded_J6_bitCount_0f7a4
theorem dX4_loaded_0 : decode cX4_loaded 0 = .ok (.iload_n 2, 1) := by decide +kernel
theorem dX4_loaded_1 : decode cX4_loaded 1 = .ok (.invokestatic 90, 3) := by decide +kernel
theorem dX4_loaded_4 : decode cX4_loaded 4 = .ok (.iload_n 3, 1) := by decide +kernel
theorem dX4_loaded_5 : decode cX4_loaded 5 = .ok (.invokestatic 90, 3) := by decide +kernel
theorem dX4_loaded_8 : decode cX4_loaded 8 = .ok (.iload_n 3, 1) := by decide +kernel
theorem dX4_loaded_9 : decode cX4_loaded 9 = .ok (.iload_n 2, 1) := by decide +kernel
theorem dX4_loaded_10 : decode cX4_loaded 10 = .ok (.if_icmp .ge 13, 3) := by decide +kernel
theorem dX4_loaded_13 : decode cX4_loaded 13 = .ok (.new 52, 3) := by decide +kernel
theorem dX4_loaded_16 : decode cX4_loaded 16 = .ok (.dup, 1) := by decide +kernel
theorem dX4_loaded_17 : decode cX4_loaded 17 = .ok (.ldc 160, 2) := by decide +kernel
theorem dX4_loaded_19 : decode cX4_loaded 19 = .ok (.invokespecial 56, 3) := by decide +kernel
theorem dX4_loaded_22 : decode cX4_loaded 22 = .ok (.athrow, 1) := by decide +kernel
theorem dX4_loaded_23 : decode cX4_loaded 23 = .ok (.aload_n 0, 1) := by decide +kernel
theorem dX4_loaded_24 : decode cX4_loaded 24 = .ok (.iload_n 1, 1) := by decide +kernel
theorem dX4_loaded_25 : decode cX4_loaded 25 = .ok (.invokevirtual 110, 3) := by decide +kernel
theorem dX4_loaded_28 : decode cX4_loaded 28 = .ok (.aload_n 0, 1) := by decide +kernel
theorem dX4_loaded_29 : decode cX4_loaded 29 = .ok (.iload_n 1, 1) := by decide +kernel
theorem dX4_loaded_30 : decode cX4_loaded 30 = .ok (.invokevirtual 113, 3) := by decide +kernel
theorem dX4_loaded_33 : decode cX4_loaded 33 = .ok (.iconst (-1), 1) := by decide +kernel
theorem dX4_loaded_34 : decode cX4_loaded 34 = .ok (.if_icmp .ne 13, 3) := by decide +kernel
theorem dX4_loaded_37 : decode cX4_loaded 37 = .ok (.new 63, 3) := by decide +kernel
theorem dX4_loaded_40 : decode cX4_loaded 40 = .ok (.dup, 1) := by decide +kernel
theorem dX4_loaded_41 : decode cX4_loaded 41 = .ok (.ldc 162, 2) := by decide +kernel
theorem dX4_loaded_43 : decode cX4_loaded 43 = .ok (.invokespecial 67, 3) := by decide +kernel
theorem dX4_loaded_46 : decode cX4_loaded 46 = .ok (.athrow, 1) := by decide +kernel
theorem dX4_loaded_47 : decode cX4_loaded 47 = .ok (.aload_n 0, 1) := by decide +kernel
theorem dX4_loaded_48 : decode cX4_loaded 48 = .ok (.invokevirtual 132, 3) := by decide +kernel
theorem dX4_loaded_51 : decode cX4_loaded 51 = .ok (.iconst 0, 1) := by decide +kernel
theorem dX4_loaded_52 : decode cX4_loaded 52 = .ok (.istore 4, 2) := by decide +kernel
theorem dX4_loaded_54 : decode cX4_loaded 54 = .ok (.iload_n 2, 1) := by decide +kernel
theorem dX4_loaded_55 : decode cX4_loaded 55 = .ok (.istore 5, 2) := by decide +kernel
theorem dX4_loaded_57 : decode cX4_loaded 57 = .ok (.iload 5, 2) := by decide +kernel
theorem dX4_loaded_59 : decode cX4_loaded 59 = .ok (.iload_n 3, 1) := by decide +kernel
theorem dX4_loaded_60 : decode cX4_loaded 60 = .ok (.if_icmp .gt 41, 3) := by decide +kernel
theorem dX4_loaded_63 : decode cX4_loaded 63 = .ok (.aload_n 0, 1) := by decide +kernel
theorem dX4_loaded_64 : decode cX4_loaded 64 = .ok (.getfield 37, 3) := by decide +kernel
theorem dX4_loaded_67 : decode cX4_loaded 67 = .ok (.iload 5, 2) := by decide +kernel
theorem dX4_loaded_69 : decode cX4_loaded 69 = .ok (.aload_n 0, 1) := by decide +kernel
theorem dX4_loaded_70 : decode cX4_loaded 70 = .ok (.getfield 20, 3) := by decide +kernel
theorem dX4_loaded_73 : decode cX4_loaded 73 = .ok (.invokevirtual 144, 3) := by decide +kernel
theorem dX4_loaded_76 : decode cX4_loaded 76 = .ok (.invokevirtual 147, 3) := by decide +kernel
theorem dX4_loaded_79 : decode cX4_loaded 79 = .ok (.iload 4, 2) := by decide +kernel
theorem dX4_loaded_81 : decode cX4_loaded 81 = .ok (.aload_n 0, 1) := by decide +kernel
theorem dX4_loaded_82 : decode cX4_loaded 82 = .ok (.getfield 37, 3) := by decide +kernel
theorem dX4_loaded_85 : decode cX4_loaded 85 = .ok (.iload_n 1, 1) := by decide +kernel
theorem dX4_loaded_86 : decode cX4_loaded 86 = .ok (.invokevirtual 150, 3) := by decide +kernel
theorem dX4_loaded_89 : decode cX4_loaded 89 = .ok (.invokestatic 141, 3) := by decide +kernel
theorem dX4_loaded_92 : decode cX4_loaded 92 = .ok (.ior, 1) := by decide +kernel
theorem dX4_loaded_93 : decode cX4_loaded 93 = .ok (.istore 4, 2) := by decide +kernel
theorem dX4_loaded_95 : decode cX4_loaded 95 = .ok (.iinc 5 1, 3) := by decide +kernel
theorem dX4_loaded_98 : decode cX4_loaded 98 = .ok (.goto (-41), 3) := by decide +kernel
theorem dX4_loaded_101 : decode cX4_loaded 101 = .ok (.iload 4, 2) := by decide +kernel
theorem dX4_loaded_103 : decode cX4_loaded 103 = .ok (.invokestatic 164, 3) := by decide +kernel
theorem dX4_loaded_106 : decode cX4_loaded 106 = .ok (.ireturn, 1) := by decide +kernel
set_option maxRecDepth 20000 in
theorem ggX4_harmed_X4_checkPlan : GoodIn wsX4_harmed wsX4_checkPlan := goodIn_ca (goodIn_r _ [8, 9, 10, 11, 12, 13, 14, 15, 16, 17, 18, 19, 20, 21, 22, 23, 24, 25, 26, 27, 28, 29, 30, 31, 32, 33, 34, 35, 36, 37, 38, 39, 40, 41, 42, 43, 44, 45, 46, 47, 48, 49, 50, 51, 52, 53, 54, 55, 56, 57, 58, 59, 7, 60, 61, 62, 63, 64, 65, 66, 67, 68, 69, 70, 71, 72, 73, 74, 75, 76, 77, 78, 79, 80, 81, 82, 83, 84, 85, 86, 87, 88, 89, 90, 91, 92, 152, 153, 154, 155, 156, 157, 158, 159, 160, 161, 162, 163, 164, 165, 166, 167, 168, 169, 170, 171, 172, 173, 174, 175, 176] (by decide +kernel) (by decide +kernel)) (goodIn_sub (fun _ h => List.mem_cons_of_mem _ (List.mem_append_right _ h)) (by decide +kernel))
set_option maxRecDepth 20000 in
theorem gX4_harmed_X4_checkPlan : GoodIn wsX4_harmed (wsV RX4 132 RX4 yX4_checkPlan wsX4_checkPlan) := goodIn_app (goodIn_of _ (by decide +kernel)) ggX4_harmed_X4_checkPlan
set_option maxRecDepth 20000 in
theorem ggX4_harmed_X1_failures : GoodIn wsX4_harmed wsX1_failures := goodIn_r _ [96, 97, 171, 172, 173, 174, 175, 176] (by decide +kernel) (by decide +kernel)
set_option maxRecDepth 20000 in
theorem gX4_harmed_X1_failures : GoodIn wsX4_harmed (wsV RX4 144 RX1 yX1_failures wsX1_failures) := goodIn_app (goodIn_of _ (by decide +kernel)) ggX4_harmed_X1_failures
set_option maxRecDepth 20000 in
theorem ggX4_harmed_X0_read : GoodIn wsX4_harmed wsX0_read := goodIn_r _ [102, 103, 104, 105, 101, 106, 107, 108, 109, 110, 111, 112, 113, 34, 35, 36, 37, 38, 114, 40, 41, 42, 43, 44, 45, 46, 47, 115, 116, 89, 90, 15, 91, 24, 87, 92, 70, 7, 71, 117, 49, 50, 51, 52, 118, 119, 120, 56, 121, 122, 59, 60, 123, 124, 125, 126, 127, 128, 129, 130, 26, 27, 28, 131, 132, 133, 134, 135, 136, 137, 138, 139, 177, 178, 179, 180, 181, 182, 183, 167, 168, 169, 170, 157, 158, 159, 160, 161, 162, 163, 164, 165, 166, 171, 172, 173, 174, 175, 176] (by decide +kernel) (by decide +kernel)
set_option maxRecDepth 20000 in
theorem gX4_harmed_X0_read : GoodIn wsX4_harmed (wsV RX4 147 RX0 yX0_read wsX0_read) := goodIn_app (goodIn_of _ (by decide +kernel)) ggX4_harmed_X0_read
set_option maxRecDepth 20000 in
theorem ggX4_harmed_X0_differsFrom : GoodIn wsX4_harmed wsX0_differsFrom := goodIn_r _ [143, 129, 107, 144, 145, 146, 101, 147, 113, 34, 35, 36, 37, 38, 148, 149, 150, 151, 112, 108, 115, 45, 46, 47, 177, 178, 179, 180, 181, 182, 183, 167, 168, 169, 170] (by decide +kernel) (by decide +kernel)
set_option maxRecDepth 20000 in
theorem gX4_harmed_X0_differsFrom : GoodIn wsX4_harmed (wsV RX4 169 RX0 yX0_differsFrom wsX0_differsFrom) := goodIn_app (goodIn_of _ (by decide +kernel)) ggX4_harmed_X0_differsFrom
theorem dX4_harmed_0 : decode cX4_harmed 0 = .ok (.aload_n 0, 1) := by decide +kernel
theorem dX4_harmed_1 : decode cX4_harmed 1 = .ok (.invokevirtual 132, 3) := by decide +kernel
theorem dX4_harmed_4 : decode cX4_harmed 4 = .ok (.iconst 0, 1) := by decide +kernel
theorem dX4_harmed_5 : decode cX4_harmed 5 = .ok (.istore_n 1, 1) := by decide +kernel
theorem dX4_harmed_6 : decode cX4_harmed 6 = .ok (.iconst 0, 1) := by decide +kernel
theorem dX4_harmed_7 : decode cX4_harmed 7 = .ok (.istore_n 2, 1) := by decide +kernel
theorem dX4_harmed_8 : decode cX4_harmed 8 = .ok (.iload_n 2, 1) := by decide +kernel
theorem dX4_harmed_9 : decode cX4_harmed 9 = .ok (.bipush 20, 2) := by decide +kernel
theorem dX4_harmed_11 : decode cX4_harmed 11 = .ok (.if_icmp .ge 50, 3) := by decide +kernel
theorem dX4_harmed_14 : decode cX4_harmed 14 = .ok (.aload_n 0, 1) := by decide +kernel
theorem dX4_harmed_15 : decode cX4_harmed 15 = .ok (.getfield 37, 3) := by decide +kernel
theorem dX4_harmed_18 : decode cX4_harmed 18 = .ok (.iload_n 2, 1) := by decide +kernel
theorem dX4_harmed_19 : decode cX4_harmed 19 = .ok (.aload_n 0, 1) := by decide +kernel
theorem dX4_harmed_20 : decode cX4_harmed 20 = .ok (.getfield 20, 3) := by decide +kernel
theorem dX4_harmed_23 : decode cX4_harmed 23 = .ok (.invokevirtual 144, 3) := by decide +kernel
theorem dX4_harmed_26 : decode cX4_harmed 26 = .ok (.invokevirtual 147, 3) := by decide +kernel
theorem dX4_harmed_29 : decode cX4_harmed 29 = .ok (.aload_n 0, 1) := by decide +kernel
theorem dX4_harmed_30 : decode cX4_harmed 30 = .ok (.getfield 41, 3) := by decide +kernel
theorem dX4_harmed_33 : decode cX4_harmed 33 = .ok (.iload_n 2, 1) := by decide +kernel
theorem dX4_harmed_34 : decode cX4_harmed 34 = .ok (.iconst 0, 1) := by decide +kernel
theorem dX4_harmed_35 : decode cX4_harmed 35 = .ok (.invokevirtual 147, 3) := by decide +kernel
theorem dX4_harmed_38 : decode cX4_harmed 38 = .ok (.aload_n 0, 1) := by decide +kernel
theorem dX4_harmed_39 : decode cX4_harmed 39 = .ok (.getfield 37, 3) := by decide +kernel
theorem dX4_harmed_42 : decode cX4_harmed 42 = .ok (.aload_n 0, 1) := by decide +kernel
theorem dX4_harmed_43 : decode cX4_harmed 43 = .ok (.getfield 41, 3) := by decide +kernel
theorem dX4_harmed_46 : decode cX4_harmed 46 = .ok (.invokevirtual 169, 3) := by decide +kernel
theorem dX4_harmed_49 : decode cX4_harmed 49 = .ok (.ifCond .eq 6, 3) := by decide +kernel
theorem dX4_harmed_52 : decode cX4_harmed 52 = .ok (.iinc 1 1, 3) := by decide +kernel
theorem dX4_harmed_55 : decode cX4_harmed 55 = .ok (.iinc 2 1, 3) := by decide +kernel
theorem dX4_harmed_58 : decode cX4_harmed 58 = .ok (.goto (-50), 3) := by decide +kernel
theorem dX4_harmed_61 : decode cX4_harmed 61 = .ok (.iload_n 1, 1) := by decide +kernel
theorem dX4_harmed_62 : decode cX4_harmed 62 = .ok (.ireturn, 1) := by decide +kernel
set_option maxRecDepth 20000 in
theorem ggX4_least_X4_checkNode : GoodIn wsX4_least wsX4_checkNode := goodIn_ca (goodIn_r _ [9, 10, 11, 12, 13, 14, 15, 16, 17, 18, 153, 154, 155, 156, 157, 158, 159, 160, 161] (by decide +kernel) (by decide +kernel)) (goodIn_sub (fun _ h => List.mem_cons_of_mem _ (List.mem_append_left _ (List.mem_append_right _ h))) (by decide +kernel))
set_option maxRecDepth 20000 in
theorem gX4_least_X4_checkNode : GoodIn wsX4_least (wsV RX4 110 RX4 yX4_checkNode wsX4_checkNode) := goodIn_app (goodIn_of _ (by decide +kernel)) ggX4_least_X4_checkNode
set_option maxRecDepth 20000 in
theorem ggX4_least_X4_checkPlan : GoodIn wsX4_least wsX4_checkPlan := goodIn_ca (goodIn_r _ [22, 23, 24, 25, 26, 27, 28, 29, 30, 31, 32, 33, 34, 35, 36, 37, 38, 39, 40, 41, 42, 43, 44, 45, 46, 47, 48, 49, 16, 50, 18, 51, 52, 53, 54, 55, 56, 14, 15, 17, 57, 58, 59, 60, 61, 62, 63, 64, 65, 66, 67, 68, 8, 69, 70, 71, 72, 73, 74, 75, 76, 77, 78, 79, 80, 81, 82, 83, 84, 85, 86, 87, 88, 89, 90, 91, 92, 93, 94, 95, 96, 97, 98, 99, 100, 101, 153, 154, 155, 156, 157, 162, 163, 164, 165, 166, 167, 168, 169, 170, 171, 158, 159, 160, 161, 172, 173, 174, 175, 176, 177] (by decide +kernel) (by decide +kernel)) (goodIn_sub (fun _ h => List.mem_cons_of_mem _ (List.mem_append_right _ h)) (by decide +kernel))
set_option maxRecDepth 20000 in
theorem gX4_least_X4_checkPlan : GoodIn wsX4_least (wsV RX4 132 RX4 yX4_checkPlan wsX4_checkPlan) := goodIn_app (goodIn_of _ (by decide +kernel)) ggX4_least_X4_checkPlan
set_option maxRecDepth 20000 in
theorem ggX4_least_X1_failures : GoodIn wsX4_least wsX1_failures := goodIn_r _ [105, 106, 172, 173, 174, 175, 176, 177] (by decide +kernel) (by decide +kernel)
set_option maxRecDepth 20000 in
theorem gX4_least_X1_failures : GoodIn wsX4_least (wsV RX4 144 RX1 yX1_failures wsX1_failures) := goodIn_app (goodIn_of _ (by decide +kernel)) ggX4_least_X1_failures
set_option maxRecDepth 20000 in
theorem ggX4_least_X0_read : GoodIn wsX4_least wsX0_read := goodIn_r _ [111, 112, 113, 114, 110, 115, 116, 117, 118, 119, 120, 121, 122, 48, 49, 16, 50, 18, 123, 52, 53, 54, 55, 56, 14, 15, 17, 124, 125, 98, 99, 29, 100, 38, 96, 101, 79, 8, 80, 126, 58, 59, 60, 61, 127, 128, 129, 65, 130, 131, 68, 69, 132, 133, 134, 135, 136, 137, 138, 139, 40, 41, 42, 140, 141, 142, 143, 144, 145, 146, 147, 148, 178, 179, 180, 181, 182, 183, 184, 158, 159, 160, 161, 162, 163, 164, 165, 166, 167, 168, 169, 170, 171, 172, 173, 174, 175, 176, 177] (by decide +kernel) (by decide +kernel)
set_option maxRecDepth 20000 in
theorem gX4_least_X0_read : GoodIn wsX4_least (wsV RX4 147 RX0 yX0_read wsX0_read) := goodIn_app (goodIn_of _ (by decide +kernel)) ggX4_least_X0_read
set_option maxRecDepth 20000 in
theorem ggX4_least_X0_told : GoodIn wsX4_least wsX0_told := goodIn_r _ [152, 116, 121, 117, 124, 14, 15, 16, 17, 18, 178, 179, 180, 181, 182, 183, 184, 158, 159, 160, 161] (by decide +kernel) (by decide +kernel)
set_option maxRecDepth 20000 in
theorem gX4_least_X0_told : GoodIn wsX4_least (wsV RX4 150 RX0 yX0_told wsX0_told) := goodIn_app (goodIn_of _ (by decide +kernel)) ggX4_least_X0_told
theorem dX4_least_0 : decode cX4_least 0 = .ok (.aload_n 0, 1) := by decide +kernel
theorem dX4_least_1 : decode cX4_least 1 = .ok (.iload_n 1, 1) := by decide +kernel
theorem dX4_least_2 : decode cX4_least 2 = .ok (.invokevirtual 110, 3) := by decide +kernel
theorem dX4_least_5 : decode cX4_least 5 = .ok (.aload_n 0, 1) := by decide +kernel
theorem dX4_least_6 : decode cX4_least 6 = .ok (.invokevirtual 132, 3) := by decide +kernel
theorem dX4_least_9 : decode cX4_least 9 = .ok (.iconst (-1), 1) := by decide +kernel
theorem dX4_least_10 : decode cX4_least 10 = .ok (.istore_n 2, 1) := by decide +kernel
theorem dX4_least_11 : decode cX4_least 11 = .ok (.iconst (-1), 1) := by decide +kernel
theorem dX4_least_12 : decode cX4_least 12 = .ok (.istore_n 3, 1) := by decide +kernel
theorem dX4_least_13 : decode cX4_least 13 = .ok (.iconst 0, 1) := by decide +kernel
theorem dX4_least_14 : decode cX4_least 14 = .ok (.istore 4, 2) := by decide +kernel
theorem dX4_least_16 : decode cX4_least 16 = .ok (.iload 4, 2) := by decide +kernel
theorem dX4_least_18 : decode cX4_least 18 = .ok (.bipush 20, 2) := by decide +kernel
theorem dX4_least_20 : decode cX4_least 20 = .ok (.if_icmp .ge 58, 3) := by decide +kernel
theorem dX4_least_23 : decode cX4_least 23 = .ok (.aload_n 0, 1) := by decide +kernel
theorem dX4_least_24 : decode cX4_least 24 = .ok (.getfield 37, 3) := by decide +kernel
theorem dX4_least_27 : decode cX4_least 27 = .ok (.iload 4, 2) := by decide +kernel
theorem dX4_least_29 : decode cX4_least 29 = .ok (.aload_n 0, 1) := by decide +kernel
theorem dX4_least_30 : decode cX4_least 30 = .ok (.getfield 20, 3) := by decide +kernel
theorem dX4_least_33 : decode cX4_least 33 = .ok (.invokevirtual 144, 3) := by decide +kernel
theorem dX4_least_36 : decode cX4_least 36 = .ok (.invokevirtual 147, 3) := by decide +kernel
theorem dX4_least_39 : decode cX4_least 39 = .ok (.aload_n 0, 1) := by decide +kernel
theorem dX4_least_40 : decode cX4_least 40 = .ok (.getfield 37, 3) := by decide +kernel
theorem dX4_least_43 : decode cX4_least 43 = .ok (.iload_n 1, 1) := by decide +kernel
theorem dX4_least_44 : decode cX4_least 44 = .ok (.invokevirtual 150, 3) := by decide +kernel
theorem dX4_least_47 : decode cX4_least 47 = .ok (.istore 5, 2) := by decide +kernel
theorem dX4_least_49 : decode cX4_least 49 = .ok (.iload 5, 2) := by decide +kernel
theorem dX4_least_51 : decode cX4_least 51 = .ok (.iconst (-1), 1) := by decide +kernel
theorem dX4_least_52 : decode cX4_least 52 = .ok (.if_icmp .eq 20, 3) := by decide +kernel
theorem dX4_least_55 : decode cX4_least 55 = .ok (.iload_n 2, 1) := by decide +kernel
theorem dX4_least_56 : decode cX4_least 56 = .ok (.iconst (-1), 1) := by decide +kernel
theorem dX4_least_57 : decode cX4_least 57 = .ok (.if_icmp .eq 9, 3) := by decide +kernel
theorem dX4_least_60 : decode cX4_least 60 = .ok (.iload 5, 2) := by decide +kernel
theorem dX4_least_62 : decode cX4_least 62 = .ok (.iload_n 3, 1) := by decide +kernel
theorem dX4_least_63 : decode cX4_least 63 = .ok (.if_icmp .ge 9, 3) := by decide +kernel
theorem dX4_least_66 : decode cX4_least 66 = .ok (.iload 4, 2) := by decide +kernel
theorem dX4_least_68 : decode cX4_least 68 = .ok (.istore_n 2, 1) := by decide +kernel
theorem dX4_least_69 : decode cX4_least 69 = .ok (.iload 5, 2) := by decide +kernel
theorem dX4_least_71 : decode cX4_least 71 = .ok (.istore_n 3, 1) := by decide +kernel
theorem dX4_least_72 : decode cX4_least 72 = .ok (.iinc 4 1, 3) := by decide +kernel
theorem dX4_least_75 : decode cX4_least 75 = .ok (.goto (-59), 3) := by decide +kernel
theorem dX4_least_78 : decode cX4_least 78 = .ok (.iload_n 2, 1) := by decide +kernel
theorem dX4_least_79 : decode cX4_least 79 = .ok (.iconst (-1), 1) := by decide +kernel
theorem dX4_least_80 : decode cX4_least 80 = .ok (.if_icmp .ne 13, 3) := by decide +kernel
theorem dX4_least_83 : decode cX4_least 83 = .ok (.new 173, 3) := by decide +kernel
theorem dX4_least_86 : decode cX4_least 86 = .ok (.dup, 1) := by decide +kernel
theorem dX4_least_87 : decode cX4_least 87 = .ok (.ldc 175, 2) := by decide +kernel
theorem dX4_least_89 : decode cX4_least 89 = .ok (.invokespecial 177, 3) := by decide +kernel
theorem dX4_least_92 : decode cX4_least 92 = .ok (.athrow, 1) := by decide +kernel
theorem dX4_least_93 : decode cX4_least 93 = .ok (.iload_n 2, 1) := by decide +kernel
theorem dX4_least_94 : decode cX4_least 94 = .ok (.ireturn, 1) := by decide +kernel
theorem dX4_isService_0 : decode cX4_isService 0 = .ok (.iload_n 0, 1) := by decide +kernel
theorem dX4_isService_1 : decode cX4_isService 1 = .ok (.ifCond .lt 12, 3) := by decide +kernel
theorem dX4_isService_4 : decode cX4_isService 4 = .ok (.iload_n 0, 1) := by decide +kernel
theorem dX4_isService_5 : decode cX4_isService 5 = .ok (.iconst 4, 1) := by decide +kernel
theorem dX4_isService_6 : decode cX4_isService 6 = .ok (.if_icmp .ge 7, 3) := by decide +kernel
theorem dX4_isService_9 : decode cX4_isService 9 = .ok (.iconst 1, 1) := by decide +kernel
theorem dX4_isService_10 : decode cX4_isService 10 = .ok (.goto 4, 3) := by decide +kernel
theorem dX4_isService_13 : decode cX4_isService 13 = .ok (.iconst 0, 1) := by decide +kernel
theorem dX4_isService_14 : decode cX4_isService 14 = .ok (.ireturn, 1) := by decide +kernel
theorem dX4_isType_0 : decode cX4_isType 0 = .ok (.iload_n 0, 1) := by decide +kernel
theorem dX4_isType_1 : decode cX4_isType 1 = .ok (.ifCond .lt 12, 3) := by decide +kernel
theorem dX4_isType_4 : decode cX4_isType 4 = .ok (.iload_n 0, 1) := by decide +kernel
theorem dX4_isType_5 : decode cX4_isType 5 = .ok (.iconst 4, 1) := by decide +kernel
theorem dX4_isType_6 : decode cX4_isType 6 = .ok (.if_icmp .ge 7, 3) := by decide +kernel
theorem dX4_isType_9 : decode cX4_isType 9 = .ok (.iconst 1, 1) := by decide +kernel
theorem dX4_isType_10 : decode cX4_isType 10 = .ok (.goto 4, 3) := by decide +kernel
theorem dX4_isType_13 : decode cX4_isType 13 = .ok (.iconst 0, 1) := by decide +kernel
theorem dX4_isType_14 : decode cX4_isType 14 = .ok (.ireturn, 1) := by decide +kernel
theorem dX4_isKey_0 : decode cX4_isKey 0 = .ok (.iload_n 0, 1) := by decide +kernel
theorem dX4_isKey_1 : decode cX4_isKey 1 = .ok (.ifCond .lt 13, 3) := by decide +kernel
theorem dX4_isKey_4 : decode cX4_isKey 4 = .ok (.iload_n 0, 1) := by decide +kernel
theorem dX4_isKey_5 : decode cX4_isKey 5 = .ok (.bipush 20, 2) := by decide +kernel
theorem dX4_isKey_7 : decode cX4_isKey 7 = .ok (.if_icmp .ge 7, 3) := by decide +kernel
theorem dX4_isKey_10 : decode cX4_isKey 10 = .ok (.iconst 1, 1) := by decide +kernel
theorem dX4_isKey_11 : decode cX4_isKey 11 = .ok (.goto 4, 3) := by decide +kernel
theorem dX4_isKey_14 : decode cX4_isKey 14 = .ok (.iconst 0, 1) := by decide +kernel
theorem dX4_isKey_15 : decode cX4_isKey 15 = .ok (.ireturn, 1) := by decide +kernel
theorem dX4_isSlot_0 : decode cX4_isSlot 0 = .ok (.iload_n 0, 1) := by decide +kernel
theorem dX4_isSlot_1 : decode cX4_isSlot 1 = .ok (.ifCond .lt 13, 3) := by decide +kernel
theorem dX4_isSlot_4 : decode cX4_isSlot 4 = .ok (.iload_n 0, 1) := by decide +kernel
theorem dX4_isSlot_5 : decode cX4_isSlot 5 = .ok (.bipush 32, 2) := by decide +kernel
theorem dX4_isSlot_7 : decode cX4_isSlot 7 = .ok (.if_icmp .ge 7, 3) := by decide +kernel
theorem dX4_isSlot_10 : decode cX4_isSlot 10 = .ok (.iconst 1, 1) := by decide +kernel
theorem dX4_isSlot_11 : decode cX4_isSlot 11 = .ok (.goto 4, 3) := by decide +kernel
theorem dX4_isSlot_14 : decode cX4_isSlot 14 = .ok (.iconst 0, 1) := by decide +kernel
theorem dX4_isSlot_15 : decode cX4_isSlot 15 = .ok (.ireturn, 1) := by decide +kernel
theorem dX4_slotOf_0 : decode cX4_slotOf 0 = .ok (.iload_n 0, 1) := by decide +kernel
theorem dX4_slotOf_1 : decode cX4_slotOf 1 = .ok (.bipush 8, 2) := by decide +kernel
theorem dX4_slotOf_3 : decode cX4_slotOf 3 = .ok (.imul, 1) := by decide +kernel
theorem dX4_slotOf_4 : decode cX4_slotOf 4 = .ok (.iload_n 1, 1) := by decide +kernel
theorem dX4_slotOf_5 : decode cX4_slotOf 5 = .ok (.iadd, 1) := by decide +kernel
theorem dX4_slotOf_6 : decode cX4_slotOf 6 = .ok (.ireturn, 1) := by decide +kernel
theorem dX4_bit_0 : decode cX4_bit 0 = .ok (.iload_n 0, 1) := by decide +kernel
theorem dX4_bit_1 : decode cX4_bit 1 = .ok (.ifCond .ge 7, 3) := by decide +kernel
theorem dX4_bit_4 : decode cX4_bit 4 = .ok (.iconst 0, 1) := by decide +kernel
theorem dX4_bit_5 : decode cX4_bit 5 = .ok (.goto 6, 3) := by decide +kernel
theorem dX4_bit_8 : decode cX4_bit 8 = .ok (.iconst 1, 1) := by decide +kernel
theorem dX4_bit_9 : decode cX4_bit 9 = .ok (.iload_n 0, 1) := by decide +kernel
theorem dX4_bit_10 : decode cX4_bit 10 = .ok (.ishl, 1) := by decide +kernel
theorem dX4_bit_11 : decode cX4_bit 11 = .ok (.ireturn, 1) := by decide +kernel
set_option maxRecDepth 20000 in
theorem ggX4_checkService_X4_isService : GoodIn wsX4_checkService wsX4_isService := goodIn_r _ [6] (by decide +kernel) (by decide +kernel)
set_option maxRecDepth 20000 in
theorem gX4_checkService_X4_isService : GoodIn wsX4_checkService (va_wsS RX4 178 yX4_isService wsX4_isService) := goodIn_app (goodIn_of _ (by decide +kernel)) ggX4_checkService_X4_isService
theorem dX4_checkService_0 : decode cX4_checkService 0 = .ok (.iload_n 0, 1) := by decide +kernel
theorem dX4_checkService_1 : decode cX4_checkService 1 = .ok (.invokestatic 178, 3) := by decide +kernel
theorem dX4_checkService_4 : decode cX4_checkService 4 = .ok (.ifCond .ne 13, 3) := by decide +kernel
theorem dX4_checkService_7 : decode cX4_checkService 7 = .ok (.new 52, 3) := by decide +kernel
theorem dX4_checkService_10 : decode cX4_checkService 10 = .ok (.dup, 1) := by decide +kernel
theorem dX4_checkService_11 : decode cX4_checkService 11 = .ok (.ldc 181, 2) := by decide +kernel
theorem dX4_checkService_13 : decode cX4_checkService 13 = .ok (.invokespecial 56, 3) := by decide +kernel
theorem dX4_checkService_16 : decode cX4_checkService 16 = .ok (.athrow, 1) := by decide +kernel
theorem dX4_checkService_17 : decode cX4_checkService 17 = .ok (.return_, 1) := by decide +kernel
set_option maxRecDepth 20000 in
theorem ggX4_checkType_X4_isType : GoodIn wsX4_checkType wsX4_isType := goodIn_r _ [6] (by decide +kernel) (by decide +kernel)
set_option maxRecDepth 20000 in
theorem gX4_checkType_X4_isType : GoodIn wsX4_checkType (va_wsS RX4 48 yX4_isType wsX4_isType) := goodIn_app (goodIn_of _ (by decide +kernel)) ggX4_checkType_X4_isType
theorem dX4_checkType_0 : decode cX4_checkType 0 = .ok (.iload_n 0, 1) := by decide +kernel
theorem dX4_checkType_1 : decode cX4_checkType 1 = .ok (.invokestatic 48, 3) := by decide +kernel
theorem dX4_checkType_4 : decode cX4_checkType 4 = .ok (.ifCond .ne 13, 3) := by decide +kernel
theorem dX4_checkType_7 : decode cX4_checkType 7 = .ok (.new 52, 3) := by decide +kernel
theorem dX4_checkType_10 : decode cX4_checkType 10 = .ok (.dup, 1) := by decide +kernel
theorem dX4_checkType_11 : decode cX4_checkType 11 = .ok (.ldc 183, 2) := by decide +kernel
theorem dX4_checkType_13 : decode cX4_checkType 13 = .ok (.invokespecial 56, 3) := by decide +kernel
theorem dX4_checkType_16 : decode cX4_checkType 16 = .ok (.athrow, 1) := by decide +kernel
theorem dX4_checkType_17 : decode cX4_checkType 17 = .ok (.return_, 1) := by decide +kernel
set_option maxRecDepth 20000 in
theorem ggX4_checkKey_X4_isKey : GoodIn wsX4_checkKey wsX4_isKey := goodIn_r _ [6] (by decide +kernel) (by decide +kernel)
set_option maxRecDepth 20000 in
theorem gX4_checkKey_X4_isKey : GoodIn wsX4_checkKey (va_wsS RX4 185 yX4_isKey wsX4_isKey) := goodIn_app (goodIn_of _ (by decide +kernel)) ggX4_checkKey_X4_isKey
theorem dX4_checkKey_0 : decode cX4_checkKey 0 = .ok (.iload_n 0, 1) := by decide +kernel
theorem dX4_checkKey_1 : decode cX4_checkKey 1 = .ok (.invokestatic 185, 3) := by decide +kernel
theorem dX4_checkKey_4 : decode cX4_checkKey 4 = .ok (.ifCond .ne 13, 3) := by decide +kernel
theorem dX4_checkKey_7 : decode cX4_checkKey 7 = .ok (.new 52, 3) := by decide +kernel
theorem dX4_checkKey_10 : decode cX4_checkKey 10 = .ok (.dup, 1) := by decide +kernel
theorem dX4_checkKey_11 : decode cX4_checkKey 11 = .ok (.ldc 188, 2) := by decide +kernel
theorem dX4_checkKey_13 : decode cX4_checkKey 13 = .ok (.invokespecial 56, 3) := by decide +kernel
theorem dX4_checkKey_16 : decode cX4_checkKey 16 = .ok (.athrow, 1) := by decide +kernel
theorem dX4_checkKey_17 : decode cX4_checkKey 17 = .ok (.return_, 1) := by decide +kernel
set_option maxRecDepth 20000 in
theorem ggX4_checkField_X1_fieldsOf : GoodIn wsX4_checkField wsX1_fieldsOf := goodIn_r _ [8, 9, 10, 11, 12, 18, 19, 20, 21, 22, 23] (by decide +kernel) (by decide +kernel)
set_option maxRecDepth 20000 in
theorem gX4_checkField_X1_fieldsOf : GoodIn wsX4_checkField (wsV RX4 59 RX1 yX1_fieldsOf wsX1_fieldsOf) := goodIn_app (goodIn_of _ (by decide +kernel)) ggX4_checkField_X1_fieldsOf
theorem dX4_checkField_0 : decode cX4_checkField 0 = .ok (.iload_n 2, 1) := by decide +kernel
theorem dX4_checkField_1 : decode cX4_checkField 1 = .ok (.ifCond .lt 15, 3) := by decide +kernel
theorem dX4_checkField_4 : decode cX4_checkField 4 = .ok (.iload_n 2, 1) := by decide +kernel
theorem dX4_checkField_5 : decode cX4_checkField 5 = .ok (.aload_n 0, 1) := by decide +kernel
theorem dX4_checkField_6 : decode cX4_checkField 6 = .ok (.getfield 20, 3) := by decide +kernel
theorem dX4_checkField_9 : decode cX4_checkField 9 = .ok (.iload_n 1, 1) := by decide +kernel
theorem dX4_checkField_10 : decode cX4_checkField 10 = .ok (.invokevirtual 59, 3) := by decide +kernel
theorem dX4_checkField_13 : decode cX4_checkField 13 = .ok (.if_icmp .lt 13, 3) := by decide +kernel
theorem dX4_checkField_16 : decode cX4_checkField 16 = .ok (.new 190, 3) := by decide +kernel
theorem dX4_checkField_19 : decode cX4_checkField 19 = .ok (.dup, 1) := by decide +kernel
theorem dX4_checkField_20 : decode cX4_checkField 20 = .ok (.ldc 192, 2) := by decide +kernel
theorem dX4_checkField_22 : decode cX4_checkField 22 = .ok (.invokespecial 194, 3) := by decide +kernel
theorem dX4_checkField_25 : decode cX4_checkField 25 = .ok (.athrow, 1) := by decide +kernel
theorem dX4_checkField_26 : decode cX4_checkField 26 = .ok (.return_, 1) := by decide +kernel
set_option maxRecDepth 20000 in
theorem ggX4_checkNode_X3_has : GoodIn wsX4_checkNode wsX3_has := goodIn_r _ [8, 9, 15, 16, 17, 18] (by decide +kernel) (by decide +kernel)
set_option maxRecDepth 20000 in
theorem gX4_checkNode_X3_has : GoodIn wsX4_checkNode (wsV RX4 195 RX3 yX3_has wsX3_has) := goodIn_app (goodIn_of _ (by decide +kernel)) ggX4_checkNode_X3_has
theorem dX4_checkNode_0 : decode cX4_checkNode 0 = .ok (.aload_n 0, 1) := by decide +kernel
theorem dX4_checkNode_1 : decode cX4_checkNode 1 = .ok (.getfield 24, 3) := by decide +kernel
theorem dX4_checkNode_4 : decode cX4_checkNode 4 = .ok (.iload_n 1, 1) := by decide +kernel
theorem dX4_checkNode_5 : decode cX4_checkNode 5 = .ok (.invokevirtual 195, 3) := by decide +kernel
theorem dX4_checkNode_8 : decode cX4_checkNode 8 = .ok (.ifCond .ne 13, 3) := by decide +kernel
theorem dX4_checkNode_11 : decode cX4_checkNode 11 = .ok (.new 190, 3) := by decide +kernel
theorem dX4_checkNode_14 : decode cX4_checkNode 14 = .ok (.dup, 1) := by decide +kernel
theorem dX4_checkNode_15 : decode cX4_checkNode 15 = .ok (.ldc 198, 2) := by decide +kernel
theorem dX4_checkNode_17 : decode cX4_checkNode 17 = .ok (.invokespecial 194, 3) := by decide +kernel
theorem dX4_checkNode_20 : decode cX4_checkNode 20 = .ok (.athrow, 1) := by decide +kernel
theorem dX4_checkNode_21 : decode cX4_checkNode 21 = .ok (.return_, 1) := by decide +kernel
set_option maxRecDepth 20000 in
theorem ggX4_checkPlan_X2_find : GoodIn wsX4_checkPlan wsX2_find := goodIn_r _ [8, 9, 10, 11, 12, 13, 14, 7, 15, 16, 17, 18, 19, 20, 21, 22, 23, 24, 25, 26, 27, 28, 29, 30, 31, 32, 33, 34, 35, 36, 37, 38, 39, 40, 41, 42, 43, 44, 45, 46, 47, 48, 49, 50, 51, 52, 53, 54, 55, 56, 57, 58, 59, 60, 61, 62, 63, 64, 65, 66, 67, 68, 69, 70, 71, 72, 73, 74, 75, 76, 77, 78, 79, 80, 81, 82, 83, 84, 85, 91, 92, 93, 94, 95, 96, 97, 98, 99, 100, 101, 102, 103, 104, 105, 106, 107, 108, 109, 110] (by decide +kernel) (by decide +kernel)
set_option maxRecDepth 20000 in
theorem gX4_checkPlan_X2_find : GoodIn wsX4_checkPlan (wsV RX4 200 RX2 yX2_find wsX2_find) := goodIn_app (goodIn_of _ (by decide +kernel)) ggX4_checkPlan_X2_find
theorem dX4_checkPlan_0 : decode cX4_checkPlan 0 = .ok (.aload_n 0, 1) := by decide +kernel
theorem dX4_checkPlan_1 : decode cX4_checkPlan 1 = .ok (.getfield 28, 3) := by decide +kernel
theorem dX4_checkPlan_4 : decode cX4_checkPlan 4 = .ok (.invokevirtual 200, 3) := by decide +kernel
theorem dX4_checkPlan_7 : decode cX4_checkPlan 7 = .ok (.ifCond .ne 13, 3) := by decide +kernel
theorem dX4_checkPlan_10 : decode cX4_checkPlan 10 = .ok (.new 63, 3) := by decide +kernel
theorem dX4_checkPlan_13 : decode cX4_checkPlan 13 = .ok (.dup, 1) := by decide +kernel
theorem dX4_checkPlan_14 : decode cX4_checkPlan 14 = .ok (.ldc 203, 2) := by decide +kernel
theorem dX4_checkPlan_16 : decode cX4_checkPlan 16 = .ok (.invokespecial 67, 3) := by decide +kernel
theorem dX4_checkPlan_19 : decode cX4_checkPlan 19 = .ok (.athrow, 1) := by decide +kernel
theorem dX4_checkPlan_20 : decode cX4_checkPlan 20 = .ok (.return_, 1) := by decide +kernel
set_option maxRecDepth 20000 in
theorem ggX4_typeAt_X3_type : GoodIn wsX4_typeAt wsX3_type := goodIn_r _ [7, 8, 33, 34, 35, 36] (by decide +kernel) (by decide +kernel)
set_option maxRecDepth 20000 in
theorem gX4_typeAt_X3_type : GoodIn wsX4_typeAt (wsV RX4 205 RX3 yX3_type wsX3_type) := goodIn_app (goodIn_of _ (by decide +kernel)) ggX4_typeAt_X3_type
set_option maxRecDepth 20000 in
theorem ggX4_typeAt_X3_slotAt : GoodIn wsX4_typeAt wsX3_slotAt := goodIn_r _ [12, 13, 14, 15, 16, 6, 17, 18, 33, 34, 35, 36] (by decide +kernel) (by decide +kernel)
set_option maxRecDepth 20000 in
theorem gX4_typeAt_X3_slotAt : GoodIn wsX4_typeAt (wsV RX4 129 RX3 yX3_slotAt wsX3_slotAt) := goodIn_app (goodIn_of _ (by decide +kernel)) ggX4_typeAt_X3_slotAt
set_option maxRecDepth 20000 in
theorem ggX4_typeAt_X1_leadsOf : GoodIn wsX4_typeAt wsX1_leadsOf := goodIn_r _ [23, 24, 25, 26, 27, 37, 38, 39, 40, 41, 42] (by decide +kernel) (by decide +kernel)
set_option maxRecDepth 20000 in
theorem gX4_typeAt_X1_leadsOf : GoodIn wsX4_typeAt (wsV RX4 208 RX1 yX1_leadsOf wsX1_leadsOf) := goodIn_app (goodIn_of _ (by decide +kernel)) ggX4_typeAt_X1_leadsOf
theorem dX4_typeAt_0 : decode cX4_typeAt 0 = .ok (.iload_n 1, 1) := by decide +kernel
theorem dX4_typeAt_1 : decode cX4_typeAt 1 = .ok (.iconst (-1), 1) := by decide +kernel
theorem dX4_typeAt_2 : decode cX4_typeAt 2 = .ok (.if_icmp .ne 13, 3) := by decide +kernel
theorem dX4_typeAt_5 : decode cX4_typeAt 5 = .ok (.aload_n 0, 1) := by decide +kernel
theorem dX4_typeAt_6 : decode cX4_typeAt 6 = .ok (.getfield 24, 3) := by decide +kernel
theorem dX4_typeAt_9 : decode cX4_typeAt 9 = .ok (.invokevirtual 205, 3) := by decide +kernel
theorem dX4_typeAt_12 : decode cX4_typeAt 12 = .ok (.goto 18, 3) := by decide +kernel
theorem dX4_typeAt_15 : decode cX4_typeAt 15 = .ok (.aload_n 0, 1) := by decide +kernel
theorem dX4_typeAt_16 : decode cX4_typeAt 16 = .ok (.getfield 20, 3) := by decide +kernel
theorem dX4_typeAt_19 : decode cX4_typeAt 19 = .ok (.aload_n 0, 1) := by decide +kernel
theorem dX4_typeAt_20 : decode cX4_typeAt 20 = .ok (.getfield 24, 3) := by decide +kernel
theorem dX4_typeAt_23 : decode cX4_typeAt 23 = .ok (.iload_n 1, 1) := by decide +kernel
theorem dX4_typeAt_24 : decode cX4_typeAt 24 = .ok (.invokevirtual 129, 3) := by decide +kernel
theorem dX4_typeAt_27 : decode cX4_typeAt 27 = .ok (.invokevirtual 208, 3) := by decide +kernel
theorem dX4_typeAt_30 : decode cX4_typeAt 30 = .ok (.ireturn, 1) := by decide +kernel
theorem dX5_init_0 : decode cX5_init 0 = .ok (.aload_n 0, 1) := by decide +kernel
theorem dX5_init_1 : decode cX5_init 1 = .ok (.invokespecial 1, 3) := by decide +kernel
theorem dX5_init_4 : decode cX5_init 4 = .ok (.aload_n 0, 1) := by decide +kernel
theorem dX5_init_5 : decode cX5_init 5 = .ok (.iconst 4, 1) := by decide +kernel
theorem dX5_init_6 : decode cX5_init 6 = .ok (.newarray .int, 2) := by decide +kernel
theorem dX5_init_8 : decode cX5_init 8 = .ok (.putfield 7, 3) := by decide +kernel
theorem dX5_init_11 : decode cX5_init 11 = .ok (.aload_n 0, 1) := by decide +kernel
theorem dX5_init_12 : decode cX5_init 12 = .ok (.bipush 32, 2) := by decide +kernel
theorem dX5_init_14 : decode cX5_init 14 = .ok (.newarray .int, 2) := by decide +kernel
theorem dX5_init_16 : decode cX5_init 16 = .ok (.putfield 13, 3) := by decide +kernel
theorem dX5_init_19 : decode cX5_init 19 = .ok (.aload_n 0, 1) := by decide +kernel
theorem dX5_init_20 : decode cX5_init 20 = .ok (.bipush 32, 2) := by decide +kernel
theorem dX5_init_22 : decode cX5_init 22 = .ok (.newarray .boolean, 2) := by decide +kernel
theorem dX5_init_24 : decode cX5_init 24 = .ok (.putfield 16, 3) := by decide +kernel
theorem dX5_init_27 : decode cX5_init 27 = .ok (.aload_n 0, 1) := by decide +kernel
theorem dX5_init_28 : decode cX5_init 28 = .ok (.bipush 32, 2) := by decide +kernel
theorem dX5_init_30 : decode cX5_init 30 = .ok (.newarray .int, 2) := by decide +kernel
theorem dX5_init_32 : decode cX5_init 32 = .ok (.putfield 20, 3) := by decide +kernel
theorem dX5_init_35 : decode cX5_init 35 = .ok (.aload_n 0, 1) := by decide +kernel
theorem dX5_init_36 : decode cX5_init 36 = .ok (.sipush 640, 3) := by decide +kernel
theorem dX5_init_39 : decode cX5_init 39 = .ok (.newarray .int, 2) := by decide +kernel
theorem dX5_init_41 : decode cX5_init 41 = .ok (.putfield 23, 3) := by decide +kernel
theorem dX5_init_44 : decode cX5_init 44 = .ok (.aload_n 0, 1) := by decide +kernel
theorem dX5_init_45 : decode cX5_init 45 = .ok (.bipush 12, 2) := by decide +kernel
theorem dX5_init_47 : decode cX5_init 47 = .ok (.newarray .int, 2) := by decide +kernel
theorem dX5_init_49 : decode cX5_init 49 = .ok (.putfield 26, 3) := by decide +kernel
theorem dX5_init_52 : decode cX5_init 52 = .ok (.aload_n 0, 1) := by decide +kernel
theorem dX5_init_53 : decode cX5_init 53 = .ok (.bipush 12, 2) := by decide +kernel
theorem dX5_init_55 : decode cX5_init 55 = .ok (.newarray .int, 2) := by decide +kernel
theorem dX5_init_57 : decode cX5_init 57 = .ok (.putfield 29, 3) := by decide +kernel
theorem dX5_init_60 : decode cX5_init 60 = .ok (.aload_n 0, 1) := by decide +kernel
theorem dX5_init_61 : decode cX5_init 61 = .ok (.bipush 12, 2) := by decide +kernel
theorem dX5_init_63 : decode cX5_init 63 = .ok (.newarray .int, 2) := by decide +kernel
theorem dX5_init_65 : decode cX5_init 65 = .ok (.putfield 32, 3) := by decide +kernel
theorem dX5_init_68 : decode cX5_init 68 = .ok (.aload_n 0, 1) := by decide +kernel
theorem dX5_init_69 : decode cX5_init 69 = .ok (.bipush 12, 2) := by decide +kernel
theorem dX5_init_71 : decode cX5_init 71 = .ok (.newarray .int, 2) := by decide +kernel
theorem dX5_init_73 : decode cX5_init 73 = .ok (.putfield 35, 3) := by decide +kernel
theorem dX5_init_76 : decode cX5_init 76 = .ok (.aload_n 0, 1) := by decide +kernel
theorem dX5_init_77 : decode cX5_init 77 = .ok (.bipush 48, 2) := by decide +kernel
theorem dX5_init_79 : decode cX5_init 79 = .ok (.newarray .int, 2) := by decide +kernel
theorem dX5_init_81 : decode cX5_init 81 = .ok (.putfield 38, 3) := by decide +kernel
theorem dX5_init_84 : decode cX5_init 84 = .ok (.aload_n 0, 1) := by decide +kernel
theorem dX5_init_85 : decode cX5_init 85 = .ok (.bipush 12, 2) := by decide +kernel
theorem dX5_init_87 : decode cX5_init 87 = .ok (.newarray .int, 2) := by decide +kernel
theorem dX5_init_89 : decode cX5_init 89 = .ok (.putfield 41, 3) := by decide +kernel
theorem dX5_init_92 : decode cX5_init 92 = .ok (.aload_n 0, 1) := by decide +kernel
theorem dX5_init_93 : decode cX5_init 93 = .ok (.bipush 12, 2) := by decide +kernel
theorem dX5_init_95 : decode cX5_init 95 = .ok (.newarray .int, 2) := by decide +kernel
theorem dX5_init_97 : decode cX5_init 97 = .ok (.putfield 44, 3) := by decide +kernel
theorem dX5_init_100 : decode cX5_init 100 = .ok (.aload_n 0, 1) := by decide +kernel
theorem dX5_init_101 : decode cX5_init 101 = .ok (.bipush 12, 2) := by decide +kernel
theorem dX5_init_103 : decode cX5_init 103 = .ok (.newarray .boolean, 2) := by decide +kernel
theorem dX5_init_105 : decode cX5_init 105 = .ok (.putfield 47, 3) := by decide +kernel
theorem dX5_init_108 : decode cX5_init 108 = .ok (.aload_n 0, 1) := by decide +kernel
theorem dX5_init_109 : decode cX5_init 109 = .ok (.bipush 12, 2) := by decide +kernel
theorem dX5_init_111 : decode cX5_init 111 = .ok (.newarray .int, 2) := by decide +kernel
theorem dX5_init_113 : decode cX5_init 113 = .ok (.putfield 50, 3) := by decide +kernel
theorem dX5_init_116 : decode cX5_init 116 = .ok (.aload_n 0, 1) := by decide +kernel
theorem dX5_init_117 : decode cX5_init 117 = .ok (.bipush 12, 2) := by decide +kernel
theorem dX5_init_119 : decode cX5_init 119 = .ok (.newarray .int, 2) := by decide +kernel
theorem dX5_init_121 : decode cX5_init 121 = .ok (.putfield 53, 3) := by decide +kernel
theorem dX5_init_124 : decode cX5_init 124 = .ok (.return_, 1) := by decide +kernel
theorem dX5_thrown_0 : decode cX5_thrown 0 = .ok (.aload_n 0, 1) := by decide +kernel
theorem dX5_thrown_1 : decode cX5_thrown 1 = .ok (.getfield 56, 3) := by decide +kernel
theorem dX5_thrown_4 : decode cX5_thrown 4 = .ok (.ireturn, 1) := by decide +kernel
theorem dX5_in_0 : decode cX5_in 0 = .ok (.iload_n 0, 1) := by decide +kernel
theorem dX5_in_1 : decode cX5_in 1 = .ok (.iload_n 1, 1) := by decide +kernel
theorem dX5_in_2 : decode cX5_in 2 = .ok (.if_icmp .lt 12, 3) := by decide +kernel
theorem dX5_in_5 : decode cX5_in 5 = .ok (.iload_n 0, 1) := by decide +kernel
theorem dX5_in_6 : decode cX5_in 6 = .ok (.iload_n 2, 1) := by decide +kernel
theorem dX5_in_7 : decode cX5_in 7 = .ok (.if_icmp .gt 7, 3) := by decide +kernel
theorem dX5_in_10 : decode cX5_in 10 = .ok (.iconst 1, 1) := by decide +kernel
theorem dX5_in_11 : decode cX5_in 11 = .ok (.goto 4, 3) := by decide +kernel
theorem dX5_in_14 : decode cX5_in 14 = .ok (.iconst 0, 1) := by decide +kernel
theorem dX5_in_15 : decode cX5_in 15 = .ok (.ireturn, 1) := by decide +kernel
set_option maxRecDepth 20000 in
theorem ggX5_isType_X5_in : GoodIn wsX5_isType wsX5_in := goodIn_r _ [4] (by decide +kernel) (by decide +kernel)
set_option maxRecDepth 20000 in
theorem gX5_isType_X5_in : GoodIn wsX5_isType (va_wsS RX5 60 yX5_in wsX5_in) := goodIn_app (goodIn_of _ (by decide +kernel)) ggX5_isType_X5_in
theorem dX5_isType_0 : decode cX5_isType 0 = .ok (.iload_n 0, 1) := by decide +kernel
theorem dX5_isType_1 : decode cX5_isType 1 = .ok (.iconst 0, 1) := by decide +kernel
theorem dX5_isType_2 : decode cX5_isType 2 = .ok (.iconst 3, 1) := by decide +kernel
theorem dX5_isType_3 : decode cX5_isType 3 = .ok (.invokestatic 60, 3) := by decide +kernel
theorem dX5_isType_6 : decode cX5_isType 6 = .ok (.ireturn, 1) := by decide +kernel
set_option maxRecDepth 20000 in
theorem ggX5_isService_X5_in : GoodIn wsX5_isService wsX5_in := goodIn_r _ [4] (by decide +kernel) (by decide +kernel)
set_option maxRecDepth 20000 in
theorem gX5_isService_X5_in : GoodIn wsX5_isService (va_wsS RX5 60 yX5_in wsX5_in) := goodIn_app (goodIn_of _ (by decide +kernel)) ggX5_isService_X5_in
theorem dX5_isService_0 : decode cX5_isService 0 = .ok (.iload_n 0, 1) := by decide +kernel
theorem dX5_isService_1 : decode cX5_isService 1 = .ok (.iconst 0, 1) := by decide +kernel
theorem dX5_isService_2 : decode cX5_isService 2 = .ok (.iconst 3, 1) := by decide +kernel
theorem dX5_isService_3 : decode cX5_isService 3 = .ok (.invokestatic 60, 3) := by decide +kernel
theorem dX5_isService_6 : decode cX5_isService 6 = .ok (.ireturn, 1) := by decide +kernel
set_option maxRecDepth 20000 in
theorem ggX5_isKey_X5_in : GoodIn wsX5_isKey wsX5_in := goodIn_r _ [4] (by decide +kernel) (by decide +kernel)
set_option maxRecDepth 20000 in
theorem gX5_isKey_X5_in : GoodIn wsX5_isKey (va_wsS RX5 60 yX5_in wsX5_in) := goodIn_app (goodIn_of _ (by decide +kernel)) ggX5_isKey_X5_in
theorem dX5_isKey_0 : decode cX5_isKey 0 = .ok (.iload_n 0, 1) := by decide +kernel
theorem dX5_isKey_1 : decode cX5_isKey 1 = .ok (.iconst 0, 1) := by decide +kernel
theorem dX5_isKey_2 : decode cX5_isKey 2 = .ok (.bipush 19, 2) := by decide +kernel
theorem dX5_isKey_4 : decode cX5_isKey 4 = .ok (.invokestatic 60, 3) := by decide +kernel
theorem dX5_isKey_7 : decode cX5_isKey 7 = .ok (.ireturn, 1) := by decide +kernel
set_option maxRecDepth 20000 in
theorem ggX5_isField_X5_in : GoodIn wsX5_isField wsX5_in := goodIn_r _ [5] (by decide +kernel) (by decide +kernel)
set_option maxRecDepth 20000 in
theorem gX5_isField_X5_in : GoodIn wsX5_isField (va_wsS RX5 60 yX5_in wsX5_in) := goodIn_app (goodIn_of _ (by decide +kernel)) ggX5_isField_X5_in
theorem dX5_isField_0 : decode cX5_isField 0 = .ok (.iload_n 2, 1) := by decide +kernel
theorem dX5_isField_1 : decode cX5_isField 1 = .ok (.iconst 0, 1) := by decide +kernel
theorem dX5_isField_2 : decode cX5_isField 2 = .ok (.aload_n 0, 1) := by decide +kernel
theorem dX5_isField_3 : decode cX5_isField 3 = .ok (.getfield 7, 3) := by decide +kernel
theorem dX5_isField_6 : decode cX5_isField 6 = .ok (.iload_n 1, 1) := by decide +kernel
theorem dX5_isField_7 : decode cX5_isField 7 = .ok (.iaload, 1) := by decide +kernel
theorem dX5_isField_8 : decode cX5_isField 8 = .ok (.iconst 1, 1) := by decide +kernel
theorem dX5_isField_9 : decode cX5_isField 9 = .ok (.isub, 1) := by decide +kernel
theorem dX5_isField_10 : decode cX5_isField 10 = .ok (.invokestatic 60, 3) := by decide +kernel
theorem dX5_isField_13 : decode cX5_isField 13 = .ok (.ireturn, 1) := by decide +kernel
set_option maxRecDepth 20000 in
theorem ggX5_addField_X5_isType : GoodIn wsX5_addField wsX5_isType := goodIn_r _ [8, 9, 10, 7, 11] (by decide +kernel) (by decide +kernel)
set_option maxRecDepth 20000 in
theorem gX5_addField_X5_isType : GoodIn wsX5_addField (va_wsS RX5 64 yX5_isType wsX5_isType) := goodIn_app (goodIn_of _ (by decide +kernel)) ggX5_addField_X5_isType
set_option maxRecDepth 20000 in
theorem ggX5_addField_X5_in : GoodIn wsX5_addField wsX5_in := goodIn_r _ [11] (by decide +kernel) (by decide +kernel)
set_option maxRecDepth 20000 in
theorem gX5_addField_X5_in : GoodIn wsX5_addField (va_wsS RX5 60 yX5_in wsX5_in) := goodIn_app (goodIn_of _ (by decide +kernel)) ggX5_addField_X5_in
theorem dX5_addField_0 : decode cX5_addField 0 = .ok (.aload_n 0, 1) := by decide +kernel
theorem dX5_addField_1 : decode cX5_addField 1 = .ok (.iload_n 1, 1) := by decide +kernel
theorem dX5_addField_2 : decode cX5_addField 2 = .ok (.invokestatic 64, 3) := by decide +kernel
theorem dX5_addField_5 : decode cX5_addField 5 = .ok (.ifCond .eq 12, 3) := by decide +kernel
theorem dX5_addField_8 : decode cX5_addField 8 = .ok (.iload_n 2, 1) := by decide +kernel
theorem dX5_addField_9 : decode cX5_addField 9 = .ok (.iconst (-1), 1) := by decide +kernel
theorem dX5_addField_10 : decode cX5_addField 10 = .ok (.iconst 3, 1) := by decide +kernel
theorem dX5_addField_11 : decode cX5_addField 11 = .ok (.invokestatic 60, 3) := by decide +kernel
theorem dX5_addField_14 : decode cX5_addField 14 = .ok (.ifCond .ne 7, 3) := by decide +kernel
theorem dX5_addField_17 : decode cX5_addField 17 = .ok (.iconst 1, 1) := by decide +kernel
theorem dX5_addField_18 : decode cX5_addField 18 = .ok (.goto 19, 3) := by decide +kernel
theorem dX5_addField_21 : decode cX5_addField 21 = .ok (.aload_n 0, 1) := by decide +kernel
theorem dX5_addField_22 : decode cX5_addField 22 = .ok (.getfield 7, 3) := by decide +kernel
theorem dX5_addField_25 : decode cX5_addField 25 = .ok (.iload_n 1, 1) := by decide +kernel
theorem dX5_addField_26 : decode cX5_addField 26 = .ok (.iaload, 1) := by decide +kernel
theorem dX5_addField_27 : decode cX5_addField 27 = .ok (.bipush 8, 2) := by decide +kernel
theorem dX5_addField_29 : decode cX5_addField 29 = .ok (.if_icmp .ne 7, 3) := by decide +kernel
theorem dX5_addField_32 : decode cX5_addField 32 = .ok (.iconst 2, 1) := by decide +kernel
theorem dX5_addField_33 : decode cX5_addField 33 = .ok (.goto 4, 3) := by decide +kernel
theorem dX5_addField_36 : decode cX5_addField 36 = .ok (.iconst 0, 1) := by decide +kernel
theorem dX5_addField_37 : decode cX5_addField 37 = .ok (.putfield 56, 3) := by decide +kernel
theorem dX5_addField_40 : decode cX5_addField 40 = .ok (.aload_n 0, 1) := by decide +kernel
theorem dX5_addField_41 : decode cX5_addField 41 = .ok (.getfield 56, 3) := by decide +kernel
theorem dX5_addField_44 : decode cX5_addField 44 = .ok (.ifCond .le 5, 3) := by decide +kernel
theorem dX5_addField_47 : decode cX5_addField 47 = .ok (.iconst 0, 1) := by decide +kernel
theorem dX5_addField_48 : decode cX5_addField 48 = .ok (.ireturn, 1) := by decide +kernel
theorem dX5_addField_49 : decode cX5_addField 49 = .ok (.aload_n 0, 1) := by decide +kernel
theorem dX5_addField_50 : decode cX5_addField 50 = .ok (.getfield 7, 3) := by decide +kernel
theorem dX5_addField_53 : decode cX5_addField 53 = .ok (.iload_n 1, 1) := by decide +kernel
theorem dX5_addField_54 : decode cX5_addField 54 = .ok (.iaload, 1) := by decide +kernel
theorem dX5_addField_55 : decode cX5_addField 55 = .ok (.istore 4, 2) := by decide +kernel
theorem dX5_addField_57 : decode cX5_addField 57 = .ok (.aload_n 0, 1) := by decide +kernel
theorem dX5_addField_58 : decode cX5_addField 58 = .ok (.getfield 13, 3) := by decide +kernel
theorem dX5_addField_61 : decode cX5_addField 61 = .ok (.bipush 8, 2) := by decide +kernel
theorem dX5_addField_63 : decode cX5_addField 63 = .ok (.iload_n 1, 1) := by decide +kernel
theorem dX5_addField_64 : decode cX5_addField 64 = .ok (.imul, 1) := by decide +kernel
theorem dX5_addField_65 : decode cX5_addField 65 = .ok (.iload 4, 2) := by decide +kernel
theorem dX5_addField_67 : decode cX5_addField 67 = .ok (.iadd, 1) := by decide +kernel
theorem dX5_addField_68 : decode cX5_addField 68 = .ok (.iload_n 2, 1) := by decide +kernel
theorem dX5_addField_69 : decode cX5_addField 69 = .ok (.iastore, 1) := by decide +kernel
theorem dX5_addField_70 : decode cX5_addField 70 = .ok (.aload_n 0, 1) := by decide +kernel
theorem dX5_addField_71 : decode cX5_addField 71 = .ok (.getfield 16, 3) := by decide +kernel
theorem dX5_addField_74 : decode cX5_addField 74 = .ok (.bipush 8, 2) := by decide +kernel
theorem dX5_addField_76 : decode cX5_addField 76 = .ok (.iload_n 1, 1) := by decide +kernel
theorem dX5_addField_77 : decode cX5_addField 77 = .ok (.imul, 1) := by decide +kernel
theorem dX5_addField_78 : decode cX5_addField 78 = .ok (.iload 4, 2) := by decide +kernel
theorem dX5_addField_80 : decode cX5_addField 80 = .ok (.iadd, 1) := by decide +kernel
theorem dX5_addField_81 : decode cX5_addField 81 = .ok (.iload_n 3, 1) := by decide +kernel
theorem dX5_addField_82 : decode cX5_addField 82 = .ok (.bastore, 1) := by decide +kernel
theorem dX5_addField_83 : decode cX5_addField 83 = .ok (.aload_n 0, 1) := by decide +kernel
theorem dX5_addField_84 : decode cX5_addField 84 = .ok (.getfield 7, 3) := by decide +kernel
theorem dX5_addField_87 : decode cX5_addField 87 = .ok (.iload_n 1, 1) := by decide +kernel
theorem dX5_addField_88 : decode cX5_addField 88 = .ok (.dup2, 1) := by decide +kernel
theorem dX5_addField_89 : decode cX5_addField 89 = .ok (.iaload, 1) := by decide +kernel
theorem dX5_addField_90 : decode cX5_addField 90 = .ok (.iconst 1, 1) := by decide +kernel
theorem dX5_addField_91 : decode cX5_addField 91 = .ok (.iadd, 1) := by decide +kernel
theorem dX5_addField_92 : decode cX5_addField 92 = .ok (.iastore, 1) := by decide +kernel
theorem dX5_addField_93 : decode cX5_addField 93 = .ok (.iload 4, 2) := by decide +kernel
theorem dX5_addField_95 : decode cX5_addField 95 = .ok (.ireturn, 1) := by decide +kernel
set_option maxRecDepth 20000 in
theorem ggX5_own_X5_isService : GoodIn wsX5_own wsX5_isService := goodIn_r _ [6, 7, 8, 5, 9] (by decide +kernel) (by decide +kernel)
set_option maxRecDepth 20000 in
theorem gX5_own_X5_isService : GoodIn wsX5_own (va_wsS RX5 68 yX5_isService wsX5_isService) := goodIn_app (goodIn_of _ (by decide +kernel)) ggX5_own_X5_isService
set_option maxRecDepth 20000 in
theorem ggX5_own_X5_isType : GoodIn wsX5_own wsX5_isType := goodIn_r _ [12, 7, 8, 5, 9] (by decide +kernel) (by decide +kernel)
set_option maxRecDepth 20000 in
theorem gX5_own_X5_isType : GoodIn wsX5_own (va_wsS RX5 64 yX5_isType wsX5_isType) := goodIn_app (goodIn_of _ (by decide +kernel)) ggX5_own_X5_isType
set_option maxRecDepth 20000 in
theorem ggX5_own_X5_isField : GoodIn wsX5_own wsX5_isField := goodIn_r _ [16, 17, 7, 8, 5, 9, 18, 19, 20, 21, 22, 23, 24, 25, 26, 27, 28, 29, 30, 31, 32, 33, 34, 35, 36, 37] (by decide +kernel) (by decide +kernel)
set_option maxRecDepth 20000 in
theorem gX5_own_X5_isField : GoodIn wsX5_own (wsV RX5 71 RX5 yX5_isField wsX5_isField) := goodIn_app (goodIn_of _ (by decide +kernel)) ggX5_own_X5_isField
theorem dX5_own_0 : decode cX5_own 0 = .ok (.aload_n 0, 1) := by decide +kernel
theorem dX5_own_1 : decode cX5_own 1 = .ok (.iload_n 1, 1) := by decide +kernel
theorem dX5_own_2 : decode cX5_own 2 = .ok (.invokestatic 68, 3) := by decide +kernel
theorem dX5_own_5 : decode cX5_own 5 = .ok (.ifCond .eq 10, 3) := by decide +kernel
theorem dX5_own_8 : decode cX5_own 8 = .ok (.iload_n 2, 1) := by decide +kernel
theorem dX5_own_9 : decode cX5_own 9 = .ok (.invokestatic 64, 3) := by decide +kernel
theorem dX5_own_12 : decode cX5_own 12 = .ok (.ifCond .ne 7, 3) := by decide +kernel
theorem dX5_own_15 : decode cX5_own 15 = .ok (.iconst 1, 1) := by decide +kernel
theorem dX5_own_16 : decode cX5_own 16 = .ok (.goto 17, 3) := by decide +kernel
theorem dX5_own_19 : decode cX5_own 19 = .ok (.aload_n 0, 1) := by decide +kernel
theorem dX5_own_20 : decode cX5_own 20 = .ok (.iload_n 2, 1) := by decide +kernel
theorem dX5_own_21 : decode cX5_own 21 = .ok (.iload_n 3, 1) := by decide +kernel
theorem dX5_own_22 : decode cX5_own 22 = .ok (.invokevirtual 71, 3) := by decide +kernel
theorem dX5_own_25 : decode cX5_own 25 = .ok (.ifCond .eq 7, 3) := by decide +kernel
theorem dX5_own_28 : decode cX5_own 28 = .ok (.iconst 0, 1) := by decide +kernel
theorem dX5_own_29 : decode cX5_own 29 = .ok (.goto 4, 3) := by decide +kernel
theorem dX5_own_32 : decode cX5_own 32 = .ok (.iconst 2, 1) := by decide +kernel
theorem dX5_own_33 : decode cX5_own 33 = .ok (.putfield 56, 3) := by decide +kernel
theorem dX5_own_36 : decode cX5_own 36 = .ok (.aload_n 0, 1) := by decide +kernel
theorem dX5_own_37 : decode cX5_own 37 = .ok (.getfield 56, 3) := by decide +kernel
theorem dX5_own_40 : decode cX5_own 40 = .ok (.ifCond .le 5, 3) := by decide +kernel
theorem dX5_own_43 : decode cX5_own 43 = .ok (.iconst 0, 1) := by decide +kernel
theorem dX5_own_44 : decode cX5_own 44 = .ok (.ireturn, 1) := by decide +kernel
theorem dX5_own_45 : decode cX5_own 45 = .ok (.bipush 8, 2) := by decide +kernel
theorem dX5_own_47 : decode cX5_own 47 = .ok (.iload_n 2, 1) := by decide +kernel
theorem dX5_own_48 : decode cX5_own 48 = .ok (.imul, 1) := by decide +kernel
theorem dX5_own_49 : decode cX5_own 49 = .ok (.iload_n 3, 1) := by decide +kernel
theorem dX5_own_50 : decode cX5_own 50 = .ok (.iadd, 1) := by decide +kernel
theorem dX5_own_51 : decode cX5_own 51 = .ok (.istore 5, 2) := by decide +kernel
theorem dX5_own_53 : decode cX5_own 53 = .ok (.aload_n 0, 1) := by decide +kernel
theorem dX5_own_54 : decode cX5_own 54 = .ok (.getfield 20, 3) := by decide +kernel
theorem dX5_own_57 : decode cX5_own 57 = .ok (.iload 5, 2) := by decide +kernel
theorem dX5_own_59 : decode cX5_own 59 = .ok (.iaload, 1) := by decide +kernel
theorem dX5_own_60 : decode cX5_own 60 = .ok (.istore 6, 2) := by decide +kernel
theorem dX5_own_62 : decode cX5_own 62 = .ok (.aload_n 0, 1) := by decide +kernel
theorem dX5_own_63 : decode cX5_own 63 = .ok (.getfield 20, 3) := by decide +kernel
theorem dX5_own_66 : decode cX5_own 66 = .ok (.iload 5, 2) := by decide +kernel
theorem dX5_own_68 : decode cX5_own 68 = .ok (.iload 4, 2) := by decide +kernel
theorem dX5_own_70 : decode cX5_own 70 = .ok (.ifCond .eq 12, 3) := by decide +kernel
theorem dX5_own_73 : decode cX5_own 73 = .ok (.iload 6, 2) := by decide +kernel
theorem dX5_own_75 : decode cX5_own 75 = .ok (.iconst 1, 1) := by decide +kernel
theorem dX5_own_76 : decode cX5_own 76 = .ok (.iload_n 1, 1) := by decide +kernel
theorem dX5_own_77 : decode cX5_own 77 = .ok (.ishl, 1) := by decide +kernel
theorem dX5_own_78 : decode cX5_own 78 = .ok (.ior, 1) := by decide +kernel
theorem dX5_own_79 : decode cX5_own 79 = .ok (.goto 11, 3) := by decide +kernel
theorem dX5_own_82 : decode cX5_own 82 = .ok (.iload 6, 2) := by decide +kernel
theorem dX5_own_84 : decode cX5_own 84 = .ok (.iconst 1, 1) := by decide +kernel
theorem dX5_own_85 : decode cX5_own 85 = .ok (.iload_n 1, 1) := by decide +kernel
theorem dX5_own_86 : decode cX5_own 86 = .ok (.ishl, 1) := by decide +kernel
theorem dX5_own_87 : decode cX5_own 87 = .ok (.iconst (-1), 1) := by decide +kernel
theorem dX5_own_88 : decode cX5_own 88 = .ok (.ixor, 1) := by decide +kernel
theorem dX5_own_89 : decode cX5_own 89 = .ok (.iand, 1) := by decide +kernel
theorem dX5_own_90 : decode cX5_own 90 = .ok (.iastore, 1) := by decide +kernel
theorem dX5_own_91 : decode cX5_own 91 = .ok (.iload 6, 2) := by decide +kernel
theorem dX5_own_93 : decode cX5_own 93 = .ok (.iload_n 1, 1) := by decide +kernel
theorem dX5_own_94 : decode cX5_own 94 = .ok (.ishr, 1) := by decide +kernel
theorem dX5_own_95 : decode cX5_own 95 = .ok (.iconst 1, 1) := by decide +kernel
theorem dX5_own_96 : decode cX5_own 96 = .ok (.iand, 1) := by decide +kernel
theorem dX5_own_97 : decode cX5_own 97 = .ok (.iconst 1, 1) := by decide +kernel
theorem dX5_own_98 : decode cX5_own 98 = .ok (.if_icmp .ne 7, 3) := by decide +kernel
theorem dX5_own_101 : decode cX5_own 101 = .ok (.iconst 1, 1) := by decide +kernel
theorem dX5_own_102 : decode cX5_own 102 = .ok (.goto 4, 3) := by decide +kernel
theorem dX5_own_105 : decode cX5_own 105 = .ok (.iconst 0, 1) := by decide +kernel
theorem dX5_own_106 : decode cX5_own 106 = .ok (.ireturn, 1) := by decide +kernel
set_option maxRecDepth 20000 in
theorem ggX5_set_X5_isType : GoodIn wsX5_set wsX5_isType := goodIn_r _ [7, 8, 9, 6, 10] (by decide +kernel) (by decide +kernel)
set_option maxRecDepth 20000 in
theorem gX5_set_X5_isType : GoodIn wsX5_set (va_wsS RX5 64 yX5_isType wsX5_isType) := goodIn_app (goodIn_of _ (by decide +kernel)) ggX5_set_X5_isType
set_option maxRecDepth 20000 in
theorem ggX5_set_X5_isKey : GoodIn wsX5_set wsX5_isKey := goodIn_r _ [13, 8, 9, 6, 10] (by decide +kernel) (by decide +kernel)
set_option maxRecDepth 20000 in
theorem gX5_set_X5_isKey : GoodIn wsX5_set (va_wsS RX5 75 yX5_isKey wsX5_isKey) := goodIn_app (goodIn_of _ (by decide +kernel)) ggX5_set_X5_isKey
set_option maxRecDepth 20000 in
theorem ggX5_set_X5_isField : GoodIn wsX5_set wsX5_isField := goodIn_r _ [17, 18, 8, 9, 6, 10, 19, 20, 21, 22, 23, 24, 25, 26, 27, 28, 29, 30, 31, 32, 33, 34, 35, 36, 37, 38] (by decide +kernel) (by decide +kernel)
set_option maxRecDepth 20000 in
theorem gX5_set_X5_isField : GoodIn wsX5_set (wsV RX5 71 RX5 yX5_isField wsX5_isField) := goodIn_app (goodIn_of _ (by decide +kernel)) ggX5_set_X5_isField
set_option maxRecDepth 20000 in
theorem ggX5_set_X5_in : GoodIn wsX5_set wsX5_in := goodIn_r _ [10] (by decide +kernel) (by decide +kernel)
set_option maxRecDepth 20000 in
theorem gX5_set_X5_in : GoodIn wsX5_set (va_wsS RX5 60 yX5_in wsX5_in) := goodIn_app (goodIn_of _ (by decide +kernel)) ggX5_set_X5_in
theorem dX5_set_0 : decode cX5_set 0 = .ok (.aload_n 0, 1) := by decide +kernel
theorem dX5_set_1 : decode cX5_set 1 = .ok (.iload_n 1, 1) := by decide +kernel
theorem dX5_set_2 : decode cX5_set 2 = .ok (.invokestatic 64, 3) := by decide +kernel
theorem dX5_set_5 : decode cX5_set 5 = .ok (.ifCond .eq 14, 3) := by decide +kernel
theorem dX5_set_8 : decode cX5_set 8 = .ok (.iload_n 2, 1) := by decide +kernel
theorem dX5_set_9 : decode cX5_set 9 = .ok (.invokestatic 75, 3) := by decide +kernel
theorem dX5_set_12 : decode cX5_set 12 = .ok (.ifCond .eq 7, 3) := by decide +kernel
theorem dX5_set_15 : decode cX5_set 15 = .ok (.iconst 0, 1) := by decide +kernel
theorem dX5_set_16 : decode cX5_set 16 = .ok (.goto 4, 3) := by decide +kernel
theorem dX5_set_19 : decode cX5_set 19 = .ok (.iconst 1, 1) := by decide +kernel
theorem dX5_set_20 : decode cX5_set 20 = .ok (.putfield 56, 3) := by decide +kernel
theorem dX5_set_23 : decode cX5_set 23 = .ok (.aload_n 0, 1) := by decide +kernel
theorem dX5_set_24 : decode cX5_set 24 = .ok (.getfield 56, 3) := by decide +kernel
theorem dX5_set_27 : decode cX5_set 27 = .ok (.ifCond .ne 17, 3) := by decide +kernel
theorem dX5_set_30 : decode cX5_set 30 = .ok (.aload_n 0, 1) := by decide +kernel
theorem dX5_set_31 : decode cX5_set 31 = .ok (.iload_n 1, 1) := by decide +kernel
theorem dX5_set_32 : decode cX5_set 32 = .ok (.iload_n 3, 1) := by decide +kernel
theorem dX5_set_33 : decode cX5_set 33 = .ok (.invokevirtual 71, 3) := by decide +kernel
theorem dX5_set_36 : decode cX5_set 36 = .ok (.ifCond .ne 8, 3) := by decide +kernel
theorem dX5_set_39 : decode cX5_set 39 = .ok (.aload_n 0, 1) := by decide +kernel
theorem dX5_set_40 : decode cX5_set 40 = .ok (.iconst 2, 1) := by decide +kernel
theorem dX5_set_41 : decode cX5_set 41 = .ok (.putfield 56, 3) := by decide +kernel
theorem dX5_set_44 : decode cX5_set 44 = .ok (.aload_n 0, 1) := by decide +kernel
theorem dX5_set_45 : decode cX5_set 45 = .ok (.getfield 56, 3) := by decide +kernel
theorem dX5_set_48 : decode cX5_set 48 = .ok (.ifCond .ne 47, 3) := by decide +kernel
theorem dX5_set_51 : decode cX5_set 51 = .ok (.aload_n 0, 1) := by decide +kernel
theorem dX5_set_52 : decode cX5_set 52 = .ok (.getfield 13, 3) := by decide +kernel
theorem dX5_set_55 : decode cX5_set 55 = .ok (.bipush 8, 2) := by decide +kernel
theorem dX5_set_57 : decode cX5_set 57 = .ok (.iload_n 1, 1) := by decide +kernel
theorem dX5_set_58 : decode cX5_set 58 = .ok (.imul, 1) := by decide +kernel
theorem dX5_set_59 : decode cX5_set 59 = .ok (.iload_n 3, 1) := by decide +kernel
theorem dX5_set_60 : decode cX5_set 60 = .ok (.iadd, 1) := by decide +kernel
theorem dX5_set_61 : decode cX5_set 61 = .ok (.iaload, 1) := by decide +kernel
theorem dX5_set_62 : decode cX5_set 62 = .ok (.iconst (-1), 1) := by decide +kernel
theorem dX5_set_63 : decode cX5_set 63 = .ok (.if_icmp .ne 8, 3) := by decide +kernel
theorem dX5_set_66 : decode cX5_set 66 = .ok (.bipush 99, 2) := by decide +kernel
theorem dX5_set_68 : decode cX5_set 68 = .ok (.goto 5, 3) := by decide +kernel
theorem dX5_set_71 : decode cX5_set 71 = .ok (.bipush 19, 2) := by decide +kernel
theorem dX5_set_73 : decode cX5_set 73 = .ok (.istore 5, 2) := by decide +kernel
theorem dX5_set_75 : decode cX5_set 75 = .ok (.aload_n 0, 1) := by decide +kernel
theorem dX5_set_76 : decode cX5_set 76 = .ok (.iload 4, 2) := by decide +kernel
theorem dX5_set_78 : decode cX5_set 78 = .ok (.iconst (-1), 1) := by decide +kernel
theorem dX5_set_79 : decode cX5_set 79 = .ok (.iload 5, 2) := by decide +kernel
theorem dX5_set_81 : decode cX5_set 81 = .ok (.invokestatic 60, 3) := by decide +kernel
theorem dX5_set_84 : decode cX5_set 84 = .ok (.ifCond .eq 7, 3) := by decide +kernel
theorem dX5_set_87 : decode cX5_set 87 = .ok (.iconst 0, 1) := by decide +kernel
theorem dX5_set_88 : decode cX5_set 88 = .ok (.goto 4, 3) := by decide +kernel
theorem dX5_set_91 : decode cX5_set 91 = .ok (.iconst 1, 1) := by decide +kernel
theorem dX5_set_92 : decode cX5_set 92 = .ok (.putfield 56, 3) := by decide +kernel
theorem dX5_set_95 : decode cX5_set 95 = .ok (.aload_n 0, 1) := by decide +kernel
theorem dX5_set_96 : decode cX5_set 96 = .ok (.getfield 56, 3) := by decide +kernel
theorem dX5_set_99 : decode cX5_set 99 = .ok (.ifCond .le 5, 3) := by decide +kernel
theorem dX5_set_102 : decode cX5_set 102 = .ok (.iconst 0, 1) := by decide +kernel
theorem dX5_set_103 : decode cX5_set 103 = .ok (.ireturn, 1) := by decide +kernel
theorem dX5_set_104 : decode cX5_set 104 = .ok (.sipush 160, 3) := by decide +kernel
theorem dX5_set_107 : decode cX5_set 107 = .ok (.iload_n 1, 1) := by decide +kernel
theorem dX5_set_108 : decode cX5_set 108 = .ok (.imul, 1) := by decide +kernel
theorem dX5_set_109 : decode cX5_set 109 = .ok (.bipush 8, 2) := by decide +kernel
theorem dX5_set_111 : decode cX5_set 111 = .ok (.iload_n 2, 1) := by decide +kernel
theorem dX5_set_112 : decode cX5_set 112 = .ok (.imul, 1) := by decide +kernel
theorem dX5_set_113 : decode cX5_set 113 = .ok (.iadd, 1) := by decide +kernel
theorem dX5_set_114 : decode cX5_set 114 = .ok (.iload_n 3, 1) := by decide +kernel
theorem dX5_set_115 : decode cX5_set 115 = .ok (.iadd, 1) := by decide +kernel
theorem dX5_set_116 : decode cX5_set 116 = .ok (.istore 5, 2) := by decide +kernel
theorem dX5_set_118 : decode cX5_set 118 = .ok (.aload_n 0, 1) := by decide +kernel
theorem dX5_set_119 : decode cX5_set 119 = .ok (.getfield 23, 3) := by decide +kernel
theorem dX5_set_122 : decode cX5_set 122 = .ok (.iload 5, 2) := by decide +kernel
theorem dX5_set_124 : decode cX5_set 124 = .ok (.iaload, 1) := by decide +kernel
theorem dX5_set_125 : decode cX5_set 125 = .ok (.iconst 1, 1) := by decide +kernel
theorem dX5_set_126 : decode cX5_set 126 = .ok (.isub, 1) := by decide +kernel
theorem dX5_set_127 : decode cX5_set 127 = .ok (.istore 6, 2) := by decide +kernel
theorem dX5_set_129 : decode cX5_set 129 = .ok (.aload_n 0, 1) := by decide +kernel
theorem dX5_set_130 : decode cX5_set 130 = .ok (.getfield 23, 3) := by decide +kernel
theorem dX5_set_133 : decode cX5_set 133 = .ok (.iload 5, 2) := by decide +kernel
theorem dX5_set_135 : decode cX5_set 135 = .ok (.iload 4, 2) := by decide +kernel
theorem dX5_set_137 : decode cX5_set 137 = .ok (.iconst 1, 1) := by decide +kernel
theorem dX5_set_138 : decode cX5_set 138 = .ok (.iadd, 1) := by decide +kernel
theorem dX5_set_139 : decode cX5_set 139 = .ok (.iastore, 1) := by decide +kernel
theorem dX5_set_140 : decode cX5_set 140 = .ok (.iload 6, 2) := by decide +kernel
theorem dX5_set_142 : decode cX5_set 142 = .ok (.ireturn, 1) := by decide +kernel
set_option maxRecDepth 20000 in
theorem ggX5_fail_X5_isService : GoodIn wsX5_fail wsX5_isService := goodIn_r _ [6, 7, 8, 5, 9] (by decide +kernel) (by decide +kernel)
set_option maxRecDepth 20000 in
theorem gX5_fail_X5_isService : GoodIn wsX5_fail (va_wsS RX5 68 yX5_isService wsX5_isService) := goodIn_app (goodIn_of _ (by decide +kernel)) ggX5_fail_X5_isService
theorem dX5_fail_0 : decode cX5_fail 0 = .ok (.aload_n 0, 1) := by decide +kernel
theorem dX5_fail_1 : decode cX5_fail 1 = .ok (.iload_n 1, 1) := by decide +kernel
theorem dX5_fail_2 : decode cX5_fail 2 = .ok (.invokestatic 68, 3) := by decide +kernel
theorem dX5_fail_5 : decode cX5_fail 5 = .ok (.ifCond .eq 7, 3) := by decide +kernel
theorem dX5_fail_8 : decode cX5_fail 8 = .ok (.iconst 0, 1) := by decide +kernel
theorem dX5_fail_9 : decode cX5_fail 9 = .ok (.goto 4, 3) := by decide +kernel
theorem dX5_fail_12 : decode cX5_fail 12 = .ok (.iconst 1, 1) := by decide +kernel
theorem dX5_fail_13 : decode cX5_fail 13 = .ok (.putfield 56, 3) := by decide +kernel
theorem dX5_fail_16 : decode cX5_fail 16 = .ok (.aload_n 0, 1) := by decide +kernel
theorem dX5_fail_17 : decode cX5_fail 17 = .ok (.getfield 56, 3) := by decide +kernel
theorem dX5_fail_20 : decode cX5_fail 20 = .ok (.ifCond .le 5, 3) := by decide +kernel
theorem dX5_fail_23 : decode cX5_fail 23 = .ok (.iconst 0, 1) := by decide +kernel
theorem dX5_fail_24 : decode cX5_fail 24 = .ok (.ireturn, 1) := by decide +kernel
theorem dX5_fail_25 : decode cX5_fail 25 = .ok (.aload_n 0, 1) := by decide +kernel
theorem dX5_fail_26 : decode cX5_fail 26 = .ok (.getfield 78, 3) := by decide +kernel
theorem dX5_fail_29 : decode cX5_fail 29 = .ok (.istore_n 3, 1) := by decide +kernel
theorem dX5_fail_30 : decode cX5_fail 30 = .ok (.aload_n 0, 1) := by decide +kernel
theorem dX5_fail_31 : decode cX5_fail 31 = .ok (.iload_n 2, 1) := by decide +kernel
theorem dX5_fail_32 : decode cX5_fail 32 = .ok (.ifCond .eq 11, 3) := by decide +kernel
theorem dX5_fail_35 : decode cX5_fail 35 = .ok (.iload_n 3, 1) := by decide +kernel
theorem dX5_fail_36 : decode cX5_fail 36 = .ok (.iconst 1, 1) := by decide +kernel
theorem dX5_fail_37 : decode cX5_fail 37 = .ok (.iload_n 1, 1) := by decide +kernel
theorem dX5_fail_38 : decode cX5_fail 38 = .ok (.ishl, 1) := by decide +kernel
theorem dX5_fail_39 : decode cX5_fail 39 = .ok (.ior, 1) := by decide +kernel
theorem dX5_fail_40 : decode cX5_fail 40 = .ok (.goto 10, 3) := by decide +kernel
theorem dX5_fail_43 : decode cX5_fail 43 = .ok (.iload_n 3, 1) := by decide +kernel
theorem dX5_fail_44 : decode cX5_fail 44 = .ok (.iconst 1, 1) := by decide +kernel
theorem dX5_fail_45 : decode cX5_fail 45 = .ok (.iload_n 1, 1) := by decide +kernel
theorem dX5_fail_46 : decode cX5_fail 46 = .ok (.ishl, 1) := by decide +kernel
theorem dX5_fail_47 : decode cX5_fail 47 = .ok (.iconst (-1), 1) := by decide +kernel
theorem dX5_fail_48 : decode cX5_fail 48 = .ok (.ixor, 1) := by decide +kernel
theorem dX5_fail_49 : decode cX5_fail 49 = .ok (.iand, 1) := by decide +kernel
theorem dX5_fail_50 : decode cX5_fail 50 = .ok (.putfield 78, 3) := by decide +kernel
theorem dX5_fail_53 : decode cX5_fail 53 = .ok (.iload_n 3, 1) := by decide +kernel
theorem dX5_fail_54 : decode cX5_fail 54 = .ok (.iload_n 1, 1) := by decide +kernel
theorem dX5_fail_55 : decode cX5_fail 55 = .ok (.ishr, 1) := by decide +kernel
theorem dX5_fail_56 : decode cX5_fail 56 = .ok (.iconst 1, 1) := by decide +kernel
theorem dX5_fail_57 : decode cX5_fail 57 = .ok (.iand, 1) := by decide +kernel
theorem dX5_fail_58 : decode cX5_fail 58 = .ok (.iconst 1, 1) := by decide +kernel
theorem dX5_fail_59 : decode cX5_fail 59 = .ok (.if_icmp .ne 7, 3) := by decide +kernel
theorem dX5_fail_62 : decode cX5_fail 62 = .ok (.iconst 1, 1) := by decide +kernel
theorem dX5_fail_63 : decode cX5_fail 63 = .ok (.goto 4, 3) := by decide +kernel
theorem dX5_fail_66 : decode cX5_fail 66 = .ok (.iconst 0, 1) := by decide +kernel
theorem dX5_fail_67 : decode cX5_fail 67 = .ok (.ireturn, 1) := by decide +kernel
set_option maxRecDepth 20000 in
theorem ggX5_begin_X5_isType : GoodIn wsX5_begin wsX5_isType := goodIn_r _ [7, 8, 9, 6, 10] (by decide +kernel) (by decide +kernel)
set_option maxRecDepth 20000 in
theorem gX5_begin_X5_isType : GoodIn wsX5_begin (va_wsS RX5 64 yX5_isType wsX5_isType) := goodIn_app (goodIn_of _ (by decide +kernel)) ggX5_begin_X5_isType
theorem dX5_begin_0 : decode cX5_begin 0 = .ok (.aload_n 0, 1) := by decide +kernel
theorem dX5_begin_1 : decode cX5_begin 1 = .ok (.iload_n 1, 1) := by decide +kernel
theorem dX5_begin_2 : decode cX5_begin 2 = .ok (.invokestatic 64, 3) := by decide +kernel
theorem dX5_begin_5 : decode cX5_begin 5 = .ok (.ifCond .eq 7, 3) := by decide +kernel
theorem dX5_begin_8 : decode cX5_begin 8 = .ok (.iconst 0, 1) := by decide +kernel
theorem dX5_begin_9 : decode cX5_begin 9 = .ok (.goto 4, 3) := by decide +kernel
theorem dX5_begin_12 : decode cX5_begin 12 = .ok (.iconst 1, 1) := by decide +kernel
theorem dX5_begin_13 : decode cX5_begin 13 = .ok (.putfield 56, 3) := by decide +kernel
theorem dX5_begin_16 : decode cX5_begin 16 = .ok (.aload_n 0, 1) := by decide +kernel
theorem dX5_begin_17 : decode cX5_begin 17 = .ok (.getfield 56, 3) := by decide +kernel
theorem dX5_begin_20 : decode cX5_begin 20 = .ok (.ifCond .le 5, 3) := by decide +kernel
theorem dX5_begin_23 : decode cX5_begin 23 = .ok (.iconst 0, 1) := by decide +kernel
theorem dX5_begin_24 : decode cX5_begin 24 = .ok (.ireturn, 1) := by decide +kernel
theorem dX5_begin_25 : decode cX5_begin 25 = .ok (.aload_n 0, 1) := by decide +kernel
theorem dX5_begin_26 : decode cX5_begin 26 = .ok (.getfield 81, 3) := by decide +kernel
theorem dX5_begin_29 : decode cX5_begin 29 = .ok (.istore_n 2, 1) := by decide +kernel
theorem dX5_begin_30 : decode cX5_begin 30 = .ok (.aload_n 0, 1) := by decide +kernel
theorem dX5_begin_31 : decode cX5_begin 31 = .ok (.iconst 0, 1) := by decide +kernel
theorem dX5_begin_32 : decode cX5_begin 32 = .ok (.putfield 81, 3) := by decide +kernel
theorem dX5_begin_35 : decode cX5_begin 35 = .ok (.aload_n 0, 1) := by decide +kernel
theorem dX5_begin_36 : decode cX5_begin 36 = .ok (.iload_n 1, 1) := by decide +kernel
theorem dX5_begin_37 : decode cX5_begin 37 = .ok (.putfield 84, 3) := by decide +kernel
theorem dX5_begin_40 : decode cX5_begin 40 = .ok (.iload_n 2, 1) := by decide +kernel
theorem dX5_begin_41 : decode cX5_begin 41 = .ok (.ireturn, 1) := by decide +kernel
set_option maxRecDepth 20000 in
theorem ggX5_isNode_X5_in : GoodIn wsX5_isNode wsX5_in := goodIn_r _ [5] (by decide +kernel) (by decide +kernel)
set_option maxRecDepth 20000 in
theorem gX5_isNode_X5_in : GoodIn wsX5_isNode (va_wsS RX5 60 yX5_in wsX5_in) := goodIn_app (goodIn_of _ (by decide +kernel)) ggX5_isNode_X5_in
theorem dX5_isNode_0 : decode cX5_isNode 0 = .ok (.iload_n 1, 1) := by decide +kernel
theorem dX5_isNode_1 : decode cX5_isNode 1 = .ok (.iconst 0, 1) := by decide +kernel
theorem dX5_isNode_2 : decode cX5_isNode 2 = .ok (.aload_n 0, 1) := by decide +kernel
theorem dX5_isNode_3 : decode cX5_isNode 3 = .ok (.getfield 81, 3) := by decide +kernel
theorem dX5_isNode_6 : decode cX5_isNode 6 = .ok (.iconst 1, 1) := by decide +kernel
theorem dX5_isNode_7 : decode cX5_isNode 7 = .ok (.isub, 1) := by decide +kernel
theorem dX5_isNode_8 : decode cX5_isNode 8 = .ok (.invokestatic 60, 3) := by decide +kernel
theorem dX5_isNode_11 : decode cX5_isNode 11 = .ok (.ireturn, 1) := by decide +kernel
theorem dX5_fieldOf_0 : decode cX5_fieldOf 0 = .ok (.bipush 8, 2) := by decide +kernel
theorem dX5_fieldOf_2 : decode cX5_fieldOf 2 = .ok (.aload_n 0, 1) := by decide +kernel
theorem dX5_fieldOf_3 : decode cX5_fieldOf 3 = .ok (.getfield 32, 3) := by decide +kernel
theorem dX5_fieldOf_6 : decode cX5_fieldOf 6 = .ok (.iload_n 1, 1) := by decide +kernel
theorem dX5_fieldOf_7 : decode cX5_fieldOf 7 = .ok (.iaload, 1) := by decide +kernel
theorem dX5_fieldOf_8 : decode cX5_fieldOf 8 = .ok (.imul, 1) := by decide +kernel
theorem dX5_fieldOf_9 : decode cX5_fieldOf 9 = .ok (.aload_n 0, 1) := by decide +kernel
theorem dX5_fieldOf_10 : decode cX5_fieldOf 10 = .ok (.getfield 29, 3) := by decide +kernel
theorem dX5_fieldOf_13 : decode cX5_fieldOf 13 = .ok (.iload_n 1, 1) := by decide +kernel
theorem dX5_fieldOf_14 : decode cX5_fieldOf 14 = .ok (.iaload, 1) := by decide +kernel
theorem dX5_fieldOf_15 : decode cX5_fieldOf 15 = .ok (.iadd, 1) := by decide +kernel
theorem dX5_fieldOf_16 : decode cX5_fieldOf 16 = .ok (.ireturn, 1) := by decide +kernel
set_option maxRecDepth 20000 in
theorem ggX5_node_X5_isNode : GoodIn wsX5_node wsX5_isNode := goodIn_r _ [12, 4, 13, 14, 11, 15, 25, 26, 27, 28, 29, 30, 31, 32, 33, 34, 35, 36, 37, 38, 39, 40, 41, 42, 43, 44] (by decide +kernel) (by decide +kernel)
set_option maxRecDepth 20000 in
theorem gX5_node_X5_isNode : GoodIn wsX5_node (wsV RX5 87 RX5 yX5_isNode wsX5_isNode) := goodIn_app (goodIn_of _ (by decide +kernel)) ggX5_node_X5_isNode
set_option maxRecDepth 20000 in
theorem ggX5_node_X5_fieldOf : GoodIn wsX5_node wsX5_fieldOf := goodIn_r _ [19, 7, 6, 25, 26, 27, 28, 29, 30, 31, 32, 33, 34, 35, 36, 37, 38, 39, 40, 41, 42, 43, 44] (by decide +kernel) (by decide +kernel)
set_option maxRecDepth 20000 in
theorem gX5_node_X5_fieldOf : GoodIn wsX5_node (wsV RX5 90 RX5 yX5_fieldOf wsX5_fieldOf) := goodIn_app (goodIn_of _ (by decide +kernel)) ggX5_node_X5_fieldOf
set_option maxRecDepth 20000 in
theorem ggX5_node_X5_isField : GoodIn wsX5_node wsX5_isField := goodIn_r _ [23, 24, 13, 14, 11, 15, 25, 26, 27, 28, 29, 30, 31, 32, 33, 34, 35, 36, 37, 38, 39, 40, 41, 42, 43, 44] (by decide +kernel) (by decide +kernel)
set_option maxRecDepth 20000 in
theorem gX5_node_X5_isField : GoodIn wsX5_node (wsV RX5 71 RX5 yX5_isField wsX5_isField) := goodIn_app (goodIn_of _ (by decide +kernel)) ggX5_node_X5_isField
theorem dX5_node_0 : decode cX5_node 0 = .ok (.aload_n 0, 1) := by decide +kernel
theorem dX5_node_1 : decode cX5_node 1 = .ok (.iload_n 1, 1) := by decide +kernel
theorem dX5_node_2 : decode cX5_node 2 = .ok (.iconst (-1), 1) := by decide +kernel
theorem dX5_node_3 : decode cX5_node 3 = .ok (.if_icmp .eq 11, 3) := by decide +kernel
theorem dX5_node_6 : decode cX5_node 6 = .ok (.aload_n 0, 1) := by decide +kernel
theorem dX5_node_7 : decode cX5_node 7 = .ok (.iload_n 1, 1) := by decide +kernel
theorem dX5_node_8 : decode cX5_node 8 = .ok (.invokevirtual 87, 3) := by decide +kernel
theorem dX5_node_11 : decode cX5_node 11 = .ok (.ifCond .eq 7, 3) := by decide +kernel
theorem dX5_node_14 : decode cX5_node 14 = .ok (.iconst 0, 1) := by decide +kernel
theorem dX5_node_15 : decode cX5_node 15 = .ok (.goto 4, 3) := by decide +kernel
theorem dX5_node_18 : decode cX5_node 18 = .ok (.iconst 1, 1) := by decide +kernel
theorem dX5_node_19 : decode cX5_node 19 = .ok (.putfield 56, 3) := by decide +kernel
theorem dX5_node_22 : decode cX5_node 22 = .ok (.aload_n 0, 1) := by decide +kernel
theorem dX5_node_23 : decode cX5_node 23 = .ok (.getfield 56, 3) := by decide +kernel
theorem dX5_node_26 : decode cX5_node 26 = .ok (.ifCond .le 5, 3) := by decide +kernel
theorem dX5_node_29 : decode cX5_node 29 = .ok (.iconst 0, 1) := by decide +kernel
theorem dX5_node_30 : decode cX5_node 30 = .ok (.ireturn, 1) := by decide +kernel
theorem dX5_node_31 : decode cX5_node 31 = .ok (.iload_n 1, 1) := by decide +kernel
theorem dX5_node_32 : decode cX5_node 32 = .ok (.iconst (-1), 1) := by decide +kernel
theorem dX5_node_33 : decode cX5_node 33 = .ok (.if_icmp .ne 10, 3) := by decide +kernel
theorem dX5_node_36 : decode cX5_node 36 = .ok (.aload_n 0, 1) := by decide +kernel
theorem dX5_node_37 : decode cX5_node 37 = .ok (.getfield 84, 3) := by decide +kernel
theorem dX5_node_40 : decode cX5_node 40 = .ok (.goto 13, 3) := by decide +kernel
theorem dX5_node_43 : decode cX5_node 43 = .ok (.aload_n 0, 1) := by decide +kernel
theorem dX5_node_44 : decode cX5_node 44 = .ok (.getfield 13, 3) := by decide +kernel
theorem dX5_node_47 : decode cX5_node 47 = .ok (.aload_n 0, 1) := by decide +kernel
theorem dX5_node_48 : decode cX5_node 48 = .ok (.iload_n 1, 1) := by decide +kernel
theorem dX5_node_49 : decode cX5_node 49 = .ok (.invokevirtual 90, 3) := by decide +kernel
theorem dX5_node_52 : decode cX5_node 52 = .ok (.iaload, 1) := by decide +kernel
theorem dX5_node_53 : decode cX5_node 53 = .ok (.istore_n 3, 1) := by decide +kernel
theorem dX5_node_54 : decode cX5_node 54 = .ok (.aload_n 0, 1) := by decide +kernel
theorem dX5_node_55 : decode cX5_node 55 = .ok (.iload_n 3, 1) := by decide +kernel
theorem dX5_node_56 : decode cX5_node 56 = .ok (.iconst (-1), 1) := by decide +kernel
theorem dX5_node_57 : decode cX5_node 57 = .ok (.if_icmp .ne 7, 3) := by decide +kernel
theorem dX5_node_60 : decode cX5_node 60 = .ok (.iconst 2, 1) := by decide +kernel
theorem dX5_node_61 : decode cX5_node 61 = .ok (.goto 17, 3) := by decide +kernel
theorem dX5_node_64 : decode cX5_node 64 = .ok (.aload_n 0, 1) := by decide +kernel
theorem dX5_node_65 : decode cX5_node 65 = .ok (.iload_n 3, 1) := by decide +kernel
theorem dX5_node_66 : decode cX5_node 66 = .ok (.iload_n 2, 1) := by decide +kernel
theorem dX5_node_67 : decode cX5_node 67 = .ok (.invokevirtual 71, 3) := by decide +kernel
theorem dX5_node_70 : decode cX5_node 70 = .ok (.ifCond .eq 7, 3) := by decide +kernel
theorem dX5_node_73 : decode cX5_node 73 = .ok (.iconst 0, 1) := by decide +kernel
theorem dX5_node_74 : decode cX5_node 74 = .ok (.goto 4, 3) := by decide +kernel
theorem dX5_node_77 : decode cX5_node 77 = .ok (.iconst 1, 1) := by decide +kernel
theorem dX5_node_78 : decode cX5_node 78 = .ok (.putfield 56, 3) := by decide +kernel
theorem dX5_node_81 : decode cX5_node 81 = .ok (.iconst 0, 1) := by decide +kernel
theorem dX5_node_82 : decode cX5_node 82 = .ok (.istore 4, 2) := by decide +kernel
theorem dX5_node_84 : decode cX5_node 84 = .ok (.iconst 0, 1) := by decide +kernel
theorem dX5_node_85 : decode cX5_node 85 = .ok (.istore 5, 2) := by decide +kernel
theorem dX5_node_87 : decode cX5_node 87 = .ok (.iconst 0, 1) := by decide +kernel
theorem dX5_node_88 : decode cX5_node 88 = .ok (.istore 6, 2) := by decide +kernel
theorem dX5_node_90 : decode cX5_node 90 = .ok (.iload 6, 2) := by decide +kernel
theorem dX5_node_92 : decode cX5_node 92 = .ok (.aload_n 0, 1) := by decide +kernel
theorem dX5_node_93 : decode cX5_node 93 = .ok (.getfield 81, 3) := by decide +kernel
theorem dX5_node_96 : decode cX5_node 96 = .ok (.if_icmp .ge 64, 3) := by decide +kernel
theorem dX5_node_99 : decode cX5_node 99 = .ok (.iload 4, 2) := by decide +kernel
theorem dX5_node_101 : decode cX5_node 101 = .ok (.aload_n 0, 1) := by decide +kernel
theorem dX5_node_102 : decode cX5_node 102 = .ok (.getfield 26, 3) := by decide +kernel
theorem dX5_node_105 : decode cX5_node 105 = .ok (.iload 6, 2) := by decide +kernel
theorem dX5_node_107 : decode cX5_node 107 = .ok (.iaload, 1) := by decide +kernel
theorem dX5_node_108 : decode cX5_node 108 = .ok (.iload_n 1, 1) := by decide +kernel
theorem dX5_node_109 : decode cX5_node 109 = .ok (.if_icmp .ne 7, 3) := by decide +kernel
theorem dX5_node_112 : decode cX5_node 112 = .ok (.iconst 1, 1) := by decide +kernel
theorem dX5_node_113 : decode cX5_node 113 = .ok (.goto 4, 3) := by decide +kernel
theorem dX5_node_116 : decode cX5_node 116 = .ok (.iconst 0, 1) := by decide +kernel
theorem dX5_node_117 : decode cX5_node 117 = .ok (.iadd, 1) := by decide +kernel
theorem dX5_node_118 : decode cX5_node 118 = .ok (.istore 4, 2) := by decide +kernel
theorem dX5_node_120 : decode cX5_node 120 = .ok (.iload 5, 2) := by decide +kernel
theorem dX5_node_122 : decode cX5_node 122 = .ok (.ifCond .ne 25, 3) := by decide +kernel
theorem dX5_node_125 : decode cX5_node 125 = .ok (.aload_n 0, 1) := by decide +kernel
theorem dX5_node_126 : decode cX5_node 126 = .ok (.getfield 26, 3) := by decide +kernel
theorem dX5_node_129 : decode cX5_node 129 = .ok (.iload 6, 2) := by decide +kernel
theorem dX5_node_131 : decode cX5_node 131 = .ok (.iaload, 1) := by decide +kernel
theorem dX5_node_132 : decode cX5_node 132 = .ok (.iload_n 1, 1) := by decide +kernel
theorem dX5_node_133 : decode cX5_node 133 = .ok (.if_icmp .ne 18, 3) := by decide +kernel
theorem dX5_node_136 : decode cX5_node 136 = .ok (.aload_n 0, 1) := by decide +kernel
theorem dX5_node_137 : decode cX5_node 137 = .ok (.getfield 29, 3) := by decide +kernel
theorem dX5_node_140 : decode cX5_node 140 = .ok (.iload 6, 2) := by decide +kernel
theorem dX5_node_142 : decode cX5_node 142 = .ok (.iaload, 1) := by decide +kernel
theorem dX5_node_143 : decode cX5_node 143 = .ok (.iload_n 2, 1) := by decide +kernel
theorem dX5_node_144 : decode cX5_node 144 = .ok (.if_icmp .ne 7, 3) := by decide +kernel
theorem dX5_node_147 : decode cX5_node 147 = .ok (.iconst 1, 1) := by decide +kernel
theorem dX5_node_148 : decode cX5_node 148 = .ok (.goto 4, 3) := by decide +kernel
theorem dX5_node_151 : decode cX5_node 151 = .ok (.iconst 0, 1) := by decide +kernel
theorem dX5_node_152 : decode cX5_node 152 = .ok (.istore 5, 2) := by decide +kernel
theorem dX5_node_154 : decode cX5_node 154 = .ok (.iinc 6 1, 3) := by decide +kernel
theorem dX5_node_157 : decode cX5_node 157 = .ok (.goto (-67), 3) := by decide +kernel
theorem dX5_node_160 : decode cX5_node 160 = .ok (.aload_n 0, 1) := by decide +kernel
theorem dX5_node_161 : decode cX5_node 161 = .ok (.getfield 56, 3) := by decide +kernel
theorem dX5_node_164 : decode cX5_node 164 = .ok (.ifCond .ne 28, 3) := by decide +kernel
theorem dX5_node_167 : decode cX5_node 167 = .ok (.aload_n 0, 1) := by decide +kernel
theorem dX5_node_168 : decode cX5_node 168 = .ok (.getfield 81, 3) := by decide +kernel
theorem dX5_node_171 : decode cX5_node 171 = .ok (.bipush 12, 2) := by decide +kernel
theorem dX5_node_173 : decode cX5_node 173 = .ok (.if_icmp .eq 14, 3) := by decide +kernel
theorem dX5_node_176 : decode cX5_node 176 = .ok (.iload 4, 2) := by decide +kernel
theorem dX5_node_178 : decode cX5_node 178 = .ok (.iconst 4, 1) := by decide +kernel
theorem dX5_node_179 : decode cX5_node 179 = .ok (.if_icmp .eq 8, 3) := by decide +kernel
theorem dX5_node_182 : decode cX5_node 182 = .ok (.iload 5, 2) := by decide +kernel
theorem dX5_node_184 : decode cX5_node 184 = .ok (.ifCond .eq 8, 3) := by decide +kernel
theorem dX5_node_187 : decode cX5_node 187 = .ok (.aload_n 0, 1) := by decide +kernel
theorem dX5_node_188 : decode cX5_node 188 = .ok (.iconst 2, 1) := by decide +kernel
theorem dX5_node_189 : decode cX5_node 189 = .ok (.putfield 56, 3) := by decide +kernel
theorem dX5_node_192 : decode cX5_node 192 = .ok (.aload_n 0, 1) := by decide +kernel
theorem dX5_node_193 : decode cX5_node 193 = .ok (.getfield 56, 3) := by decide +kernel
theorem dX5_node_196 : decode cX5_node 196 = .ok (.ifCond .le 5, 3) := by decide +kernel
theorem dX5_node_199 : decode cX5_node 199 = .ok (.iconst 0, 1) := by decide +kernel
theorem dX5_node_200 : decode cX5_node 200 = .ok (.ireturn, 1) := by decide +kernel
theorem dX5_node_201 : decode cX5_node 201 = .ok (.aload_n 0, 1) := by decide +kernel
theorem dX5_node_202 : decode cX5_node 202 = .ok (.getfield 26, 3) := by decide +kernel
theorem dX5_node_205 : decode cX5_node 205 = .ok (.aload_n 0, 1) := by decide +kernel
theorem dX5_node_206 : decode cX5_node 206 = .ok (.getfield 81, 3) := by decide +kernel
theorem dX5_node_209 : decode cX5_node 209 = .ok (.iload_n 1, 1) := by decide +kernel
theorem dX5_node_210 : decode cX5_node 210 = .ok (.iastore, 1) := by decide +kernel
theorem dX5_node_211 : decode cX5_node 211 = .ok (.aload_n 0, 1) := by decide +kernel
theorem dX5_node_212 : decode cX5_node 212 = .ok (.getfield 29, 3) := by decide +kernel
theorem dX5_node_215 : decode cX5_node 215 = .ok (.aload_n 0, 1) := by decide +kernel
theorem dX5_node_216 : decode cX5_node 216 = .ok (.getfield 81, 3) := by decide +kernel
theorem dX5_node_219 : decode cX5_node 219 = .ok (.iload_n 2, 1) := by decide +kernel
theorem dX5_node_220 : decode cX5_node 220 = .ok (.iastore, 1) := by decide +kernel
theorem dX5_node_221 : decode cX5_node 221 = .ok (.aload_n 0, 1) := by decide +kernel
theorem dX5_node_222 : decode cX5_node 222 = .ok (.getfield 32, 3) := by decide +kernel
theorem dX5_node_225 : decode cX5_node 225 = .ok (.aload_n 0, 1) := by decide +kernel
theorem dX5_node_226 : decode cX5_node 226 = .ok (.getfield 81, 3) := by decide +kernel
theorem dX5_node_229 : decode cX5_node 229 = .ok (.iload_n 3, 1) := by decide +kernel
theorem dX5_node_230 : decode cX5_node 230 = .ok (.iastore, 1) := by decide +kernel
theorem dX5_node_231 : decode cX5_node 231 = .ok (.aload_n 0, 1) := by decide +kernel
theorem dX5_node_232 : decode cX5_node 232 = .ok (.dup, 1) := by decide +kernel
theorem dX5_node_233 : decode cX5_node 233 = .ok (.getfield 81, 3) := by decide +kernel
theorem dX5_node_236 : decode cX5_node 236 = .ok (.iconst 1, 1) := by decide +kernel
theorem dX5_node_237 : decode cX5_node 237 = .ok (.iadd, 1) := by decide +kernel
theorem dX5_node_238 : decode cX5_node 238 = .ok (.putfield 81, 3) := by decide +kernel
theorem dX5_node_241 : decode cX5_node 241 = .ok (.aload_n 0, 1) := by decide +kernel
theorem dX5_node_242 : decode cX5_node 242 = .ok (.getfield 81, 3) := by decide +kernel
theorem dX5_node_245 : decode cX5_node 245 = .ok (.iconst 1, 1) := by decide +kernel
theorem dX5_node_246 : decode cX5_node 246 = .ok (.isub, 1) := by decide +kernel
theorem dX5_node_247 : decode cX5_node 247 = .ok (.ireturn, 1) := by decide +kernel
theorem dX5_nodes_0 : decode cX5_nodes 0 = .ok (.aload_n 0, 1) := by decide +kernel
theorem dX5_nodes_1 : decode cX5_nodes 1 = .ok (.iconst 0, 1) := by decide +kernel
theorem dX5_nodes_2 : decode cX5_nodes 2 = .ok (.putfield 56, 3) := by decide +kernel
theorem dX5_nodes_5 : decode cX5_nodes 5 = .ok (.aload_n 0, 1) := by decide +kernel
theorem dX5_nodes_6 : decode cX5_nodes 6 = .ok (.getfield 81, 3) := by decide +kernel
theorem dX5_nodes_9 : decode cX5_nodes 9 = .ok (.ireturn, 1) := by decide +kernel
set_option maxRecDepth 20000 in
theorem ggX5_typeOf_X5_isNode : GoodIn wsX5_typeOf wsX5_isNode := goodIn_r _ [7, 8, 9, 10, 6, 11, 12, 13, 14, 15, 16, 17, 18, 19, 20, 21, 22, 23, 24, 25, 26, 27, 28, 29, 30, 31] (by decide +kernel) (by decide +kernel)
set_option maxRecDepth 20000 in
theorem gX5_typeOf_X5_isNode : GoodIn wsX5_typeOf (wsV RX5 87 RX5 yX5_isNode wsX5_isNode) := goodIn_app (goodIn_of _ (by decide +kernel)) ggX5_typeOf_X5_isNode
theorem dX5_typeOf_0 : decode cX5_typeOf 0 = .ok (.aload_n 0, 1) := by decide +kernel
theorem dX5_typeOf_1 : decode cX5_typeOf 1 = .ok (.aload_n 0, 1) := by decide +kernel
theorem dX5_typeOf_2 : decode cX5_typeOf 2 = .ok (.iload_n 1, 1) := by decide +kernel
theorem dX5_typeOf_3 : decode cX5_typeOf 3 = .ok (.invokevirtual 87, 3) := by decide +kernel
theorem dX5_typeOf_6 : decode cX5_typeOf 6 = .ok (.ifCond .eq 7, 3) := by decide +kernel
theorem dX5_typeOf_9 : decode cX5_typeOf 9 = .ok (.iconst 0, 1) := by decide +kernel
theorem dX5_typeOf_10 : decode cX5_typeOf 10 = .ok (.goto 4, 3) := by decide +kernel
theorem dX5_typeOf_13 : decode cX5_typeOf 13 = .ok (.iconst 1, 1) := by decide +kernel
theorem dX5_typeOf_14 : decode cX5_typeOf 14 = .ok (.putfield 56, 3) := by decide +kernel
theorem dX5_typeOf_17 : decode cX5_typeOf 17 = .ok (.aload_n 0, 1) := by decide +kernel
theorem dX5_typeOf_18 : decode cX5_typeOf 18 = .ok (.getfield 56, 3) := by decide +kernel
theorem dX5_typeOf_21 : decode cX5_typeOf 21 = .ok (.ifCond .le 7, 3) := by decide +kernel
theorem dX5_typeOf_24 : decode cX5_typeOf 24 = .ok (.iconst 0, 1) := by decide +kernel
theorem dX5_typeOf_25 : decode cX5_typeOf 25 = .ok (.goto 9, 3) := by decide +kernel
theorem dX5_typeOf_28 : decode cX5_typeOf 28 = .ok (.aload_n 0, 1) := by decide +kernel
theorem dX5_typeOf_29 : decode cX5_typeOf 29 = .ok (.getfield 32, 3) := by decide +kernel
theorem dX5_typeOf_32 : decode cX5_typeOf 32 = .ok (.iload_n 1, 1) := by decide +kernel
theorem dX5_typeOf_33 : decode cX5_typeOf 33 = .ok (.iaload, 1) := by decide +kernel
theorem dX5_typeOf_34 : decode cX5_typeOf 34 = .ok (.ireturn, 1) := by decide +kernel
theorem dX5_manyOf_0 : decode cX5_manyOf 0 = .ok (.iconst 0, 1) := by decide +kernel
theorem dX5_manyOf_1 : decode cX5_manyOf 1 = .ok (.istore_n 1, 1) := by decide +kernel
theorem dX5_manyOf_2 : decode cX5_manyOf 2 = .ok (.iconst 0, 1) := by decide +kernel
theorem dX5_manyOf_3 : decode cX5_manyOf 3 = .ok (.istore_n 2, 1) := by decide +kernel
theorem dX5_manyOf_4 : decode cX5_manyOf 4 = .ok (.iload_n 2, 1) := by decide +kernel
theorem dX5_manyOf_5 : decode cX5_manyOf 5 = .ok (.iconst 4, 1) := by decide +kernel
theorem dX5_manyOf_6 : decode cX5_manyOf 6 = .ok (.if_icmp .ge 17, 3) := by decide +kernel
theorem dX5_manyOf_9 : decode cX5_manyOf 9 = .ok (.iload_n 1, 1) := by decide +kernel
theorem dX5_manyOf_10 : decode cX5_manyOf 10 = .ok (.iload_n 0, 1) := by decide +kernel
theorem dX5_manyOf_11 : decode cX5_manyOf 11 = .ok (.iload_n 2, 1) := by decide +kernel
theorem dX5_manyOf_12 : decode cX5_manyOf 12 = .ok (.ishr, 1) := by decide +kernel
theorem dX5_manyOf_13 : decode cX5_manyOf 13 = .ok (.iconst 1, 1) := by decide +kernel
theorem dX5_manyOf_14 : decode cX5_manyOf 14 = .ok (.iand, 1) := by decide +kernel
theorem dX5_manyOf_15 : decode cX5_manyOf 15 = .ok (.iadd, 1) := by decide +kernel
theorem dX5_manyOf_16 : decode cX5_manyOf 16 = .ok (.istore_n 1, 1) := by decide +kernel
theorem dX5_manyOf_17 : decode cX5_manyOf 17 = .ok (.iinc 2 1, 3) := by decide +kernel
theorem dX5_manyOf_20 : decode cX5_manyOf 20 = .ok (.goto (-16), 3) := by decide +kernel
theorem dX5_manyOf_23 : decode cX5_manyOf 23 = .ok (.iload_n 1, 1) := by decide +kernel
theorem dX5_manyOf_24 : decode cX5_manyOf 24 = .ok (.ireturn, 1) := by decide +kernel
theorem dX5_fewestBy_0 : decode cX5_fewestBy 0 = .ok (.sipush 1000, 3) := by decide +kernel
theorem dX5_fewestBy_3 : decode cX5_fewestBy 3 = .ok (.istore_n 3, 1) := by decide +kernel
theorem dX5_fewestBy_4 : decode cX5_fewestBy 4 = .ok (.iconst 0, 1) := by decide +kernel
theorem dX5_fewestBy_5 : decode cX5_fewestBy 5 = .ok (.istore 4, 2) := by decide +kernel
theorem dX5_fewestBy_7 : decode cX5_fewestBy 7 = .ok (.iload 4, 2) := by decide +kernel
theorem dX5_fewestBy_9 : decode cX5_fewestBy 9 = .ok (.iconst 4, 1) := by decide +kernel
theorem dX5_fewestBy_10 : decode cX5_fewestBy 10 = .ok (.if_icmp .ge 68, 3) := by decide +kernel
theorem dX5_fewestBy_13 : decode cX5_fewestBy 13 = .ok (.iload_n 2, 1) := by decide +kernel
theorem dX5_fewestBy_14 : decode cX5_fewestBy 14 = .ok (.aload_n 0, 1) := by decide +kernel
theorem dX5_fewestBy_15 : decode cX5_fewestBy 15 = .ok (.getfield 35, 3) := by decide +kernel
theorem dX5_fewestBy_18 : decode cX5_fewestBy 18 = .ok (.iload_n 1, 1) := by decide +kernel
theorem dX5_fewestBy_19 : decode cX5_fewestBy 19 = .ok (.iaload, 1) := by decide +kernel
theorem dX5_fewestBy_20 : decode cX5_fewestBy 20 = .ok (.iand, 1) := by decide +kernel
theorem dX5_fewestBy_21 : decode cX5_fewestBy 21 = .ok (.iconst 1, 1) := by decide +kernel
theorem dX5_fewestBy_22 : decode cX5_fewestBy 22 = .ok (.iload 4, 2) := by decide +kernel
theorem dX5_fewestBy_24 : decode cX5_fewestBy 24 = .ok (.ishl, 1) := by decide +kernel
theorem dX5_fewestBy_25 : decode cX5_fewestBy 25 = .ok (.iand, 1) := by decide +kernel
theorem dX5_fewestBy_26 : decode cX5_fewestBy 26 = .ok (.ifCond .eq 22, 3) := by decide +kernel
theorem dX5_fewestBy_29 : decode cX5_fewestBy 29 = .ok (.aload_n 0, 1) := by decide +kernel
theorem dX5_fewestBy_30 : decode cX5_fewestBy 30 = .ok (.getfield 38, 3) := by decide +kernel
theorem dX5_fewestBy_33 : decode cX5_fewestBy 33 = .ok (.iconst 4, 1) := by decide +kernel
theorem dX5_fewestBy_34 : decode cX5_fewestBy 34 = .ok (.iload_n 1, 1) := by decide +kernel
theorem dX5_fewestBy_35 : decode cX5_fewestBy 35 = .ok (.imul, 1) := by decide +kernel
theorem dX5_fewestBy_36 : decode cX5_fewestBy 36 = .ok (.iload 4, 2) := by decide +kernel
theorem dX5_fewestBy_38 : decode cX5_fewestBy 38 = .ok (.iadd, 1) := by decide +kernel
theorem dX5_fewestBy_39 : decode cX5_fewestBy 39 = .ok (.iaload, 1) := by decide +kernel
theorem dX5_fewestBy_40 : decode cX5_fewestBy 40 = .ok (.iload_n 3, 1) := by decide +kernel
theorem dX5_fewestBy_41 : decode cX5_fewestBy 41 = .ok (.if_icmp .ge 7, 3) := by decide +kernel
theorem dX5_fewestBy_44 : decode cX5_fewestBy 44 = .ok (.iconst 1, 1) := by decide +kernel
theorem dX5_fewestBy_45 : decode cX5_fewestBy 45 = .ok (.goto 4, 3) := by decide +kernel
theorem dX5_fewestBy_48 : decode cX5_fewestBy 48 = .ok (.iconst 0, 1) := by decide +kernel
theorem dX5_fewestBy_49 : decode cX5_fewestBy 49 = .ok (.istore 5, 2) := by decide +kernel
theorem dX5_fewestBy_51 : decode cX5_fewestBy 51 = .ok (.iload 5, 2) := by decide +kernel
theorem dX5_fewestBy_53 : decode cX5_fewestBy 53 = .ok (.ifCond .eq 17, 3) := by decide +kernel
theorem dX5_fewestBy_56 : decode cX5_fewestBy 56 = .ok (.aload_n 0, 1) := by decide +kernel
theorem dX5_fewestBy_57 : decode cX5_fewestBy 57 = .ok (.getfield 38, 3) := by decide +kernel
theorem dX5_fewestBy_60 : decode cX5_fewestBy 60 = .ok (.iconst 4, 1) := by decide +kernel
theorem dX5_fewestBy_61 : decode cX5_fewestBy 61 = .ok (.iload_n 1, 1) := by decide +kernel
theorem dX5_fewestBy_62 : decode cX5_fewestBy 62 = .ok (.imul, 1) := by decide +kernel
theorem dX5_fewestBy_63 : decode cX5_fewestBy 63 = .ok (.iload 4, 2) := by decide +kernel
theorem dX5_fewestBy_65 : decode cX5_fewestBy 65 = .ok (.iadd, 1) := by decide +kernel
theorem dX5_fewestBy_66 : decode cX5_fewestBy 66 = .ok (.iaload, 1) := by decide +kernel
theorem dX5_fewestBy_67 : decode cX5_fewestBy 67 = .ok (.goto 4, 3) := by decide +kernel
theorem dX5_fewestBy_70 : decode cX5_fewestBy 70 = .ok (.iload_n 3, 1) := by decide +kernel
theorem dX5_fewestBy_71 : decode cX5_fewestBy 71 = .ok (.istore_n 3, 1) := by decide +kernel
theorem dX5_fewestBy_72 : decode cX5_fewestBy 72 = .ok (.iinc 4 1, 3) := by decide +kernel
theorem dX5_fewestBy_75 : decode cX5_fewestBy 75 = .ok (.goto (-68), 3) := by decide +kernel
theorem dX5_fewestBy_78 : decode cX5_fewestBy 78 = .ok (.iload_n 3, 1) := by decide +kernel
theorem dX5_fewestBy_79 : decode cX5_fewestBy 79 = .ok (.ireturn, 1) := by decide +kernel
set_option maxRecDepth 20000 in
theorem ggX5_hopsBelow_X5_manyOf : GoodIn wsX5_hopsBelow wsX5_manyOf := goodIn_r _ [6] (by decide +kernel) (by decide +kernel)
set_option maxRecDepth 20000 in
theorem gX5_hopsBelow_X5_manyOf : GoodIn wsX5_hopsBelow (va_wsS RX5 94 yX5_manyOf wsX5_manyOf) := goodIn_app (goodIn_of _ (by decide +kernel)) ggX5_hopsBelow_X5_manyOf
set_option maxRecDepth 20000 in
theorem ggX5_hopsBelow_X5_fewestBy : GoodIn wsX5_hopsBelow wsX5_fewestBy := goodIn_r _ [10, 11, 12, 13, 14, 15, 16, 17, 18, 19, 20, 21, 22, 23, 24, 25, 26, 27, 28, 29, 30, 31, 32] (by decide +kernel) (by decide +kernel)
set_option maxRecDepth 20000 in
theorem gX5_hopsBelow_X5_fewestBy : GoodIn wsX5_hopsBelow (wsV RX5 97 RX5 yX5_fewestBy wsX5_fewestBy) := goodIn_app (goodIn_of _ (by decide +kernel)) ggX5_hopsBelow_X5_fewestBy
theorem dX5_hopsBelow_0 : decode cX5_hopsBelow 0 = .ok (.sipush 1000, 3) := by decide +kernel
theorem dX5_hopsBelow_3 : decode cX5_hopsBelow 3 = .ok (.istore_n 3, 1) := by decide +kernel
theorem dX5_hopsBelow_4 : decode cX5_hopsBelow 4 = .ok (.iconst 0, 1) := by decide +kernel
theorem dX5_hopsBelow_5 : decode cX5_hopsBelow 5 = .ok (.istore 4, 2) := by decide +kernel
theorem dX5_hopsBelow_7 : decode cX5_hopsBelow 7 = .ok (.iload 4, 2) := by decide +kernel
theorem dX5_hopsBelow_9 : decode cX5_hopsBelow 9 = .ok (.bipush 16, 2) := by decide +kernel
theorem dX5_hopsBelow_11 : decode cX5_hopsBelow 11 = .ok (.if_icmp .ge 91, 3) := by decide +kernel
theorem dX5_hopsBelow_14 : decode cX5_hopsBelow 14 = .ok (.iload_n 2, 1) := by decide +kernel
theorem dX5_hopsBelow_15 : decode cX5_hopsBelow 15 = .ok (.iconst (-1), 1) := by decide +kernel
theorem dX5_hopsBelow_16 : decode cX5_hopsBelow 16 = .ok (.if_icmp .ne 8, 3) := by decide +kernel
theorem dX5_hopsBelow_19 : decode cX5_hopsBelow 19 = .ok (.iload 4, 2) := by decide +kernel
theorem dX5_hopsBelow_21 : decode cX5_hopsBelow 21 = .ok (.goto 11, 3) := by decide +kernel
theorem dX5_hopsBelow_24 : decode cX5_hopsBelow 24 = .ok (.iload 4, 2) := by decide +kernel
theorem dX5_hopsBelow_26 : decode cX5_hopsBelow 26 = .ok (.iconst 1, 1) := by decide +kernel
theorem dX5_hopsBelow_27 : decode cX5_hopsBelow 27 = .ok (.iload_n 2, 1) := by decide +kernel
theorem dX5_hopsBelow_28 : decode cX5_hopsBelow 28 = .ok (.ishl, 1) := by decide +kernel
theorem dX5_hopsBelow_29 : decode cX5_hopsBelow 29 = .ok (.iconst (-1), 1) := by decide +kernel
theorem dX5_hopsBelow_30 : decode cX5_hopsBelow 30 = .ok (.ixor, 1) := by decide +kernel
theorem dX5_hopsBelow_31 : decode cX5_hopsBelow 31 = .ok (.iand, 1) := by decide +kernel
theorem dX5_hopsBelow_32 : decode cX5_hopsBelow 32 = .ok (.invokestatic 94, 3) := by decide +kernel
theorem dX5_hopsBelow_35 : decode cX5_hopsBelow 35 = .ok (.istore 5, 2) := by decide +kernel
theorem dX5_hopsBelow_37 : decode cX5_hopsBelow 37 = .ok (.iconst 0, 1) := by decide +kernel
theorem dX5_hopsBelow_38 : decode cX5_hopsBelow 38 = .ok (.istore 6, 2) := by decide +kernel
theorem dX5_hopsBelow_40 : decode cX5_hopsBelow 40 = .ok (.iload 6, 2) := by decide +kernel
theorem dX5_hopsBelow_42 : decode cX5_hopsBelow 42 = .ok (.aload_n 0, 1) := by decide +kernel
theorem dX5_hopsBelow_43 : decode cX5_hopsBelow 43 = .ok (.getfield 81, 3) := by decide +kernel
theorem dX5_hopsBelow_46 : decode cX5_hopsBelow 46 = .ok (.if_icmp .ge 37, 3) := by decide +kernel
theorem dX5_hopsBelow_49 : decode cX5_hopsBelow 49 = .ok (.iload 5, 2) := by decide +kernel
theorem dX5_hopsBelow_51 : decode cX5_hopsBelow 51 = .ok (.aload_n 0, 1) := by decide +kernel
theorem dX5_hopsBelow_52 : decode cX5_hopsBelow 52 = .ok (.getfield 26, 3) := by decide +kernel
theorem dX5_hopsBelow_55 : decode cX5_hopsBelow 55 = .ok (.iload 6, 2) := by decide +kernel
theorem dX5_hopsBelow_57 : decode cX5_hopsBelow 57 = .ok (.iaload, 1) := by decide +kernel
theorem dX5_hopsBelow_58 : decode cX5_hopsBelow 58 = .ok (.iload_n 1, 1) := by decide +kernel
theorem dX5_hopsBelow_59 : decode cX5_hopsBelow 59 = .ok (.if_icmp .ne 14, 3) := by decide +kernel
theorem dX5_hopsBelow_62 : decode cX5_hopsBelow 62 = .ok (.aload_n 0, 1) := by decide +kernel
theorem dX5_hopsBelow_63 : decode cX5_hopsBelow 63 = .ok (.iload 6, 2) := by decide +kernel
theorem dX5_hopsBelow_65 : decode cX5_hopsBelow 65 = .ok (.iload 4, 2) := by decide +kernel
theorem dX5_hopsBelow_67 : decode cX5_hopsBelow 67 = .ok (.invokevirtual 97, 3) := by decide +kernel
theorem dX5_hopsBelow_70 : decode cX5_hopsBelow 70 = .ok (.goto 4, 3) := by decide +kernel
theorem dX5_hopsBelow_73 : decode cX5_hopsBelow 73 = .ok (.iconst 0, 1) := by decide +kernel
theorem dX5_hopsBelow_74 : decode cX5_hopsBelow 74 = .ok (.iadd, 1) := by decide +kernel
theorem dX5_hopsBelow_75 : decode cX5_hopsBelow 75 = .ok (.istore 5, 2) := by decide +kernel
theorem dX5_hopsBelow_77 : decode cX5_hopsBelow 77 = .ok (.iinc 6 1, 3) := by decide +kernel
theorem dX5_hopsBelow_80 : decode cX5_hopsBelow 80 = .ok (.goto (-40), 3) := by decide +kernel
theorem dX5_hopsBelow_83 : decode cX5_hopsBelow 83 = .ok (.iload 5, 2) := by decide +kernel
theorem dX5_hopsBelow_85 : decode cX5_hopsBelow 85 = .ok (.iload_n 3, 1) := by decide +kernel
theorem dX5_hopsBelow_86 : decode cX5_hopsBelow 86 = .ok (.if_icmp .ge 8, 3) := by decide +kernel
theorem dX5_hopsBelow_89 : decode cX5_hopsBelow 89 = .ok (.iload 5, 2) := by decide +kernel
theorem dX5_hopsBelow_91 : decode cX5_hopsBelow 91 = .ok (.goto 4, 3) := by decide +kernel
theorem dX5_hopsBelow_94 : decode cX5_hopsBelow 94 = .ok (.iload_n 3, 1) := by decide +kernel
theorem dX5_hopsBelow_95 : decode cX5_hopsBelow 95 = .ok (.istore_n 3, 1) := by decide +kernel
theorem dX5_hopsBelow_96 : decode cX5_hopsBelow 96 = .ok (.iinc 4 1, 3) := by decide +kernel
theorem dX5_hopsBelow_99 : decode cX5_hopsBelow 99 = .ok (.goto (-92), 3) := by decide +kernel
theorem dX5_hopsBelow_102 : decode cX5_hopsBelow 102 = .ok (.iload_n 3, 1) := by decide +kernel
theorem dX5_hopsBelow_103 : decode cX5_hopsBelow 103 = .ok (.ireturn, 1) := by decide +kernel
set_option maxRecDepth 20000 in
theorem ggX5_tries_X5_hopsBelow : GoodIn wsX5_tries wsX5_hopsBelow := goodIn_r _ [7, 1, 8, 9, 10, 6, 11, 12, 13, 14, 15, 16, 2, 17, 18, 19, 20, 21, 22, 23, 24, 25, 26, 27, 28, 29, 30, 31, 32, 33, 34, 35, 36] (by decide +kernel) (by decide +kernel)
set_option maxRecDepth 20000 in
theorem gX5_tries_X5_hopsBelow : GoodIn wsX5_tries (wsV RX5 101 RX5 yX5_hopsBelow wsX5_hopsBelow) := goodIn_app (goodIn_of _ (by decide +kernel)) ggX5_tries_X5_hopsBelow
theorem dX5_tries_0 : decode cX5_tries 0 = .ok (.aload_n 0, 1) := by decide +kernel
theorem dX5_tries_1 : decode cX5_tries 1 = .ok (.getfield 81, 3) := by decide +kernel
theorem dX5_tries_4 : decode cX5_tries 4 = .ok (.iconst 1, 1) := by decide +kernel
theorem dX5_tries_5 : decode cX5_tries 5 = .ok (.isub, 1) := by decide +kernel
theorem dX5_tries_6 : decode cX5_tries 6 = .ok (.istore_n 1, 1) := by decide +kernel
theorem dX5_tries_7 : decode cX5_tries 7 = .ok (.iload_n 1, 1) := by decide +kernel
theorem dX5_tries_8 : decode cX5_tries 8 = .ok (.ifCond .lt 38, 3) := by decide +kernel
theorem dX5_tries_11 : decode cX5_tries 11 = .ok (.iconst 0, 1) := by decide +kernel
theorem dX5_tries_12 : decode cX5_tries 12 = .ok (.istore_n 2, 1) := by decide +kernel
theorem dX5_tries_13 : decode cX5_tries 13 = .ok (.iload_n 2, 1) := by decide +kernel
theorem dX5_tries_14 : decode cX5_tries 14 = .ok (.iconst 4, 1) := by decide +kernel
theorem dX5_tries_15 : decode cX5_tries 15 = .ok (.if_icmp .ge 25, 3) := by decide +kernel
theorem dX5_tries_18 : decode cX5_tries 18 = .ok (.aload_n 0, 1) := by decide +kernel
theorem dX5_tries_19 : decode cX5_tries 19 = .ok (.getfield 38, 3) := by decide +kernel
theorem dX5_tries_22 : decode cX5_tries 22 = .ok (.iconst 4, 1) := by decide +kernel
theorem dX5_tries_23 : decode cX5_tries 23 = .ok (.iload_n 1, 1) := by decide +kernel
theorem dX5_tries_24 : decode cX5_tries 24 = .ok (.imul, 1) := by decide +kernel
theorem dX5_tries_25 : decode cX5_tries 25 = .ok (.iload_n 2, 1) := by decide +kernel
theorem dX5_tries_26 : decode cX5_tries 26 = .ok (.iadd, 1) := by decide +kernel
theorem dX5_tries_27 : decode cX5_tries 27 = .ok (.aload_n 0, 1) := by decide +kernel
theorem dX5_tries_28 : decode cX5_tries 28 = .ok (.iload_n 1, 1) := by decide +kernel
theorem dX5_tries_29 : decode cX5_tries 29 = .ok (.iload_n 2, 1) := by decide +kernel
theorem dX5_tries_30 : decode cX5_tries 30 = .ok (.invokevirtual 101, 3) := by decide +kernel
theorem dX5_tries_33 : decode cX5_tries 33 = .ok (.iastore, 1) := by decide +kernel
theorem dX5_tries_34 : decode cX5_tries 34 = .ok (.iinc 2 1, 3) := by decide +kernel
theorem dX5_tries_37 : decode cX5_tries 37 = .ok (.goto (-24), 3) := by decide +kernel
theorem dX5_tries_40 : decode cX5_tries 40 = .ok (.iinc 1 (-1), 3) := by decide +kernel
theorem dX5_tries_43 : decode cX5_tries 43 = .ok (.goto (-36), 3) := by decide +kernel
theorem dX5_tries_46 : decode cX5_tries 46 = .ok (.aload_n 0, 1) := by decide +kernel
theorem dX5_tries_47 : decode cX5_tries 47 = .ok (.iconst (-1), 1) := by decide +kernel
theorem dX5_tries_48 : decode cX5_tries 48 = .ok (.iconst (-1), 1) := by decide +kernel
theorem dX5_tries_49 : decode cX5_tries 49 = .ok (.invokevirtual 101, 3) := by decide +kernel
theorem dX5_tries_52 : decode cX5_tries 52 = .ok (.ireturn, 1) := by decide +kernel
set_option maxRecDepth 20000 in
theorem ggX5_hasPlan_X5_fieldOf : GoodIn wsX5_hasPlan wsX5_fieldOf := goodIn_r _ [8, 9, 10, 11, 12, 13, 14, 15, 16, 17, 18, 19, 20, 21, 22, 23, 24, 25, 26, 27, 28, 29, 30] (by decide +kernel) (by decide +kernel)
set_option maxRecDepth 20000 in
theorem gX5_hasPlan_X5_fieldOf : GoodIn wsX5_hasPlan (wsV RX5 90 RX5 yX5_fieldOf wsX5_fieldOf) := goodIn_app (goodIn_of _ (by decide +kernel)) ggX5_hasPlan_X5_fieldOf
theorem dX5_hasPlan_0 : decode cX5_hasPlan 0 = .ok (.iconst 1, 1) := by decide +kernel
theorem dX5_hasPlan_1 : decode cX5_hasPlan 1 = .ok (.istore_n 1, 1) := by decide +kernel
theorem dX5_hasPlan_2 : decode cX5_hasPlan 2 = .ok (.iconst 0, 1) := by decide +kernel
theorem dX5_hasPlan_3 : decode cX5_hasPlan 3 = .ok (.istore_n 2, 1) := by decide +kernel
theorem dX5_hasPlan_4 : decode cX5_hasPlan 4 = .ok (.iload_n 2, 1) := by decide +kernel
theorem dX5_hasPlan_5 : decode cX5_hasPlan 5 = .ok (.aload_n 0, 1) := by decide +kernel
theorem dX5_hasPlan_6 : decode cX5_hasPlan 6 = .ok (.getfield 81, 3) := by decide +kernel
theorem dX5_hasPlan_9 : decode cX5_hasPlan 9 = .ok (.if_icmp .ge 44, 3) := by decide +kernel
theorem dX5_hasPlan_12 : decode cX5_hasPlan 12 = .ok (.aload_n 0, 1) := by decide +kernel
theorem dX5_hasPlan_13 : decode cX5_hasPlan 13 = .ok (.getfield 35, 3) := by decide +kernel
theorem dX5_hasPlan_16 : decode cX5_hasPlan 16 = .ok (.iload_n 2, 1) := by decide +kernel
theorem dX5_hasPlan_17 : decode cX5_hasPlan 17 = .ok (.aload_n 0, 1) := by decide +kernel
theorem dX5_hasPlan_18 : decode cX5_hasPlan 18 = .ok (.getfield 20, 3) := by decide +kernel
theorem dX5_hasPlan_21 : decode cX5_hasPlan 21 = .ok (.aload_n 0, 1) := by decide +kernel
theorem dX5_hasPlan_22 : decode cX5_hasPlan 22 = .ok (.iload_n 2, 1) := by decide +kernel
theorem dX5_hasPlan_23 : decode cX5_hasPlan 23 = .ok (.invokevirtual 90, 3) := by decide +kernel
theorem dX5_hasPlan_26 : decode cX5_hasPlan 26 = .ok (.iaload, 1) := by decide +kernel
theorem dX5_hasPlan_27 : decode cX5_hasPlan 27 = .ok (.iastore, 1) := by decide +kernel
theorem dX5_hasPlan_28 : decode cX5_hasPlan 28 = .ok (.iload_n 1, 1) := by decide +kernel
theorem dX5_hasPlan_29 : decode cX5_hasPlan 29 = .ok (.ifCond .eq 16, 3) := by decide +kernel
theorem dX5_hasPlan_32 : decode cX5_hasPlan 32 = .ok (.aload_n 0, 1) := by decide +kernel
theorem dX5_hasPlan_33 : decode cX5_hasPlan 33 = .ok (.getfield 35, 3) := by decide +kernel
theorem dX5_hasPlan_36 : decode cX5_hasPlan 36 = .ok (.iload_n 2, 1) := by decide +kernel
theorem dX5_hasPlan_37 : decode cX5_hasPlan 37 = .ok (.iaload, 1) := by decide +kernel
theorem dX5_hasPlan_38 : decode cX5_hasPlan 38 = .ok (.ifCond .eq 7, 3) := by decide +kernel
theorem dX5_hasPlan_41 : decode cX5_hasPlan 41 = .ok (.iconst 1, 1) := by decide +kernel
theorem dX5_hasPlan_42 : decode cX5_hasPlan 42 = .ok (.goto 4, 3) := by decide +kernel
theorem dX5_hasPlan_45 : decode cX5_hasPlan 45 = .ok (.iconst 0, 1) := by decide +kernel
theorem dX5_hasPlan_46 : decode cX5_hasPlan 46 = .ok (.istore_n 1, 1) := by decide +kernel
theorem dX5_hasPlan_47 : decode cX5_hasPlan 47 = .ok (.iinc 2 1, 3) := by decide +kernel
theorem dX5_hasPlan_50 : decode cX5_hasPlan 50 = .ok (.goto (-46), 3) := by decide +kernel
theorem dX5_hasPlan_53 : decode cX5_hasPlan 53 = .ok (.iload_n 1, 1) := by decide +kernel
theorem dX5_hasPlan_54 : decode cX5_hasPlan 54 = .ok (.ireturn, 1) := by decide +kernel
set_option maxRecDepth 20000 in
theorem ggX5_laysPlan_X5_tries : GoodIn wsX5_laysPlan wsX5_tries := goodIn_r _ [8, 1, 9, 10, 11, 12, 7, 13, 14, 15, 16, 17, 18, 19, 20, 21, 2, 22, 23, 24, 25, 26, 27, 28, 29, 30, 31, 32, 33, 34, 35, 36, 37, 38, 39, 40, 41] (by decide +kernel) (by decide +kernel)
set_option maxRecDepth 20000 in
theorem gX5_laysPlan_X5_tries : GoodIn wsX5_laysPlan (wsV RX5 104 RX5 yX5_tries wsX5_tries) := goodIn_app (goodIn_of _ (by decide +kernel)) ggX5_laysPlan_X5_tries
theorem dX5_laysPlan_0 : decode cX5_laysPlan 0 = .ok (.aload_n 0, 1) := by decide +kernel
theorem dX5_laysPlan_1 : decode cX5_laysPlan 1 = .ok (.invokevirtual 104, 3) := by decide +kernel
theorem dX5_laysPlan_4 : decode cX5_laysPlan 4 = .ok (.istore_n 1, 1) := by decide +kernel
theorem dX5_laysPlan_5 : decode cX5_laysPlan 5 = .ok (.iconst 0, 1) := by decide +kernel
theorem dX5_laysPlan_6 : decode cX5_laysPlan 6 = .ok (.istore_n 2, 1) := by decide +kernel
theorem dX5_laysPlan_7 : decode cX5_laysPlan 7 = .ok (.iload_n 2, 1) := by decide +kernel
theorem dX5_laysPlan_8 : decode cX5_laysPlan 8 = .ok (.aload_n 0, 1) := by decide +kernel
theorem dX5_laysPlan_9 : decode cX5_laysPlan 9 = .ok (.getfield 81, 3) := by decide +kernel
theorem dX5_laysPlan_12 : decode cX5_laysPlan 12 = .ok (.if_icmp .ge 85, 3) := by decide +kernel
theorem dX5_laysPlan_15 : decode cX5_laysPlan 15 = .ok (.aload_n 0, 1) := by decide +kernel
theorem dX5_laysPlan_16 : decode cX5_laysPlan 16 = .ok (.getfield 35, 3) := by decide +kernel
theorem dX5_laysPlan_19 : decode cX5_laysPlan 19 = .ok (.iload_n 2, 1) := by decide +kernel
theorem dX5_laysPlan_20 : decode cX5_laysPlan 20 = .ok (.iaload, 1) := by decide +kernel
theorem dX5_laysPlan_21 : decode cX5_laysPlan 21 = .ok (.istore_n 3, 1) := by decide +kernel
theorem dX5_laysPlan_22 : decode cX5_laysPlan 22 = .ok (.iconst (-1), 1) := by decide +kernel
theorem dX5_laysPlan_23 : decode cX5_laysPlan 23 = .ok (.istore 4, 2) := by decide +kernel
theorem dX5_laysPlan_25 : decode cX5_laysPlan 25 = .ok (.iconst 0, 1) := by decide +kernel
theorem dX5_laysPlan_26 : decode cX5_laysPlan 26 = .ok (.istore 5, 2) := by decide +kernel
theorem dX5_laysPlan_28 : decode cX5_laysPlan 28 = .ok (.iload 5, 2) := by decide +kernel
theorem dX5_laysPlan_30 : decode cX5_laysPlan 30 = .ok (.iconst 4, 1) := by decide +kernel
theorem dX5_laysPlan_31 : decode cX5_laysPlan 31 = .ok (.if_icmp .ge 52, 3) := by decide +kernel
theorem dX5_laysPlan_34 : decode cX5_laysPlan 34 = .ok (.iload 4, 2) := by decide +kernel
theorem dX5_laysPlan_36 : decode cX5_laysPlan 36 = .ok (.iconst (-1), 1) := by decide +kernel
theorem dX5_laysPlan_37 : decode cX5_laysPlan 37 = .ok (.if_icmp .ne 46, 3) := by decide +kernel
theorem dX5_laysPlan_40 : decode cX5_laysPlan 40 = .ok (.aload_n 0, 1) := by decide +kernel
theorem dX5_laysPlan_41 : decode cX5_laysPlan 41 = .ok (.getfield 35, 3) := by decide +kernel
theorem dX5_laysPlan_44 : decode cX5_laysPlan 44 = .ok (.iload_n 2, 1) := by decide +kernel
theorem dX5_laysPlan_45 : decode cX5_laysPlan 45 = .ok (.iload_n 3, 1) := by decide +kernel
theorem dX5_laysPlan_46 : decode cX5_laysPlan 46 = .ok (.iconst 1, 1) := by decide +kernel
theorem dX5_laysPlan_47 : decode cX5_laysPlan 47 = .ok (.iload 5, 2) := by decide +kernel
theorem dX5_laysPlan_49 : decode cX5_laysPlan 49 = .ok (.ishl, 1) := by decide +kernel
theorem dX5_laysPlan_50 : decode cX5_laysPlan 50 = .ok (.iand, 1) := by decide +kernel
theorem dX5_laysPlan_51 : decode cX5_laysPlan 51 = .ok (.iastore, 1) := by decide +kernel
theorem dX5_laysPlan_52 : decode cX5_laysPlan 52 = .ok (.aload_n 0, 1) := by decide +kernel
theorem dX5_laysPlan_53 : decode cX5_laysPlan 53 = .ok (.getfield 35, 3) := by decide +kernel
theorem dX5_laysPlan_56 : decode cX5_laysPlan 56 = .ok (.iload_n 2, 1) := by decide +kernel
theorem dX5_laysPlan_57 : decode cX5_laysPlan 57 = .ok (.iaload, 1) := by decide +kernel
theorem dX5_laysPlan_58 : decode cX5_laysPlan 58 = .ok (.ifCond .eq 16, 3) := by decide +kernel
theorem dX5_laysPlan_61 : decode cX5_laysPlan 61 = .ok (.aload_n 0, 1) := by decide +kernel
theorem dX5_laysPlan_62 : decode cX5_laysPlan 62 = .ok (.invokevirtual 104, 3) := by decide +kernel
theorem dX5_laysPlan_65 : decode cX5_laysPlan 65 = .ok (.iload_n 1, 1) := by decide +kernel
theorem dX5_laysPlan_66 : decode cX5_laysPlan 66 = .ok (.if_icmp .ne 8, 3) := by decide +kernel
theorem dX5_laysPlan_69 : decode cX5_laysPlan 69 = .ok (.iload 5, 2) := by decide +kernel
theorem dX5_laysPlan_71 : decode cX5_laysPlan 71 = .ok (.goto 4, 3) := by decide +kernel
theorem dX5_laysPlan_74 : decode cX5_laysPlan 74 = .ok (.iconst (-1), 1) := by decide +kernel
theorem dX5_laysPlan_75 : decode cX5_laysPlan 75 = .ok (.istore 4, 2) := by decide +kernel
theorem dX5_laysPlan_77 : decode cX5_laysPlan 77 = .ok (.iinc 5 1, 3) := by decide +kernel
theorem dX5_laysPlan_80 : decode cX5_laysPlan 80 = .ok (.goto (-52), 3) := by decide +kernel
theorem dX5_laysPlan_83 : decode cX5_laysPlan 83 = .ok (.aload_n 0, 1) := by decide +kernel
theorem dX5_laysPlan_84 : decode cX5_laysPlan 84 = .ok (.getfield 41, 3) := by decide +kernel
theorem dX5_laysPlan_87 : decode cX5_laysPlan 87 = .ok (.iload_n 2, 1) := by decide +kernel
theorem dX5_laysPlan_88 : decode cX5_laysPlan 88 = .ok (.iload 4, 2) := by decide +kernel
theorem dX5_laysPlan_90 : decode cX5_laysPlan 90 = .ok (.iastore, 1) := by decide +kernel
theorem dX5_laysPlan_91 : decode cX5_laysPlan 91 = .ok (.iinc 2 1, 3) := by decide +kernel
theorem dX5_laysPlan_94 : decode cX5_laysPlan 94 = .ok (.goto (-87), 3) := by decide +kernel
theorem dX5_laysPlan_97 : decode cX5_laysPlan 97 = .ok (.iload_n 1, 1) := by decide +kernel
theorem dX5_laysPlan_98 : decode cX5_laysPlan 98 = .ok (.ireturn, 1) := by decide +kernel
set_option maxRecDepth 20000 in
theorem ggX5_hops_X5_hasPlan : GoodIn wsX5_hops wsX5_hasPlan := goodIn_r _ [6, 7, 8, 9, 10, 11, 12, 5, 13, 14, 15, 33, 34, 35, 36, 37, 38, 39, 40, 41, 42, 43, 44, 45, 46, 47, 48, 49, 50, 51, 52] (by decide +kernel) (by decide +kernel)
set_option maxRecDepth 20000 in
theorem gX5_hops_X5_hasPlan : GoodIn wsX5_hops (wsV RX5 108 RX5 yX5_hasPlan wsX5_hasPlan) := goodIn_app (goodIn_of _ (by decide +kernel)) ggX5_hops_X5_hasPlan
set_option maxRecDepth 20000 in
theorem ggX5_hops_X5_tries : GoodIn wsX5_hops wsX5_tries := goodIn_r _ [19, 7, 20, 21, 22, 23, 5, 24, 25, 26, 27, 28, 29, 30, 31, 32, 8, 33, 34, 35, 36, 37, 38, 39, 40, 41, 42, 43, 44, 45, 46, 47, 48, 49, 50, 51, 52] (by decide +kernel) (by decide +kernel)
set_option maxRecDepth 20000 in
theorem gX5_hops_X5_tries : GoodIn wsX5_hops (wsV RX5 104 RX5 yX5_tries wsX5_tries) := goodIn_app (goodIn_of _ (by decide +kernel)) ggX5_hops_X5_tries
theorem dX5_hops_0 : decode cX5_hops 0 = .ok (.aload_n 0, 1) := by decide +kernel
theorem dX5_hops_1 : decode cX5_hops 1 = .ok (.aload_n 0, 1) := by decide +kernel
theorem dX5_hops_2 : decode cX5_hops 2 = .ok (.invokevirtual 108, 3) := by decide +kernel
theorem dX5_hops_5 : decode cX5_hops 5 = .ok (.ifCond .eq 7, 3) := by decide +kernel
theorem dX5_hops_8 : decode cX5_hops 8 = .ok (.iconst 0, 1) := by decide +kernel
theorem dX5_hops_9 : decode cX5_hops 9 = .ok (.goto 4, 3) := by decide +kernel
theorem dX5_hops_12 : decode cX5_hops 12 = .ok (.iconst 1, 1) := by decide +kernel
theorem dX5_hops_13 : decode cX5_hops 13 = .ok (.putfield 56, 3) := by decide +kernel
theorem dX5_hops_16 : decode cX5_hops 16 = .ok (.aload_n 0, 1) := by decide +kernel
theorem dX5_hops_17 : decode cX5_hops 17 = .ok (.getfield 56, 3) := by decide +kernel
theorem dX5_hops_20 : decode cX5_hops 20 = .ok (.ifCond .le 7, 3) := by decide +kernel
theorem dX5_hops_23 : decode cX5_hops 23 = .ok (.iconst 0, 1) := by decide +kernel
theorem dX5_hops_24 : decode cX5_hops 24 = .ok (.goto 7, 3) := by decide +kernel
theorem dX5_hops_27 : decode cX5_hops 27 = .ok (.aload_n 0, 1) := by decide +kernel
theorem dX5_hops_28 : decode cX5_hops 28 = .ok (.invokevirtual 104, 3) := by decide +kernel
theorem dX5_hops_31 : decode cX5_hops 31 = .ok (.ireturn, 1) := by decide +kernel
set_option maxRecDepth 20000 in
theorem ggX5_takenFrom_X5_isNode : GoodIn wsX5_takenFrom wsX5_isNode := goodIn_r _ [7, 8, 9, 10, 6, 11, 45, 46, 47, 48, 49, 50, 51, 52, 53, 54, 55, 56, 57, 58, 59, 60, 61, 62, 63, 64] (by decide +kernel) (by decide +kernel)
set_option maxRecDepth 20000 in
theorem gX5_takenFrom_X5_isNode : GoodIn wsX5_takenFrom (wsV RX5 87 RX5 yX5_isNode wsX5_isNode) := goodIn_app (goodIn_of _ (by decide +kernel)) ggX5_takenFrom_X5_isNode
set_option maxRecDepth 20000 in
theorem ggX5_takenFrom_X5_hasPlan : GoodIn wsX5_takenFrom wsX5_hasPlan := goodIn_r _ [15, 8, 16, 17, 18, 19, 20, 6, 21, 22, 23, 45, 46, 47, 48, 49, 50, 51, 52, 53, 54, 55, 56, 57, 58, 59, 60, 61, 62, 63, 64] (by decide +kernel) (by decide +kernel)
set_option maxRecDepth 20000 in
theorem gX5_takenFrom_X5_hasPlan : GoodIn wsX5_takenFrom (wsV RX5 108 RX5 yX5_hasPlan wsX5_hasPlan) := goodIn_app (goodIn_of _ (by decide +kernel)) ggX5_takenFrom_X5_hasPlan
set_option maxRecDepth 20000 in
theorem ggX5_takenFrom_X5_laysPlan : GoodIn wsX5_takenFrom wsX5_laysPlan := goodIn_r _ [27, 8, 16, 2, 28, 29, 30, 6, 31, 32, 33, 34, 35, 36, 37, 38, 39, 40, 41, 42, 43, 44, 45, 46, 47, 48, 49, 50, 51, 52, 53, 54, 55, 56, 57, 58, 59, 60, 61, 62, 63, 64] (by decide +kernel) (by decide +kernel)
set_option maxRecDepth 20000 in
theorem gX5_takenFrom_X5_laysPlan : GoodIn wsX5_takenFrom (wsV RX5 112 RX5 yX5_laysPlan wsX5_laysPlan) := goodIn_app (goodIn_of _ (by decide +kernel)) ggX5_takenFrom_X5_laysPlan
theorem dX5_takenFrom_0 : decode cX5_takenFrom 0 = .ok (.aload_n 0, 1) := by decide +kernel
theorem dX5_takenFrom_1 : decode cX5_takenFrom 1 = .ok (.aload_n 0, 1) := by decide +kernel
theorem dX5_takenFrom_2 : decode cX5_takenFrom 2 = .ok (.iload_n 1, 1) := by decide +kernel
theorem dX5_takenFrom_3 : decode cX5_takenFrom 3 = .ok (.invokevirtual 87, 3) := by decide +kernel
theorem dX5_takenFrom_6 : decode cX5_takenFrom 6 = .ok (.ifCond .ne 7, 3) := by decide +kernel
theorem dX5_takenFrom_9 : decode cX5_takenFrom 9 = .ok (.iconst 1, 1) := by decide +kernel
theorem dX5_takenFrom_10 : decode cX5_takenFrom 10 = .ok (.goto 15, 3) := by decide +kernel
theorem dX5_takenFrom_13 : decode cX5_takenFrom 13 = .ok (.aload_n 0, 1) := by decide +kernel
theorem dX5_takenFrom_14 : decode cX5_takenFrom 14 = .ok (.invokevirtual 108, 3) := by decide +kernel
theorem dX5_takenFrom_17 : decode cX5_takenFrom 17 = .ok (.ifCond .eq 7, 3) := by decide +kernel
theorem dX5_takenFrom_20 : decode cX5_takenFrom 20 = .ok (.iconst 0, 1) := by decide +kernel
theorem dX5_takenFrom_21 : decode cX5_takenFrom 21 = .ok (.goto 4, 3) := by decide +kernel
theorem dX5_takenFrom_24 : decode cX5_takenFrom 24 = .ok (.iconst 2, 1) := by decide +kernel
theorem dX5_takenFrom_25 : decode cX5_takenFrom 25 = .ok (.putfield 56, 3) := by decide +kernel
theorem dX5_takenFrom_28 : decode cX5_takenFrom 28 = .ok (.aload_n 0, 1) := by decide +kernel
theorem dX5_takenFrom_29 : decode cX5_takenFrom 29 = .ok (.getfield 56, 3) := by decide +kernel
theorem dX5_takenFrom_32 : decode cX5_takenFrom 32 = .ok (.ifCond .le 5, 3) := by decide +kernel
theorem dX5_takenFrom_35 : decode cX5_takenFrom 35 = .ok (.iconst 0, 1) := by decide +kernel
theorem dX5_takenFrom_36 : decode cX5_takenFrom 36 = .ok (.ireturn, 1) := by decide +kernel
theorem dX5_takenFrom_37 : decode cX5_takenFrom 37 = .ok (.aload_n 0, 1) := by decide +kernel
theorem dX5_takenFrom_38 : decode cX5_takenFrom 38 = .ok (.invokevirtual 112, 3) := by decide +kernel
theorem dX5_takenFrom_41 : decode cX5_takenFrom 41 = .ok (.pop, 1) := by decide +kernel
theorem dX5_takenFrom_42 : decode cX5_takenFrom 42 = .ok (.aload_n 0, 1) := by decide +kernel
theorem dX5_takenFrom_43 : decode cX5_takenFrom 43 = .ok (.getfield 41, 3) := by decide +kernel
theorem dX5_takenFrom_46 : decode cX5_takenFrom 46 = .ok (.iload_n 1, 1) := by decide +kernel
theorem dX5_takenFrom_47 : decode cX5_takenFrom 47 = .ok (.iaload, 1) := by decide +kernel
theorem dX5_takenFrom_48 : decode cX5_takenFrom 48 = .ok (.ireturn, 1) := by decide +kernel
set_option maxRecDepth 20000 in
theorem ggX5_used_X5_hasPlan : GoodIn wsX5_used wsX5_hasPlan := goodIn_r _ [8, 2, 9, 10, 11, 12, 13, 7, 14, 15, 16, 38, 39, 40, 41, 42, 43, 44, 45, 46, 47, 48, 49, 50, 51, 52, 53, 54, 55, 56, 57] (by decide +kernel) (by decide +kernel)
set_option maxRecDepth 20000 in
theorem gX5_used_X5_hasPlan : GoodIn wsX5_used (wsV RX5 108 RX5 yX5_hasPlan wsX5_hasPlan) := goodIn_app (goodIn_of _ (by decide +kernel)) ggX5_used_X5_hasPlan
set_option maxRecDepth 20000 in
theorem ggX5_used_X5_laysPlan : GoodIn wsX5_used wsX5_laysPlan := goodIn_r _ [20, 2, 9, 3, 21, 22, 23, 7, 24, 25, 26, 27, 28, 29, 30, 31, 32, 33, 34, 35, 36, 37, 38, 39, 40, 41, 42, 43, 44, 45, 46, 47, 48, 49, 50, 51, 52, 53, 54, 55, 56, 57] (by decide +kernel) (by decide +kernel)
set_option maxRecDepth 20000 in
theorem gX5_used_X5_laysPlan : GoodIn wsX5_used (wsV RX5 112 RX5 yX5_laysPlan wsX5_laysPlan) := goodIn_app (goodIn_of _ (by decide +kernel)) ggX5_used_X5_laysPlan
theorem dX5_used_0 : decode cX5_used 0 = .ok (.aload_n 0, 1) := by decide +kernel
theorem dX5_used_1 : decode cX5_used 1 = .ok (.aload_n 0, 1) := by decide +kernel
theorem dX5_used_2 : decode cX5_used 2 = .ok (.invokevirtual 108, 3) := by decide +kernel
theorem dX5_used_5 : decode cX5_used 5 = .ok (.ifCond .eq 7, 3) := by decide +kernel
theorem dX5_used_8 : decode cX5_used 8 = .ok (.iconst 0, 1) := by decide +kernel
theorem dX5_used_9 : decode cX5_used 9 = .ok (.goto 4, 3) := by decide +kernel
theorem dX5_used_12 : decode cX5_used 12 = .ok (.iconst 1, 1) := by decide +kernel
theorem dX5_used_13 : decode cX5_used 13 = .ok (.putfield 56, 3) := by decide +kernel
theorem dX5_used_16 : decode cX5_used 16 = .ok (.aload_n 0, 1) := by decide +kernel
theorem dX5_used_17 : decode cX5_used 17 = .ok (.getfield 56, 3) := by decide +kernel
theorem dX5_used_20 : decode cX5_used 20 = .ok (.ifCond .le 5, 3) := by decide +kernel
theorem dX5_used_23 : decode cX5_used 23 = .ok (.iconst 0, 1) := by decide +kernel
theorem dX5_used_24 : decode cX5_used 24 = .ok (.ireturn, 1) := by decide +kernel
theorem dX5_used_25 : decode cX5_used 25 = .ok (.aload_n 0, 1) := by decide +kernel
theorem dX5_used_26 : decode cX5_used 26 = .ok (.invokevirtual 112, 3) := by decide +kernel
theorem dX5_used_29 : decode cX5_used 29 = .ok (.pop, 1) := by decide +kernel
theorem dX5_used_30 : decode cX5_used 30 = .ok (.iconst 0, 1) := by decide +kernel
theorem dX5_used_31 : decode cX5_used 31 = .ok (.istore_n 1, 1) := by decide +kernel
theorem dX5_used_32 : decode cX5_used 32 = .ok (.iconst 0, 1) := by decide +kernel
theorem dX5_used_33 : decode cX5_used 33 = .ok (.istore_n 2, 1) := by decide +kernel
theorem dX5_used_34 : decode cX5_used 34 = .ok (.iload_n 2, 1) := by decide +kernel
theorem dX5_used_35 : decode cX5_used 35 = .ok (.aload_n 0, 1) := by decide +kernel
theorem dX5_used_36 : decode cX5_used 36 = .ok (.getfield 81, 3) := by decide +kernel
theorem dX5_used_39 : decode cX5_used 39 = .ok (.if_icmp .ge 20, 3) := by decide +kernel
theorem dX5_used_42 : decode cX5_used 42 = .ok (.iload_n 1, 1) := by decide +kernel
theorem dX5_used_43 : decode cX5_used 43 = .ok (.iconst 1, 1) := by decide +kernel
theorem dX5_used_44 : decode cX5_used 44 = .ok (.aload_n 0, 1) := by decide +kernel
theorem dX5_used_45 : decode cX5_used 45 = .ok (.getfield 41, 3) := by decide +kernel
theorem dX5_used_48 : decode cX5_used 48 = .ok (.iload_n 2, 1) := by decide +kernel
theorem dX5_used_49 : decode cX5_used 49 = .ok (.iaload, 1) := by decide +kernel
theorem dX5_used_50 : decode cX5_used 50 = .ok (.ishl, 1) := by decide +kernel
theorem dX5_used_51 : decode cX5_used 51 = .ok (.ior, 1) := by decide +kernel
theorem dX5_used_52 : decode cX5_used 52 = .ok (.istore_n 1, 1) := by decide +kernel
theorem dX5_used_53 : decode cX5_used 53 = .ok (.iinc 2 1, 3) := by decide +kernel
theorem dX5_used_56 : decode cX5_used 56 = .ok (.goto (-22), 3) := by decide +kernel
theorem dX5_used_59 : decode cX5_used 59 = .ok (.iload_n 1, 1) := by decide +kernel
theorem dX5_used_60 : decode cX5_used 60 = .ok (.ireturn, 1) := by decide +kernel
theorem dX5_entityOf_0 : decode cX5_entityOf 0 = .ok (.aload_n 0, 1) := by decide +kernel
theorem dX5_entityOf_1 : decode cX5_entityOf 1 = .ok (.getfield 26, 3) := by decide +kernel
theorem dX5_entityOf_4 : decode cX5_entityOf 4 = .ok (.iload_n 1, 1) := by decide +kernel
theorem dX5_entityOf_5 : decode cX5_entityOf 5 = .ok (.iaload, 1) := by decide +kernel
theorem dX5_entityOf_6 : decode cX5_entityOf 6 = .ok (.iconst (-1), 1) := by decide +kernel
theorem dX5_entityOf_7 : decode cX5_entityOf 7 = .ok (.if_icmp .ne 7, 3) := by decide +kernel
theorem dX5_entityOf_10 : decode cX5_entityOf 10 = .ok (.iload_n 2, 1) := by decide +kernel
theorem dX5_entityOf_11 : decode cX5_entityOf 11 = .ok (.goto 14, 3) := by decide +kernel
theorem dX5_entityOf_14 : decode cX5_entityOf 14 = .ok (.aload_n 0, 1) := by decide +kernel
theorem dX5_entityOf_15 : decode cX5_entityOf 15 = .ok (.getfield 44, 3) := by decide +kernel
theorem dX5_entityOf_18 : decode cX5_entityOf 18 = .ok (.aload_n 0, 1) := by decide +kernel
theorem dX5_entityOf_19 : decode cX5_entityOf 19 = .ok (.getfield 26, 3) := by decide +kernel
theorem dX5_entityOf_22 : decode cX5_entityOf 22 = .ok (.iload_n 1, 1) := by decide +kernel
theorem dX5_entityOf_23 : decode cX5_entityOf 23 = .ok (.iaload, 1) := by decide +kernel
theorem dX5_entityOf_24 : decode cX5_entityOf 24 = .ok (.iaload, 1) := by decide +kernel
theorem dX5_entityOf_25 : decode cX5_entityOf 25 = .ok (.ireturn, 1) := by decide +kernel
set_option maxRecDepth 20000 in
theorem ggX5_answers_X5_entityOf : GoodIn wsX5_answers wsX5_entityOf := goodIn_r _ [16, 10, 3, 21, 22, 23, 24, 25, 26, 27, 28, 29, 30, 31, 32, 33, 34, 35, 36, 37, 38, 39, 40] (by decide +kernel) (by decide +kernel)
set_option maxRecDepth 20000 in
theorem gX5_answers_X5_entityOf : GoodIn wsX5_answers (wsV RX5 115 RX5 yX5_entityOf wsX5_entityOf) := goodIn_app (goodIn_of _ (by decide +kernel)) ggX5_answers_X5_entityOf
set_option maxRecDepth 20000 in
theorem ggX5_answers_X5_fieldOf : GoodIn wsX5_answers wsX5_fieldOf := goodIn_r _ [20, 5, 6, 21, 22, 23, 24, 25, 26, 27, 28, 29, 30, 31, 32, 33, 34, 35, 36, 37, 38, 39, 40] (by decide +kernel) (by decide +kernel)
set_option maxRecDepth 20000 in
theorem gX5_answers_X5_fieldOf : GoodIn wsX5_answers (wsV RX5 90 RX5 yX5_fieldOf wsX5_fieldOf) := goodIn_app (goodIn_of _ (by decide +kernel)) ggX5_answers_X5_fieldOf
theorem dX5_answers_0 : decode cX5_answers 0 = .ok (.iconst 0, 1) := by decide +kernel
theorem dX5_answers_1 : decode cX5_answers 1 = .ok (.istore_n 3, 1) := by decide +kernel
theorem dX5_answers_2 : decode cX5_answers 2 = .ok (.iload_n 3, 1) := by decide +kernel
theorem dX5_answers_3 : decode cX5_answers 3 = .ok (.aload_n 0, 1) := by decide +kernel
theorem dX5_answers_4 : decode cX5_answers 4 = .ok (.getfield 81, 3) := by decide +kernel
theorem dX5_answers_7 : decode cX5_answers 7 = .ok (.if_icmp .ge 109, 3) := by decide +kernel
theorem dX5_answers_10 : decode cX5_answers 10 = .ok (.aload_n 0, 1) := by decide +kernel
theorem dX5_answers_11 : decode cX5_answers 11 = .ok (.iload_n 3, 1) := by decide +kernel
theorem dX5_answers_12 : decode cX5_answers 12 = .ok (.iload_n 1, 1) := by decide +kernel
theorem dX5_answers_13 : decode cX5_answers 13 = .ok (.invokevirtual 115, 3) := by decide +kernel
theorem dX5_answers_16 : decode cX5_answers 16 = .ok (.istore 4, 2) := by decide +kernel
theorem dX5_answers_18 : decode cX5_answers 18 = .ok (.iload 4, 2) := by decide +kernel
theorem dX5_answers_20 : decode cX5_answers 20 = .ok (.iconst (-1), 1) := by decide +kernel
theorem dX5_answers_21 : decode cX5_answers 21 = .ok (.if_icmp .eq 20, 3) := by decide +kernel
theorem dX5_answers_24 : decode cX5_answers 24 = .ok (.iload_n 2, 1) := by decide +kernel
theorem dX5_answers_25 : decode cX5_answers 25 = .ok (.aload_n 0, 1) := by decide +kernel
theorem dX5_answers_26 : decode cX5_answers 26 = .ok (.getfield 41, 3) := by decide +kernel
theorem dX5_answers_29 : decode cX5_answers 29 = .ok (.iload_n 3, 1) := by decide +kernel
theorem dX5_answers_30 : decode cX5_answers 30 = .ok (.iaload, 1) := by decide +kernel
theorem dX5_answers_31 : decode cX5_answers 31 = .ok (.ishr, 1) := by decide +kernel
theorem dX5_answers_32 : decode cX5_answers 32 = .ok (.iconst 1, 1) := by decide +kernel
theorem dX5_answers_33 : decode cX5_answers 33 = .ok (.iand, 1) := by decide +kernel
theorem dX5_answers_34 : decode cX5_answers 34 = .ok (.ifCond .ne 7, 3) := by decide +kernel
theorem dX5_answers_37 : decode cX5_answers 37 = .ok (.iconst 1, 1) := by decide +kernel
theorem dX5_answers_38 : decode cX5_answers 38 = .ok (.goto 4, 3) := by decide +kernel
theorem dX5_answers_41 : decode cX5_answers 41 = .ok (.iconst 0, 1) := by decide +kernel
theorem dX5_answers_42 : decode cX5_answers 42 = .ok (.istore 5, 2) := by decide +kernel
theorem dX5_answers_44 : decode cX5_answers 44 = .ok (.aload_n 0, 1) := by decide +kernel
theorem dX5_answers_45 : decode cX5_answers 45 = .ok (.getfield 44, 3) := by decide +kernel
theorem dX5_answers_48 : decode cX5_answers 48 = .ok (.iload_n 3, 1) := by decide +kernel
theorem dX5_answers_49 : decode cX5_answers 49 = .ok (.iload 5, 2) := by decide +kernel
theorem dX5_answers_51 : decode cX5_answers 51 = .ok (.ifCond .eq 36, 3) := by decide +kernel
theorem dX5_answers_54 : decode cX5_answers 54 = .ok (.aload_n 0, 1) := by decide +kernel
theorem dX5_answers_55 : decode cX5_answers 55 = .ok (.getfield 23, 3) := by decide +kernel
theorem dX5_answers_58 : decode cX5_answers 58 = .ok (.sipush 160, 3) := by decide +kernel
theorem dX5_answers_61 : decode cX5_answers 61 = .ok (.aload_n 0, 1) := by decide +kernel
theorem dX5_answers_62 : decode cX5_answers 62 = .ok (.getfield 32, 3) := by decide +kernel
theorem dX5_answers_65 : decode cX5_answers 65 = .ok (.iload_n 3, 1) := by decide +kernel
theorem dX5_answers_66 : decode cX5_answers 66 = .ok (.iaload, 1) := by decide +kernel
theorem dX5_answers_67 : decode cX5_answers 67 = .ok (.imul, 1) := by decide +kernel
theorem dX5_answers_68 : decode cX5_answers 68 = .ok (.bipush 8, 2) := by decide +kernel
theorem dX5_answers_70 : decode cX5_answers 70 = .ok (.iload 4, 2) := by decide +kernel
theorem dX5_answers_72 : decode cX5_answers 72 = .ok (.imul, 1) := by decide +kernel
theorem dX5_answers_73 : decode cX5_answers 73 = .ok (.iadd, 1) := by decide +kernel
theorem dX5_answers_74 : decode cX5_answers 74 = .ok (.aload_n 0, 1) := by decide +kernel
theorem dX5_answers_75 : decode cX5_answers 75 = .ok (.getfield 29, 3) := by decide +kernel
theorem dX5_answers_78 : decode cX5_answers 78 = .ok (.iload_n 3, 1) := by decide +kernel
theorem dX5_answers_79 : decode cX5_answers 79 = .ok (.iaload, 1) := by decide +kernel
theorem dX5_answers_80 : decode cX5_answers 80 = .ok (.iadd, 1) := by decide +kernel
theorem dX5_answers_81 : decode cX5_answers 81 = .ok (.iaload, 1) := by decide +kernel
theorem dX5_answers_82 : decode cX5_answers 82 = .ok (.iconst 1, 1) := by decide +kernel
theorem dX5_answers_83 : decode cX5_answers 83 = .ok (.isub, 1) := by decide +kernel
theorem dX5_answers_84 : decode cX5_answers 84 = .ok (.goto 4, 3) := by decide +kernel
theorem dX5_answers_87 : decode cX5_answers 87 = .ok (.iconst (-1), 1) := by decide +kernel
theorem dX5_answers_88 : decode cX5_answers 88 = .ok (.iastore, 1) := by decide +kernel
theorem dX5_answers_89 : decode cX5_answers 89 = .ok (.aload_n 0, 1) := by decide +kernel
theorem dX5_answers_90 : decode cX5_answers 90 = .ok (.getfield 47, 3) := by decide +kernel
theorem dX5_answers_93 : decode cX5_answers 93 = .ok (.iload_n 3, 1) := by decide +kernel
theorem dX5_answers_94 : decode cX5_answers 94 = .ok (.aload_n 0, 1) := by decide +kernel
theorem dX5_answers_95 : decode cX5_answers 95 = .ok (.getfield 44, 3) := by decide +kernel
theorem dX5_answers_98 : decode cX5_answers 98 = .ok (.iload_n 3, 1) := by decide +kernel
theorem dX5_answers_99 : decode cX5_answers 99 = .ok (.iaload, 1) := by decide +kernel
theorem dX5_answers_100 : decode cX5_answers 100 = .ok (.iconst (-1), 1) := by decide +kernel
theorem dX5_answers_101 : decode cX5_answers 101 = .ok (.if_icmp .ne 7, 3) := by decide +kernel
theorem dX5_answers_104 : decode cX5_answers 104 = .ok (.iconst 1, 1) := by decide +kernel
theorem dX5_answers_105 : decode cX5_answers 105 = .ok (.goto 4, 3) := by decide +kernel
theorem dX5_answers_108 : decode cX5_answers 108 = .ok (.iconst 0, 1) := by decide +kernel
theorem dX5_answers_109 : decode cX5_answers 109 = .ok (.bastore, 1) := by decide +kernel
theorem dX5_answers_110 : decode cX5_answers 110 = .ok (.iinc 3 1, 3) := by decide +kernel
theorem dX5_answers_113 : decode cX5_answers 113 = .ok (.goto (-111), 3) := by decide +kernel
theorem dX5_answers_116 : decode cX5_answers 116 = .ok (.aload_n 0, 1) := by decide +kernel
theorem dX5_answers_117 : decode cX5_answers 117 = .ok (.iconst 0, 1) := by decide +kernel
theorem dX5_answers_118 : decode cX5_answers 118 = .ok (.putfield 118, 3) := by decide +kernel
theorem dX5_answers_121 : decode cX5_answers 121 = .ok (.aload_n 0, 1) := by decide +kernel
theorem dX5_answers_122 : decode cX5_answers 122 = .ok (.getfield 81, 3) := by decide +kernel
theorem dX5_answers_125 : decode cX5_answers 125 = .ok (.iconst 1, 1) := by decide +kernel
theorem dX5_answers_126 : decode cX5_answers 126 = .ok (.isub, 1) := by decide +kernel
theorem dX5_answers_127 : decode cX5_answers 127 = .ok (.istore_n 3, 1) := by decide +kernel
theorem dX5_answers_128 : decode cX5_answers 128 = .ok (.iload_n 3, 1) := by decide +kernel
theorem dX5_answers_129 : decode cX5_answers 129 = .ok (.ifCond .lt 61, 3) := by decide +kernel
theorem dX5_answers_132 : decode cX5_answers 132 = .ok (.aload_n 0, 1) := by decide +kernel
theorem dX5_answers_133 : decode cX5_answers 133 = .ok (.getfield 47, 3) := by decide +kernel
theorem dX5_answers_136 : decode cX5_answers 136 = .ok (.iload_n 3, 1) := by decide +kernel
theorem dX5_answers_137 : decode cX5_answers 137 = .ok (.baload, 1) := by decide +kernel
theorem dX5_answers_138 : decode cX5_answers 138 = .ok (.ifCond .eq 46, 3) := by decide +kernel
theorem dX5_answers_141 : decode cX5_answers 141 = .ok (.aload_n 0, 1) := by decide +kernel
theorem dX5_answers_142 : decode cX5_answers 142 = .ok (.getfield 16, 3) := by decide +kernel
theorem dX5_answers_145 : decode cX5_answers 145 = .ok (.aload_n 0, 1) := by decide +kernel
theorem dX5_answers_146 : decode cX5_answers 146 = .ok (.iload_n 3, 1) := by decide +kernel
theorem dX5_answers_147 : decode cX5_answers 147 = .ok (.invokevirtual 90, 3) := by decide +kernel
theorem dX5_answers_150 : decode cX5_answers 150 = .ok (.baload, 1) := by decide +kernel
theorem dX5_answers_151 : decode cX5_answers 151 = .ok (.ifCond .eq 33, 3) := by decide +kernel
theorem dX5_answers_154 : decode cX5_answers 154 = .ok (.aload_n 0, 1) := by decide +kernel
theorem dX5_answers_155 : decode cX5_answers 155 = .ok (.getfield 26, 3) := by decide +kernel
theorem dX5_answers_158 : decode cX5_answers 158 = .ok (.iload_n 3, 1) := by decide +kernel
theorem dX5_answers_159 : decode cX5_answers 159 = .ok (.iaload, 1) := by decide +kernel
theorem dX5_answers_160 : decode cX5_answers 160 = .ok (.iconst (-1), 1) := by decide +kernel
theorem dX5_answers_161 : decode cX5_answers 161 = .ok (.if_icmp .ne 11, 3) := by decide +kernel
theorem dX5_answers_164 : decode cX5_answers 164 = .ok (.aload_n 0, 1) := by decide +kernel
theorem dX5_answers_165 : decode cX5_answers 165 = .ok (.iconst 1, 1) := by decide +kernel
theorem dX5_answers_166 : decode cX5_answers 166 = .ok (.putfield 118, 3) := by decide +kernel
theorem dX5_answers_169 : decode cX5_answers 169 = .ok (.goto 15, 3) := by decide +kernel
theorem dX5_answers_172 : decode cX5_answers 172 = .ok (.aload_n 0, 1) := by decide +kernel
theorem dX5_answers_173 : decode cX5_answers 173 = .ok (.getfield 47, 3) := by decide +kernel
theorem dX5_answers_176 : decode cX5_answers 176 = .ok (.aload_n 0, 1) := by decide +kernel
theorem dX5_answers_177 : decode cX5_answers 177 = .ok (.getfield 26, 3) := by decide +kernel
theorem dX5_answers_180 : decode cX5_answers 180 = .ok (.iload_n 3, 1) := by decide +kernel
theorem dX5_answers_181 : decode cX5_answers 181 = .ok (.iaload, 1) := by decide +kernel
theorem dX5_answers_182 : decode cX5_answers 182 = .ok (.iconst 1, 1) := by decide +kernel
theorem dX5_answers_183 : decode cX5_answers 183 = .ok (.bastore, 1) := by decide +kernel
theorem dX5_answers_184 : decode cX5_answers 184 = .ok (.iinc 3 (-1), 3) := by decide +kernel
theorem dX5_answers_187 : decode cX5_answers 187 = .ok (.goto (-59), 3) := by decide +kernel
theorem dX5_answers_190 : decode cX5_answers 190 = .ok (.iconst 0, 1) := by decide +kernel
theorem dX5_answers_191 : decode cX5_answers 191 = .ok (.istore_n 3, 1) := by decide +kernel
theorem dX5_answers_192 : decode cX5_answers 192 = .ok (.iload_n 3, 1) := by decide +kernel
theorem dX5_answers_193 : decode cX5_answers 193 = .ok (.aload_n 0, 1) := by decide +kernel
theorem dX5_answers_194 : decode cX5_answers 194 = .ok (.getfield 81, 3) := by decide +kernel
theorem dX5_answers_197 : decode cX5_answers 197 = .ok (.if_icmp .ge 89, 3) := by decide +kernel
theorem dX5_answers_200 : decode cX5_answers 200 = .ok (.aload_n 0, 1) := by decide +kernel
theorem dX5_answers_201 : decode cX5_answers 201 = .ok (.getfield 26, 3) := by decide +kernel
theorem dX5_answers_204 : decode cX5_answers 204 = .ok (.iload_n 3, 1) := by decide +kernel
theorem dX5_answers_205 : decode cX5_answers 205 = .ok (.iaload, 1) := by decide +kernel
theorem dX5_answers_206 : decode cX5_answers 206 = .ok (.iconst (-1), 1) := by decide +kernel
theorem dX5_answers_207 : decode cX5_answers 207 = .ok (.if_icmp .ne 10, 3) := by decide +kernel
theorem dX5_answers_210 : decode cX5_answers 210 = .ok (.aload_n 0, 1) := by decide +kernel
theorem dX5_answers_211 : decode cX5_answers 211 = .ok (.getfield 118, 3) := by decide +kernel
theorem dX5_answers_214 : decode cX5_answers 214 = .ok (.goto 14, 3) := by decide +kernel
theorem dX5_answers_217 : decode cX5_answers 217 = .ok (.aload_n 0, 1) := by decide +kernel
theorem dX5_answers_218 : decode cX5_answers 218 = .ok (.getfield 47, 3) := by decide +kernel
theorem dX5_answers_221 : decode cX5_answers 221 = .ok (.aload_n 0, 1) := by decide +kernel
theorem dX5_answers_222 : decode cX5_answers 222 = .ok (.getfield 26, 3) := by decide +kernel
theorem dX5_answers_225 : decode cX5_answers 225 = .ok (.iload_n 3, 1) := by decide +kernel
theorem dX5_answers_226 : decode cX5_answers 226 = .ok (.iaload, 1) := by decide +kernel
theorem dX5_answers_227 : decode cX5_answers 227 = .ok (.baload, 1) := by decide +kernel
theorem dX5_answers_228 : decode cX5_answers 228 = .ok (.istore 4, 2) := by decide +kernel
theorem dX5_answers_230 : decode cX5_answers 230 = .ok (.aload_n 0, 1) := by decide +kernel
theorem dX5_answers_231 : decode cX5_answers 231 = .ok (.getfield 47, 3) := by decide +kernel
theorem dX5_answers_234 : decode cX5_answers 234 = .ok (.iload_n 3, 1) := by decide +kernel
theorem dX5_answers_235 : decode cX5_answers 235 = .ok (.aload_n 0, 1) := by decide +kernel
theorem dX5_answers_236 : decode cX5_answers 236 = .ok (.getfield 47, 3) := by decide +kernel
theorem dX5_answers_239 : decode cX5_answers 239 = .ok (.iload_n 3, 1) := by decide +kernel
theorem dX5_answers_240 : decode cX5_answers 240 = .ok (.baload, 1) := by decide +kernel
theorem dX5_answers_241 : decode cX5_answers 241 = .ok (.ifCond .ne 8, 3) := by decide +kernel
theorem dX5_answers_244 : decode cX5_answers 244 = .ok (.iload 4, 2) := by decide +kernel
theorem dX5_answers_246 : decode cX5_answers 246 = .ok (.ifCond .eq 7, 3) := by decide +kernel
theorem dX5_answers_249 : decode cX5_answers 249 = .ok (.iconst 1, 1) := by decide +kernel
theorem dX5_answers_250 : decode cX5_answers 250 = .ok (.goto 4, 3) := by decide +kernel
theorem dX5_answers_253 : decode cX5_answers 253 = .ok (.iconst 0, 1) := by decide +kernel
theorem dX5_answers_254 : decode cX5_answers 254 = .ok (.bastore, 1) := by decide +kernel
theorem dX5_answers_255 : decode cX5_answers 255 = .ok (.aload_n 0, 1) := by decide +kernel
theorem dX5_answers_256 : decode cX5_answers 256 = .ok (.getfield 50, 3) := by decide +kernel
theorem dX5_answers_259 : decode cX5_answers 259 = .ok (.iload_n 3, 1) := by decide +kernel
theorem dX5_answers_260 : decode cX5_answers 260 = .ok (.aload_n 0, 1) := by decide +kernel
theorem dX5_answers_261 : decode cX5_answers 261 = .ok (.getfield 47, 3) := by decide +kernel
theorem dX5_answers_264 : decode cX5_answers 264 = .ok (.iload_n 3, 1) := by decide +kernel
theorem dX5_answers_265 : decode cX5_answers 265 = .ok (.baload, 1) := by decide +kernel
theorem dX5_answers_266 : decode cX5_answers 266 = .ok (.ifCond .eq 7, 3) := by decide +kernel
theorem dX5_answers_269 : decode cX5_answers 269 = .ok (.iconst (-1), 1) := by decide +kernel
theorem dX5_answers_270 : decode cX5_answers 270 = .ok (.goto 9, 3) := by decide +kernel
theorem dX5_answers_273 : decode cX5_answers 273 = .ok (.aload_n 0, 1) := by decide +kernel
theorem dX5_answers_274 : decode cX5_answers 274 = .ok (.getfield 44, 3) := by decide +kernel
theorem dX5_answers_277 : decode cX5_answers 277 = .ok (.iload_n 3, 1) := by decide +kernel
theorem dX5_answers_278 : decode cX5_answers 278 = .ok (.iaload, 1) := by decide +kernel
theorem dX5_answers_279 : decode cX5_answers 279 = .ok (.iastore, 1) := by decide +kernel
theorem dX5_answers_280 : decode cX5_answers 280 = .ok (.iinc 3 1, 3) := by decide +kernel
theorem dX5_answers_283 : decode cX5_answers 283 = .ok (.goto (-91), 3) := by decide +kernel
theorem dX5_answers_286 : decode cX5_answers 286 = .ok (.return_, 1) := by decide +kernel
set_option maxRecDepth 20000 in
theorem ggX5_value_X5_isKey : GoodIn wsX5_value wsX5_isKey := goodIn_r _ [7, 8, 9, 6, 10] (by decide +kernel) (by decide +kernel)
set_option maxRecDepth 20000 in
theorem gX5_value_X5_isKey : GoodIn wsX5_value (va_wsS RX5 75 yX5_isKey wsX5_isKey) := goodIn_app (goodIn_of _ (by decide +kernel)) ggX5_value_X5_isKey
set_option maxRecDepth 20000 in
theorem ggX5_value_X5_isNode : GoodIn wsX5_value wsX5_isNode := goodIn_r _ [14, 15, 8, 9, 6, 10, 63, 64, 65, 66, 67, 68, 69, 70, 71, 72, 73, 74, 75, 76, 77, 78, 79, 80, 81, 82] (by decide +kernel) (by decide +kernel)
set_option maxRecDepth 20000 in
theorem gX5_value_X5_isNode : GoodIn wsX5_value (wsV RX5 87 RX5 yX5_isNode wsX5_isNode) := goodIn_app (goodIn_of _ (by decide +kernel)) ggX5_value_X5_isNode
set_option maxRecDepth 20000 in
theorem ggX5_value_X5_hasPlan : GoodIn wsX5_value wsX5_hasPlan := goodIn_r _ [19, 15, 20, 21, 22, 23, 24, 6, 25, 26, 27, 63, 64, 65, 66, 67, 68, 69, 70, 71, 72, 73, 74, 75, 76, 77, 78, 79, 80, 81, 82] (by decide +kernel) (by decide +kernel)
set_option maxRecDepth 20000 in
theorem gX5_value_X5_hasPlan : GoodIn wsX5_value (wsV RX5 108 RX5 yX5_hasPlan wsX5_hasPlan) := goodIn_app (goodIn_of _ (by decide +kernel)) ggX5_value_X5_hasPlan
set_option maxRecDepth 20000 in
theorem ggX5_value_X5_laysPlan : GoodIn wsX5_value wsX5_laysPlan := goodIn_r _ [31, 15, 20, 32, 33, 34, 35, 6, 36, 37, 38, 39, 40, 41, 42, 43, 44, 45, 46, 47, 48, 49, 63, 64, 65, 66, 67, 68, 69, 70, 71, 72, 73, 74, 75, 76, 77, 78, 79, 80, 81, 82] (by decide +kernel) (by decide +kernel)
set_option maxRecDepth 20000 in
theorem gX5_value_X5_laysPlan : GoodIn wsX5_value (wsV RX5 112 RX5 yX5_laysPlan wsX5_laysPlan) := goodIn_app (goodIn_of _ (by decide +kernel)) ggX5_value_X5_laysPlan
set_option maxRecDepth 20000 in
theorem ggX5_value_X5_answers : GoodIn wsX5_value wsX5_answers := goodIn_r _ [53, 15, 32, 54, 55, 26, 27, 56, 57, 58, 42, 3, 59, 60, 61, 6, 62, 22, 23, 24, 25, 63, 64, 65, 66, 67, 68, 69, 70, 71, 72, 73, 74, 75, 76, 77, 78, 79, 80, 81, 82] (by decide +kernel) (by decide +kernel)
set_option maxRecDepth 20000 in
theorem gX5_value_X5_answers : GoodIn wsX5_value (wsV RX5 122 RX5 yX5_answers wsX5_answers) := goodIn_app (goodIn_of _ (by decide +kernel)) ggX5_value_X5_answers
theorem dX5_value_0 : decode cX5_value 0 = .ok (.aload_n 0, 1) := by decide +kernel
theorem dX5_value_1 : decode cX5_value 1 = .ok (.iload_n 1, 1) := by decide +kernel
theorem dX5_value_2 : decode cX5_value 2 = .ok (.invokestatic 75, 3) := by decide +kernel
theorem dX5_value_5 : decode cX5_value 5 = .ok (.ifCond .ne 7, 3) := by decide +kernel
theorem dX5_value_8 : decode cX5_value 8 = .ok (.iconst 1, 1) := by decide +kernel
theorem dX5_value_9 : decode cX5_value 9 = .ok (.goto 27, 3) := by decide +kernel
theorem dX5_value_12 : decode cX5_value 12 = .ok (.aload_n 0, 1) := by decide +kernel
theorem dX5_value_13 : decode cX5_value 13 = .ok (.iload_n 2, 1) := by decide +kernel
theorem dX5_value_14 : decode cX5_value 14 = .ok (.invokevirtual 87, 3) := by decide +kernel
theorem dX5_value_17 : decode cX5_value 17 = .ok (.ifCond .ne 7, 3) := by decide +kernel
theorem dX5_value_20 : decode cX5_value 20 = .ok (.iconst 2, 1) := by decide +kernel
theorem dX5_value_21 : decode cX5_value 21 = .ok (.goto 15, 3) := by decide +kernel
theorem dX5_value_24 : decode cX5_value 24 = .ok (.aload_n 0, 1) := by decide +kernel
theorem dX5_value_25 : decode cX5_value 25 = .ok (.invokevirtual 108, 3) := by decide +kernel
theorem dX5_value_28 : decode cX5_value 28 = .ok (.ifCond .eq 7, 3) := by decide +kernel
theorem dX5_value_31 : decode cX5_value 31 = .ok (.iconst 0, 1) := by decide +kernel
theorem dX5_value_32 : decode cX5_value 32 = .ok (.goto 4, 3) := by decide +kernel
theorem dX5_value_35 : decode cX5_value 35 = .ok (.iconst 3, 1) := by decide +kernel
theorem dX5_value_36 : decode cX5_value 36 = .ok (.putfield 56, 3) := by decide +kernel
theorem dX5_value_39 : decode cX5_value 39 = .ok (.aload_n 0, 1) := by decide +kernel
theorem dX5_value_40 : decode cX5_value 40 = .ok (.getfield 56, 3) := by decide +kernel
theorem dX5_value_43 : decode cX5_value 43 = .ok (.ifCond .le 5, 3) := by decide +kernel
theorem dX5_value_46 : decode cX5_value 46 = .ok (.iconst 0, 1) := by decide +kernel
theorem dX5_value_47 : decode cX5_value 47 = .ok (.ireturn, 1) := by decide +kernel
theorem dX5_value_48 : decode cX5_value 48 = .ok (.aload_n 0, 1) := by decide +kernel
theorem dX5_value_49 : decode cX5_value 49 = .ok (.invokevirtual 112, 3) := by decide +kernel
theorem dX5_value_52 : decode cX5_value 52 = .ok (.pop, 1) := by decide +kernel
theorem dX5_value_53 : decode cX5_value 53 = .ok (.aload_n 0, 1) := by decide +kernel
theorem dX5_value_54 : decode cX5_value 54 = .ok (.iload_n 1, 1) := by decide +kernel
theorem dX5_value_55 : decode cX5_value 55 = .ok (.aload_n 0, 1) := by decide +kernel
theorem dX5_value_56 : decode cX5_value 56 = .ok (.getfield 78, 3) := by decide +kernel
theorem dX5_value_59 : decode cX5_value 59 = .ok (.invokevirtual 122, 3) := by decide +kernel
theorem dX5_value_62 : decode cX5_value 62 = .ok (.aload_n 0, 1) := by decide +kernel
theorem dX5_value_63 : decode cX5_value 63 = .ok (.getfield 50, 3) := by decide +kernel
theorem dX5_value_66 : decode cX5_value 66 = .ok (.iload_n 2, 1) := by decide +kernel
theorem dX5_value_67 : decode cX5_value 67 = .ok (.iaload, 1) := by decide +kernel
theorem dX5_value_68 : decode cX5_value 68 = .ok (.ireturn, 1) := by decide +kernel
set_option maxRecDepth 20000 in
theorem ggX5_isMissing_X5_isKey : GoodIn wsX5_isMissing wsX5_isKey := goodIn_r _ [7, 8, 9, 6, 10] (by decide +kernel) (by decide +kernel)
set_option maxRecDepth 20000 in
theorem gX5_isMissing_X5_isKey : GoodIn wsX5_isMissing (va_wsS RX5 75 yX5_isKey wsX5_isKey) := goodIn_app (goodIn_of _ (by decide +kernel)) ggX5_isMissing_X5_isKey
set_option maxRecDepth 20000 in
theorem ggX5_isMissing_X5_hasPlan : GoodIn wsX5_isMissing wsX5_hasPlan := goodIn_r _ [14, 15, 16, 17, 18, 19, 20, 6, 21, 22, 23, 59, 60, 61, 62, 63, 64, 65, 66, 67, 68, 69, 70, 71, 72, 73, 74, 75, 76, 77, 78] (by decide +kernel) (by decide +kernel)
set_option maxRecDepth 20000 in
theorem gX5_isMissing_X5_hasPlan : GoodIn wsX5_isMissing (wsV RX5 108 RX5 yX5_hasPlan wsX5_hasPlan) := goodIn_app (goodIn_of _ (by decide +kernel)) ggX5_isMissing_X5_hasPlan
set_option maxRecDepth 20000 in
theorem ggX5_isMissing_X5_laysPlan : GoodIn wsX5_isMissing wsX5_laysPlan := goodIn_r _ [27, 15, 16, 28, 29, 30, 31, 6, 32, 33, 34, 35, 36, 37, 38, 39, 40, 41, 42, 43, 44, 45, 59, 60, 61, 62, 63, 64, 65, 66, 67, 68, 69, 70, 71, 72, 73, 74, 75, 76, 77, 78] (by decide +kernel) (by decide +kernel)
set_option maxRecDepth 20000 in
theorem gX5_isMissing_X5_laysPlan : GoodIn wsX5_isMissing (wsV RX5 112 RX5 yX5_laysPlan wsX5_laysPlan) := goodIn_app (goodIn_of _ (by decide +kernel)) ggX5_isMissing_X5_laysPlan
set_option maxRecDepth 20000 in
theorem ggX5_isMissing_X5_answers : GoodIn wsX5_isMissing wsX5_answers := goodIn_r _ [49, 15, 28, 50, 51, 22, 23, 52, 3, 53, 38, 54, 55, 56, 57, 6, 58, 18, 19, 20, 21, 59, 60, 61, 62, 63, 64, 65, 66, 67, 68, 69, 70, 71, 72, 73, 74, 75, 76, 77, 78] (by decide +kernel) (by decide +kernel)
set_option maxRecDepth 20000 in
theorem gX5_isMissing_X5_answers : GoodIn wsX5_isMissing (wsV RX5 122 RX5 yX5_answers wsX5_answers) := goodIn_app (goodIn_of _ (by decide +kernel)) ggX5_isMissing_X5_answers
theorem dX5_isMissing_0 : decode cX5_isMissing 0 = .ok (.aload_n 0, 1) := by decide +kernel
theorem dX5_isMissing_1 : decode cX5_isMissing 1 = .ok (.iload_n 1, 1) := by decide +kernel
theorem dX5_isMissing_2 : decode cX5_isMissing 2 = .ok (.invokestatic 75, 3) := by decide +kernel
theorem dX5_isMissing_5 : decode cX5_isMissing 5 = .ok (.ifCond .ne 7, 3) := by decide +kernel
theorem dX5_isMissing_8 : decode cX5_isMissing 8 = .ok (.iconst 1, 1) := by decide +kernel
theorem dX5_isMissing_9 : decode cX5_isMissing 9 = .ok (.goto 15, 3) := by decide +kernel
theorem dX5_isMissing_12 : decode cX5_isMissing 12 = .ok (.aload_n 0, 1) := by decide +kernel
theorem dX5_isMissing_13 : decode cX5_isMissing 13 = .ok (.invokevirtual 108, 3) := by decide +kernel
theorem dX5_isMissing_16 : decode cX5_isMissing 16 = .ok (.ifCond .eq 7, 3) := by decide +kernel
theorem dX5_isMissing_19 : decode cX5_isMissing 19 = .ok (.iconst 0, 1) := by decide +kernel
theorem dX5_isMissing_20 : decode cX5_isMissing 20 = .ok (.goto 4, 3) := by decide +kernel
theorem dX5_isMissing_23 : decode cX5_isMissing 23 = .ok (.iconst 2, 1) := by decide +kernel
theorem dX5_isMissing_24 : decode cX5_isMissing 24 = .ok (.putfield 56, 3) := by decide +kernel
theorem dX5_isMissing_27 : decode cX5_isMissing 27 = .ok (.aload_n 0, 1) := by decide +kernel
theorem dX5_isMissing_28 : decode cX5_isMissing 28 = .ok (.getfield 56, 3) := by decide +kernel
theorem dX5_isMissing_31 : decode cX5_isMissing 31 = .ok (.ifCond .le 5, 3) := by decide +kernel
theorem dX5_isMissing_34 : decode cX5_isMissing 34 = .ok (.iconst 0, 1) := by decide +kernel
theorem dX5_isMissing_35 : decode cX5_isMissing 35 = .ok (.ireturn, 1) := by decide +kernel
theorem dX5_isMissing_36 : decode cX5_isMissing 36 = .ok (.aload_n 0, 1) := by decide +kernel
theorem dX5_isMissing_37 : decode cX5_isMissing 37 = .ok (.invokevirtual 112, 3) := by decide +kernel
theorem dX5_isMissing_40 : decode cX5_isMissing 40 = .ok (.pop, 1) := by decide +kernel
theorem dX5_isMissing_41 : decode cX5_isMissing 41 = .ok (.aload_n 0, 1) := by decide +kernel
theorem dX5_isMissing_42 : decode cX5_isMissing 42 = .ok (.iload_n 1, 1) := by decide +kernel
theorem dX5_isMissing_43 : decode cX5_isMissing 43 = .ok (.aload_n 0, 1) := by decide +kernel
theorem dX5_isMissing_44 : decode cX5_isMissing 44 = .ok (.getfield 78, 3) := by decide +kernel
theorem dX5_isMissing_47 : decode cX5_isMissing 47 = .ok (.invokevirtual 122, 3) := by decide +kernel
theorem dX5_isMissing_50 : decode cX5_isMissing 50 = .ok (.aload_n 0, 1) := by decide +kernel
theorem dX5_isMissing_51 : decode cX5_isMissing 51 = .ok (.getfield 118, 3) := by decide +kernel
theorem dX5_isMissing_54 : decode cX5_isMissing 54 = .ok (.ireturn, 1) := by decide +kernel
set_option maxRecDepth 20000 in
theorem ggX5_faults_X5_isKey : GoodIn wsX5_faults wsX5_isKey := goodIn_r _ [8, 9, 10, 7, 11] (by decide +kernel) (by decide +kernel)
set_option maxRecDepth 20000 in
theorem gX5_faults_X5_isKey : GoodIn wsX5_faults (va_wsS RX5 75 yX5_isKey wsX5_isKey) := goodIn_app (goodIn_of _ (by decide +kernel)) ggX5_faults_X5_isKey
set_option maxRecDepth 20000 in
theorem ggX5_faults_X5_hasPlan : GoodIn wsX5_faults wsX5_hasPlan := goodIn_r _ [15, 3, 16, 17, 18, 19, 20, 7, 21, 22, 23, 59, 60, 61, 62, 63, 64, 65, 66, 67, 68, 69, 70, 71, 72, 73, 74, 75, 76, 77, 78] (by decide +kernel) (by decide +kernel)
set_option maxRecDepth 20000 in
theorem gX5_faults_X5_hasPlan : GoodIn wsX5_faults (wsV RX5 108 RX5 yX5_hasPlan wsX5_hasPlan) := goodIn_app (goodIn_of _ (by decide +kernel)) ggX5_faults_X5_hasPlan
set_option maxRecDepth 20000 in
theorem ggX5_faults_X5_laysPlan : GoodIn wsX5_faults wsX5_laysPlan := goodIn_r _ [27, 3, 16, 28, 29, 30, 31, 7, 32, 33, 34, 35, 36, 37, 38, 39, 40, 41, 42, 43, 44, 45, 59, 60, 61, 62, 63, 64, 65, 66, 67, 68, 69, 70, 71, 72, 73, 74, 75, 76, 77, 78] (by decide +kernel) (by decide +kernel)
set_option maxRecDepth 20000 in
theorem gX5_faults_X5_laysPlan : GoodIn wsX5_faults (wsV RX5 112 RX5 yX5_laysPlan wsX5_laysPlan) := goodIn_app (goodIn_of _ (by decide +kernel)) ggX5_faults_X5_laysPlan
set_option maxRecDepth 20000 in
theorem ggX5_faults_X5_answers : GoodIn wsX5_faults wsX5_answers := goodIn_r _ [49, 3, 28, 4, 50, 22, 23, 51, 52, 53, 38, 54, 55, 56, 57, 7, 58, 18, 19, 20, 21, 59, 60, 61, 62, 63, 64, 65, 66, 67, 68, 69, 70, 71, 72, 73, 74, 75, 76, 77, 78] (by decide +kernel) (by decide +kernel)
set_option maxRecDepth 20000 in
theorem gX5_faults_X5_answers : GoodIn wsX5_faults (wsV RX5 122 RX5 yX5_answers wsX5_answers) := goodIn_app (goodIn_of _ (by decide +kernel)) ggX5_faults_X5_answers
set_option maxRecDepth 20000 in
theorem ggX5_faults_X5_entityOf : GoodIn wsX5_faults wsX5_entityOf := goodIn_r _ [58, 38, 4, 59, 60, 61, 62, 63, 64, 65, 66, 67, 68, 69, 70, 71, 72, 73, 74, 75, 76, 77, 78] (by decide +kernel) (by decide +kernel)
set_option maxRecDepth 20000 in
theorem gX5_faults_X5_entityOf : GoodIn wsX5_faults (wsV RX5 115 RX5 yX5_entityOf wsX5_entityOf) := goodIn_app (goodIn_of _ (by decide +kernel)) ggX5_faults_X5_entityOf
theorem dX5_faults_0 : decode cX5_faults 0 = .ok (.aload_n 0, 1) := by decide +kernel
theorem dX5_faults_1 : decode cX5_faults 1 = .ok (.iload_n 1, 1) := by decide +kernel
theorem dX5_faults_2 : decode cX5_faults 2 = .ok (.invokestatic 75, 3) := by decide +kernel
theorem dX5_faults_5 : decode cX5_faults 5 = .ok (.ifCond .ne 7, 3) := by decide +kernel
theorem dX5_faults_8 : decode cX5_faults 8 = .ok (.iconst 1, 1) := by decide +kernel
theorem dX5_faults_9 : decode cX5_faults 9 = .ok (.goto 15, 3) := by decide +kernel
theorem dX5_faults_12 : decode cX5_faults 12 = .ok (.aload_n 0, 1) := by decide +kernel
theorem dX5_faults_13 : decode cX5_faults 13 = .ok (.invokevirtual 108, 3) := by decide +kernel
theorem dX5_faults_16 : decode cX5_faults 16 = .ok (.ifCond .eq 7, 3) := by decide +kernel
theorem dX5_faults_19 : decode cX5_faults 19 = .ok (.iconst 0, 1) := by decide +kernel
theorem dX5_faults_20 : decode cX5_faults 20 = .ok (.goto 4, 3) := by decide +kernel
theorem dX5_faults_23 : decode cX5_faults 23 = .ok (.iconst 2, 1) := by decide +kernel
theorem dX5_faults_24 : decode cX5_faults 24 = .ok (.putfield 56, 3) := by decide +kernel
theorem dX5_faults_27 : decode cX5_faults 27 = .ok (.aload_n 0, 1) := by decide +kernel
theorem dX5_faults_28 : decode cX5_faults 28 = .ok (.getfield 56, 3) := by decide +kernel
theorem dX5_faults_31 : decode cX5_faults 31 = .ok (.ifCond .le 5, 3) := by decide +kernel
theorem dX5_faults_34 : decode cX5_faults 34 = .ok (.iconst 0, 1) := by decide +kernel
theorem dX5_faults_35 : decode cX5_faults 35 = .ok (.ireturn, 1) := by decide +kernel
theorem dX5_faults_36 : decode cX5_faults 36 = .ok (.aload_n 0, 1) := by decide +kernel
theorem dX5_faults_37 : decode cX5_faults 37 = .ok (.invokevirtual 112, 3) := by decide +kernel
theorem dX5_faults_40 : decode cX5_faults 40 = .ok (.pop, 1) := by decide +kernel
theorem dX5_faults_41 : decode cX5_faults 41 = .ok (.aload_n 0, 1) := by decide +kernel
theorem dX5_faults_42 : decode cX5_faults 42 = .ok (.iload_n 1, 1) := by decide +kernel
theorem dX5_faults_43 : decode cX5_faults 43 = .ok (.aload_n 0, 1) := by decide +kernel
theorem dX5_faults_44 : decode cX5_faults 44 = .ok (.getfield 78, 3) := by decide +kernel
theorem dX5_faults_47 : decode cX5_faults 47 = .ok (.invokevirtual 122, 3) := by decide +kernel
theorem dX5_faults_50 : decode cX5_faults 50 = .ok (.iconst 0, 1) := by decide +kernel
theorem dX5_faults_51 : decode cX5_faults 51 = .ok (.istore_n 2, 1) := by decide +kernel
theorem dX5_faults_52 : decode cX5_faults 52 = .ok (.iconst 0, 1) := by decide +kernel
theorem dX5_faults_53 : decode cX5_faults 53 = .ok (.istore_n 3, 1) := by decide +kernel
theorem dX5_faults_54 : decode cX5_faults 54 = .ok (.iload_n 3, 1) := by decide +kernel
theorem dX5_faults_55 : decode cX5_faults 55 = .ok (.aload_n 0, 1) := by decide +kernel
theorem dX5_faults_56 : decode cX5_faults 56 = .ok (.getfield 81, 3) := by decide +kernel
theorem dX5_faults_59 : decode cX5_faults 59 = .ok (.if_icmp .ge 37, 3) := by decide +kernel
theorem dX5_faults_62 : decode cX5_faults 62 = .ok (.iload_n 2, 1) := by decide +kernel
theorem dX5_faults_63 : decode cX5_faults 63 = .ok (.aload_n 0, 1) := by decide +kernel
theorem dX5_faults_64 : decode cX5_faults 64 = .ok (.iload_n 3, 1) := by decide +kernel
theorem dX5_faults_65 : decode cX5_faults 65 = .ok (.iload_n 1, 1) := by decide +kernel
theorem dX5_faults_66 : decode cX5_faults 66 = .ok (.invokevirtual 115, 3) := by decide +kernel
theorem dX5_faults_69 : decode cX5_faults 69 = .ok (.iconst (-1), 1) := by decide +kernel
theorem dX5_faults_70 : decode cX5_faults 70 = .ok (.if_icmp .eq 17, 3) := by decide +kernel
theorem dX5_faults_73 : decode cX5_faults 73 = .ok (.aload_n 0, 1) := by decide +kernel
theorem dX5_faults_74 : decode cX5_faults 74 = .ok (.getfield 44, 3) := by decide +kernel
theorem dX5_faults_77 : decode cX5_faults 77 = .ok (.iload_n 3, 1) := by decide +kernel
theorem dX5_faults_78 : decode cX5_faults 78 = .ok (.iaload, 1) := by decide +kernel
theorem dX5_faults_79 : decode cX5_faults 79 = .ok (.iconst (-1), 1) := by decide +kernel
theorem dX5_faults_80 : decode cX5_faults 80 = .ok (.if_icmp .ne 7, 3) := by decide +kernel
theorem dX5_faults_83 : decode cX5_faults 83 = .ok (.iconst 1, 1) := by decide +kernel
theorem dX5_faults_84 : decode cX5_faults 84 = .ok (.goto 4, 3) := by decide +kernel
theorem dX5_faults_87 : decode cX5_faults 87 = .ok (.iconst 0, 1) := by decide +kernel
theorem dX5_faults_88 : decode cX5_faults 88 = .ok (.iadd, 1) := by decide +kernel
theorem dX5_faults_89 : decode cX5_faults 89 = .ok (.istore_n 2, 1) := by decide +kernel
theorem dX5_faults_90 : decode cX5_faults 90 = .ok (.iinc 3 1, 3) := by decide +kernel
theorem dX5_faults_93 : decode cX5_faults 93 = .ok (.goto (-39), 3) := by decide +kernel
theorem dX5_faults_96 : decode cX5_faults 96 = .ok (.iload_n 2, 1) := by decide +kernel
theorem dX5_faults_97 : decode cX5_faults 97 = .ok (.ireturn, 1) := by decide +kernel
set_option maxRecDepth 20000 in
theorem ggX5_loaded_X5_isKey : GoodIn wsX5_loaded wsX5_isKey := goodIn_r _ [8, 9, 10, 7, 11] (by decide +kernel) (by decide +kernel)
set_option maxRecDepth 20000 in
theorem gX5_loaded_X5_isKey : GoodIn wsX5_loaded (va_wsS RX5 75 yX5_isKey wsX5_isKey) := goodIn_app (goodIn_of _ (by decide +kernel)) ggX5_loaded_X5_isKey
set_option maxRecDepth 20000 in
theorem ggX5_loaded_X5_in : GoodIn wsX5_loaded wsX5_in := goodIn_r _ [11] (by decide +kernel) (by decide +kernel)
set_option maxRecDepth 20000 in
theorem gX5_loaded_X5_in : GoodIn wsX5_loaded (va_wsS RX5 60 yX5_in wsX5_in) := goodIn_app (goodIn_of _ (by decide +kernel)) ggX5_loaded_X5_in
set_option maxRecDepth 20000 in
theorem ggX5_loaded_X5_isNode : GoodIn wsX5_loaded wsX5_isNode := goodIn_r _ [15, 16, 9, 10, 7, 11, 64, 65, 66, 67, 68, 69, 70, 71, 72, 73, 74, 75, 76, 77, 78, 79, 80, 81, 82, 83] (by decide +kernel) (by decide +kernel)
set_option maxRecDepth 20000 in
theorem gX5_loaded_X5_isNode : GoodIn wsX5_loaded (wsV RX5 87 RX5 yX5_isNode wsX5_isNode) := goodIn_app (goodIn_of _ (by decide +kernel)) ggX5_loaded_X5_isNode
set_option maxRecDepth 20000 in
theorem ggX5_loaded_X5_fieldOf : GoodIn wsX5_loaded wsX5_fieldOf := goodIn_r _ [20, 21, 22, 64, 65, 66, 67, 68, 69, 70, 71, 72, 73, 74, 75, 76, 77, 78, 79, 80, 81, 82, 83] (by decide +kernel) (by decide +kernel)
set_option maxRecDepth 20000 in
theorem gX5_loaded_X5_fieldOf : GoodIn wsX5_loaded (wsV RX5 90 RX5 yX5_fieldOf wsX5_fieldOf) := goodIn_app (goodIn_of _ (by decide +kernel)) ggX5_loaded_X5_fieldOf
set_option maxRecDepth 20000 in
theorem ggX5_loaded_X5_hasPlan : GoodIn wsX5_loaded wsX5_hasPlan := goodIn_r _ [26, 16, 27, 28, 17, 18, 19, 7, 20, 21, 22, 64, 65, 66, 67, 68, 69, 70, 71, 72, 73, 74, 75, 76, 77, 78, 79, 80, 81, 82, 83] (by decide +kernel) (by decide +kernel)
set_option maxRecDepth 20000 in
theorem gX5_loaded_X5_hasPlan : GoodIn wsX5_loaded (wsV RX5 108 RX5 yX5_hasPlan wsX5_hasPlan) := goodIn_app (goodIn_of _ (by decide +kernel)) ggX5_loaded_X5_hasPlan
set_option maxRecDepth 20000 in
theorem ggX5_loaded_X5_laysPlan : GoodIn wsX5_loaded wsX5_laysPlan := goodIn_r _ [32, 16, 27, 33, 34, 35, 36, 7, 37, 38, 39, 40, 41, 42, 43, 44, 45, 46, 47, 48, 49, 50, 64, 65, 66, 67, 68, 69, 70, 71, 72, 73, 74, 75, 76, 77, 78, 79, 80, 81, 82, 83] (by decide +kernel) (by decide +kernel)
set_option maxRecDepth 20000 in
theorem gX5_loaded_X5_laysPlan : GoodIn wsX5_loaded (wsV RX5 112 RX5 yX5_laysPlan wsX5_laysPlan) := goodIn_app (goodIn_of _ (by decide +kernel)) ggX5_loaded_X5_laysPlan
set_option maxRecDepth 20000 in
theorem ggX5_loaded_X5_answers : GoodIn wsX5_loaded wsX5_answers := goodIn_r _ [54, 16, 33, 55, 56, 21, 22, 57, 58, 59, 43, 4, 60, 61, 62, 7, 63, 17, 18, 19, 20, 64, 65, 66, 67, 68, 69, 70, 71, 72, 73, 74, 75, 76, 77, 78, 79, 80, 81, 82, 83] (by decide +kernel) (by decide +kernel)
set_option maxRecDepth 20000 in
theorem gX5_loaded_X5_answers : GoodIn wsX5_loaded (wsV RX5 122 RX5 yX5_answers wsX5_answers) := goodIn_app (goodIn_of _ (by decide +kernel)) ggX5_loaded_X5_answers
theorem dX5_loaded_0 : decode cX5_loaded 0 = .ok (.aload_n 0, 1) := by decide +kernel
theorem dX5_loaded_1 : decode cX5_loaded 1 = .ok (.iload_n 2, 1) := by decide +kernel
theorem dX5_loaded_2 : decode cX5_loaded 2 = .ok (.invokestatic 75, 3) := by decide +kernel
theorem dX5_loaded_5 : decode cX5_loaded 5 = .ok (.ifCond .eq 13, 3) := by decide +kernel
theorem dX5_loaded_8 : decode cX5_loaded 8 = .ok (.iload_n 3, 1) := by decide +kernel
theorem dX5_loaded_9 : decode cX5_loaded 9 = .ok (.iload_n 2, 1) := by decide +kernel
theorem dX5_loaded_10 : decode cX5_loaded 10 = .ok (.bipush 19, 2) := by decide +kernel
theorem dX5_loaded_12 : decode cX5_loaded 12 = .ok (.invokestatic 60, 3) := by decide +kernel
theorem dX5_loaded_15 : decode cX5_loaded 15 = .ok (.ifCond .ne 7, 3) := by decide +kernel
theorem dX5_loaded_18 : decode cX5_loaded 18 = .ok (.iconst 1, 1) := by decide +kernel
theorem dX5_loaded_19 : decode cX5_loaded 19 = .ok (.goto 16, 3) := by decide +kernel
theorem dX5_loaded_22 : decode cX5_loaded 22 = .ok (.aload_n 0, 1) := by decide +kernel
theorem dX5_loaded_23 : decode cX5_loaded 23 = .ok (.iload_n 1, 1) := by decide +kernel
theorem dX5_loaded_24 : decode cX5_loaded 24 = .ok (.invokevirtual 87, 3) := by decide +kernel
theorem dX5_loaded_27 : decode cX5_loaded 27 = .ok (.ifCond .ne 7, 3) := by decide +kernel
theorem dX5_loaded_30 : decode cX5_loaded 30 = .ok (.iconst 2, 1) := by decide +kernel
theorem dX5_loaded_31 : decode cX5_loaded 31 = .ok (.goto 4, 3) := by decide +kernel
theorem dX5_loaded_34 : decode cX5_loaded 34 = .ok (.iconst 0, 1) := by decide +kernel
theorem dX5_loaded_35 : decode cX5_loaded 35 = .ok (.putfield 56, 3) := by decide +kernel
theorem dX5_loaded_38 : decode cX5_loaded 38 = .ok (.aload_n 0, 1) := by decide +kernel
theorem dX5_loaded_39 : decode cX5_loaded 39 = .ok (.getfield 56, 3) := by decide +kernel
theorem dX5_loaded_42 : decode cX5_loaded 42 = .ok (.ifCond .ne 33, 3) := by decide +kernel
theorem dX5_loaded_45 : decode cX5_loaded 45 = .ok (.aload_n 0, 1) := by decide +kernel
theorem dX5_loaded_46 : decode cX5_loaded 46 = .ok (.aload_n 0, 1) := by decide +kernel
theorem dX5_loaded_47 : decode cX5_loaded 47 = .ok (.getfield 13, 3) := by decide +kernel
theorem dX5_loaded_50 : decode cX5_loaded 50 = .ok (.aload_n 0, 1) := by decide +kernel
theorem dX5_loaded_51 : decode cX5_loaded 51 = .ok (.iload_n 1, 1) := by decide +kernel
theorem dX5_loaded_52 : decode cX5_loaded 52 = .ok (.invokevirtual 90, 3) := by decide +kernel
theorem dX5_loaded_55 : decode cX5_loaded 55 = .ok (.iaload, 1) := by decide +kernel
theorem dX5_loaded_56 : decode cX5_loaded 56 = .ok (.iconst (-1), 1) := by decide +kernel
theorem dX5_loaded_57 : decode cX5_loaded 57 = .ok (.if_icmp .eq 10, 3) := by decide +kernel
theorem dX5_loaded_60 : decode cX5_loaded 60 = .ok (.aload_n 0, 1) := by decide +kernel
theorem dX5_loaded_61 : decode cX5_loaded 61 = .ok (.invokevirtual 108, 3) := by decide +kernel
theorem dX5_loaded_64 : decode cX5_loaded 64 = .ok (.ifCond .ne 7, 3) := by decide +kernel
theorem dX5_loaded_67 : decode cX5_loaded 67 = .ok (.iconst 3, 1) := by decide +kernel
theorem dX5_loaded_68 : decode cX5_loaded 68 = .ok (.goto 4, 3) := by decide +kernel
theorem dX5_loaded_71 : decode cX5_loaded 71 = .ok (.iconst 0, 1) := by decide +kernel
theorem dX5_loaded_72 : decode cX5_loaded 72 = .ok (.putfield 56, 3) := by decide +kernel
theorem dX5_loaded_75 : decode cX5_loaded 75 = .ok (.aload_n 0, 1) := by decide +kernel
theorem dX5_loaded_76 : decode cX5_loaded 76 = .ok (.getfield 56, 3) := by decide +kernel
theorem dX5_loaded_79 : decode cX5_loaded 79 = .ok (.ifCond .le 5, 3) := by decide +kernel
theorem dX5_loaded_82 : decode cX5_loaded 82 = .ok (.iconst 0, 1) := by decide +kernel
theorem dX5_loaded_83 : decode cX5_loaded 83 = .ok (.ireturn, 1) := by decide +kernel
theorem dX5_loaded_84 : decode cX5_loaded 84 = .ok (.aload_n 0, 1) := by decide +kernel
theorem dX5_loaded_85 : decode cX5_loaded 85 = .ok (.invokevirtual 112, 3) := by decide +kernel
theorem dX5_loaded_88 : decode cX5_loaded 88 = .ok (.pop, 1) := by decide +kernel
theorem dX5_loaded_89 : decode cX5_loaded 89 = .ok (.iconst 0, 1) := by decide +kernel
theorem dX5_loaded_90 : decode cX5_loaded 90 = .ok (.istore 4, 2) := by decide +kernel
theorem dX5_loaded_92 : decode cX5_loaded 92 = .ok (.iload_n 2, 1) := by decide +kernel
theorem dX5_loaded_93 : decode cX5_loaded 93 = .ok (.istore 5, 2) := by decide +kernel
theorem dX5_loaded_95 : decode cX5_loaded 95 = .ok (.iload 5, 2) := by decide +kernel
theorem dX5_loaded_97 : decode cX5_loaded 97 = .ok (.iload_n 3, 1) := by decide +kernel
theorem dX5_loaded_98 : decode cX5_loaded 98 = .ok (.if_icmp .gt 46, 3) := by decide +kernel
theorem dX5_loaded_101 : decode cX5_loaded 101 = .ok (.aload_n 0, 1) := by decide +kernel
theorem dX5_loaded_102 : decode cX5_loaded 102 = .ok (.iload 5, 2) := by decide +kernel
theorem dX5_loaded_104 : decode cX5_loaded 104 = .ok (.aload_n 0, 1) := by decide +kernel
theorem dX5_loaded_105 : decode cX5_loaded 105 = .ok (.getfield 78, 3) := by decide +kernel
theorem dX5_loaded_108 : decode cX5_loaded 108 = .ok (.invokevirtual 122, 3) := by decide +kernel
theorem dX5_loaded_111 : decode cX5_loaded 111 = .ok (.iload 4, 2) := by decide +kernel
theorem dX5_loaded_113 : decode cX5_loaded 113 = .ok (.aload_n 0, 1) := by decide +kernel
theorem dX5_loaded_114 : decode cX5_loaded 114 = .ok (.getfield 50, 3) := by decide +kernel
theorem dX5_loaded_117 : decode cX5_loaded 117 = .ok (.iload_n 1, 1) := by decide +kernel
theorem dX5_loaded_118 : decode cX5_loaded 118 = .ok (.iaload, 1) := by decide +kernel
theorem dX5_loaded_119 : decode cX5_loaded 119 = .ok (.iconst (-1), 1) := by decide +kernel
theorem dX5_loaded_120 : decode cX5_loaded 120 = .ok (.if_icmp .ne 7, 3) := by decide +kernel
theorem dX5_loaded_123 : decode cX5_loaded 123 = .ok (.iconst 0, 1) := by decide +kernel
theorem dX5_loaded_124 : decode cX5_loaded 124 = .ok (.goto 11, 3) := by decide +kernel
theorem dX5_loaded_127 : decode cX5_loaded 127 = .ok (.iconst 1, 1) := by decide +kernel
theorem dX5_loaded_128 : decode cX5_loaded 128 = .ok (.aload_n 0, 1) := by decide +kernel
theorem dX5_loaded_129 : decode cX5_loaded 129 = .ok (.getfield 50, 3) := by decide +kernel
theorem dX5_loaded_132 : decode cX5_loaded 132 = .ok (.iload_n 1, 1) := by decide +kernel
theorem dX5_loaded_133 : decode cX5_loaded 133 = .ok (.iaload, 1) := by decide +kernel
theorem dX5_loaded_134 : decode cX5_loaded 134 = .ok (.ishl, 1) := by decide +kernel
theorem dX5_loaded_135 : decode cX5_loaded 135 = .ok (.ior, 1) := by decide +kernel
theorem dX5_loaded_136 : decode cX5_loaded 136 = .ok (.istore 4, 2) := by decide +kernel
theorem dX5_loaded_138 : decode cX5_loaded 138 = .ok (.iinc 5 1, 3) := by decide +kernel
theorem dX5_loaded_141 : decode cX5_loaded 141 = .ok (.goto (-46), 3) := by decide +kernel
theorem dX5_loaded_144 : decode cX5_loaded 144 = .ok (.iconst 0, 1) := by decide +kernel
theorem dX5_loaded_145 : decode cX5_loaded 145 = .ok (.istore 5, 2) := by decide +kernel
theorem dX5_loaded_147 : decode cX5_loaded 147 = .ok (.iconst 0, 1) := by decide +kernel
theorem dX5_loaded_148 : decode cX5_loaded 148 = .ok (.istore 6, 2) := by decide +kernel
theorem dX5_loaded_150 : decode cX5_loaded 150 = .ok (.iload 6, 2) := by decide +kernel
theorem dX5_loaded_152 : decode cX5_loaded 152 = .ok (.bipush 20, 2) := by decide +kernel
theorem dX5_loaded_154 : decode cX5_loaded 154 = .ok (.if_icmp .ge 21, 3) := by decide +kernel
theorem dX5_loaded_157 : decode cX5_loaded 157 = .ok (.iload 5, 2) := by decide +kernel
theorem dX5_loaded_159 : decode cX5_loaded 159 = .ok (.iload 4, 2) := by decide +kernel
theorem dX5_loaded_161 : decode cX5_loaded 161 = .ok (.iload 6, 2) := by decide +kernel
theorem dX5_loaded_163 : decode cX5_loaded 163 = .ok (.ishr, 1) := by decide +kernel
theorem dX5_loaded_164 : decode cX5_loaded 164 = .ok (.iconst 1, 1) := by decide +kernel
theorem dX5_loaded_165 : decode cX5_loaded 165 = .ok (.iand, 1) := by decide +kernel
theorem dX5_loaded_166 : decode cX5_loaded 166 = .ok (.iadd, 1) := by decide +kernel
theorem dX5_loaded_167 : decode cX5_loaded 167 = .ok (.istore 5, 2) := by decide +kernel
theorem dX5_loaded_169 : decode cX5_loaded 169 = .ok (.iinc 6 1, 3) := by decide +kernel
theorem dX5_loaded_172 : decode cX5_loaded 172 = .ok (.goto (-22), 3) := by decide +kernel
theorem dX5_loaded_175 : decode cX5_loaded 175 = .ok (.iload 5, 2) := by decide +kernel
theorem dX5_loaded_177 : decode cX5_loaded 177 = .ok (.ireturn, 1) := by decide +kernel
set_option maxRecDepth 20000 in
theorem ggX5_harmed_X5_hasPlan : GoodIn wsX5_harmed wsX5_hasPlan := goodIn_r _ [11, 3, 12, 13, 14, 15, 16, 10, 17, 18, 19, 54, 55, 56, 57, 58, 59, 60, 61, 62, 63, 64, 65, 66, 67, 68, 69, 70, 71, 72, 73] (by decide +kernel) (by decide +kernel)
set_option maxRecDepth 20000 in
theorem gX5_harmed_X5_hasPlan : GoodIn wsX5_harmed (wsV RX5 108 RX5 yX5_hasPlan wsX5_hasPlan) := goodIn_app (goodIn_of _ (by decide +kernel)) ggX5_harmed_X5_hasPlan
set_option maxRecDepth 20000 in
theorem ggX5_harmed_X5_laysPlan : GoodIn wsX5_harmed wsX5_laysPlan := goodIn_r _ [23, 3, 12, 24, 25, 26, 27, 10, 28, 29, 30, 31, 32, 33, 34, 35, 36, 37, 38, 39, 40, 41, 54, 55, 56, 57, 58, 59, 60, 61, 62, 63, 64, 65, 66, 67, 68, 69, 70, 71, 72, 73] (by decide +kernel) (by decide +kernel)
set_option maxRecDepth 20000 in
theorem gX5_harmed_X5_laysPlan : GoodIn wsX5_harmed (wsV RX5 112 RX5 yX5_laysPlan wsX5_laysPlan) := goodIn_app (goodIn_of _ (by decide +kernel)) ggX5_harmed_X5_laysPlan
set_option maxRecDepth 20000 in
theorem ggX5_harmed_X5_answers : GoodIn wsX5_harmed wsX5_answers := goodIn_r _ [45, 3, 24, 46, 47, 18, 19, 48, 2, 49, 34, 5, 50, 51, 52, 10, 53, 14, 15, 16, 17, 54, 55, 56, 57, 58, 59, 60, 61, 62, 63, 64, 65, 66, 67, 68, 69, 70, 71, 72, 73] (by decide +kernel) (by decide +kernel)
set_option maxRecDepth 20000 in
theorem gX5_harmed_X5_answers : GoodIn wsX5_harmed (wsV RX5 122 RX5 yX5_answers wsX5_answers) := goodIn_app (goodIn_of _ (by decide +kernel)) ggX5_harmed_X5_answers
theorem dX5_harmed_0 : decode cX5_harmed 0 = .ok (.aload_n 0, 1) := by decide +kernel
theorem dX5_harmed_1 : decode cX5_harmed 1 = .ok (.aload_n 0, 1) := by decide +kernel
theorem dX5_harmed_2 : decode cX5_harmed 2 = .ok (.invokevirtual 108, 3) := by decide +kernel
theorem dX5_harmed_5 : decode cX5_harmed 5 = .ok (.ifCond .eq 7, 3) := by decide +kernel
theorem dX5_harmed_8 : decode cX5_harmed 8 = .ok (.iconst 0, 1) := by decide +kernel
theorem dX5_harmed_9 : decode cX5_harmed 9 = .ok (.goto 4, 3) := by decide +kernel
theorem dX5_harmed_12 : decode cX5_harmed 12 = .ok (.iconst 1, 1) := by decide +kernel
theorem dX5_harmed_13 : decode cX5_harmed 13 = .ok (.putfield 56, 3) := by decide +kernel
theorem dX5_harmed_16 : decode cX5_harmed 16 = .ok (.aload_n 0, 1) := by decide +kernel
theorem dX5_harmed_17 : decode cX5_harmed 17 = .ok (.getfield 56, 3) := by decide +kernel
theorem dX5_harmed_20 : decode cX5_harmed 20 = .ok (.ifCond .le 5, 3) := by decide +kernel
theorem dX5_harmed_23 : decode cX5_harmed 23 = .ok (.iconst 0, 1) := by decide +kernel
theorem dX5_harmed_24 : decode cX5_harmed 24 = .ok (.ireturn, 1) := by decide +kernel
theorem dX5_harmed_25 : decode cX5_harmed 25 = .ok (.aload_n 0, 1) := by decide +kernel
theorem dX5_harmed_26 : decode cX5_harmed 26 = .ok (.invokevirtual 112, 3) := by decide +kernel
theorem dX5_harmed_29 : decode cX5_harmed 29 = .ok (.pop, 1) := by decide +kernel
theorem dX5_harmed_30 : decode cX5_harmed 30 = .ok (.iconst 0, 1) := by decide +kernel
theorem dX5_harmed_31 : decode cX5_harmed 31 = .ok (.istore_n 1, 1) := by decide +kernel
theorem dX5_harmed_32 : decode cX5_harmed 32 = .ok (.iconst 0, 1) := by decide +kernel
theorem dX5_harmed_33 : decode cX5_harmed 33 = .ok (.istore_n 2, 1) := by decide +kernel
theorem dX5_harmed_34 : decode cX5_harmed 34 = .ok (.iload_n 2, 1) := by decide +kernel
theorem dX5_harmed_35 : decode cX5_harmed 35 = .ok (.bipush 20, 2) := by decide +kernel
theorem dX5_harmed_37 : decode cX5_harmed 37 = .ok (.if_icmp .ge 136, 3) := by decide +kernel
theorem dX5_harmed_40 : decode cX5_harmed 40 = .ok (.aload_n 0, 1) := by decide +kernel
theorem dX5_harmed_41 : decode cX5_harmed 41 = .ok (.iload_n 2, 1) := by decide +kernel
theorem dX5_harmed_42 : decode cX5_harmed 42 = .ok (.iconst 0, 1) := by decide +kernel
theorem dX5_harmed_43 : decode cX5_harmed 43 = .ok (.invokevirtual 122, 3) := by decide +kernel
theorem dX5_harmed_46 : decode cX5_harmed 46 = .ok (.aload_n 0, 1) := by decide +kernel
theorem dX5_harmed_47 : decode cX5_harmed 47 = .ok (.getfield 118, 3) := by decide +kernel
theorem dX5_harmed_50 : decode cX5_harmed 50 = .ok (.istore_n 3, 1) := by decide +kernel
theorem dX5_harmed_51 : decode cX5_harmed 51 = .ok (.iconst 0, 1) := by decide +kernel
theorem dX5_harmed_52 : decode cX5_harmed 52 = .ok (.istore 4, 2) := by decide +kernel
theorem dX5_harmed_54 : decode cX5_harmed 54 = .ok (.iload 4, 2) := by decide +kernel
theorem dX5_harmed_56 : decode cX5_harmed 56 = .ok (.aload_n 0, 1) := by decide +kernel
theorem dX5_harmed_57 : decode cX5_harmed 57 = .ok (.getfield 81, 3) := by decide +kernel
theorem dX5_harmed_60 : decode cX5_harmed 60 = .ok (.if_icmp .ge 23, 3) := by decide +kernel
theorem dX5_harmed_63 : decode cX5_harmed 63 = .ok (.aload_n 0, 1) := by decide +kernel
theorem dX5_harmed_64 : decode cX5_harmed 64 = .ok (.getfield 53, 3) := by decide +kernel
theorem dX5_harmed_67 : decode cX5_harmed 67 = .ok (.iload 4, 2) := by decide +kernel
theorem dX5_harmed_69 : decode cX5_harmed 69 = .ok (.aload_n 0, 1) := by decide +kernel
theorem dX5_harmed_70 : decode cX5_harmed 70 = .ok (.getfield 50, 3) := by decide +kernel
theorem dX5_harmed_73 : decode cX5_harmed 73 = .ok (.iload 4, 2) := by decide +kernel
theorem dX5_harmed_75 : decode cX5_harmed 75 = .ok (.iaload, 1) := by decide +kernel
theorem dX5_harmed_76 : decode cX5_harmed 76 = .ok (.iastore, 1) := by decide +kernel
theorem dX5_harmed_77 : decode cX5_harmed 77 = .ok (.iinc 4 1, 3) := by decide +kernel
theorem dX5_harmed_80 : decode cX5_harmed 80 = .ok (.goto (-26), 3) := by decide +kernel
theorem dX5_harmed_83 : decode cX5_harmed 83 = .ok (.aload_n 0, 1) := by decide +kernel
theorem dX5_harmed_84 : decode cX5_harmed 84 = .ok (.iload_n 2, 1) := by decide +kernel
theorem dX5_harmed_85 : decode cX5_harmed 85 = .ok (.aload_n 0, 1) := by decide +kernel
theorem dX5_harmed_86 : decode cX5_harmed 86 = .ok (.getfield 78, 3) := by decide +kernel
theorem dX5_harmed_89 : decode cX5_harmed 89 = .ok (.invokevirtual 122, 3) := by decide +kernel
theorem dX5_harmed_92 : decode cX5_harmed 92 = .ok (.iload_n 3, 1) := by decide +kernel
theorem dX5_harmed_93 : decode cX5_harmed 93 = .ok (.aload_n 0, 1) := by decide +kernel
theorem dX5_harmed_94 : decode cX5_harmed 94 = .ok (.getfield 118, 3) := by decide +kernel
theorem dX5_harmed_97 : decode cX5_harmed 97 = .ok (.if_icmp .eq 7, 3) := by decide +kernel
theorem dX5_harmed_100 : decode cX5_harmed 100 = .ok (.iconst 1, 1) := by decide +kernel
theorem dX5_harmed_101 : decode cX5_harmed 101 = .ok (.goto 4, 3) := by decide +kernel
theorem dX5_harmed_104 : decode cX5_harmed 104 = .ok (.iconst 0, 1) := by decide +kernel
theorem dX5_harmed_105 : decode cX5_harmed 105 = .ok (.istore 4, 2) := by decide +kernel
theorem dX5_harmed_107 : decode cX5_harmed 107 = .ok (.iconst 0, 1) := by decide +kernel
theorem dX5_harmed_108 : decode cX5_harmed 108 = .ok (.istore 5, 2) := by decide +kernel
theorem dX5_harmed_110 : decode cX5_harmed 110 = .ok (.iload 5, 2) := by decide +kernel
theorem dX5_harmed_112 : decode cX5_harmed 112 = .ok (.aload_n 0, 1) := by decide +kernel
theorem dX5_harmed_113 : decode cX5_harmed 113 = .ok (.getfield 81, 3) := by decide +kernel
theorem dX5_harmed_116 : decode cX5_harmed 116 = .ok (.if_icmp .ge 38, 3) := by decide +kernel
theorem dX5_harmed_119 : decode cX5_harmed 119 = .ok (.iload 4, 2) := by decide +kernel
theorem dX5_harmed_121 : decode cX5_harmed 121 = .ok (.ifCond .ne 20, 3) := by decide +kernel
theorem dX5_harmed_124 : decode cX5_harmed 124 = .ok (.aload_n 0, 1) := by decide +kernel
theorem dX5_harmed_125 : decode cX5_harmed 125 = .ok (.getfield 53, 3) := by decide +kernel
theorem dX5_harmed_128 : decode cX5_harmed 128 = .ok (.iload 5, 2) := by decide +kernel
theorem dX5_harmed_130 : decode cX5_harmed 130 = .ok (.iaload, 1) := by decide +kernel
theorem dX5_harmed_131 : decode cX5_harmed 131 = .ok (.aload_n 0, 1) := by decide +kernel
theorem dX5_harmed_132 : decode cX5_harmed 132 = .ok (.getfield 50, 3) := by decide +kernel
theorem dX5_harmed_135 : decode cX5_harmed 135 = .ok (.iload 5, 2) := by decide +kernel
theorem dX5_harmed_137 : decode cX5_harmed 137 = .ok (.iaload, 1) := by decide +kernel
theorem dX5_harmed_138 : decode cX5_harmed 138 = .ok (.if_icmp .eq 7, 3) := by decide +kernel
theorem dX5_harmed_141 : decode cX5_harmed 141 = .ok (.iconst 1, 1) := by decide +kernel
theorem dX5_harmed_142 : decode cX5_harmed 142 = .ok (.goto 4, 3) := by decide +kernel
theorem dX5_harmed_145 : decode cX5_harmed 145 = .ok (.iconst 0, 1) := by decide +kernel
theorem dX5_harmed_146 : decode cX5_harmed 146 = .ok (.istore 4, 2) := by decide +kernel
theorem dX5_harmed_148 : decode cX5_harmed 148 = .ok (.iinc 5 1, 3) := by decide +kernel
theorem dX5_harmed_151 : decode cX5_harmed 151 = .ok (.goto (-41), 3) := by decide +kernel
theorem dX5_harmed_154 : decode cX5_harmed 154 = .ok (.iload_n 1, 1) := by decide +kernel
theorem dX5_harmed_155 : decode cX5_harmed 155 = .ok (.iload 4, 2) := by decide +kernel
theorem dX5_harmed_157 : decode cX5_harmed 157 = .ok (.ifCond .eq 7, 3) := by decide +kernel
theorem dX5_harmed_160 : decode cX5_harmed 160 = .ok (.iconst 1, 1) := by decide +kernel
theorem dX5_harmed_161 : decode cX5_harmed 161 = .ok (.goto 4, 3) := by decide +kernel
theorem dX5_harmed_164 : decode cX5_harmed 164 = .ok (.iconst 0, 1) := by decide +kernel
theorem dX5_harmed_165 : decode cX5_harmed 165 = .ok (.iadd, 1) := by decide +kernel
theorem dX5_harmed_166 : decode cX5_harmed 166 = .ok (.istore_n 1, 1) := by decide +kernel
theorem dX5_harmed_167 : decode cX5_harmed 167 = .ok (.iinc 2 1, 3) := by decide +kernel
theorem dX5_harmed_170 : decode cX5_harmed 170 = .ok (.goto (-136), 3) := by decide +kernel
theorem dX5_harmed_173 : decode cX5_harmed 173 = .ok (.iload_n 1, 1) := by decide +kernel
theorem dX5_harmed_174 : decode cX5_harmed 174 = .ok (.ireturn, 1) := by decide +kernel
set_option maxRecDepth 20000 in
theorem ggX5_least_X5_isNode : GoodIn wsX5_least wsX5_isNode := goodIn_r _ [8, 9, 10, 11, 7, 12, 60, 61, 62, 63, 64, 65, 66, 67, 68, 69, 70, 71, 72, 73, 74, 75, 76, 77, 78, 79] (by decide +kernel) (by decide +kernel)
set_option maxRecDepth 20000 in
theorem gX5_least_X5_isNode : GoodIn wsX5_least (wsV RX5 87 RX5 yX5_isNode wsX5_isNode) := goodIn_app (goodIn_of _ (by decide +kernel)) ggX5_least_X5_isNode
set_option maxRecDepth 20000 in
theorem ggX5_least_X5_hasPlan : GoodIn wsX5_least wsX5_hasPlan := goodIn_r _ [16, 9, 17, 18, 19, 20, 21, 7, 22, 23, 24, 60, 61, 62, 63, 64, 65, 66, 67, 68, 69, 70, 71, 72, 73, 74, 75, 76, 77, 78, 79] (by decide +kernel) (by decide +kernel)
set_option maxRecDepth 20000 in
theorem gX5_least_X5_hasPlan : GoodIn wsX5_least (wsV RX5 108 RX5 yX5_hasPlan wsX5_hasPlan) := goodIn_app (goodIn_of _ (by decide +kernel)) ggX5_least_X5_hasPlan
set_option maxRecDepth 20000 in
theorem ggX5_least_X5_laysPlan : GoodIn wsX5_least wsX5_laysPlan := goodIn_r _ [28, 9, 17, 29, 30, 31, 32, 7, 33, 34, 35, 36, 37, 38, 39, 40, 41, 42, 43, 44, 45, 46, 60, 61, 62, 63, 64, 65, 66, 67, 68, 69, 70, 71, 72, 73, 74, 75, 76, 77, 78, 79] (by decide +kernel) (by decide +kernel)
set_option maxRecDepth 20000 in
theorem gX5_least_X5_laysPlan : GoodIn wsX5_least (wsV RX5 112 RX5 yX5_laysPlan wsX5_laysPlan) := goodIn_app (goodIn_of _ (by decide +kernel)) ggX5_least_X5_laysPlan
set_option maxRecDepth 20000 in
theorem ggX5_least_X5_answers : GoodIn wsX5_least wsX5_answers := goodIn_r _ [50, 9, 29, 51, 52, 23, 24, 53, 54, 55, 39, 3, 56, 57, 58, 7, 59, 19, 20, 21, 22, 60, 61, 62, 63, 64, 65, 66, 67, 68, 69, 70, 71, 72, 73, 74, 75, 76, 77, 78, 79] (by decide +kernel) (by decide +kernel)
set_option maxRecDepth 20000 in
theorem gX5_least_X5_answers : GoodIn wsX5_least (wsV RX5 122 RX5 yX5_answers wsX5_answers) := goodIn_app (goodIn_of _ (by decide +kernel)) ggX5_least_X5_answers
theorem dX5_least_0 : decode cX5_least 0 = .ok (.aload_n 0, 1) := by decide +kernel
theorem dX5_least_1 : decode cX5_least 1 = .ok (.aload_n 0, 1) := by decide +kernel
theorem dX5_least_2 : decode cX5_least 2 = .ok (.iload_n 1, 1) := by decide +kernel
theorem dX5_least_3 : decode cX5_least 3 = .ok (.invokevirtual 87, 3) := by decide +kernel
theorem dX5_least_6 : decode cX5_least 6 = .ok (.ifCond .ne 7, 3) := by decide +kernel
theorem dX5_least_9 : decode cX5_least 9 = .ok (.iconst 1, 1) := by decide +kernel
theorem dX5_least_10 : decode cX5_least 10 = .ok (.goto 15, 3) := by decide +kernel
theorem dX5_least_13 : decode cX5_least 13 = .ok (.aload_n 0, 1) := by decide +kernel
theorem dX5_least_14 : decode cX5_least 14 = .ok (.invokevirtual 108, 3) := by decide +kernel
theorem dX5_least_17 : decode cX5_least 17 = .ok (.ifCond .eq 7, 3) := by decide +kernel
theorem dX5_least_20 : decode cX5_least 20 = .ok (.iconst 0, 1) := by decide +kernel
theorem dX5_least_21 : decode cX5_least 21 = .ok (.goto 4, 3) := by decide +kernel
theorem dX5_least_24 : decode cX5_least 24 = .ok (.iconst 2, 1) := by decide +kernel
theorem dX5_least_25 : decode cX5_least 25 = .ok (.putfield 56, 3) := by decide +kernel
theorem dX5_least_28 : decode cX5_least 28 = .ok (.aload_n 0, 1) := by decide +kernel
theorem dX5_least_29 : decode cX5_least 29 = .ok (.getfield 56, 3) := by decide +kernel
theorem dX5_least_32 : decode cX5_least 32 = .ok (.ifCond .le 5, 3) := by decide +kernel
theorem dX5_least_35 : decode cX5_least 35 = .ok (.iconst 0, 1) := by decide +kernel
theorem dX5_least_36 : decode cX5_least 36 = .ok (.ireturn, 1) := by decide +kernel
theorem dX5_least_37 : decode cX5_least 37 = .ok (.aload_n 0, 1) := by decide +kernel
theorem dX5_least_38 : decode cX5_least 38 = .ok (.invokevirtual 112, 3) := by decide +kernel
theorem dX5_least_41 : decode cX5_least 41 = .ok (.pop, 1) := by decide +kernel
theorem dX5_least_42 : decode cX5_least 42 = .ok (.iconst (-1), 1) := by decide +kernel
theorem dX5_least_43 : decode cX5_least 43 = .ok (.istore_n 2, 1) := by decide +kernel
theorem dX5_least_44 : decode cX5_least 44 = .ok (.iconst 0, 1) := by decide +kernel
theorem dX5_least_45 : decode cX5_least 45 = .ok (.istore_n 3, 1) := by decide +kernel
theorem dX5_least_46 : decode cX5_least 46 = .ok (.iconst 0, 1) := by decide +kernel
theorem dX5_least_47 : decode cX5_least 47 = .ok (.istore 4, 2) := by decide +kernel
theorem dX5_least_49 : decode cX5_least 49 = .ok (.iload 4, 2) := by decide +kernel
theorem dX5_least_51 : decode cX5_least 51 = .ok (.bipush 20, 2) := by decide +kernel
theorem dX5_least_53 : decode cX5_least 53 = .ok (.if_icmp .ge 54, 3) := by decide +kernel
theorem dX5_least_56 : decode cX5_least 56 = .ok (.aload_n 0, 1) := by decide +kernel
theorem dX5_least_57 : decode cX5_least 57 = .ok (.iload 4, 2) := by decide +kernel
theorem dX5_least_59 : decode cX5_least 59 = .ok (.aload_n 0, 1) := by decide +kernel
theorem dX5_least_60 : decode cX5_least 60 = .ok (.getfield 78, 3) := by decide +kernel
theorem dX5_least_63 : decode cX5_least 63 = .ok (.invokevirtual 122, 3) := by decide +kernel
theorem dX5_least_66 : decode cX5_least 66 = .ok (.aload_n 0, 1) := by decide +kernel
theorem dX5_least_67 : decode cX5_least 67 = .ok (.getfield 50, 3) := by decide +kernel
theorem dX5_least_70 : decode cX5_least 70 = .ok (.iload_n 1, 1) := by decide +kernel
theorem dX5_least_71 : decode cX5_least 71 = .ok (.iaload, 1) := by decide +kernel
theorem dX5_least_72 : decode cX5_least 72 = .ok (.iconst (-1), 1) := by decide +kernel
theorem dX5_least_73 : decode cX5_least 73 = .ok (.if_icmp .eq 28, 3) := by decide +kernel
theorem dX5_least_76 : decode cX5_least 76 = .ok (.iload_n 2, 1) := by decide +kernel
theorem dX5_least_77 : decode cX5_least 77 = .ok (.iconst (-1), 1) := by decide +kernel
theorem dX5_least_78 : decode cX5_least 78 = .ok (.if_icmp .eq 13, 3) := by decide +kernel
theorem dX5_least_81 : decode cX5_least 81 = .ok (.aload_n 0, 1) := by decide +kernel
theorem dX5_least_82 : decode cX5_least 82 = .ok (.getfield 50, 3) := by decide +kernel
theorem dX5_least_85 : decode cX5_least 85 = .ok (.iload_n 1, 1) := by decide +kernel
theorem dX5_least_86 : decode cX5_least 86 = .ok (.iaload, 1) := by decide +kernel
theorem dX5_least_87 : decode cX5_least 87 = .ok (.iload_n 3, 1) := by decide +kernel
theorem dX5_least_88 : decode cX5_least 88 = .ok (.if_icmp .ge 13, 3) := by decide +kernel
theorem dX5_least_91 : decode cX5_least 91 = .ok (.iload 4, 2) := by decide +kernel
theorem dX5_least_93 : decode cX5_least 93 = .ok (.istore_n 2, 1) := by decide +kernel
theorem dX5_least_94 : decode cX5_least 94 = .ok (.aload_n 0, 1) := by decide +kernel
theorem dX5_least_95 : decode cX5_least 95 = .ok (.getfield 50, 3) := by decide +kernel
theorem dX5_least_98 : decode cX5_least 98 = .ok (.iload_n 1, 1) := by decide +kernel
theorem dX5_least_99 : decode cX5_least 99 = .ok (.iaload, 1) := by decide +kernel
theorem dX5_least_100 : decode cX5_least 100 = .ok (.istore_n 3, 1) := by decide +kernel
theorem dX5_least_101 : decode cX5_least 101 = .ok (.iinc 4 1, 3) := by decide +kernel
theorem dX5_least_104 : decode cX5_least 104 = .ok (.goto (-55), 3) := by decide +kernel
theorem dX5_least_107 : decode cX5_least 107 = .ok (.aload_n 0, 1) := by decide +kernel
theorem dX5_least_108 : decode cX5_least 108 = .ok (.iload_n 2, 1) := by decide +kernel
theorem dX5_least_109 : decode cX5_least 109 = .ok (.iconst (-1), 1) := by decide +kernel
theorem dX5_least_110 : decode cX5_least 110 = .ok (.if_icmp .ne 7, 3) := by decide +kernel
theorem dX5_least_113 : decode cX5_least 113 = .ok (.iconst 3, 1) := by decide +kernel
theorem dX5_least_114 : decode cX5_least 114 = .ok (.goto 4, 3) := by decide +kernel
theorem dX5_least_117 : decode cX5_least 117 = .ok (.iconst 0, 1) := by decide +kernel
theorem dX5_least_118 : decode cX5_least 118 = .ok (.putfield 56, 3) := by decide +kernel
theorem dX5_least_121 : decode cX5_least 121 = .ok (.aload_n 0, 1) := by decide +kernel
theorem dX5_least_122 : decode cX5_least 122 = .ok (.getfield 56, 3) := by decide +kernel
theorem dX5_least_125 : decode cX5_least 125 = .ok (.ifCond .le 7, 3) := by decide +kernel
theorem dX5_least_128 : decode cX5_least 128 = .ok (.iconst 0, 1) := by decide +kernel
theorem dX5_least_129 : decode cX5_least 129 = .ok (.goto 4, 3) := by decide +kernel
theorem dX5_least_132 : decode cX5_least 132 = .ok (.iload_n 2, 1) := by decide +kernel
theorem dX5_least_133 : decode cX5_least 133 = .ok (.ireturn, 1) := by decide +kernel
theorem dJ6_bitCount_0f7a4_0 : decode cJ6_bitCount_0f7a4 0 = .ok (.iload_n 0, 1) := by decide +kernel
theorem dJ6_bitCount_0f7a4_1 : decode cJ6_bitCount_0f7a4 1 = .ok (.iload_n 0, 1) := by decide +kernel
theorem dJ6_bitCount_0f7a4_2 : decode cJ6_bitCount_0f7a4 2 = .ok (.iconst 1, 1) := by decide +kernel
theorem dJ6_bitCount_0f7a4_3 : decode cJ6_bitCount_0f7a4 3 = .ok (.iushr, 1) := by decide +kernel
theorem dJ6_bitCount_0f7a4_4 : decode cJ6_bitCount_0f7a4 4 = .ok (.ldc_w 265, 3) := by decide +kernel
theorem dJ6_bitCount_0f7a4_7 : decode cJ6_bitCount_0f7a4 7 = .ok (.iand, 1) := by decide +kernel
theorem dJ6_bitCount_0f7a4_8 : decode cJ6_bitCount_0f7a4 8 = .ok (.isub, 1) := by decide +kernel
theorem dJ6_bitCount_0f7a4_9 : decode cJ6_bitCount_0f7a4 9 = .ok (.istore_n 0, 1) := by decide +kernel
theorem dJ6_bitCount_0f7a4_10 : decode cJ6_bitCount_0f7a4 10 = .ok (.iload_n 0, 1) := by decide +kernel
theorem dJ6_bitCount_0f7a4_11 : decode cJ6_bitCount_0f7a4 11 = .ok (.ldc_w 266, 3) := by decide +kernel
theorem dJ6_bitCount_0f7a4_14 : decode cJ6_bitCount_0f7a4 14 = .ok (.iand, 1) := by decide +kernel
theorem dJ6_bitCount_0f7a4_15 : decode cJ6_bitCount_0f7a4 15 = .ok (.iload_n 0, 1) := by decide +kernel
theorem dJ6_bitCount_0f7a4_16 : decode cJ6_bitCount_0f7a4 16 = .ok (.iconst 2, 1) := by decide +kernel
theorem dJ6_bitCount_0f7a4_17 : decode cJ6_bitCount_0f7a4 17 = .ok (.iushr, 1) := by decide +kernel
theorem dJ6_bitCount_0f7a4_18 : decode cJ6_bitCount_0f7a4 18 = .ok (.ldc_w 266, 3) := by decide +kernel
theorem dJ6_bitCount_0f7a4_21 : decode cJ6_bitCount_0f7a4 21 = .ok (.iand, 1) := by decide +kernel
theorem dJ6_bitCount_0f7a4_22 : decode cJ6_bitCount_0f7a4 22 = .ok (.iadd, 1) := by decide +kernel
theorem dJ6_bitCount_0f7a4_23 : decode cJ6_bitCount_0f7a4 23 = .ok (.istore_n 0, 1) := by decide +kernel
theorem dJ6_bitCount_0f7a4_24 : decode cJ6_bitCount_0f7a4 24 = .ok (.iload_n 0, 1) := by decide +kernel
theorem dJ6_bitCount_0f7a4_25 : decode cJ6_bitCount_0f7a4 25 = .ok (.iload_n 0, 1) := by decide +kernel
theorem dJ6_bitCount_0f7a4_26 : decode cJ6_bitCount_0f7a4 26 = .ok (.iconst 4, 1) := by decide +kernel
theorem dJ6_bitCount_0f7a4_27 : decode cJ6_bitCount_0f7a4 27 = .ok (.iushr, 1) := by decide +kernel
theorem dJ6_bitCount_0f7a4_28 : decode cJ6_bitCount_0f7a4 28 = .ok (.iadd, 1) := by decide +kernel
theorem dJ6_bitCount_0f7a4_29 : decode cJ6_bitCount_0f7a4 29 = .ok (.ldc_w 267, 3) := by decide +kernel
theorem dJ6_bitCount_0f7a4_32 : decode cJ6_bitCount_0f7a4 32 = .ok (.iand, 1) := by decide +kernel
theorem dJ6_bitCount_0f7a4_33 : decode cJ6_bitCount_0f7a4 33 = .ok (.istore_n 0, 1) := by decide +kernel
theorem dJ6_bitCount_0f7a4_34 : decode cJ6_bitCount_0f7a4 34 = .ok (.iload_n 0, 1) := by decide +kernel
theorem dJ6_bitCount_0f7a4_35 : decode cJ6_bitCount_0f7a4 35 = .ok (.iload_n 0, 1) := by decide +kernel
theorem dJ6_bitCount_0f7a4_36 : decode cJ6_bitCount_0f7a4 36 = .ok (.bipush 8, 2) := by decide +kernel
theorem dJ6_bitCount_0f7a4_38 : decode cJ6_bitCount_0f7a4 38 = .ok (.iushr, 1) := by decide +kernel
theorem dJ6_bitCount_0f7a4_39 : decode cJ6_bitCount_0f7a4 39 = .ok (.iadd, 1) := by decide +kernel
theorem dJ6_bitCount_0f7a4_40 : decode cJ6_bitCount_0f7a4 40 = .ok (.istore_n 0, 1) := by decide +kernel
theorem dJ6_bitCount_0f7a4_41 : decode cJ6_bitCount_0f7a4 41 = .ok (.iload_n 0, 1) := by decide +kernel
theorem dJ6_bitCount_0f7a4_42 : decode cJ6_bitCount_0f7a4 42 = .ok (.iload_n 0, 1) := by decide +kernel
theorem dJ6_bitCount_0f7a4_43 : decode cJ6_bitCount_0f7a4 43 = .ok (.bipush 16, 2) := by decide +kernel
theorem dJ6_bitCount_0f7a4_45 : decode cJ6_bitCount_0f7a4 45 = .ok (.iushr, 1) := by decide +kernel
theorem dJ6_bitCount_0f7a4_46 : decode cJ6_bitCount_0f7a4 46 = .ok (.iadd, 1) := by decide +kernel
theorem dJ6_bitCount_0f7a4_47 : decode cJ6_bitCount_0f7a4 47 = .ok (.istore_n 0, 1) := by decide +kernel
theorem dJ6_bitCount_0f7a4_48 : decode cJ6_bitCount_0f7a4 48 = .ok (.iload_n 0, 1) := by decide +kernel
theorem dJ6_bitCount_0f7a4_49 : decode cJ6_bitCount_0f7a4 49 = .ok (.bipush 63, 2) := by decide +kernel
theorem dJ6_bitCount_0f7a4_51 : decode cJ6_bitCount_0f7a4 51 = .ok (.iand, 1) := by decide +kernel
theorem dJ6_bitCount_0f7a4_52 : decode cJ6_bitCount_0f7a4 52 = .ok (.ireturn, 1) := by decide +kernel
theorem dJ9_min_7cf53_0 : decode cJ9_min_7cf53 0 = .ok (.iload_n 0, 1) := by decide +kernel
theorem dJ9_min_7cf53_1 : decode cJ9_min_7cf53 1 = .ok (.iload_n 1, 1) := by decide +kernel
theorem dJ9_min_7cf53_2 : decode cJ9_min_7cf53 2 = .ok (.if_icmp .gt 7, 3) := by decide +kernel
theorem dJ9_min_7cf53_5 : decode cJ9_min_7cf53 5 = .ok (.iload_n 0, 1) := by decide +kernel
theorem dJ9_min_7cf53_6 : decode cJ9_min_7cf53 6 = .ok (.goto 4, 3) := by decide +kernel
theorem dJ9_min_7cf53_9 : decode cJ9_min_7cf53 9 = .ok (.iload_n 1, 1) := by decide +kernel
theorem dJ9_min_7cf53_10 : decode cJ9_min_7cf53 10 = .ok (.ireturn, 1) := by decide +kernel
theorem dJ7_fill_53178_0 : decode cJ7_fill_53178 0 = .ok (.iconst 0, 1) := by decide +kernel
theorem dJ7_fill_53178_1 : decode cJ7_fill_53178 1 = .ok (.istore_n 2, 1) := by decide +kernel
theorem dJ7_fill_53178_2 : decode cJ7_fill_53178 2 = .ok (.aload_n 0, 1) := by decide +kernel
theorem dJ7_fill_53178_3 : decode cJ7_fill_53178 3 = .ok (.arraylength, 1) := by decide +kernel
theorem dJ7_fill_53178_4 : decode cJ7_fill_53178 4 = .ok (.istore_n 3, 1) := by decide +kernel
theorem dJ7_fill_53178_5 : decode cJ7_fill_53178 5 = .ok (.iload_n 2, 1) := by decide +kernel
theorem dJ7_fill_53178_6 : decode cJ7_fill_53178 6 = .ok (.iload_n 3, 1) := by decide +kernel
theorem dJ7_fill_53178_7 : decode cJ7_fill_53178 7 = .ok (.if_icmp .ge 13, 3) := by decide +kernel
theorem dJ7_fill_53178_10 : decode cJ7_fill_53178 10 = .ok (.aload_n 0, 1) := by decide +kernel
theorem dJ7_fill_53178_11 : decode cJ7_fill_53178 11 = .ok (.iload_n 2, 1) := by decide +kernel
theorem dJ7_fill_53178_12 : decode cJ7_fill_53178 12 = .ok (.iload_n 1, 1) := by decide +kernel
theorem dJ7_fill_53178_13 : decode cJ7_fill_53178 13 = .ok (.iastore, 1) := by decide +kernel
theorem dJ7_fill_53178_14 : decode cJ7_fill_53178 14 = .ok (.iinc 2 1, 3) := by decide +kernel
theorem dJ7_fill_53178_17 : decode cJ7_fill_53178 17 = .ok (.goto (-12), 3) := by decide +kernel
theorem dJ7_fill_53178_20 : decode cJ7_fill_53178 20 = .ok (.return_, 1) := by decide +kernel
set_option maxRecDepth 20000 in
theorem ggL_addField_X4_addField : GoodIn wsL_addField wsX4_addField := goodIn_ca (goodIn_ca (goodIn_r _ [7, 8, 9, 10, 11, 12, 13, 14, 6, 15, 16, 17, 18, 19, 20, 21, 22, 23, 24, 25, 26, 27, 28, 29, 30, 31, 32, 33, 34, 35, 36, 37, 38, 39, 40, 41, 42, 43, 44, 45, 46] (by decide +kernel) (by decide +kernel)) (goodIn_sub (fun _ h => List.mem_cons_of_mem _ (List.mem_append_left _ (List.mem_append_right _ h))) (by decide +kernel))) (goodIn_sub (fun _ h => List.mem_cons_of_mem _ (List.mem_append_right _ h)) (by decide +kernel))
set_option maxRecDepth 20000 in
theorem gL_addField_X4_addField : GoodIn wsL_addField (wsV RL 7 RX4 yX4_addField wsX4_addField) := goodIn_app (goodIn_of _ (by decide +kernel)) ggL_addField_X4_addField
theorem dL_addField_0 : decode cL_addField 0 = .ok (.aload 4, 2) := by decide +kernel
theorem dL_addField_2 : decode cL_addField 2 = .ok (.iconst 0, 1) := by decide +kernel
theorem dL_addField_3 : decode cL_addField 3 = .ok (.aload_n 0, 1) := by decide +kernel
theorem dL_addField_4 : decode cL_addField 4 = .ok (.iload_n 1, 1) := by decide +kernel
theorem dL_addField_5 : decode cL_addField 5 = .ok (.iload_n 2, 1) := by decide +kernel
theorem dL_addField_6 : decode cL_addField 6 = .ok (.iload_n 3, 1) := by decide +kernel
theorem dL_addField_7 : decode cL_addField 7 = .ok (.invokevirtual 7, 3) := by decide +kernel
theorem dL_addField_10 : decode cL_addField 10 = .ok (.i2l, 1) := by decide +kernel
theorem dL_addField_11 : decode cL_addField 11 = .ok (.lastore, 1) := by decide +kernel
theorem dL_addField_12 : decode cL_addField 12 = .ok (.goto 11, 3) := by decide +kernel
theorem dL_addField_15 : decode cL_addField 15 = .ok (.astore 5, 2) := by decide +kernel
theorem dL_addField_17 : decode cL_addField 17 = .ok (.iconst 1, 1) := by decide +kernel
theorem dL_addField_18 : decode cL_addField 18 = .ok (.ireturn, 1) := by decide +kernel
theorem dL_addField_19 : decode cL_addField 19 = .ok (.astore 5, 2) := by decide +kernel
theorem dL_addField_21 : decode cL_addField 21 = .ok (.iconst 2, 1) := by decide +kernel
theorem dL_addField_22 : decode cL_addField 22 = .ok (.ireturn, 1) := by decide +kernel
theorem dL_addField_23 : decode cL_addField 23 = .ok (.iconst 0, 1) := by decide +kernel
theorem dL_addField_24 : decode cL_addField 24 = .ok (.ireturn, 1) := by decide +kernel
set_option maxRecDepth 20000 in
theorem ggL_own_X4_own : GoodIn wsL_own wsX4_own := goodIn_ca (goodIn_ca (goodIn_r _ [7, 8, 9, 10, 11, 6, 12, 13, 14, 15, 16, 17, 18, 19, 20, 21, 22, 23, 24, 25, 26, 27, 28, 29, 30, 31, 32, 33, 34, 35, 36, 37, 38, 39, 40, 41, 42, 43, 44, 45, 46, 47, 48, 49, 50, 51, 52, 53, 54, 55, 56, 57, 58, 59, 60, 61, 62, 63, 64, 65, 66, 67, 68, 69, 70, 71, 72, 73, 74] (by decide +kernel) (by decide +kernel)) (goodIn_sub (fun _ h => List.mem_cons_of_mem _ (List.mem_append_left _ (List.mem_append_right _ h))) (by decide +kernel))) (goodIn_sub (fun _ h => List.mem_cons_of_mem _ (List.mem_append_right _ h)) (by decide +kernel))
set_option maxRecDepth 20000 in
theorem gL_own_X4_own : GoodIn wsL_own (wsV RL 17 RX4 yX4_own wsX4_own) := goodIn_app (goodIn_of _ (by decide +kernel)) ggL_own_X4_own
theorem dL_own_0 : decode cL_own 0 = .ok (.aload 5, 2) := by decide +kernel
theorem dL_own_2 : decode cL_own 2 = .ok (.iconst 0, 1) := by decide +kernel
theorem dL_own_3 : decode cL_own 3 = .ok (.aload_n 0, 1) := by decide +kernel
theorem dL_own_4 : decode cL_own 4 = .ok (.iload_n 1, 1) := by decide +kernel
theorem dL_own_5 : decode cL_own 5 = .ok (.iload_n 2, 1) := by decide +kernel
theorem dL_own_6 : decode cL_own 6 = .ok (.iload_n 3, 1) := by decide +kernel
theorem dL_own_7 : decode cL_own 7 = .ok (.iload 4, 2) := by decide +kernel
theorem dL_own_9 : decode cL_own 9 = .ok (.invokevirtual 17, 3) := by decide +kernel
theorem dL_own_12 : decode cL_own 12 = .ok (.ifCond .eq 7, 3) := by decide +kernel
theorem dL_own_15 : decode cL_own 15 = .ok (.lconst 1, 1) := by decide +kernel
theorem dL_own_16 : decode cL_own 16 = .ok (.goto 4, 3) := by decide +kernel
theorem dL_own_19 : decode cL_own 19 = .ok (.lconst 0, 1) := by decide +kernel
theorem dL_own_20 : decode cL_own 20 = .ok (.lastore, 1) := by decide +kernel
theorem dL_own_21 : decode cL_own 21 = .ok (.goto 11, 3) := by decide +kernel
theorem dL_own_24 : decode cL_own 24 = .ok (.astore 6, 2) := by decide +kernel
theorem dL_own_26 : decode cL_own 26 = .ok (.iconst 1, 1) := by decide +kernel
theorem dL_own_27 : decode cL_own 27 = .ok (.ireturn, 1) := by decide +kernel
theorem dL_own_28 : decode cL_own 28 = .ok (.astore 6, 2) := by decide +kernel
theorem dL_own_30 : decode cL_own 30 = .ok (.iconst 2, 1) := by decide +kernel
theorem dL_own_31 : decode cL_own 31 = .ok (.ireturn, 1) := by decide +kernel
theorem dL_own_32 : decode cL_own 32 = .ok (.iconst 0, 1) := by decide +kernel
theorem dL_own_33 : decode cL_own 33 = .ok (.ireturn, 1) := by decide +kernel
set_option maxRecDepth 20000 in
theorem ggL_set_X4_set : GoodIn wsL_set wsX4_set := goodIn_ca (goodIn_ca (goodIn_r _ [7, 8, 9, 10, 11, 12, 6, 13, 14, 15, 16, 17, 18, 19, 20, 21, 22, 23, 24, 25, 26, 27, 28, 29, 30, 31, 32, 33, 34, 35, 36, 37, 38, 39, 40, 41, 42, 43, 44, 45, 46, 47, 48, 49, 50, 51, 52, 53, 54, 55, 56, 57, 58, 59, 60, 61, 62, 63, 64, 65, 66, 67, 68] (by decide +kernel) (by decide +kernel)) (goodIn_sub (fun _ h => List.mem_cons_of_mem _ (List.mem_append_left _ (List.mem_append_right _ h))) (by decide +kernel))) (goodIn_sub (fun _ h => List.mem_cons_of_mem _ (List.mem_append_right _ h)) (by decide +kernel))
set_option maxRecDepth 20000 in
theorem gL_set_X4_set : GoodIn wsL_set (wsV RL 23 RX4 yX4_set wsX4_set) := goodIn_app (goodIn_of _ (by decide +kernel)) ggL_set_X4_set
theorem dL_set_0 : decode cL_set 0 = .ok (.aload 5, 2) := by decide +kernel
theorem dL_set_2 : decode cL_set 2 = .ok (.iconst 0, 1) := by decide +kernel
theorem dL_set_3 : decode cL_set 3 = .ok (.aload_n 0, 1) := by decide +kernel
theorem dL_set_4 : decode cL_set 4 = .ok (.iload_n 1, 1) := by decide +kernel
theorem dL_set_5 : decode cL_set 5 = .ok (.iload_n 2, 1) := by decide +kernel
theorem dL_set_6 : decode cL_set 6 = .ok (.iload_n 3, 1) := by decide +kernel
theorem dL_set_7 : decode cL_set 7 = .ok (.iload 4, 2) := by decide +kernel
theorem dL_set_9 : decode cL_set 9 = .ok (.invokevirtual 23, 3) := by decide +kernel
theorem dL_set_12 : decode cL_set 12 = .ok (.i2l, 1) := by decide +kernel
theorem dL_set_13 : decode cL_set 13 = .ok (.lastore, 1) := by decide +kernel
theorem dL_set_14 : decode cL_set 14 = .ok (.goto 11, 3) := by decide +kernel
theorem dL_set_17 : decode cL_set 17 = .ok (.astore 6, 2) := by decide +kernel
theorem dL_set_19 : decode cL_set 19 = .ok (.iconst 1, 1) := by decide +kernel
theorem dL_set_20 : decode cL_set 20 = .ok (.ireturn, 1) := by decide +kernel
theorem dL_set_21 : decode cL_set 21 = .ok (.astore 6, 2) := by decide +kernel
theorem dL_set_23 : decode cL_set 23 = .ok (.iconst 2, 1) := by decide +kernel
theorem dL_set_24 : decode cL_set 24 = .ok (.ireturn, 1) := by decide +kernel
theorem dL_set_25 : decode cL_set 25 = .ok (.iconst 0, 1) := by decide +kernel
theorem dL_set_26 : decode cL_set 26 = .ok (.ireturn, 1) := by decide +kernel
set_option maxRecDepth 20000 in
theorem ggL_fail_X4_fail : GoodIn wsL_fail wsX4_fail := goodIn_ca (goodIn_r _ [6, 7, 8, 9, 5, 10, 11, 12, 13, 14, 15, 16, 17, 18, 19, 20, 21, 22, 23, 24, 25, 26, 27, 28, 29, 30, 31, 32, 33, 34] (by decide +kernel) (by decide +kernel)) (goodIn_sub (fun _ h => List.mem_cons_of_mem _ (List.mem_append_right _ h)) (by decide +kernel))
set_option maxRecDepth 20000 in
theorem gL_fail_X4_fail : GoodIn wsL_fail (wsV RL 27 RX4 yX4_fail wsX4_fail) := goodIn_app (goodIn_of _ (by decide +kernel)) ggL_fail_X4_fail
theorem dL_fail_0 : decode cL_fail 0 = .ok (.aload_n 3, 1) := by decide +kernel
theorem dL_fail_1 : decode cL_fail 1 = .ok (.iconst 0, 1) := by decide +kernel
theorem dL_fail_2 : decode cL_fail 2 = .ok (.aload_n 0, 1) := by decide +kernel
theorem dL_fail_3 : decode cL_fail 3 = .ok (.iload_n 1, 1) := by decide +kernel
theorem dL_fail_4 : decode cL_fail 4 = .ok (.iload_n 2, 1) := by decide +kernel
theorem dL_fail_5 : decode cL_fail 5 = .ok (.invokevirtual 27, 3) := by decide +kernel
theorem dL_fail_8 : decode cL_fail 8 = .ok (.ifCond .eq 7, 3) := by decide +kernel
theorem dL_fail_11 : decode cL_fail 11 = .ok (.lconst 1, 1) := by decide +kernel
theorem dL_fail_12 : decode cL_fail 12 = .ok (.goto 4, 3) := by decide +kernel
theorem dL_fail_15 : decode cL_fail 15 = .ok (.lconst 0, 1) := by decide +kernel
theorem dL_fail_16 : decode cL_fail 16 = .ok (.lastore, 1) := by decide +kernel
theorem dL_fail_17 : decode cL_fail 17 = .ok (.goto 7, 3) := by decide +kernel
theorem dL_fail_20 : decode cL_fail 20 = .ok (.astore 4, 2) := by decide +kernel
theorem dL_fail_22 : decode cL_fail 22 = .ok (.iconst 1, 1) := by decide +kernel
theorem dL_fail_23 : decode cL_fail 23 = .ok (.ireturn, 1) := by decide +kernel
theorem dL_fail_24 : decode cL_fail 24 = .ok (.iconst 0, 1) := by decide +kernel
theorem dL_fail_25 : decode cL_fail 25 = .ok (.ireturn, 1) := by decide +kernel
set_option maxRecDepth 20000 in
theorem ggL_begin_X4_begin : GoodIn wsL_begin wsX4_begin := goodIn_ca (goodIn_r _ [6, 7, 8, 9, 10, 5, 11, 12, 13, 14, 15, 16, 17, 18, 19, 20, 21, 22, 23, 24, 25, 26, 27, 28, 29, 30, 31, 32, 33, 34, 35, 36, 37, 38, 39, 40, 41, 42, 43, 44, 45, 46, 47, 48] (by decide +kernel) (by decide +kernel)) (goodIn_sub (fun _ h => List.mem_cons_of_mem _ (List.mem_append_right _ h)) (by decide +kernel))
set_option maxRecDepth 20000 in
theorem gL_begin_X4_begin : GoodIn wsL_begin (wsV RL 31 RX4 yX4_begin wsX4_begin) := goodIn_app (goodIn_of _ (by decide +kernel)) ggL_begin_X4_begin
theorem dL_begin_0 : decode cL_begin 0 = .ok (.aload_n 2, 1) := by decide +kernel
theorem dL_begin_1 : decode cL_begin 1 = .ok (.iconst 0, 1) := by decide +kernel
theorem dL_begin_2 : decode cL_begin 2 = .ok (.aload_n 0, 1) := by decide +kernel
theorem dL_begin_3 : decode cL_begin 3 = .ok (.iload_n 1, 1) := by decide +kernel
theorem dL_begin_4 : decode cL_begin 4 = .ok (.invokevirtual 31, 3) := by decide +kernel
theorem dL_begin_7 : decode cL_begin 7 = .ok (.i2l, 1) := by decide +kernel
theorem dL_begin_8 : decode cL_begin 8 = .ok (.lastore, 1) := by decide +kernel
theorem dL_begin_9 : decode cL_begin 9 = .ok (.goto 6, 3) := by decide +kernel
theorem dL_begin_12 : decode cL_begin 12 = .ok (.astore_n 3, 1) := by decide +kernel
theorem dL_begin_13 : decode cL_begin 13 = .ok (.iconst 1, 1) := by decide +kernel
theorem dL_begin_14 : decode cL_begin 14 = .ok (.ireturn, 1) := by decide +kernel
theorem dL_begin_15 : decode cL_begin 15 = .ok (.iconst 0, 1) := by decide +kernel
theorem dL_begin_16 : decode cL_begin 16 = .ok (.ireturn, 1) := by decide +kernel
set_option maxRecDepth 20000 in
theorem ggL_node_X4_node : GoodIn wsL_node wsX4_node := goodIn_ca (goodIn_ca (goodIn_r _ [7, 8, 9, 10, 11, 12, 13, 14, 6, 15, 16, 17, 18, 19, 20, 21, 22, 23, 24, 25, 26, 27, 28, 29, 30, 31, 32, 33, 34, 35, 36, 37, 38, 39, 40, 41, 42, 43, 44, 45, 46, 47, 48, 49, 50, 51, 52, 53, 54, 55, 56, 57, 58, 59, 60, 61, 62, 63, 64, 65, 66, 67, 68, 69, 70, 71, 72, 73, 74, 75, 76, 77, 78, 79, 80, 81, 82, 83, 84, 85, 86, 87, 88, 89, 90, 91, 92, 93, 94, 95, 96, 97, 98, 99, 100, 101, 102, 103, 104, 105, 106] (by decide +kernel) (by decide +kernel)) (goodIn_sub (fun _ h => List.mem_cons_of_mem _ (List.mem_append_left _ (List.mem_append_right _ h))) (by decide +kernel))) (goodIn_sub (fun _ h => List.mem_cons_of_mem _ (List.mem_append_right _ h)) (by decide +kernel))
set_option maxRecDepth 20000 in
theorem gL_node_X4_node : GoodIn wsL_node (wsV RL 35 RX4 yX4_node wsX4_node) := goodIn_app (goodIn_of _ (by decide +kernel)) ggL_node_X4_node
theorem dL_node_0 : decode cL_node 0 = .ok (.aload_n 3, 1) := by decide +kernel
theorem dL_node_1 : decode cL_node 1 = .ok (.iconst 0, 1) := by decide +kernel
theorem dL_node_2 : decode cL_node 2 = .ok (.aload_n 0, 1) := by decide +kernel
theorem dL_node_3 : decode cL_node 3 = .ok (.iload_n 1, 1) := by decide +kernel
theorem dL_node_4 : decode cL_node 4 = .ok (.iload_n 2, 1) := by decide +kernel
theorem dL_node_5 : decode cL_node 5 = .ok (.invokevirtual 35, 3) := by decide +kernel
theorem dL_node_8 : decode cL_node 8 = .ok (.i2l, 1) := by decide +kernel
theorem dL_node_9 : decode cL_node 9 = .ok (.lastore, 1) := by decide +kernel
theorem dL_node_10 : decode cL_node 10 = .ok (.goto 11, 3) := by decide +kernel
theorem dL_node_13 : decode cL_node 13 = .ok (.astore 4, 2) := by decide +kernel
theorem dL_node_15 : decode cL_node 15 = .ok (.iconst 1, 1) := by decide +kernel
theorem dL_node_16 : decode cL_node 16 = .ok (.ireturn, 1) := by decide +kernel
theorem dL_node_17 : decode cL_node 17 = .ok (.astore 4, 2) := by decide +kernel
theorem dL_node_19 : decode cL_node 19 = .ok (.iconst 2, 1) := by decide +kernel
theorem dL_node_20 : decode cL_node 20 = .ok (.ireturn, 1) := by decide +kernel
theorem dL_node_21 : decode cL_node 21 = .ok (.iconst 0, 1) := by decide +kernel
theorem dL_node_22 : decode cL_node 22 = .ok (.ireturn, 1) := by decide +kernel
set_option maxRecDepth 20000 in
theorem ggL_typeOf_X4_typeOf : GoodIn wsL_typeOf wsX4_typeOf := goodIn_ca (goodIn_r _ [6, 7, 8, 9, 10, 5, 11, 12, 13, 14, 15, 16, 17, 18, 19, 20, 21, 22, 23, 24, 25, 26, 27, 28, 29, 30, 31, 32, 33, 34] (by decide +kernel) (by decide +kernel)) (goodIn_sub (fun _ h => List.mem_cons_of_mem _ (List.mem_append_right _ h)) (by decide +kernel))
set_option maxRecDepth 20000 in
theorem gL_typeOf_X4_typeOf : GoodIn wsL_typeOf (wsV RL 39 RX4 yX4_typeOf wsX4_typeOf) := goodIn_app (goodIn_of _ (by decide +kernel)) ggL_typeOf_X4_typeOf
theorem dL_typeOf_0 : decode cL_typeOf 0 = .ok (.aload_n 2, 1) := by decide +kernel
theorem dL_typeOf_1 : decode cL_typeOf 1 = .ok (.iconst 0, 1) := by decide +kernel
theorem dL_typeOf_2 : decode cL_typeOf 2 = .ok (.aload_n 0, 1) := by decide +kernel
theorem dL_typeOf_3 : decode cL_typeOf 3 = .ok (.iload_n 1, 1) := by decide +kernel
theorem dL_typeOf_4 : decode cL_typeOf 4 = .ok (.invokevirtual 39, 3) := by decide +kernel
theorem dL_typeOf_7 : decode cL_typeOf 7 = .ok (.i2l, 1) := by decide +kernel
theorem dL_typeOf_8 : decode cL_typeOf 8 = .ok (.lastore, 1) := by decide +kernel
theorem dL_typeOf_9 : decode cL_typeOf 9 = .ok (.goto 6, 3) := by decide +kernel
theorem dL_typeOf_12 : decode cL_typeOf 12 = .ok (.astore_n 3, 1) := by decide +kernel
theorem dL_typeOf_13 : decode cL_typeOf 13 = .ok (.iconst 1, 1) := by decide +kernel
theorem dL_typeOf_14 : decode cL_typeOf 14 = .ok (.ireturn, 1) := by decide +kernel
theorem dL_typeOf_15 : decode cL_typeOf 15 = .ok (.iconst 0, 1) := by decide +kernel
theorem dL_typeOf_16 : decode cL_typeOf 16 = .ok (.ireturn, 1) := by decide +kernel
set_option maxRecDepth 20000 in
theorem ggL_hops_X4_hops : GoodIn wsL_hops wsX4_hops := goodIn_ca (goodIn_r _ [6, 7, 8, 9, 10, 5, 11, 12, 13, 14, 15, 16, 17, 18, 19, 20, 21, 22, 23, 24, 25, 26, 27, 28, 29, 30, 31, 32, 33, 34, 35, 36, 37, 38, 39, 40, 41, 42, 43, 44, 45, 46, 47, 48, 49, 50, 51, 52, 53, 54, 55, 56, 57, 58, 59, 60, 61, 62, 63, 64, 65, 66, 67, 68, 69, 70, 71, 72, 73, 74, 75, 76, 77, 78, 79, 80, 81, 82, 83, 84, 85, 86, 87, 88, 89, 90, 91, 92, 93, 94, 95, 96, 97, 98, 99, 100, 101, 102, 103, 104, 105, 106, 107, 108, 109, 110, 111, 112, 113, 114, 115, 116, 117, 118, 119, 120, 121, 122, 123] (by decide +kernel) (by decide +kernel)) (goodIn_sub (fun _ h => List.mem_cons_of_mem _ (List.mem_append_right _ h)) (by decide +kernel))
set_option maxRecDepth 20000 in
theorem gL_hops_X4_hops : GoodIn wsL_hops (wsV RL 42 RX4 yX4_hops wsX4_hops) := goodIn_app (goodIn_of _ (by decide +kernel)) ggL_hops_X4_hops
theorem dL_hops_0 : decode cL_hops 0 = .ok (.aload_n 1, 1) := by decide +kernel
theorem dL_hops_1 : decode cL_hops 1 = .ok (.iconst 0, 1) := by decide +kernel
theorem dL_hops_2 : decode cL_hops 2 = .ok (.aload_n 0, 1) := by decide +kernel
theorem dL_hops_3 : decode cL_hops 3 = .ok (.invokevirtual 42, 3) := by decide +kernel
theorem dL_hops_6 : decode cL_hops 6 = .ok (.i2l, 1) := by decide +kernel
theorem dL_hops_7 : decode cL_hops 7 = .ok (.lastore, 1) := by decide +kernel
theorem dL_hops_8 : decode cL_hops 8 = .ok (.goto 6, 3) := by decide +kernel
theorem dL_hops_11 : decode cL_hops 11 = .ok (.astore_n 2, 1) := by decide +kernel
theorem dL_hops_12 : decode cL_hops 12 = .ok (.iconst 1, 1) := by decide +kernel
theorem dL_hops_13 : decode cL_hops 13 = .ok (.ireturn, 1) := by decide +kernel
theorem dL_hops_14 : decode cL_hops 14 = .ok (.iconst 0, 1) := by decide +kernel
theorem dL_hops_15 : decode cL_hops 15 = .ok (.ireturn, 1) := by decide +kernel
set_option maxRecDepth 20000 in
theorem ggL_takenFrom_X4_takenFrom : GoodIn wsL_takenFrom wsX4_takenFrom := goodIn_ca (goodIn_ca (goodIn_r _ [7, 8, 9, 10, 11, 6, 12, 13, 14, 15, 16, 17, 18, 19, 20, 21, 22, 23, 24, 25, 26, 27, 28, 29, 30, 31, 32, 33, 34, 35, 36, 37, 38, 39, 40, 41, 42, 43, 44, 45, 46, 47, 48, 49, 50, 51, 52, 53, 54, 55, 56, 57, 58, 59, 60, 61, 62, 63, 64, 65, 66, 67, 68, 69, 70, 71, 72, 73, 74, 75, 76, 77, 78, 79, 80, 81, 82, 83, 84, 85, 86, 87, 88, 89, 90, 91, 92, 93, 94, 95, 96, 97, 98, 99, 100, 101, 102, 103, 104, 105, 106, 107, 108, 109, 110, 111, 112, 113, 114, 115, 116, 117, 118, 119, 120, 121, 122, 123, 124, 125, 126, 127, 128, 129] (by decide +kernel) (by decide +kernel)) (goodIn_sub (fun _ h => List.mem_cons_of_mem _ (List.mem_append_left _ (List.mem_append_right _ h))) (by decide +kernel))) (goodIn_sub (fun _ h => List.mem_cons_of_mem _ (List.mem_append_right _ h)) (by decide +kernel))
set_option maxRecDepth 20000 in
theorem gL_takenFrom_X4_takenFrom : GoodIn wsL_takenFrom (wsV RL 46 RX4 yX4_takenFrom wsX4_takenFrom) := goodIn_app (goodIn_of _ (by decide +kernel)) ggL_takenFrom_X4_takenFrom
theorem dL_takenFrom_0 : decode cL_takenFrom 0 = .ok (.aload_n 2, 1) := by decide +kernel
theorem dL_takenFrom_1 : decode cL_takenFrom 1 = .ok (.iconst 0, 1) := by decide +kernel
theorem dL_takenFrom_2 : decode cL_takenFrom 2 = .ok (.aload_n 0, 1) := by decide +kernel
theorem dL_takenFrom_3 : decode cL_takenFrom 3 = .ok (.iload_n 1, 1) := by decide +kernel
theorem dL_takenFrom_4 : decode cL_takenFrom 4 = .ok (.invokevirtual 46, 3) := by decide +kernel
theorem dL_takenFrom_7 : decode cL_takenFrom 7 = .ok (.i2l, 1) := by decide +kernel
theorem dL_takenFrom_8 : decode cL_takenFrom 8 = .ok (.lastore, 1) := by decide +kernel
theorem dL_takenFrom_9 : decode cL_takenFrom 9 = .ok (.goto 9, 3) := by decide +kernel
theorem dL_takenFrom_12 : decode cL_takenFrom 12 = .ok (.astore_n 3, 1) := by decide +kernel
theorem dL_takenFrom_13 : decode cL_takenFrom 13 = .ok (.iconst 1, 1) := by decide +kernel
theorem dL_takenFrom_14 : decode cL_takenFrom 14 = .ok (.ireturn, 1) := by decide +kernel
theorem dL_takenFrom_15 : decode cL_takenFrom 15 = .ok (.astore_n 3, 1) := by decide +kernel
theorem dL_takenFrom_16 : decode cL_takenFrom 16 = .ok (.iconst 2, 1) := by decide +kernel
theorem dL_takenFrom_17 : decode cL_takenFrom 17 = .ok (.ireturn, 1) := by decide +kernel
theorem dL_takenFrom_18 : decode cL_takenFrom 18 = .ok (.iconst 0, 1) := by decide +kernel
theorem dL_takenFrom_19 : decode cL_takenFrom 19 = .ok (.ireturn, 1) := by decide +kernel
set_option maxRecDepth 20000 in
theorem ggL_used_X4_used : GoodIn wsL_used wsX4_used := goodIn_ca (goodIn_r _ [6, 7, 8, 9, 10, 11, 5, 12, 13, 14, 15, 16, 17, 18, 19, 20, 21, 22, 23, 24, 25, 26, 27, 28, 29, 30, 31, 32, 33, 34, 35, 36, 37, 38, 39, 40, 41, 42, 43, 44, 45, 46, 47, 48, 49, 50, 51, 52, 53, 54, 55, 56, 57, 58, 59, 60, 61, 62, 63, 64, 65, 66, 67, 68, 69, 70, 71, 72, 73, 74, 75, 76, 77, 78, 79, 80, 81, 82, 83, 84, 85, 86, 87, 88, 89, 90, 91, 92, 93, 94, 95, 96, 97, 98, 99, 100, 101, 102, 103, 104, 105, 106, 107, 108, 109, 110, 111, 112, 113, 114, 115, 116, 117, 118, 119, 120, 121, 122, 123] (by decide +kernel) (by decide +kernel)) (goodIn_sub (fun _ h => List.mem_cons_of_mem _ (List.mem_append_right _ h)) (by decide +kernel))
set_option maxRecDepth 20000 in
theorem gL_used_X4_used : GoodIn wsL_used (wsV RL 49 RX4 yX4_used wsX4_used) := goodIn_app (goodIn_of _ (by decide +kernel)) ggL_used_X4_used
theorem dL_used_0 : decode cL_used 0 = .ok (.aload_n 1, 1) := by decide +kernel
theorem dL_used_1 : decode cL_used 1 = .ok (.iconst 0, 1) := by decide +kernel
theorem dL_used_2 : decode cL_used 2 = .ok (.aload_n 0, 1) := by decide +kernel
theorem dL_used_3 : decode cL_used 3 = .ok (.invokevirtual 49, 3) := by decide +kernel
theorem dL_used_6 : decode cL_used 6 = .ok (.i2l, 1) := by decide +kernel
theorem dL_used_7 : decode cL_used 7 = .ok (.lastore, 1) := by decide +kernel
theorem dL_used_8 : decode cL_used 8 = .ok (.goto 6, 3) := by decide +kernel
theorem dL_used_11 : decode cL_used 11 = .ok (.astore_n 2, 1) := by decide +kernel
theorem dL_used_12 : decode cL_used 12 = .ok (.iconst 1, 1) := by decide +kernel
theorem dL_used_13 : decode cL_used 13 = .ok (.ireturn, 1) := by decide +kernel
theorem dL_used_14 : decode cL_used 14 = .ok (.iconst 0, 1) := by decide +kernel
theorem dL_used_15 : decode cL_used 15 = .ok (.ireturn, 1) := by decide +kernel
set_option maxRecDepth 20000 in
theorem ggL_value_X4_value : GoodIn wsL_value wsX4_value := goodIn_ca (goodIn_ca (goodIn_ca (goodIn_r _ [8, 9, 10, 11, 12, 7, 13, 14, 15, 16, 17, 18, 19, 20, 21, 22, 23, 24, 25, 26, 27, 28, 29, 30, 31, 32, 33, 34, 35, 36, 37, 38, 39, 40, 41, 42, 43, 44, 45, 46, 47, 48, 49, 50, 51, 52, 53, 54, 55, 56, 57, 58, 59, 60, 61, 62, 63, 64, 65, 66, 67, 68, 69, 70, 71, 72, 73, 74, 75, 76, 77, 78, 79, 80, 81, 82, 83, 84, 85, 86, 87, 88, 89, 90, 91, 92, 93, 94, 95, 96, 97, 98, 99, 100, 101, 102, 103, 104, 105, 106, 107, 108, 109, 110, 111, 112, 113, 114, 115, 116, 117, 118, 119, 120, 121, 122, 123, 124, 125, 126, 127, 128, 129, 130, 131, 132, 133, 134, 135, 136, 137, 138, 139, 140, 141, 142, 143, 144, 145, 146, 147, 148, 149, 150, 151, 152, 153, 154, 155, 156, 157, 158, 159, 160, 161, 162, 163, 164, 165, 166, 167, 168, 169, 170, 171, 172, 173, 174, 175, 176, 177, 178, 179, 180, 181, 182, 183, 184, 185, 186, 187, 188, 189, 190, 191, 192, 193, 194, 195] (by decide +kernel) (by decide +kernel)) (goodIn_sub (fun _ h => List.mem_cons_of_mem _ (List.mem_append_left _ (List.mem_append_left _ (List.mem_append_right _ h)))) (by decide +kernel))) (goodIn_sub (fun _ h => List.mem_cons_of_mem _ (List.mem_append_left _ (List.mem_append_right _ h))) (by decide +kernel))) (goodIn_sub (fun _ h => List.mem_cons_of_mem _ (List.mem_append_right _ h)) (by decide +kernel))
set_option maxRecDepth 20000 in
theorem gL_value_X4_value : GoodIn wsL_value (wsV RL 52 RX4 yX4_value wsX4_value) := goodIn_app (goodIn_of _ (by decide +kernel)) ggL_value_X4_value
theorem dL_value_0 : decode cL_value 0 = .ok (.aload_n 3, 1) := by decide +kernel
theorem dL_value_1 : decode cL_value 1 = .ok (.iconst 0, 1) := by decide +kernel
theorem dL_value_2 : decode cL_value 2 = .ok (.aload_n 0, 1) := by decide +kernel
theorem dL_value_3 : decode cL_value 3 = .ok (.iload_n 1, 1) := by decide +kernel
theorem dL_value_4 : decode cL_value 4 = .ok (.iload_n 2, 1) := by decide +kernel
theorem dL_value_5 : decode cL_value 5 = .ok (.invokevirtual 52, 3) := by decide +kernel
theorem dL_value_8 : decode cL_value 8 = .ok (.i2l, 1) := by decide +kernel
theorem dL_value_9 : decode cL_value 9 = .ok (.lastore, 1) := by decide +kernel
theorem dL_value_10 : decode cL_value 10 = .ok (.goto 15, 3) := by decide +kernel
theorem dL_value_13 : decode cL_value 13 = .ok (.astore 4, 2) := by decide +kernel
theorem dL_value_15 : decode cL_value 15 = .ok (.iconst 1, 1) := by decide +kernel
theorem dL_value_16 : decode cL_value 16 = .ok (.ireturn, 1) := by decide +kernel
theorem dL_value_17 : decode cL_value 17 = .ok (.astore 4, 2) := by decide +kernel
theorem dL_value_19 : decode cL_value 19 = .ok (.iconst 2, 1) := by decide +kernel
theorem dL_value_20 : decode cL_value 20 = .ok (.ireturn, 1) := by decide +kernel
theorem dL_value_21 : decode cL_value 21 = .ok (.astore 4, 2) := by decide +kernel
theorem dL_value_23 : decode cL_value 23 = .ok (.iconst 3, 1) := by decide +kernel
theorem dL_value_24 : decode cL_value 24 = .ok (.ireturn, 1) := by decide +kernel
theorem dL_value_25 : decode cL_value 25 = .ok (.iconst 0, 1) := by decide +kernel
theorem dL_value_26 : decode cL_value 26 = .ok (.ireturn, 1) := by decide +kernel
set_option maxRecDepth 20000 in
theorem ggL_isMissing_X4_isMissing : GoodIn wsL_isMissing wsX4_isMissing := goodIn_ca (goodIn_ca (goodIn_r _ [7, 8, 9, 10, 11, 6, 12, 13, 14, 15, 16, 17, 18, 19, 20, 21, 22, 23, 24, 25, 26, 27, 28, 29, 30, 31, 32, 33, 34, 35, 36, 37, 38, 39, 40, 41, 42, 43, 44, 45, 46, 47, 48, 49, 50, 51, 52, 53, 54, 55, 56, 57, 58, 59, 60, 61, 62, 63, 64, 65, 66, 67, 68, 69, 70, 71, 72, 73, 74, 75, 76, 77, 78, 79, 80, 81, 82, 83, 84, 85, 86, 87, 88, 89, 90, 91, 92, 93, 94, 95, 96, 97, 98, 99, 100, 101, 102, 103, 104, 105, 106, 107, 108, 109, 110, 111, 112, 113, 114, 115, 116, 117, 118, 119, 120, 121, 122, 123, 124, 125, 126, 127, 128, 129, 130, 131, 132, 133, 134, 135, 136, 137, 138, 139, 140, 141, 142, 143, 144, 145, 146, 147, 148, 149, 150, 151, 152, 153, 154, 155, 156, 157, 158, 159, 160, 161, 162, 163, 164, 165, 166, 167, 168, 169, 170, 171, 172, 173, 174, 175, 176, 177, 178, 179, 180, 181, 182, 183, 184, 185, 186] (by decide +kernel) (by decide +kernel)) (goodIn_sub (fun _ h => List.mem_cons_of_mem _ (List.mem_append_left _ (List.mem_append_right _ h))) (by decide +kernel))) (goodIn_sub (fun _ h => List.mem_cons_of_mem _ (List.mem_append_right _ h)) (by decide +kernel))
set_option maxRecDepth 20000 in
theorem gL_isMissing_X4_isMissing : GoodIn wsL_isMissing (wsV RL 55 RX4 yX4_isMissing wsX4_isMissing) := goodIn_app (goodIn_of _ (by decide +kernel)) ggL_isMissing_X4_isMissing
theorem dL_isMissing_0 : decode cL_isMissing 0 = .ok (.aload_n 2, 1) := by decide +kernel
theorem dL_isMissing_1 : decode cL_isMissing 1 = .ok (.iconst 0, 1) := by decide +kernel
theorem dL_isMissing_2 : decode cL_isMissing 2 = .ok (.aload_n 0, 1) := by decide +kernel
theorem dL_isMissing_3 : decode cL_isMissing 3 = .ok (.iload_n 1, 1) := by decide +kernel
theorem dL_isMissing_4 : decode cL_isMissing 4 = .ok (.invokevirtual 55, 3) := by decide +kernel
theorem dL_isMissing_7 : decode cL_isMissing 7 = .ok (.ifCond .eq 7, 3) := by decide +kernel
theorem dL_isMissing_10 : decode cL_isMissing 10 = .ok (.lconst 1, 1) := by decide +kernel
theorem dL_isMissing_11 : decode cL_isMissing 11 = .ok (.goto 4, 3) := by decide +kernel
theorem dL_isMissing_14 : decode cL_isMissing 14 = .ok (.lconst 0, 1) := by decide +kernel
theorem dL_isMissing_15 : decode cL_isMissing 15 = .ok (.lastore, 1) := by decide +kernel
theorem dL_isMissing_16 : decode cL_isMissing 16 = .ok (.goto 9, 3) := by decide +kernel
theorem dL_isMissing_19 : decode cL_isMissing 19 = .ok (.astore_n 3, 1) := by decide +kernel
theorem dL_isMissing_20 : decode cL_isMissing 20 = .ok (.iconst 1, 1) := by decide +kernel
theorem dL_isMissing_21 : decode cL_isMissing 21 = .ok (.ireturn, 1) := by decide +kernel
theorem dL_isMissing_22 : decode cL_isMissing 22 = .ok (.astore_n 3, 1) := by decide +kernel
theorem dL_isMissing_23 : decode cL_isMissing 23 = .ok (.iconst 2, 1) := by decide +kernel
theorem dL_isMissing_24 : decode cL_isMissing 24 = .ok (.ireturn, 1) := by decide +kernel
theorem dL_isMissing_25 : decode cL_isMissing 25 = .ok (.iconst 0, 1) := by decide +kernel
theorem dL_isMissing_26 : decode cL_isMissing 26 = .ok (.ireturn, 1) := by decide +kernel
set_option maxRecDepth 20000 in
theorem ggL_faults_X4_faults : GoodIn wsL_faults wsX4_faults := goodIn_ca (goodIn_ca (goodIn_r _ [7, 8, 9, 10, 11, 6, 12, 13, 14, 15, 16, 17, 18, 19, 20, 21, 22, 23, 24, 25, 26, 27, 28, 29, 30, 31, 32, 33, 34, 35, 36, 37, 38, 39, 40, 41, 42, 43, 44, 45, 46, 47, 48, 49, 50, 51, 52, 53, 54, 55, 56, 57, 58, 59, 60, 61, 62, 63, 64, 65, 66, 67, 68, 69, 70, 71, 72, 73, 74, 75, 76, 77, 78, 79, 80, 81, 82, 83, 84, 85, 86, 87, 88, 89, 90, 91, 92, 93, 94, 95, 96, 97, 98, 99, 100, 101, 102, 103, 104, 105, 106, 107, 108, 109, 110, 111, 112, 113, 114, 115, 116, 117, 118, 119, 120, 121, 122, 123, 124, 125, 126, 127, 128, 129, 130, 131, 132, 133, 134, 135, 136, 137, 138, 139, 140, 141, 142, 143, 144, 145, 146, 147, 148, 149, 150, 151, 152, 153, 154, 155, 156, 157, 158, 159, 160, 161, 162, 163, 164, 165, 166, 167, 168, 169, 170, 171, 172, 173, 174, 175, 176, 177, 178, 179, 180, 181, 182, 183, 184, 185, 186] (by decide +kernel) (by decide +kernel)) (goodIn_sub (fun _ h => List.mem_cons_of_mem _ (List.mem_append_left _ (List.mem_append_right _ h))) (by decide +kernel))) (goodIn_sub (fun _ h => List.mem_cons_of_mem _ (List.mem_append_right _ h)) (by decide +kernel))
set_option maxRecDepth 20000 in
theorem gL_faults_X4_faults : GoodIn wsL_faults (wsV RL 59 RX4 yX4_faults wsX4_faults) := goodIn_app (goodIn_of _ (by decide +kernel)) ggL_faults_X4_faults
theorem dL_faults_0 : decode cL_faults 0 = .ok (.aload_n 2, 1) := by decide +kernel
theorem dL_faults_1 : decode cL_faults 1 = .ok (.iconst 0, 1) := by decide +kernel
theorem dL_faults_2 : decode cL_faults 2 = .ok (.aload_n 0, 1) := by decide +kernel
theorem dL_faults_3 : decode cL_faults 3 = .ok (.iload_n 1, 1) := by decide +kernel
theorem dL_faults_4 : decode cL_faults 4 = .ok (.invokevirtual 59, 3) := by decide +kernel
theorem dL_faults_7 : decode cL_faults 7 = .ok (.i2l, 1) := by decide +kernel
theorem dL_faults_8 : decode cL_faults 8 = .ok (.lastore, 1) := by decide +kernel
theorem dL_faults_9 : decode cL_faults 9 = .ok (.goto 9, 3) := by decide +kernel
theorem dL_faults_12 : decode cL_faults 12 = .ok (.astore_n 3, 1) := by decide +kernel
theorem dL_faults_13 : decode cL_faults 13 = .ok (.iconst 1, 1) := by decide +kernel
theorem dL_faults_14 : decode cL_faults 14 = .ok (.ireturn, 1) := by decide +kernel
theorem dL_faults_15 : decode cL_faults 15 = .ok (.astore_n 3, 1) := by decide +kernel
theorem dL_faults_16 : decode cL_faults 16 = .ok (.iconst 2, 1) := by decide +kernel
theorem dL_faults_17 : decode cL_faults 17 = .ok (.ireturn, 1) := by decide +kernel
theorem dL_faults_18 : decode cL_faults 18 = .ok (.iconst 0, 1) := by decide +kernel
theorem dL_faults_19 : decode cL_faults 19 = .ok (.ireturn, 1) := by decide +kernel
set_option maxRecDepth 20000 in
theorem ggL_loaded_X4_loaded : GoodIn wsL_loaded wsX4_loaded := goodIn_ca (goodIn_ca (goodIn_ca (goodIn_r _ [8, 9, 10, 11, 12, 13, 14, 15, 16, 7, 17, 18, 19, 20, 21, 22, 23, 24, 25, 26, 27, 28, 29, 30, 31, 32, 33, 34, 35, 36, 37, 38, 39, 40, 41, 42, 43, 44, 45, 46, 47, 48, 49, 50, 51, 52, 53, 54, 55, 56, 57, 58, 59, 60, 61, 62, 63, 64, 65, 66, 67, 68, 69, 70, 71, 72, 73, 74, 75, 76, 77, 78, 79, 80, 81, 82, 83, 84, 85, 86, 87, 88, 89, 90, 91, 92, 93, 94, 95, 96, 97, 98, 99, 100, 101, 102, 103, 104, 105, 106, 107, 108, 109, 110, 111, 112, 113, 114, 115, 116, 117, 118, 119, 120, 121, 122, 123, 124, 125, 126, 127, 128, 129, 130, 131, 132, 133, 134, 135, 136, 137, 138, 139, 140, 141, 142, 143, 144, 145, 146, 147, 148, 149, 150, 151, 152, 153, 154, 155, 156, 157, 158, 159, 160, 161, 162, 163, 164, 165, 166, 167, 168, 169, 170, 171, 172, 173, 174, 175, 176, 177, 178, 179, 180, 181, 182, 183, 184, 185, 186, 187, 188, 189, 190, 191, 192, 193, 194, 195, 196, 197, 198, 199, 200, 201, 202, 203, 204, 205, 206, 207, 208, 209, 210, 211, 212] (by decide +kernel) (by decide +kernel)) (goodIn_sub (fun _ h => List.mem_cons_of_mem _ (List.mem_append_left _ (List.mem_append_left _ (List.mem_append_right _ h)))) (by decide +kernel))) (goodIn_sub (fun _ h => List.mem_cons_of_mem _ (List.mem_append_left _ (List.mem_append_right _ h))) (by decide +kernel))) (goodIn_sub (fun _ h => List.mem_cons_of_mem _ (List.mem_append_right _ h)) (by decide +kernel))
set_option maxRecDepth 20000 in
theorem gL_loaded_X4_loaded : GoodIn wsL_loaded (wsV RL 62 RX4 yX4_loaded wsX4_loaded) := goodIn_app (goodIn_of _ (by decide +kernel)) ggL_loaded_X4_loaded
theorem dL_loaded_0 : decode cL_loaded 0 = .ok (.aload 4, 2) := by decide +kernel
theorem dL_loaded_2 : decode cL_loaded 2 = .ok (.iconst 0, 1) := by decide +kernel
theorem dL_loaded_3 : decode cL_loaded 3 = .ok (.aload_n 0, 1) := by decide +kernel
theorem dL_loaded_4 : decode cL_loaded 4 = .ok (.iload_n 1, 1) := by decide +kernel
theorem dL_loaded_5 : decode cL_loaded 5 = .ok (.iload_n 2, 1) := by decide +kernel
theorem dL_loaded_6 : decode cL_loaded 6 = .ok (.iload_n 3, 1) := by decide +kernel
theorem dL_loaded_7 : decode cL_loaded 7 = .ok (.invokevirtual 62, 3) := by decide +kernel
theorem dL_loaded_10 : decode cL_loaded 10 = .ok (.i2l, 1) := by decide +kernel
theorem dL_loaded_11 : decode cL_loaded 11 = .ok (.lastore, 1) := by decide +kernel
theorem dL_loaded_12 : decode cL_loaded 12 = .ok (.goto 15, 3) := by decide +kernel
theorem dL_loaded_15 : decode cL_loaded 15 = .ok (.astore 5, 2) := by decide +kernel
theorem dL_loaded_17 : decode cL_loaded 17 = .ok (.iconst 1, 1) := by decide +kernel
theorem dL_loaded_18 : decode cL_loaded 18 = .ok (.ireturn, 1) := by decide +kernel
theorem dL_loaded_19 : decode cL_loaded 19 = .ok (.astore 5, 2) := by decide +kernel
theorem dL_loaded_21 : decode cL_loaded 21 = .ok (.iconst 2, 1) := by decide +kernel
theorem dL_loaded_22 : decode cL_loaded 22 = .ok (.ireturn, 1) := by decide +kernel
theorem dL_loaded_23 : decode cL_loaded 23 = .ok (.astore 5, 2) := by decide +kernel
theorem dL_loaded_25 : decode cL_loaded 25 = .ok (.iconst 3, 1) := by decide +kernel
theorem dL_loaded_26 : decode cL_loaded 26 = .ok (.ireturn, 1) := by decide +kernel
theorem dL_loaded_27 : decode cL_loaded 27 = .ok (.iconst 0, 1) := by decide +kernel
theorem dL_loaded_28 : decode cL_loaded 28 = .ok (.ireturn, 1) := by decide +kernel
set_option maxRecDepth 20000 in
theorem ggL_harmed_X4_harmed : GoodIn wsL_harmed wsX4_harmed := goodIn_ca (goodIn_r _ [6, 7, 8, 9, 10, 11, 12, 5, 13, 14, 15, 16, 17, 18, 19, 20, 21, 22, 23, 24, 25, 26, 27, 28, 29, 30, 31, 32, 33, 34, 35, 36, 37, 38, 39, 40, 41, 42, 43, 44, 45, 46, 47, 48, 49, 50, 51, 52, 53, 54, 55, 56, 57, 58, 59, 60, 61, 62, 63, 64, 65, 66, 67, 68, 69, 70, 71, 72, 73, 74, 75, 76, 77, 78, 79, 80, 81, 82, 83, 84, 85, 86, 87, 88, 89, 90, 91, 92, 93, 94, 95, 96, 97, 98, 99, 100, 101, 102, 103, 104, 105, 106, 107, 108, 109, 110, 111, 112, 113, 114, 115, 116, 117, 118, 119, 120, 121, 122, 123, 124, 125, 126, 127, 128, 129, 130, 131, 132, 133, 134, 135, 136, 137, 138, 139, 140, 141, 142, 143, 144, 145, 146, 147, 148, 149, 150, 151, 152, 153, 154, 155, 156, 157, 158, 159, 160, 161, 162, 163, 164, 165, 166, 167, 168, 169, 170, 171, 172, 173, 174, 175, 176, 177, 178, 179, 180, 181, 182, 183, 184, 185, 186, 187, 188] (by decide +kernel) (by decide +kernel)) (goodIn_sub (fun _ h => List.mem_cons_of_mem _ (List.mem_append_right _ h)) (by decide +kernel))
set_option maxRecDepth 20000 in
theorem gL_harmed_X4_harmed : GoodIn wsL_harmed (wsV RL 66 RX4 yX4_harmed wsX4_harmed) := goodIn_app (goodIn_of _ (by decide +kernel)) ggL_harmed_X4_harmed
theorem dL_harmed_0 : decode cL_harmed 0 = .ok (.aload_n 1, 1) := by decide +kernel
theorem dL_harmed_1 : decode cL_harmed 1 = .ok (.iconst 0, 1) := by decide +kernel
theorem dL_harmed_2 : decode cL_harmed 2 = .ok (.aload_n 0, 1) := by decide +kernel
theorem dL_harmed_3 : decode cL_harmed 3 = .ok (.invokevirtual 66, 3) := by decide +kernel
theorem dL_harmed_6 : decode cL_harmed 6 = .ok (.i2l, 1) := by decide +kernel
theorem dL_harmed_7 : decode cL_harmed 7 = .ok (.lastore, 1) := by decide +kernel
theorem dL_harmed_8 : decode cL_harmed 8 = .ok (.goto 6, 3) := by decide +kernel
theorem dL_harmed_11 : decode cL_harmed 11 = .ok (.astore_n 2, 1) := by decide +kernel
theorem dL_harmed_12 : decode cL_harmed 12 = .ok (.iconst 1, 1) := by decide +kernel
theorem dL_harmed_13 : decode cL_harmed 13 = .ok (.ireturn, 1) := by decide +kernel
theorem dL_harmed_14 : decode cL_harmed 14 = .ok (.iconst 0, 1) := by decide +kernel
theorem dL_harmed_15 : decode cL_harmed 15 = .ok (.ireturn, 1) := by decide +kernel
set_option maxRecDepth 20000 in
theorem ggL_least_X4_least : GoodIn wsL_least wsX4_least := goodIn_ca (goodIn_ca (goodIn_ca (goodIn_r _ [8, 9, 10, 11, 12, 13, 14, 15, 7, 16, 17, 18, 19, 20, 21, 22, 23, 24, 25, 26, 27, 28, 29, 30, 31, 32, 33, 34, 35, 36, 37, 38, 39, 40, 41, 42, 43, 44, 45, 46, 47, 48, 49, 50, 51, 52, 53, 54, 55, 56, 57, 58, 59, 60, 61, 62, 63, 64, 65, 66, 67, 68, 69, 70, 71, 72, 73, 74, 75, 76, 77, 78, 79, 80, 81, 82, 83, 84, 85, 86, 87, 88, 89, 90, 91, 92, 93, 94, 95, 96, 97, 98, 99, 100, 101, 102, 103, 104, 105, 106, 107, 108, 109, 110, 111, 112, 113, 114, 115, 116, 117, 118, 119, 120, 121, 122, 123, 124, 125, 126, 127, 128, 129, 130, 131, 132, 133, 134, 135, 136, 137, 138, 139, 140, 141, 142, 143, 144, 145, 146, 147, 148, 149, 150, 151, 152, 153, 154, 155, 156, 157, 158, 159, 160, 161, 162, 163, 164, 165, 166, 167, 168, 169, 170, 171, 172, 173, 174, 175, 176, 177, 178, 179, 180, 181, 182, 183, 184, 185, 186, 187, 188, 189, 190, 191] (by decide +kernel) (by decide +kernel)) (goodIn_sub (fun _ h => List.mem_cons_of_mem _ (List.mem_append_left _ (List.mem_append_left _ (List.mem_append_right _ h)))) (by decide +kernel))) (goodIn_sub (fun _ h => List.mem_cons_of_mem _ (List.mem_append_left _ (List.mem_append_right _ h))) (by decide +kernel))) (goodIn_sub (fun _ h => List.mem_cons_of_mem _ (List.mem_append_right _ h)) (by decide +kernel))
set_option maxRecDepth 20000 in
theorem gL_least_X4_least : GoodIn wsL_least (wsV RL 69 RX4 yX4_least wsX4_least) := goodIn_app (goodIn_of _ (by decide +kernel)) ggL_least_X4_least
theorem dL_least_0 : decode cL_least 0 = .ok (.aload_n 2, 1) := by decide +kernel
theorem dL_least_1 : decode cL_least 1 = .ok (.iconst 0, 1) := by decide +kernel
theorem dL_least_2 : decode cL_least 2 = .ok (.aload_n 0, 1) := by decide +kernel
theorem dL_least_3 : decode cL_least 3 = .ok (.iload_n 1, 1) := by decide +kernel
theorem dL_least_4 : decode cL_least 4 = .ok (.invokevirtual 69, 3) := by decide +kernel
theorem dL_least_7 : decode cL_least 7 = .ok (.i2l, 1) := by decide +kernel
theorem dL_least_8 : decode cL_least 8 = .ok (.lastore, 1) := by decide +kernel
theorem dL_least_9 : decode cL_least 9 = .ok (.goto 12, 3) := by decide +kernel
theorem dL_least_12 : decode cL_least 12 = .ok (.astore_n 3, 1) := by decide +kernel
theorem dL_least_13 : decode cL_least 13 = .ok (.iconst 1, 1) := by decide +kernel
theorem dL_least_14 : decode cL_least 14 = .ok (.ireturn, 1) := by decide +kernel
theorem dL_least_15 : decode cL_least 15 = .ok (.astore_n 3, 1) := by decide +kernel
theorem dL_least_16 : decode cL_least 16 = .ok (.iconst 2, 1) := by decide +kernel
theorem dL_least_17 : decode cL_least 17 = .ok (.ireturn, 1) := by decide +kernel
theorem dL_least_18 : decode cL_least 18 = .ok (.astore_n 3, 1) := by decide +kernel
theorem dL_least_19 : decode cL_least 19 = .ok (.iconst 3, 1) := by decide +kernel
theorem dL_least_20 : decode cL_least 20 = .ok (.ireturn, 1) := by decide +kernel
theorem dL_least_21 : decode cL_least 21 = .ok (.iconst 0, 1) := by decide +kernel
theorem dL_least_22 : decode cL_least 22 = .ok (.ireturn, 1) := by decide +kernel
set_option maxRecDepth 20000 in
theorem ggL_law_X4_init : GoodIn wsL_law wsX4_init := goodIn_r _ [9, 10, 11, 12, 13, 14, 15, 16, 17, 18, 19, 20, 21, 22, 23, 24, 25, 26, 27, 28, 29, 30, 31, 32, 33, 34, 35, 36, 37, 38, 39, 40, 41, 42, 43, 44, 45, 46, 47, 48, 49, 50, 51, 52, 53, 54, 55, 56, 57, 58, 59, 60, 61, 62, 63, 64, 65, 66, 67, 68, 69, 70, 600, 601, 602, 603, 604, 605, 606, 607, 608, 609, 610, 611, 612, 613, 614, 615, 616, 617, 618, 619, 575, 576, 577, 578, 579, 620, 621, 622, 623, 624, 625, 626] (by decide +kernel) (by decide +kernel)
set_option maxRecDepth 20000 in
theorem gL_law_X4_init : GoodIn wsL_law (wsX4_init) := ggL_law_X4_init
set_option maxRecDepth 20000 in
theorem ggL_law_X5_init : GoodIn wsL_law wsX5_init := goodIn_r _ [73, 74, 11, 12, 34, 75, 76, 37, 77, 78, 79, 80, 81, 82, 83, 84, 85, 86, 87, 88, 89, 580, 581, 582, 583, 584, 585, 586, 587, 588, 589, 590, 591, 592, 593, 594, 595, 596, 597, 598, 599] (by decide +kernel) (by decide +kernel)
set_option maxRecDepth 20000 in
theorem gL_law_X5_init : GoodIn wsL_law (wsX5_init) := ggL_law_X5_init
set_option maxRecDepth 20000 in
theorem ggL_law_L_addField : GoodIn wsL_law wsL_addField := goodIn_ca (goodIn_ca (goodIn_r _ [93, 94, 95, 96, 97, 98, 2, 99, 100, 101, 102, 103, 22, 104, 105, 106, 107, 108, 109, 110, 111, 112, 15, 113, 35, 114, 115, 116, 117, 36, 38, 118, 119, 120, 121, 122, 575, 576, 577, 578, 579, 600, 601, 602, 603, 604, 605] (by decide +kernel) (by decide +kernel)) (goodIn_sub (fun _ h => List.mem_append_left _ (List.mem_append_left _ (List.mem_append_left _ (List.mem_append_right _ h)))) (by decide +kernel))) (goodIn_sub (fun _ h => List.mem_append_left _ (List.mem_append_left _ (List.mem_append_right _ h))) (by decide +kernel))
set_option maxRecDepth 20000 in
theorem gL_law_L_addField : GoodIn wsL_law (va_wsS RL 78 yL_addField wsL_addField) := goodIn_app (goodIn_of _ (by decide +kernel)) ggL_law_L_addField
set_option maxRecDepth 20000 in
theorem ggL_law_X5_addField : GoodIn wsL_law wsX5_addField := goodIn_r _ [126, 75, 127, 76, 77, 128, 129, 5, 130, 131, 132, 133, 580, 581, 582, 583, 584, 585, 586, 587, 588, 589, 590, 591, 592, 593, 594, 595, 596, 597, 598, 599] (by decide +kernel) (by decide +kernel)
set_option maxRecDepth 20000 in
theorem gL_law_X5_addField : GoodIn wsL_law (wsV RL 83 RX5 yX5_addField wsX5_addField) := goodIn_app (goodIn_of _ (by decide +kernel)) ggL_law_X5_addField
set_option maxRecDepth 20000 in
theorem ggL_law_X5_thrown : GoodIn wsL_law wsX5_thrown := goodIn_r _ [137, 127, 580, 581, 582, 583, 584, 585, 586, 587, 588, 589, 590, 591, 592, 593, 594, 595, 596, 597, 598, 599] (by decide +kernel) (by decide +kernel)
set_option maxRecDepth 20000 in
theorem gL_law_X5_thrown : GoodIn wsL_law (wsV RL 84 RX5 yX5_thrown wsX5_thrown) := goodIn_app (goodIn_of _ (by decide +kernel)) ggL_law_X5_thrown
set_option maxRecDepth 20000 in
theorem ggL_law_L_own : GoodIn wsL_law wsL_own := goodIn_ca (goodIn_ca (goodIn_r _ [140, 94, 141, 142, 143, 144, 2, 145, 24, 22, 146, 147, 148, 100, 101, 149, 150, 151, 104, 105, 106, 107, 108, 109, 152, 153, 154, 155, 156, 157, 110, 111, 112, 15, 113, 35, 158, 159, 160, 21, 161, 162, 163, 119, 120, 164, 165, 166, 167, 39, 121, 122, 168, 169, 575, 576, 577, 578, 579, 600, 601, 602, 603, 604, 605, 610, 611, 612, 613, 614, 615, 616, 617, 618, 619] (by decide +kernel) (by decide +kernel)) (goodIn_sub (fun _ h => List.mem_append_left _ (List.mem_append_left _ (List.mem_append_left _ (List.mem_append_right _ h)))) (by decide +kernel))) (goodIn_sub (fun _ h => List.mem_append_left _ (List.mem_append_right _ h)) (by decide +kernel))
set_option maxRecDepth 20000 in
theorem gL_law_L_own : GoodIn wsL_law (va_wsS RL 87 yL_own wsL_own) := goodIn_app (goodIn_of _ (by decide +kernel)) ggL_law_L_own
set_option maxRecDepth 20000 in
theorem ggL_law_X5_own : GoodIn wsL_law wsX5_own := goodIn_r _ [173, 127, 78, 174, 175, 5, 176, 131, 132, 133, 128, 129, 130, 177, 178, 179, 180, 75, 580, 581, 582, 583, 584, 585, 586, 587, 588, 589, 590, 591, 592, 593, 594, 595, 596, 597, 598, 599] (by decide +kernel) (by decide +kernel)
set_option maxRecDepth 20000 in
theorem gL_law_X5_own : GoodIn wsL_law (wsV RL 90 RX5 yX5_own wsX5_own) := goodIn_app (goodIn_of _ (by decide +kernel)) ggL_law_X5_own
set_option maxRecDepth 20000 in
theorem ggL_law_L_set : GoodIn wsL_law wsL_set := goodIn_ca (goodIn_ca (goodIn_r _ [183, 94, 141, 184, 185, 186, 2, 187, 100, 101, 22, 104, 105, 106, 107, 108, 109, 188, 189, 190, 191, 192, 193, 152, 153, 154, 155, 156, 157, 110, 111, 112, 15, 113, 35, 163, 119, 120, 194, 195, 196, 197, 198, 199, 200, 201, 36, 121, 122, 202, 203, 204, 205, 40, 206, 207, 208, 209, 575, 576, 577, 578, 579, 600, 601, 602, 603, 604, 605] (by decide +kernel) (by decide +kernel)) (goodIn_sub (fun _ h => List.mem_append_left _ (List.mem_append_left _ (List.mem_append_left _ (List.mem_append_right _ h)))) (by decide +kernel))) (goodIn_sub (fun _ h => List.mem_append_left _ (List.mem_append_right _ h)) (by decide +kernel))
set_option maxRecDepth 20000 in
theorem gL_law_L_set : GoodIn wsL_law (va_wsS RL 91 yL_set wsL_set) := goodIn_app (goodIn_of _ (by decide +kernel)) ggL_law_L_set
set_option maxRecDepth 20000 in
theorem ggL_law_X5_set : GoodIn wsL_law wsX5_set := goodIn_r _ [213, 127, 76, 79, 128, 129, 5, 130, 131, 132, 133, 214, 215, 216, 177, 178, 179, 180, 75, 580, 581, 582, 583, 584, 585, 586, 587, 588, 589, 590, 591, 592, 593, 594, 595, 596, 597, 598, 599] (by decide +kernel) (by decide +kernel)
set_option maxRecDepth 20000 in
theorem gL_law_X5_set : GoodIn wsL_law (wsV RL 94 RX5 yX5_set wsX5_set) := goodIn_app (goodIn_of _ (by decide +kernel)) ggL_law_X5_set
set_option maxRecDepth 20000 in
theorem ggL_law_L_fail : GoodIn wsL_law wsL_fail := goodIn_ca (goodIn_r _ [219, 94, 220, 221, 222, 2, 223, 22, 146, 147, 148, 100, 101, 149, 150, 151, 224, 225, 226, 15, 227, 228, 168, 169, 575, 576, 577, 578, 579, 600, 601, 602, 603, 604, 605] (by decide +kernel) (by decide +kernel)) (goodIn_sub (fun _ h => List.mem_append_left _ (List.mem_append_left _ (List.mem_append_left _ (List.mem_append_right _ h)))) (by decide +kernel))
set_option maxRecDepth 20000 in
theorem gL_law_L_fail : GoodIn wsL_law (va_wsS RL 95 yL_fail wsL_fail) := goodIn_app (goodIn_of _ (by decide +kernel)) ggL_law_L_fail
set_option maxRecDepth 20000 in
theorem ggL_law_X5_fail : GoodIn wsL_law wsX5_fail := goodIn_r _ [232, 127, 233, 174, 175, 5, 176, 131, 132, 133, 580, 581, 582, 583, 584, 585, 586, 587, 588, 589, 590, 591, 592, 593, 594, 595, 596, 597, 598, 599] (by decide +kernel) (by decide +kernel)
set_option maxRecDepth 20000 in
theorem gL_law_X5_fail : GoodIn wsL_law (wsV RL 98 RX5 yX5_fail wsX5_fail) := goodIn_app (goodIn_of _ (by decide +kernel)) ggL_law_X5_fail
set_option maxRecDepth 20000 in
theorem ggL_law_L_begin : GoodIn wsL_law wsL_begin := goodIn_ca (goodIn_r _ [236, 94, 237, 238, 239, 2, 240, 24, 23, 104, 105, 106, 100, 101, 107, 108, 109, 158, 159, 160, 21, 161, 162, 241, 242, 243, 18, 244, 245, 246, 575, 576, 577, 578, 579, 610, 611, 612, 613, 614, 615, 616, 617, 618, 619, 606, 607, 608, 609] (by decide +kernel) (by decide +kernel)) (goodIn_sub (fun _ h => List.mem_append_left _ (List.mem_append_left _ (List.mem_append_left _ (List.mem_append_right _ h)))) (by decide +kernel))
set_option maxRecDepth 20000 in
theorem gL_law_L_begin : GoodIn wsL_law (va_wsS RL 99 yL_begin wsL_begin) := goodIn_app (goodIn_of _ (by decide +kernel)) ggL_law_L_begin
set_option maxRecDepth 20000 in
theorem ggL_law_X5_begin : GoodIn wsL_law wsX5_begin := goodIn_r _ [250, 127, 251, 252, 128, 129, 5, 130, 131, 132, 133, 580, 581, 582, 583, 584, 585, 586, 587, 588, 589, 590, 591, 592, 593, 594, 595, 596, 597, 598, 599] (by decide +kernel) (by decide +kernel)
set_option maxRecDepth 20000 in
theorem gL_law_X5_begin : GoodIn wsL_law (wsV RL 102 RX5 yX5_begin wsX5_begin) := goodIn_app (goodIn_of _ (by decide +kernel)) ggL_law_X5_begin
set_option maxRecDepth 20000 in
theorem ggL_law_L_node : GoodIn wsL_law wsL_node := goodIn_ca (goodIn_ca (goodIn_r _ [255, 141, 95, 256, 257, 258, 2, 259, 102, 103, 23, 24, 260, 261, 262, 263, 156, 157, 264, 265, 266, 18, 267, 245, 268, 269, 270, 271, 22, 272, 273, 274, 275, 246, 276, 277, 278, 279, 50, 280, 281, 199, 200, 15, 201, 36, 121, 122, 152, 153, 154, 155, 110, 111, 112, 113, 35, 108, 109, 163, 119, 120, 282, 283, 284, 285, 286, 287, 288, 289, 49, 290, 158, 159, 160, 21, 161, 162, 291, 292, 293, 294, 575, 576, 577, 578, 579, 606, 607, 608, 609, 600, 601, 602, 603, 604, 605, 610, 611, 612, 613, 614, 615, 616, 617, 618, 619] (by decide +kernel) (by decide +kernel)) (goodIn_sub (fun _ h => List.mem_append_left _ (List.mem_append_left _ (List.mem_append_right _ h))) (by decide +kernel))) (goodIn_sub (fun _ h => List.mem_append_left _ (List.mem_append_right _ h)) (by decide +kernel))
set_option maxRecDepth 20000 in
theorem gL_law_L_node : GoodIn wsL_law (va_wsS RL 103 yL_node wsL_node) := goodIn_app (goodIn_of _ (by decide +kernel)) ggL_law_L_node
set_option maxRecDepth 20000 in
theorem ggL_law_X5_node : GoodIn wsL_law wsX5_node := goodIn_r _ [298, 127, 252, 76, 251, 80, 81, 82, 299, 300, 301, 5, 302, 131, 132, 133, 303, 304, 305, 306, 177, 178, 179, 180, 75, 580, 581, 582, 583, 584, 585, 586, 587, 588, 589, 590, 591, 592, 593, 594, 595, 596, 597, 598, 599] (by decide +kernel) (by decide +kernel)
set_option maxRecDepth 20000 in
theorem gL_law_X5_node : GoodIn wsL_law (wsV RL 106 RX5 yX5_node wsX5_node) := goodIn_app (goodIn_of _ (by decide +kernel)) ggL_law_X5_node
set_option maxRecDepth 20000 in
theorem ggL_law_X4_nodes : GoodIn wsL_law wsX4_nodes := goodIn_r _ [310, 23, 311, 312, 313, 18, 314, 245, 575, 576, 577, 578, 579, 606, 607, 608, 609] (by decide +kernel) (by decide +kernel)
set_option maxRecDepth 20000 in
theorem gL_law_X4_nodes : GoodIn wsL_law (wsV RL 107 RX4 yX4_nodes wsX4_nodes) := goodIn_app (goodIn_of _ (by decide +kernel)) ggL_law_X4_nodes
set_option maxRecDepth 20000 in
theorem ggL_law_X5_nodes : GoodIn wsL_law wsX5_nodes := goodIn_r _ [318, 127, 251, 580, 581, 582, 583, 584, 585, 586, 587, 588, 589, 590, 591, 592, 593, 594, 595, 596, 597, 598, 599] (by decide +kernel) (by decide +kernel)
set_option maxRecDepth 20000 in
theorem gL_law_X5_nodes : GoodIn wsL_law (wsV RL 110 RX5 yX5_nodes wsX5_nodes) := goodIn_app (goodIn_of _ (by decide +kernel)) ggL_law_X5_nodes
set_option maxRecDepth 20000 in
theorem ggL_law_L_typeOf : GoodIn wsL_law wsL_typeOf := goodIn_ca (goodIn_r _ [321, 141, 322, 323, 324, 2, 325, 23, 260, 261, 262, 263, 156, 157, 264, 265, 266, 18, 267, 245, 276, 277, 278, 279, 50, 280, 575, 576, 577, 578, 579, 606, 607, 608, 609] (by decide +kernel) (by decide +kernel)) (goodIn_sub (fun _ h => List.mem_append_left _ (List.mem_append_right _ h)) (by decide +kernel))
set_option maxRecDepth 20000 in
theorem gL_law_L_typeOf : GoodIn wsL_law (va_wsS RL 111 yL_typeOf wsL_typeOf) := goodIn_app (goodIn_of _ (by decide +kernel)) ggL_law_L_typeOf
set_option maxRecDepth 20000 in
theorem ggL_law_X5_typeOf : GoodIn wsL_law wsX5_typeOf := goodIn_r _ [329, 127, 82, 299, 300, 301, 5, 302, 251, 131, 132, 133, 580, 581, 582, 583, 584, 585, 586, 587, 588, 589, 590, 591, 592, 593, 594, 595, 596, 597, 598, 599] (by decide +kernel) (by decide +kernel)
set_option maxRecDepth 20000 in
theorem gL_law_X5_typeOf : GoodIn wsL_law (wsV RL 113 RX5 yX5_typeOf wsX5_typeOf) := goodIn_app (goodIn_of _ (by decide +kernel)) ggL_law_X5_typeOf
set_option maxRecDepth 20000 in
theorem ggL_law_L_hops : GoodIn wsL_law wsL_hops := goodIn_ca (goodIn_r _ [332, 95, 333, 334, 335, 2, 336, 24, 337, 338, 339, 340, 102, 103, 341, 342, 343, 21, 344, 162, 345, 346, 347, 348, 349, 350, 56, 351, 352, 353, 354, 355, 57, 58, 55, 356, 312, 313, 18, 314, 245, 357, 287, 288, 289, 49, 280, 265, 266, 267, 358, 277, 278, 279, 50, 359, 360, 361, 15, 362, 39, 121, 122, 363, 364, 365, 366, 59, 367, 368, 369, 370, 168, 169, 371, 372, 373, 374, 375, 376, 377, 378, 379, 380, 381, 382, 383, 384, 385, 60, 386, 387, 388, 389, 390, 391, 392, 393, 394, 575, 576, 577, 578, 579, 610, 611, 612, 613, 614, 615, 616, 617, 618, 619, 606, 607, 608, 609, 600, 601, 602, 603, 604, 605] (by decide +kernel) (by decide +kernel)) (goodIn_sub (fun _ h => List.mem_append_left _ (List.mem_append_left _ (List.mem_append_right _ h))) (by decide +kernel))
set_option maxRecDepth 20000 in
theorem gL_law_L_hops : GoodIn wsL_law (va_wsS RL 114 yL_hops wsL_hops) := goodIn_app (goodIn_of _ (by decide +kernel)) ggL_law_L_hops
set_option maxRecDepth 20000 in
theorem ggL_law_X5_hops : GoodIn wsL_law wsX5_hops := goodIn_r _ [398, 127, 399, 400, 401, 5, 402, 251, 83, 78, 303, 304, 305, 306, 82, 81, 403, 404, 405, 406, 84, 407, 408, 409, 410, 80, 411, 412, 413, 414, 415, 416, 417, 580, 581, 582, 583, 584, 585, 586, 587, 588, 589, 590, 591, 592, 593, 594, 595, 596, 597, 598, 599] (by decide +kernel) (by decide +kernel)
set_option maxRecDepth 20000 in
theorem gL_law_X5_hops : GoodIn wsL_law (wsV RL 117 RX5 yX5_hops wsX5_hops) := goodIn_app (goodIn_of _ (by decide +kernel)) ggL_law_X5_hops
set_option maxRecDepth 20000 in
theorem ggL_law_L_takenFrom : GoodIn wsL_law wsL_takenFrom := goodIn_ca (goodIn_ca (goodIn_r _ [420, 141, 95, 421, 422, 423, 2, 424, 24, 260, 261, 262, 263, 156, 157, 23, 264, 265, 266, 18, 267, 245, 337, 338, 339, 340, 102, 103, 341, 342, 343, 21, 344, 162, 345, 346, 347, 348, 349, 350, 56, 351, 352, 353, 354, 355, 57, 58, 55, 356, 312, 313, 314, 357, 287, 288, 289, 49, 280, 358, 277, 278, 279, 50, 359, 360, 361, 15, 362, 39, 121, 122, 363, 364, 365, 366, 59, 367, 368, 369, 370, 168, 169, 371, 372, 373, 374, 375, 376, 377, 378, 379, 380, 381, 382, 383, 384, 385, 60, 386, 387, 388, 389, 390, 425, 575, 576, 577, 578, 579, 606, 607, 608, 609, 610, 611, 612, 613, 614, 615, 616, 617, 618, 619, 600, 601, 602, 603, 604, 605] (by decide +kernel) (by decide +kernel)) (goodIn_sub (fun _ h => List.mem_append_left _ (List.mem_append_right _ h)) (by decide +kernel))) (goodIn_sub (fun _ h => List.mem_append_left _ (List.mem_append_left _ (List.mem_append_right _ h))) (by decide +kernel))
set_option maxRecDepth 20000 in
theorem gL_law_L_takenFrom : GoodIn wsL_law (va_wsS RL 118 yL_takenFrom wsL_takenFrom) := goodIn_app (goodIn_of _ (by decide +kernel)) ggL_law_L_takenFrom
set_option maxRecDepth 20000 in
theorem ggL_law_X5_takenFrom : GoodIn wsL_law wsX5_takenFrom := goodIn_r _ [429, 127, 85, 299, 300, 301, 5, 302, 251, 131, 132, 133, 399, 400, 401, 402, 83, 78, 303, 304, 305, 306, 82, 81, 430, 431, 432, 433, 403, 404, 405, 406, 84, 407, 408, 409, 410, 80, 411, 412, 413, 414, 415, 416, 417, 580, 581, 582, 583, 584, 585, 586, 587, 588, 589, 590, 591, 592, 593, 594, 595, 596, 597, 598, 599] (by decide +kernel) (by decide +kernel)
set_option maxRecDepth 20000 in
theorem gL_law_X5_takenFrom : GoodIn wsL_law (wsV RL 120 RX5 yX5_takenFrom wsX5_takenFrom) := goodIn_app (goodIn_of _ (by decide +kernel)) ggL_law_X5_takenFrom
set_option maxRecDepth 20000 in
theorem ggL_law_L_used : GoodIn wsL_law wsL_used := goodIn_ca (goodIn_r _ [436, 95, 437, 438, 439, 2, 440, 23, 24, 337, 338, 339, 340, 102, 103, 341, 342, 343, 21, 344, 162, 345, 346, 347, 348, 349, 350, 56, 351, 352, 353, 354, 355, 57, 58, 55, 356, 312, 313, 18, 314, 245, 357, 287, 288, 289, 49, 280, 265, 266, 267, 358, 277, 278, 279, 50, 359, 360, 361, 15, 362, 39, 121, 122, 363, 364, 365, 366, 59, 367, 368, 369, 370, 168, 169, 371, 372, 373, 374, 375, 376, 377, 378, 379, 380, 381, 382, 383, 384, 385, 60, 386, 387, 388, 389, 390, 311, 425, 441, 575, 576, 577, 578, 579, 610, 611, 612, 613, 614, 615, 616, 617, 618, 619, 606, 607, 608, 609, 600, 601, 602, 603, 604, 605] (by decide +kernel) (by decide +kernel)) (goodIn_sub (fun _ h => List.mem_append_left _ (List.mem_append_left _ (List.mem_append_right _ h))) (by decide +kernel))
set_option maxRecDepth 20000 in
theorem gL_law_L_used : GoodIn wsL_law (va_wsS RL 121 yL_used wsL_used) := goodIn_app (goodIn_of _ (by decide +kernel)) ggL_law_L_used
set_option maxRecDepth 20000 in
theorem ggL_law_X5_used : GoodIn wsL_law wsX5_used := goodIn_r _ [445, 127, 251, 85, 399, 400, 401, 5, 402, 83, 78, 303, 304, 305, 306, 82, 81, 430, 431, 432, 433, 403, 404, 405, 406, 84, 407, 408, 409, 410, 80, 411, 412, 413, 414, 415, 416, 417, 580, 581, 582, 583, 584, 585, 586, 587, 588, 589, 590, 591, 592, 593, 594, 595, 596, 597, 598, 599] (by decide +kernel) (by decide +kernel)
set_option maxRecDepth 20000 in
theorem gL_law_X5_used : GoodIn wsL_law (wsV RL 123 RX5 yX5_used wsX5_used) := goodIn_app (goodIn_of _ (by decide +kernel)) ggL_law_X5_used
set_option maxRecDepth 20000 in
theorem ggL_law_L_value : GoodIn wsL_law wsL_value := goodIn_ca (goodIn_ca (goodIn_ca (goodIn_r _ [448, 94, 141, 95, 449, 450, 451, 2, 452, 28, 22, 188, 189, 190, 100, 101, 191, 192, 193, 260, 261, 262, 263, 156, 157, 23, 264, 265, 266, 18, 267, 245, 337, 338, 339, 340, 102, 103, 24, 341, 342, 343, 21, 344, 162, 345, 346, 347, 348, 349, 350, 56, 351, 352, 353, 354, 355, 57, 58, 55, 356, 312, 313, 314, 357, 287, 288, 289, 49, 280, 358, 277, 278, 279, 50, 359, 360, 361, 15, 362, 39, 121, 122, 363, 364, 365, 366, 59, 367, 368, 369, 370, 168, 169, 371, 372, 373, 374, 375, 376, 377, 378, 379, 380, 381, 382, 383, 384, 385, 60, 386, 387, 388, 389, 390, 453, 454, 455, 456, 228, 457, 458, 459, 27, 460, 461, 462, 463, 464, 66, 69, 67, 68, 65, 70, 465, 466, 467, 468, 469, 470, 207, 208, 209, 40, 471, 472, 473, 474, 475, 476, 477, 478, 479, 480, 38, 481, 482, 483, 484, 485, 486, 487, 488, 575, 576, 577, 578, 579, 606, 607, 608, 609, 610, 611, 612, 613, 614, 615, 616, 617, 618, 619, 600, 601, 602, 603, 604, 605, 620, 621, 622, 623, 624, 625, 626] (by decide +kernel) (by decide +kernel)) (goodIn_sub (fun _ h => List.mem_append_left _ (List.mem_append_left _ (List.mem_append_left _ (List.mem_append_right _ h)))) (by decide +kernel))) (goodIn_sub (fun _ h => List.mem_append_left _ (List.mem_append_right _ h)) (by decide +kernel))) (goodIn_sub (fun _ h => List.mem_append_left _ (List.mem_append_left _ (List.mem_append_right _ h))) (by decide +kernel))
set_option maxRecDepth 20000 in
theorem gL_law_L_value : GoodIn wsL_law (va_wsS RL 124 yL_value wsL_value) := goodIn_app (goodIn_of _ (by decide +kernel)) ggL_law_L_value
set_option maxRecDepth 20000 in
theorem ggL_law_X5_value : GoodIn wsL_law wsX5_value := goodIn_r _ [492, 127, 233, 88, 214, 215, 5, 216, 131, 132, 133, 299, 300, 301, 302, 251, 399, 400, 401, 402, 83, 78, 303, 304, 305, 306, 82, 81, 430, 431, 432, 433, 85, 403, 404, 405, 406, 84, 407, 408, 409, 410, 80, 411, 412, 413, 414, 415, 416, 417, 493, 494, 495, 496, 86, 79, 87, 497, 77, 498, 499, 500, 501, 580, 581, 582, 583, 584, 585, 586, 587, 588, 589, 590, 591, 592, 593, 594, 595, 596, 597, 598, 599] (by decide +kernel) (by decide +kernel)
set_option maxRecDepth 20000 in
theorem gL_law_X5_value : GoodIn wsL_law (wsV RL 126 RX5 yX5_value wsX5_value) := goodIn_app (goodIn_of _ (by decide +kernel)) ggL_law_X5_value
set_option maxRecDepth 20000 in
theorem ggL_law_L_isMissing : GoodIn wsL_law wsL_isMissing := goodIn_ca (goodIn_ca (goodIn_r _ [504, 94, 95, 505, 506, 507, 2, 508, 28, 22, 188, 189, 190, 100, 101, 191, 192, 193, 337, 338, 339, 340, 102, 103, 24, 341, 342, 343, 21, 344, 162, 345, 346, 347, 348, 349, 350, 56, 351, 352, 353, 354, 355, 57, 58, 55, 356, 312, 313, 18, 314, 245, 357, 287, 288, 289, 49, 280, 265, 266, 267, 358, 277, 278, 279, 50, 359, 360, 361, 15, 362, 39, 121, 122, 363, 364, 365, 366, 59, 367, 368, 369, 370, 168, 169, 371, 372, 373, 374, 375, 376, 377, 378, 379, 380, 381, 382, 383, 384, 385, 60, 386, 387, 388, 389, 390, 453, 454, 455, 456, 228, 457, 458, 459, 27, 460, 461, 462, 463, 464, 66, 69, 67, 68, 65, 70, 465, 466, 467, 468, 469, 470, 207, 208, 209, 40, 471, 472, 473, 474, 475, 476, 477, 478, 479, 480, 38, 481, 482, 483, 484, 509, 510, 511, 512, 575, 576, 577, 578, 579, 610, 611, 612, 613, 614, 615, 616, 617, 618, 619, 606, 607, 608, 609, 600, 601, 602, 603, 604, 605, 620, 621, 622, 623, 624, 625, 626] (by decide +kernel) (by decide +kernel)) (goodIn_sub (fun _ h => List.mem_append_left _ (List.mem_append_left _ (List.mem_append_left _ (List.mem_append_right _ h)))) (by decide +kernel))) (goodIn_sub (fun _ h => List.mem_append_left _ (List.mem_append_left _ (List.mem_append_right _ h))) (by decide +kernel))
set_option maxRecDepth 20000 in
theorem gL_law_L_isMissing : GoodIn wsL_law (va_wsS RL 127 yL_isMissing wsL_isMissing) := goodIn_app (goodIn_of _ (by decide +kernel)) ggL_law_L_isMissing
set_option maxRecDepth 20000 in
theorem ggL_law_X5_isMissing : GoodIn wsL_law wsX5_isMissing := goodIn_r _ [516, 127, 233, 497, 214, 215, 5, 216, 131, 132, 133, 399, 400, 401, 402, 251, 83, 78, 303, 304, 305, 306, 82, 81, 430, 431, 432, 433, 85, 403, 404, 405, 406, 84, 407, 408, 409, 410, 80, 411, 412, 413, 414, 415, 416, 417, 493, 494, 495, 496, 86, 79, 87, 77, 88, 498, 499, 500, 501, 580, 581, 582, 583, 584, 585, 586, 587, 588, 589, 590, 591, 592, 593, 594, 595, 596, 597, 598, 599] (by decide +kernel) (by decide +kernel)
set_option maxRecDepth 20000 in
theorem gL_law_X5_isMissing : GoodIn wsL_law (wsV RL 129 RX5 yX5_isMissing wsX5_isMissing) := goodIn_app (goodIn_of _ (by decide +kernel)) ggL_law_X5_isMissing
set_option maxRecDepth 20000 in
theorem ggL_law_L_faults : GoodIn wsL_law wsL_faults := goodIn_ca (goodIn_ca (goodIn_r _ [519, 94, 95, 520, 521, 522, 2, 523, 28, 22, 188, 189, 190, 100, 101, 191, 192, 193, 337, 338, 339, 340, 102, 103, 24, 341, 342, 343, 21, 344, 162, 345, 346, 347, 348, 349, 350, 56, 351, 352, 353, 354, 355, 57, 58, 55, 356, 312, 313, 18, 314, 245, 357, 287, 288, 289, 49, 280, 265, 266, 267, 358, 277, 278, 279, 50, 359, 360, 361, 15, 362, 39, 121, 122, 363, 364, 365, 366, 59, 367, 368, 369, 370, 168, 169, 371, 372, 373, 374, 375, 376, 377, 378, 379, 380, 381, 382, 383, 384, 385, 60, 386, 387, 388, 389, 390, 453, 454, 455, 456, 228, 457, 458, 459, 27, 460, 461, 462, 463, 464, 66, 69, 67, 68, 65, 70, 465, 466, 467, 468, 469, 470, 207, 208, 209, 40, 471, 472, 473, 474, 475, 476, 477, 478, 479, 480, 38, 481, 482, 483, 484, 524, 525, 526, 527, 575, 576, 577, 578, 579, 610, 611, 612, 613, 614, 615, 616, 617, 618, 619, 606, 607, 608, 609, 600, 601, 602, 603, 604, 605, 620, 621, 622, 623, 624, 625, 626] (by decide +kernel) (by decide +kernel)) (goodIn_sub (fun _ h => List.mem_append_left _ (List.mem_append_left _ (List.mem_append_left _ (List.mem_append_right _ h)))) (by decide +kernel))) (goodIn_sub (fun _ h => List.mem_append_left _ (List.mem_append_left _ (List.mem_append_right _ h))) (by decide +kernel))
set_option maxRecDepth 20000 in
theorem gL_law_L_faults : GoodIn wsL_law (va_wsS RL 130 yL_faults wsL_faults) := goodIn_app (goodIn_of _ (by decide +kernel)) ggL_law_L_faults
set_option maxRecDepth 20000 in
theorem ggL_law_X5_faults : GoodIn wsL_law wsX5_faults := goodIn_r _ [531, 127, 233, 251, 86, 214, 215, 5, 216, 131, 132, 133, 399, 400, 401, 402, 83, 78, 303, 304, 305, 306, 82, 81, 430, 431, 432, 433, 85, 403, 404, 405, 406, 84, 407, 408, 409, 410, 80, 411, 412, 413, 414, 415, 416, 417, 493, 494, 495, 496, 79, 87, 497, 77, 88, 498, 499, 500, 501, 580, 581, 582, 583, 584, 585, 586, 587, 588, 589, 590, 591, 592, 593, 594, 595, 596, 597, 598, 599] (by decide +kernel) (by decide +kernel)
set_option maxRecDepth 20000 in
theorem gL_law_X5_faults : GoodIn wsL_law (wsV RL 132 RX5 yX5_faults wsX5_faults) := goodIn_app (goodIn_of _ (by decide +kernel)) ggL_law_X5_faults
set_option maxRecDepth 20000 in
theorem ggL_law_L_loaded : GoodIn wsL_law wsL_loaded := goodIn_ca (goodIn_ca (goodIn_ca (goodIn_r _ [534, 94, 141, 95, 535, 536, 537, 2, 538, 100, 101, 102, 103, 28, 22, 188, 189, 190, 191, 192, 193, 260, 261, 262, 263, 156, 157, 23, 264, 265, 266, 18, 267, 245, 268, 269, 270, 271, 272, 273, 274, 275, 246, 276, 277, 278, 279, 50, 280, 281, 199, 200, 15, 201, 36, 121, 122, 337, 338, 339, 340, 24, 341, 342, 343, 21, 344, 162, 345, 346, 347, 348, 349, 350, 56, 351, 352, 353, 354, 355, 57, 58, 55, 356, 312, 313, 314, 357, 287, 288, 289, 49, 358, 359, 360, 361, 362, 39, 363, 364, 365, 366, 59, 367, 368, 369, 370, 168, 169, 371, 372, 373, 374, 375, 376, 377, 378, 379, 380, 381, 382, 383, 384, 385, 60, 386, 387, 388, 389, 390, 453, 454, 455, 456, 228, 457, 458, 459, 27, 460, 461, 462, 463, 464, 66, 69, 67, 68, 65, 70, 465, 466, 467, 468, 469, 470, 207, 208, 209, 40, 471, 472, 473, 474, 475, 476, 477, 478, 479, 480, 38, 481, 482, 483, 484, 485, 486, 487, 488, 441, 539, 575, 576, 577, 578, 579, 606, 607, 608, 609, 600, 601, 602, 603, 604, 605, 610, 611, 612, 613, 614, 615, 616, 617, 618, 619, 620, 621, 622, 623, 624, 625, 626] (by decide +kernel) (by decide +kernel)) (goodIn_sub (fun _ h => List.mem_append_left _ (List.mem_append_left _ (List.mem_append_left _ (List.mem_append_right _ h)))) (by decide +kernel))) (goodIn_sub (fun _ h => List.mem_append_left _ (List.mem_append_left _ (List.mem_append_right _ h))) (by decide +kernel))) (goodIn_sub (fun _ h => List.mem_append_left _ (List.mem_append_right _ h)) (by decide +kernel))
set_option maxRecDepth 20000 in
theorem gL_law_L_loaded : GoodIn wsL_law (va_wsS RL 133 yL_loaded wsL_loaded) := goodIn_app (goodIn_of _ (by decide +kernel)) ggL_law_L_loaded
set_option maxRecDepth 20000 in
theorem ggL_law_X5_loaded : GoodIn wsL_law wsX5_loaded := goodIn_r _ [543, 127, 76, 233, 88, 214, 215, 5, 216, 131, 132, 133, 299, 300, 301, 302, 251, 303, 304, 305, 306, 82, 81, 399, 400, 401, 402, 83, 78, 430, 431, 432, 433, 85, 403, 404, 405, 406, 84, 407, 408, 409, 410, 80, 411, 412, 413, 414, 415, 416, 417, 493, 494, 495, 496, 86, 79, 87, 497, 77, 498, 499, 500, 501, 580, 581, 582, 583, 584, 585, 586, 587, 588, 589, 590, 591, 592, 593, 594, 595, 596, 597, 598, 599] (by decide +kernel) (by decide +kernel)
set_option maxRecDepth 20000 in
theorem gL_law_X5_loaded : GoodIn wsL_law (wsV RL 136 RX5 yX5_loaded wsX5_loaded) := goodIn_app (goodIn_of _ (by decide +kernel)) ggL_law_X5_loaded
set_option maxRecDepth 20000 in
theorem ggL_law_L_harmed : GoodIn wsL_law wsL_harmed := goodIn_ca (goodIn_r _ [546, 95, 547, 548, 549, 2, 550, 28, 22, 29, 337, 338, 339, 340, 102, 103, 24, 341, 342, 343, 21, 344, 162, 345, 346, 347, 348, 349, 350, 56, 351, 352, 353, 354, 355, 57, 58, 55, 356, 312, 313, 18, 314, 245, 357, 287, 288, 289, 49, 280, 265, 266, 267, 358, 277, 278, 279, 50, 359, 360, 361, 15, 362, 39, 121, 122, 363, 364, 365, 366, 59, 367, 368, 369, 370, 168, 169, 371, 372, 373, 374, 375, 376, 377, 378, 379, 380, 381, 382, 383, 384, 385, 60, 386, 387, 388, 389, 390, 453, 454, 455, 456, 228, 457, 458, 459, 27, 460, 461, 462, 463, 464, 66, 69, 67, 68, 65, 70, 465, 466, 467, 468, 469, 470, 207, 208, 209, 40, 192, 193, 471, 472, 473, 474, 475, 476, 477, 478, 479, 480, 38, 481, 482, 483, 484, 551, 552, 553, 554, 555, 510, 511, 512, 556, 486, 487, 488, 575, 576, 577, 578, 579, 610, 611, 612, 613, 614, 615, 616, 617, 618, 619, 606, 607, 608, 609, 600, 601, 602, 603, 604, 605, 620, 621, 622, 623, 624, 625, 626] (by decide +kernel) (by decide +kernel)) (goodIn_sub (fun _ h => List.mem_append_left _ (List.mem_append_left _ (List.mem_append_right _ h))) (by decide +kernel))
set_option maxRecDepth 20000 in
theorem gL_law_L_harmed : GoodIn wsL_law (va_wsS RL 137 yL_harmed wsL_harmed) := goodIn_app (goodIn_of _ (by decide +kernel)) ggL_law_L_harmed
set_option maxRecDepth 20000 in
theorem ggL_law_X5_harmed : GoodIn wsL_law wsX5_harmed := goodIn_r _ [560, 127, 497, 251, 89, 88, 233, 399, 400, 401, 5, 402, 83, 78, 303, 304, 305, 306, 82, 81, 430, 431, 432, 433, 85, 403, 404, 405, 406, 84, 407, 408, 409, 410, 80, 411, 412, 413, 414, 415, 416, 417, 493, 494, 495, 496, 86, 79, 87, 77, 498, 499, 500, 501, 580, 581, 582, 583, 584, 585, 586, 587, 588, 589, 590, 591, 592, 593, 594, 595, 596, 597, 598, 599] (by decide +kernel) (by decide +kernel)
set_option maxRecDepth 20000 in
theorem gL_law_X5_harmed : GoodIn wsL_law (wsV RL 139 RX5 yX5_harmed wsX5_harmed) := goodIn_app (goodIn_of _ (by decide +kernel)) ggL_law_X5_harmed
set_option maxRecDepth 20000 in
theorem ggL_law_L_least : GoodIn wsL_law wsL_least := goodIn_ca (goodIn_ca (goodIn_ca (goodIn_r _ [563, 141, 95, 564, 565, 566, 567, 2, 568, 569, 570, 28, 22, 260, 261, 262, 263, 156, 157, 23, 264, 265, 266, 18, 267, 245, 337, 338, 339, 340, 102, 103, 24, 341, 342, 343, 21, 344, 162, 345, 346, 347, 348, 349, 350, 56, 351, 352, 353, 354, 355, 57, 58, 55, 356, 312, 313, 314, 357, 287, 288, 289, 49, 280, 358, 277, 278, 279, 50, 359, 360, 361, 15, 362, 39, 121, 122, 363, 364, 365, 366, 59, 367, 368, 369, 370, 168, 169, 371, 372, 373, 374, 375, 376, 377, 378, 379, 380, 381, 382, 383, 384, 385, 60, 386, 387, 388, 389, 390, 453, 454, 455, 456, 228, 457, 458, 459, 27, 460, 461, 462, 463, 464, 66, 69, 67, 68, 65, 70, 465, 466, 467, 468, 469, 470, 207, 208, 209, 40, 192, 193, 471, 472, 473, 474, 475, 476, 477, 478, 479, 480, 38, 481, 482, 483, 484, 485, 486, 487, 488, 575, 576, 577, 578, 579, 606, 607, 608, 609, 610, 611, 612, 613, 614, 615, 616, 617, 618, 619, 600, 601, 602, 603, 604, 605, 620, 621, 622, 623, 624, 625, 626] (by decide +kernel) (by decide +kernel)) (goodIn_sub (fun _ h => List.mem_append_right _ h) (by decide +kernel))) (goodIn_sub (fun _ h => List.mem_append_left _ (List.mem_append_right _ h)) (by decide +kernel))) (goodIn_sub (fun _ h => List.mem_append_left _ (List.mem_append_left _ (List.mem_append_right _ h))) (by decide +kernel))
set_option maxRecDepth 20000 in
theorem gL_law_L_least : GoodIn wsL_law (va_wsS RL 140 yL_least wsL_least) := goodIn_app (goodIn_of _ (by decide +kernel)) ggL_law_L_least
set_option maxRecDepth 20000 in
theorem ggL_law_X5_least : GoodIn wsL_law wsX5_least := goodIn_r _ [574, 127, 233, 88, 299, 300, 301, 5, 302, 251, 131, 132, 133, 399, 400, 401, 402, 83, 78, 303, 304, 305, 306, 82, 81, 430, 431, 432, 433, 85, 403, 404, 405, 406, 84, 407, 408, 409, 410, 80, 411, 412, 413, 414, 415, 416, 417, 493, 494, 495, 496, 86, 79, 87, 497, 77, 498, 499, 500, 501, 580, 581, 582, 583, 584, 585, 586, 587, 588, 589, 590, 591, 592, 593, 594, 595, 596, 597, 598, 599] (by decide +kernel) (by decide +kernel)
set_option maxRecDepth 20000 in
theorem gL_law_X5_least : GoodIn wsL_law (wsV RL 142 RX5 yX5_least wsX5_least) := goodIn_app (goodIn_of _ (by decide +kernel)) ggL_law_X5_least
theorem dL_law_0 : decode cL_law 0 = .ok (.new 8, 3) := by decide +kernel
theorem dL_law_3 : decode cL_law 3 = .ok (.dup, 1) := by decide +kernel
theorem dL_law_4 : decode cL_law 4 = .ok (.invokespecial 74, 3) := by decide +kernel
theorem dL_law_7 : decode cL_law 7 = .ok (.astore_n 1, 1) := by decide +kernel
theorem dL_law_8 : decode cL_law 8 = .ok (.new 75, 3) := by decide +kernel
theorem dL_law_11 : decode cL_law 11 = .ok (.dup, 1) := by decide +kernel
theorem dL_law_12 : decode cL_law 12 = .ok (.invokespecial 77, 3) := by decide +kernel
theorem dL_law_15 : decode cL_law 15 = .ok (.astore_n 2, 1) := by decide +kernel
theorem dL_law_16 : decode cL_law 16 = .ok (.iconst 1, 1) := by decide +kernel
theorem dL_law_17 : decode cL_law 17 = .ok (.newarray .long, 2) := by decide +kernel
theorem dL_law_19 : decode cL_law 19 = .ok (.astore_n 3, 1) := by decide +kernel
theorem dL_law_20 : decode cL_law 20 = .ok (.iconst 0, 1) := by decide +kernel
theorem dL_law_21 : decode cL_law 21 = .ok (.istore 4, 2) := by decide +kernel
theorem dL_law_23 : decode cL_law 23 = .ok (.iload 4, 2) := by decide +kernel
theorem dL_law_25 : decode cL_law 25 = .ok (.aload_n 0, 1) := by decide +kernel
theorem dL_law_26 : decode cL_law 26 = .ok (.arraylength, 1) := by decide +kernel
theorem dL_law_27 : decode cL_law 27 = .ok (.iconst 5, 1) := by decide +kernel
theorem dL_law_28 : decode cL_law 28 = .ok (.isub, 1) := by decide +kernel
theorem dL_law_29 : decode cL_law 29 = .ok (.if_icmp .gt 1195, 3) := by decide +kernel
theorem dL_law_32 : decode cL_law 32 = .ok (.aload_n 0, 1) := by decide +kernel
theorem dL_law_33 : decode cL_law 33 = .ok (.iload 4, 2) := by decide +kernel
theorem dL_law_35 : decode cL_law 35 = .ok (.iaload, 1) := by decide +kernel
theorem dL_law_36 : decode cL_law 36 = .ok (.bipush 31, 2) := by decide +kernel
theorem dL_law_38 : decode cL_law 38 = .ok (.iand, 1) := by decide +kernel
theorem dL_law_39 : decode cL_law 39 = .ok (.tableswitch 1179 0 16 #[81, 177, 292, 384, 475, 531, 599, 612, 668, 712, 768, 812, 880, 943, 999, 1079, 1123], 81) := by decide +kernel
theorem dL_law_120 : decode cL_law 120 = .ok (.aload_n 1, 1) := by decide +kernel
theorem dL_law_121 : decode cL_law 121 = .ok (.aload_n 0, 1) := by decide +kernel
theorem dL_law_122 : decode cL_law 122 = .ok (.iload 4, 2) := by decide +kernel
theorem dL_law_124 : decode cL_law 124 = .ok (.iconst 1, 1) := by decide +kernel
theorem dL_law_125 : decode cL_law 125 = .ok (.iadd, 1) := by decide +kernel
theorem dL_law_126 : decode cL_law 126 = .ok (.iaload, 1) := by decide +kernel
theorem dL_law_127 : decode cL_law 127 = .ok (.aload_n 0, 1) := by decide +kernel
theorem dL_law_128 : decode cL_law 128 = .ok (.iload 4, 2) := by decide +kernel
theorem dL_law_130 : decode cL_law 130 = .ok (.iconst 2, 1) := by decide +kernel
theorem dL_law_131 : decode cL_law 131 = .ok (.iadd, 1) := by decide +kernel
theorem dL_law_132 : decode cL_law 132 = .ok (.iaload, 1) := by decide +kernel
theorem dL_law_133 : decode cL_law 133 = .ok (.aload_n 0, 1) := by decide +kernel
theorem dL_law_134 : decode cL_law 134 = .ok (.iload 4, 2) := by decide +kernel
theorem dL_law_136 : decode cL_law 136 = .ok (.iconst 3, 1) := by decide +kernel
theorem dL_law_137 : decode cL_law 137 = .ok (.iadd, 1) := by decide +kernel
theorem dL_law_138 : decode cL_law 138 = .ok (.iaload, 1) := by decide +kernel
theorem dL_law_139 : decode cL_law 139 = .ok (.ifCond .eq 7, 3) := by decide +kernel
theorem dL_law_142 : decode cL_law 142 = .ok (.iconst 1, 1) := by decide +kernel
theorem dL_law_143 : decode cL_law 143 = .ok (.goto 4, 3) := by decide +kernel
theorem dL_law_146 : decode cL_law 146 = .ok (.iconst 0, 1) := by decide +kernel
theorem dL_law_147 : decode cL_law 147 = .ok (.aload_n 3, 1) := by decide +kernel
theorem dL_law_148 : decode cL_law 148 = .ok (.invokestatic 78, 3) := by decide +kernel
theorem dL_law_151 : decode cL_law 151 = .ok (.istore 5, 2) := by decide +kernel
theorem dL_law_153 : decode cL_law 153 = .ok (.aload_n 2, 1) := by decide +kernel
theorem dL_law_154 : decode cL_law 154 = .ok (.aload_n 0, 1) := by decide +kernel
theorem dL_law_155 : decode cL_law 155 = .ok (.iload 4, 2) := by decide +kernel
theorem dL_law_157 : decode cL_law 157 = .ok (.iconst 1, 1) := by decide +kernel
theorem dL_law_158 : decode cL_law 158 = .ok (.iadd, 1) := by decide +kernel
theorem dL_law_159 : decode cL_law 159 = .ok (.iaload, 1) := by decide +kernel
theorem dL_law_160 : decode cL_law 160 = .ok (.aload_n 0, 1) := by decide +kernel
theorem dL_law_161 : decode cL_law 161 = .ok (.iload 4, 2) := by decide +kernel
theorem dL_law_163 : decode cL_law 163 = .ok (.iconst 2, 1) := by decide +kernel
theorem dL_law_164 : decode cL_law 164 = .ok (.iadd, 1) := by decide +kernel
theorem dL_law_165 : decode cL_law 165 = .ok (.iaload, 1) := by decide +kernel
theorem dL_law_166 : decode cL_law 166 = .ok (.aload_n 0, 1) := by decide +kernel
theorem dL_law_167 : decode cL_law 167 = .ok (.iload 4, 2) := by decide +kernel
theorem dL_law_169 : decode cL_law 169 = .ok (.iconst 3, 1) := by decide +kernel
theorem dL_law_170 : decode cL_law 170 = .ok (.iadd, 1) := by decide +kernel
theorem dL_law_171 : decode cL_law 171 = .ok (.iaload, 1) := by decide +kernel
theorem dL_law_172 : decode cL_law 172 = .ok (.ifCond .eq 7, 3) := by decide +kernel
theorem dL_law_175 : decode cL_law 175 = .ok (.iconst 1, 1) := by decide +kernel
theorem dL_law_176 : decode cL_law 176 = .ok (.goto 4, 3) := by decide +kernel
theorem dL_law_179 : decode cL_law 179 = .ok (.iconst 0, 1) := by decide +kernel
theorem dL_law_180 : decode cL_law 180 = .ok (.invokevirtual 83, 3) := by decide +kernel
theorem dL_law_183 : decode cL_law 183 = .ok (.istore 6, 2) := by decide +kernel
theorem dL_law_185 : decode cL_law 185 = .ok (.aload_n 2, 1) := by decide +kernel
theorem dL_law_186 : decode cL_law 186 = .ok (.invokevirtual 84, 3) := by decide +kernel
theorem dL_law_189 : decode cL_law 189 = .ok (.iload 5, 2) := by decide +kernel
theorem dL_law_191 : decode cL_law 191 = .ok (.if_icmp .eq 5, 3) := by decide +kernel
theorem dL_law_194 : decode cL_law 194 = .ok (.iconst 0, 1) := by decide +kernel
theorem dL_law_195 : decode cL_law 195 = .ok (.ireturn, 1) := by decide +kernel
theorem dL_law_196 : decode cL_law 196 = .ok (.iload 5, 2) := by decide +kernel
theorem dL_law_198 : decode cL_law 198 = .ok (.ifCond .ne 15, 3) := by decide +kernel
theorem dL_law_201 : decode cL_law 201 = .ok (.aload_n 3, 1) := by decide +kernel
theorem dL_law_202 : decode cL_law 202 = .ok (.iconst 0, 1) := by decide +kernel
theorem dL_law_203 : decode cL_law 203 = .ok (.laload, 1) := by decide +kernel
theorem dL_law_204 : decode cL_law 204 = .ok (.iload 6, 2) := by decide +kernel
theorem dL_law_206 : decode cL_law 206 = .ok (.i2l, 1) := by decide +kernel
theorem dL_law_207 : decode cL_law 207 = .ok (.lcmp, 1) := by decide +kernel
theorem dL_law_208 : decode cL_law 208 = .ok (.ifCond .eq 5, 3) := by decide +kernel
theorem dL_law_211 : decode cL_law 211 = .ok (.iconst 0, 1) := by decide +kernel
theorem dL_law_212 : decode cL_law 212 = .ok (.ireturn, 1) := by decide +kernel
theorem dL_law_213 : decode cL_law 213 = .ok (.goto 1005, 3) := by decide +kernel
theorem dL_law_216 : decode cL_law 216 = .ok (.aload_n 1, 1) := by decide +kernel
theorem dL_law_217 : decode cL_law 217 = .ok (.aload_n 0, 1) := by decide +kernel
theorem dL_law_218 : decode cL_law 218 = .ok (.iload 4, 2) := by decide +kernel
theorem dL_law_220 : decode cL_law 220 = .ok (.iconst 1, 1) := by decide +kernel
theorem dL_law_221 : decode cL_law 221 = .ok (.iadd, 1) := by decide +kernel
theorem dL_law_222 : decode cL_law 222 = .ok (.iaload, 1) := by decide +kernel
theorem dL_law_223 : decode cL_law 223 = .ok (.aload_n 0, 1) := by decide +kernel
theorem dL_law_224 : decode cL_law 224 = .ok (.iload 4, 2) := by decide +kernel
theorem dL_law_226 : decode cL_law 226 = .ok (.iconst 2, 1) := by decide +kernel
theorem dL_law_227 : decode cL_law 227 = .ok (.iadd, 1) := by decide +kernel
theorem dL_law_228 : decode cL_law 228 = .ok (.iaload, 1) := by decide +kernel
theorem dL_law_229 : decode cL_law 229 = .ok (.aload_n 0, 1) := by decide +kernel
theorem dL_law_230 : decode cL_law 230 = .ok (.iload 4, 2) := by decide +kernel
theorem dL_law_232 : decode cL_law 232 = .ok (.iconst 3, 1) := by decide +kernel
theorem dL_law_233 : decode cL_law 233 = .ok (.iadd, 1) := by decide +kernel
theorem dL_law_234 : decode cL_law 234 = .ok (.iaload, 1) := by decide +kernel
theorem dL_law_235 : decode cL_law 235 = .ok (.aload_n 0, 1) := by decide +kernel
theorem dL_law_236 : decode cL_law 236 = .ok (.iload 4, 2) := by decide +kernel
theorem dL_law_238 : decode cL_law 238 = .ok (.iconst 4, 1) := by decide +kernel
theorem dL_law_239 : decode cL_law 239 = .ok (.iadd, 1) := by decide +kernel
theorem dL_law_240 : decode cL_law 240 = .ok (.iaload, 1) := by decide +kernel
theorem dL_law_241 : decode cL_law 241 = .ok (.ifCond .eq 7, 3) := by decide +kernel
theorem dL_law_244 : decode cL_law 244 = .ok (.iconst 1, 1) := by decide +kernel
theorem dL_law_245 : decode cL_law 245 = .ok (.goto 4, 3) := by decide +kernel
theorem dL_law_248 : decode cL_law 248 = .ok (.iconst 0, 1) := by decide +kernel
theorem dL_law_249 : decode cL_law 249 = .ok (.aload_n 3, 1) := by decide +kernel
theorem dL_law_250 : decode cL_law 250 = .ok (.invokestatic 87, 3) := by decide +kernel
theorem dL_law_253 : decode cL_law 253 = .ok (.istore 5, 2) := by decide +kernel
theorem dL_law_255 : decode cL_law 255 = .ok (.aload_n 2, 1) := by decide +kernel
theorem dL_law_256 : decode cL_law 256 = .ok (.aload_n 0, 1) := by decide +kernel
theorem dL_law_257 : decode cL_law 257 = .ok (.iload 4, 2) := by decide +kernel
theorem dL_law_259 : decode cL_law 259 = .ok (.iconst 1, 1) := by decide +kernel
theorem dL_law_260 : decode cL_law 260 = .ok (.iadd, 1) := by decide +kernel
theorem dL_law_261 : decode cL_law 261 = .ok (.iaload, 1) := by decide +kernel
theorem dL_law_262 : decode cL_law 262 = .ok (.aload_n 0, 1) := by decide +kernel
theorem dL_law_263 : decode cL_law 263 = .ok (.iload 4, 2) := by decide +kernel
theorem dL_law_265 : decode cL_law 265 = .ok (.iconst 2, 1) := by decide +kernel
theorem dL_law_266 : decode cL_law 266 = .ok (.iadd, 1) := by decide +kernel
theorem dL_law_267 : decode cL_law 267 = .ok (.iaload, 1) := by decide +kernel
theorem dL_law_268 : decode cL_law 268 = .ok (.aload_n 0, 1) := by decide +kernel
theorem dL_law_269 : decode cL_law 269 = .ok (.iload 4, 2) := by decide +kernel
theorem dL_law_271 : decode cL_law 271 = .ok (.iconst 3, 1) := by decide +kernel
theorem dL_law_272 : decode cL_law 272 = .ok (.iadd, 1) := by decide +kernel
theorem dL_law_273 : decode cL_law 273 = .ok (.iaload, 1) := by decide +kernel
theorem dL_law_274 : decode cL_law 274 = .ok (.aload_n 0, 1) := by decide +kernel
theorem dL_law_275 : decode cL_law 275 = .ok (.iload 4, 2) := by decide +kernel
theorem dL_law_277 : decode cL_law 277 = .ok (.iconst 4, 1) := by decide +kernel
theorem dL_law_278 : decode cL_law 278 = .ok (.iadd, 1) := by decide +kernel
theorem dL_law_279 : decode cL_law 279 = .ok (.iaload, 1) := by decide +kernel
theorem dL_law_280 : decode cL_law 280 = .ok (.ifCond .eq 7, 3) := by decide +kernel
theorem dL_law_283 : decode cL_law 283 = .ok (.iconst 1, 1) := by decide +kernel
theorem dL_law_284 : decode cL_law 284 = .ok (.goto 4, 3) := by decide +kernel
theorem dL_law_287 : decode cL_law 287 = .ok (.iconst 0, 1) := by decide +kernel
theorem dL_law_288 : decode cL_law 288 = .ok (.invokevirtual 90, 3) := by decide +kernel
theorem dL_law_291 : decode cL_law 291 = .ok (.istore 6, 2) := by decide +kernel
theorem dL_law_293 : decode cL_law 293 = .ok (.aload_n 2, 1) := by decide +kernel
theorem dL_law_294 : decode cL_law 294 = .ok (.invokevirtual 84, 3) := by decide +kernel
theorem dL_law_297 : decode cL_law 297 = .ok (.iload 5, 2) := by decide +kernel
theorem dL_law_299 : decode cL_law 299 = .ok (.if_icmp .eq 5, 3) := by decide +kernel
theorem dL_law_302 : decode cL_law 302 = .ok (.iconst 0, 1) := by decide +kernel
theorem dL_law_303 : decode cL_law 303 = .ok (.ireturn, 1) := by decide +kernel
theorem dL_law_304 : decode cL_law 304 = .ok (.iload 5, 2) := by decide +kernel
theorem dL_law_306 : decode cL_law 306 = .ok (.ifCond .ne 22, 3) := by decide +kernel
theorem dL_law_309 : decode cL_law 309 = .ok (.aload_n 3, 1) := by decide +kernel
theorem dL_law_310 : decode cL_law 310 = .ok (.iconst 0, 1) := by decide +kernel
theorem dL_law_311 : decode cL_law 311 = .ok (.laload, 1) := by decide +kernel
theorem dL_law_312 : decode cL_law 312 = .ok (.iload 6, 2) := by decide +kernel
theorem dL_law_314 : decode cL_law 314 = .ok (.ifCond .eq 7, 3) := by decide +kernel
theorem dL_law_317 : decode cL_law 317 = .ok (.lconst 1, 1) := by decide +kernel
theorem dL_law_318 : decode cL_law 318 = .ok (.goto 4, 3) := by decide +kernel
theorem dL_law_321 : decode cL_law 321 = .ok (.lconst 0, 1) := by decide +kernel
theorem dL_law_322 : decode cL_law 322 = .ok (.lcmp, 1) := by decide +kernel
theorem dL_law_323 : decode cL_law 323 = .ok (.ifCond .eq 5, 3) := by decide +kernel
theorem dL_law_326 : decode cL_law 326 = .ok (.iconst 0, 1) := by decide +kernel
theorem dL_law_327 : decode cL_law 327 = .ok (.ireturn, 1) := by decide +kernel
theorem dL_law_328 : decode cL_law 328 = .ok (.goto 890, 3) := by decide +kernel
theorem dL_law_331 : decode cL_law 331 = .ok (.aload_n 1, 1) := by decide +kernel
theorem dL_law_332 : decode cL_law 332 = .ok (.aload_n 0, 1) := by decide +kernel
theorem dL_law_333 : decode cL_law 333 = .ok (.iload 4, 2) := by decide +kernel
theorem dL_law_335 : decode cL_law 335 = .ok (.iconst 1, 1) := by decide +kernel
theorem dL_law_336 : decode cL_law 336 = .ok (.iadd, 1) := by decide +kernel
theorem dL_law_337 : decode cL_law 337 = .ok (.iaload, 1) := by decide +kernel
theorem dL_law_338 : decode cL_law 338 = .ok (.aload_n 0, 1) := by decide +kernel
theorem dL_law_339 : decode cL_law 339 = .ok (.iload 4, 2) := by decide +kernel
theorem dL_law_341 : decode cL_law 341 = .ok (.iconst 2, 1) := by decide +kernel
theorem dL_law_342 : decode cL_law 342 = .ok (.iadd, 1) := by decide +kernel
theorem dL_law_343 : decode cL_law 343 = .ok (.iaload, 1) := by decide +kernel
theorem dL_law_344 : decode cL_law 344 = .ok (.aload_n 0, 1) := by decide +kernel
theorem dL_law_345 : decode cL_law 345 = .ok (.iload 4, 2) := by decide +kernel
theorem dL_law_347 : decode cL_law 347 = .ok (.iconst 3, 1) := by decide +kernel
theorem dL_law_348 : decode cL_law 348 = .ok (.iadd, 1) := by decide +kernel
theorem dL_law_349 : decode cL_law 349 = .ok (.iaload, 1) := by decide +kernel
theorem dL_law_350 : decode cL_law 350 = .ok (.aload_n 0, 1) := by decide +kernel
theorem dL_law_351 : decode cL_law 351 = .ok (.iload 4, 2) := by decide +kernel
theorem dL_law_353 : decode cL_law 353 = .ok (.iconst 4, 1) := by decide +kernel
theorem dL_law_354 : decode cL_law 354 = .ok (.iadd, 1) := by decide +kernel
theorem dL_law_355 : decode cL_law 355 = .ok (.iaload, 1) := by decide +kernel
theorem dL_law_356 : decode cL_law 356 = .ok (.aload_n 3, 1) := by decide +kernel
theorem dL_law_357 : decode cL_law 357 = .ok (.invokestatic 91, 3) := by decide +kernel
theorem dL_law_360 : decode cL_law 360 = .ok (.istore 5, 2) := by decide +kernel
theorem dL_law_362 : decode cL_law 362 = .ok (.aload_n 2, 1) := by decide +kernel
theorem dL_law_363 : decode cL_law 363 = .ok (.aload_n 0, 1) := by decide +kernel
theorem dL_law_364 : decode cL_law 364 = .ok (.iload 4, 2) := by decide +kernel
theorem dL_law_366 : decode cL_law 366 = .ok (.iconst 1, 1) := by decide +kernel
theorem dL_law_367 : decode cL_law 367 = .ok (.iadd, 1) := by decide +kernel
theorem dL_law_368 : decode cL_law 368 = .ok (.iaload, 1) := by decide +kernel
theorem dL_law_369 : decode cL_law 369 = .ok (.aload_n 0, 1) := by decide +kernel
theorem dL_law_370 : decode cL_law 370 = .ok (.iload 4, 2) := by decide +kernel
theorem dL_law_372 : decode cL_law 372 = .ok (.iconst 2, 1) := by decide +kernel
theorem dL_law_373 : decode cL_law 373 = .ok (.iadd, 1) := by decide +kernel
theorem dL_law_374 : decode cL_law 374 = .ok (.iaload, 1) := by decide +kernel
theorem dL_law_375 : decode cL_law 375 = .ok (.aload_n 0, 1) := by decide +kernel
theorem dL_law_376 : decode cL_law 376 = .ok (.iload 4, 2) := by decide +kernel
theorem dL_law_378 : decode cL_law 378 = .ok (.iconst 3, 1) := by decide +kernel
theorem dL_law_379 : decode cL_law 379 = .ok (.iadd, 1) := by decide +kernel
theorem dL_law_380 : decode cL_law 380 = .ok (.iaload, 1) := by decide +kernel
theorem dL_law_381 : decode cL_law 381 = .ok (.aload_n 0, 1) := by decide +kernel
theorem dL_law_382 : decode cL_law 382 = .ok (.iload 4, 2) := by decide +kernel
theorem dL_law_384 : decode cL_law 384 = .ok (.iconst 4, 1) := by decide +kernel
theorem dL_law_385 : decode cL_law 385 = .ok (.iadd, 1) := by decide +kernel
theorem dL_law_386 : decode cL_law 386 = .ok (.iaload, 1) := by decide +kernel
theorem dL_law_387 : decode cL_law 387 = .ok (.invokevirtual 94, 3) := by decide +kernel
theorem dL_law_390 : decode cL_law 390 = .ok (.istore 6, 2) := by decide +kernel
theorem dL_law_392 : decode cL_law 392 = .ok (.aload_n 2, 1) := by decide +kernel
theorem dL_law_393 : decode cL_law 393 = .ok (.invokevirtual 84, 3) := by decide +kernel
theorem dL_law_396 : decode cL_law 396 = .ok (.iload 5, 2) := by decide +kernel
theorem dL_law_398 : decode cL_law 398 = .ok (.if_icmp .eq 5, 3) := by decide +kernel
theorem dL_law_401 : decode cL_law 401 = .ok (.iconst 0, 1) := by decide +kernel
theorem dL_law_402 : decode cL_law 402 = .ok (.ireturn, 1) := by decide +kernel
theorem dL_law_403 : decode cL_law 403 = .ok (.iload 5, 2) := by decide +kernel
theorem dL_law_405 : decode cL_law 405 = .ok (.ifCond .ne 15, 3) := by decide +kernel
theorem dL_law_408 : decode cL_law 408 = .ok (.aload_n 3, 1) := by decide +kernel
theorem dL_law_409 : decode cL_law 409 = .ok (.iconst 0, 1) := by decide +kernel
theorem dL_law_410 : decode cL_law 410 = .ok (.laload, 1) := by decide +kernel
theorem dL_law_411 : decode cL_law 411 = .ok (.iload 6, 2) := by decide +kernel
theorem dL_law_413 : decode cL_law 413 = .ok (.i2l, 1) := by decide +kernel
theorem dL_law_414 : decode cL_law 414 = .ok (.lcmp, 1) := by decide +kernel
theorem dL_law_415 : decode cL_law 415 = .ok (.ifCond .eq 5, 3) := by decide +kernel
theorem dL_law_418 : decode cL_law 418 = .ok (.iconst 0, 1) := by decide +kernel
theorem dL_law_419 : decode cL_law 419 = .ok (.ireturn, 1) := by decide +kernel
theorem dL_law_420 : decode cL_law 420 = .ok (.goto 798, 3) := by decide +kernel
theorem dL_law_423 : decode cL_law 423 = .ok (.aload_n 1, 1) := by decide +kernel
theorem dL_law_424 : decode cL_law 424 = .ok (.aload_n 0, 1) := by decide +kernel
theorem dL_law_425 : decode cL_law 425 = .ok (.iload 4, 2) := by decide +kernel
theorem dL_law_427 : decode cL_law 427 = .ok (.iconst 1, 1) := by decide +kernel
theorem dL_law_428 : decode cL_law 428 = .ok (.iadd, 1) := by decide +kernel
theorem dL_law_429 : decode cL_law 429 = .ok (.iaload, 1) := by decide +kernel
theorem dL_law_430 : decode cL_law 430 = .ok (.aload_n 0, 1) := by decide +kernel
theorem dL_law_431 : decode cL_law 431 = .ok (.iload 4, 2) := by decide +kernel
theorem dL_law_433 : decode cL_law 433 = .ok (.iconst 2, 1) := by decide +kernel
theorem dL_law_434 : decode cL_law 434 = .ok (.iadd, 1) := by decide +kernel
theorem dL_law_435 : decode cL_law 435 = .ok (.iaload, 1) := by decide +kernel
theorem dL_law_436 : decode cL_law 436 = .ok (.ifCond .eq 7, 3) := by decide +kernel
theorem dL_law_439 : decode cL_law 439 = .ok (.iconst 1, 1) := by decide +kernel
theorem dL_law_440 : decode cL_law 440 = .ok (.goto 4, 3) := by decide +kernel
theorem dL_law_443 : decode cL_law 443 = .ok (.iconst 0, 1) := by decide +kernel
theorem dL_law_444 : decode cL_law 444 = .ok (.aload_n 3, 1) := by decide +kernel
theorem dL_law_445 : decode cL_law 445 = .ok (.invokestatic 95, 3) := by decide +kernel
theorem dL_law_448 : decode cL_law 448 = .ok (.istore 5, 2) := by decide +kernel
theorem dL_law_450 : decode cL_law 450 = .ok (.aload_n 2, 1) := by decide +kernel
theorem dL_law_451 : decode cL_law 451 = .ok (.aload_n 0, 1) := by decide +kernel
theorem dL_law_452 : decode cL_law 452 = .ok (.iload 4, 2) := by decide +kernel
theorem dL_law_454 : decode cL_law 454 = .ok (.iconst 1, 1) := by decide +kernel
theorem dL_law_455 : decode cL_law 455 = .ok (.iadd, 1) := by decide +kernel
theorem dL_law_456 : decode cL_law 456 = .ok (.iaload, 1) := by decide +kernel
theorem dL_law_457 : decode cL_law 457 = .ok (.aload_n 0, 1) := by decide +kernel
theorem dL_law_458 : decode cL_law 458 = .ok (.iload 4, 2) := by decide +kernel
theorem dL_law_460 : decode cL_law 460 = .ok (.iconst 2, 1) := by decide +kernel
theorem dL_law_461 : decode cL_law 461 = .ok (.iadd, 1) := by decide +kernel
theorem dL_law_462 : decode cL_law 462 = .ok (.iaload, 1) := by decide +kernel
theorem dL_law_463 : decode cL_law 463 = .ok (.ifCond .eq 7, 3) := by decide +kernel
theorem dL_law_466 : decode cL_law 466 = .ok (.iconst 1, 1) := by decide +kernel
theorem dL_law_467 : decode cL_law 467 = .ok (.goto 4, 3) := by decide +kernel
theorem dL_law_470 : decode cL_law 470 = .ok (.iconst 0, 1) := by decide +kernel
theorem dL_law_471 : decode cL_law 471 = .ok (.invokevirtual 98, 3) := by decide +kernel
theorem dL_law_474 : decode cL_law 474 = .ok (.istore 6, 2) := by decide +kernel
theorem dL_law_476 : decode cL_law 476 = .ok (.aload_n 2, 1) := by decide +kernel
theorem dL_law_477 : decode cL_law 477 = .ok (.invokevirtual 84, 3) := by decide +kernel
theorem dL_law_480 : decode cL_law 480 = .ok (.iload 5, 2) := by decide +kernel
theorem dL_law_482 : decode cL_law 482 = .ok (.if_icmp .eq 5, 3) := by decide +kernel
theorem dL_law_485 : decode cL_law 485 = .ok (.iconst 0, 1) := by decide +kernel
theorem dL_law_486 : decode cL_law 486 = .ok (.ireturn, 1) := by decide +kernel
theorem dL_law_487 : decode cL_law 487 = .ok (.iload 5, 2) := by decide +kernel
theorem dL_law_489 : decode cL_law 489 = .ok (.ifCond .ne 22, 3) := by decide +kernel
theorem dL_law_492 : decode cL_law 492 = .ok (.aload_n 3, 1) := by decide +kernel
theorem dL_law_493 : decode cL_law 493 = .ok (.iconst 0, 1) := by decide +kernel
theorem dL_law_494 : decode cL_law 494 = .ok (.laload, 1) := by decide +kernel
theorem dL_law_495 : decode cL_law 495 = .ok (.iload 6, 2) := by decide +kernel
theorem dL_law_497 : decode cL_law 497 = .ok (.ifCond .eq 7, 3) := by decide +kernel
theorem dL_law_500 : decode cL_law 500 = .ok (.lconst 1, 1) := by decide +kernel
theorem dL_law_501 : decode cL_law 501 = .ok (.goto 4, 3) := by decide +kernel
theorem dL_law_504 : decode cL_law 504 = .ok (.lconst 0, 1) := by decide +kernel
theorem dL_law_505 : decode cL_law 505 = .ok (.lcmp, 1) := by decide +kernel
theorem dL_law_506 : decode cL_law 506 = .ok (.ifCond .eq 5, 3) := by decide +kernel
theorem dL_law_509 : decode cL_law 509 = .ok (.iconst 0, 1) := by decide +kernel
theorem dL_law_510 : decode cL_law 510 = .ok (.ireturn, 1) := by decide +kernel
theorem dL_law_511 : decode cL_law 511 = .ok (.goto 707, 3) := by decide +kernel
theorem dL_law_514 : decode cL_law 514 = .ok (.aload_n 1, 1) := by decide +kernel
theorem dL_law_515 : decode cL_law 515 = .ok (.aload_n 0, 1) := by decide +kernel
theorem dL_law_516 : decode cL_law 516 = .ok (.iload 4, 2) := by decide +kernel
theorem dL_law_518 : decode cL_law 518 = .ok (.iconst 1, 1) := by decide +kernel
theorem dL_law_519 : decode cL_law 519 = .ok (.iadd, 1) := by decide +kernel
theorem dL_law_520 : decode cL_law 520 = .ok (.iaload, 1) := by decide +kernel
theorem dL_law_521 : decode cL_law 521 = .ok (.aload_n 3, 1) := by decide +kernel
theorem dL_law_522 : decode cL_law 522 = .ok (.invokestatic 99, 3) := by decide +kernel
theorem dL_law_525 : decode cL_law 525 = .ok (.istore 5, 2) := by decide +kernel
theorem dL_law_527 : decode cL_law 527 = .ok (.aload_n 2, 1) := by decide +kernel
theorem dL_law_528 : decode cL_law 528 = .ok (.aload_n 0, 1) := by decide +kernel
theorem dL_law_529 : decode cL_law 529 = .ok (.iload 4, 2) := by decide +kernel
theorem dL_law_531 : decode cL_law 531 = .ok (.iconst 1, 1) := by decide +kernel
theorem dL_law_532 : decode cL_law 532 = .ok (.iadd, 1) := by decide +kernel
theorem dL_law_533 : decode cL_law 533 = .ok (.iaload, 1) := by decide +kernel
theorem dL_law_534 : decode cL_law 534 = .ok (.invokevirtual 102, 3) := by decide +kernel
theorem dL_law_537 : decode cL_law 537 = .ok (.istore 6, 2) := by decide +kernel
theorem dL_law_539 : decode cL_law 539 = .ok (.aload_n 2, 1) := by decide +kernel
theorem dL_law_540 : decode cL_law 540 = .ok (.invokevirtual 84, 3) := by decide +kernel
theorem dL_law_543 : decode cL_law 543 = .ok (.iload 5, 2) := by decide +kernel
theorem dL_law_545 : decode cL_law 545 = .ok (.if_icmp .eq 5, 3) := by decide +kernel
theorem dL_law_548 : decode cL_law 548 = .ok (.iconst 0, 1) := by decide +kernel
theorem dL_law_549 : decode cL_law 549 = .ok (.ireturn, 1) := by decide +kernel
theorem dL_law_550 : decode cL_law 550 = .ok (.iload 5, 2) := by decide +kernel
theorem dL_law_552 : decode cL_law 552 = .ok (.ifCond .ne 15, 3) := by decide +kernel
theorem dL_law_555 : decode cL_law 555 = .ok (.aload_n 3, 1) := by decide +kernel
theorem dL_law_556 : decode cL_law 556 = .ok (.iconst 0, 1) := by decide +kernel
theorem dL_law_557 : decode cL_law 557 = .ok (.laload, 1) := by decide +kernel
theorem dL_law_558 : decode cL_law 558 = .ok (.iload 6, 2) := by decide +kernel
theorem dL_law_560 : decode cL_law 560 = .ok (.i2l, 1) := by decide +kernel
theorem dL_law_561 : decode cL_law 561 = .ok (.lcmp, 1) := by decide +kernel
theorem dL_law_562 : decode cL_law 562 = .ok (.ifCond .eq 5, 3) := by decide +kernel
theorem dL_law_565 : decode cL_law 565 = .ok (.iconst 0, 1) := by decide +kernel
theorem dL_law_566 : decode cL_law 566 = .ok (.ireturn, 1) := by decide +kernel
theorem dL_law_567 : decode cL_law 567 = .ok (.goto 651, 3) := by decide +kernel
theorem dL_law_570 : decode cL_law 570 = .ok (.aload_n 1, 1) := by decide +kernel
theorem dL_law_571 : decode cL_law 571 = .ok (.aload_n 0, 1) := by decide +kernel
theorem dL_law_572 : decode cL_law 572 = .ok (.iload 4, 2) := by decide +kernel
theorem dL_law_574 : decode cL_law 574 = .ok (.iconst 1, 1) := by decide +kernel
theorem dL_law_575 : decode cL_law 575 = .ok (.iadd, 1) := by decide +kernel
theorem dL_law_576 : decode cL_law 576 = .ok (.iaload, 1) := by decide +kernel
theorem dL_law_577 : decode cL_law 577 = .ok (.aload_n 0, 1) := by decide +kernel
theorem dL_law_578 : decode cL_law 578 = .ok (.iload 4, 2) := by decide +kernel
theorem dL_law_580 : decode cL_law 580 = .ok (.iconst 2, 1) := by decide +kernel
theorem dL_law_581 : decode cL_law 581 = .ok (.iadd, 1) := by decide +kernel
theorem dL_law_582 : decode cL_law 582 = .ok (.iaload, 1) := by decide +kernel
theorem dL_law_583 : decode cL_law 583 = .ok (.aload_n 3, 1) := by decide +kernel
theorem dL_law_584 : decode cL_law 584 = .ok (.invokestatic 103, 3) := by decide +kernel
theorem dL_law_587 : decode cL_law 587 = .ok (.istore 5, 2) := by decide +kernel
theorem dL_law_589 : decode cL_law 589 = .ok (.aload_n 2, 1) := by decide +kernel
theorem dL_law_590 : decode cL_law 590 = .ok (.aload_n 0, 1) := by decide +kernel
theorem dL_law_591 : decode cL_law 591 = .ok (.iload 4, 2) := by decide +kernel
theorem dL_law_593 : decode cL_law 593 = .ok (.iconst 1, 1) := by decide +kernel
theorem dL_law_594 : decode cL_law 594 = .ok (.iadd, 1) := by decide +kernel
theorem dL_law_595 : decode cL_law 595 = .ok (.iaload, 1) := by decide +kernel
theorem dL_law_596 : decode cL_law 596 = .ok (.aload_n 0, 1) := by decide +kernel
theorem dL_law_597 : decode cL_law 597 = .ok (.iload 4, 2) := by decide +kernel
theorem dL_law_599 : decode cL_law 599 = .ok (.iconst 2, 1) := by decide +kernel
theorem dL_law_600 : decode cL_law 600 = .ok (.iadd, 1) := by decide +kernel
theorem dL_law_601 : decode cL_law 601 = .ok (.iaload, 1) := by decide +kernel
theorem dL_law_602 : decode cL_law 602 = .ok (.invokevirtual 106, 3) := by decide +kernel
theorem dL_law_605 : decode cL_law 605 = .ok (.istore 6, 2) := by decide +kernel
theorem dL_law_607 : decode cL_law 607 = .ok (.aload_n 2, 1) := by decide +kernel
theorem dL_law_608 : decode cL_law 608 = .ok (.invokevirtual 84, 3) := by decide +kernel
theorem dL_law_611 : decode cL_law 611 = .ok (.iload 5, 2) := by decide +kernel
theorem dL_law_613 : decode cL_law 613 = .ok (.if_icmp .eq 5, 3) := by decide +kernel
theorem dL_law_616 : decode cL_law 616 = .ok (.iconst 0, 1) := by decide +kernel
theorem dL_law_617 : decode cL_law 617 = .ok (.ireturn, 1) := by decide +kernel
theorem dL_law_618 : decode cL_law 618 = .ok (.iload 5, 2) := by decide +kernel
theorem dL_law_620 : decode cL_law 620 = .ok (.ifCond .ne 15, 3) := by decide +kernel
theorem dL_law_623 : decode cL_law 623 = .ok (.aload_n 3, 1) := by decide +kernel
theorem dL_law_624 : decode cL_law 624 = .ok (.iconst 0, 1) := by decide +kernel
theorem dL_law_625 : decode cL_law 625 = .ok (.laload, 1) := by decide +kernel
theorem dL_law_626 : decode cL_law 626 = .ok (.iload 6, 2) := by decide +kernel
theorem dL_law_628 : decode cL_law 628 = .ok (.i2l, 1) := by decide +kernel
theorem dL_law_629 : decode cL_law 629 = .ok (.lcmp, 1) := by decide +kernel
theorem dL_law_630 : decode cL_law 630 = .ok (.ifCond .eq 5, 3) := by decide +kernel
theorem dL_law_633 : decode cL_law 633 = .ok (.iconst 0, 1) := by decide +kernel
theorem dL_law_634 : decode cL_law 634 = .ok (.ireturn, 1) := by decide +kernel
theorem dL_law_635 : decode cL_law 635 = .ok (.goto 583, 3) := by decide +kernel
theorem dL_law_638 : decode cL_law 638 = .ok (.aload_n 1, 1) := by decide +kernel
theorem dL_law_639 : decode cL_law 639 = .ok (.invokevirtual 107, 3) := by decide +kernel
theorem dL_law_642 : decode cL_law 642 = .ok (.aload_n 2, 1) := by decide +kernel
theorem dL_law_643 : decode cL_law 643 = .ok (.invokevirtual 110, 3) := by decide +kernel
theorem dL_law_646 : decode cL_law 646 = .ok (.if_icmp .eq 572, 3) := by decide +kernel
theorem dL_law_649 : decode cL_law 649 = .ok (.iconst 0, 1) := by decide +kernel
theorem dL_law_650 : decode cL_law 650 = .ok (.ireturn, 1) := by decide +kernel
theorem dL_law_651 : decode cL_law 651 = .ok (.aload_n 1, 1) := by decide +kernel
theorem dL_law_652 : decode cL_law 652 = .ok (.aload_n 0, 1) := by decide +kernel
theorem dL_law_653 : decode cL_law 653 = .ok (.iload 4, 2) := by decide +kernel
theorem dL_law_655 : decode cL_law 655 = .ok (.iconst 1, 1) := by decide +kernel
theorem dL_law_656 : decode cL_law 656 = .ok (.iadd, 1) := by decide +kernel
theorem dL_law_657 : decode cL_law 657 = .ok (.iaload, 1) := by decide +kernel
theorem dL_law_658 : decode cL_law 658 = .ok (.aload_n 3, 1) := by decide +kernel
theorem dL_law_659 : decode cL_law 659 = .ok (.invokestatic 111, 3) := by decide +kernel
theorem dL_law_662 : decode cL_law 662 = .ok (.istore 5, 2) := by decide +kernel
theorem dL_law_664 : decode cL_law 664 = .ok (.aload_n 2, 1) := by decide +kernel
theorem dL_law_665 : decode cL_law 665 = .ok (.aload_n 0, 1) := by decide +kernel
theorem dL_law_666 : decode cL_law 666 = .ok (.iload 4, 2) := by decide +kernel
theorem dL_law_668 : decode cL_law 668 = .ok (.iconst 1, 1) := by decide +kernel
theorem dL_law_669 : decode cL_law 669 = .ok (.iadd, 1) := by decide +kernel
theorem dL_law_670 : decode cL_law 670 = .ok (.iaload, 1) := by decide +kernel
theorem dL_law_671 : decode cL_law 671 = .ok (.invokevirtual 113, 3) := by decide +kernel
theorem dL_law_674 : decode cL_law 674 = .ok (.istore 6, 2) := by decide +kernel
theorem dL_law_676 : decode cL_law 676 = .ok (.aload_n 2, 1) := by decide +kernel
theorem dL_law_677 : decode cL_law 677 = .ok (.invokevirtual 84, 3) := by decide +kernel
theorem dL_law_680 : decode cL_law 680 = .ok (.iload 5, 2) := by decide +kernel
theorem dL_law_682 : decode cL_law 682 = .ok (.if_icmp .eq 5, 3) := by decide +kernel
theorem dL_law_685 : decode cL_law 685 = .ok (.iconst 0, 1) := by decide +kernel
theorem dL_law_686 : decode cL_law 686 = .ok (.ireturn, 1) := by decide +kernel
theorem dL_law_687 : decode cL_law 687 = .ok (.iload 5, 2) := by decide +kernel
theorem dL_law_689 : decode cL_law 689 = .ok (.ifCond .ne 15, 3) := by decide +kernel
theorem dL_law_692 : decode cL_law 692 = .ok (.aload_n 3, 1) := by decide +kernel
theorem dL_law_693 : decode cL_law 693 = .ok (.iconst 0, 1) := by decide +kernel
theorem dL_law_694 : decode cL_law 694 = .ok (.laload, 1) := by decide +kernel
theorem dL_law_695 : decode cL_law 695 = .ok (.iload 6, 2) := by decide +kernel
theorem dL_law_697 : decode cL_law 697 = .ok (.i2l, 1) := by decide +kernel
theorem dL_law_698 : decode cL_law 698 = .ok (.lcmp, 1) := by decide +kernel
theorem dL_law_699 : decode cL_law 699 = .ok (.ifCond .eq 5, 3) := by decide +kernel
theorem dL_law_702 : decode cL_law 702 = .ok (.iconst 0, 1) := by decide +kernel
theorem dL_law_703 : decode cL_law 703 = .ok (.ireturn, 1) := by decide +kernel
theorem dL_law_704 : decode cL_law 704 = .ok (.goto 514, 3) := by decide +kernel
theorem dL_law_707 : decode cL_law 707 = .ok (.aload_n 1, 1) := by decide +kernel
theorem dL_law_708 : decode cL_law 708 = .ok (.aload_n 3, 1) := by decide +kernel
theorem dL_law_709 : decode cL_law 709 = .ok (.invokestatic 114, 3) := by decide +kernel
theorem dL_law_712 : decode cL_law 712 = .ok (.istore 5, 2) := by decide +kernel
theorem dL_law_714 : decode cL_law 714 = .ok (.aload_n 2, 1) := by decide +kernel
theorem dL_law_715 : decode cL_law 715 = .ok (.invokevirtual 117, 3) := by decide +kernel
theorem dL_law_718 : decode cL_law 718 = .ok (.istore 6, 2) := by decide +kernel
theorem dL_law_720 : decode cL_law 720 = .ok (.aload_n 2, 1) := by decide +kernel
theorem dL_law_721 : decode cL_law 721 = .ok (.invokevirtual 84, 3) := by decide +kernel
theorem dL_law_724 : decode cL_law 724 = .ok (.iload 5, 2) := by decide +kernel
theorem dL_law_726 : decode cL_law 726 = .ok (.if_icmp .eq 5, 3) := by decide +kernel
theorem dL_law_729 : decode cL_law 729 = .ok (.iconst 0, 1) := by decide +kernel
theorem dL_law_730 : decode cL_law 730 = .ok (.ireturn, 1) := by decide +kernel
theorem dL_law_731 : decode cL_law 731 = .ok (.iload 5, 2) := by decide +kernel
theorem dL_law_733 : decode cL_law 733 = .ok (.ifCond .ne 15, 3) := by decide +kernel
theorem dL_law_736 : decode cL_law 736 = .ok (.aload_n 3, 1) := by decide +kernel
theorem dL_law_737 : decode cL_law 737 = .ok (.iconst 0, 1) := by decide +kernel
theorem dL_law_738 : decode cL_law 738 = .ok (.laload, 1) := by decide +kernel
theorem dL_law_739 : decode cL_law 739 = .ok (.iload 6, 2) := by decide +kernel
theorem dL_law_741 : decode cL_law 741 = .ok (.i2l, 1) := by decide +kernel
theorem dL_law_742 : decode cL_law 742 = .ok (.lcmp, 1) := by decide +kernel
theorem dL_law_743 : decode cL_law 743 = .ok (.ifCond .eq 5, 3) := by decide +kernel
theorem dL_law_746 : decode cL_law 746 = .ok (.iconst 0, 1) := by decide +kernel
theorem dL_law_747 : decode cL_law 747 = .ok (.ireturn, 1) := by decide +kernel
theorem dL_law_748 : decode cL_law 748 = .ok (.goto 470, 3) := by decide +kernel
theorem dL_law_751 : decode cL_law 751 = .ok (.aload_n 1, 1) := by decide +kernel
theorem dL_law_752 : decode cL_law 752 = .ok (.aload_n 0, 1) := by decide +kernel
theorem dL_law_753 : decode cL_law 753 = .ok (.iload 4, 2) := by decide +kernel
theorem dL_law_755 : decode cL_law 755 = .ok (.iconst 1, 1) := by decide +kernel
theorem dL_law_756 : decode cL_law 756 = .ok (.iadd, 1) := by decide +kernel
theorem dL_law_757 : decode cL_law 757 = .ok (.iaload, 1) := by decide +kernel
theorem dL_law_758 : decode cL_law 758 = .ok (.aload_n 3, 1) := by decide +kernel
theorem dL_law_759 : decode cL_law 759 = .ok (.invokestatic 118, 3) := by decide +kernel
theorem dL_law_762 : decode cL_law 762 = .ok (.istore 5, 2) := by decide +kernel
theorem dL_law_764 : decode cL_law 764 = .ok (.aload_n 2, 1) := by decide +kernel
theorem dL_law_765 : decode cL_law 765 = .ok (.aload_n 0, 1) := by decide +kernel
theorem dL_law_766 : decode cL_law 766 = .ok (.iload 4, 2) := by decide +kernel
theorem dL_law_768 : decode cL_law 768 = .ok (.iconst 1, 1) := by decide +kernel
theorem dL_law_769 : decode cL_law 769 = .ok (.iadd, 1) := by decide +kernel
theorem dL_law_770 : decode cL_law 770 = .ok (.iaload, 1) := by decide +kernel
theorem dL_law_771 : decode cL_law 771 = .ok (.invokevirtual 120, 3) := by decide +kernel
theorem dL_law_774 : decode cL_law 774 = .ok (.istore 6, 2) := by decide +kernel
theorem dL_law_776 : decode cL_law 776 = .ok (.aload_n 2, 1) := by decide +kernel
theorem dL_law_777 : decode cL_law 777 = .ok (.invokevirtual 84, 3) := by decide +kernel
theorem dL_law_780 : decode cL_law 780 = .ok (.iload 5, 2) := by decide +kernel
theorem dL_law_782 : decode cL_law 782 = .ok (.if_icmp .eq 5, 3) := by decide +kernel
theorem dL_law_785 : decode cL_law 785 = .ok (.iconst 0, 1) := by decide +kernel
theorem dL_law_786 : decode cL_law 786 = .ok (.ireturn, 1) := by decide +kernel
theorem dL_law_787 : decode cL_law 787 = .ok (.iload 5, 2) := by decide +kernel
theorem dL_law_789 : decode cL_law 789 = .ok (.ifCond .ne 15, 3) := by decide +kernel
theorem dL_law_792 : decode cL_law 792 = .ok (.aload_n 3, 1) := by decide +kernel
theorem dL_law_793 : decode cL_law 793 = .ok (.iconst 0, 1) := by decide +kernel
theorem dL_law_794 : decode cL_law 794 = .ok (.laload, 1) := by decide +kernel
theorem dL_law_795 : decode cL_law 795 = .ok (.iload 6, 2) := by decide +kernel
theorem dL_law_797 : decode cL_law 797 = .ok (.i2l, 1) := by decide +kernel
theorem dL_law_798 : decode cL_law 798 = .ok (.lcmp, 1) := by decide +kernel
theorem dL_law_799 : decode cL_law 799 = .ok (.ifCond .eq 5, 3) := by decide +kernel
theorem dL_law_802 : decode cL_law 802 = .ok (.iconst 0, 1) := by decide +kernel
theorem dL_law_803 : decode cL_law 803 = .ok (.ireturn, 1) := by decide +kernel
theorem dL_law_804 : decode cL_law 804 = .ok (.goto 414, 3) := by decide +kernel
theorem dL_law_807 : decode cL_law 807 = .ok (.aload_n 1, 1) := by decide +kernel
theorem dL_law_808 : decode cL_law 808 = .ok (.aload_n 3, 1) := by decide +kernel
theorem dL_law_809 : decode cL_law 809 = .ok (.invokestatic 121, 3) := by decide +kernel
theorem dL_law_812 : decode cL_law 812 = .ok (.istore 5, 2) := by decide +kernel
theorem dL_law_814 : decode cL_law 814 = .ok (.aload_n 2, 1) := by decide +kernel
theorem dL_law_815 : decode cL_law 815 = .ok (.invokevirtual 123, 3) := by decide +kernel
theorem dL_law_818 : decode cL_law 818 = .ok (.istore 6, 2) := by decide +kernel
theorem dL_law_820 : decode cL_law 820 = .ok (.aload_n 2, 1) := by decide +kernel
theorem dL_law_821 : decode cL_law 821 = .ok (.invokevirtual 84, 3) := by decide +kernel
theorem dL_law_824 : decode cL_law 824 = .ok (.iload 5, 2) := by decide +kernel
theorem dL_law_826 : decode cL_law 826 = .ok (.if_icmp .eq 5, 3) := by decide +kernel
theorem dL_law_829 : decode cL_law 829 = .ok (.iconst 0, 1) := by decide +kernel
theorem dL_law_830 : decode cL_law 830 = .ok (.ireturn, 1) := by decide +kernel
theorem dL_law_831 : decode cL_law 831 = .ok (.iload 5, 2) := by decide +kernel
theorem dL_law_833 : decode cL_law 833 = .ok (.ifCond .ne 15, 3) := by decide +kernel
theorem dL_law_836 : decode cL_law 836 = .ok (.aload_n 3, 1) := by decide +kernel
theorem dL_law_837 : decode cL_law 837 = .ok (.iconst 0, 1) := by decide +kernel
theorem dL_law_838 : decode cL_law 838 = .ok (.laload, 1) := by decide +kernel
theorem dL_law_839 : decode cL_law 839 = .ok (.iload 6, 2) := by decide +kernel
theorem dL_law_841 : decode cL_law 841 = .ok (.i2l, 1) := by decide +kernel
theorem dL_law_842 : decode cL_law 842 = .ok (.lcmp, 1) := by decide +kernel
theorem dL_law_843 : decode cL_law 843 = .ok (.ifCond .eq 5, 3) := by decide +kernel
theorem dL_law_846 : decode cL_law 846 = .ok (.iconst 0, 1) := by decide +kernel
theorem dL_law_847 : decode cL_law 847 = .ok (.ireturn, 1) := by decide +kernel
theorem dL_law_848 : decode cL_law 848 = .ok (.goto 370, 3) := by decide +kernel
theorem dL_law_851 : decode cL_law 851 = .ok (.aload_n 1, 1) := by decide +kernel
theorem dL_law_852 : decode cL_law 852 = .ok (.aload_n 0, 1) := by decide +kernel
theorem dL_law_853 : decode cL_law 853 = .ok (.iload 4, 2) := by decide +kernel
theorem dL_law_855 : decode cL_law 855 = .ok (.iconst 1, 1) := by decide +kernel
theorem dL_law_856 : decode cL_law 856 = .ok (.iadd, 1) := by decide +kernel
theorem dL_law_857 : decode cL_law 857 = .ok (.iaload, 1) := by decide +kernel
theorem dL_law_858 : decode cL_law 858 = .ok (.aload_n 0, 1) := by decide +kernel
theorem dL_law_859 : decode cL_law 859 = .ok (.iload 4, 2) := by decide +kernel
theorem dL_law_861 : decode cL_law 861 = .ok (.iconst 2, 1) := by decide +kernel
theorem dL_law_862 : decode cL_law 862 = .ok (.iadd, 1) := by decide +kernel
theorem dL_law_863 : decode cL_law 863 = .ok (.iaload, 1) := by decide +kernel
theorem dL_law_864 : decode cL_law 864 = .ok (.aload_n 3, 1) := by decide +kernel
theorem dL_law_865 : decode cL_law 865 = .ok (.invokestatic 124, 3) := by decide +kernel
theorem dL_law_868 : decode cL_law 868 = .ok (.istore 5, 2) := by decide +kernel
theorem dL_law_870 : decode cL_law 870 = .ok (.aload_n 2, 1) := by decide +kernel
theorem dL_law_871 : decode cL_law 871 = .ok (.aload_n 0, 1) := by decide +kernel
theorem dL_law_872 : decode cL_law 872 = .ok (.iload 4, 2) := by decide +kernel
theorem dL_law_874 : decode cL_law 874 = .ok (.iconst 1, 1) := by decide +kernel
theorem dL_law_875 : decode cL_law 875 = .ok (.iadd, 1) := by decide +kernel
theorem dL_law_876 : decode cL_law 876 = .ok (.iaload, 1) := by decide +kernel
theorem dL_law_877 : decode cL_law 877 = .ok (.aload_n 0, 1) := by decide +kernel
theorem dL_law_878 : decode cL_law 878 = .ok (.iload 4, 2) := by decide +kernel
theorem dL_law_880 : decode cL_law 880 = .ok (.iconst 2, 1) := by decide +kernel
theorem dL_law_881 : decode cL_law 881 = .ok (.iadd, 1) := by decide +kernel
theorem dL_law_882 : decode cL_law 882 = .ok (.iaload, 1) := by decide +kernel
theorem dL_law_883 : decode cL_law 883 = .ok (.invokevirtual 126, 3) := by decide +kernel
theorem dL_law_886 : decode cL_law 886 = .ok (.istore 6, 2) := by decide +kernel
theorem dL_law_888 : decode cL_law 888 = .ok (.aload_n 2, 1) := by decide +kernel
theorem dL_law_889 : decode cL_law 889 = .ok (.invokevirtual 84, 3) := by decide +kernel
theorem dL_law_892 : decode cL_law 892 = .ok (.iload 5, 2) := by decide +kernel
theorem dL_law_894 : decode cL_law 894 = .ok (.if_icmp .eq 5, 3) := by decide +kernel
theorem dL_law_897 : decode cL_law 897 = .ok (.iconst 0, 1) := by decide +kernel
theorem dL_law_898 : decode cL_law 898 = .ok (.ireturn, 1) := by decide +kernel
theorem dL_law_899 : decode cL_law 899 = .ok (.iload 5, 2) := by decide +kernel
theorem dL_law_901 : decode cL_law 901 = .ok (.ifCond .ne 15, 3) := by decide +kernel
theorem dL_law_904 : decode cL_law 904 = .ok (.aload_n 3, 1) := by decide +kernel
theorem dL_law_905 : decode cL_law 905 = .ok (.iconst 0, 1) := by decide +kernel
theorem dL_law_906 : decode cL_law 906 = .ok (.laload, 1) := by decide +kernel
theorem dL_law_907 : decode cL_law 907 = .ok (.iload 6, 2) := by decide +kernel
theorem dL_law_909 : decode cL_law 909 = .ok (.i2l, 1) := by decide +kernel
theorem dL_law_910 : decode cL_law 910 = .ok (.lcmp, 1) := by decide +kernel
theorem dL_law_911 : decode cL_law 911 = .ok (.ifCond .eq 5, 3) := by decide +kernel
theorem dL_law_914 : decode cL_law 914 = .ok (.iconst 0, 1) := by decide +kernel
theorem dL_law_915 : decode cL_law 915 = .ok (.ireturn, 1) := by decide +kernel
theorem dL_law_916 : decode cL_law 916 = .ok (.goto 302, 3) := by decide +kernel
theorem dL_law_919 : decode cL_law 919 = .ok (.aload_n 1, 1) := by decide +kernel
theorem dL_law_920 : decode cL_law 920 = .ok (.aload_n 0, 1) := by decide +kernel
theorem dL_law_921 : decode cL_law 921 = .ok (.iload 4, 2) := by decide +kernel
theorem dL_law_923 : decode cL_law 923 = .ok (.iconst 1, 1) := by decide +kernel
theorem dL_law_924 : decode cL_law 924 = .ok (.iadd, 1) := by decide +kernel
theorem dL_law_925 : decode cL_law 925 = .ok (.iaload, 1) := by decide +kernel
theorem dL_law_926 : decode cL_law 926 = .ok (.aload_n 3, 1) := by decide +kernel
theorem dL_law_927 : decode cL_law 927 = .ok (.invokestatic 127, 3) := by decide +kernel
theorem dL_law_930 : decode cL_law 930 = .ok (.istore 5, 2) := by decide +kernel
theorem dL_law_932 : decode cL_law 932 = .ok (.aload_n 2, 1) := by decide +kernel
theorem dL_law_933 : decode cL_law 933 = .ok (.aload_n 0, 1) := by decide +kernel
theorem dL_law_934 : decode cL_law 934 = .ok (.iload 4, 2) := by decide +kernel
theorem dL_law_936 : decode cL_law 936 = .ok (.iconst 1, 1) := by decide +kernel
theorem dL_law_937 : decode cL_law 937 = .ok (.iadd, 1) := by decide +kernel
theorem dL_law_938 : decode cL_law 938 = .ok (.iaload, 1) := by decide +kernel
theorem dL_law_939 : decode cL_law 939 = .ok (.invokevirtual 129, 3) := by decide +kernel
theorem dL_law_942 : decode cL_law 942 = .ok (.istore 6, 2) := by decide +kernel
theorem dL_law_944 : decode cL_law 944 = .ok (.aload_n 2, 1) := by decide +kernel
theorem dL_law_945 : decode cL_law 945 = .ok (.invokevirtual 84, 3) := by decide +kernel
theorem dL_law_948 : decode cL_law 948 = .ok (.iload 5, 2) := by decide +kernel
theorem dL_law_950 : decode cL_law 950 = .ok (.if_icmp .eq 5, 3) := by decide +kernel
theorem dL_law_953 : decode cL_law 953 = .ok (.iconst 0, 1) := by decide +kernel
theorem dL_law_954 : decode cL_law 954 = .ok (.ireturn, 1) := by decide +kernel
theorem dL_law_955 : decode cL_law 955 = .ok (.iload 5, 2) := by decide +kernel
theorem dL_law_957 : decode cL_law 957 = .ok (.ifCond .ne 22, 3) := by decide +kernel
theorem dL_law_960 : decode cL_law 960 = .ok (.aload_n 3, 1) := by decide +kernel
theorem dL_law_961 : decode cL_law 961 = .ok (.iconst 0, 1) := by decide +kernel
theorem dL_law_962 : decode cL_law 962 = .ok (.laload, 1) := by decide +kernel
theorem dL_law_963 : decode cL_law 963 = .ok (.iload 6, 2) := by decide +kernel
theorem dL_law_965 : decode cL_law 965 = .ok (.ifCond .eq 7, 3) := by decide +kernel
theorem dL_law_968 : decode cL_law 968 = .ok (.lconst 1, 1) := by decide +kernel
theorem dL_law_969 : decode cL_law 969 = .ok (.goto 4, 3) := by decide +kernel
theorem dL_law_972 : decode cL_law 972 = .ok (.lconst 0, 1) := by decide +kernel
theorem dL_law_973 : decode cL_law 973 = .ok (.lcmp, 1) := by decide +kernel
theorem dL_law_974 : decode cL_law 974 = .ok (.ifCond .eq 5, 3) := by decide +kernel
theorem dL_law_977 : decode cL_law 977 = .ok (.iconst 0, 1) := by decide +kernel
theorem dL_law_978 : decode cL_law 978 = .ok (.ireturn, 1) := by decide +kernel
theorem dL_law_979 : decode cL_law 979 = .ok (.goto 239, 3) := by decide +kernel
theorem dL_law_982 : decode cL_law 982 = .ok (.aload_n 1, 1) := by decide +kernel
theorem dL_law_983 : decode cL_law 983 = .ok (.aload_n 0, 1) := by decide +kernel
theorem dL_law_984 : decode cL_law 984 = .ok (.iload 4, 2) := by decide +kernel
theorem dL_law_986 : decode cL_law 986 = .ok (.iconst 1, 1) := by decide +kernel
theorem dL_law_987 : decode cL_law 987 = .ok (.iadd, 1) := by decide +kernel
theorem dL_law_988 : decode cL_law 988 = .ok (.iaload, 1) := by decide +kernel
theorem dL_law_989 : decode cL_law 989 = .ok (.aload_n 3, 1) := by decide +kernel
theorem dL_law_990 : decode cL_law 990 = .ok (.invokestatic 130, 3) := by decide +kernel
theorem dL_law_993 : decode cL_law 993 = .ok (.istore 5, 2) := by decide +kernel
theorem dL_law_995 : decode cL_law 995 = .ok (.aload_n 2, 1) := by decide +kernel
theorem dL_law_996 : decode cL_law 996 = .ok (.aload_n 0, 1) := by decide +kernel
theorem dL_law_997 : decode cL_law 997 = .ok (.iload 4, 2) := by decide +kernel
theorem dL_law_999 : decode cL_law 999 = .ok (.iconst 1, 1) := by decide +kernel
theorem dL_law_1000 : decode cL_law 1000 = .ok (.iadd, 1) := by decide +kernel
theorem dL_law_1001 : decode cL_law 1001 = .ok (.iaload, 1) := by decide +kernel
theorem dL_law_1002 : decode cL_law 1002 = .ok (.invokevirtual 132, 3) := by decide +kernel
theorem dL_law_1005 : decode cL_law 1005 = .ok (.istore 6, 2) := by decide +kernel
theorem dL_law_1007 : decode cL_law 1007 = .ok (.aload_n 2, 1) := by decide +kernel
theorem dL_law_1008 : decode cL_law 1008 = .ok (.invokevirtual 84, 3) := by decide +kernel
theorem dL_law_1011 : decode cL_law 1011 = .ok (.iload 5, 2) := by decide +kernel
theorem dL_law_1013 : decode cL_law 1013 = .ok (.if_icmp .eq 5, 3) := by decide +kernel
theorem dL_law_1016 : decode cL_law 1016 = .ok (.iconst 0, 1) := by decide +kernel
theorem dL_law_1017 : decode cL_law 1017 = .ok (.ireturn, 1) := by decide +kernel
theorem dL_law_1018 : decode cL_law 1018 = .ok (.iload 5, 2) := by decide +kernel
theorem dL_law_1020 : decode cL_law 1020 = .ok (.ifCond .ne 15, 3) := by decide +kernel
theorem dL_law_1023 : decode cL_law 1023 = .ok (.aload_n 3, 1) := by decide +kernel
theorem dL_law_1024 : decode cL_law 1024 = .ok (.iconst 0, 1) := by decide +kernel
theorem dL_law_1025 : decode cL_law 1025 = .ok (.laload, 1) := by decide +kernel
theorem dL_law_1026 : decode cL_law 1026 = .ok (.iload 6, 2) := by decide +kernel
theorem dL_law_1028 : decode cL_law 1028 = .ok (.i2l, 1) := by decide +kernel
theorem dL_law_1029 : decode cL_law 1029 = .ok (.lcmp, 1) := by decide +kernel
theorem dL_law_1030 : decode cL_law 1030 = .ok (.ifCond .eq 5, 3) := by decide +kernel
theorem dL_law_1033 : decode cL_law 1033 = .ok (.iconst 0, 1) := by decide +kernel
theorem dL_law_1034 : decode cL_law 1034 = .ok (.ireturn, 1) := by decide +kernel
theorem dL_law_1035 : decode cL_law 1035 = .ok (.goto 183, 3) := by decide +kernel
theorem dL_law_1038 : decode cL_law 1038 = .ok (.aload_n 1, 1) := by decide +kernel
theorem dL_law_1039 : decode cL_law 1039 = .ok (.aload_n 0, 1) := by decide +kernel
theorem dL_law_1040 : decode cL_law 1040 = .ok (.iload 4, 2) := by decide +kernel
theorem dL_law_1042 : decode cL_law 1042 = .ok (.iconst 1, 1) := by decide +kernel
theorem dL_law_1043 : decode cL_law 1043 = .ok (.iadd, 1) := by decide +kernel
theorem dL_law_1044 : decode cL_law 1044 = .ok (.iaload, 1) := by decide +kernel
theorem dL_law_1045 : decode cL_law 1045 = .ok (.aload_n 0, 1) := by decide +kernel
theorem dL_law_1046 : decode cL_law 1046 = .ok (.iload 4, 2) := by decide +kernel
theorem dL_law_1048 : decode cL_law 1048 = .ok (.iconst 2, 1) := by decide +kernel
theorem dL_law_1049 : decode cL_law 1049 = .ok (.iadd, 1) := by decide +kernel
theorem dL_law_1050 : decode cL_law 1050 = .ok (.iaload, 1) := by decide +kernel
theorem dL_law_1051 : decode cL_law 1051 = .ok (.aload_n 0, 1) := by decide +kernel
theorem dL_law_1052 : decode cL_law 1052 = .ok (.iload 4, 2) := by decide +kernel
theorem dL_law_1054 : decode cL_law 1054 = .ok (.iconst 3, 1) := by decide +kernel
theorem dL_law_1055 : decode cL_law 1055 = .ok (.iadd, 1) := by decide +kernel
theorem dL_law_1056 : decode cL_law 1056 = .ok (.iaload, 1) := by decide +kernel
theorem dL_law_1057 : decode cL_law 1057 = .ok (.aload_n 3, 1) := by decide +kernel
theorem dL_law_1058 : decode cL_law 1058 = .ok (.invokestatic 133, 3) := by decide +kernel
theorem dL_law_1061 : decode cL_law 1061 = .ok (.istore 5, 2) := by decide +kernel
theorem dL_law_1063 : decode cL_law 1063 = .ok (.aload_n 2, 1) := by decide +kernel
theorem dL_law_1064 : decode cL_law 1064 = .ok (.aload_n 0, 1) := by decide +kernel
theorem dL_law_1065 : decode cL_law 1065 = .ok (.iload 4, 2) := by decide +kernel
theorem dL_law_1067 : decode cL_law 1067 = .ok (.iconst 1, 1) := by decide +kernel
theorem dL_law_1068 : decode cL_law 1068 = .ok (.iadd, 1) := by decide +kernel
theorem dL_law_1069 : decode cL_law 1069 = .ok (.iaload, 1) := by decide +kernel
theorem dL_law_1070 : decode cL_law 1070 = .ok (.aload_n 0, 1) := by decide +kernel
theorem dL_law_1071 : decode cL_law 1071 = .ok (.iload 4, 2) := by decide +kernel
theorem dL_law_1073 : decode cL_law 1073 = .ok (.iconst 2, 1) := by decide +kernel
theorem dL_law_1074 : decode cL_law 1074 = .ok (.iadd, 1) := by decide +kernel
theorem dL_law_1075 : decode cL_law 1075 = .ok (.iaload, 1) := by decide +kernel
theorem dL_law_1076 : decode cL_law 1076 = .ok (.aload_n 0, 1) := by decide +kernel
theorem dL_law_1077 : decode cL_law 1077 = .ok (.iload 4, 2) := by decide +kernel
theorem dL_law_1079 : decode cL_law 1079 = .ok (.iconst 3, 1) := by decide +kernel
theorem dL_law_1080 : decode cL_law 1080 = .ok (.iadd, 1) := by decide +kernel
theorem dL_law_1081 : decode cL_law 1081 = .ok (.iaload, 1) := by decide +kernel
theorem dL_law_1082 : decode cL_law 1082 = .ok (.invokevirtual 136, 3) := by decide +kernel
theorem dL_law_1085 : decode cL_law 1085 = .ok (.istore 6, 2) := by decide +kernel
theorem dL_law_1087 : decode cL_law 1087 = .ok (.aload_n 2, 1) := by decide +kernel
theorem dL_law_1088 : decode cL_law 1088 = .ok (.invokevirtual 84, 3) := by decide +kernel
theorem dL_law_1091 : decode cL_law 1091 = .ok (.iload 5, 2) := by decide +kernel
theorem dL_law_1093 : decode cL_law 1093 = .ok (.if_icmp .eq 5, 3) := by decide +kernel
theorem dL_law_1096 : decode cL_law 1096 = .ok (.iconst 0, 1) := by decide +kernel
theorem dL_law_1097 : decode cL_law 1097 = .ok (.ireturn, 1) := by decide +kernel
theorem dL_law_1098 : decode cL_law 1098 = .ok (.iload 5, 2) := by decide +kernel
theorem dL_law_1100 : decode cL_law 1100 = .ok (.ifCond .ne 15, 3) := by decide +kernel
theorem dL_law_1103 : decode cL_law 1103 = .ok (.aload_n 3, 1) := by decide +kernel
theorem dL_law_1104 : decode cL_law 1104 = .ok (.iconst 0, 1) := by decide +kernel
theorem dL_law_1105 : decode cL_law 1105 = .ok (.laload, 1) := by decide +kernel
theorem dL_law_1106 : decode cL_law 1106 = .ok (.iload 6, 2) := by decide +kernel
theorem dL_law_1108 : decode cL_law 1108 = .ok (.i2l, 1) := by decide +kernel
theorem dL_law_1109 : decode cL_law 1109 = .ok (.lcmp, 1) := by decide +kernel
theorem dL_law_1110 : decode cL_law 1110 = .ok (.ifCond .eq 5, 3) := by decide +kernel
theorem dL_law_1113 : decode cL_law 1113 = .ok (.iconst 0, 1) := by decide +kernel
theorem dL_law_1114 : decode cL_law 1114 = .ok (.ireturn, 1) := by decide +kernel
theorem dL_law_1115 : decode cL_law 1115 = .ok (.goto 103, 3) := by decide +kernel
theorem dL_law_1118 : decode cL_law 1118 = .ok (.aload_n 1, 1) := by decide +kernel
theorem dL_law_1119 : decode cL_law 1119 = .ok (.aload_n 3, 1) := by decide +kernel
theorem dL_law_1120 : decode cL_law 1120 = .ok (.invokestatic 137, 3) := by decide +kernel
theorem dL_law_1123 : decode cL_law 1123 = .ok (.istore 5, 2) := by decide +kernel
theorem dL_law_1125 : decode cL_law 1125 = .ok (.aload_n 2, 1) := by decide +kernel
theorem dL_law_1126 : decode cL_law 1126 = .ok (.invokevirtual 139, 3) := by decide +kernel
theorem dL_law_1129 : decode cL_law 1129 = .ok (.istore 6, 2) := by decide +kernel
theorem dL_law_1131 : decode cL_law 1131 = .ok (.aload_n 2, 1) := by decide +kernel
theorem dL_law_1132 : decode cL_law 1132 = .ok (.invokevirtual 84, 3) := by decide +kernel
theorem dL_law_1135 : decode cL_law 1135 = .ok (.iload 5, 2) := by decide +kernel
theorem dL_law_1137 : decode cL_law 1137 = .ok (.if_icmp .eq 5, 3) := by decide +kernel
theorem dL_law_1140 : decode cL_law 1140 = .ok (.iconst 0, 1) := by decide +kernel
theorem dL_law_1141 : decode cL_law 1141 = .ok (.ireturn, 1) := by decide +kernel
theorem dL_law_1142 : decode cL_law 1142 = .ok (.iload 5, 2) := by decide +kernel
theorem dL_law_1144 : decode cL_law 1144 = .ok (.ifCond .ne 15, 3) := by decide +kernel
theorem dL_law_1147 : decode cL_law 1147 = .ok (.aload_n 3, 1) := by decide +kernel
theorem dL_law_1148 : decode cL_law 1148 = .ok (.iconst 0, 1) := by decide +kernel
theorem dL_law_1149 : decode cL_law 1149 = .ok (.laload, 1) := by decide +kernel
theorem dL_law_1150 : decode cL_law 1150 = .ok (.iload 6, 2) := by decide +kernel
theorem dL_law_1152 : decode cL_law 1152 = .ok (.i2l, 1) := by decide +kernel
theorem dL_law_1153 : decode cL_law 1153 = .ok (.lcmp, 1) := by decide +kernel
theorem dL_law_1154 : decode cL_law 1154 = .ok (.ifCond .eq 5, 3) := by decide +kernel
theorem dL_law_1157 : decode cL_law 1157 = .ok (.iconst 0, 1) := by decide +kernel
theorem dL_law_1158 : decode cL_law 1158 = .ok (.ireturn, 1) := by decide +kernel
theorem dL_law_1159 : decode cL_law 1159 = .ok (.goto 59, 3) := by decide +kernel
theorem dL_law_1162 : decode cL_law 1162 = .ok (.aload_n 1, 1) := by decide +kernel
theorem dL_law_1163 : decode cL_law 1163 = .ok (.aload_n 0, 1) := by decide +kernel
theorem dL_law_1164 : decode cL_law 1164 = .ok (.iload 4, 2) := by decide +kernel
theorem dL_law_1166 : decode cL_law 1166 = .ok (.iconst 1, 1) := by decide +kernel
theorem dL_law_1167 : decode cL_law 1167 = .ok (.iadd, 1) := by decide +kernel
theorem dL_law_1168 : decode cL_law 1168 = .ok (.iaload, 1) := by decide +kernel
theorem dL_law_1169 : decode cL_law 1169 = .ok (.aload_n 3, 1) := by decide +kernel
theorem dL_law_1170 : decode cL_law 1170 = .ok (.invokestatic 140, 3) := by decide +kernel
theorem dL_law_1173 : decode cL_law 1173 = .ok (.istore 5, 2) := by decide +kernel
theorem dL_law_1175 : decode cL_law 1175 = .ok (.aload_n 2, 1) := by decide +kernel
theorem dL_law_1176 : decode cL_law 1176 = .ok (.aload_n 0, 1) := by decide +kernel
theorem dL_law_1177 : decode cL_law 1177 = .ok (.iload 4, 2) := by decide +kernel
theorem dL_law_1179 : decode cL_law 1179 = .ok (.iconst 1, 1) := by decide +kernel
theorem dL_law_1180 : decode cL_law 1180 = .ok (.iadd, 1) := by decide +kernel
theorem dL_law_1181 : decode cL_law 1181 = .ok (.iaload, 1) := by decide +kernel
theorem dL_law_1182 : decode cL_law 1182 = .ok (.invokevirtual 142, 3) := by decide +kernel
theorem dL_law_1185 : decode cL_law 1185 = .ok (.istore 6, 2) := by decide +kernel
theorem dL_law_1187 : decode cL_law 1187 = .ok (.aload_n 2, 1) := by decide +kernel
theorem dL_law_1188 : decode cL_law 1188 = .ok (.invokevirtual 84, 3) := by decide +kernel
theorem dL_law_1191 : decode cL_law 1191 = .ok (.iload 5, 2) := by decide +kernel
theorem dL_law_1193 : decode cL_law 1193 = .ok (.if_icmp .eq 5, 3) := by decide +kernel
theorem dL_law_1196 : decode cL_law 1196 = .ok (.iconst 0, 1) := by decide +kernel
theorem dL_law_1197 : decode cL_law 1197 = .ok (.ireturn, 1) := by decide +kernel
theorem dL_law_1198 : decode cL_law 1198 = .ok (.iload 5, 2) := by decide +kernel
theorem dL_law_1200 : decode cL_law 1200 = .ok (.ifCond .ne 15, 3) := by decide +kernel
theorem dL_law_1203 : decode cL_law 1203 = .ok (.aload_n 3, 1) := by decide +kernel
theorem dL_law_1204 : decode cL_law 1204 = .ok (.iconst 0, 1) := by decide +kernel
theorem dL_law_1205 : decode cL_law 1205 = .ok (.laload, 1) := by decide +kernel
theorem dL_law_1206 : decode cL_law 1206 = .ok (.iload 6, 2) := by decide +kernel
theorem dL_law_1208 : decode cL_law 1208 = .ok (.i2l, 1) := by decide +kernel
theorem dL_law_1209 : decode cL_law 1209 = .ok (.lcmp, 1) := by decide +kernel
theorem dL_law_1210 : decode cL_law 1210 = .ok (.ifCond .eq 5, 3) := by decide +kernel
theorem dL_law_1213 : decode cL_law 1213 = .ok (.iconst 0, 1) := by decide +kernel
theorem dL_law_1214 : decode cL_law 1214 = .ok (.ireturn, 1) := by decide +kernel
theorem dL_law_1215 : decode cL_law 1215 = .ok (.goto 3, 3) := by decide +kernel
theorem dL_law_1218 : decode cL_law 1218 = .ok (.iinc 4 5, 3) := by decide +kernel
theorem dL_law_1221 : decode cL_law 1221 = .ok (.goto (-1198), 3) := by decide +kernel
theorem dL_law_1224 : decode cL_law 1224 = .ok (.iconst 1, 1) := by decide +kernel
theorem dL_law_1225 : decode cL_law 1225 = .ok (.ireturn, 1) := by decide +kernel
abbrev vwCl : List vw_C := [(RX0, TX0, 7), (RX1, TX1, 6), (RX2, TX2, 10), (RX3, TX3, 4), (RX4, TX4, 5), (RX5, TX5, 20)]
