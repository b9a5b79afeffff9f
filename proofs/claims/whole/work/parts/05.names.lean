/-! names of classes, fields, methods (as the program prints them), and their words in the tables -/
def RX0 : String := "GuardFlow$Body"
def TX0 : u_T := fun k => match k with
  | 0 => ("GuardFlow$Body", "place", "I", true)
  | 1 => ("GuardFlow$Body", "kind", "[I", true)
  | 2 => ("GuardFlow$Body", "number", "[I", true)
  | 3 => ("GuardFlow$Body", "from", "[I", true)
  | 4 => ("GuardFlow$Body", "to", "[I", true)
  | 5 => ("GuardFlow$Body", "target", "[I", true)
  | 6 => ("GuardFlow$Body", "length", "I", false)
  | 7 => ("GuardFlow$Body", "handlers", "I", false)
  | 8 => ("GuardFlow$Body", "may", "[J", true)
  | 9 => ("GuardFlow$Body", "waiting", "[Z", true)
  | 10 => ("GuardFlow$Body", "aimedAt", "[Z", true)
  | 11 => ("GuardFlow$Body", "entry", "J", false)
  | 12 => ("GuardFlow$Body", "exit", "J", false)
  | 13 => ("GuardFlow$Body", "all", "J", false)
  | _ => ("GuardFlow$Body", "grown", "Z", false)
def tyX0 : Nat → FieldType := fun k => match k with
  | 0 => .int
  | 1 => .array .int
  | 2 => .array .int
  | 3 => .array .int
  | 4 => .array .int
  | 5 => .array .int
  | 6 => .int
  | 7 => .int
  | 8 => .array .long
  | 9 => .array .boolean
  | 10 => .array .boolean
  | 11 => .long
  | 12 => .long
  | 13 => .long
  | _ => .boolean
theorem nmX0 : ∀ a, a < 15 → ∀ b, b < 15 → a ≠ b → (TX0 a).2.1 ≠ (TX0 b).2.1 := by decide +kernel
theorem tyX0_ok : ∀ k, k < 15 → parseFieldDescriptor (TX0 k).2.2.1 = some (tyX0 k) := by decide +kernel
def RX1 : String := "GuardFlow$Flow"
def TX1 : u_T := fun k => match k with
  | 0 => ("GuardFlow$Flow", "table", "LGuardFlow$Table;", true)
  | 1 => ("GuardFlow$Flow", "stack", "[I", true)
  | 2 => ("GuardFlow$Flow", "top", "I", false)
  | _ => ("GuardFlow$Flow", "someGrown", "Z", false)
def tyX1 : Nat → FieldType := fun k => match k with
  | 0 => .object "GuardFlow$Table"
  | 1 => .array .int
  | 2 => .int
  | _ => .boolean
theorem nmX1 : ∀ a, a < 4 → ∀ b, b < 4 → a ≠ b → (TX1 a).2.1 ≠ (TX1 b).2.1 := by decide +kernel
theorem tyX1_ok : ∀ k, k < 4 → parseFieldDescriptor (TX1 k).2.2.1 = some (tyX1 k) := by decide +kernel
def RX2 : String := "GuardFlow$Forger"
def TX2 : u_T := fun k => match k with
  | 0 => ("GuardFlow$Forger", "table", "LGuardFlow$Table;", true)
  | _ => ("GuardFlow$Forger", "places", "[I", true)
def tyX2 : Nat → FieldType := fun k => match k with
  | 0 => .object "GuardFlow$Table"
  | _ => .array .int
theorem nmX2 : ∀ a, a < 2 → ∀ b, b < 2 → a ≠ b → (TX2 a).2.1 ≠ (TX2 b).2.1 := by decide +kernel
theorem tyX2_ok : ∀ k, k < 2 → parseFieldDescriptor (TX2 k).2.2.1 = some (tyX2 k) := by decide +kernel
def RX3 : String := "GuardFlow$Program"
def TX3 : u_T := fun k => match k with
  | 0 => ("GuardFlow$Program", "bodies", "[LGuardFlow$Body;", true)
  | 1 => ("GuardFlow$Program", "count", "I", false)
  | _ => ("GuardFlow$Program", "settled", "Z", false)
def tyX3 : Nat → FieldType := fun k => match k with
  | 0 => .array (.object "GuardFlow$Body")
  | 1 => .int
  | _ => .boolean
theorem nmX3 : ∀ a, a < 3 → ∀ b, b < 3 → a ≠ b → (TX3 a).2.1 ≠ (TX3 b).2.1 := by decide +kernel
theorem tyX3_ok : ∀ k, k < 3 → parseFieldDescriptor (TX3 k).2.2.1 = some (tyX3 k) := by decide +kernel
def RX4 : String := "GuardFlow$Table"
def TX4 : u_T := fun k => match k with
  | 0 => ("GuardFlow$Table", "always", "[Z", true)
  | 1 => ("GuardFlow$Table", "ways", "[J", true)
  | 2 => ("GuardFlow$Table", "states", "I", false)
  | _ => ("GuardFlow$Table", "wayCount", "I", false)
def tyX4 : Nat → FieldType := fun k => match k with
  | 0 => .array .boolean
  | 1 => .array .long
  | 2 => .int
  | _ => .int
theorem nmX4 : ∀ a, a < 4 → ∀ b, b < 4 → a ≠ b → (TX4 a).2.1 ≠ (TX4 b).2.1 := by decide +kernel
theorem tyX4_ok : ∀ k, k < 4 → parseFieldDescriptor (TX4 k).2.2.1 = some (tyX4 k) := by decide +kernel
def RX5 : String := "GuardFlow"
def TX5 : u_T := fun k => match k with
  | 0 => ("GuardFlow", "table", "LGuardFlow$Table;", true)
  | 1 => ("GuardFlow", "flow", "LGuardFlow$Flow;", true)
  | 2 => ("GuardFlow", "forger", "LGuardFlow$Forger;", true)
  | 3 => ("GuardFlow", "current", "LGuardFlow$Program;", false)
  | 4 => ("GuardFlow", "beside", "LGuardFlow$Program;", false)
  | _ => ("GuardFlow", "somethingForged", "Z", false)
def tyX5 : Nat → FieldType := fun k => match k with
  | 0 => .object "GuardFlow$Table"
  | 1 => .object "GuardFlow$Flow"
  | 2 => .object "GuardFlow$Forger"
  | 3 => .object "GuardFlow$Program"
  | 4 => .object "GuardFlow$Program"
  | _ => .boolean
theorem nmX5 : ∀ a, a < 6 → ∀ b, b < 6 → a ≠ b → (TX5 a).2.1 ≠ (TX5 b).2.1 := by decide +kernel
theorem tyX5_ok : ∀ k, k < 6 → parseFieldDescriptor (TX5 k).2.2.1 = some (tyX5 k) := by decide +kernel
def RX6 : String := "GuardFlowModel"
def TX6 : u_T := fun k => match k with
  | 0 => ("GuardFlowModel", "thrown", "I", false)
  | 1 => ("GuardFlowModel", "states", "I", false)
  | 2 => ("GuardFlowModel", "ways", "[Z", true)
  | 3 => ("GuardFlowModel", "needed", "[Z", true)
  | 4 => ("GuardFlowModel", "many", "[I", true)
  | 5 => ("GuardFlowModel", "sizes", "[I", true)
  | 6 => ("GuardFlowModel", "handlers", "[I", true)
  | 7 => ("GuardFlowModel", "kinds", "[I", true)
  | 8 => ("GuardFlowModel", "numbers", "[I", true)
  | 9 => ("GuardFlowModel", "froms", "[I", true)
  | 10 => ("GuardFlowModel", "tos", "[I", true)
  | 11 => ("GuardFlowModel", "targets", "[I", true)
  | 12 => ("GuardFlowModel", "isForged", "Z", false)
  | 13 => ("GuardFlowModel", "found", "[Z", true)
  | 14 => ("GuardFlowModel", "mays", "[J", true)
  | 15 => ("GuardFlowModel", "entries", "[J", true)
  | 16 => ("GuardFlowModel", "exits", "[J", true)
  | 17 => ("GuardFlowModel", "alls", "[J", true)
  | 18 => ("GuardFlowModel", "more", "Z", false)
  | _ => ("GuardFlowModel", "shifts", "[I", true)
def tyX6 : Nat → FieldType := fun k => match k with
  | 0 => .int
  | 1 => .int
  | 2 => .array .boolean
  | 3 => .array .boolean
  | 4 => .array .int
  | 5 => .array .int
  | 6 => .array .int
  | 7 => .array .int
  | 8 => .array .int
  | 9 => .array .int
  | 10 => .array .int
  | 11 => .array .int
  | 12 => .boolean
  | 13 => .array .boolean
  | 14 => .array .long
  | 15 => .array .long
  | 16 => .array .long
  | 17 => .array .long
  | 18 => .boolean
  | _ => .array .int
theorem nmX6 : ∀ a, a < 20 → ∀ b, b < 20 → a ≠ b → (TX6 a).2.1 ≠ (TX6 b).2.1 := by decide +kernel
theorem tyX6_ok : ∀ k, k < 20 → parseFieldDescriptor (TX6 k).2.2.1 = some (tyX6 k) := by decide +kernel
def RJ13 : String := "java/lang/Long"
abbrev cJ13_bitCount_95d88 : ByteArray := prog_9_method_50_code
def yJ13_bitCount_95d88 : MethodName := ⟨RJ13, "bitCount", "(J)I"⟩
abbrev cX0_addHandler : ByteArray := prog_2_method_8_code
def yX0_addHandler : MethodName := ⟨RX0, "addHandler", "(III)V"⟩
abbrev cX0_hasInstruction : ByteArray := prog_2_method_3_code
def yX0_hasInstruction : MethodName := ⟨RX0, "hasInstruction", "(I)Z"⟩
abbrev cX0_canHandle : ByteArray := prog_2_method_7_code
def yX0_canHandle : MethodName := ⟨RX0, "canHandle", "(III)Z"⟩
abbrev cX0_canHold : ByteArray := prog_2_method_4_code
def yX0_canHold : MethodName := ⟨RX0, "canHold", "(II)Z"⟩
abbrev cX0_countOfKind : ByteArray := prog_2_method_10_code
def yX0_countOfKind : MethodName := ⟨RX0, "countOfKind", "(I)I"⟩
abbrev cX0_countReached : ByteArray := prog_2_method_11_code
def yX0_countReached : MethodName := ⟨RX0, "countReached", "()I"⟩
abbrev cX0_goesToNumber : ByteArray := prog_2_method_6_code
def yX0_goesToNumber : MethodName := ⟨RX0, "goesToNumber", "(I)Z"⟩
abbrev cX0_forgetSets : ByteArray := prog_2_method_12_code
def yX0_forgetSets : MethodName := ⟨RX0, "forgetSets", "()V"⟩
abbrev cX0_init : ByteArray := prog_2_method_1_code
def yX0_init : MethodName := ⟨RX0, "<init>", "(I)V"⟩
abbrev cX0_isGuarded : ByteArray := prog_2_method_9_code
def yX0_isGuarded : MethodName := ⟨RX0, "isGuarded", "(I)Z"⟩
abbrev cX0_put : ByteArray := prog_2_method_5_code
def yX0_put : MethodName := ⟨RX0, "put", "(III)V"⟩
abbrev cX0_renew : ByteArray := prog_2_method_2_code
def yX0_renew : MethodName := ⟨RX0, "renew", "(I)V"⟩
abbrev cX4_waysFrom : ByteArray := prog_6_method_8_code
def yX4_waysFrom : MethodName := ⟨RX4, "waysFrom", "(II)J"⟩
abbrev cX4_goneTo : ByteArray := prog_6_method_11_code
def yX4_goneTo : MethodName := ⟨RX4, "goneTo", "(IJ)J"⟩
abbrev cX1_afterOf : ByteArray := prog_3_method_5_code
def yX1_afterOf : MethodName := ⟨RX1, "afterOf", "(LGuardFlow$Body;ILGuardFlow$Body;)J"⟩
abbrev cX3_body : ByteArray := prog_5_method_3_code
def yX3_body : MethodName := ⟨RX3, "body", "(I)LGuardFlow$Body;"⟩
abbrev cX1_forgetAll : ByteArray := prog_3_method_3_code
def yX1_forgetAll : MethodName := ⟨RX1, "forgetAll", "(LGuardFlow$Program;)V"⟩
abbrev cX1_waitAt : ByteArray := prog_3_method_11_code
def yX1_waitAt : MethodName := ⟨RX1, "waitAt", "(LGuardFlow$Body;I)V"⟩
abbrev cX1_growMay : ByteArray := prog_3_method_9_code
def yX1_growMay : MethodName := ⟨RX1, "growMay", "(LGuardFlow$Body;IJ)V"⟩
abbrev cX1_growEntry : ByteArray := prog_3_method_8_code
def yX1_growEntry : MethodName := ⟨RX1, "growEntry", "(LGuardFlow$Body;J)V"⟩
abbrev cX1_growSummary : ByteArray := prog_3_method_10_code
def yX1_growSummary : MethodName := ⟨RX1, "growSummary", "(LGuardFlow$Body;JJ)V"⟩
abbrev cX1_init : ByteArray := prog_3_method_1_code
def yX1_init : MethodName := ⟨RX1, "<init>", "(LGuardFlow$Table;)V"⟩
abbrev cX1_passOn : ByteArray := prog_3_method_6_code
def yX1_passOn : MethodName := ⟨RX1, "passOn", "(LGuardFlow$Body;IJ)V"⟩
abbrev cX1_passToHandlers : ByteArray := prog_3_method_7_code
def yX1_passToHandlers : MethodName := ⟨RX1, "passToHandlers", "(LGuardFlow$Body;IJ)V"⟩
abbrev cX1_step : ByteArray := prog_3_method_4_code
def yX1_step : MethodName := ⟨RX1, "step", "(LGuardFlow$Program;I)V"⟩
abbrev cX1_wakeCallersIn : ByteArray := prog_3_method_13_code
def yX1_wakeCallersIn : MethodName := ⟨RX1, "wakeCallersIn", "(LGuardFlow$Program;LGuardFlow$Body;)V"⟩
abbrev cX1_wakeCallers : ByteArray := prog_3_method_12_code
def yX1_wakeCallers : MethodName := ⟨RX1, "wakeCallers", "(LGuardFlow$Program;)V"⟩
abbrev cX1_settle : ByteArray := prog_3_method_2_code
def yX1_settle : MethodName := ⟨RX1, "settle", "(LGuardFlow$Program;)V"⟩
abbrev cX2_copyHandlers : ByteArray := prog_4_method_7_code
def yX2_copyHandlers : MethodName := ⟨RX2, "copyHandlers", "(LGuardFlow$Body;LGuardFlow$Body;)V"⟩
abbrev cX4_bitOf : ByteArray := prog_6_method_9_code
def yX4_bitOf : MethodName := ⟨RX4, "bitOf", "(I)J"⟩
abbrev cX4_changesSome : ByteArray := prog_6_method_14_code
def yX4_changesSome : MethodName := ⟨RX4, "changesSome", "(IJ)Z"⟩
abbrev cX4_needsGuard : ByteArray := prog_6_method_12_code
def yX4_needsGuard : MethodName := ⟨RX4, "needsGuard", "(LGuardFlow$Body;I)Z"⟩
abbrev cX4_lacksGuard : ByteArray := prog_6_method_13_code
def yX4_lacksGuard : MethodName := ⟨RX4, "lacksGuard", "(LGuardFlow$Body;I)Z"⟩
abbrev cX2_copyInstructions : ByteArray := prog_4_method_5_code
def yX2_copyInstructions : MethodName := ⟨RX2, "copyInstructions", "(LGuardFlow$Body;LGuardFlow$Body;)V"⟩
abbrev cX3_clear : ByteArray := prog_5_method_2_code
def yX3_clear : MethodName := ⟨RX3, "clear", "()V"⟩
abbrev cX2_lackingIn : ByteArray := prog_4_method_3_code
def yX2_lackingIn : MethodName := ⟨RX2, "lackingIn", "(LGuardFlow$Body;)I"⟩
abbrev cX3_append : ByteArray := prog_5_method_4_code
def yX3_append : MethodName := ⟨RX3, "append", "(I)LGuardFlow$Body;"⟩
abbrev cX2_moveTargets : ByteArray := prog_4_method_6_code
def yX2_moveTargets : MethodName := ⟨RX2, "moveTargets", "(LGuardFlow$Body;)V"⟩
abbrev cX2_copyWithGuards : ByteArray := prog_4_method_4_code
def yX2_copyWithGuards : MethodName := ⟨RX2, "copyWithGuards", "(LGuardFlow$Program;LGuardFlow$Program;)V"⟩
abbrev cX2_countLacking : ByteArray := prog_4_method_2_code
def yX2_countLacking : MethodName := ⟨RX2, "countLacking", "(LGuardFlow$Program;)I"⟩
abbrev cX2_init : ByteArray := prog_4_method_1_code
def yX2_init : MethodName := ⟨RX2, "<init>", "(LGuardFlow$Table;)V"⟩
abbrev cX3_countInstructions : ByteArray := prog_5_method_5_code
def yX3_countInstructions : MethodName := ⟨RX3, "countInstructions", "()I"⟩
abbrev cX3_init : ByteArray := prog_5_method_1_code
def yX3_init : MethodName := ⟨RX3, "<init>", "()V"⟩
abbrev cX4_addWay : ByteArray := prog_6_method_7_code
def yX4_addWay : MethodName := ⟨RX4, "addWay", "(III)V"⟩
abbrev cX4_isCall : ByteArray := prog_6_method_3_code
def yX4_isCall : MethodName := ⟨RX4, "isCall", "(I)Z"⟩
abbrev cX4_isState : ByteArray := prog_6_method_5_code
def yX4_isState : MethodName := ⟨RX4, "isState", "(I)Z"⟩
abbrev cX4_canBe : ByteArray := prog_6_method_4_code
def yX4_canBe : MethodName := ⟨RX4, "canBe", "(III)Z"⟩
abbrev cX4_countAlways : ByteArray := prog_6_method_10_code
def yX4_countAlways : MethodName := ⟨RX4, "countAlways", "()I"⟩
abbrev cX4_hasWay : ByteArray := prog_6_method_6_code
def yX4_hasWay : MethodName := ⟨RX4, "hasWay", "(III)Z"⟩
abbrev cX4_init : ByteArray := prog_6_method_1_code
def yX4_init : MethodName := ⟨RX4, "<init>", "()V"⟩
abbrev cX4_renew : ByteArray := prog_6_method_2_code
def yX4_renew : MethodName := ⟨RX4, "renew", "(I)V"⟩
abbrev cX5_noteChange : ByteArray := prog_1_method_18_code
def yX5_noteChange : MethodName := ⟨RX5, "noteChange", "()V"⟩
abbrev cX5_always : ByteArray := prog_1_method_4_code
def yX5_always : MethodName := ⟨RX5, "always", "(IZ)Z"⟩
abbrev cX5_begin : ByteArray := prog_1_method_2_code
def yX5_begin : MethodName := ⟨RX5, "begin", "(I)Z"⟩
abbrev cX5_programOf : ByteArray := prog_1_method_19_code
def yX5_programOf : MethodName := ⟨RX5, "programOf", "(Z)LGuardFlow$Program;"⟩
abbrev cX5_firstUncertified : ByteArray := prog_1_method_21_code
def yX5_firstUncertified : MethodName := ⟨RX5, "firstUncertified", "(LGuardFlow$Body;)I"⟩
abbrev cX5_certify : ByteArray := prog_1_method_10_code
def yX5_certify : MethodName := ⟨RX5, "certify", "(Z)I"⟩
abbrev cX5_code : ByteArray := prog_1_method_6_code
def yX5_code : MethodName := ⟨RX5, "code", "(IIII)Z"⟩
abbrev cX5_forge : ByteArray := prog_1_method_8_code
def yX5_forge : MethodName := ⟨RX5, "forge", "()I"⟩
abbrev cX5_function : ByteArray := prog_1_method_5_code
def yX5_function : MethodName := ⟨RX5, "function", "(I)I"⟩
abbrev cX5_goes : ByteArray := prog_1_method_16_code
def yX5_goes : MethodName := ⟨RX5, "goes", "(III)Z"⟩
abbrev cX5_handler : ByteArray := prog_1_method_7_code
def yX5_handler : MethodName := ⟨RX5, "handler", "(IIII)Z"⟩
abbrev cX5_init : ByteArray := prog_1_method_1_code
def yX5_init : MethodName := ⟨RX5, "<init>", "()V"⟩
abbrev cX5_look : ByteArray := prog_1_method_17_code
def yX5_look : MethodName := ⟨RX5, "look", "(I)I"⟩
abbrev cX5_settledBody : ByteArray := prog_1_method_20_code
def yX5_settledBody : MethodName := ⟨RX5, "settledBody", "(ZI)LGuardFlow$Body;"⟩
abbrev cX5_may : ByteArray := prog_1_method_12_code
def yX5_may : MethodName := ⟨RX5, "may", "(ZII)J"⟩
abbrev cX5_of : ByteArray := prog_1_method_11_code
def yX5_of : MethodName := ⟨RX5, "of", "(ZIII)I"⟩
abbrev cX5_range : ByteArray := prog_1_method_15_code
def yX5_range : MethodName := ⟨RX5, "range", "(ZIII)I"⟩
abbrev cX5_set : ByteArray := prog_1_method_13_code
def yX5_set : MethodName := ⟨RX5, "set", "(ZII)J"⟩
abbrev cX5_size : ByteArray := prog_1_method_14_code
def yX5_size : MethodName := ⟨RX5, "size", "(ZII)I"⟩
abbrev cX5_take : ByteArray := prog_1_method_9_code
def yX5_take : MethodName := ⟨RX5, "take", "()Z"⟩
abbrev cX5_way : ByteArray := prog_1_method_3_code
def yX5_way : MethodName := ⟨RX5, "way", "(III)Z"⟩
abbrev cX6_change : ByteArray := prog_8_method_3_code
def yX6_change : MethodName := ⟨RX6, "change", "()V"⟩
abbrev cX6_always : ByteArray := prog_8_method_10_code
def yX6_always : MethodName := ⟨RX6, "always", "(IZ)Z"⟩
abbrev cX6_begin : ByteArray := prog_8_method_7_code
def yX6_begin : MethodName := ⟨RX6, "begin", "(I)Z"⟩
abbrev cX6_below : ByteArray := prog_8_method_13_code
def yX6_below : MethodName := ⟨RX6, "below", "(II)I"⟩
abbrev cX6_bits : ByteArray := prog_8_method_30_code
def yX6_bits : MethodName := ⟨RX6, "bits", "(J)I"⟩
abbrev cX6_isState : ByteArray := prog_8_method_4_code
def yX6_isState : MethodName := ⟨RX6, "isState", "(I)Z"⟩
abbrev cX6_canWay : ByteArray := prog_8_method_5_code
def yX6_canWay : MethodName := ⟨RX6, "canWay", "(III)Z"⟩
abbrev cX6_isGoal : ByteArray := prog_8_method_16_code
def yX6_isGoal : MethodName := ⟨RX6, "isGoal", "(III)Z"⟩
abbrev cX6_isGuarded : ByteArray := prog_8_method_17_code
def yX6_isGuarded : MethodName := ⟨RX6, "isGuarded", "(III)Z"⟩
abbrev cX6_join : ByteArray := prog_8_method_18_code
def yX6_join : MethodName := ⟨RX6, "join", "([JIJ)V"⟩
abbrev cX6_wayAt : ByteArray := prog_8_method_6_code
def yX6_wayAt : MethodName := ⟨RX6, "wayAt", "(III)I"⟩
abbrev cX6_led : ByteArray := prog_8_method_19_code
def yX6_led : MethodName := ⟨RX6, "led", "(JI)J"⟩
abbrev cX6_goOn : ByteArray := prog_8_method_20_code
def yX6_goOn : MethodName := ⟨RX6, "goOn", "(III)V"⟩
abbrev cX6_find : ByteArray := prog_8_method_21_code
def yX6_find : MethodName := ⟨RX6, "find", "(I)V"⟩
abbrev cX6_needs : ByteArray := prog_8_method_22_code
def yX6_needs : MethodName := ⟨RX6, "needs", "(III)Z"⟩
abbrev cX6_lacks : ByteArray := prog_8_method_23_code
def yX6_lacks : MethodName := ⟨RX6, "lacks", "(III)Z"⟩
abbrev cX6_certify : ByteArray := prog_8_method_28_code
def yX6_certify : MethodName := ⟨RX6, "certify", "(Z)I"⟩
abbrev cX6_isThere : ByteArray := prog_8_method_12_code
def yX6_isThere : MethodName := ⟨RX6, "isThere", "(III)Z"⟩
abbrev cX6_code : ByteArray := prog_8_method_14_code
def yX6_code : MethodName := ⟨RX6, "code", "(IIII)Z"⟩
abbrev cX6_comeTo : ByteArray := prog_8_method_35_code
def yX6_comeTo : MethodName := ⟨RX6, "comeTo", "(II)I"⟩
abbrev cX6_countOf : ByteArray := prog_8_method_34_code
def yX6_countOf : MethodName := ⟨RX6, "countOf", "(III)I"⟩
abbrev cX6_lacking : ByteArray := prog_8_method_24_code
def yX6_lacking : MethodName := ⟨RX6, "lacking", "(I)I"⟩
abbrev cX6_weave : ByteArray := prog_8_method_26_code
def yX6_weave : MethodName := ⟨RX6, "weave", "(I)V"⟩
abbrev cX6_forge : ByteArray := prog_8_method_25_code
def yX6_forge : MethodName := ⟨RX6, "forge", "()I"⟩
abbrev cX6_function : ByteArray := prog_8_method_11_code
def yX6_function : MethodName := ⟨RX6, "function", "(I)I"⟩
abbrev cX6_goes : ByteArray := prog_8_method_9_code
def yX6_goes : MethodName := ⟨RX6, "goes", "(III)Z"⟩
abbrev cX6_handler : ByteArray := prog_8_method_15_code
def yX6_handler : MethodName := ⟨RX6, "handler", "(IIII)Z"⟩
abbrev cX6_init : ByteArray := prog_8_method_1_code
def yX6_init : MethodName := ⟨RX6, "<init>", "()V"⟩
abbrev cX6_instructions : ByteArray := prog_8_method_38_code
def yX6_instructions : MethodName := ⟨RX6, "instructions", "(I)I"⟩
abbrev cX6_wayMany : ByteArray := prog_8_method_39_code
def yX6_wayMany : MethodName := ⟨RX6, "wayMany", "()I"⟩
abbrev cX6_neededMany : ByteArray := prog_8_method_40_code
def yX6_neededMany : MethodName := ⟨RX6, "neededMany", "()I"⟩
abbrev cX6_look : ByteArray := prog_8_method_41_code
def yX6_look : MethodName := ⟨RX6, "look", "(I)I"⟩
abbrev cX6_which : ByteArray := prog_8_method_29_code
def yX6_which : MethodName := ⟨RX6, "which", "(ZII)I"⟩
abbrev cX6_may : ByteArray := prog_8_method_32_code
def yX6_may : MethodName := ⟨RX6, "may", "(ZII)J"⟩
abbrev cX6_of : ByteArray := prog_8_method_31_code
def yX6_of : MethodName := ⟨RX6, "of", "(ZIII)I"⟩
abbrev cX6_range : ByteArray := prog_8_method_37_code
def yX6_range : MethodName := ⟨RX6, "range", "(ZIII)I"⟩
abbrev cX6_set : ByteArray := prog_8_method_33_code
def yX6_set : MethodName := ⟨RX6, "set", "(ZII)J"⟩
abbrev cX6_size : ByteArray := prog_8_method_36_code
def yX6_size : MethodName := ⟨RX6, "size", "(ZII)I"⟩
abbrev cX6_take : ByteArray := prog_8_method_27_code
def yX6_take : MethodName := ⟨RX6, "take", "()Z"⟩
abbrev cX6_way : ByteArray := prog_8_method_8_code
def yX6_way : MethodName := ⟨RX6, "way", "(III)Z"⟩
def R_law : String := "GuardFlowLaw"
abbrev gz_cl : List vw_C := [(RX0, TX0, 15), (RX1, TX1, 4), (RX2, TX2, 2), (RX3, TX3, 3), (RX4, TX4, 4), (RX5, TX5, 6), (RX6, TX6, 20)]
abbrev gz_at : List FieldType := [.int, .long, .boolean, .object RX0]
def gz_tb : List Cond := lw_tbl.filter goodWord
def gz_nb : List Cond := lw_tbl.filter gx_nest
theorem gz_mem {w : Cond} (i : Nat) (h : tables_1[i]? = some w) (hg : goodWord w = true) : w ∈ gz_tb := List.mem_filter.mpr ⟨List.mem_append_right _ (List.mem_of_getElem? h), hg⟩
theorem gz_sel {w : Cond} (h : w ∈ k2_sels lw_privs) (hg : goodWord w = true) : w ∈ gz_tb := List.mem_filter.mpr ⟨List.mem_append_left _ h, hg⟩
theorem gz_nst {w : Cond} (i : Nat) (h : tables_1[i]? = some w) (hg : gx_nest w = true) : w ∈ gz_nb := List.mem_filter.mpr ⟨List.mem_append_right _ (List.mem_of_getElem? h), hg⟩
theorem gz_c1 {w : Cond} (i : Nat) (h : tables_1_1[i]? = some w) (hg : goodWord w = true) : w ∈ gz_tb := List.mem_filter.mpr ⟨List.mem_append_right _ (show w ∈ tables_1_1 ++ (tables_1_2 ++ tables_1_3) from List.mem_append_left _ (List.mem_of_getElem? h)), hg⟩
theorem gz_c2 {w : Cond} (i : Nat) (h : tables_1_2[i]? = some w) (hg : goodWord w = true) : w ∈ gz_tb := List.mem_filter.mpr ⟨List.mem_append_right _ (show w ∈ tables_1_1 ++ (tables_1_2 ++ tables_1_3) from List.mem_append_right _ (List.mem_append_left _ (List.mem_of_getElem? h))), hg⟩
theorem gz_c3 {w : Cond} (i : Nat) (h : tables_1_3[i]? = some w) (hg : goodWord w = true) : w ∈ gz_tb := List.mem_filter.mpr ⟨List.mem_append_right _ (show w ∈ tables_1_1 ++ (tables_1_2 ++ tables_1_3) from List.mem_append_right _ (List.mem_append_right _ (List.mem_of_getElem? h))), hg⟩
theorem wl_2 : Cond.initialized RX4 ∈ gz_tb := gz_mem 2 (by decide +kernel) rfl
theorem wl_3 : Cond.initialized RX1 ∈ gz_tb := gz_mem 3 (by decide +kernel) rfl
theorem wl_4 : Cond.initialized RX2 ∈ gz_tb := gz_mem 4 (by decide +kernel) rfl
theorem wl_5 : Cond.initialized RX3 ∈ gz_tb := gz_mem 5 (by decide +kernel) rfl
theorem wl_7 : Cond.initialized RX0 ∈ gz_tb := gz_mem 7 (by decide +kernel) rfl
theorem wl_14 : Cond.methodLink RX5 1 Lib.objectInit ∈ gz_tb := gz_mem 14 (by decide +kernel) rfl
theorem wl_15 : Cond.instanceMethod Lib.objectInit ∈ gz_tb := gz_mem 15 (by decide +kernel) rfl
theorem wl_16 : Cond.code Lib.objectInit ⟨#[0xb1]⟩ 1 none ∈ gz_tb := (gz_c1 16 rfl rfl)
theorem wl_17 : Cond.classLink RX5 7 RX4 ∈ gz_tb := gz_mem 17 (by decide +kernel) rfl
theorem wl_18 : Cond.instantiable RX4 4 ∈ gz_tb := gz_mem 18 (by decide +kernel) rfl
theorem wn_19 : Cond.methodLinkNest RX5 9 yX4_init RX5 ∈ gz_nb := gz_nst 19 (by decide +kernel) rfl
theorem wl_20 : Cond.instanceMethod yX4_init ∈ gz_tb := gz_mem 20 (by decide +kernel) rfl
theorem wl_22 : Cond.methodLink RX4 3 Lib.objectInit ∈ gz_tb := gz_mem 22 (by decide +kernel) rfl
theorem wl_23 : Cond.fieldLink RX4 9 (TX4 0).1 (TX4 0).2.1 (TX4 0).2.2.1 ∈ gz_tb := gz_mem 23 (by decide +kernel) rfl
theorem wl_24 : Cond.fieldLink RX5 71 (TX4 0).1 (TX4 0).2.1 (TX4 0).2.2.1 ∈ gz_tb := gz_mem 24 (by decide +kernel) rfl
theorem wl_25 : Cond.fieldLink RX4 15 (TX4 1).1 (TX4 1).2.1 (TX4 1).2.2.1 ∈ gz_tb := gz_mem 25 (by decide +kernel) rfl
theorem wl_26 : Cond.fieldLink RX4 19 (TX4 2).1 (TX4 2).2.1 (TX4 2).2.2.1 ∈ gz_tb := gz_mem 26 (by decide +kernel) rfl
theorem wl_27 : Cond.fieldLink RX5 185 (TX4 2).1 (TX4 2).2.1 (TX4 2).2.2.1 ∈ gz_tb := gz_mem 27 (by decide +kernel) rfl
theorem wl_28 : Cond.fieldLink RX4 23 (TX4 3).1 (TX4 3).2.1 (TX4 3).2.2.1 ∈ gz_tb := gz_mem 28 (by decide +kernel) rfl
theorem wl_29 : Cond.fieldLink RX5 188 (TX4 3).1 (TX4 3).2.1 (TX4 3).2.2.1 ∈ gz_tb := gz_mem 29 (by decide +kernel) rfl
theorem wl_39 : Cond.arrayClass .boolean ∈ gz_tb := gz_mem 39 (by decide +kernel) rfl
theorem wl_40 : Cond.arrayClass .long ∈ gz_tb := gz_mem 40 (by decide +kernel) rfl
theorem wl_41 : Cond.classLink RX5 16 RX1 ∈ gz_tb := gz_mem 41 (by decide +kernel) rfl
theorem wl_42 : Cond.instantiable RX1 4 ∈ gz_tb := gz_mem 42 (by decide +kernel) rfl
theorem wl_43 : Cond.methodLink RX5 18 yX1_init ∈ gz_tb := gz_mem 43 (by decide +kernel) rfl
theorem wl_44 : Cond.instanceMethod yX1_init ∈ gz_tb := gz_mem 44 (by decide +kernel) rfl
theorem wl_46 : Cond.methodLink RX1 3 Lib.objectInit ∈ gz_tb := gz_mem 46 (by decide +kernel) rfl
theorem wl_47 : Cond.fieldLink RX1 15 (TX1 0).1 (TX1 0).2.1 (TX1 0).2.2.1 ∈ gz_tb := gz_mem 47 (by decide +kernel) rfl
theorem wl_48 : Cond.fieldLink RX1 9 (TX1 1).1 (TX1 1).2.1 (TX1 1).2.2.1 ∈ gz_tb := gz_mem 48 (by decide +kernel) rfl
theorem wl_49 : Cond.fieldLink RX1 38 (TX1 2).1 (TX1 2).2.1 (TX1 2).2.2.1 ∈ gz_tb := gz_mem 49 (by decide +kernel) rfl
theorem wl_50 : Cond.fieldLink RX1 42 (TX1 3).1 (TX1 3).2.1 (TX1 3).2.2.1 ∈ gz_tb := gz_mem 50 (by decide +kernel) rfl
theorem wl_60 : Cond.arrayClass .int ∈ gz_tb := gz_mem 60 (by decide +kernel) rfl
theorem wl_61 : Cond.classLink RX5 25 RX2 ∈ gz_tb := gz_mem 61 (by decide +kernel) rfl
theorem wl_62 : Cond.instantiable RX2 2 ∈ gz_tb := gz_mem 62 (by decide +kernel) rfl
theorem wl_63 : Cond.methodLink RX5 27 yX2_init ∈ gz_tb := gz_mem 63 (by decide +kernel) rfl
theorem wl_64 : Cond.instanceMethod yX2_init ∈ gz_tb := gz_mem 64 (by decide +kernel) rfl
theorem wl_66 : Cond.methodLink RX2 3 Lib.objectInit ∈ gz_tb := gz_mem 66 (by decide +kernel) rfl
theorem wl_67 : Cond.fieldLink RX2 15 (TX2 0).1 (TX2 0).2.1 (TX2 0).2.2.1 ∈ gz_tb := gz_mem 67 (by decide +kernel) rfl
theorem wl_68 : Cond.fieldLink RX2 9 (TX2 1).1 (TX2 1).2.1 (TX2 1).2.2.1 ∈ gz_tb := gz_mem 68 (by decide +kernel) rfl
theorem wl_74 : Cond.classLink RX5 32 RX3 ∈ gz_tb := gz_mem 74 (by decide +kernel) rfl
theorem wl_75 : Cond.instantiable RX3 3 ∈ gz_tb := gz_mem 75 (by decide +kernel) rfl
theorem wn_76 : Cond.methodLinkNest RX5 34 yX3_init RX5 ∈ gz_nb := gz_nst 76 (by decide +kernel) rfl
theorem wl_77 : Cond.instanceMethod yX3_init ∈ gz_tb := gz_mem 77 (by decide +kernel) rfl
theorem wl_79 : Cond.methodLink RX3 3 Lib.objectInit ∈ gz_tb := gz_mem 79 (by decide +kernel) rfl
theorem wl_80 : Cond.classLink RX3 9 RX0 ∈ gz_tb := gz_mem 80 (by decide +kernel) rfl
theorem wn_81 : Cond.arrayOver (.object RX0) ∈ gz_nb := gz_nst 81 (by decide +kernel) rfl
theorem wl_82 : Cond.fieldLink RX3 11 (TX3 0).1 (TX3 0).2.1 (TX3 0).2.2.1 ∈ gz_tb := gz_mem 82 (by decide +kernel) rfl
theorem wl_83 : Cond.fieldLink RX3 17 (TX3 1).1 (TX3 1).2.1 (TX3 1).2.2.1 ∈ gz_tb := gz_mem 83 (by decide +kernel) rfl
theorem wl_84 : Cond.fieldLink RX5 191 (TX3 1).1 (TX3 1).2.1 (TX3 1).2.2.1 ∈ gz_tb := gz_mem 84 (by decide +kernel) rfl
theorem wl_85 : Cond.fieldLink RX1 19 (TX3 2).1 (TX3 2).2.1 (TX3 2).2.2.1 ∈ gz_tb := gz_mem 85 (by decide +kernel) rfl
theorem wl_86 : Cond.fieldLink RX3 21 (TX3 2).1 (TX3 2).2.1 (TX3 2).2.2.1 ∈ gz_tb := gz_mem 86 (by decide +kernel) rfl
theorem wl_87 : Cond.fieldLink RX5 200 (TX3 2).1 (TX3 2).2.1 (TX3 2).2.2.1 ∈ gz_tb := gz_mem 87 (by decide +kernel) rfl
theorem wl_95 : Cond.fieldLink RX5 10 (TX5 0).1 (TX5 0).2.1 (TX5 0).2.2.1 ∈ gz_tb := gz_mem 95 (by decide +kernel) rfl
theorem wl_96 : Cond.fieldLink RX5 21 (TX5 1).1 (TX5 1).2.1 (TX5 1).2.2.1 ∈ gz_tb := gz_mem 96 (by decide +kernel) rfl
theorem wl_97 : Cond.fieldLink RX5 28 (TX5 2).1 (TX5 2).2.1 (TX5 2).2.2.1 ∈ gz_tb := gz_mem 97 (by decide +kernel) rfl
theorem wl_98 : Cond.fieldLink RX5 35 (TX5 3).1 (TX5 3).2.1 (TX5 3).2.2.1 ∈ gz_tb := gz_mem 98 (by decide +kernel) rfl
theorem wl_99 : Cond.fieldLink RX5 39 (TX5 4).1 (TX5 4).2.1 (TX5 4).2.2.1 ∈ gz_tb := gz_mem 99 (by decide +kernel) rfl
theorem wl_100 : Cond.fieldLink RX5 49 (TX5 5).1 (TX5 5).2.1 (TX5 5).2.2.1 ∈ gz_tb := gz_mem 100 (by decide +kernel) rfl
theorem wl_118 : Cond.methodLink RX5 42 yX4_renew ∈ gz_tb := gz_mem 118 (by decide +kernel) rfl
theorem wl_119 : Cond.instanceMethod yX4_renew ∈ gz_tb := gz_mem 119 (by decide +kernel) rfl
theorem wl_122 : Cond.methodLink RX5 46 yX3_clear ∈ gz_tb := gz_mem 122 (by decide +kernel) rfl
theorem wl_123 : Cond.instanceMethod yX3_clear ∈ gz_tb := gz_mem 123 (by decide +kernel) rfl
theorem wl_130 : Cond.methodLink RX5 53 yX4_canBe ∈ gz_tb := gz_mem 130 (by decide +kernel) rfl
theorem wl_131 : Cond.instanceMethod yX4_canBe ∈ gz_tb := gz_mem 131 (by decide +kernel) rfl
theorem wl_134 : Cond.methodLink RX4 26 yX4_isCall ∈ gz_tb := gz_mem 134 (by decide +kernel) rfl
theorem wl_135 : Cond.instanceMethod yX4_isCall ∈ gz_tb := gz_mem 135 (by decide +kernel) rfl
theorem wl_138 : Cond.methodLink RX4 30 yX4_isState ∈ gz_tb := gz_mem 138 (by decide +kernel) rfl
theorem wl_140 : Cond.instanceMethod yX4_isState ∈ gz_tb := gz_mem 140 (by decide +kernel) rfl
theorem wl_142 : Cond.methodLink RX5 57 yX4_hasWay ∈ gz_tb := gz_mem 142 (by decide +kernel) rfl
theorem wl_143 : Cond.instanceMethod yX4_hasWay ∈ gz_tb := gz_mem 143 (by decide +kernel) rfl
theorem wl_146 : Cond.methodLink RX4 33 yX4_waysFrom ∈ gz_tb := gz_mem 146 (by decide +kernel) rfl
theorem wl_148 : Cond.instanceMethod yX4_waysFrom ∈ gz_tb := gz_mem 148 (by decide +kernel) rfl
theorem wl_150 : Cond.methodLink RX4 37 yX4_bitOf ∈ gz_tb := gz_mem 150 (by decide +kernel) rfl
theorem wl_151 : Cond.static yX4_bitOf ∈ gz_tb := gz_mem 151 (by decide +kernel) rfl
theorem wl_153 : Cond.methodLink RX5 60 yX4_addWay ∈ gz_tb := gz_mem 153 (by decide +kernel) rfl
theorem wl_154 : Cond.instanceMethod yX4_addWay ∈ gz_tb := gz_mem 154 (by decide +kernel) rfl
theorem wl_157 : Cond.methodLink RX5 64 yX5_noteChange ∈ gz_tb := gz_mem 157 (by decide +kernel) rfl
theorem wl_159 : Cond.instanceMethod yX5_noteChange ∈ gz_tb := gz_mem 159 (by decide +kernel) rfl
theorem wl_165 : Cond.methodLink RX5 67 yX4_isCall ∈ gz_tb := gz_mem 165 (by decide +kernel) rfl
theorem wl_170 : Cond.methodLink RX5 75 yX3_append ∈ gz_tb := gz_mem 170 (by decide +kernel) rfl
theorem wl_171 : Cond.instanceMethod yX3_append ∈ gz_tb := gz_mem 171 (by decide +kernel) rfl
theorem wl_174 : Cond.instantiable RX0 15 ∈ gz_tb := gz_mem 174 (by decide +kernel) rfl
theorem wl_175 : Cond.methodLink RX3 25 yX0_init ∈ gz_tb := gz_mem 175 (by decide +kernel) rfl
theorem wl_176 : Cond.instanceMethod yX0_init ∈ gz_tb := gz_mem 176 (by decide +kernel) rfl
theorem wl_178 : Cond.methodLink RX0 3 Lib.objectInit ∈ gz_tb := gz_mem 178 (by decide +kernel) rfl
theorem wl_179 : Cond.fieldLink RX0 38 (TX0 0).1 (TX0 0).2.1 (TX0 0).2.2.1 ∈ gz_tb := gz_mem 179 (by decide +kernel) rfl
theorem wl_180 : Cond.fieldLink RX5 79 (TX0 0).1 (TX0 0).2.1 (TX0 0).2.2.1 ∈ gz_tb := gz_mem 180 (by decide +kernel) rfl
theorem wl_181 : Cond.fieldLink RX1 134 (TX0 0).1 (TX0 0).2.1 (TX0 0).2.2.1 ∈ gz_tb := gz_mem 181 (by decide +kernel) rfl
theorem wl_182 : Cond.fieldLink RX0 9 (TX0 1).1 (TX0 1).2.1 (TX0 1).2.2.1 ∈ gz_tb := gz_mem 182 (by decide +kernel) rfl
theorem wl_183 : Cond.fieldLink RX1 65 (TX0 1).1 (TX0 1).2.1 (TX0 1).2.2.1 ∈ gz_tb := gz_mem 183 (by decide +kernel) rfl
theorem wl_184 : Cond.fieldLink RX2 65 (TX0 1).1 (TX0 1).2.1 (TX0 1).2.2.1 ∈ gz_tb := gz_mem 184 (by decide +kernel) rfl
theorem wl_185 : Cond.fieldLink RX5 128 (TX0 1).1 (TX0 1).2.1 (TX0 1).2.2.1 ∈ gz_tb := gz_mem 185 (by decide +kernel) rfl
theorem wl_186 : Cond.fieldLink RX4 43 (TX0 1).1 (TX0 1).2.1 (TX0 1).2.2.1 ∈ gz_tb := gz_mem 186 (by decide +kernel) rfl
theorem wl_187 : Cond.fieldLink RX0 15 (TX0 2).1 (TX0 2).2.1 (TX0 2).2.2.1 ∈ gz_tb := gz_mem 187 (by decide +kernel) rfl
theorem wl_188 : Cond.fieldLink RX1 72 (TX0 2).1 (TX0 2).2.1 (TX0 2).2.2.1 ∈ gz_tb := gz_mem 188 (by decide +kernel) rfl
theorem wl_189 : Cond.fieldLink RX2 58 (TX0 2).1 (TX0 2).2.1 (TX0 2).2.2.1 ∈ gz_tb := gz_mem 189 (by decide +kernel) rfl
theorem wl_190 : Cond.fieldLink RX5 132 (TX0 2).1 (TX0 2).2.1 (TX0 2).2.2.1 ∈ gz_tb := gz_mem 190 (by decide +kernel) rfl
theorem wl_191 : Cond.fieldLink RX4 49 (TX0 2).1 (TX0 2).2.1 (TX0 2).2.2.1 ∈ gz_tb := gz_mem 191 (by decide +kernel) rfl
theorem wl_192 : Cond.fieldLink RX0 18 (TX0 3).1 (TX0 3).2.1 (TX0 3).2.2.1 ∈ gz_tb := gz_mem 192 (by decide +kernel) rfl
theorem wl_193 : Cond.fieldLink RX1 115 (TX0 3).1 (TX0 3).2.1 (TX0 3).2.2.1 ∈ gz_tb := gz_mem 193 (by decide +kernel) rfl
theorem wl_194 : Cond.fieldLink RX2 75 (TX0 3).1 (TX0 3).2.1 (TX0 3).2.2.1 ∈ gz_tb := gz_mem 194 (by decide +kernel) rfl
theorem wl_195 : Cond.fieldLink RX5 176 (TX0 3).1 (TX0 3).2.1 (TX0 3).2.2.1 ∈ gz_tb := gz_mem 195 (by decide +kernel) rfl
theorem wl_196 : Cond.fieldLink RX0 21 (TX0 4).1 (TX0 4).2.1 (TX0 4).2.2.1 ∈ gz_tb := gz_mem 196 (by decide +kernel) rfl
theorem wl_197 : Cond.fieldLink RX1 118 (TX0 4).1 (TX0 4).2.1 (TX0 4).2.2.1 ∈ gz_tb := gz_mem 197 (by decide +kernel) rfl
theorem wl_198 : Cond.fieldLink RX2 78 (TX0 4).1 (TX0 4).2.1 (TX0 4).2.2.1 ∈ gz_tb := gz_mem 198 (by decide +kernel) rfl
theorem wl_199 : Cond.fieldLink RX5 179 (TX0 4).1 (TX0 4).2.1 (TX0 4).2.2.1 ∈ gz_tb := gz_mem 199 (by decide +kernel) rfl
theorem wl_200 : Cond.fieldLink RX0 24 (TX0 5).1 (TX0 5).2.1 (TX0 5).2.2.1 ∈ gz_tb := gz_mem 200 (by decide +kernel) rfl
theorem wl_201 : Cond.fieldLink RX1 121 (TX0 5).1 (TX0 5).2.1 (TX0 5).2.2.1 ∈ gz_tb := gz_mem 201 (by decide +kernel) rfl
theorem wl_202 : Cond.fieldLink RX2 81 (TX0 5).1 (TX0 5).2.1 (TX0 5).2.2.1 ∈ gz_tb := gz_mem 202 (by decide +kernel) rfl
theorem wl_203 : Cond.fieldLink RX5 182 (TX0 5).1 (TX0 5).2.1 (TX0 5).2.2.1 ∈ gz_tb := gz_mem 203 (by decide +kernel) rfl
theorem wl_204 : Cond.fieldLink RX0 42 (TX0 6).1 (TX0 6).2.1 (TX0 6).2.2.1 ∈ gz_tb := gz_mem 204 (by decide +kernel) rfl
theorem wl_205 : Cond.fieldLink RX2 29 (TX0 6).1 (TX0 6).2.1 (TX0 6).2.2.1 ∈ gz_tb := gz_mem 205 (by decide +kernel) rfl
theorem wl_206 : Cond.fieldLink RX3 35 (TX0 6).1 (TX0 6).2.1 (TX0 6).2.2.1 ∈ gz_tb := gz_mem 206 (by decide +kernel) rfl
theorem wl_207 : Cond.fieldLink RX1 141 (TX0 6).1 (TX0 6).2.1 (TX0 6).2.2.1 ∈ gz_tb := gz_mem 207 (by decide +kernel) rfl
theorem wl_208 : Cond.fieldLink RX5 162 (TX0 6).1 (TX0 6).2.1 (TX0 6).2.2.1 ∈ gz_tb := gz_mem 208 (by decide +kernel) rfl
theorem wl_209 : Cond.fieldLink RX0 45 (TX0 7).1 (TX0 7).2.1 (TX0 7).2.2.1 ∈ gz_tb := gz_mem 209 (by decide +kernel) rfl
theorem wl_210 : Cond.fieldLink RX2 72 (TX0 7).1 (TX0 7).2.1 (TX0 7).2.2.1 ∈ gz_tb := gz_mem 210 (by decide +kernel) rfl
theorem wl_211 : Cond.fieldLink RX1 112 (TX0 7).1 (TX0 7).2.1 (TX0 7).2.2.1 ∈ gz_tb := gz_mem 211 (by decide +kernel) rfl
theorem wl_212 : Cond.fieldLink RX5 165 (TX0 7).1 (TX0 7).2.1 (TX0 7).2.2.1 ∈ gz_tb := gz_mem 212 (by decide +kernel) rfl
theorem wl_213 : Cond.fieldLink RX0 27 (TX0 8).1 (TX0 8).2.1 (TX0 8).2.2.1 ∈ gz_tb := gz_mem 213 (by decide +kernel) rfl
theorem wl_214 : Cond.fieldLink RX1 68 (TX0 8).1 (TX0 8).2.1 (TX0 8).2.2.1 ∈ gz_tb := gz_mem 214 (by decide +kernel) rfl
theorem wl_215 : Cond.fieldLink RX5 142 (TX0 8).1 (TX0 8).2.1 (TX0 8).2.2.1 ∈ gz_tb := gz_mem 215 (by decide +kernel) rfl
theorem wl_216 : Cond.fieldLink RX4 52 (TX0 8).1 (TX0 8).2.1 (TX0 8).2.2.1 ∈ gz_tb := gz_mem 216 (by decide +kernel) rfl
theorem wl_217 : Cond.fieldLink RX0 31 (TX0 9).1 (TX0 9).2.1 (TX0 9).2.2.1 ∈ gz_tb := gz_mem 217 (by decide +kernel) rfl
theorem wl_218 : Cond.fieldLink RX1 61 (TX0 9).1 (TX0 9).2.1 (TX0 9).2.2.1 ∈ gz_tb := gz_mem 218 (by decide +kernel) rfl
theorem wl_219 : Cond.fieldLink RX0 35 (TX0 10).1 (TX0 10).2.1 (TX0 10).2.2.1 ∈ gz_tb := gz_mem 219 (by decide +kernel) rfl
theorem wl_220 : Cond.fieldLink RX1 124 (TX0 11).1 (TX0 11).2.1 (TX0 11).2.2.1 ∈ gz_tb := gz_mem 220 (by decide +kernel) rfl
theorem wl_221 : Cond.fieldLink RX0 56 (TX0 11).1 (TX0 11).2.1 (TX0 11).2.2.1 ∈ gz_tb := gz_mem 221 (by decide +kernel) rfl
theorem wl_222 : Cond.fieldLink RX5 152 (TX0 11).1 (TX0 11).2.1 (TX0 11).2.2.1 ∈ gz_tb := gz_mem 222 (by decide +kernel) rfl
theorem wl_223 : Cond.fieldLink RX1 94 (TX0 12).1 (TX0 12).2.1 (TX0 12).2.2.1 ∈ gz_tb := gz_mem 223 (by decide +kernel) rfl
theorem wl_224 : Cond.fieldLink RX0 60 (TX0 12).1 (TX0 12).2.1 (TX0 12).2.2.1 ∈ gz_tb := gz_mem 224 (by decide +kernel) rfl
theorem wl_225 : Cond.fieldLink RX5 156 (TX0 12).1 (TX0 12).2.1 (TX0 12).2.2.1 ∈ gz_tb := gz_mem 225 (by decide +kernel) rfl
theorem wl_226 : Cond.fieldLink RX1 75 (TX0 13).1 (TX0 13).2.1 (TX0 13).2.2.1 ∈ gz_tb := gz_mem 226 (by decide +kernel) rfl
theorem wl_227 : Cond.fieldLink RX0 63 (TX0 13).1 (TX0 13).2.1 (TX0 13).2.2.1 ∈ gz_tb := gz_mem 227 (by decide +kernel) rfl
theorem wl_228 : Cond.fieldLink RX5 159 (TX0 13).1 (TX0 13).2.1 (TX0 13).2.2.1 ∈ gz_tb := gz_mem 228 (by decide +kernel) rfl
theorem wl_229 : Cond.fieldLink RX1 131 (TX0 14).1 (TX0 14).2.1 (TX0 14).2.2.1 ∈ gz_tb := gz_mem 229 (by decide +kernel) rfl
theorem wl_230 : Cond.fieldLink RX0 66 (TX0 14).1 (TX0 14).2.1 (TX0 14).2.2.1 ∈ gz_tb := gz_mem 230 (by decide +kernel) rfl
theorem wl_262 : Cond.methodLink RX3 28 yX0_renew ∈ gz_tb := gz_mem 262 (by decide +kernel) rfl
theorem wl_263 : Cond.instanceMethod yX0_renew ∈ gz_tb := gz_mem 263 (by decide +kernel) rfl
theorem wl_266 : Cond.methodLink RX0 48 yX0_put ∈ gz_tb := gz_mem 266 (by decide +kernel) rfl
theorem wl_267 : Cond.instanceMethod yX0_put ∈ gz_tb := gz_mem 267 (by decide +kernel) rfl
theorem wl_274 : Cond.methodLink RX5 85 yX3_body ∈ gz_tb := gz_mem 274 (by decide +kernel) rfl
theorem wl_275 : Cond.instanceMethod yX3_body ∈ gz_tb := gz_mem 275 (by decide +kernel) rfl
theorem wl_278 : Cond.methodLink RX5 88 yX0_hasInstruction ∈ gz_tb := gz_mem 278 (by decide +kernel) rfl
theorem wl_279 : Cond.instanceMethod yX0_hasInstruction ∈ gz_tb := gz_mem 279 (by decide +kernel) rfl
theorem wl_282 : Cond.methodLink RX5 91 yX0_canHold ∈ gz_tb := gz_mem 282 (by decide +kernel) rfl
theorem wl_283 : Cond.instanceMethod yX0_canHold ∈ gz_tb := gz_mem 283 (by decide +kernel) rfl
theorem wl_286 : Cond.methodLink RX0 52 yX0_hasInstruction ∈ gz_tb := gz_mem 286 (by decide +kernel) rfl
theorem wl_287 : Cond.methodLink RX5 95 yX0_put ∈ gz_tb := gz_mem 287 (by decide +kernel) rfl
theorem wl_292 : Cond.methodLink RX5 98 yX0_canHandle ∈ gz_tb := gz_mem 292 (by decide +kernel) rfl
theorem wl_293 : Cond.instanceMethod yX0_canHandle ∈ gz_tb := gz_mem 293 (by decide +kernel) rfl
theorem wl_296 : Cond.methodLink RX5 101 yX0_addHandler ∈ gz_tb := gz_mem 296 (by decide +kernel) rfl
theorem wl_297 : Cond.instanceMethod yX0_addHandler ∈ gz_tb := gz_mem 297 (by decide +kernel) rfl
theorem wl_304 : Cond.methodLink RX5 104 yX1_settle ∈ gz_tb := gz_mem 304 (by decide +kernel) rfl
theorem wl_305 : Cond.instanceMethod yX1_settle ∈ gz_tb := gz_mem 305 (by decide +kernel) rfl
theorem wl_308 : Cond.methodLink RX1 25 yX1_forgetAll ∈ gz_tb := gz_mem 308 (by decide +kernel) rfl
theorem wl_310 : Cond.instanceMethod yX1_forgetAll ∈ gz_tb := gz_mem 310 (by decide +kernel) rfl
theorem wl_312 : Cond.methodLink RX1 29 yX3_body ∈ gz_tb := gz_mem 312 (by decide +kernel) rfl
theorem wl_313 : Cond.methodLink RX1 52 yX0_forgetSets ∈ gz_tb := gz_mem 313 (by decide +kernel) rfl
theorem wl_314 : Cond.instanceMethod yX0_forgetSets ∈ gz_tb := gz_mem 314 (by decide +kernel) rfl
theorem wl_317 : Cond.methodLink RX0 70 yX0_goesToNumber ∈ gz_tb := gz_mem 317 (by decide +kernel) rfl
theorem wl_318 : Cond.instanceMethod yX0_goesToNumber ∈ gz_tb := gz_mem 318 (by decide +kernel) rfl
theorem wl_321 : Cond.methodLink RX1 33 yX1_growEntry ∈ gz_tb := gz_mem 321 (by decide +kernel) rfl
theorem wl_323 : Cond.instanceMethod yX1_growEntry ∈ gz_tb := gz_mem 323 (by decide +kernel) rfl
theorem wl_325 : Cond.methodLink RX1 109 yX1_growMay ∈ gz_tb := gz_mem 325 (by decide +kernel) rfl
theorem wl_327 : Cond.instanceMethod yX1_growMay ∈ gz_tb := gz_mem 327 (by decide +kernel) rfl
theorem wl_329 : Cond.methodLink RX1 57 yX0_hasInstruction ∈ gz_tb := gz_mem 329 (by decide +kernel) rfl
theorem wl_330 : Cond.methodLink RX1 127 yX1_waitAt ∈ gz_tb := gz_mem 330 (by decide +kernel) rfl
theorem wl_332 : Cond.instanceMethod yX1_waitAt ∈ gz_tb := gz_mem 332 (by decide +kernel) rfl
theorem wl_334 : Cond.constant RX1 37 1000000 ∈ gz_tb := gz_mem 334 (by decide +kernel) rfl
theorem wl_335 : Cond.methodLink RX1 45 yX1_step ∈ gz_tb := gz_mem 335 (by decide +kernel) rfl
theorem wl_337 : Cond.instanceMethod yX1_step ∈ gz_tb := gz_mem 337 (by decide +kernel) rfl
theorem wl_339 : Cond.methodLink RX1 79 yX1_afterOf ∈ gz_tb := gz_mem 339 (by decide +kernel) rfl
theorem wl_341 : Cond.instanceMethod yX1_afterOf ∈ gz_tb := gz_mem 341 (by decide +kernel) rfl
theorem wl_343 : Cond.methodLink RX1 97 yX4_goneTo ∈ gz_tb := gz_mem 343 (by decide +kernel) rfl
theorem wl_344 : Cond.instanceMethod yX4_goneTo ∈ gz_tb := gz_mem 344 (by decide +kernel) rfl
theorem wl_347 : Cond.constantLong RX4 41 1152921504606846975 ∈ gz_tb := gz_mem 347 (by decide +kernel) rfl
theorem wl_348 : Cond.methodLink RX1 103 yX0_isGuarded ∈ gz_tb := gz_mem 348 (by decide +kernel) rfl
theorem wl_349 : Cond.instanceMethod yX0_isGuarded ∈ gz_tb := gz_mem 349 (by decide +kernel) rfl
theorem wl_352 : Cond.methodLink RX1 83 yX1_growSummary ∈ gz_tb := gz_mem 352 (by decide +kernel) rfl
theorem wl_354 : Cond.instanceMethod yX1_growSummary ∈ gz_tb := gz_mem 354 (by decide +kernel) rfl
theorem wl_356 : Cond.methodLink RX1 87 yX1_passOn ∈ gz_tb := gz_mem 356 (by decide +kernel) rfl
theorem wl_358 : Cond.instanceMethod yX1_passOn ∈ gz_tb := gz_mem 358 (by decide +kernel) rfl
theorem wl_360 : Cond.methodLink RX1 106 yX0_goesToNumber ∈ gz_tb := gz_mem 360 (by decide +kernel) rfl
theorem wl_361 : Cond.methodLink RX1 91 yX1_passToHandlers ∈ gz_tb := gz_mem 361 (by decide +kernel) rfl
theorem wl_363 : Cond.instanceMethod yX1_passToHandlers ∈ gz_tb := gz_mem 363 (by decide +kernel) rfl
theorem wl_365 : Cond.methodLink RX1 49 yX1_wakeCallers ∈ gz_tb := gz_mem 365 (by decide +kernel) rfl
theorem wl_367 : Cond.instanceMethod yX1_wakeCallers ∈ gz_tb := gz_mem 367 (by decide +kernel) rfl
theorem wl_369 : Cond.methodLink RX1 137 yX1_wakeCallersIn ∈ gz_tb := gz_mem 369 (by decide +kernel) rfl
theorem wl_371 : Cond.instanceMethod yX1_wakeCallersIn ∈ gz_tb := gz_mem 371 (by decide +kernel) rfl
theorem wl_373 : Cond.methodLink RX5 108 yX2_countLacking ∈ gz_tb := gz_mem 373 (by decide +kernel) rfl
theorem wl_374 : Cond.instanceMethod yX2_countLacking ∈ gz_tb := gz_mem 374 (by decide +kernel) rfl
theorem wl_377 : Cond.methodLink RX2 19 yX3_body ∈ gz_tb := gz_mem 377 (by decide +kernel) rfl
theorem wl_378 : Cond.methodLink RX2 25 yX2_lackingIn ∈ gz_tb := gz_mem 378 (by decide +kernel) rfl
theorem wl_380 : Cond.instanceMethod yX2_lackingIn ∈ gz_tb := gz_mem 380 (by decide +kernel) rfl
theorem wl_382 : Cond.methodLink RX2 35 yX4_lacksGuard ∈ gz_tb := gz_mem 382 (by decide +kernel) rfl
theorem wl_383 : Cond.instanceMethod yX4_lacksGuard ∈ gz_tb := gz_mem 383 (by decide +kernel) rfl
theorem wl_386 : Cond.methodLink RX4 59 yX4_needsGuard ∈ gz_tb := gz_mem 386 (by decide +kernel) rfl
theorem wl_387 : Cond.instanceMethod yX4_needsGuard ∈ gz_tb := gz_mem 387 (by decide +kernel) rfl
theorem wl_390 : Cond.methodLink RX4 55 yX4_changesSome ∈ gz_tb := gz_mem 390 (by decide +kernel) rfl
theorem wl_392 : Cond.instanceMethod yX4_changesSome ∈ gz_tb := gz_mem 392 (by decide +kernel) rfl
theorem wl_394 : Cond.methodLink RX4 63 yX0_isGuarded ∈ gz_tb := gz_mem 394 (by decide +kernel) rfl
theorem wl_395 : Cond.methodLink RX5 112 yX2_copyWithGuards ∈ gz_tb := gz_mem 395 (by decide +kernel) rfl
theorem wl_396 : Cond.instanceMethod yX2_copyWithGuards ∈ gz_tb := gz_mem 396 (by decide +kernel) rfl
theorem wl_399 : Cond.methodLink RX2 41 yX3_clear ∈ gz_tb := gz_mem 399 (by decide +kernel) rfl
theorem wl_400 : Cond.methodLink RX2 44 yX3_append ∈ gz_tb := gz_mem 400 (by decide +kernel) rfl
theorem wl_401 : Cond.methodLink RX2 47 yX2_copyInstructions ∈ gz_tb := gz_mem 401 (by decide +kernel) rfl
theorem wl_403 : Cond.instanceMethod yX2_copyInstructions ∈ gz_tb := gz_mem 403 (by decide +kernel) rfl
theorem wl_405 : Cond.methodLink RX2 61 yX0_put ∈ gz_tb := gz_mem 405 (by decide +kernel) rfl
theorem wl_406 : Cond.methodLink RX2 51 yX2_moveTargets ∈ gz_tb := gz_mem 406 (by decide +kernel) rfl
theorem wl_408 : Cond.instanceMethod yX2_moveTargets ∈ gz_tb := gz_mem 408 (by decide +kernel) rfl
theorem wl_410 : Cond.methodLink RX2 68 yX0_goesToNumber ∈ gz_tb := gz_mem 410 (by decide +kernel) rfl
theorem wl_411 : Cond.methodLink RX2 55 yX2_copyHandlers ∈ gz_tb := gz_mem 411 (by decide +kernel) rfl
theorem wl_413 : Cond.instanceMethod yX2_copyHandlers ∈ gz_tb := gz_mem 413 (by decide +kernel) rfl
theorem wl_415 : Cond.methodLink RX2 84 yX0_addHandler ∈ gz_tb := gz_mem 415 (by decide +kernel) rfl
theorem wl_424 : Cond.methodLink RX5 116 yX5_programOf ∈ gz_tb := gz_mem 424 (by decide +kernel) rfl
theorem wl_426 : Cond.instanceMethod yX5_programOf ∈ gz_tb := gz_mem 426 (by decide +kernel) rfl
theorem wl_428 : Cond.methodLink RX5 120 yX5_firstUncertified ∈ gz_tb := gz_mem 428 (by decide +kernel) rfl
theorem wl_430 : Cond.instanceMethod yX5_firstUncertified ∈ gz_tb := gz_mem 430 (by decide +kernel) rfl
theorem wl_432 : Cond.methodLink RX5 135 yX0_isGuarded ∈ gz_tb := gz_mem 432 (by decide +kernel) rfl
theorem wl_433 : Cond.methodLink RX5 203 yX4_lacksGuard ∈ gz_tb := gz_mem 433 (by decide +kernel) rfl
theorem wl_438 : Cond.methodLink RX5 124 yX5_settledBody ∈ gz_tb := gz_mem 438 (by decide +kernel) rfl
theorem wl_440 : Cond.instanceMethod yX5_settledBody ∈ gz_tb := gz_mem 440 (by decide +kernel) rfl
theorem wl_442 : Cond.methodLink RX5 138 yX4_needsGuard ∈ gz_tb := gz_mem 442 (by decide +kernel) rfl
theorem wl_443 : Cond.methodLink RX5 146 yJ13_bitCount_95d88 ∈ gz_tb := gz_mem 443 (by decide +kernel) rfl
theorem wl_444 : Cond.static yJ13_bitCount_95d88 ∈ gz_tb := gz_mem 444 (by decide +kernel) rfl
theorem wl_446 : Cond.constantLong RJ13 314 6148914691236517205 ∈ gz_tb := gz_mem 446 (by decide +kernel) rfl
theorem wl_447 : Cond.constantLong RJ13 316 3689348814741910323 ∈ gz_tb := gz_mem 447 (by decide +kernel) rfl
theorem wl_448 : Cond.constantLong RJ13 318 1085102592571150095 ∈ gz_tb := gz_mem 448 (by decide +kernel) rfl
theorem wl_461 : Cond.methodLink RX5 168 yX0_countOfKind ∈ gz_tb := gz_mem 461 (by decide +kernel) rfl
theorem wl_462 : Cond.instanceMethod yX0_countOfKind ∈ gz_tb := gz_mem 462 (by decide +kernel) rfl
theorem wl_465 : Cond.methodLink RX5 172 yX0_countReached ∈ gz_tb := gz_mem 465 (by decide +kernel) rfl
theorem wl_466 : Cond.instanceMethod yX0_countReached ∈ gz_tb := gz_mem 466 (by decide +kernel) rfl
theorem wl_481 : Cond.methodLink RX5 194 yX3_countInstructions ∈ gz_tb := gz_mem 481 (by decide +kernel) rfl
theorem wl_482 : Cond.instanceMethod yX3_countInstructions ∈ gz_tb := gz_mem 482 (by decide +kernel) rfl
theorem wl_485 : Cond.methodLink RX3 31 yX3_body ∈ gz_tb := gz_mem 485 (by decide +kernel) rfl
theorem wl_486 : Cond.methodLink RX5 197 yX4_countAlways ∈ gz_tb := gz_mem 486 (by decide +kernel) rfl
theorem wl_487 : Cond.instanceMethod yX4_countAlways ∈ gz_tb := gz_mem 487 (by decide +kernel) rfl
theorem wl_495 : Cond.methodLink RX6 1 Lib.objectInit ∈ gz_tb := gz_mem 495 (by decide +kernel) rfl
theorem wl_496 : Cond.constant RX6 13 58560 ∈ gz_tb := gz_mem 496 (by decide +kernel) rfl
theorem wl_497 : Cond.fieldLink RX6 65 (TX6 0).1 (TX6 0).2.1 (TX6 0).2.2.1 ∈ gz_tb := gz_mem 497 (by decide +kernel) rfl
theorem wl_498 : Cond.fieldLink RX6 7 (TX6 1).1 (TX6 1).2.1 (TX6 1).2.2.1 ∈ gz_tb := gz_mem 498 (by decide +kernel) rfl
theorem wl_499 : Cond.fieldLink RX6 14 (TX6 2).1 (TX6 2).2.1 (TX6 2).2.2.1 ∈ gz_tb := gz_mem 499 (by decide +kernel) rfl
theorem wl_500 : Cond.fieldLink RX6 18 (TX6 3).1 (TX6 3).2.1 (TX6 3).2.2.1 ∈ gz_tb := gz_mem 500 (by decide +kernel) rfl
theorem wl_501 : Cond.fieldLink RX6 21 (TX6 4).1 (TX6 4).2.1 (TX6 4).2.2.1 ∈ gz_tb := gz_mem 501 (by decide +kernel) rfl
theorem wl_502 : Cond.fieldLink RX6 25 (TX6 5).1 (TX6 5).2.1 (TX6 5).2.2.1 ∈ gz_tb := gz_mem 502 (by decide +kernel) rfl
theorem wl_503 : Cond.fieldLink RX6 28 (TX6 6).1 (TX6 6).2.1 (TX6 6).2.2.1 ∈ gz_tb := gz_mem 503 (by decide +kernel) rfl
theorem wl_504 : Cond.fieldLink RX6 31 (TX6 7).1 (TX6 7).2.1 (TX6 7).2.2.1 ∈ gz_tb := gz_mem 504 (by decide +kernel) rfl
theorem wl_505 : Cond.fieldLink RX6 34 (TX6 8).1 (TX6 8).2.1 (TX6 8).2.2.1 ∈ gz_tb := gz_mem 505 (by decide +kernel) rfl
theorem wl_506 : Cond.fieldLink RX6 37 (TX6 9).1 (TX6 9).2.1 (TX6 9).2.2.1 ∈ gz_tb := gz_mem 506 (by decide +kernel) rfl
theorem wl_507 : Cond.fieldLink RX6 40 (TX6 10).1 (TX6 10).2.1 (TX6 10).2.2.1 ∈ gz_tb := gz_mem 507 (by decide +kernel) rfl
theorem wl_508 : Cond.fieldLink RX6 43 (TX6 11).1 (TX6 11).2.1 (TX6 11).2.2.1 ∈ gz_tb := gz_mem 508 (by decide +kernel) rfl
theorem wl_509 : Cond.fieldLink RX6 68 (TX6 12).1 (TX6 12).2.1 (TX6 12).2.2.1 ∈ gz_tb := gz_mem 509 (by decide +kernel) rfl
theorem wl_510 : Cond.fieldLink RX6 46 (TX6 13).1 (TX6 13).2.1 (TX6 13).2.2.1 ∈ gz_tb := gz_mem 510 (by decide +kernel) rfl
theorem wl_511 : Cond.fieldLink RX6 49 (TX6 14).1 (TX6 14).2.1 (TX6 14).2.2.1 ∈ gz_tb := gz_mem 511 (by decide +kernel) rfl
theorem wl_512 : Cond.fieldLink RX6 53 (TX6 15).1 (TX6 15).2.1 (TX6 15).2.2.1 ∈ gz_tb := gz_mem 512 (by decide +kernel) rfl
theorem wl_513 : Cond.fieldLink RX6 56 (TX6 16).1 (TX6 16).2.1 (TX6 16).2.2.1 ∈ gz_tb := gz_mem 513 (by decide +kernel) rfl
theorem wl_514 : Cond.fieldLink RX6 59 (TX6 17).1 (TX6 17).2.1 (TX6 17).2.2.1 ∈ gz_tb := gz_mem 514 (by decide +kernel) rfl
theorem wl_515 : Cond.fieldLink RX6 97 (TX6 18).1 (TX6 18).2.1 (TX6 18).2.2.1 ∈ gz_tb := gz_mem 515 (by decide +kernel) rfl
theorem wl_516 : Cond.fieldLink RX6 62 (TX6 19).1 (TX6 19).2.1 (TX6 19).2.2.1 ∈ gz_tb := gz_mem 516 (by decide +kernel) rfl
theorem wl_562 : Cond.methodLink RX6 76 yX6_change ∈ gz_tb := gz_mem 562 (by decide +kernel) rfl
theorem wl_564 : Cond.instanceMethod yX6_change ∈ gz_tb := gz_mem 564 (by decide +kernel) rfl
theorem wl_570 : Cond.methodLink RX6 79 yX6_canWay ∈ gz_tb := gz_mem 570 (by decide +kernel) rfl
theorem wl_572 : Cond.instanceMethod yX6_canWay ∈ gz_tb := gz_mem 572 (by decide +kernel) rfl
theorem wl_574 : Cond.methodLink RX6 72 yX6_isState ∈ gz_tb := gz_mem 574 (by decide +kernel) rfl
theorem wl_576 : Cond.instanceMethod yX6_isState ∈ gz_tb := gz_mem 576 (by decide +kernel) rfl
theorem wl_578 : Cond.methodLink RX6 83 yX6_wayAt ∈ gz_tb := gz_mem 578 (by decide +kernel) rfl
theorem wl_579 : Cond.static yX6_wayAt ∈ gz_tb := gz_mem 579 (by decide +kernel) rfl
theorem wl_597 : Cond.methodLink RX6 87 yX6_isThere ∈ gz_tb := gz_mem 597 (by decide +kernel) rfl
theorem wl_599 : Cond.instanceMethod yX6_isThere ∈ gz_tb := gz_mem 599 (by decide +kernel) rfl
theorem wl_601 : Cond.methodLink RX6 90 yX6_below ∈ gz_tb := gz_mem 601 (by decide +kernel) rfl
theorem wl_603 : Cond.instanceMethod yX6_below ∈ gz_tb := gz_mem 603 (by decide +kernel) rfl
theorem wl_613 : Cond.methodLink RX6 125 yX6_lacking ∈ gz_tb := gz_mem 613 (by decide +kernel) rfl
theorem wl_615 : Cond.instanceMethod yX6_lacking ∈ gz_tb := gz_mem 615 (by decide +kernel) rfl
theorem wl_617 : Cond.methodLink RX6 122 yX6_lacks ∈ gz_tb := gz_mem 617 (by decide +kernel) rfl
theorem wl_619 : Cond.instanceMethod yX6_lacks ∈ gz_tb := gz_mem 619 (by decide +kernel) rfl
theorem wl_621 : Cond.methodLink RX6 119 yX6_needs ∈ gz_tb := gz_mem 621 (by decide +kernel) rfl
theorem wl_623 : Cond.instanceMethod yX6_needs ∈ gz_tb := gz_mem 623 (by decide +kernel) rfl
theorem wl_625 : Cond.methodLink RX6 115 yX6_find ∈ gz_tb := gz_mem 625 (by decide +kernel) rfl
theorem wl_627 : Cond.instanceMethod yX6_find ∈ gz_tb := gz_mem 627 (by decide +kernel) rfl
theorem wl_629 : Cond.methodLink RX6 107 yX6_join ∈ gz_tb := gz_mem 629 (by decide +kernel) rfl
theorem wl_631 : Cond.instanceMethod yX6_join ∈ gz_tb := gz_mem 631 (by decide +kernel) rfl
theorem wl_633 : Cond.methodLink RX6 111 yX6_goOn ∈ gz_tb := gz_mem 633 (by decide +kernel) rfl
theorem wl_635 : Cond.instanceMethod yX6_goOn ∈ gz_tb := gz_mem 635 (by decide +kernel) rfl
theorem wl_637 : Cond.methodLink RX6 100 yX6_isGuarded ∈ gz_tb := gz_mem 637 (by decide +kernel) rfl
theorem wl_639 : Cond.instanceMethod yX6_isGuarded ∈ gz_tb := gz_mem 639 (by decide +kernel) rfl
theorem wl_641 : Cond.methodLink RX6 94 yX6_isGoal ∈ gz_tb := gz_mem 641 (by decide +kernel) rfl
theorem wl_643 : Cond.instanceMethod yX6_isGoal ∈ gz_tb := gz_mem 643 (by decide +kernel) rfl
theorem wl_645 : Cond.methodLink RX6 103 yX6_led ∈ gz_tb := gz_mem 645 (by decide +kernel) rfl
theorem wl_647 : Cond.instanceMethod yX6_led ∈ gz_tb := gz_mem 647 (by decide +kernel) rfl
theorem wl_649 : Cond.methodLink RX6 129 yX6_weave ∈ gz_tb := gz_mem 649 (by decide +kernel) rfl
theorem wl_651 : Cond.instanceMethod yX6_weave ∈ gz_tb := gz_mem 651 (by decide +kernel) rfl
theorem wl_665 : Cond.methodLink RX6 132 yX6_which ∈ gz_tb := gz_mem 665 (by decide +kernel) rfl
theorem wl_667 : Cond.instanceMethod yX6_which ∈ gz_tb := gz_mem 667 (by decide +kernel) rfl
theorem wl_669 : Cond.methodLink RX6 136 yX6_bits ∈ gz_tb := gz_mem 669 (by decide +kernel) rfl
theorem wl_671 : Cond.instanceMethod yX6_bits ∈ gz_tb := gz_mem 671 (by decide +kernel) rfl
theorem wl_685 : Cond.methodLink RX6 140 yX6_countOf ∈ gz_tb := gz_mem 685 (by decide +kernel) rfl
theorem wl_687 : Cond.instanceMethod yX6_countOf ∈ gz_tb := gz_mem 687 (by decide +kernel) rfl
theorem wl_689 : Cond.methodLink RX6 143 yX6_comeTo ∈ gz_tb := gz_mem 689 (by decide +kernel) rfl
theorem wl_691 : Cond.instanceMethod yX6_comeTo ∈ gz_tb := gz_mem 691 (by decide +kernel) rfl
theorem wl_701 : Cond.methodLink RX6 146 yX6_wayMany ∈ gz_tb := gz_mem 701 (by decide +kernel) rfl
theorem wl_703 : Cond.instanceMethod yX6_wayMany ∈ gz_tb := gz_mem 703 (by decide +kernel) rfl
theorem wl_705 : Cond.methodLink RX6 150 yX6_instructions ∈ gz_tb := gz_mem 705 (by decide +kernel) rfl
theorem wl_707 : Cond.instanceMethod yX6_instructions ∈ gz_tb := gz_mem 707 (by decide +kernel) rfl
theorem wl_709 : Cond.methodLink RX6 153 yX6_neededMany ∈ gz_tb := gz_mem 709 (by decide +kernel) rfl
theorem wl_711 : Cond.instanceMethod yX6_neededMany ∈ gz_tb := gz_mem 711 (by decide +kernel) rfl
theorem kcX0 : gx_cc gz_cl gz_tb 0 RX0 TX0 15 tyX0 := ⟨rfl, fun w hw => List.mem_filter.mpr ⟨(show ∀ w ∈ u_ws RX0 TX0 15, w ∈ lw_tbl by decide +kernel) w hw, (show ∀ w ∈ u_ws RX0 TX0 15, goodWord w = true by decide +kernel) w hw⟩, tyX0_ok, nmX0⟩
theorem dfX0 : ∀ j, j < 15 → defaultValue (tyX0 j) = vp_V [.int 0, .null, .null, .null, .null, .null, .int 0, .int 0, .null, .null, .null, .long 0, .long 0, .long 0, .int 0] j := by decide +kernel
theorem kcX1 : gx_cc gz_cl gz_tb 1 RX1 TX1 4 tyX1 := ⟨rfl, fun w hw => List.mem_filter.mpr ⟨(show ∀ w ∈ u_ws RX1 TX1 4, w ∈ lw_tbl by decide +kernel) w hw, (show ∀ w ∈ u_ws RX1 TX1 4, goodWord w = true by decide +kernel) w hw⟩, tyX1_ok, nmX1⟩
theorem dfX1 : ∀ j, j < 4 → defaultValue (tyX1 j) = vp_V [.null, .null, .int 0, .int 0] j := by decide +kernel
theorem kcX2 : gx_cc gz_cl gz_tb 2 RX2 TX2 2 tyX2 := ⟨rfl, fun w hw => List.mem_filter.mpr ⟨(show ∀ w ∈ u_ws RX2 TX2 2, w ∈ lw_tbl by decide +kernel) w hw, (show ∀ w ∈ u_ws RX2 TX2 2, goodWord w = true by decide +kernel) w hw⟩, tyX2_ok, nmX2⟩
theorem dfX2 : ∀ j, j < 2 → defaultValue (tyX2 j) = vp_V [.null, .null] j := by decide +kernel
theorem kcX3 : gx_cc gz_cl gz_tb 3 RX3 TX3 3 tyX3 := ⟨rfl, fun w hw => List.mem_filter.mpr ⟨(show ∀ w ∈ u_ws RX3 TX3 3, w ∈ lw_tbl by decide +kernel) w hw, (show ∀ w ∈ u_ws RX3 TX3 3, goodWord w = true by decide +kernel) w hw⟩, tyX3_ok, nmX3⟩
theorem dfX3 : ∀ j, j < 3 → defaultValue (tyX3 j) = vp_V [.null, .int 0, .int 0] j := by decide +kernel
theorem kcX4 : gx_cc gz_cl gz_tb 4 RX4 TX4 4 tyX4 := ⟨rfl, fun w hw => List.mem_filter.mpr ⟨(show ∀ w ∈ u_ws RX4 TX4 4, w ∈ lw_tbl by decide +kernel) w hw, (show ∀ w ∈ u_ws RX4 TX4 4, goodWord w = true by decide +kernel) w hw⟩, tyX4_ok, nmX4⟩
theorem dfX4 : ∀ j, j < 4 → defaultValue (tyX4 j) = vp_V [.null, .null, .int 0, .int 0] j := by decide +kernel
theorem kcX5 : gx_cc gz_cl gz_tb 5 RX5 TX5 6 tyX5 := ⟨rfl, fun w hw => List.mem_filter.mpr ⟨(show ∀ w ∈ u_ws RX5 TX5 6, w ∈ lw_tbl by decide +kernel) w hw, (show ∀ w ∈ u_ws RX5 TX5 6, goodWord w = true by decide +kernel) w hw⟩, tyX5_ok, nmX5⟩
theorem dfX5 : ∀ j, j < 6 → defaultValue (tyX5 j) = vp_V [.null, .null, .null, .null, .null, .int 0] j := by decide +kernel
theorem kcX6 : gx_cc gz_cl gz_tb 6 RX6 TX6 20 tyX6 := ⟨rfl, fun w hw => List.mem_filter.mpr ⟨(show ∀ w ∈ u_ws RX6 TX6 20, w ∈ lw_tbl by decide +kernel) w hw, (show ∀ w ∈ u_ws RX6 TX6 20, goodWord w = true by decide +kernel) w hw⟩, tyX6_ok, nmX6⟩
theorem dfX6 : ∀ j, j < 20 → defaultValue (tyX6 j) = vp_V [.int 0, .int 0, .null, .null, .null, .null, .null, .null, .null, .null, .null, .null, .int 0, .null, .null, .null, .null, .null, .int 0, .null] j := by decide +kernel
set_option maxRecDepth 20000 in
theorem cd_J13_bitCount_95d88 : gx_cd gz_tb yJ13_bitCount_95d88 cJ13_bitCount_95d88 2 (some .int) 1 := ⟨(gz_c2 205 rfl rfl), gz_mem 8 (by decide +kernel) rfl, by decide +kernel, by decide +kernel, by decide +kernel⟩
set_option maxRecDepth 20000 in
theorem cd_X0_addHandler : gx_cd gz_tb yX0_addHandler cX0_addHandler 4 none 3 := ⟨(gz_c2 59 rfl rfl), gz_mem 7 (by decide +kernel) rfl, by decide +kernel, by decide +kernel, by decide +kernel⟩
theorem ws_X0_addHandler : Cond.selects yX0_addHandler.cls yX0_addHandler yX0_addHandler ∈ gz_tb := gz_mem 298 (by decide +kernel) rfl
set_option maxRecDepth 20000 in
theorem cd_X0_hasInstruction : gx_cd gz_tb yX0_hasInstruction cX0_hasInstruction 2 (some .boolean) 1 := ⟨(gz_c2 41 rfl rfl), gz_mem 7 (by decide +kernel) rfl, by decide +kernel, by decide +kernel, by decide +kernel⟩
theorem ws_X0_hasInstruction : Cond.selects yX0_hasInstruction.cls yX0_hasInstruction yX0_hasInstruction ∈ gz_tb := gz_mem 280 (by decide +kernel) rfl
set_option maxRecDepth 20000 in
theorem cd_X0_canHandle : gx_cd gz_tb yX0_canHandle cX0_canHandle 4 (some .boolean) 3 := ⟨(gz_c2 55 rfl rfl), gz_mem 7 (by decide +kernel) rfl, by decide +kernel, by decide +kernel, by decide +kernel⟩
theorem ws_X0_canHandle : Cond.selects yX0_canHandle.cls yX0_canHandle yX0_canHandle ∈ gz_tb := gz_mem 294 (by decide +kernel) rfl
set_option maxRecDepth 20000 in
theorem cd_X0_canHold : gx_cd gz_tb yX0_canHold cX0_canHold 3 (some .boolean) 2 := ⟨(gz_c2 45 rfl rfl), gz_mem 7 (by decide +kernel) rfl, by decide +kernel, by decide +kernel, by decide +kernel⟩
theorem ws_X0_canHold : Cond.selects yX0_canHold.cls yX0_canHold yX0_canHold ∈ gz_tb := gz_mem 284 (by decide +kernel) rfl
set_option maxRecDepth 20000 in
theorem cd_X0_countOfKind : gx_cd gz_tb yX0_countOfKind cX0_countOfKind 4 (some .int) 1 := ⟨(gz_c2 224 rfl rfl), gz_mem 7 (by decide +kernel) rfl, by decide +kernel, by decide +kernel, by decide +kernel⟩
theorem ws_X0_countOfKind : Cond.selects yX0_countOfKind.cls yX0_countOfKind yX0_countOfKind ∈ gz_tb := gz_mem 463 (by decide +kernel) rfl
set_option maxRecDepth 20000 in
theorem cd_X0_countReached : gx_cd gz_tb yX0_countReached cX0_countReached 3 (some .int) 0 := ⟨(gz_c2 228 rfl rfl), gz_mem 7 (by decide +kernel) rfl, by decide +kernel, by decide +kernel, by decide +kernel⟩
theorem ws_X0_countReached : Cond.selects yX0_countReached.cls yX0_countReached yX0_countReached ∈ gz_tb := gz_mem 467 (by decide +kernel) rfl
set_option maxRecDepth 20000 in
theorem cd_X0_goesToNumber : gx_cd gz_tb yX0_goesToNumber cX0_goesToNumber 2 (some .boolean) 1 := ⟨(gz_c2 80 rfl rfl), gz_mem 7 (by decide +kernel) rfl, by decide +kernel, by decide +kernel, by decide +kernel⟩
theorem ws_X0_goesToNumber : Cond.selects yX0_goesToNumber.cls yX0_goesToNumber yX0_goesToNumber ∈ gz_tb := gz_mem 319 (by decide +kernel) rfl
set_option maxRecDepth 20000 in
theorem cd_X0_forgetSets : gx_cd gz_tb yX0_forgetSets cX0_forgetSets 2 none 0 := ⟨(gz_c2 76 rfl rfl), gz_mem 7 (by decide +kernel) rfl, by decide +kernel, by decide +kernel, by decide +kernel⟩
theorem ws_X0_forgetSets : Cond.selects yX0_forgetSets.cls yX0_forgetSets yX0_forgetSets ∈ gz_tb := gz_mem 315 (by decide +kernel) rfl
set_option maxRecDepth 20000 in
theorem cd_X0_init : gx_cd gz_tb yX0_init cX0_init 2 none 1 := ⟨(gz_c1 177 rfl rfl), gz_mem 7 (by decide +kernel) rfl, by decide +kernel, by decide +kernel, by decide +kernel⟩
set_option maxRecDepth 20000 in
theorem cd_X0_isGuarded : gx_cd gz_tb yX0_isGuarded cX0_isGuarded 2 (some .boolean) 1 := ⟨(gz_c2 111 rfl rfl), gz_mem 7 (by decide +kernel) rfl, by decide +kernel, by decide +kernel, by decide +kernel⟩
theorem ws_X0_isGuarded : Cond.selects yX0_isGuarded.cls yX0_isGuarded yX0_isGuarded ∈ gz_tb := gz_mem 350 (by decide +kernel) rfl
set_option maxRecDepth 20000 in
theorem cd_X0_put : gx_cd gz_tb yX0_put cX0_put 4 none 3 := ⟨(gz_c2 29 rfl rfl), gz_mem 7 (by decide +kernel) rfl, by decide +kernel, by decide +kernel, by decide +kernel⟩
theorem ws_X0_put : Cond.selects yX0_put.cls yX0_put yX0_put ∈ gz_tb := gz_mem 268 (by decide +kernel) rfl
set_option maxRecDepth 20000 in
theorem cd_X0_renew : gx_cd gz_tb yX0_renew cX0_renew 3 none 1 := ⟨(gz_c2 25 rfl rfl), gz_mem 7 (by decide +kernel) rfl, by decide +kernel, by decide +kernel, by decide +kernel⟩
theorem ws_X0_renew : Cond.selects yX0_renew.cls yX0_renew yX0_renew ∈ gz_tb := gz_mem 264 (by decide +kernel) rfl
set_option maxRecDepth 20000 in
theorem cd_X4_waysFrom : gx_cd gz_tb yX4_waysFrom cX4_waysFrom 3 (some .long) 2 := ⟨(gz_c1 149 rfl rfl), gz_mem 2 (by decide +kernel) rfl, by decide +kernel, by decide +kernel, by decide +kernel⟩
theorem ws_X4_waysFrom : Cond.selects yX4_waysFrom.cls yX4_waysFrom yX4_waysFrom ∈ gz_tb := gz_sel (by decide +kernel) rfl
set_option maxRecDepth 20000 in
theorem cd_X4_goneTo : gx_cd gz_tb yX4_goneTo cX4_goneTo 7 (some .long) 2 := ⟨(gz_c2 106 rfl rfl), gz_mem 2 (by decide +kernel) rfl, by decide +kernel, by decide +kernel, by decide +kernel⟩
theorem ws_X4_goneTo : Cond.selects yX4_goneTo.cls yX4_goneTo yX4_goneTo ∈ gz_tb := gz_mem 345 (by decide +kernel) rfl
set_option maxRecDepth 20000 in
theorem cd_X1_afterOf : gx_cd gz_tb yX1_afterOf cX1_afterOf 4 (some .long) 3 := ⟨(gz_c2 102 rfl rfl), gz_mem 3 (by decide +kernel) rfl, by decide +kernel, by decide +kernel, by decide +kernel⟩
theorem ws_X1_afterOf : Cond.selects yX1_afterOf.cls yX1_afterOf yX1_afterOf ∈ gz_tb := gz_sel (by decide +kernel) rfl
set_option maxRecDepth 20000 in
theorem cd_X3_body : gx_cd gz_tb yX3_body cX3_body 2 (some (.object "GuardFlow$Body")) 1 := ⟨(gz_c2 37 rfl rfl), gz_mem 5 (by decide +kernel) rfl, by decide +kernel, by decide +kernel, by decide +kernel⟩
theorem ws_X3_body : Cond.selects yX3_body.cls yX3_body yX3_body ∈ gz_tb := gz_mem 276 (by decide +kernel) rfl
set_option maxRecDepth 20000 in
theorem cd_X1_forgetAll : gx_cd gz_tb yX1_forgetAll cX1_forgetAll 4 none 1 := ⟨(gz_c2 71 rfl rfl), gz_mem 3 (by decide +kernel) rfl, by decide +kernel, by decide +kernel, by decide +kernel⟩
theorem ws_X1_forgetAll : Cond.selects yX1_forgetAll.cls yX1_forgetAll yX1_forgetAll ∈ gz_tb := gz_sel (by decide +kernel) rfl
set_option maxRecDepth 20000 in
theorem cd_X1_waitAt : gx_cd gz_tb yX1_waitAt cX1_waitAt 3 none 2 := ⟨(gz_c2 93 rfl rfl), gz_mem 3 (by decide +kernel) rfl, by decide +kernel, by decide +kernel, by decide +kernel⟩
theorem ws_X1_waitAt : Cond.selects yX1_waitAt.cls yX1_waitAt yX1_waitAt ∈ gz_tb := gz_sel (by decide +kernel) rfl
set_option maxRecDepth 20000 in
theorem cd_X1_growMay : gx_cd gz_tb yX1_growMay cX1_growMay 5 none 3 := ⟨(gz_c2 88 rfl rfl), gz_mem 3 (by decide +kernel) rfl, by decide +kernel, by decide +kernel, by decide +kernel⟩
theorem ws_X1_growMay : Cond.selects yX1_growMay.cls yX1_growMay yX1_growMay ∈ gz_tb := gz_sel (by decide +kernel) rfl
set_option maxRecDepth 20000 in
theorem cd_X1_growEntry : gx_cd gz_tb yX1_growEntry cX1_growEntry 4 none 2 := ⟨(gz_c2 84 rfl rfl), gz_mem 3 (by decide +kernel) rfl, by decide +kernel, by decide +kernel, by decide +kernel⟩
theorem ws_X1_growEntry : Cond.selects yX1_growEntry.cls yX1_growEntry yX1_growEntry ∈ gz_tb := gz_sel (by decide +kernel) rfl
set_option maxRecDepth 20000 in
theorem cd_X1_growSummary : gx_cd gz_tb yX1_growSummary cX1_growSummary 6 none 3 := ⟨(gz_c2 115 rfl rfl), gz_mem 3 (by decide +kernel) rfl, by decide +kernel, by decide +kernel, by decide +kernel⟩
theorem ws_X1_growSummary : Cond.selects yX1_growSummary.cls yX1_growSummary yX1_growSummary ∈ gz_tb := gz_sel (by decide +kernel) rfl
set_option maxRecDepth 20000 in
theorem cd_X1_init : gx_cd gz_tb yX1_init cX1_init 2 none 1 := ⟨(gz_c1 45 rfl rfl), gz_mem 3 (by decide +kernel) rfl, by decide +kernel, by decide +kernel, by decide +kernel⟩
set_option maxRecDepth 20000 in
theorem cd_X1_passOn : gx_cd gz_tb yX1_passOn cX1_passOn 6 none 3 := ⟨(gz_c2 119 rfl rfl), gz_mem 3 (by decide +kernel) rfl, by decide +kernel, by decide +kernel, by decide +kernel⟩
theorem ws_X1_passOn : Cond.selects yX1_passOn.cls yX1_passOn yX1_passOn ∈ gz_tb := gz_sel (by decide +kernel) rfl
set_option maxRecDepth 20000 in
theorem cd_X1_passToHandlers : gx_cd gz_tb yX1_passToHandlers cX1_passToHandlers 6 none 3 := ⟨(gz_c2 124 rfl rfl), gz_mem 3 (by decide +kernel) rfl, by decide +kernel, by decide +kernel, by decide +kernel⟩
theorem ws_X1_passToHandlers : Cond.selects yX1_passToHandlers.cls yX1_passToHandlers yX1_passToHandlers ∈ gz_tb := gz_sel (by decide +kernel) rfl
set_option maxRecDepth 20000 in
theorem cd_X1_step : gx_cd gz_tb yX1_step cX1_step 13 none 2 := ⟨(gz_c2 98 rfl rfl), gz_mem 3 (by decide +kernel) rfl, by decide +kernel, by decide +kernel, by decide +kernel⟩
theorem ws_X1_step : Cond.selects yX1_step.cls yX1_step yX1_step ∈ gz_tb := gz_sel (by decide +kernel) rfl
set_option maxRecDepth 20000 in
theorem cd_X1_wakeCallersIn : gx_cd gz_tb yX1_wakeCallersIn cX1_wakeCallersIn 5 none 2 := ⟨(gz_c2 132 rfl rfl), gz_mem 3 (by decide +kernel) rfl, by decide +kernel, by decide +kernel, by decide +kernel⟩
theorem ws_X1_wakeCallersIn : Cond.selects yX1_wakeCallersIn.cls yX1_wakeCallersIn yX1_wakeCallersIn ∈ gz_tb := gz_sel (by decide +kernel) rfl
set_option maxRecDepth 20000 in
theorem cd_X1_wakeCallers : gx_cd gz_tb yX1_wakeCallers cX1_wakeCallers 4 none 1 := ⟨(gz_c2 128 rfl rfl), gz_mem 3 (by decide +kernel) rfl, by decide +kernel, by decide +kernel, by decide +kernel⟩
theorem ws_X1_wakeCallers : Cond.selects yX1_wakeCallers.cls yX1_wakeCallers yX1_wakeCallers ∈ gz_tb := gz_sel (by decide +kernel) rfl
set_option maxRecDepth 20000 in
theorem cd_X1_settle : gx_cd gz_tb yX1_settle cX1_settle 4 none 1 := ⟨(gz_c2 67 rfl rfl), gz_mem 3 (by decide +kernel) rfl, by decide +kernel, by decide +kernel, by decide +kernel⟩
theorem ws_X1_settle : Cond.selects yX1_settle.cls yX1_settle yX1_settle ∈ gz_tb := gz_mem 306 (by decide +kernel) rfl
set_option maxRecDepth 20000 in
theorem cd_X2_copyHandlers : gx_cd gz_tb yX2_copyHandlers cX2_copyHandlers 4 none 2 := ⟨(gz_c2 174 rfl rfl), gz_mem 4 (by decide +kernel) rfl, by decide +kernel, by decide +kernel, by decide +kernel⟩
theorem ws_X2_copyHandlers : Cond.selects yX2_copyHandlers.cls yX2_copyHandlers yX2_copyHandlers ∈ gz_tb := gz_sel (by decide +kernel) rfl
set_option maxRecDepth 20000 in
theorem cd_X4_bitOf : gx_cd gz_tb yX4_bitOf cX4_bitOf 1 (some .long) 1 := ⟨(gz_c1 152 rfl rfl), gz_mem 2 (by decide +kernel) rfl, by decide +kernel, by decide +kernel, by decide +kernel⟩
set_option maxRecDepth 20000 in
theorem cd_X4_changesSome : gx_cd gz_tb yX4_changesSome cX4_changesSome 5 (some .boolean) 2 := ⟨(gz_c2 153 rfl rfl), gz_mem 2 (by decide +kernel) rfl, by decide +kernel, by decide +kernel, by decide +kernel⟩
theorem ws_X4_changesSome : Cond.selects yX4_changesSome.cls yX4_changesSome yX4_changesSome ∈ gz_tb := gz_sel (by decide +kernel) rfl
set_option maxRecDepth 20000 in
theorem cd_X4_needsGuard : gx_cd gz_tb yX4_needsGuard cX4_needsGuard 4 (some .boolean) 2 := ⟨(gz_c2 149 rfl rfl), gz_mem 2 (by decide +kernel) rfl, by decide +kernel, by decide +kernel, by decide +kernel⟩
theorem ws_X4_needsGuard : Cond.selects yX4_needsGuard.cls yX4_needsGuard yX4_needsGuard ∈ gz_tb := gz_mem 388 (by decide +kernel) rfl
set_option maxRecDepth 20000 in
theorem cd_X4_lacksGuard : gx_cd gz_tb yX4_lacksGuard cX4_lacksGuard 3 (some .boolean) 2 := ⟨(gz_c2 145 rfl rfl), gz_mem 2 (by decide +kernel) rfl, by decide +kernel, by decide +kernel, by decide +kernel⟩
theorem ws_X4_lacksGuard : Cond.selects yX4_lacksGuard.cls yX4_lacksGuard yX4_lacksGuard ∈ gz_tb := gz_mem 384 (by decide +kernel) rfl
set_option maxRecDepth 20000 in
theorem cd_X2_copyInstructions : gx_cd gz_tb yX2_copyInstructions cX2_copyInstructions 5 none 2 := ⟨(gz_c2 164 rfl rfl), gz_mem 4 (by decide +kernel) rfl, by decide +kernel, by decide +kernel, by decide +kernel⟩
theorem ws_X2_copyInstructions : Cond.selects yX2_copyInstructions.cls yX2_copyInstructions yX2_copyInstructions ∈ gz_tb := gz_sel (by decide +kernel) rfl
set_option maxRecDepth 20000 in
theorem cd_X3_clear : gx_cd gz_tb yX3_clear cX3_clear 1 none 0 := ⟨(gz_c1 125 rfl rfl), gz_mem 5 (by decide +kernel) rfl, by decide +kernel, by decide +kernel, by decide +kernel⟩
theorem ws_X3_clear : Cond.selects yX3_clear.cls yX3_clear yX3_clear ∈ gz_tb := gz_mem 124 (by decide +kernel) rfl
set_option maxRecDepth 20000 in
theorem cd_X2_lackingIn : gx_cd gz_tb yX2_lackingIn cX2_lackingIn 4 (some .int) 1 := ⟨(gz_c2 141 rfl rfl), gz_mem 4 (by decide +kernel) rfl, by decide +kernel, by decide +kernel, by decide +kernel⟩
theorem ws_X2_lackingIn : Cond.selects yX2_lackingIn.cls yX2_lackingIn yX2_lackingIn ∈ gz_tb := gz_sel (by decide +kernel) rfl
set_option maxRecDepth 20000 in
theorem cd_X3_append : gx_cd gz_tb yX3_append cX3_append 3 (some (.object "GuardFlow$Body")) 1 := ⟨(gz_c1 173 rfl rfl), gz_mem 5 (by decide +kernel) rfl, by decide +kernel, by decide +kernel, by decide +kernel⟩
theorem ws_X3_append : Cond.selects yX3_append.cls yX3_append yX3_append ∈ gz_tb := gz_mem 172 (by decide +kernel) rfl
set_option maxRecDepth 20000 in
theorem cd_X2_moveTargets : gx_cd gz_tb yX2_moveTargets cX2_moveTargets 3 none 1 := ⟨(gz_c2 169 rfl rfl), gz_mem 4 (by decide +kernel) rfl, by decide +kernel, by decide +kernel, by decide +kernel⟩
theorem ws_X2_moveTargets : Cond.selects yX2_moveTargets.cls yX2_moveTargets yX2_moveTargets ∈ gz_tb := gz_sel (by decide +kernel) rfl
set_option maxRecDepth 20000 in
theorem cd_X2_copyWithGuards : gx_cd gz_tb yX2_copyWithGuards cX2_copyWithGuards 6 none 2 := ⟨(gz_c2 158 rfl rfl), gz_mem 4 (by decide +kernel) rfl, by decide +kernel, by decide +kernel, by decide +kernel⟩
theorem ws_X2_copyWithGuards : Cond.selects yX2_copyWithGuards.cls yX2_copyWithGuards yX2_copyWithGuards ∈ gz_tb := gz_mem 397 (by decide +kernel) rfl
set_option maxRecDepth 20000 in
theorem cd_X2_countLacking : gx_cd gz_tb yX2_countLacking cX2_countLacking 6 (some .int) 1 := ⟨(gz_c2 136 rfl rfl), gz_mem 4 (by decide +kernel) rfl, by decide +kernel, by decide +kernel, by decide +kernel⟩
theorem ws_X2_countLacking : Cond.selects yX2_countLacking.cls yX2_countLacking yX2_countLacking ∈ gz_tb := gz_mem 375 (by decide +kernel) rfl
set_option maxRecDepth 20000 in
theorem cd_X2_init : gx_cd gz_tb yX2_init cX2_init 2 none 1 := ⟨(gz_c1 65 rfl rfl), gz_mem 4 (by decide +kernel) rfl, by decide +kernel, by decide +kernel, by decide +kernel⟩
set_option maxRecDepth 20000 in
theorem cd_X3_countInstructions : gx_cd gz_tb yX3_countInstructions cX3_countInstructions 4 (some .int) 0 := ⟨(gz_c3 4 rfl rfl), gz_mem 5 (by decide +kernel) rfl, by decide +kernel, by decide +kernel, by decide +kernel⟩
theorem ws_X3_countInstructions : Cond.selects yX3_countInstructions.cls yX3_countInstructions yX3_countInstructions ∈ gz_tb := gz_mem 483 (by decide +kernel) rfl
set_option maxRecDepth 20000 in
theorem cd_X3_init : gx_cd gz_tb yX3_init cX3_init 1 none 0 := ⟨(gz_c1 78 rfl rfl), gz_mem 5 (by decide +kernel) rfl, by decide +kernel, by decide +kernel, by decide +kernel⟩
set_option maxRecDepth 20000 in
theorem cd_X4_addWay : gx_cd gz_tb yX4_addWay cX4_addWay 4 none 3 := ⟨(gz_c1 156 rfl rfl), gz_mem 2 (by decide +kernel) rfl, by decide +kernel, by decide +kernel, by decide +kernel⟩
theorem ws_X4_addWay : Cond.selects yX4_addWay.cls yX4_addWay yX4_addWay ∈ gz_tb := gz_mem 155 (by decide +kernel) rfl
set_option maxRecDepth 20000 in
theorem cd_X4_isCall : gx_cd gz_tb yX4_isCall cX4_isCall 2 (some .boolean) 1 := ⟨(gz_c1 137 rfl rfl), gz_mem 2 (by decide +kernel) rfl, by decide +kernel, by decide +kernel, by decide +kernel⟩
theorem ws_X4_isCall : Cond.selects yX4_isCall.cls yX4_isCall yX4_isCall ∈ gz_tb := gz_mem 136 (by decide +kernel) rfl
set_option maxRecDepth 20000 in
theorem cd_X4_isState : gx_cd gz_tb yX4_isState cX4_isState 2 (some .boolean) 1 := ⟨(gz_c1 141 rfl rfl), gz_mem 2 (by decide +kernel) rfl, by decide +kernel, by decide +kernel, by decide +kernel⟩
theorem ws_X4_isState : Cond.selects yX4_isState.cls yX4_isState yX4_isState ∈ gz_tb := gz_sel (by decide +kernel) rfl
set_option maxRecDepth 20000 in
theorem cd_X4_canBe : gx_cd gz_tb yX4_canBe cX4_canBe 4 (some .boolean) 3 := ⟨(gz_c1 133 rfl rfl), gz_mem 2 (by decide +kernel) rfl, by decide +kernel, by decide +kernel, by decide +kernel⟩
theorem ws_X4_canBe : Cond.selects yX4_canBe.cls yX4_canBe yX4_canBe ∈ gz_tb := gz_mem 132 (by decide +kernel) rfl
set_option maxRecDepth 20000 in
theorem cd_X4_countAlways : gx_cd gz_tb yX4_countAlways cX4_countAlways 3 (some .int) 0 := ⟨(gz_c3 9 rfl rfl), gz_mem 2 (by decide +kernel) rfl, by decide +kernel, by decide +kernel, by decide +kernel⟩
theorem ws_X4_countAlways : Cond.selects yX4_countAlways.cls yX4_countAlways yX4_countAlways ∈ gz_tb := gz_mem 488 (by decide +kernel) rfl
set_option maxRecDepth 20000 in
theorem cd_X4_hasWay : gx_cd gz_tb yX4_hasWay cX4_hasWay 4 (some .boolean) 3 := ⟨(gz_c1 145 rfl rfl), gz_mem 2 (by decide +kernel) rfl, by decide +kernel, by decide +kernel, by decide +kernel⟩
theorem ws_X4_hasWay : Cond.selects yX4_hasWay.cls yX4_hasWay yX4_hasWay ∈ gz_tb := gz_mem 144 (by decide +kernel) rfl
set_option maxRecDepth 20000 in
theorem cd_X4_init : gx_cd gz_tb yX4_init cX4_init 1 none 0 := ⟨(gz_c1 21 rfl rfl), gz_mem 2 (by decide +kernel) rfl, by decide +kernel, by decide +kernel, by decide +kernel⟩
set_option maxRecDepth 20000 in
theorem cd_X4_renew : gx_cd gz_tb yX4_renew cX4_renew 3 none 1 := ⟨(gz_c1 121 rfl rfl), gz_mem 2 (by decide +kernel) rfl, by decide +kernel, by decide +kernel, by decide +kernel⟩
theorem ws_X4_renew : Cond.selects yX4_renew.cls yX4_renew yX4_renew ∈ gz_tb := gz_mem 120 (by decide +kernel) rfl
set_option maxRecDepth 20000 in
theorem cd_X5_noteChange : gx_cd gz_tb yX5_noteChange cX5_noteChange 1 none 0 := ⟨(gz_c1 160 rfl rfl), gz_mem 1 (by decide +kernel) rfl, by decide +kernel, by decide +kernel, by decide +kernel⟩
theorem ws_X5_noteChange : Cond.selects yX5_noteChange.cls yX5_noteChange yX5_noteChange ∈ gz_tb := gz_sel (by decide +kernel) rfl
set_option maxRecDepth 20000 in
theorem cd_X5_always : gx_cd gz_tb yX5_always cX5_always 3 (some .boolean) 2 := ⟨(gz_c1 164 rfl rfl), gz_mem 1 (by decide +kernel) rfl, by decide +kernel, by decide +kernel, by decide +kernel⟩
theorem ws_X5_always : Cond.selects yX5_always.cls yX5_always yX5_always ∈ gz_tb := gz_mem 163 (by decide +kernel) rfl
set_option maxRecDepth 20000 in
theorem cd_X5_begin : gx_cd gz_tb yX5_begin cX5_begin 2 (some .boolean) 1 := ⟨(gz_c1 117 rfl rfl), gz_mem 1 (by decide +kernel) rfl, by decide +kernel, by decide +kernel, by decide +kernel⟩
theorem ws_X5_begin : Cond.selects yX5_begin.cls yX5_begin yX5_begin ∈ gz_tb := gz_mem 116 (by decide +kernel) rfl
set_option maxRecDepth 20000 in
theorem cd_X5_programOf : gx_cd gz_tb yX5_programOf cX5_programOf 2 (some (.object "GuardFlow$Program")) 1 := ⟨(gz_c2 187 rfl rfl), gz_mem 1 (by decide +kernel) rfl, by decide +kernel, by decide +kernel, by decide +kernel⟩
theorem ws_X5_programOf : Cond.selects yX5_programOf.cls yX5_programOf yX5_programOf ∈ gz_tb := gz_sel (by decide +kernel) rfl
set_option maxRecDepth 20000 in
theorem cd_X5_firstUncertified : gx_cd gz_tb yX5_firstUncertified cX5_firstUncertified 4 (some .int) 1 := ⟨(gz_c2 191 rfl rfl), gz_mem 1 (by decide +kernel) rfl, by decide +kernel, by decide +kernel, by decide +kernel⟩
theorem ws_X5_firstUncertified : Cond.selects yX5_firstUncertified.cls yX5_firstUncertified yX5_firstUncertified ∈ gz_tb := gz_sel (by decide +kernel) rfl
set_option maxRecDepth 20000 in
theorem cd_X5_certify : gx_cd gz_tb yX5_certify cX5_certify 6 (some .int) 1 := ⟨(gz_c2 183 rfl rfl), gz_mem 1 (by decide +kernel) rfl, by decide +kernel, by decide +kernel, by decide +kernel⟩
theorem ws_X5_certify : Cond.selects yX5_certify.cls yX5_certify yX5_certify ∈ gz_tb := gz_mem 422 (by decide +kernel) rfl
set_option maxRecDepth 20000 in
theorem cd_X5_code : gx_cd gz_tb yX5_code cX5_code 6 (some .boolean) 4 := ⟨(gz_c2 33 rfl rfl), gz_mem 1 (by decide +kernel) rfl, by decide +kernel, by decide +kernel, by decide +kernel⟩
theorem ws_X5_code : Cond.selects yX5_code.cls yX5_code yX5_code ∈ gz_tb := gz_mem 272 (by decide +kernel) rfl
set_option maxRecDepth 20000 in
theorem cd_X5_forge : gx_cd gz_tb yX5_forge cX5_forge 2 (some .int) 0 := ⟨(gz_c2 63 rfl rfl), gz_mem 1 (by decide +kernel) rfl, by decide +kernel, by decide +kernel, by decide +kernel⟩
theorem ws_X5_forge : Cond.selects yX5_forge.cls yX5_forge yX5_forge ∈ gz_tb := gz_mem 302 (by decide +kernel) rfl
set_option maxRecDepth 20000 in
theorem cd_X5_function : gx_cd gz_tb yX5_function cX5_function 3 (some .int) 1 := ⟨(gz_c1 169 rfl rfl), gz_mem 1 (by decide +kernel) rfl, by decide +kernel, by decide +kernel, by decide +kernel⟩
theorem ws_X5_function : Cond.selects yX5_function.cls yX5_function yX5_function ∈ gz_tb := gz_mem 168 (by decide +kernel) rfl
set_option maxRecDepth 20000 in
theorem cd_X5_goes : gx_cd gz_tb yX5_goes cX5_goes 4 (some .boolean) 3 := ⟨(gz_c2 236 rfl rfl), gz_mem 1 (by decide +kernel) rfl, by decide +kernel, by decide +kernel, by decide +kernel⟩
theorem ws_X5_goes : Cond.selects yX5_goes.cls yX5_goes yX5_goes ∈ gz_tb := gz_mem 475 (by decide +kernel) rfl
set_option maxRecDepth 20000 in
theorem cd_X5_handler : gx_cd gz_tb yX5_handler cX5_handler 6 (some .boolean) 4 := ⟨(gz_c2 51 rfl rfl), gz_mem 1 (by decide +kernel) rfl, by decide +kernel, by decide +kernel, by decide +kernel⟩
theorem ws_X5_handler : Cond.selects yX5_handler.cls yX5_handler yX5_handler ∈ gz_tb := gz_mem 290 (by decide +kernel) rfl
set_option maxRecDepth 20000 in
theorem cd_X5_init : gx_cd gz_tb yX5_init cX5_init 1 none 0 := ⟨(gz_c1 13 rfl rfl), gz_mem 1 (by decide +kernel) rfl, by decide +kernel, by decide +kernel, by decide +kernel⟩
set_option maxRecDepth 20000 in
theorem cd_X5_look : gx_cd gz_tb yX5_look cX5_look 2 (some .int) 1 := ⟨(gz_c3 0 rfl rfl), gz_mem 1 (by decide +kernel) rfl, by decide +kernel, by decide +kernel, by decide +kernel⟩
theorem ws_X5_look : Cond.selects yX5_look.cls yX5_look yX5_look ∈ gz_tb := gz_mem 479 (by decide +kernel) rfl
set_option maxRecDepth 20000 in
theorem cd_X5_settledBody : gx_cd gz_tb yX5_settledBody cX5_settledBody 5 (some (.object "GuardFlow$Body")) 2 := ⟨(gz_c2 201 rfl rfl), gz_mem 1 (by decide +kernel) rfl, by decide +kernel, by decide +kernel, by decide +kernel⟩
theorem ws_X5_settledBody : Cond.selects yX5_settledBody.cls yX5_settledBody yX5_settledBody ∈ gz_tb := gz_sel (by decide +kernel) rfl
set_option maxRecDepth 20000 in
theorem cd_X5_may : gx_cd gz_tb yX5_may cX5_may 5 (some .long) 3 := ⟨(gz_c2 212 rfl rfl), gz_mem 1 (by decide +kernel) rfl, by decide +kernel, by decide +kernel, by decide +kernel⟩
theorem ws_X5_may : Cond.selects yX5_may.cls yX5_may yX5_may ∈ gz_tb := gz_mem 451 (by decide +kernel) rfl
set_option maxRecDepth 20000 in
theorem cd_X5_of : gx_cd gz_tb yX5_of cX5_of 6 (some .int) 4 := ⟨(gz_c2 197 rfl rfl), gz_mem 1 (by decide +kernel) rfl, by decide +kernel, by decide +kernel, by decide +kernel⟩
theorem ws_X5_of : Cond.selects yX5_of.cls yX5_of yX5_of ∈ gz_tb := gz_mem 436 (by decide +kernel) rfl
set_option maxRecDepth 20000 in
theorem cd_X5_range : gx_cd gz_tb yX5_range cX5_range 7 (some .int) 4 := ⟨(gz_c2 232 rfl rfl), gz_mem 1 (by decide +kernel) rfl, by decide +kernel, by decide +kernel, by decide +kernel⟩
theorem ws_X5_range : Cond.selects yX5_range.cls yX5_range yX5_range ∈ gz_tb := gz_mem 471 (by decide +kernel) rfl
set_option maxRecDepth 20000 in
theorem cd_X5_set : gx_cd gz_tb yX5_set cX5_set 5 (some .long) 3 := ⟨(gz_c2 216 rfl rfl), gz_mem 1 (by decide +kernel) rfl, by decide +kernel, by decide +kernel, by decide +kernel⟩
theorem ws_X5_set : Cond.selects yX5_set.cls yX5_set yX5_set ∈ gz_tb := gz_mem 455 (by decide +kernel) rfl
set_option maxRecDepth 20000 in
theorem cd_X5_size : gx_cd gz_tb yX5_size cX5_size 5 (some .int) 3 := ⟨(gz_c2 220 rfl rfl), gz_mem 1 (by decide +kernel) rfl, by decide +kernel, by decide +kernel, by decide +kernel⟩
theorem ws_X5_size : Cond.selects yX5_size.cls yX5_size yX5_size ∈ gz_tb := gz_mem 459 (by decide +kernel) rfl
set_option maxRecDepth 20000 in
theorem cd_X5_take : gx_cd gz_tb yX5_take cX5_take 2 (some .boolean) 0 := ⟨(gz_c2 179 rfl rfl), gz_mem 1 (by decide +kernel) rfl, by decide +kernel, by decide +kernel, by decide +kernel⟩
theorem ws_X5_take : Cond.selects yX5_take.cls yX5_take yX5_take ∈ gz_tb := gz_mem 418 (by decide +kernel) rfl
set_option maxRecDepth 20000 in
theorem cd_X5_way : gx_cd gz_tb yX5_way cX5_way 4 (some .boolean) 3 := ⟨(gz_c1 129 rfl rfl), gz_mem 1 (by decide +kernel) rfl, by decide +kernel, by decide +kernel, by decide +kernel⟩
theorem ws_X5_way : Cond.selects yX5_way.cls yX5_way yX5_way ∈ gz_tb := gz_mem 128 (by decide +kernel) rfl
set_option maxRecDepth 20000 in
theorem cd_X6_change : gx_cd gz_tb yX6_change cX6_change 1 none 0 := ⟨(gz_c3 85 rfl rfl), gz_mem 6 (by decide +kernel) rfl, by decide +kernel, by decide +kernel, by decide +kernel⟩
theorem ws_X6_change : Cond.selects yX6_change.cls yX6_change yX6_change ∈ gz_tb := gz_sel (by decide +kernel) rfl
set_option maxRecDepth 20000 in
theorem cd_X6_always : gx_cd gz_tb yX6_always cX6_always 3 (some .boolean) 2 := ⟨(gz_c3 108 rfl rfl), gz_mem 6 (by decide +kernel) rfl, by decide +kernel, by decide +kernel, by decide +kernel⟩
theorem ws_X6_always : Cond.selects yX6_always.cls yX6_always yX6_always ∈ gz_tb := gz_mem 587 (by decide +kernel) rfl
set_option maxRecDepth 20000 in
theorem cd_X6_begin : gx_cd gz_tb yX6_begin cX6_begin 3 (some .boolean) 1 := ⟨(gz_c3 81 rfl rfl), gz_mem 6 (by decide +kernel) rfl, by decide +kernel, by decide +kernel, by decide +kernel⟩
theorem ws_X6_begin : Cond.selects yX6_begin.cls yX6_begin yX6_begin ∈ gz_tb := gz_mem 560 (by decide +kernel) rfl
set_option maxRecDepth 20000 in
theorem cd_X6_below : gx_cd gz_tb yX6_below cX6_below 3 (some .int) 2 := ⟨(gz_c3 124 rfl rfl), gz_mem 6 (by decide +kernel) rfl, by decide +kernel, by decide +kernel, by decide +kernel⟩
theorem ws_X6_below : Cond.selects yX6_below.cls yX6_below yX6_below ∈ gz_tb := gz_sel (by decide +kernel) rfl
set_option maxRecDepth 20000 in
theorem cd_X6_bits : gx_cd gz_tb yX6_bits cX6_bits 5 (some .int) 1 := ⟨(gz_c3 192 rfl rfl), gz_mem 6 (by decide +kernel) rfl, by decide +kernel, by decide +kernel, by decide +kernel⟩
theorem ws_X6_bits : Cond.selects yX6_bits.cls yX6_bits yX6_bits ∈ gz_tb := gz_sel (by decide +kernel) rfl
set_option maxRecDepth 20000 in
theorem cd_X6_isState : gx_cd gz_tb yX6_isState cX6_isState 2 (some .boolean) 1 := ⟨(gz_c3 97 rfl rfl), gz_mem 6 (by decide +kernel) rfl, by decide +kernel, by decide +kernel, by decide +kernel⟩
theorem ws_X6_isState : Cond.selects yX6_isState.cls yX6_isState yX6_isState ∈ gz_tb := gz_sel (by decide +kernel) rfl
set_option maxRecDepth 20000 in
theorem cd_X6_canWay : gx_cd gz_tb yX6_canWay cX6_canWay 4 (some .boolean) 3 := ⟨(gz_c3 93 rfl rfl), gz_mem 6 (by decide +kernel) rfl, by decide +kernel, by decide +kernel, by decide +kernel⟩
theorem ws_X6_canWay : Cond.selects yX6_canWay.cls yX6_canWay yX6_canWay ∈ gz_tb := gz_sel (by decide +kernel) rfl
set_option maxRecDepth 20000 in
theorem cd_X6_isGoal : gx_cd gz_tb yX6_isGoal cX6_isGoal 6 (some .boolean) 3 := ⟨(gz_c3 164 rfl rfl), gz_mem 6 (by decide +kernel) rfl, by decide +kernel, by decide +kernel, by decide +kernel⟩
theorem ws_X6_isGoal : Cond.selects yX6_isGoal.cls yX6_isGoal yX6_isGoal ∈ gz_tb := gz_sel (by decide +kernel) rfl
set_option maxRecDepth 20000 in
theorem cd_X6_isGuarded : gx_cd gz_tb yX6_isGuarded cX6_isGuarded 5 (some .boolean) 3 := ⟨(gz_c3 160 rfl rfl), gz_mem 6 (by decide +kernel) rfl, by decide +kernel, by decide +kernel, by decide +kernel⟩
theorem ws_X6_isGuarded : Cond.selects yX6_isGuarded.cls yX6_isGuarded yX6_isGuarded ∈ gz_tb := gz_sel (by decide +kernel) rfl
set_option maxRecDepth 20000 in
theorem cd_X6_join : gx_cd gz_tb yX6_join cX6_join 5 none 3 := ⟨(gz_c3 152 rfl rfl), gz_mem 6 (by decide +kernel) rfl, by decide +kernel, by decide +kernel, by decide +kernel⟩
theorem ws_X6_join : Cond.selects yX6_join.cls yX6_join yX6_join ∈ gz_tb := gz_sel (by decide +kernel) rfl
set_option maxRecDepth 20000 in
theorem cd_X6_wayAt : gx_cd gz_tb yX6_wayAt cX6_wayAt 3 (some .int) 3 := ⟨(gz_c3 100 rfl rfl), gz_mem 6 (by decide +kernel) rfl, by decide +kernel, by decide +kernel, by decide +kernel⟩
set_option maxRecDepth 20000 in
theorem cd_X6_led : gx_cd gz_tb yX6_led cX6_led 8 (some .long) 2 := ⟨(gz_c3 168 rfl rfl), gz_mem 6 (by decide +kernel) rfl, by decide +kernel, by decide +kernel, by decide +kernel⟩
theorem ws_X6_led : Cond.selects yX6_led.cls yX6_led yX6_led ∈ gz_tb := gz_sel (by decide +kernel) rfl
set_option maxRecDepth 20000 in
theorem cd_X6_goOn : gx_cd gz_tb yX6_goOn cX6_goOn 15 none 3 := ⟨(gz_c3 156 rfl rfl), gz_mem 6 (by decide +kernel) rfl, by decide +kernel, by decide +kernel, by decide +kernel⟩
theorem ws_X6_goOn : Cond.selects yX6_goOn.cls yX6_goOn yX6_goOn ∈ gz_tb := gz_sel (by decide +kernel) rfl
set_option maxRecDepth 20000 in
theorem cd_X6_find : gx_cd gz_tb yX6_find cX6_find 4 none 1 := ⟨(gz_c3 148 rfl rfl), gz_mem 6 (by decide +kernel) rfl, by decide +kernel, by decide +kernel, by decide +kernel⟩
theorem ws_X6_find : Cond.selects yX6_find.cls yX6_find yX6_find ∈ gz_tb := gz_sel (by decide +kernel) rfl
set_option maxRecDepth 20000 in
theorem cd_X6_needs : gx_cd gz_tb yX6_needs cX6_needs 10 (some .boolean) 3 := ⟨(gz_c3 144 rfl rfl), gz_mem 6 (by decide +kernel) rfl, by decide +kernel, by decide +kernel, by decide +kernel⟩
theorem ws_X6_needs : Cond.selects yX6_needs.cls yX6_needs yX6_needs ∈ gz_tb := gz_sel (by decide +kernel) rfl
set_option maxRecDepth 20000 in
theorem cd_X6_lacks : gx_cd gz_tb yX6_lacks cX6_lacks 4 (some .boolean) 3 := ⟨(gz_c3 140 rfl rfl), gz_mem 6 (by decide +kernel) rfl, by decide +kernel, by decide +kernel, by decide +kernel⟩
theorem ws_X6_lacks : Cond.selects yX6_lacks.cls yX6_lacks yX6_lacks ∈ gz_tb := gz_sel (by decide +kernel) rfl
set_option maxRecDepth 20000 in
theorem cd_X6_certify : gx_cd gz_tb yX6_certify cX6_certify 8 (some .int) 1 := ⟨(gz_c3 180 rfl rfl), gz_mem 6 (by decide +kernel) rfl, by decide +kernel, by decide +kernel, by decide +kernel⟩
theorem ws_X6_certify : Cond.selects yX6_certify.cls yX6_certify yX6_certify ∈ gz_tb := gz_mem 659 (by decide +kernel) rfl
set_option maxRecDepth 20000 in
theorem cd_X6_isThere : gx_cd gz_tb yX6_isThere cX6_isThere 4 (some .boolean) 3 := ⟨(gz_c3 120 rfl rfl), gz_mem 6 (by decide +kernel) rfl, by decide +kernel, by decide +kernel, by decide +kernel⟩
theorem ws_X6_isThere : Cond.selects yX6_isThere.cls yX6_isThere yX6_isThere ∈ gz_tb := gz_sel (by decide +kernel) rfl
set_option maxRecDepth 20000 in
theorem cd_X6_code : gx_cd gz_tb yX6_code cX6_code 5 (some .boolean) 4 := ⟨(gz_c3 116 rfl rfl), gz_mem 6 (by decide +kernel) rfl, by decide +kernel, by decide +kernel, by decide +kernel⟩
theorem ws_X6_code : Cond.selects yX6_code.cls yX6_code yX6_code ∈ gz_tb := gz_mem 595 (by decide +kernel) rfl
set_option maxRecDepth 20000 in
theorem cd_X6_comeTo : gx_cd gz_tb yX6_comeTo cX6_comeTo 5 (some .int) 2 := ⟨(gz_c3 212 rfl rfl), gz_mem 6 (by decide +kernel) rfl, by decide +kernel, by decide +kernel, by decide +kernel⟩
theorem ws_X6_comeTo : Cond.selects yX6_comeTo.cls yX6_comeTo yX6_comeTo ∈ gz_tb := gz_sel (by decide +kernel) rfl
set_option maxRecDepth 20000 in
theorem cd_X6_countOf : gx_cd gz_tb yX6_countOf cX6_countOf 6 (some .int) 3 := ⟨(gz_c3 208 rfl rfl), gz_mem 6 (by decide +kernel) rfl, by decide +kernel, by decide +kernel, by decide +kernel⟩
theorem ws_X6_countOf : Cond.selects yX6_countOf.cls yX6_countOf yX6_countOf ∈ gz_tb := gz_sel (by decide +kernel) rfl
set_option maxRecDepth 20000 in
theorem cd_X6_lacking : gx_cd gz_tb yX6_lacking cX6_lacking 4 (some .int) 1 := ⟨(gz_c3 136 rfl rfl), gz_mem 6 (by decide +kernel) rfl, by decide +kernel, by decide +kernel, by decide +kernel⟩
theorem ws_X6_lacking : Cond.selects yX6_lacking.cls yX6_lacking yX6_lacking ∈ gz_tb := gz_sel (by decide +kernel) rfl
set_option maxRecDepth 20000 in
theorem cd_X6_weave : gx_cd gz_tb yX6_weave cX6_weave 6 none 1 := ⟨(gz_c3 172 rfl rfl), gz_mem 6 (by decide +kernel) rfl, by decide +kernel, by decide +kernel, by decide +kernel⟩
theorem ws_X6_weave : Cond.selects yX6_weave.cls yX6_weave yX6_weave ∈ gz_tb := gz_sel (by decide +kernel) rfl
set_option maxRecDepth 20000 in
theorem cd_X6_forge : gx_cd gz_tb yX6_forge cX6_forge 4 (some .int) 0 := ⟨(gz_c3 132 rfl rfl), gz_mem 6 (by decide +kernel) rfl, by decide +kernel, by decide +kernel, by decide +kernel⟩
theorem ws_X6_forge : Cond.selects yX6_forge.cls yX6_forge yX6_forge ∈ gz_tb := gz_mem 611 (by decide +kernel) rfl
set_option maxRecDepth 20000 in
theorem cd_X6_function : gx_cd gz_tb yX6_function cX6_function 4 (some .int) 1 := ⟨(gz_c3 112 rfl rfl), gz_mem 6 (by decide +kernel) rfl, by decide +kernel, by decide +kernel, by decide +kernel⟩
theorem ws_X6_function : Cond.selects yX6_function.cls yX6_function yX6_function ∈ gz_tb := gz_mem 591 (by decide +kernel) rfl
set_option maxRecDepth 20000 in
theorem cd_X6_goes : gx_cd gz_tb yX6_goes cX6_goes 4 (some .boolean) 3 := ⟨(gz_c3 104 rfl rfl), gz_mem 6 (by decide +kernel) rfl, by decide +kernel, by decide +kernel, by decide +kernel⟩
theorem ws_X6_goes : Cond.selects yX6_goes.cls yX6_goes yX6_goes ∈ gz_tb := gz_mem 583 (by decide +kernel) rfl
set_option maxRecDepth 20000 in
theorem cd_X6_handler : gx_cd gz_tb yX6_handler cX6_handler 6 (some .boolean) 4 := ⟨(gz_c3 128 rfl rfl), gz_mem 6 (by decide +kernel) rfl, by decide +kernel, by decide +kernel, by decide +kernel⟩
theorem ws_X6_handler : Cond.selects yX6_handler.cls yX6_handler yX6_handler ∈ gz_tb := gz_mem 607 (by decide +kernel) rfl
set_option maxRecDepth 20000 in
theorem cd_X6_init : gx_cd gz_tb yX6_init cX6_init 1 none 0 := ⟨(gz_c3 14 rfl rfl), gz_mem 6 (by decide +kernel) rfl, by decide +kernel, by decide +kernel, by decide +kernel⟩
set_option maxRecDepth 20000 in
theorem cd_X6_instructions : gx_cd gz_tb yX6_instructions cX6_instructions 4 (some .int) 1 := ⟨(gz_c3 228 rfl rfl), gz_mem 6 (by decide +kernel) rfl, by decide +kernel, by decide +kernel, by decide +kernel⟩
theorem ws_X6_instructions : Cond.selects yX6_instructions.cls yX6_instructions yX6_instructions ∈ gz_tb := gz_sel (by decide +kernel) rfl
set_option maxRecDepth 20000 in
theorem cd_X6_wayMany : gx_cd gz_tb yX6_wayMany cX6_wayMany 3 (some .int) 0 := ⟨(gz_c3 224 rfl rfl), gz_mem 6 (by decide +kernel) rfl, by decide +kernel, by decide +kernel, by decide +kernel⟩
theorem ws_X6_wayMany : Cond.selects yX6_wayMany.cls yX6_wayMany yX6_wayMany ∈ gz_tb := gz_sel (by decide +kernel) rfl
set_option maxRecDepth 20000 in
theorem cd_X6_neededMany : gx_cd gz_tb yX6_neededMany cX6_neededMany 3 (some .int) 0 := ⟨(gz_c3 232 rfl rfl), gz_mem 6 (by decide +kernel) rfl, by decide +kernel, by decide +kernel, by decide +kernel⟩
theorem ws_X6_neededMany : Cond.selects yX6_neededMany.cls yX6_neededMany yX6_neededMany ∈ gz_tb := gz_sel (by decide +kernel) rfl
set_option maxRecDepth 20000 in
theorem cd_X6_look : gx_cd gz_tb yX6_look cX6_look 2 (some .int) 1 := ⟨(gz_c3 220 rfl rfl), gz_mem 6 (by decide +kernel) rfl, by decide +kernel, by decide +kernel, by decide +kernel⟩
theorem ws_X6_look : Cond.selects yX6_look.cls yX6_look yX6_look ∈ gz_tb := gz_mem 699 (by decide +kernel) rfl
set_option maxRecDepth 20000 in
theorem cd_X6_which : gx_cd gz_tb yX6_which cX6_which 5 (some .int) 3 := ⟨(gz_c3 188 rfl rfl), gz_mem 6 (by decide +kernel) rfl, by decide +kernel, by decide +kernel, by decide +kernel⟩
theorem ws_X6_which : Cond.selects yX6_which.cls yX6_which yX6_which ∈ gz_tb := gz_sel (by decide +kernel) rfl
set_option maxRecDepth 20000 in
theorem cd_X6_may : gx_cd gz_tb yX6_may cX6_may 5 (some .long) 3 := ⟨(gz_c3 196 rfl rfl), gz_mem 6 (by decide +kernel) rfl, by decide +kernel, by decide +kernel, by decide +kernel⟩
theorem ws_X6_may : Cond.selects yX6_may.cls yX6_may yX6_may ∈ gz_tb := gz_mem 675 (by decide +kernel) rfl
set_option maxRecDepth 20000 in
theorem cd_X6_of : gx_cd gz_tb yX6_of cX6_of 7 (some .int) 4 := ⟨(gz_c3 184 rfl rfl), gz_mem 6 (by decide +kernel) rfl, by decide +kernel, by decide +kernel, by decide +kernel⟩
theorem ws_X6_of : Cond.selects yX6_of.cls yX6_of yX6_of ∈ gz_tb := gz_mem 663 (by decide +kernel) rfl
set_option maxRecDepth 20000 in
theorem cd_X6_range : gx_cd gz_tb yX6_range cX6_range 7 (some .int) 4 := ⟨(gz_c3 216 rfl rfl), gz_mem 6 (by decide +kernel) rfl, by decide +kernel, by decide +kernel, by decide +kernel⟩
theorem ws_X6_range : Cond.selects yX6_range.cls yX6_range yX6_range ∈ gz_tb := gz_mem 695 (by decide +kernel) rfl
set_option maxRecDepth 20000 in
theorem cd_X6_set : gx_cd gz_tb yX6_set cX6_set 5 (some .long) 3 := ⟨(gz_c3 200 rfl rfl), gz_mem 6 (by decide +kernel) rfl, by decide +kernel, by decide +kernel, by decide +kernel⟩
theorem ws_X6_set : Cond.selects yX6_set.cls yX6_set yX6_set ∈ gz_tb := gz_mem 679 (by decide +kernel) rfl
set_option maxRecDepth 20000 in
theorem cd_X6_size : gx_cd gz_tb yX6_size cX6_size 5 (some .int) 3 := ⟨(gz_c3 204 rfl rfl), gz_mem 6 (by decide +kernel) rfl, by decide +kernel, by decide +kernel, by decide +kernel⟩
theorem ws_X6_size : Cond.selects yX6_size.cls yX6_size yX6_size ∈ gz_tb := gz_mem 683 (by decide +kernel) rfl
set_option maxRecDepth 20000 in
theorem cd_X6_take : gx_cd gz_tb yX6_take cX6_take 2 (some .boolean) 0 := ⟨(gz_c3 176 rfl rfl), gz_mem 6 (by decide +kernel) rfl, by decide +kernel, by decide +kernel, by decide +kernel⟩
theorem ws_X6_take : Cond.selects yX6_take.cls yX6_take yX6_take ∈ gz_tb := gz_mem 655 (by decide +kernel) rfl
set_option maxRecDepth 20000 in
theorem cd_X6_way : gx_cd gz_tb yX6_way cX6_way 4 (some .boolean) 3 := ⟨(gz_c3 89 rfl rfl), gz_mem 6 (by decide +kernel) rfl, by decide +kernel, by decide +kernel, by decide +kernel⟩
theorem ws_X6_way : Cond.selects yX6_way.cls yX6_way yX6_way ∈ gz_tb := gz_mem 568 (by decide +kernel) rfl
