/-! ===== BEGIN printed: names, fields, word lists, decode rows ===== -/
def RX0 : String := "ProtocolMachine$Execution"
def TX0 : u_T := fun k => match k with
  | 0 => ("ProtocolMachine$Execution", "protocol", "LProtocolMachine$Protocol;", true)
  | 1 => ("ProtocolMachine$Execution", "present", "I", false)
  | 2 => ("ProtocolMachine$Execution", "now", "J", false)
  | 3 => ("ProtocolMachine$Execution", "emits", "I", false)
  | 4 => ("ProtocolMachine$Execution", "kept", "I", false)
  | 5 => ("ProtocolMachine$Execution", "ignores", "I", false)
  | 6 => ("ProtocolMachine$Execution", "values", "[I", true)
  | 7 => ("ProtocolMachine$Execution", "due", "[J", true)
  | 8 => ("ProtocolMachine$Execution", "outputs", "[I", true)
  | _ => ("ProtocolMachine$Execution", "fired", "[I", true)
def tyX0 : Nat → FieldType := fun k => match k with
  | 0 => .object "ProtocolMachine$Protocol"
  | 1 => .int
  | 2 => .long
  | 3 => .int
  | 4 => .int
  | 5 => .int
  | 6 => .array .int
  | 7 => .array .long
  | 8 => .array .int
  | _ => .array .int
abbrev wsX00 : List Cond := u_ws RX0 TX0 10
theorem nmX0 : ∀ a, a < 10 → ∀ b, b < 10 → a ≠ b → (TX0 a).2.1 ≠ (TX0 b).2.1 := by decide +kernel
theorem tyX0_ok : ∀ k, k < 10 → parseFieldDescriptor (TX0 k).2.2.1 = some (tyX0 k) := by decide +kernel
abbrev cX0_init : ByteArray := prog_2_method_1_code
def yX0_init : MethodName := ⟨RX0, "<init>", "(LProtocolMachine$Protocol;)V"⟩
abbrev cX0_begin : ByteArray := prog_2_method_2_code
def yX0_begin : MethodName := ⟨RX0, "begin", "()V"⟩
abbrev cX0_ticksLeft : ByteArray := prog_2_method_3_code
def yX0_ticksLeft : MethodName := ⟨RX0, "ticksLeft", "(I)I"⟩
abbrev cX0_react : ByteArray := prog_2_method_4_code
def yX0_react : MethodName := ⟨RX0, "react", "(I)I"⟩
abbrev cX0_firstTrue : ByteArray := prog_2_method_5_code
def yX0_firstTrue : MethodName := ⟨RX0, "firstTrue", "(I)I"⟩
abbrev cX0_isTrue : ByteArray := prog_2_method_6_code
def yX0_isTrue : MethodName := ⟨RX0, "isTrue", "(I)Z"⟩
abbrev cX0_act : ByteArray := prog_2_method_7_code
def yX0_act : MethodName := ⟨RX0, "act", "(I)V"⟩
abbrev cX0_emit : ByteArray := prog_2_method_8_code
def yX0_emit : MethodName := ⟨RX0, "emit", "(I)V"⟩
abbrev cX0_goOn : ByteArray := prog_2_method_9_code
def yX0_goOn : MethodName := ⟨RX0, "goOn", "(I)I"⟩
abbrev cX0_firstDue : ByteArray := prog_2_method_10_code
def yX0_firstDue : MethodName := ⟨RX0, "firstDue", "(J)I"⟩
def RX1 : String := "ProtocolMachine$Protocol"
def TX1 : u_T := fun k => match k with
  | 0 => ("ProtocolMachine$Protocol", "states", "I", false)
  | 1 => ("ProtocolMachine$Protocol", "transitions", "I", false)
  | 2 => ("ProtocolMachine$Protocol", "timerEvent", "[I", true)
  | 3 => ("ProtocolMachine$Protocol", "from", "[I", true)
  | 4 => ("ProtocolMachine$Protocol", "event", "[I", true)
  | 5 => ("ProtocolMachine$Protocol", "next", "[I", true)
  | 6 => ("ProtocolMachine$Protocol", "variable", "[I", true)
  | 7 => ("ProtocolMachine$Protocol", "relation", "[I", true)
  | 8 => ("ProtocolMachine$Protocol", "number", "[I", true)
  | 9 => ("ProtocolMachine$Protocol", "actions", "[I", true)
  | 10 => ("ProtocolMachine$Protocol", "kind", "[I", true)
  | 11 => ("ProtocolMachine$Protocol", "a", "[I", true)
  | _ => ("ProtocolMachine$Protocol", "b", "[I", true)
def tyX1 : Nat → FieldType := fun k => match k with
  | 0 => .int
  | 1 => .int
  | 2 => .array .int
  | 3 => .array .int
  | 4 => .array .int
  | 5 => .array .int
  | 6 => .array .int
  | 7 => .array .int
  | 8 => .array .int
  | 9 => .array .int
  | 10 => .array .int
  | 11 => .array .int
  | _ => .array .int
abbrev wsX10 : List Cond := u_ws RX1 TX1 13
theorem nmX1 : ∀ a, a < 13 → ∀ b, b < 13 → a ≠ b → (TX1 a).2.1 ≠ (TX1 b).2.1 := by decide +kernel
theorem tyX1_ok : ∀ k, k < 13 → parseFieldDescriptor (TX1 k).2.2.1 = some (tyX1 k) := by decide +kernel
abbrev cX1_init : ByteArray := prog_3_method_1_code
def yX1_init : MethodName := ⟨RX1, "<init>", "()V"⟩
abbrev cX1_append : ByteArray := prog_3_method_2_code
def yX1_append : MethodName := ⟨RX1, "append", "(III)I"⟩
abbrev cX1_guard : ByteArray := prog_3_method_3_code
def yX1_guard : MethodName := ⟨RX1, "guard", "(IIII)V"⟩
abbrev cX1_appendAction : ByteArray := prog_3_method_4_code
def yX1_appendAction : MethodName := ⟨RX1, "appendAction", "(IIII)I"⟩
abbrev cX1_firstBehind : ByteArray := prog_3_method_5_code
def yX1_firstBehind : MethodName := ⟨RX1, "firstBehind", "(III)I"⟩
abbrev cX1_lowest : ByteArray := prog_3_method_6_code
def yX1_lowest : MethodName := ⟨RX1, "lowest", "(I)I"⟩
abbrev cX1_highest : ByteArray := prog_3_method_7_code
def yX1_highest : MethodName := ⟨RX1, "highest", "(I)I"⟩
abbrev cX1_isBehindAnother : ByteArray := prog_3_method_8_code
def yX1_isBehindAnother : MethodName := ⟨RX1, "isBehindAnother", "(I)Z"⟩
abbrev cX1_covers : ByteArray := prog_3_method_9_code
def yX1_covers : MethodName := ⟨RX1, "covers", "(II)Z"⟩
abbrev cX1_doTheSame : ByteArray := prog_3_method_10_code
def yX1_doTheSame : MethodName := ⟨RX1, "doTheSame", "(II)Z"⟩
def RX2 : String := "ProtocolMachine$Table"
def TX2 : u_T := fun k => match k with
  | 0 => ("ProtocolMachine$Table", "protocol", "LProtocolMachine$Protocol;", true)
  | 1 => ("ProtocolMachine$Table", "made", "Z", false)
  | 2 => ("ProtocolMachine$Table", "classes", "I", false)
  | 3 => ("ProtocolMachine$Table", "size", "I", false)
  | 4 => ("ProtocolMachine$Table", "taken", "I", false)
  | 5 => ("ProtocolMachine$Table", "stateClass", "[I", true)
  | 6 => ("ProtocolMachine$Table", "finerClass", "[I", true)
  | 7 => ("ProtocolMachine$Table", "usedBits", "[I", true)
  | 8 => ("ProtocolMachine$Table", "offsets", "[I", true)
  | _ => ("ProtocolMachine$Table", "owners", "[I", true)
def tyX2 : Nat → FieldType := fun k => match k with
  | 0 => .object "ProtocolMachine$Protocol"
  | 1 => .boolean
  | 2 => .int
  | 3 => .int
  | 4 => .int
  | 5 => .array .int
  | 6 => .array .int
  | 7 => .array .int
  | 8 => .array .int
  | _ => .array .int
abbrev wsX20 : List Cond := u_ws RX2 TX2 10
theorem nmX2 : ∀ a, a < 10 → ∀ b, b < 10 → a ≠ b → (TX2 a).2.1 ≠ (TX2 b).2.1 := by decide +kernel
theorem tyX2_ok : ∀ k, k < 10 → parseFieldDescriptor (TX2 k).2.2.1 = some (tyX2 k) := by decide +kernel
abbrev cX2_init : ByteArray := prog_4_method_1_code
def yX2_init : MethodName := ⟨RX2, "<init>", "(LProtocolMachine$Protocol;)V"⟩
abbrev cX2_make : ByteArray := prog_4_method_2_code
def yX2_make : MethodName := ⟨RX2, "make", "()V"⟩
abbrev cX2_putReachedIntoOneClass : ByteArray := prog_4_method_3_code
def yX2_putReachedIntoOneClass : MethodName := ⟨RX2, "putReachedIntoOneClass", "()V"⟩
abbrev cX2_splitOnce : ByteArray := prog_4_method_4_code
def yX2_splitOnce : MethodName := ⟨RX2, "splitOnce", "()I"⟩
abbrev cX2_earlierTwin : ByteArray := prog_4_method_5_code
def yX2_earlierTwin : MethodName := ⟨RX2, "earlierTwin", "(I)I"⟩
abbrev cX2_haveSameRows : ByteArray := prog_4_method_6_code
def yX2_haveSameRows : MethodName := ⟨RX2, "haveSameRows", "(II)Z"⟩
abbrev cX2_haveSameCells : ByteArray := prog_4_method_7_code
def yX2_haveSameCells : MethodName := ⟨RX2, "haveSameCells", "(III)Z"⟩
abbrev cX2_findUsedCells : ByteArray := prog_4_method_8_code
def yX2_findUsedCells : MethodName := ⟨RX2, "findUsedCells", "()V"⟩
abbrev cX2_usedCells : ByteArray := prog_4_method_9_code
def yX2_usedCells : MethodName := ⟨RX2, "usedCells", "(I)I"⟩
abbrev cX2_layRows : ByteArray := prog_4_method_10_code
def yX2_layRows : MethodName := ⟨RX2, "layRows", "()V"⟩
abbrev cX2_layRow : ByteArray := prog_4_method_11_code
def yX2_layRow : MethodName := ⟨RX2, "layRow", "(I)V"⟩
abbrev cX2_isFree : ByteArray := prog_4_method_12_code
def yX2_isFree : MethodName := ⟨RX2, "isFree", "(II)Z"⟩
abbrev cX2_isUsed : ByteArray := prog_4_method_13_code
def yX2_isUsed : MethodName := ⟨RX2, "isUsed", "(II)Z"⟩
def RX3 : String := "ProtocolMachine"
def TX3 : u_T := fun k => match k with
  | 0 => ("ProtocolMachine", "protocol", "LProtocolMachine$Protocol;", true)
  | 1 => ("ProtocolMachine", "execution", "LProtocolMachine$Execution;", true)
  | _ => ("ProtocolMachine", "table", "LProtocolMachine$Table;", true)
def tyX3 : Nat → FieldType := fun k => match k with
  | 0 => .object "ProtocolMachine$Protocol"
  | 1 => .object "ProtocolMachine$Execution"
  | _ => .object "ProtocolMachine$Table"
abbrev wsX30 : List Cond := u_ws RX3 TX3 3
theorem nmX3 : ∀ a, a < 3 → ∀ b, b < 3 → a ≠ b → (TX3 a).2.1 ≠ (TX3 b).2.1 := by decide +kernel
theorem tyX3_ok : ∀ k, k < 3 → parseFieldDescriptor (TX3 k).2.2.1 = some (tyX3 k) := by decide +kernel
abbrev cX3_init : ByteArray := prog_1_method_1_code
def yX3_init : MethodName := ⟨RX3, "<init>", "()V"⟩
abbrev cX3_addState : ByteArray := prog_1_method_2_code
def yX3_addState : MethodName := ⟨RX3, "addState", "()I"⟩
abbrev cX3_addTransition : ByteArray := prog_1_method_3_code
def yX3_addTransition : MethodName := ⟨RX3, "addTransition", "(IIIIII)I"⟩
abbrev cX3_addAction : ByteArray := prog_1_method_4_code
def yX3_addAction : MethodName := ⟨RX3, "addAction", "(IIII)I"⟩
abbrev cX3_drop : ByteArray := prog_1_method_5_code
def yX3_drop : MethodName := ⟨RX3, "drop", "()I"⟩
abbrev cX3_setTimerEvent : ByteArray := prog_1_method_6_code
def yX3_setTimerEvent : MethodName := ⟨RX3, "setTimerEvent", "(II)I"⟩
abbrev cX3_stateCount : ByteArray := prog_1_method_7_code
def yX3_stateCount : MethodName := ⟨RX3, "stateCount", "()I"⟩
abbrev cX3_transitionCount : ByteArray := prog_1_method_8_code
def yX3_transitionCount : MethodName := ⟨RX3, "transitionCount", "()I"⟩
abbrev cX3_isHidden : ByteArray := prog_1_method_9_code
def yX3_isHidden : MethodName := ⟨RX3, "isHidden", "(I)Z"⟩
abbrev cX3_restart : ByteArray := prog_1_method_10_code
def yX3_restart : MethodName := ⟨RX3, "restart", "()J"⟩
abbrev cX3_happen : ByteArray := prog_1_method_11_code
def yX3_happen : MethodName := ⟨RX3, "happen", "(I)I"⟩
abbrev cX3_advance : ByteArray := prog_1_method_12_code
def yX3_advance : MethodName := ⟨RX3, "advance", "(I)I"⟩
abbrev cX3_state : ByteArray := prog_1_method_13_code
def yX3_state : MethodName := ⟨RX3, "state", "()I"⟩
abbrev cX3_time : ByteArray := prog_1_method_14_code
def yX3_time : MethodName := ⟨RX3, "time", "()J"⟩
abbrev cX3_value : ByteArray := prog_1_method_15_code
def yX3_value : MethodName := ⟨RX3, "value", "(I)I"⟩
abbrev cX3_left : ByteArray := prog_1_method_16_code
def yX3_left : MethodName := ⟨RX3, "left", "(I)I"⟩
abbrev cX3_emitted : ByteArray := prog_1_method_17_code
def yX3_emitted : MethodName := ⟨RX3, "emitted", "()I"⟩
abbrev cX3_output : ByteArray := prog_1_method_18_code
def yX3_output : MethodName := ⟨RX3, "output", "(I)I"⟩
abbrev cX3_fired : ByteArray := prog_1_method_19_code
def yX3_fired : MethodName := ⟨RX3, "fired", "(I)I"⟩
abbrev cX3_ignored : ByteArray := prog_1_method_20_code
def yX3_ignored : MethodName := ⟨RX3, "ignored", "()I"⟩
abbrev cX3_compile : ByteArray := prog_1_method_21_code
def yX3_compile : MethodName := ⟨RX3, "compile", "()I"⟩
abbrev cX3_isCompiled : ByteArray := prog_1_method_22_code
def yX3_isCompiled : MethodName := ⟨RX3, "isCompiled", "()Z"⟩
abbrev cX3_classOf : ByteArray := prog_1_method_23_code
def yX3_classOf : MethodName := ⟨RX3, "classOf", "(I)I"⟩
abbrev cX3_offset : ByteArray := prog_1_method_24_code
def yX3_offset : MethodName := ⟨RX3, "offset", "(I)I"⟩
abbrev cX3_used : ByteArray := prog_1_method_25_code
def yX3_used : MethodName := ⟨RX3, "used", "(I)I"⟩
abbrev cX3_tableSize : ByteArray := prog_1_method_26_code
def yX3_tableSize : MethodName := ⟨RX3, "tableSize", "()I"⟩
abbrev cX3_owner : ByteArray := prog_1_method_27_code
def yX3_owner : MethodName := ⟨RX3, "owner", "(I)I"⟩
abbrev cX3_density : ByteArray := prog_1_method_28_code
def yX3_density : MethodName := ⟨RX3, "density", "()D"⟩
abbrev cX3_digest : ByteArray := prog_1_method_29_code
def yX3_digest : MethodName := ⟨RX3, "digest", "()J"⟩
abbrev cX3_mixExecution : ByteArray := prog_1_method_30_code
def yX3_mixExecution : MethodName := ⟨RX3, "mixExecution", "(J)J"⟩
abbrev cX3_mixTable : ByteArray := prog_1_method_31_code
def yX3_mixTable : MethodName := ⟨RX3, "mixTable", "(J)J"⟩
abbrev cX3_mix : ByteArray := prog_1_method_32_code
def yX3_mix : MethodName := ⟨RX3, "mix", "(JJ)J"⟩
abbrev cX3_needTable : ByteArray := prog_1_method_33_code
def yX3_needTable : MethodName := ⟨RX3, "needTable", "()V"⟩
abbrev cX3_needClass : ByteArray := prog_1_method_34_code
def yX3_needClass : MethodName := ⟨RX3, "needClass", "(I)V"⟩
abbrev cX3_isBelow : ByteArray := prog_1_method_35_code
def yX3_isBelow : MethodName := ⟨RX3, "isBelow", "(II)Z"⟩
abbrev cX3_isNumber : ByteArray := prog_1_method_36_code
def yX3_isNumber : MethodName := ⟨RX3, "isNumber", "(I)Z"⟩
abbrev cX3_isAction : ByteArray := prog_1_method_37_code
def yX3_isAction : MethodName := ⟨RX3, "isAction", "(III)Z"⟩
def RX4 : String := "ProtocolMachineModel"
def TX4 : u_T := fun k => match k with
  | 0 => ("ProtocolMachineModel", "thrown", "I", false)
  | 1 => ("ProtocolMachineModel", "states", "I", false)
  | 2 => ("ProtocolMachineModel", "timerEvents", "[I", true)
  | 3 => ("ProtocolMachineModel", "transitions", "I", false)
  | 4 => ("ProtocolMachineModel", "froms", "[I", true)
  | 5 => ("ProtocolMachineModel", "events", "[I", true)
  | 6 => ("ProtocolMachineModel", "variables", "[I", true)
  | 7 => ("ProtocolMachineModel", "relations", "[I", true)
  | 8 => ("ProtocolMachineModel", "numbers", "[I", true)
  | 9 => ("ProtocolMachineModel", "nexts", "[I", true)
  | 10 => ("ProtocolMachineModel", "sizes", "[I", true)
  | 11 => ("ProtocolMachineModel", "actions", "[I", true)
  | 12 => ("ProtocolMachineModel", "fired", "[I", true)
  | 13 => ("ProtocolMachineModel", "state", "I", false)
  | 14 => ("ProtocolMachineModel", "time", "J", false)
  | 15 => ("ProtocolMachineModel", "values", "[I", true)
  | 16 => ("ProtocolMachineModel", "runs", "[Z", true)
  | 17 => ("ProtocolMachineModel", "dues", "[J", true)
  | 18 => ("ProtocolMachineModel", "emitted", "I", false)
  | 19 => ("ProtocolMachineModel", "output", "[I", true)
  | 20 => ("ProtocolMachineModel", "ignored", "I", false)
  | 21 => ("ProtocolMachineModel", "isCompiled", "Z", false)
  | 22 => ("ProtocolMachineModel", "classes", "I", false)
  | 23 => ("ProtocolMachineModel", "numbersOf", "[I", true)
  | 24 => ("ProtocolMachineModel", "offsets", "[I", true)
  | 25 => ("ProtocolMachineModel", "useds", "[I", true)
  | 26 => ("ProtocolMachineModel", "tableSize", "I", false)
  | 27 => ("ProtocolMachineModel", "owners", "[I", true)
  | 28 => ("ProtocolMachineModel", "isReached", "[Z", true)
  | _ => ("ProtocolMachineModel", "areApart", "[Z", true)
def tyX4 : Nat → FieldType := fun k => match k with
  | 0 => .int
  | 1 => .int
  | 2 => .array .int
  | 3 => .int
  | 4 => .array .int
  | 5 => .array .int
  | 6 => .array .int
  | 7 => .array .int
  | 8 => .array .int
  | 9 => .array .int
  | 10 => .array .int
  | 11 => .array .int
  | 12 => .array .int
  | 13 => .int
  | 14 => .long
  | 15 => .array .int
  | 16 => .array .boolean
  | 17 => .array .long
  | 18 => .int
  | 19 => .array .int
  | 20 => .int
  | 21 => .boolean
  | 22 => .int
  | 23 => .array .int
  | 24 => .array .int
  | 25 => .array .int
  | 26 => .int
  | 27 => .array .int
  | 28 => .array .boolean
  | _ => .array .boolean
abbrev wsX40 : List Cond := u_ws RX4 TX4 30
theorem nmX4 : ∀ a, a < 30 → ∀ b, b < 30 → a ≠ b → (TX4 a).2.1 ≠ (TX4 b).2.1 := by decide +kernel
theorem tyX4_ok : ∀ k, k < 30 → parseFieldDescriptor (TX4 k).2.2.1 = some (tyX4 k) := by decide +kernel
abbrev cX4_init : ByteArray := prog_6_method_1_code
def yX4_init : MethodName := ⟨RX4, "<init>", "()V"⟩
abbrev cX4_thrown : ByteArray := prog_6_method_2_code
def yX4_thrown : MethodName := ⟨RX4, "thrown", "()I"⟩
abbrev cX4_fail : ByteArray := prog_6_method_3_code
def yX4_fail : MethodName := ⟨RX4, "fail", "(I)I"⟩
abbrev cX4_isIn : ByteArray := prog_6_method_4_code
def yX4_isIn : MethodName := ⟨RX4, "isIn", "(III)Z"⟩
abbrev cX4_isState : ByteArray := prog_6_method_5_code
def yX4_isState : MethodName := ⟨RX4, "isState", "(I)Z"⟩
abbrev cX4_isTransition : ByteArray := prog_6_method_6_code
def yX4_isTransition : MethodName := ⟨RX4, "isTransition", "(I)Z"⟩
abbrev cX4_isEvent : ByteArray := prog_6_method_7_code
def yX4_isEvent : MethodName := ⟨RX4, "isEvent", "(I)Z"⟩
abbrev cX4_isNumber : ByteArray := prog_6_method_8_code
def yX4_isNumber : MethodName := ⟨RX4, "isNumber", "(I)Z"⟩
abbrev cX4_addState : ByteArray := prog_6_method_9_code
def yX4_addState : MethodName := ⟨RX4, "addState", "()I"⟩
abbrev cX4_addTransition : ByteArray := prog_6_method_10_code
def yX4_addTransition : MethodName := ⟨RX4, "addTransition", "(IIIIII)I"⟩
abbrev cX4_addAction : ByteArray := prog_6_method_11_code
def yX4_addAction : MethodName := ⟨RX4, "addAction", "(IIII)I"⟩
abbrev cX4_drop : ByteArray := prog_6_method_12_code
def yX4_drop : MethodName := ⟨RX4, "drop", "()I"⟩
abbrev cX4_setTimerEvent : ByteArray := prog_6_method_13_code
def yX4_setTimerEvent : MethodName := ⟨RX4, "setTimerEvent", "(II)I"⟩
abbrev cX4_stateCount : ByteArray := prog_6_method_14_code
def yX4_stateCount : MethodName := ⟨RX4, "stateCount", "()I"⟩
abbrev cX4_transitionCount : ByteArray := prog_6_method_15_code
def yX4_transitionCount : MethodName := ⟨RX4, "transitionCount", "()I"⟩
abbrev cX4_isTrue : ByteArray := prog_6_method_16_code
def yX4_isTrue : MethodName := ⟨RX4, "isTrue", "(II)Z"⟩
abbrev cX4_hides : ByteArray := prog_6_method_17_code
def yX4_hides : MethodName := ⟨RX4, "hides", "(II)Z"⟩
abbrev cX4_isHidden : ByteArray := prog_6_method_18_code
def yX4_isHidden : MethodName := ⟨RX4, "isHidden", "(I)Z"⟩
abbrev cX4_restart : ByteArray := prog_6_method_19_code
def yX4_restart : MethodName := ⟨RX4, "restart", "()J"⟩
abbrev cX4_act : ByteArray := prog_6_method_20_code
def yX4_act : MethodName := ⟨RX4, "act", "(III)V"⟩
abbrev cX4_fire : ByteArray := prog_6_method_21_code
def yX4_fire : MethodName := ⟨RX4, "fire", "(I)I"⟩
abbrev cX4_happen : ByteArray := prog_6_method_22_code
def yX4_happen : MethodName := ⟨RX4, "happen", "(I)I"⟩
abbrev cX4_nextTimer : ByteArray := prog_6_method_23_code
def yX4_nextTimer : MethodName := ⟨RX4, "nextTimer", "(J)I"⟩
abbrev cX4_advance : ByteArray := prog_6_method_24_code
def yX4_advance : MethodName := ⟨RX4, "advance", "(I)I"⟩
abbrev cX4_state : ByteArray := prog_6_method_25_code
def yX4_state : MethodName := ⟨RX4, "state", "()I"⟩
abbrev cX4_time : ByteArray := prog_6_method_26_code
def yX4_time : MethodName := ⟨RX4, "time", "()J"⟩
abbrev cX4_value : ByteArray := prog_6_method_27_code
def yX4_value : MethodName := ⟨RX4, "value", "(I)I"⟩
abbrev cX4_leftOf : ByteArray := prog_6_method_28_code
def yX4_leftOf : MethodName := ⟨RX4, "leftOf", "(I)I"⟩
abbrev cX4_left : ByteArray := prog_6_method_29_code
def yX4_left : MethodName := ⟨RX4, "left", "(I)I"⟩
abbrev cX4_emitted : ByteArray := prog_6_method_30_code
def yX4_emitted : MethodName := ⟨RX4, "emitted", "()I"⟩
abbrev cX4_output : ByteArray := prog_6_method_31_code
def yX4_output : MethodName := ⟨RX4, "output", "(I)I"⟩
abbrev cX4_fired : ByteArray := prog_6_method_32_code
def yX4_fired : MethodName := ⟨RX4, "fired", "(I)I"⟩
abbrev cX4_ignored : ByteArray := prog_6_method_33_code
def yX4_ignored : MethodName := ⟨RX4, "ignored", "()I"⟩
abbrev cX4_reach : ByteArray := prog_6_method_34_code
def yX4_reach : MethodName := ⟨RX4, "reach", "()V"⟩
abbrev cX4_transition : ByteArray := prog_6_method_35_code
def yX4_transition : MethodName := ⟨RX4, "transition", "(III)I"⟩
abbrev cX4_areAlike : ByteArray := prog_6_method_36_code
def yX4_areAlike : MethodName := ⟨RX4, "areAlike", "(II)Z"⟩
abbrev cX4_areDifferent : ByteArray := prog_6_method_37_code
def yX4_areDifferent : MethodName := ⟨RX4, "areDifferent", "(II)Z"⟩
abbrev cX4_takeApart : ByteArray := prog_6_method_38_code
def yX4_takeApart : MethodName := ⟨RX4, "takeApart", "()V"⟩
abbrev cX4_usedEvents : ByteArray := prog_6_method_39_code
def yX4_usedEvents : MethodName := ⟨RX4, "usedEvents", "(I)I"⟩
abbrev cX4_fits : ByteArray := prog_6_method_40_code
def yX4_fits : MethodName := ⟨RX4, "fits", "(II)Z"⟩
abbrev cX4_lay : ByteArray := prog_6_method_41_code
def yX4_lay : MethodName := ⟨RX4, "lay", "(II)V"⟩
abbrev cX4_make : ByteArray := prog_6_method_42_code
def yX4_make : MethodName := ⟨RX4, "make", "()V"⟩
abbrev cX4_compile : ByteArray := prog_6_method_43_code
def yX4_compile : MethodName := ⟨RX4, "compile", "()I"⟩
abbrev cX4_isCompiled : ByteArray := prog_6_method_44_code
def yX4_isCompiled : MethodName := ⟨RX4, "isCompiled", "()Z"⟩
abbrev cX4_asks : ByteArray := prog_6_method_45_code
def yX4_asks : MethodName := ⟨RX4, "asks", "(II)Z"⟩
abbrev cX4_classOf : ByteArray := prog_6_method_46_code
def yX4_classOf : MethodName := ⟨RX4, "classOf", "(I)I"⟩
abbrev cX4_offset : ByteArray := prog_6_method_47_code
def yX4_offset : MethodName := ⟨RX4, "offset", "(I)I"⟩
abbrev cX4_used : ByteArray := prog_6_method_48_code
def yX4_used : MethodName := ⟨RX4, "used", "(I)I"⟩
abbrev cX4_tableSize : ByteArray := prog_6_method_49_code
def yX4_tableSize : MethodName := ⟨RX4, "tableSize", "()I"⟩
abbrev cX4_owner : ByteArray := prog_6_method_50_code
def yX4_owner : MethodName := ⟨RX4, "owner", "(I)I"⟩
abbrev cX4_density : ByteArray := prog_6_method_51_code
def yX4_density : MethodName := ⟨RX4, "density", "()D"⟩
abbrev cX4_digest : ByteArray := prog_6_method_52_code
def yX4_digest : MethodName := ⟨RX4, "digest", "()J"⟩
def RJx145de : String := "java/io/Serializable"
def TJx145de : u_T := fun k => match k with
  | _ => ("", "", "", false)
def tyJx145de : Nat → FieldType := fun k => match k with
  | _ => .int
abbrev wsJx145de0 : List Cond := u_ws RJx145de TJx145de 0
theorem nmJx145de : ∀ a, a < 0 → ∀ b, b < 0 → a ≠ b → (TJx145de a).2.1 ≠ (TJx145de b).2.1 := by decide +kernel
theorem tyJx145de_ok : ∀ k, k < 0 → parseFieldDescriptor (TJx145de k).2.2.1 = some (tyJx145de k) := by decide +kernel
def RJ6 : String := "java/lang/Integer"
def TJ6 : u_T := fun k => match k with
  | _ => ("", "", "", false)
def tyJ6 : Nat → FieldType := fun k => match k with
  | _ => .int
abbrev wsJ60 : List Cond := u_ws RJ6 TJ6 0
theorem nmJ6 : ∀ a, a < 0 → ∀ b, b < 0 → a ≠ b → (TJ6 a).2.1 ≠ (TJ6 b).2.1 := by decide +kernel
theorem tyJ6_ok : ∀ k, k < 0 → parseFieldDescriptor (TJ6 k).2.2.1 = some (tyJ6 k) := by decide +kernel
abbrev cJ6_bitCount_0f7a4 : ByteArray := prog_11_method_49_code
def yJ6_bitCount_0f7a4 : MethodName := ⟨RJ6, "bitCount", "(I)I"⟩
def RJ9 : String := "java/lang/Math"
def TJ9 : u_T := fun k => match k with
  | _ => ("", "", "", false)
def tyJ9 : Nat → FieldType := fun k => match k with
  | _ => .int
abbrev wsJ90 : List Cond := u_ws RJ9 TJ9 0
theorem nmJ9 : ∀ a, a < 0 → ∀ b, b < 0 → a ≠ b → (TJ9 a).2.1 ≠ (TJ9 b).2.1 := by decide +kernel
theorem tyJ9_ok : ∀ k, k < 0 → parseFieldDescriptor (TJ9 k).2.2.1 = some (tyJ9 k) := by decide +kernel
abbrev cJ9_max_7cf53 : ByteArray := prog_12_method_65_code
def yJ9_max_7cf53 : MethodName := ⟨RJ9, "max", "(II)I"⟩
abbrev cJ9_min_7cf53 : ByteArray := prog_12_method_69_code
def yJ9_min_7cf53 : MethodName := ⟨RJ9, "min", "(II)I"⟩
def RJ0 : String := "java/lang/String"
def TJ0 : u_T := fun k => match k with
  | _ => ("", "", "", false)
def tyJ0 : Nat → FieldType := fun k => match k with
  | _ => .int
abbrev wsJ00 : List Cond := u_ws RJ0 TJ0 0
theorem nmJ0 : ∀ a, a < 0 → ∀ b, b < 0 → a ≠ b → (TJ0 a).2.1 ≠ (TJ0 b).2.1 := by decide +kernel
theorem tyJ0_ok : ∀ k, k < 0 → parseFieldDescriptor (TJ0 k).2.2.1 = some (tyJ0 k) := by decide +kernel
def RJ10 : String := "java/lang/System"
def TJ10 : u_T := fun k => match k with
  | _ => ("", "", "", false)
def tyJ10 : Nat → FieldType := fun k => match k with
  | _ => .int
abbrev wsJ100 : List Cond := u_ws RJ10 TJ10 0
theorem nmJ10 : ∀ a, a < 0 → ∀ b, b < 0 → a ≠ b → (TJ10 a).2.1 ≠ (TJ10 b).2.1 := by decide +kernel
theorem tyJ10_ok : ∀ k, k < 0 → parseFieldDescriptor (TJ10 k).2.2.1 = some (tyJ10 k) := by decide +kernel
def RJ7 : String := "java/util/Arrays"
def TJ7 : u_T := fun k => match k with
  | _ => ("", "", "", false)
def tyJ7 : Nat → FieldType := fun k => match k with
  | _ => .int
abbrev wsJ70 : List Cond := u_ws RJ7 TJ7 0
theorem nmJ7 : ∀ a, a < 0 → ∀ b, b < 0 → a ≠ b → (TJ7 a).2.1 ≠ (TJ7 b).2.1 := by decide +kernel
theorem tyJ7_ok : ∀ k, k < 0 → parseFieldDescriptor (TJ7 k).2.2.1 = some (tyJ7 k) := by decide +kernel
abbrev cJ7_fill_d0a16 : ByteArray := prog_17_method_101_code
def yJ7_fill_d0a16 : MethodName := ⟨RJ7, "fill", "([JJ)V"⟩
abbrev cJ7_fill_53178 : ByteArray := prog_17_method_103_code
def yJ7_fill_53178 : MethodName := ⟨RJ7, "fill", "([II)V"⟩
def RL : String := "ProtocolMachineLaw"
abbrev cL_addState : ByteArray := method_3_code
def yL_addState : MethodName := ⟨RL, "addState", "(LProtocolMachine;[J)I"⟩
abbrev cL_addTransition : ByteArray := method_4_code
def yL_addTransition : MethodName := ⟨RL, "addTransition", "(LProtocolMachine;IIIIII[J)I"⟩
abbrev cL_addAction : ByteArray := method_5_code
def yL_addAction : MethodName := ⟨RL, "addAction", "(LProtocolMachine;IIII[J)I"⟩
abbrev cL_drop : ByteArray := method_6_code
def yL_drop : MethodName := ⟨RL, "drop", "(LProtocolMachine;[J)I"⟩
abbrev cL_setTimerEvent : ByteArray := method_7_code
def yL_setTimerEvent : MethodName := ⟨RL, "setTimerEvent", "(LProtocolMachine;II[J)I"⟩
abbrev cL_isHidden : ByteArray := method_8_code
def yL_isHidden : MethodName := ⟨RL, "isHidden", "(LProtocolMachine;I[J)I"⟩
abbrev cL_happen : ByteArray := method_9_code
def yL_happen : MethodName := ⟨RL, "happen", "(LProtocolMachine;I[J)I"⟩
abbrev cL_advance : ByteArray := method_10_code
def yL_advance : MethodName := ⟨RL, "advance", "(LProtocolMachine;I[J)I"⟩
abbrev cL_value : ByteArray := method_11_code
def yL_value : MethodName := ⟨RL, "value", "(LProtocolMachine;I[J)I"⟩
abbrev cL_left : ByteArray := method_12_code
def yL_left : MethodName := ⟨RL, "left", "(LProtocolMachine;I[J)I"⟩
abbrev cL_output : ByteArray := method_13_code
def yL_output : MethodName := ⟨RL, "output", "(LProtocolMachine;I[J)I"⟩
abbrev cL_fired : ByteArray := method_14_code
def yL_fired : MethodName := ⟨RL, "fired", "(LProtocolMachine;I[J)I"⟩
abbrev cL_classOf : ByteArray := method_15_code
def yL_classOf : MethodName := ⟨RL, "classOf", "(LProtocolMachine;I[J)I"⟩
abbrev cL_offset : ByteArray := method_16_code
def yL_offset : MethodName := ⟨RL, "offset", "(LProtocolMachine;I[J)I"⟩
abbrev cL_used : ByteArray := method_17_code
def yL_used : MethodName := ⟨RL, "used", "(LProtocolMachine;I[J)I"⟩
abbrev cL_tableSize : ByteArray := method_18_code
def yL_tableSize : MethodName := ⟨RL, "tableSize", "(LProtocolMachine;[J)I"⟩
abbrev cL_owner : ByteArray := method_19_code
def yL_owner : MethodName := ⟨RL, "owner", "(LProtocolMachine;I[J)I"⟩
abbrev cL_density : ByteArray := method_20_code
def yL_density : MethodName := ⟨RL, "density", "(LProtocolMachine;[D)I"⟩
abbrev cL_law : ByteArray := code
def yL_law : MethodName := ⟨RL, "law", "([I)Z"⟩
def wsJ7_fill_d0a16 : List Cond := .code yJ7_fill_d0a16 cJ7_fill_d0a16 5 none :: ([])
def wsX0_init : List Cond := .code yX0_init cX0_init 2 none :: ([.methodLink RX0 3 objectInit, .instanceMethod objectInit, .code objectInit ⟨#[0xb1]⟩ 1 none, .fieldLink RX0 9 "ProtocolMachine$Execution" "present" "I", .fieldLink RX0 15 "ProtocolMachine$Execution" "now" "J", .fieldLink RX0 19 "ProtocolMachine$Execution" "emits" "I", .fieldLink RX0 22 "ProtocolMachine$Execution" "kept" "I", .fieldLink RX0 25 "ProtocolMachine$Execution" "ignores" "I", .arrayClass .int, .fieldLink RX0 28 "ProtocolMachine$Execution" "values" "[I", .arrayClass .long, .fieldLink RX0 32 "ProtocolMachine$Execution" "due" "[J", .fieldLink RX0 36 "ProtocolMachine$Execution" "outputs" "[I", .fieldLink RX0 39 "ProtocolMachine$Execution" "fired" "[I", .fieldLink RX0 42 "ProtocolMachine$Execution" "protocol" "LProtocolMachine$Protocol;", .constantLong RX0 46 (-1), .methodLink RX0 48 yJ7_fill_d0a16, .static yJ7_fill_d0a16, .initialized RJ7, .code yJ7_fill_d0a16 cJ7_fill_d0a16 5 none] ++ wsX00)
def wsJ7_fill_53178 : List Cond := .code yJ7_fill_53178 cJ7_fill_53178 4 none :: ([])
def wsX0_begin : List Cond := .code yX0_begin cX0_begin 1 none :: ([.fieldLink RX0 9 "ProtocolMachine$Execution" "present" "I", .fieldLink RX0 15 "ProtocolMachine$Execution" "now" "J", .fieldLink RX0 19 "ProtocolMachine$Execution" "emits" "I", .fieldLink RX0 22 "ProtocolMachine$Execution" "kept" "I", .fieldLink RX0 25 "ProtocolMachine$Execution" "ignores" "I", .fieldLink RX0 28 "ProtocolMachine$Execution" "values" "[I", .fieldLink RX0 32 "ProtocolMachine$Execution" "due" "[J", .constantLong RX0 46 (-1), .fieldLink RX0 39 "ProtocolMachine$Execution" "fired" "[I", .methodLink RX0 54 yJ7_fill_53178, .static yJ7_fill_53178, .initialized RJ7, .code yJ7_fill_53178 cJ7_fill_53178 4 none, .methodLink RX0 48 yJ7_fill_d0a16, .static yJ7_fill_d0a16, .code yJ7_fill_d0a16 cJ7_fill_d0a16 5 none] ++ wsX00)
def wsX0_ticksLeft : List Cond := .code yX0_ticksLeft cX0_ticksLeft 2 (some .int) :: ([.fieldLink RX0 32 "ProtocolMachine$Execution" "due" "[J", .constantLong RX0 46 (-1), .fieldLink RX0 15 "ProtocolMachine$Execution" "now" "J"] ++ wsX00)
def wsX1_firstBehind : List Cond := .code yX1_firstBehind cX1_firstBehind 5 (some .int) :: ([.fieldLink RX1 15 "ProtocolMachine$Protocol" "transitions" "I", .fieldLink RX1 22 "ProtocolMachine$Protocol" "from" "[I", .fieldLink RX1 25 "ProtocolMachine$Protocol" "event" "[I"] ++ wsX10)
def wsX1_lowest : List Cond := .code yX1_lowest cX1_lowest 2 (some .int) :: ([.fieldLink RX1 34 "ProtocolMachine$Protocol" "relation" "[I", .fieldLink RX1 37 "ProtocolMachine$Protocol" "number" "[I"] ++ wsX10)
def wsX1_highest : List Cond := .code yX1_highest cX1_highest 2 (some .int) :: ([.fieldLink RX1 34 "ProtocolMachine$Protocol" "relation" "[I", .fieldLink RX1 37 "ProtocolMachine$Protocol" "number" "[I"] ++ wsX10)
def wsX0_isTrue : List Cond := .code yX0_isTrue cX0_isTrue 3 (some .boolean) :: ([.fieldLink RX0 42 "ProtocolMachine$Execution" "protocol" "LProtocolMachine$Protocol;", .fieldLink RX0 81 "ProtocolMachine$Protocol" "variable" "[I", .fieldLink RX0 28 "ProtocolMachine$Execution" "values" "[I", .methodLink RX0 84 yX1_lowest, .instanceMethod yX1_lowest, .selects RX1 yX1_lowest yX1_lowest, .initialized RX1, .code yX1_lowest cX1_lowest 2 (some .int), .fieldLink RX1 34 "ProtocolMachine$Protocol" "relation" "[I", .fieldLink RX1 37 "ProtocolMachine$Protocol" "number" "[I", .methodLink RX0 87 yX1_highest, .instanceMethod yX1_highest, .selects RX1 yX1_highest yX1_highest, .code yX1_highest cX1_highest 2 (some .int)] ++ wsX00 ++ wsX10)
def wsX0_firstTrue_r1 : List Cond := [Cond.fieldLink RX0 42 "ProtocolMachine$Execution" "protocol" "LProtocolMachine$Protocol;", Cond.fieldLink RX0 9 "ProtocolMachine$Execution" "present" "I", Cond.methodLink RX0 73 yX1_firstBehind, Cond.instanceMethod yX1_firstBehind, Cond.selects RX1 yX1_firstBehind yX1_firstBehind, Cond.initialized RX1, Cond.code yX1_firstBehind cX1_firstBehind 5 (some .int), Cond.fieldLink RX1 15 "ProtocolMachine$Protocol" "transitions" "I", Cond.fieldLink RX1 22 "ProtocolMachine$Protocol" "from" "[I", Cond.fieldLink RX1 25 "ProtocolMachine$Protocol" "event" "[I", Cond.methodLink RX0 77 yX0_isTrue, Cond.instanceMethod yX0_isTrue, Cond.selects RX0 yX0_isTrue yX0_isTrue, Cond.initialized RX0, Cond.code yX0_isTrue cX0_isTrue 3 (some .boolean), Cond.fieldLink RX0 81 "ProtocolMachine$Protocol" "variable" "[I", Cond.fieldLink RX0 28 "ProtocolMachine$Execution" "values" "[I", Cond.methodLink RX0 84 yX1_lowest, Cond.instanceMethod yX1_lowest, Cond.selects RX1 yX1_lowest yX1_lowest, Cond.code yX1_lowest cX1_lowest 2 (some .int), Cond.fieldLink RX1 34 "ProtocolMachine$Protocol" "relation" "[I", Cond.fieldLink RX1 37 "ProtocolMachine$Protocol" "number" "[I", Cond.methodLink RX0 87 yX1_highest]
def wsX0_firstTrue_r2 : List Cond := [Cond.instanceMethod yX1_highest, Cond.selects RX1 yX1_highest yX1_highest, Cond.code yX1_highest cX1_highest 2 (some .int)]
def wsX0_firstTrue : List Cond := .code yX0_firstTrue cX0_firstTrue 4 (some .int) :: ((wsX0_firstTrue_r1 ++ wsX0_firstTrue_r2) ++ wsX00 ++ wsX10)
def wsX0_emit : List Cond := .code yX0_emit cX0_emit 2 none :: ([.fieldLink RX0 22 "ProtocolMachine$Execution" "kept" "I", .fieldLink RX0 36 "ProtocolMachine$Execution" "outputs" "[I", .fieldLink RX0 19 "ProtocolMachine$Execution" "emits" "I"] ++ wsX00)
def wsX0_act : List Cond := .code yX0_act cX0_act 4 none :: ([.fieldLink RX0 42 "ProtocolMachine$Execution" "protocol" "LProtocolMachine$Protocol;", .fieldLink RX0 90 "ProtocolMachine$Protocol" "a" "[I", .fieldLink RX0 93 "ProtocolMachine$Protocol" "b" "[I", .fieldLink RX0 96 "ProtocolMachine$Protocol" "kind" "[I", .fieldLink RX0 28 "ProtocolMachine$Execution" "values" "[I", .methodLink RX0 99 Lib.Math.min.name, .static Lib.Math.min.name, .initialized "java/lang/Math", .code Lib.Math.min.name Lib.Math.min.code 2 (some .int), .methodLink RX0 105 Lib.Math.max.name, .static Lib.Math.max.name, .code Lib.Math.max.name Lib.Math.max.code 2 (some .int), .fieldLink RX0 32 "ProtocolMachine$Execution" "due" "[J", .fieldLink RX0 15 "ProtocolMachine$Execution" "now" "J", .constantLong RX0 46 (-1), .methodLink RX0 108 yX0_emit, .instanceMethod yX0_emit, .selects RX0 yX0_emit yX0_emit, .initialized RX0, .code yX0_emit cX0_emit 2 none, .fieldLink RX0 22 "ProtocolMachine$Execution" "kept" "I", .fieldLink RX0 36 "ProtocolMachine$Execution" "outputs" "[I", .fieldLink RX0 19 "ProtocolMachine$Execution" "emits" "I"] ++ wsX00 ++ wsX10)
def wsX0_react_r1 : List Cond := [Cond.fieldLink RX0 25 "ProtocolMachine$Execution" "ignores" "I", Cond.fieldLink RX0 39 "ProtocolMachine$Execution" "fired" "[I", Cond.fieldLink RX0 42 "ProtocolMachine$Execution" "protocol" "LProtocolMachine$Protocol;", Cond.fieldLink RX0 61 "ProtocolMachine$Protocol" "actions" "[I", Cond.fieldLink RX0 70 "ProtocolMachine$Protocol" "next" "[I", Cond.fieldLink RX0 9 "ProtocolMachine$Execution" "present" "I", Cond.methodLink RX0 57 yX0_firstTrue, Cond.instanceMethod yX0_firstTrue, Cond.selects RX0 yX0_firstTrue yX0_firstTrue, Cond.initialized RX0, Cond.code yX0_firstTrue cX0_firstTrue 4 (some .int), Cond.methodLink RX0 73 yX1_firstBehind, Cond.instanceMethod yX1_firstBehind, Cond.selects RX1 yX1_firstBehind yX1_firstBehind, Cond.initialized RX1, Cond.code yX1_firstBehind cX1_firstBehind 5 (some .int), Cond.fieldLink RX1 15 "ProtocolMachine$Protocol" "transitions" "I", Cond.fieldLink RX1 22 "ProtocolMachine$Protocol" "from" "[I", Cond.fieldLink RX1 25 "ProtocolMachine$Protocol" "event" "[I", Cond.methodLink RX0 77 yX0_isTrue, Cond.instanceMethod yX0_isTrue, Cond.selects RX0 yX0_isTrue yX0_isTrue, Cond.code yX0_isTrue cX0_isTrue 3 (some .boolean), Cond.fieldLink RX0 81 "ProtocolMachine$Protocol" "variable" "[I"]
def wsX0_react_r2 : List Cond := [Cond.fieldLink RX0 28 "ProtocolMachine$Execution" "values" "[I", Cond.methodLink RX0 84 yX1_lowest, Cond.instanceMethod yX1_lowest, Cond.selects RX1 yX1_lowest yX1_lowest, Cond.code yX1_lowest cX1_lowest 2 (some .int), Cond.fieldLink RX1 34 "ProtocolMachine$Protocol" "relation" "[I", Cond.fieldLink RX1 37 "ProtocolMachine$Protocol" "number" "[I", Cond.methodLink RX0 87 yX1_highest, Cond.instanceMethod yX1_highest, Cond.selects RX1 yX1_highest yX1_highest, Cond.code yX1_highest cX1_highest 2 (some .int), Cond.methodLink RX0 66 yX0_act, Cond.instanceMethod yX0_act, Cond.selects RX0 yX0_act yX0_act, Cond.code yX0_act cX0_act 4 none, Cond.fieldLink RX0 90 "ProtocolMachine$Protocol" "a" "[I", Cond.fieldLink RX0 93 "ProtocolMachine$Protocol" "b" "[I", Cond.fieldLink RX0 96 "ProtocolMachine$Protocol" "kind" "[I", Cond.methodLink RX0 99 Lib.Math.min.name, Cond.static Lib.Math.min.name, Cond.initialized "java/lang/Math", Cond.code Lib.Math.min.name Lib.Math.min.code 2 (some .int), Cond.methodLink RX0 105 Lib.Math.max.name, Cond.static Lib.Math.max.name]
def wsX0_react_r3 : List Cond := [Cond.code Lib.Math.max.name Lib.Math.max.code 2 (some .int), Cond.fieldLink RX0 32 "ProtocolMachine$Execution" "due" "[J", Cond.fieldLink RX0 15 "ProtocolMachine$Execution" "now" "J", Cond.constantLong RX0 46 (-1), Cond.methodLink RX0 108 yX0_emit, Cond.instanceMethod yX0_emit, Cond.selects RX0 yX0_emit yX0_emit, Cond.code yX0_emit cX0_emit 2 none, Cond.fieldLink RX0 22 "ProtocolMachine$Execution" "kept" "I", Cond.fieldLink RX0 36 "ProtocolMachine$Execution" "outputs" "[I", Cond.fieldLink RX0 19 "ProtocolMachine$Execution" "emits" "I"]
def wsX0_react : List Cond := .code yX0_react cX0_react 4 (some .int) :: ((wsX0_react_r1 ++ (wsX0_react_r2 ++ wsX0_react_r3)) ++ wsX00 ++ wsX10)
def wsX0_firstDue : List Cond := .code yX0_firstDue cX0_firstDue 6 (some .int) :: ([.fieldLink RX0 32 "ProtocolMachine$Execution" "due" "[J", .constantLong RX0 46 (-1)] ++ wsX00)
def wsX0_goOn_r1 : List Cond := [Cond.fieldLink RX0 15 "ProtocolMachine$Execution" "now" "J", Cond.fieldLink RX0 32 "ProtocolMachine$Execution" "due" "[J", Cond.constantLong RX0 46 (-1), Cond.fieldLink RX0 42 "ProtocolMachine$Execution" "protocol" "LProtocolMachine$Protocol;", Cond.fieldLink RX0 115 "ProtocolMachine$Protocol" "timerEvent" "[I", Cond.methodLink RX0 111 yX0_firstDue, Cond.instanceMethod yX0_firstDue, Cond.selects RX0 yX0_firstDue yX0_firstDue, Cond.initialized RX0, Cond.code yX0_firstDue cX0_firstDue 6 (some .int), Cond.methodLink RX0 118 yX0_react, Cond.instanceMethod yX0_react, Cond.selects RX0 yX0_react yX0_react, Cond.code yX0_react cX0_react 4 (some .int), Cond.fieldLink RX0 25 "ProtocolMachine$Execution" "ignores" "I", Cond.fieldLink RX0 39 "ProtocolMachine$Execution" "fired" "[I", Cond.fieldLink RX0 61 "ProtocolMachine$Protocol" "actions" "[I", Cond.fieldLink RX0 70 "ProtocolMachine$Protocol" "next" "[I", Cond.fieldLink RX0 9 "ProtocolMachine$Execution" "present" "I", Cond.methodLink RX0 57 yX0_firstTrue, Cond.instanceMethod yX0_firstTrue, Cond.selects RX0 yX0_firstTrue yX0_firstTrue, Cond.code yX0_firstTrue cX0_firstTrue 4 (some .int), Cond.methodLink RX0 73 yX1_firstBehind]
def wsX0_goOn_r2 : List Cond := [Cond.instanceMethod yX1_firstBehind, Cond.selects RX1 yX1_firstBehind yX1_firstBehind, Cond.initialized RX1, Cond.code yX1_firstBehind cX1_firstBehind 5 (some .int), Cond.fieldLink RX1 15 "ProtocolMachine$Protocol" "transitions" "I", Cond.fieldLink RX1 22 "ProtocolMachine$Protocol" "from" "[I", Cond.fieldLink RX1 25 "ProtocolMachine$Protocol" "event" "[I", Cond.methodLink RX0 77 yX0_isTrue, Cond.instanceMethod yX0_isTrue, Cond.selects RX0 yX0_isTrue yX0_isTrue, Cond.code yX0_isTrue cX0_isTrue 3 (some .boolean), Cond.fieldLink RX0 81 "ProtocolMachine$Protocol" "variable" "[I", Cond.fieldLink RX0 28 "ProtocolMachine$Execution" "values" "[I", Cond.methodLink RX0 84 yX1_lowest, Cond.instanceMethod yX1_lowest, Cond.selects RX1 yX1_lowest yX1_lowest, Cond.code yX1_lowest cX1_lowest 2 (some .int), Cond.fieldLink RX1 34 "ProtocolMachine$Protocol" "relation" "[I", Cond.fieldLink RX1 37 "ProtocolMachine$Protocol" "number" "[I", Cond.methodLink RX0 87 yX1_highest, Cond.instanceMethod yX1_highest, Cond.selects RX1 yX1_highest yX1_highest, Cond.code yX1_highest cX1_highest 2 (some .int), Cond.methodLink RX0 66 yX0_act]
def wsX0_goOn_r3 : List Cond := [Cond.instanceMethod yX0_act, Cond.selects RX0 yX0_act yX0_act, Cond.code yX0_act cX0_act 4 none, Cond.fieldLink RX0 90 "ProtocolMachine$Protocol" "a" "[I", Cond.fieldLink RX0 93 "ProtocolMachine$Protocol" "b" "[I", Cond.fieldLink RX0 96 "ProtocolMachine$Protocol" "kind" "[I", Cond.methodLink RX0 99 Lib.Math.min.name, Cond.static Lib.Math.min.name, Cond.initialized "java/lang/Math", Cond.code Lib.Math.min.name Lib.Math.min.code 2 (some .int), Cond.methodLink RX0 105 Lib.Math.max.name, Cond.static Lib.Math.max.name, Cond.code Lib.Math.max.name Lib.Math.max.code 2 (some .int), Cond.methodLink RX0 108 yX0_emit, Cond.instanceMethod yX0_emit, Cond.selects RX0 yX0_emit yX0_emit, Cond.code yX0_emit cX0_emit 2 none, Cond.fieldLink RX0 22 "ProtocolMachine$Execution" "kept" "I", Cond.fieldLink RX0 36 "ProtocolMachine$Execution" "outputs" "[I", Cond.fieldLink RX0 19 "ProtocolMachine$Execution" "emits" "I"]
def wsX0_goOn : List Cond := .code yX0_goOn cX0_goOn 6 (some .int) :: ((wsX0_goOn_r1 ++ (wsX0_goOn_r2 ++ wsX0_goOn_r3)) ++ wsX00 ++ wsX10)
def wsX1_init : List Cond := .code yX1_init cX1_init 2 none :: ([.methodLink RX1 3 objectInit, .instanceMethod objectInit, .code objectInit ⟨#[0xb1]⟩ 1 none, .fieldLink RX1 9 "ProtocolMachine$Protocol" "states" "I", .fieldLink RX1 15 "ProtocolMachine$Protocol" "transitions" "I", .arrayClass .int, .fieldLink RX1 18 "ProtocolMachine$Protocol" "timerEvent" "[I", .fieldLink RX1 22 "ProtocolMachine$Protocol" "from" "[I", .fieldLink RX1 25 "ProtocolMachine$Protocol" "event" "[I", .fieldLink RX1 28 "ProtocolMachine$Protocol" "next" "[I", .fieldLink RX1 31 "ProtocolMachine$Protocol" "variable" "[I", .fieldLink RX1 34 "ProtocolMachine$Protocol" "relation" "[I", .fieldLink RX1 37 "ProtocolMachine$Protocol" "number" "[I", .fieldLink RX1 40 "ProtocolMachine$Protocol" "actions" "[I", .fieldLink RX1 43 "ProtocolMachine$Protocol" "kind" "[I", .fieldLink RX1 46 "ProtocolMachine$Protocol" "a" "[I", .fieldLink RX1 49 "ProtocolMachine$Protocol" "b" "[I"] ++ wsX10)
def wsX1_append : List Cond := .code yX1_append cX1_append 5 (some .int) :: ([.fieldLink RX1 15 "ProtocolMachine$Protocol" "transitions" "I", .fieldLink RX1 22 "ProtocolMachine$Protocol" "from" "[I", .fieldLink RX1 25 "ProtocolMachine$Protocol" "event" "[I", .fieldLink RX1 28 "ProtocolMachine$Protocol" "next" "[I", .fieldLink RX1 31 "ProtocolMachine$Protocol" "variable" "[I", .fieldLink RX1 34 "ProtocolMachine$Protocol" "relation" "[I", .fieldLink RX1 37 "ProtocolMachine$Protocol" "number" "[I", .fieldLink RX1 40 "ProtocolMachine$Protocol" "actions" "[I"] ++ wsX10)
def wsX1_guard : List Cond := .code yX1_guard cX1_guard 5 none :: ([.fieldLink RX1 31 "ProtocolMachine$Protocol" "variable" "[I", .fieldLink RX1 34 "ProtocolMachine$Protocol" "relation" "[I", .fieldLink RX1 37 "ProtocolMachine$Protocol" "number" "[I"] ++ wsX10)
def wsX1_appendAction : List Cond := .code yX1_appendAction cX1_appendAction 6 (some .int) :: ([.fieldLink RX1 40 "ProtocolMachine$Protocol" "actions" "[I", .fieldLink RX1 43 "ProtocolMachine$Protocol" "kind" "[I", .fieldLink RX1 46 "ProtocolMachine$Protocol" "a" "[I", .fieldLink RX1 49 "ProtocolMachine$Protocol" "b" "[I"] ++ wsX10)
def wsX1_covers : List Cond := .code yX1_covers cX1_covers 5 (some .boolean) :: ([.fieldLink RX1 31 "ProtocolMachine$Protocol" "variable" "[I", .methodLink RX1 56 yX1_lowest, .instanceMethod yX1_lowest, .selects RX1 yX1_lowest yX1_lowest, .initialized RX1, .code yX1_lowest cX1_lowest 2 (some .int), .fieldLink RX1 34 "ProtocolMachine$Protocol" "relation" "[I", .fieldLink RX1 37 "ProtocolMachine$Protocol" "number" "[I", .methodLink RX1 60 yX1_highest, .instanceMethod yX1_highest, .selects RX1 yX1_highest yX1_highest, .code yX1_highest cX1_highest 2 (some .int)] ++ wsX10)
def wsX1_isBehindAnother : List Cond := .code yX1_isBehindAnother cX1_isBehindAnother 3 (some .boolean) :: ([.fieldLink RX1 22 "ProtocolMachine$Protocol" "from" "[I", .fieldLink RX1 25 "ProtocolMachine$Protocol" "event" "[I", .methodLink RX1 52 yX1_covers, .instanceMethod yX1_covers, .selects RX1 yX1_covers yX1_covers, .initialized RX1, .code yX1_covers cX1_covers 5 (some .boolean), .fieldLink RX1 31 "ProtocolMachine$Protocol" "variable" "[I", .methodLink RX1 56 yX1_lowest, .instanceMethod yX1_lowest, .selects RX1 yX1_lowest yX1_lowest, .code yX1_lowest cX1_lowest 2 (some .int), .fieldLink RX1 34 "ProtocolMachine$Protocol" "relation" "[I", .fieldLink RX1 37 "ProtocolMachine$Protocol" "number" "[I", .methodLink RX1 60 yX1_highest, .instanceMethod yX1_highest, .selects RX1 yX1_highest yX1_highest, .code yX1_highest cX1_highest 2 (some .int)] ++ wsX10)
def wsX1_doTheSame : List Cond := .code yX1_doTheSame cX1_doTheSame 7 (some .boolean) :: ([.fieldLink RX1 31 "ProtocolMachine$Protocol" "variable" "[I", .fieldLink RX1 34 "ProtocolMachine$Protocol" "relation" "[I", .fieldLink RX1 37 "ProtocolMachine$Protocol" "number" "[I", .fieldLink RX1 40 "ProtocolMachine$Protocol" "actions" "[I", .fieldLink RX1 43 "ProtocolMachine$Protocol" "kind" "[I", .fieldLink RX1 46 "ProtocolMachine$Protocol" "a" "[I", .fieldLink RX1 49 "ProtocolMachine$Protocol" "b" "[I"] ++ wsX10)
def wsX2_init : List Cond := .code yX2_init cX2_init 2 none :: ([.methodLink RX2 3 objectInit, .instanceMethod objectInit, .code objectInit ⟨#[0xb1]⟩ 1 none, .fieldLink RX2 9 "ProtocolMachine$Table" "made" "Z", .fieldLink RX2 15 "ProtocolMachine$Table" "classes" "I", .fieldLink RX2 19 "ProtocolMachine$Table" "size" "I", .fieldLink RX2 22 "ProtocolMachine$Table" "taken" "I", .arrayClass .int, .fieldLink RX2 25 "ProtocolMachine$Table" "stateClass" "[I", .fieldLink RX2 29 "ProtocolMachine$Table" "finerClass" "[I", .fieldLink RX2 32 "ProtocolMachine$Table" "usedBits" "[I", .fieldLink RX2 35 "ProtocolMachine$Table" "offsets" "[I", .fieldLink RX2 38 "ProtocolMachine$Table" "owners" "[I", .fieldLink RX2 41 "ProtocolMachine$Table" "protocol" "LProtocolMachine$Protocol;"] ++ wsX20)
def wsX2_putReachedIntoOneClass : List Cond := .code yX2_putReachedIntoOneClass cX2_putReachedIntoOneClass 3 none :: ([.fieldLink RX2 25 "ProtocolMachine$Table" "stateClass" "[I", .fieldLink RX2 41 "ProtocolMachine$Table" "protocol" "LProtocolMachine$Protocol;", .fieldLink RX2 64 "ProtocolMachine$Protocol" "states" "I", .fieldLink RX2 69 "ProtocolMachine$Protocol" "transitions" "I", .fieldLink RX2 72 "ProtocolMachine$Protocol" "from" "[I", .fieldLink RX2 75 "ProtocolMachine$Protocol" "next" "[I", .methodLink RX2 58 yJ7_fill_53178, .static yJ7_fill_53178, .initialized RJ7, .code yJ7_fill_53178 cJ7_fill_53178 4 none] ++ wsX20 ++ wsX10)
def wsX2_haveSameCells : List Cond := .code yX2_haveSameCells cX2_haveSameCells 8 (some .boolean) :: ([.fieldLink RX2 41 "ProtocolMachine$Table" "protocol" "LProtocolMachine$Protocol;", .fieldLink RX2 25 "ProtocolMachine$Table" "stateClass" "[I", .fieldLink RX2 75 "ProtocolMachine$Protocol" "next" "[I", .methodLink RX2 96 yX1_firstBehind, .instanceMethod yX1_firstBehind, .selects RX1 yX1_firstBehind yX1_firstBehind, .initialized RX1, .code yX1_firstBehind cX1_firstBehind 5 (some .int), .fieldLink RX1 15 "ProtocolMachine$Protocol" "transitions" "I", .fieldLink RX1 22 "ProtocolMachine$Protocol" "from" "[I", .fieldLink RX1 25 "ProtocolMachine$Protocol" "event" "[I", .methodLink RX2 100 yX1_doTheSame, .instanceMethod yX1_doTheSame, .selects RX1 yX1_doTheSame yX1_doTheSame, .code yX1_doTheSame cX1_doTheSame 7 (some .boolean), .fieldLink RX1 31 "ProtocolMachine$Protocol" "variable" "[I", .fieldLink RX1 34 "ProtocolMachine$Protocol" "relation" "[I", .fieldLink RX1 37 "ProtocolMachine$Protocol" "number" "[I", .fieldLink RX1 40 "ProtocolMachine$Protocol" "actions" "[I", .fieldLink RX1 43 "ProtocolMachine$Protocol" "kind" "[I", .fieldLink RX1 46 "ProtocolMachine$Protocol" "a" "[I", .fieldLink RX1 49 "ProtocolMachine$Protocol" "b" "[I"] ++ wsX20 ++ wsX10)
def wsX2_haveSameRows_r1 : List Cond := [Cond.methodLink RX2 92 yX2_haveSameCells, Cond.instanceMethod yX2_haveSameCells, Cond.selects RX2 yX2_haveSameCells yX2_haveSameCells, Cond.initialized RX2, Cond.code yX2_haveSameCells cX2_haveSameCells 8 (some .boolean), Cond.fieldLink RX2 41 "ProtocolMachine$Table" "protocol" "LProtocolMachine$Protocol;", Cond.fieldLink RX2 25 "ProtocolMachine$Table" "stateClass" "[I", Cond.fieldLink RX2 75 "ProtocolMachine$Protocol" "next" "[I", Cond.methodLink RX2 96 yX1_firstBehind, Cond.instanceMethod yX1_firstBehind, Cond.selects RX1 yX1_firstBehind yX1_firstBehind, Cond.initialized RX1, Cond.code yX1_firstBehind cX1_firstBehind 5 (some .int), Cond.fieldLink RX1 15 "ProtocolMachine$Protocol" "transitions" "I", Cond.fieldLink RX1 22 "ProtocolMachine$Protocol" "from" "[I", Cond.fieldLink RX1 25 "ProtocolMachine$Protocol" "event" "[I", Cond.methodLink RX2 100 yX1_doTheSame, Cond.instanceMethod yX1_doTheSame, Cond.selects RX1 yX1_doTheSame yX1_doTheSame, Cond.code yX1_doTheSame cX1_doTheSame 7 (some .boolean), Cond.fieldLink RX1 31 "ProtocolMachine$Protocol" "variable" "[I", Cond.fieldLink RX1 34 "ProtocolMachine$Protocol" "relation" "[I", Cond.fieldLink RX1 37 "ProtocolMachine$Protocol" "number" "[I", Cond.fieldLink RX1 40 "ProtocolMachine$Protocol" "actions" "[I"]
def wsX2_haveSameRows_r2 : List Cond := [Cond.fieldLink RX1 43 "ProtocolMachine$Protocol" "kind" "[I", Cond.fieldLink RX1 46 "ProtocolMachine$Protocol" "a" "[I", Cond.fieldLink RX1 49 "ProtocolMachine$Protocol" "b" "[I"]
def wsX2_haveSameRows : List Cond := .code yX2_haveSameRows cX2_haveSameRows 4 (some .boolean) :: ((wsX2_haveSameRows_r1 ++ wsX2_haveSameRows_r2) ++ wsX20 ++ wsX10)
def wsX2_earlierTwin_r1 : List Cond := [Cond.fieldLink RX2 25 "ProtocolMachine$Table" "stateClass" "[I", Cond.methodLink RX2 88 yX2_haveSameRows, Cond.instanceMethod yX2_haveSameRows, Cond.selects RX2 yX2_haveSameRows yX2_haveSameRows, Cond.initialized RX2, Cond.code yX2_haveSameRows cX2_haveSameRows 4 (some .boolean), Cond.methodLink RX2 92 yX2_haveSameCells, Cond.instanceMethod yX2_haveSameCells, Cond.selects RX2 yX2_haveSameCells yX2_haveSameCells, Cond.code yX2_haveSameCells cX2_haveSameCells 8 (some .boolean), Cond.fieldLink RX2 41 "ProtocolMachine$Table" "protocol" "LProtocolMachine$Protocol;", Cond.fieldLink RX2 75 "ProtocolMachine$Protocol" "next" "[I", Cond.methodLink RX2 96 yX1_firstBehind, Cond.instanceMethod yX1_firstBehind, Cond.selects RX1 yX1_firstBehind yX1_firstBehind, Cond.initialized RX1, Cond.code yX1_firstBehind cX1_firstBehind 5 (some .int), Cond.fieldLink RX1 15 "ProtocolMachine$Protocol" "transitions" "I", Cond.fieldLink RX1 22 "ProtocolMachine$Protocol" "from" "[I", Cond.fieldLink RX1 25 "ProtocolMachine$Protocol" "event" "[I", Cond.methodLink RX2 100 yX1_doTheSame, Cond.instanceMethod yX1_doTheSame, Cond.selects RX1 yX1_doTheSame yX1_doTheSame, Cond.code yX1_doTheSame cX1_doTheSame 7 (some .boolean)]
def wsX2_earlierTwin_r2 : List Cond := [Cond.fieldLink RX1 31 "ProtocolMachine$Protocol" "variable" "[I", Cond.fieldLink RX1 34 "ProtocolMachine$Protocol" "relation" "[I", Cond.fieldLink RX1 37 "ProtocolMachine$Protocol" "number" "[I", Cond.fieldLink RX1 40 "ProtocolMachine$Protocol" "actions" "[I", Cond.fieldLink RX1 43 "ProtocolMachine$Protocol" "kind" "[I", Cond.fieldLink RX1 46 "ProtocolMachine$Protocol" "a" "[I", Cond.fieldLink RX1 49 "ProtocolMachine$Protocol" "b" "[I"]
def wsX2_earlierTwin : List Cond := .code yX2_earlierTwin cX2_earlierTwin 3 (some .int) :: ((wsX2_earlierTwin_r1 ++ wsX2_earlierTwin_r2) ++ wsX20 ++ wsX10)
def wsX2_splitOnce_r1 : List Cond := [Cond.fieldLink RX2 41 "ProtocolMachine$Table" "protocol" "LProtocolMachine$Protocol;", Cond.fieldLink RX2 64 "ProtocolMachine$Protocol" "states" "I", Cond.fieldLink RX2 29 "ProtocolMachine$Table" "finerClass" "[I", Cond.fieldLink RX2 25 "ProtocolMachine$Table" "stateClass" "[I", Cond.methodLink RX2 82 arraycopyName, Cond.native arraycopyName, Cond.static arraycopyName, Cond.initialized "java/lang/System", Cond.methodLink RX2 78 yX2_earlierTwin, Cond.instanceMethod yX2_earlierTwin, Cond.selects RX2 yX2_earlierTwin yX2_earlierTwin, Cond.initialized RX2, Cond.code yX2_earlierTwin cX2_earlierTwin 3 (some .int), Cond.methodLink RX2 88 yX2_haveSameRows, Cond.instanceMethod yX2_haveSameRows, Cond.selects RX2 yX2_haveSameRows yX2_haveSameRows, Cond.code yX2_haveSameRows cX2_haveSameRows 4 (some .boolean), Cond.methodLink RX2 92 yX2_haveSameCells, Cond.instanceMethod yX2_haveSameCells, Cond.selects RX2 yX2_haveSameCells yX2_haveSameCells, Cond.code yX2_haveSameCells cX2_haveSameCells 8 (some .boolean), Cond.fieldLink RX2 75 "ProtocolMachine$Protocol" "next" "[I", Cond.methodLink RX2 96 yX1_firstBehind, Cond.instanceMethod yX1_firstBehind]
def wsX2_splitOnce_r2 : List Cond := [Cond.selects RX1 yX1_firstBehind yX1_firstBehind, Cond.initialized RX1, Cond.code yX1_firstBehind cX1_firstBehind 5 (some .int), Cond.fieldLink RX1 15 "ProtocolMachine$Protocol" "transitions" "I", Cond.fieldLink RX1 22 "ProtocolMachine$Protocol" "from" "[I", Cond.fieldLink RX1 25 "ProtocolMachine$Protocol" "event" "[I", Cond.methodLink RX2 100 yX1_doTheSame, Cond.instanceMethod yX1_doTheSame, Cond.selects RX1 yX1_doTheSame yX1_doTheSame, Cond.code yX1_doTheSame cX1_doTheSame 7 (some .boolean), Cond.fieldLink RX1 31 "ProtocolMachine$Protocol" "variable" "[I", Cond.fieldLink RX1 34 "ProtocolMachine$Protocol" "relation" "[I", Cond.fieldLink RX1 37 "ProtocolMachine$Protocol" "number" "[I", Cond.fieldLink RX1 40 "ProtocolMachine$Protocol" "actions" "[I", Cond.fieldLink RX1 43 "ProtocolMachine$Protocol" "kind" "[I", Cond.fieldLink RX1 46 "ProtocolMachine$Protocol" "a" "[I", Cond.fieldLink RX1 49 "ProtocolMachine$Protocol" "b" "[I"]
def wsX2_splitOnce : List Cond := .code yX2_splitOnce cX2_splitOnce 4 (some .int) :: ((wsX2_splitOnce_r1 ++ wsX2_splitOnce_r2) ++ wsX20 ++ wsX10)
def wsX2_findUsedCells : List Cond := .code yX2_findUsedCells cX2_findUsedCells 3 none :: ([.fieldLink RX2 32 "ProtocolMachine$Table" "usedBits" "[I", .fieldLink RX2 41 "ProtocolMachine$Table" "protocol" "LProtocolMachine$Protocol;", .fieldLink RX2 69 "ProtocolMachine$Protocol" "transitions" "I", .fieldLink RX2 25 "ProtocolMachine$Table" "stateClass" "[I", .fieldLink RX2 72 "ProtocolMachine$Protocol" "from" "[I", .fieldLink RX2 103 "ProtocolMachine$Protocol" "event" "[I", .methodLink RX2 58 yJ7_fill_53178, .static yJ7_fill_53178, .initialized RJ7, .code yJ7_fill_53178 cJ7_fill_53178 4 none] ++ wsX20 ++ wsX10)
def wsJ6_bitCount_0f7a4 : List Cond := .code yJ6_bitCount_0f7a4 cJ6_bitCount_0f7a4 1 (some .int) :: ([.constant RJ6 265 (1431655765), .constant RJ6 266 (858993459), .constant RJ6 267 (252645135)])
def wsX2_usedCells : List Cond := .code yX2_usedCells cX2_usedCells 2 (some .int) :: ([.fieldLink RX2 32 "ProtocolMachine$Table" "usedBits" "[I", .methodLink RX2 106 yJ6_bitCount_0f7a4, .static yJ6_bitCount_0f7a4, .initialized RJ6, .code yJ6_bitCount_0f7a4 cJ6_bitCount_0f7a4 1 (some .int), .constant RJ6 265 (1431655765), .constant RJ6 266 (858993459), .constant RJ6 267 (252645135)] ++ wsX20)
def wsX2_isUsed : List Cond := .code yX2_isUsed cX2_isUsed 3 (some .boolean) :: ([.fieldLink RX2 32 "ProtocolMachine$Table" "usedBits" "[I"] ++ wsX20)
def wsX2_isFree : List Cond := .code yX2_isFree cX2_isFree 4 (some .boolean) :: ([.fieldLink RX2 38 "ProtocolMachine$Table" "owners" "[I", .methodLink RX2 121 yX2_isUsed, .instanceMethod yX2_isUsed, .selects RX2 yX2_isUsed yX2_isUsed, .initialized RX2, .code yX2_isUsed cX2_isUsed 3 (some .boolean), .fieldLink RX2 32 "ProtocolMachine$Table" "usedBits" "[I"] ++ wsX20)
def wsX2_layRow : List Cond := .code yX2_layRow cX2_layRow 4 none :: ([.fieldLink RX2 35 "ProtocolMachine$Table" "offsets" "[I", .fieldLink RX2 38 "ProtocolMachine$Table" "owners" "[I", .fieldLink RX2 19 "ProtocolMachine$Table" "size" "I", .methodLink RX2 124 Lib.Math.max.name, .static Lib.Math.max.name, .initialized "java/lang/Math", .code Lib.Math.max.name Lib.Math.max.code 2 (some .int), .fieldLink RX2 22 "ProtocolMachine$Table" "taken" "I", .methodLink RX2 118 yX2_isFree, .instanceMethod yX2_isFree, .selects RX2 yX2_isFree yX2_isFree, .initialized RX2, .code yX2_isFree cX2_isFree 4 (some .boolean), .methodLink RX2 121 yX2_isUsed, .instanceMethod yX2_isUsed, .selects RX2 yX2_isUsed yX2_isUsed, .code yX2_isUsed cX2_isUsed 3 (some .boolean), .fieldLink RX2 32 "ProtocolMachine$Table" "usedBits" "[I"] ++ wsX20)
def wsX2_layRows_r1 : List Cond := [Cond.fieldLink RX2 38 "ProtocolMachine$Table" "owners" "[I", Cond.fieldLink RX2 19 "ProtocolMachine$Table" "size" "I", Cond.fieldLink RX2 22 "ProtocolMachine$Table" "taken" "I", Cond.fieldLink RX2 15 "ProtocolMachine$Table" "classes" "I", Cond.methodLink RX2 58 yJ7_fill_53178, Cond.static yJ7_fill_53178, Cond.initialized RJ7, Cond.code yJ7_fill_53178 cJ7_fill_53178 4 none, Cond.methodLink RX2 111 yX2_usedCells, Cond.instanceMethod yX2_usedCells, Cond.selects RX2 yX2_usedCells yX2_usedCells, Cond.initialized RX2, Cond.code yX2_usedCells cX2_usedCells 2 (some .int), Cond.fieldLink RX2 32 "ProtocolMachine$Table" "usedBits" "[I", Cond.methodLink RX2 106 yJ6_bitCount_0f7a4, Cond.static yJ6_bitCount_0f7a4, Cond.initialized RJ6, Cond.code yJ6_bitCount_0f7a4 cJ6_bitCount_0f7a4 1 (some .int), Cond.constant RJ6 265 (1431655765), Cond.constant RJ6 266 (858993459), Cond.constant RJ6 267 (252645135), Cond.methodLink RX2 114 yX2_layRow, Cond.instanceMethod yX2_layRow, Cond.selects RX2 yX2_layRow yX2_layRow]
def wsX2_layRows_r2 : List Cond := [Cond.code yX2_layRow cX2_layRow 4 none, Cond.fieldLink RX2 35 "ProtocolMachine$Table" "offsets" "[I", Cond.methodLink RX2 124 Lib.Math.max.name, Cond.static Lib.Math.max.name, Cond.initialized "java/lang/Math", Cond.code Lib.Math.max.name Lib.Math.max.code 2 (some .int), Cond.methodLink RX2 118 yX2_isFree, Cond.instanceMethod yX2_isFree, Cond.selects RX2 yX2_isFree yX2_isFree, Cond.code yX2_isFree cX2_isFree 4 (some .boolean), Cond.methodLink RX2 121 yX2_isUsed, Cond.instanceMethod yX2_isUsed, Cond.selects RX2 yX2_isUsed yX2_isUsed, Cond.code yX2_isUsed cX2_isUsed 3 (some .boolean)]
def wsX2_layRows : List Cond := .code yX2_layRows cX2_layRows 3 none :: ((wsX2_layRows_r1 ++ wsX2_layRows_r2) ++ wsX20)
def wsX2_make_r1 : List Cond := [Cond.fieldLink RX2 15 "ProtocolMachine$Table" "classes" "I", Cond.fieldLink RX2 9 "ProtocolMachine$Table" "made" "Z", Cond.methodLink RX2 45 yX2_putReachedIntoOneClass, Cond.instanceMethod yX2_putReachedIntoOneClass, Cond.selects RX2 yX2_putReachedIntoOneClass yX2_putReachedIntoOneClass, Cond.initialized RX2, Cond.code yX2_putReachedIntoOneClass cX2_putReachedIntoOneClass 3 none, Cond.fieldLink RX2 25 "ProtocolMachine$Table" "stateClass" "[I", Cond.fieldLink RX2 41 "ProtocolMachine$Table" "protocol" "LProtocolMachine$Protocol;", Cond.fieldLink RX2 64 "ProtocolMachine$Protocol" "states" "I", Cond.fieldLink RX2 69 "ProtocolMachine$Protocol" "transitions" "I", Cond.fieldLink RX2 72 "ProtocolMachine$Protocol" "from" "[I", Cond.fieldLink RX2 75 "ProtocolMachine$Protocol" "next" "[I", Cond.methodLink RX2 58 yJ7_fill_53178, Cond.static yJ7_fill_53178, Cond.initialized RJ7, Cond.code yJ7_fill_53178 cJ7_fill_53178 4 none, Cond.methodLink RX2 48 yX2_splitOnce, Cond.instanceMethod yX2_splitOnce, Cond.selects RX2 yX2_splitOnce yX2_splitOnce, Cond.code yX2_splitOnce cX2_splitOnce 4 (some .int), Cond.fieldLink RX2 29 "ProtocolMachine$Table" "finerClass" "[I", Cond.methodLink RX2 82 arraycopyName, Cond.native arraycopyName]
def wsX2_make_r2 : List Cond := [Cond.static arraycopyName, Cond.initialized "java/lang/System", Cond.methodLink RX2 78 yX2_earlierTwin, Cond.instanceMethod yX2_earlierTwin, Cond.selects RX2 yX2_earlierTwin yX2_earlierTwin, Cond.code yX2_earlierTwin cX2_earlierTwin 3 (some .int), Cond.methodLink RX2 88 yX2_haveSameRows, Cond.instanceMethod yX2_haveSameRows, Cond.selects RX2 yX2_haveSameRows yX2_haveSameRows, Cond.code yX2_haveSameRows cX2_haveSameRows 4 (some .boolean), Cond.methodLink RX2 92 yX2_haveSameCells, Cond.instanceMethod yX2_haveSameCells, Cond.selects RX2 yX2_haveSameCells yX2_haveSameCells, Cond.code yX2_haveSameCells cX2_haveSameCells 8 (some .boolean), Cond.methodLink RX2 96 yX1_firstBehind, Cond.instanceMethod yX1_firstBehind, Cond.selects RX1 yX1_firstBehind yX1_firstBehind, Cond.initialized RX1, Cond.code yX1_firstBehind cX1_firstBehind 5 (some .int), Cond.fieldLink RX1 15 "ProtocolMachine$Protocol" "transitions" "I", Cond.fieldLink RX1 22 "ProtocolMachine$Protocol" "from" "[I", Cond.fieldLink RX1 25 "ProtocolMachine$Protocol" "event" "[I", Cond.methodLink RX2 100 yX1_doTheSame, Cond.instanceMethod yX1_doTheSame]
def wsX2_make_r3 : List Cond := [Cond.selects RX1 yX1_doTheSame yX1_doTheSame, Cond.code yX1_doTheSame cX1_doTheSame 7 (some .boolean), Cond.fieldLink RX1 31 "ProtocolMachine$Protocol" "variable" "[I", Cond.fieldLink RX1 34 "ProtocolMachine$Protocol" "relation" "[I", Cond.fieldLink RX1 37 "ProtocolMachine$Protocol" "number" "[I", Cond.fieldLink RX1 40 "ProtocolMachine$Protocol" "actions" "[I", Cond.fieldLink RX1 43 "ProtocolMachine$Protocol" "kind" "[I", Cond.fieldLink RX1 46 "ProtocolMachine$Protocol" "a" "[I", Cond.fieldLink RX1 49 "ProtocolMachine$Protocol" "b" "[I", Cond.methodLink RX2 52 yX2_findUsedCells, Cond.instanceMethod yX2_findUsedCells, Cond.selects RX2 yX2_findUsedCells yX2_findUsedCells, Cond.code yX2_findUsedCells cX2_findUsedCells 3 none, Cond.fieldLink RX2 32 "ProtocolMachine$Table" "usedBits" "[I", Cond.fieldLink RX2 103 "ProtocolMachine$Protocol" "event" "[I", Cond.methodLink RX2 55 yX2_layRows, Cond.instanceMethod yX2_layRows, Cond.selects RX2 yX2_layRows yX2_layRows, Cond.code yX2_layRows cX2_layRows 3 none, Cond.fieldLink RX2 38 "ProtocolMachine$Table" "owners" "[I", Cond.fieldLink RX2 19 "ProtocolMachine$Table" "size" "I", Cond.fieldLink RX2 22 "ProtocolMachine$Table" "taken" "I", Cond.methodLink RX2 111 yX2_usedCells, Cond.instanceMethod yX2_usedCells]
def wsX2_make_r4 : List Cond := [Cond.selects RX2 yX2_usedCells yX2_usedCells, Cond.code yX2_usedCells cX2_usedCells 2 (some .int), Cond.methodLink RX2 106 yJ6_bitCount_0f7a4, Cond.static yJ6_bitCount_0f7a4, Cond.initialized RJ6, Cond.code yJ6_bitCount_0f7a4 cJ6_bitCount_0f7a4 1 (some .int), Cond.constant RJ6 265 (1431655765), Cond.constant RJ6 266 (858993459), Cond.constant RJ6 267 (252645135), Cond.methodLink RX2 114 yX2_layRow, Cond.instanceMethod yX2_layRow, Cond.selects RX2 yX2_layRow yX2_layRow, Cond.code yX2_layRow cX2_layRow 4 none, Cond.fieldLink RX2 35 "ProtocolMachine$Table" "offsets" "[I", Cond.methodLink RX2 124 Lib.Math.max.name, Cond.static Lib.Math.max.name, Cond.initialized "java/lang/Math", Cond.code Lib.Math.max.name Lib.Math.max.code 2 (some .int), Cond.methodLink RX2 118 yX2_isFree, Cond.instanceMethod yX2_isFree, Cond.selects RX2 yX2_isFree yX2_isFree, Cond.code yX2_isFree cX2_isFree 4 (some .boolean), Cond.methodLink RX2 121 yX2_isUsed, Cond.instanceMethod yX2_isUsed]
def wsX2_make_r5 : List Cond := [Cond.selects RX2 yX2_isUsed yX2_isUsed, Cond.code yX2_isUsed cX2_isUsed 3 (some .boolean)]
def wsX2_make : List Cond := .code yX2_make cX2_make 3 none :: ((wsX2_make_r1 ++ (wsX2_make_r2 ++ (wsX2_make_r3 ++ (wsX2_make_r4 ++ wsX2_make_r5)))) ++ wsX20 ++ wsX10)
def wsX3_init_r1 : List Cond := [Cond.methodLink RX3 3 objectInit, Cond.instanceMethod objectInit, Cond.code objectInit ⟨#[0xb1]⟩ 1 none, Cond.classLink RX3 9 RX1, Cond.instantiable RX1 13, Cond.initialized RX1, Cond.fieldLink RX3 12 "ProtocolMachine" "protocol" "LProtocolMachine$Protocol;", Cond.classLink RX3 16 RX0, Cond.instantiable RX0 10, Cond.initialized RX0, Cond.fieldLink RX3 21 "ProtocolMachine" "execution" "LProtocolMachine$Execution;", Cond.classLink RX3 25 RX2, Cond.instantiable RX2 10, Cond.initialized RX2, Cond.fieldLink RX3 28 "ProtocolMachine" "table" "LProtocolMachine$Table;", Cond.methodLink RX3 11 yX1_init, Cond.instanceMethod yX1_init, Cond.code yX1_init cX1_init 2 none, Cond.methodLink RX1 3 objectInit, Cond.fieldLink RX1 9 "ProtocolMachine$Protocol" "states" "I", Cond.fieldLink RX1 15 "ProtocolMachine$Protocol" "transitions" "I", Cond.arrayClass .int, Cond.fieldLink RX1 18 "ProtocolMachine$Protocol" "timerEvent" "[I", Cond.fieldLink RX1 22 "ProtocolMachine$Protocol" "from" "[I"]
def wsX3_init_r2 : List Cond := [Cond.fieldLink RX1 25 "ProtocolMachine$Protocol" "event" "[I", Cond.fieldLink RX1 28 "ProtocolMachine$Protocol" "next" "[I", Cond.fieldLink RX1 31 "ProtocolMachine$Protocol" "variable" "[I", Cond.fieldLink RX1 34 "ProtocolMachine$Protocol" "relation" "[I", Cond.fieldLink RX1 37 "ProtocolMachine$Protocol" "number" "[I", Cond.fieldLink RX1 40 "ProtocolMachine$Protocol" "actions" "[I", Cond.fieldLink RX1 43 "ProtocolMachine$Protocol" "kind" "[I", Cond.fieldLink RX1 46 "ProtocolMachine$Protocol" "a" "[I", Cond.fieldLink RX1 49 "ProtocolMachine$Protocol" "b" "[I", Cond.methodLink RX3 18 yX0_init, Cond.instanceMethod yX0_init, Cond.code yX0_init cX0_init 2 none, Cond.methodLink RX0 3 objectInit, Cond.fieldLink RX0 9 "ProtocolMachine$Execution" "present" "I", Cond.fieldLink RX0 15 "ProtocolMachine$Execution" "now" "J", Cond.fieldLink RX0 19 "ProtocolMachine$Execution" "emits" "I", Cond.fieldLink RX0 22 "ProtocolMachine$Execution" "kept" "I", Cond.fieldLink RX0 25 "ProtocolMachine$Execution" "ignores" "I", Cond.fieldLink RX0 28 "ProtocolMachine$Execution" "values" "[I", Cond.arrayClass .long, Cond.fieldLink RX0 32 "ProtocolMachine$Execution" "due" "[J", Cond.fieldLink RX0 36 "ProtocolMachine$Execution" "outputs" "[I", Cond.fieldLink RX0 39 "ProtocolMachine$Execution" "fired" "[I", Cond.fieldLink RX0 42 "ProtocolMachine$Execution" "protocol" "LProtocolMachine$Protocol;"]
def wsX3_init_r3 : List Cond := [Cond.constantLong RX0 46 (-1), Cond.methodLink RX0 48 yJ7_fill_d0a16, Cond.static yJ7_fill_d0a16, Cond.initialized RJ7, Cond.code yJ7_fill_d0a16 cJ7_fill_d0a16 5 none, Cond.methodLink RX3 27 yX2_init, Cond.instanceMethod yX2_init, Cond.code yX2_init cX2_init 2 none, Cond.methodLink RX2 3 objectInit, Cond.fieldLink RX2 9 "ProtocolMachine$Table" "made" "Z", Cond.fieldLink RX2 15 "ProtocolMachine$Table" "classes" "I", Cond.fieldLink RX2 19 "ProtocolMachine$Table" "size" "I", Cond.fieldLink RX2 22 "ProtocolMachine$Table" "taken" "I", Cond.fieldLink RX2 25 "ProtocolMachine$Table" "stateClass" "[I", Cond.fieldLink RX2 29 "ProtocolMachine$Table" "finerClass" "[I", Cond.fieldLink RX2 32 "ProtocolMachine$Table" "usedBits" "[I", Cond.fieldLink RX2 35 "ProtocolMachine$Table" "offsets" "[I", Cond.fieldLink RX2 38 "ProtocolMachine$Table" "owners" "[I", Cond.fieldLink RX2 41 "ProtocolMachine$Table" "protocol" "LProtocolMachine$Protocol;"]
def wsX3_init : List Cond := .code yX3_init cX3_init 1 none :: ((wsX3_init_r1 ++ (wsX3_init_r2 ++ wsX3_init_r3)) ++ wsX10 ++ wsX30 ++ wsX00 ++ wsX20)
def wsX3_addState : List Cond := .code yX3_addState cX3_addState 1 (some .int) :: ([.classLink RX3 36 "java/lang/IllegalStateException", .initialized "java/lang/IllegalStateException", .fieldLink RX3 12 "ProtocolMachine" "protocol" "LProtocolMachine$Protocol;", .fieldLink RX3 32 "ProtocolMachine$Protocol" "states" "I", .fieldLink RX3 28 "ProtocolMachine" "table" "LProtocolMachine$Table;", .fieldLink RX3 43 "ProtocolMachine$Table" "made" "Z"] ++ wsX30 ++ wsX10 ++ wsX20 ++ (vx_atS RX3 40 "java/lang/IllegalStateException" ["java/lang/RuntimeException", "java/lang/Exception"]).filter goodWord)
def wsX3_isBelow : List Cond := .code yX3_isBelow cX3_isBelow 2 (some .boolean) :: ([])
def wsX3_isNumber : List Cond := .code yX3_isNumber cX3_isNumber 1 (some .boolean) :: ([])
def wsX3_addTransition_r1 : List Cond := [Cond.classLink RX3 51 "java/lang/IndexOutOfBoundsException", Cond.initialized "java/lang/IndexOutOfBoundsException", Cond.classLink RX3 64 "java/lang/IllegalArgumentException", Cond.initialized "java/lang/IllegalArgumentException", Cond.classLink RX3 36 "java/lang/IllegalStateException", Cond.initialized "java/lang/IllegalStateException", Cond.fieldLink RX3 12 "ProtocolMachine" "protocol" "LProtocolMachine$Protocol;", Cond.fieldLink RX3 32 "ProtocolMachine$Protocol" "states" "I", Cond.fieldLink RX3 69 "ProtocolMachine$Protocol" "transitions" "I", Cond.fieldLink RX3 28 "ProtocolMachine" "table" "LProtocolMachine$Table;", Cond.fieldLink RX3 43 "ProtocolMachine$Table" "made" "Z", Cond.fieldLink RX3 21 "ProtocolMachine" "execution" "LProtocolMachine$Execution;", Cond.fieldLink RX3 82 "ProtocolMachine$Execution" "fired" "[I", Cond.methodLink RX3 47 yX3_isBelow, Cond.static yX3_isBelow, Cond.initialized RX3, Cond.code yX3_isBelow cX3_isBelow 2 (some .boolean), Cond.methodLink RX3 60 yX3_isNumber, Cond.static yX3_isNumber, Cond.code yX3_isNumber cX3_isNumber 1 (some .boolean), Cond.methodLink RX3 74 yX1_append, Cond.instanceMethod yX1_append, Cond.selects RX1 yX1_append yX1_append, Cond.initialized RX1]
def wsX3_addTransition_r2 : List Cond := [Cond.code yX1_append cX1_append 5 (some .int), Cond.fieldLink RX1 15 "ProtocolMachine$Protocol" "transitions" "I", Cond.fieldLink RX1 22 "ProtocolMachine$Protocol" "from" "[I", Cond.fieldLink RX1 25 "ProtocolMachine$Protocol" "event" "[I", Cond.fieldLink RX1 28 "ProtocolMachine$Protocol" "next" "[I", Cond.fieldLink RX1 31 "ProtocolMachine$Protocol" "variable" "[I", Cond.fieldLink RX1 34 "ProtocolMachine$Protocol" "relation" "[I", Cond.fieldLink RX1 37 "ProtocolMachine$Protocol" "number" "[I", Cond.fieldLink RX1 40 "ProtocolMachine$Protocol" "actions" "[I", Cond.methodLink RX3 78 yX1_guard, Cond.instanceMethod yX1_guard, Cond.selects RX1 yX1_guard yX1_guard, Cond.code yX1_guard cX1_guard 5 none]
def wsX3_addTransition : List Cond := .code yX3_addTransition cX3_addTransition 8 (some .int) :: ((wsX3_addTransition_r1 ++ wsX3_addTransition_r2) ++ wsX30 ++ wsX10 ++ wsX20 ++ wsX00 ++ (vx_atS RX3 55 "java/lang/IndexOutOfBoundsException" ["java/lang/RuntimeException", "java/lang/Exception"]).filter goodWord ++ (vx_atS RX3 68 "java/lang/IllegalArgumentException" ["java/lang/RuntimeException", "java/lang/Exception"]).filter goodWord ++ (vx_atS RX3 40 "java/lang/IllegalStateException" ["java/lang/RuntimeException", "java/lang/Exception"]).filter goodWord)
def wsX3_isAction : List Cond := .code yX3_isAction cX3_isAction 3 (some .boolean) :: ([.methodLink RX3 47 yX3_isBelow, .static yX3_isBelow, .initialized RX3, .code yX3_isBelow cX3_isBelow 2 (some .boolean), .methodLink RX3 60 yX3_isNumber, .static yX3_isNumber, .code yX3_isNumber cX3_isNumber 1 (some .boolean)])
def wsX3_addAction_r1 : List Cond := [Cond.classLink RX3 51 "java/lang/IndexOutOfBoundsException", Cond.initialized "java/lang/IndexOutOfBoundsException", Cond.classLink RX3 64 "java/lang/IllegalArgumentException", Cond.initialized "java/lang/IllegalArgumentException", Cond.classLink RX3 36 "java/lang/IllegalStateException", Cond.initialized "java/lang/IllegalStateException", Cond.fieldLink RX3 12 "ProtocolMachine" "protocol" "LProtocolMachine$Protocol;", Cond.fieldLink RX3 69 "ProtocolMachine$Protocol" "transitions" "I", Cond.fieldLink RX3 94 "ProtocolMachine$Protocol" "actions" "[I", Cond.fieldLink RX3 28 "ProtocolMachine" "table" "LProtocolMachine$Table;", Cond.fieldLink RX3 43 "ProtocolMachine$Table" "made" "Z", Cond.methodLink RX3 47 yX3_isBelow, Cond.static yX3_isBelow, Cond.initialized RX3, Cond.code yX3_isBelow cX3_isBelow 2 (some .boolean), Cond.methodLink RX3 88 yX3_isAction, Cond.static yX3_isAction, Cond.code yX3_isAction cX3_isAction 3 (some .boolean), Cond.methodLink RX3 60 yX3_isNumber, Cond.static yX3_isNumber, Cond.code yX3_isNumber cX3_isNumber 1 (some .boolean), Cond.methodLink RX3 99 yX1_appendAction, Cond.instanceMethod yX1_appendAction, Cond.selects RX1 yX1_appendAction yX1_appendAction]
def wsX3_addAction_r2 : List Cond := [Cond.initialized RX1, Cond.code yX1_appendAction cX1_appendAction 6 (some .int), Cond.fieldLink RX1 40 "ProtocolMachine$Protocol" "actions" "[I", Cond.fieldLink RX1 43 "ProtocolMachine$Protocol" "kind" "[I", Cond.fieldLink RX1 46 "ProtocolMachine$Protocol" "a" "[I", Cond.fieldLink RX1 49 "ProtocolMachine$Protocol" "b" "[I"]
def wsX3_addAction : List Cond := .code yX3_addAction cX3_addAction 5 (some .int) :: ((wsX3_addAction_r1 ++ wsX3_addAction_r2) ++ wsX30 ++ wsX10 ++ wsX20 ++ (vx_atS RX3 55 "java/lang/IndexOutOfBoundsException" ["java/lang/RuntimeException", "java/lang/Exception"]).filter goodWord ++ (vx_atS RX3 68 "java/lang/IllegalArgumentException" ["java/lang/RuntimeException", "java/lang/Exception"]).filter goodWord ++ (vx_atS RX3 40 "java/lang/IllegalStateException" ["java/lang/RuntimeException", "java/lang/Exception"]).filter goodWord)
def wsX3_drop : List Cond := .code yX3_drop cX3_drop 1 (some .int) :: ([.classLink RX3 36 "java/lang/IllegalStateException", .initialized "java/lang/IllegalStateException", .fieldLink RX3 12 "ProtocolMachine" "protocol" "LProtocolMachine$Protocol;", .fieldLink RX3 69 "ProtocolMachine$Protocol" "transitions" "I", .fieldLink RX3 28 "ProtocolMachine" "table" "LProtocolMachine$Table;", .fieldLink RX3 43 "ProtocolMachine$Table" "made" "Z"] ++ wsX30 ++ wsX10 ++ wsX20 ++ (vx_atS RX3 40 "java/lang/IllegalStateException" ["java/lang/RuntimeException", "java/lang/Exception"]).filter goodWord)
def wsX3_setTimerEvent : List Cond := .code yX3_setTimerEvent cX3_setTimerEvent 4 (some .int) :: ([.classLink RX3 51 "java/lang/IndexOutOfBoundsException", .initialized "java/lang/IndexOutOfBoundsException", .fieldLink RX3 28 "ProtocolMachine" "table" "LProtocolMachine$Table;", .fieldLink RX3 43 "ProtocolMachine$Table" "made" "Z", .fieldLink RX3 12 "ProtocolMachine" "protocol" "LProtocolMachine$Protocol;", .fieldLink RX3 107 "ProtocolMachine$Protocol" "timerEvent" "[I", .methodLink RX3 47 yX3_isBelow, .static yX3_isBelow, .initialized RX3, .code yX3_isBelow cX3_isBelow 2 (some .boolean)] ++ wsX30 ++ wsX20 ++ wsX10 ++ (vx_atS RX3 55 "java/lang/IndexOutOfBoundsException" ["java/lang/RuntimeException", "java/lang/Exception"]).filter goodWord)
def wsX3_stateCount : List Cond := .code yX3_stateCount cX3_stateCount 1 (some .int) :: ([.fieldLink RX3 12 "ProtocolMachine" "protocol" "LProtocolMachine$Protocol;", .fieldLink RX3 32 "ProtocolMachine$Protocol" "states" "I"] ++ wsX30 ++ wsX10)
def wsX3_transitionCount : List Cond := .code yX3_transitionCount cX3_transitionCount 1 (some .int) :: ([.fieldLink RX3 12 "ProtocolMachine" "protocol" "LProtocolMachine$Protocol;", .fieldLink RX3 69 "ProtocolMachine$Protocol" "transitions" "I"] ++ wsX30 ++ wsX10)
def wsX3_isHidden_r1 : List Cond := [Cond.classLink RX3 51 "java/lang/IndexOutOfBoundsException", Cond.initialized "java/lang/IndexOutOfBoundsException", Cond.fieldLink RX3 12 "ProtocolMachine" "protocol" "LProtocolMachine$Protocol;", Cond.fieldLink RX3 69 "ProtocolMachine$Protocol" "transitions" "I", Cond.methodLink RX3 47 yX3_isBelow, Cond.static yX3_isBelow, Cond.initialized RX3, Cond.code yX3_isBelow cX3_isBelow 2 (some .boolean), Cond.methodLink RX3 110 yX1_isBehindAnother, Cond.instanceMethod yX1_isBehindAnother, Cond.selects RX1 yX1_isBehindAnother yX1_isBehindAnother, Cond.initialized RX1, Cond.code yX1_isBehindAnother cX1_isBehindAnother 3 (some .boolean), Cond.fieldLink RX1 22 "ProtocolMachine$Protocol" "from" "[I", Cond.fieldLink RX1 25 "ProtocolMachine$Protocol" "event" "[I", Cond.methodLink RX1 52 yX1_covers, Cond.instanceMethod yX1_covers, Cond.selects RX1 yX1_covers yX1_covers, Cond.code yX1_covers cX1_covers 5 (some .boolean), Cond.fieldLink RX1 31 "ProtocolMachine$Protocol" "variable" "[I", Cond.methodLink RX1 56 yX1_lowest, Cond.instanceMethod yX1_lowest, Cond.selects RX1 yX1_lowest yX1_lowest, Cond.code yX1_lowest cX1_lowest 2 (some .int)]
def wsX3_isHidden_r2 : List Cond := [Cond.fieldLink RX1 34 "ProtocolMachine$Protocol" "relation" "[I", Cond.fieldLink RX1 37 "ProtocolMachine$Protocol" "number" "[I", Cond.methodLink RX1 60 yX1_highest, Cond.instanceMethod yX1_highest, Cond.selects RX1 yX1_highest yX1_highest, Cond.code yX1_highest cX1_highest 2 (some .int)]
def wsX3_isHidden : List Cond := .code yX3_isHidden cX3_isHidden 2 (some .boolean) :: ((wsX3_isHidden_r1 ++ wsX3_isHidden_r2) ++ wsX30 ++ wsX10 ++ (vx_atS RX3 55 "java/lang/IndexOutOfBoundsException" ["java/lang/RuntimeException", "java/lang/Exception"]).filter goodWord)
def wsX3_restart : List Cond := .code yX3_restart cX3_restart 3 (some .long) :: ([.fieldLink RX3 21 "ProtocolMachine" "execution" "LProtocolMachine$Execution;", .fieldLink RX3 113 "ProtocolMachine$Execution" "now" "J", .methodLink RX3 117 yX0_begin, .instanceMethod yX0_begin, .selects RX0 yX0_begin yX0_begin, .initialized RX0, .code yX0_begin cX0_begin 1 none, .fieldLink RX0 9 "ProtocolMachine$Execution" "present" "I", .fieldLink RX0 15 "ProtocolMachine$Execution" "now" "J", .fieldLink RX0 19 "ProtocolMachine$Execution" "emits" "I", .fieldLink RX0 22 "ProtocolMachine$Execution" "kept" "I", .fieldLink RX0 25 "ProtocolMachine$Execution" "ignores" "I", .fieldLink RX0 28 "ProtocolMachine$Execution" "values" "[I", .fieldLink RX0 32 "ProtocolMachine$Execution" "due" "[J", .constantLong RX0 46 (-1), .fieldLink RX0 39 "ProtocolMachine$Execution" "fired" "[I", .methodLink RX0 54 yJ7_fill_53178, .static yJ7_fill_53178, .initialized RJ7, .code yJ7_fill_53178 cJ7_fill_53178 4 none, .methodLink RX0 48 yJ7_fill_d0a16, .static yJ7_fill_d0a16, .code yJ7_fill_d0a16 cJ7_fill_d0a16 5 none] ++ wsX30 ++ wsX00)
def wsX3_happen_r1 : List Cond := [Cond.classLink RX3 51 "java/lang/IndexOutOfBoundsException", Cond.initialized "java/lang/IndexOutOfBoundsException", Cond.fieldLink RX3 21 "ProtocolMachine" "execution" "LProtocolMachine$Execution;", Cond.methodLink RX3 47 yX3_isBelow, Cond.static yX3_isBelow, Cond.initialized RX3, Cond.code yX3_isBelow cX3_isBelow 2 (some .boolean), Cond.methodLink RX3 120 yX0_react, Cond.instanceMethod yX0_react, Cond.selects RX0 yX0_react yX0_react, Cond.initialized RX0, Cond.code yX0_react cX0_react 4 (some .int), Cond.fieldLink RX0 25 "ProtocolMachine$Execution" "ignores" "I", Cond.fieldLink RX0 39 "ProtocolMachine$Execution" "fired" "[I", Cond.fieldLink RX0 42 "ProtocolMachine$Execution" "protocol" "LProtocolMachine$Protocol;", Cond.fieldLink RX0 61 "ProtocolMachine$Protocol" "actions" "[I", Cond.fieldLink RX0 70 "ProtocolMachine$Protocol" "next" "[I", Cond.fieldLink RX0 9 "ProtocolMachine$Execution" "present" "I", Cond.methodLink RX0 57 yX0_firstTrue, Cond.instanceMethod yX0_firstTrue, Cond.selects RX0 yX0_firstTrue yX0_firstTrue, Cond.code yX0_firstTrue cX0_firstTrue 4 (some .int), Cond.methodLink RX0 73 yX1_firstBehind, Cond.instanceMethod yX1_firstBehind]
def wsX3_happen_r2 : List Cond := [Cond.selects RX1 yX1_firstBehind yX1_firstBehind, Cond.initialized RX1, Cond.code yX1_firstBehind cX1_firstBehind 5 (some .int), Cond.fieldLink RX1 15 "ProtocolMachine$Protocol" "transitions" "I", Cond.fieldLink RX1 22 "ProtocolMachine$Protocol" "from" "[I", Cond.fieldLink RX1 25 "ProtocolMachine$Protocol" "event" "[I", Cond.methodLink RX0 77 yX0_isTrue, Cond.instanceMethod yX0_isTrue, Cond.selects RX0 yX0_isTrue yX0_isTrue, Cond.code yX0_isTrue cX0_isTrue 3 (some .boolean), Cond.fieldLink RX0 81 "ProtocolMachine$Protocol" "variable" "[I", Cond.fieldLink RX0 28 "ProtocolMachine$Execution" "values" "[I", Cond.methodLink RX0 84 yX1_lowest, Cond.instanceMethod yX1_lowest, Cond.selects RX1 yX1_lowest yX1_lowest, Cond.code yX1_lowest cX1_lowest 2 (some .int), Cond.fieldLink RX1 34 "ProtocolMachine$Protocol" "relation" "[I", Cond.fieldLink RX1 37 "ProtocolMachine$Protocol" "number" "[I", Cond.methodLink RX0 87 yX1_highest, Cond.instanceMethod yX1_highest, Cond.selects RX1 yX1_highest yX1_highest, Cond.code yX1_highest cX1_highest 2 (some .int), Cond.methodLink RX0 66 yX0_act, Cond.instanceMethod yX0_act]
def wsX3_happen_r3 : List Cond := [Cond.selects RX0 yX0_act yX0_act, Cond.code yX0_act cX0_act 4 none, Cond.fieldLink RX0 90 "ProtocolMachine$Protocol" "a" "[I", Cond.fieldLink RX0 93 "ProtocolMachine$Protocol" "b" "[I", Cond.fieldLink RX0 96 "ProtocolMachine$Protocol" "kind" "[I", Cond.methodLink RX0 99 Lib.Math.min.name, Cond.static Lib.Math.min.name, Cond.initialized "java/lang/Math", Cond.code Lib.Math.min.name Lib.Math.min.code 2 (some .int), Cond.methodLink RX0 105 Lib.Math.max.name, Cond.static Lib.Math.max.name, Cond.code Lib.Math.max.name Lib.Math.max.code 2 (some .int), Cond.fieldLink RX0 32 "ProtocolMachine$Execution" "due" "[J", Cond.fieldLink RX0 15 "ProtocolMachine$Execution" "now" "J", Cond.constantLong RX0 46 (-1), Cond.methodLink RX0 108 yX0_emit, Cond.instanceMethod yX0_emit, Cond.selects RX0 yX0_emit yX0_emit, Cond.code yX0_emit cX0_emit 2 none, Cond.fieldLink RX0 22 "ProtocolMachine$Execution" "kept" "I", Cond.fieldLink RX0 36 "ProtocolMachine$Execution" "outputs" "[I", Cond.fieldLink RX0 19 "ProtocolMachine$Execution" "emits" "I"]
def wsX3_happen : List Cond := .code yX3_happen cX3_happen 2 (some .int) :: ((wsX3_happen_r1 ++ (wsX3_happen_r2 ++ wsX3_happen_r3)) ++ wsX30 ++ wsX00 ++ wsX10 ++ (vx_atS RX3 55 "java/lang/IndexOutOfBoundsException" ["java/lang/RuntimeException", "java/lang/Exception"]).filter goodWord)
def wsX3_advance_r1 : List Cond := [Cond.classLink RX3 64 "java/lang/IllegalArgumentException", Cond.initialized "java/lang/IllegalArgumentException", Cond.fieldLink RX3 21 "ProtocolMachine" "execution" "LProtocolMachine$Execution;", Cond.methodLink RX3 126 yX0_goOn, Cond.instanceMethod yX0_goOn, Cond.selects RX0 yX0_goOn yX0_goOn, Cond.initialized RX0, Cond.code yX0_goOn cX0_goOn 6 (some .int), Cond.fieldLink RX0 15 "ProtocolMachine$Execution" "now" "J", Cond.fieldLink RX0 32 "ProtocolMachine$Execution" "due" "[J", Cond.constantLong RX0 46 (-1), Cond.fieldLink RX0 42 "ProtocolMachine$Execution" "protocol" "LProtocolMachine$Protocol;", Cond.fieldLink RX0 115 "ProtocolMachine$Protocol" "timerEvent" "[I", Cond.methodLink RX0 111 yX0_firstDue, Cond.instanceMethod yX0_firstDue, Cond.selects RX0 yX0_firstDue yX0_firstDue, Cond.code yX0_firstDue cX0_firstDue 6 (some .int), Cond.methodLink RX0 118 yX0_react, Cond.instanceMethod yX0_react, Cond.selects RX0 yX0_react yX0_react, Cond.code yX0_react cX0_react 4 (some .int), Cond.fieldLink RX0 25 "ProtocolMachine$Execution" "ignores" "I", Cond.fieldLink RX0 39 "ProtocolMachine$Execution" "fired" "[I", Cond.fieldLink RX0 61 "ProtocolMachine$Protocol" "actions" "[I"]
def wsX3_advance_r2 : List Cond := [Cond.fieldLink RX0 70 "ProtocolMachine$Protocol" "next" "[I", Cond.fieldLink RX0 9 "ProtocolMachine$Execution" "present" "I", Cond.methodLink RX0 57 yX0_firstTrue, Cond.instanceMethod yX0_firstTrue, Cond.selects RX0 yX0_firstTrue yX0_firstTrue, Cond.code yX0_firstTrue cX0_firstTrue 4 (some .int), Cond.methodLink RX0 73 yX1_firstBehind, Cond.instanceMethod yX1_firstBehind, Cond.selects RX1 yX1_firstBehind yX1_firstBehind, Cond.initialized RX1, Cond.code yX1_firstBehind cX1_firstBehind 5 (some .int), Cond.fieldLink RX1 15 "ProtocolMachine$Protocol" "transitions" "I", Cond.fieldLink RX1 22 "ProtocolMachine$Protocol" "from" "[I", Cond.fieldLink RX1 25 "ProtocolMachine$Protocol" "event" "[I", Cond.methodLink RX0 77 yX0_isTrue, Cond.instanceMethod yX0_isTrue, Cond.selects RX0 yX0_isTrue yX0_isTrue, Cond.code yX0_isTrue cX0_isTrue 3 (some .boolean), Cond.fieldLink RX0 81 "ProtocolMachine$Protocol" "variable" "[I", Cond.fieldLink RX0 28 "ProtocolMachine$Execution" "values" "[I", Cond.methodLink RX0 84 yX1_lowest, Cond.instanceMethod yX1_lowest, Cond.selects RX1 yX1_lowest yX1_lowest, Cond.code yX1_lowest cX1_lowest 2 (some .int)]
def wsX3_advance_r3 : List Cond := [Cond.fieldLink RX1 34 "ProtocolMachine$Protocol" "relation" "[I", Cond.fieldLink RX1 37 "ProtocolMachine$Protocol" "number" "[I", Cond.methodLink RX0 87 yX1_highest, Cond.instanceMethod yX1_highest, Cond.selects RX1 yX1_highest yX1_highest, Cond.code yX1_highest cX1_highest 2 (some .int), Cond.methodLink RX0 66 yX0_act, Cond.instanceMethod yX0_act, Cond.selects RX0 yX0_act yX0_act, Cond.code yX0_act cX0_act 4 none, Cond.fieldLink RX0 90 "ProtocolMachine$Protocol" "a" "[I", Cond.fieldLink RX0 93 "ProtocolMachine$Protocol" "b" "[I", Cond.fieldLink RX0 96 "ProtocolMachine$Protocol" "kind" "[I", Cond.methodLink RX0 99 Lib.Math.min.name, Cond.static Lib.Math.min.name, Cond.initialized "java/lang/Math", Cond.code Lib.Math.min.name Lib.Math.min.code 2 (some .int), Cond.methodLink RX0 105 Lib.Math.max.name, Cond.static Lib.Math.max.name, Cond.code Lib.Math.max.name Lib.Math.max.code 2 (some .int), Cond.methodLink RX0 108 yX0_emit, Cond.instanceMethod yX0_emit, Cond.selects RX0 yX0_emit yX0_emit, Cond.code yX0_emit cX0_emit 2 none]
def wsX3_advance_r4 : List Cond := [Cond.fieldLink RX0 22 "ProtocolMachine$Execution" "kept" "I", Cond.fieldLink RX0 36 "ProtocolMachine$Execution" "outputs" "[I", Cond.fieldLink RX0 19 "ProtocolMachine$Execution" "emits" "I"]
def wsX3_advance : List Cond := .code yX3_advance cX3_advance 2 (some .int) :: ((wsX3_advance_r1 ++ (wsX3_advance_r2 ++ (wsX3_advance_r3 ++ wsX3_advance_r4))) ++ wsX30 ++ wsX00 ++ wsX10 ++ (vx_atS RX3 68 "java/lang/IllegalArgumentException" ["java/lang/RuntimeException", "java/lang/Exception"]).filter goodWord)
def wsX3_state : List Cond := .code yX3_state cX3_state 1 (some .int) :: ([.fieldLink RX3 21 "ProtocolMachine" "execution" "LProtocolMachine$Execution;", .fieldLink RX3 129 "ProtocolMachine$Execution" "present" "I"] ++ wsX30 ++ wsX00)
def wsX3_time : List Cond := .code yX3_time cX3_time 1 (some .long) :: ([.fieldLink RX3 21 "ProtocolMachine" "execution" "LProtocolMachine$Execution;", .fieldLink RX3 113 "ProtocolMachine$Execution" "now" "J"] ++ wsX30 ++ wsX00)
def wsX3_value : List Cond := .code yX3_value cX3_value 2 (some .int) :: ([.classLink RX3 51 "java/lang/IndexOutOfBoundsException", .initialized "java/lang/IndexOutOfBoundsException", .fieldLink RX3 21 "ProtocolMachine" "execution" "LProtocolMachine$Execution;", .fieldLink RX3 132 "ProtocolMachine$Execution" "values" "[I", .methodLink RX3 47 yX3_isBelow, .static yX3_isBelow, .initialized RX3, .code yX3_isBelow cX3_isBelow 2 (some .boolean)] ++ wsX30 ++ wsX00 ++ (vx_atS RX3 55 "java/lang/IndexOutOfBoundsException" ["java/lang/RuntimeException", "java/lang/Exception"]).filter goodWord)
def wsX3_left : List Cond := .code yX3_left cX3_left 2 (some .int) :: ([.classLink RX3 51 "java/lang/IndexOutOfBoundsException", .initialized "java/lang/IndexOutOfBoundsException", .fieldLink RX3 21 "ProtocolMachine" "execution" "LProtocolMachine$Execution;", .methodLink RX3 47 yX3_isBelow, .static yX3_isBelow, .initialized RX3, .code yX3_isBelow cX3_isBelow 2 (some .boolean), .methodLink RX3 137 yX0_ticksLeft, .instanceMethod yX0_ticksLeft, .selects RX0 yX0_ticksLeft yX0_ticksLeft, .initialized RX0, .code yX0_ticksLeft cX0_ticksLeft 2 (some .int), .fieldLink RX0 32 "ProtocolMachine$Execution" "due" "[J", .constantLong RX0 46 (-1), .fieldLink RX0 15 "ProtocolMachine$Execution" "now" "J"] ++ wsX30 ++ wsX00 ++ (vx_atS RX3 55 "java/lang/IndexOutOfBoundsException" ["java/lang/RuntimeException", "java/lang/Exception"]).filter goodWord)
def wsX3_emitted : List Cond := .code yX3_emitted cX3_emitted 1 (some .int) :: ([.fieldLink RX3 21 "ProtocolMachine" "execution" "LProtocolMachine$Execution;", .fieldLink RX3 140 "ProtocolMachine$Execution" "emits" "I"] ++ wsX30 ++ wsX00)
def wsX3_output : List Cond := .code yX3_output cX3_output 2 (some .int) :: ([.classLink RX3 51 "java/lang/IndexOutOfBoundsException", .initialized "java/lang/IndexOutOfBoundsException", .fieldLink RX3 21 "ProtocolMachine" "execution" "LProtocolMachine$Execution;", .fieldLink RX3 143 "ProtocolMachine$Execution" "kept" "I", .fieldLink RX3 148 "ProtocolMachine$Execution" "outputs" "[I", .methodLink RX3 47 yX3_isBelow, .static yX3_isBelow, .initialized RX3, .code yX3_isBelow cX3_isBelow 2 (some .boolean)] ++ wsX30 ++ wsX00 ++ (vx_atS RX3 55 "java/lang/IndexOutOfBoundsException" ["java/lang/RuntimeException", "java/lang/Exception"]).filter goodWord)
def wsX3_fired : List Cond := .code yX3_fired cX3_fired 2 (some .int) :: ([.classLink RX3 51 "java/lang/IndexOutOfBoundsException", .initialized "java/lang/IndexOutOfBoundsException", .fieldLink RX3 12 "ProtocolMachine" "protocol" "LProtocolMachine$Protocol;", .fieldLink RX3 69 "ProtocolMachine$Protocol" "transitions" "I", .fieldLink RX3 21 "ProtocolMachine" "execution" "LProtocolMachine$Execution;", .fieldLink RX3 82 "ProtocolMachine$Execution" "fired" "[I", .methodLink RX3 47 yX3_isBelow, .static yX3_isBelow, .initialized RX3, .code yX3_isBelow cX3_isBelow 2 (some .boolean)] ++ wsX30 ++ wsX10 ++ wsX00 ++ (vx_atS RX3 55 "java/lang/IndexOutOfBoundsException" ["java/lang/RuntimeException", "java/lang/Exception"]).filter goodWord)
def wsX3_ignored : List Cond := .code yX3_ignored cX3_ignored 1 (some .int) :: ([.fieldLink RX3 21 "ProtocolMachine" "execution" "LProtocolMachine$Execution;", .fieldLink RX3 151 "ProtocolMachine$Execution" "ignores" "I"] ++ wsX30 ++ wsX00)
def wsX3_compile_r1 : List Cond := [Cond.fieldLink RX3 28 "ProtocolMachine" "table" "LProtocolMachine$Table;", Cond.fieldLink RX3 43 "ProtocolMachine$Table" "made" "Z", Cond.fieldLink RX3 157 "ProtocolMachine$Table" "classes" "I", Cond.methodLink RX3 154 yX2_make, Cond.instanceMethod yX2_make, Cond.selects RX2 yX2_make yX2_make, Cond.initialized RX2, Cond.code yX2_make cX2_make 3 none, Cond.fieldLink RX2 15 "ProtocolMachine$Table" "classes" "I", Cond.fieldLink RX2 9 "ProtocolMachine$Table" "made" "Z", Cond.methodLink RX2 45 yX2_putReachedIntoOneClass, Cond.instanceMethod yX2_putReachedIntoOneClass, Cond.selects RX2 yX2_putReachedIntoOneClass yX2_putReachedIntoOneClass, Cond.code yX2_putReachedIntoOneClass cX2_putReachedIntoOneClass 3 none, Cond.fieldLink RX2 25 "ProtocolMachine$Table" "stateClass" "[I", Cond.fieldLink RX2 41 "ProtocolMachine$Table" "protocol" "LProtocolMachine$Protocol;", Cond.fieldLink RX2 64 "ProtocolMachine$Protocol" "states" "I", Cond.fieldLink RX2 69 "ProtocolMachine$Protocol" "transitions" "I", Cond.fieldLink RX2 72 "ProtocolMachine$Protocol" "from" "[I", Cond.fieldLink RX2 75 "ProtocolMachine$Protocol" "next" "[I", Cond.methodLink RX2 58 yJ7_fill_53178, Cond.static yJ7_fill_53178, Cond.initialized RJ7, Cond.code yJ7_fill_53178 cJ7_fill_53178 4 none]
def wsX3_compile_r2 : List Cond := [Cond.methodLink RX2 48 yX2_splitOnce, Cond.instanceMethod yX2_splitOnce, Cond.selects RX2 yX2_splitOnce yX2_splitOnce, Cond.code yX2_splitOnce cX2_splitOnce 4 (some .int), Cond.fieldLink RX2 29 "ProtocolMachine$Table" "finerClass" "[I", Cond.methodLink RX2 82 arraycopyName, Cond.native arraycopyName, Cond.static arraycopyName, Cond.initialized "java/lang/System", Cond.methodLink RX2 78 yX2_earlierTwin, Cond.instanceMethod yX2_earlierTwin, Cond.selects RX2 yX2_earlierTwin yX2_earlierTwin, Cond.code yX2_earlierTwin cX2_earlierTwin 3 (some .int), Cond.methodLink RX2 88 yX2_haveSameRows, Cond.instanceMethod yX2_haveSameRows, Cond.selects RX2 yX2_haveSameRows yX2_haveSameRows, Cond.code yX2_haveSameRows cX2_haveSameRows 4 (some .boolean), Cond.methodLink RX2 92 yX2_haveSameCells, Cond.instanceMethod yX2_haveSameCells, Cond.selects RX2 yX2_haveSameCells yX2_haveSameCells, Cond.code yX2_haveSameCells cX2_haveSameCells 8 (some .boolean), Cond.methodLink RX2 96 yX1_firstBehind, Cond.instanceMethod yX1_firstBehind, Cond.selects RX1 yX1_firstBehind yX1_firstBehind]
def wsX3_compile_r3 : List Cond := [Cond.initialized RX1, Cond.code yX1_firstBehind cX1_firstBehind 5 (some .int), Cond.fieldLink RX1 15 "ProtocolMachine$Protocol" "transitions" "I", Cond.fieldLink RX1 22 "ProtocolMachine$Protocol" "from" "[I", Cond.fieldLink RX1 25 "ProtocolMachine$Protocol" "event" "[I", Cond.methodLink RX2 100 yX1_doTheSame, Cond.instanceMethod yX1_doTheSame, Cond.selects RX1 yX1_doTheSame yX1_doTheSame, Cond.code yX1_doTheSame cX1_doTheSame 7 (some .boolean), Cond.fieldLink RX1 31 "ProtocolMachine$Protocol" "variable" "[I", Cond.fieldLink RX1 34 "ProtocolMachine$Protocol" "relation" "[I", Cond.fieldLink RX1 37 "ProtocolMachine$Protocol" "number" "[I", Cond.fieldLink RX1 40 "ProtocolMachine$Protocol" "actions" "[I", Cond.fieldLink RX1 43 "ProtocolMachine$Protocol" "kind" "[I", Cond.fieldLink RX1 46 "ProtocolMachine$Protocol" "a" "[I", Cond.fieldLink RX1 49 "ProtocolMachine$Protocol" "b" "[I", Cond.methodLink RX2 52 yX2_findUsedCells, Cond.instanceMethod yX2_findUsedCells, Cond.selects RX2 yX2_findUsedCells yX2_findUsedCells, Cond.code yX2_findUsedCells cX2_findUsedCells 3 none, Cond.fieldLink RX2 32 "ProtocolMachine$Table" "usedBits" "[I", Cond.fieldLink RX2 103 "ProtocolMachine$Protocol" "event" "[I", Cond.methodLink RX2 55 yX2_layRows, Cond.instanceMethod yX2_layRows]
def wsX3_compile_r4 : List Cond := [Cond.selects RX2 yX2_layRows yX2_layRows, Cond.code yX2_layRows cX2_layRows 3 none, Cond.fieldLink RX2 38 "ProtocolMachine$Table" "owners" "[I", Cond.fieldLink RX2 19 "ProtocolMachine$Table" "size" "I", Cond.fieldLink RX2 22 "ProtocolMachine$Table" "taken" "I", Cond.methodLink RX2 111 yX2_usedCells, Cond.instanceMethod yX2_usedCells, Cond.selects RX2 yX2_usedCells yX2_usedCells, Cond.code yX2_usedCells cX2_usedCells 2 (some .int), Cond.methodLink RX2 106 yJ6_bitCount_0f7a4, Cond.static yJ6_bitCount_0f7a4, Cond.initialized RJ6, Cond.code yJ6_bitCount_0f7a4 cJ6_bitCount_0f7a4 1 (some .int), Cond.constant RJ6 265 (1431655765), Cond.constant RJ6 266 (858993459), Cond.constant RJ6 267 (252645135), Cond.methodLink RX2 114 yX2_layRow, Cond.instanceMethod yX2_layRow, Cond.selects RX2 yX2_layRow yX2_layRow, Cond.code yX2_layRow cX2_layRow 4 none, Cond.fieldLink RX2 35 "ProtocolMachine$Table" "offsets" "[I", Cond.methodLink RX2 124 Lib.Math.max.name, Cond.static Lib.Math.max.name, Cond.initialized "java/lang/Math"]
def wsX3_compile_r5 : List Cond := [Cond.code Lib.Math.max.name Lib.Math.max.code 2 (some .int), Cond.methodLink RX2 118 yX2_isFree, Cond.instanceMethod yX2_isFree, Cond.selects RX2 yX2_isFree yX2_isFree, Cond.code yX2_isFree cX2_isFree 4 (some .boolean), Cond.methodLink RX2 121 yX2_isUsed, Cond.instanceMethod yX2_isUsed, Cond.selects RX2 yX2_isUsed yX2_isUsed, Cond.code yX2_isUsed cX2_isUsed 3 (some .boolean)]
def wsX3_compile : List Cond := .code yX3_compile cX3_compile 1 (some .int) :: ((wsX3_compile_r1 ++ (wsX3_compile_r2 ++ (wsX3_compile_r3 ++ (wsX3_compile_r4 ++ wsX3_compile_r5)))) ++ wsX30 ++ wsX20 ++ wsX10)
def wsX3_isCompiled : List Cond := .code yX3_isCompiled cX3_isCompiled 1 (some .boolean) :: ([.fieldLink RX3 28 "ProtocolMachine" "table" "LProtocolMachine$Table;", .fieldLink RX3 43 "ProtocolMachine$Table" "made" "Z"] ++ wsX30 ++ wsX20)
def wsX3_needTable : List Cond := .code yX3_needTable cX3_needTable 1 none :: ([.classLink RX3 36 "java/lang/IllegalStateException", .initialized "java/lang/IllegalStateException", .fieldLink RX3 28 "ProtocolMachine" "table" "LProtocolMachine$Table;", .fieldLink RX3 43 "ProtocolMachine$Table" "made" "Z"] ++ wsX30 ++ wsX20 ++ (vx_atS RX3 40 "java/lang/IllegalStateException" ["java/lang/RuntimeException", "java/lang/Exception"]).filter goodWord)
def wsX3_classOf : List Cond := .code yX3_classOf cX3_classOf 2 (some .int) :: ([.classLink RX3 51 "java/lang/IndexOutOfBoundsException", .initialized "java/lang/IndexOutOfBoundsException", .fieldLink RX3 12 "ProtocolMachine" "protocol" "LProtocolMachine$Protocol;", .fieldLink RX3 32 "ProtocolMachine$Protocol" "states" "I", .fieldLink RX3 28 "ProtocolMachine" "table" "LProtocolMachine$Table;", .fieldLink RX3 163 "ProtocolMachine$Table" "stateClass" "[I", .methodLink RX3 160 yX3_needTable, .instanceMethod yX3_needTable, .selects RX3 yX3_needTable yX3_needTable, .initialized RX3, .code yX3_needTable cX3_needTable 1 none, .classLink RX3 36 "java/lang/IllegalStateException", .initialized "java/lang/IllegalStateException", .fieldLink RX3 43 "ProtocolMachine$Table" "made" "Z", .methodLink RX3 47 yX3_isBelow, .static yX3_isBelow, .code yX3_isBelow cX3_isBelow 2 (some .boolean)] ++ wsX30 ++ wsX10 ++ wsX20 ++ (vx_atS RX3 55 "java/lang/IndexOutOfBoundsException" ["java/lang/RuntimeException", "java/lang/Exception"]).filter goodWord ++ (vx_atS RX3 40 "java/lang/IllegalStateException" ["java/lang/RuntimeException", "java/lang/Exception"]).filter goodWord)
def wsX3_needClass : List Cond := .code yX3_needClass cX3_needClass 2 none :: ([.classLink RX3 51 "java/lang/IndexOutOfBoundsException", .initialized "java/lang/IndexOutOfBoundsException", .fieldLink RX3 28 "ProtocolMachine" "table" "LProtocolMachine$Table;", .fieldLink RX3 157 "ProtocolMachine$Table" "classes" "I", .methodLink RX3 160 yX3_needTable, .instanceMethod yX3_needTable, .selects RX3 yX3_needTable yX3_needTable, .initialized RX3, .code yX3_needTable cX3_needTable 1 none, .classLink RX3 36 "java/lang/IllegalStateException", .initialized "java/lang/IllegalStateException", .fieldLink RX3 43 "ProtocolMachine$Table" "made" "Z", .methodLink RX3 47 yX3_isBelow, .static yX3_isBelow, .code yX3_isBelow cX3_isBelow 2 (some .boolean)] ++ wsX30 ++ wsX20 ++ (vx_atS RX3 55 "java/lang/IndexOutOfBoundsException" ["java/lang/RuntimeException", "java/lang/Exception"]).filter goodWord ++ (vx_atS RX3 40 "java/lang/IllegalStateException" ["java/lang/RuntimeException", "java/lang/Exception"]).filter goodWord)
def wsX3_offset : List Cond := .code yX3_offset cX3_offset 2 (some .int) :: ([.fieldLink RX3 28 "ProtocolMachine" "table" "LProtocolMachine$Table;", .fieldLink RX3 170 "ProtocolMachine$Table" "offsets" "[I", .methodLink RX3 166 yX3_needClass, .instanceMethod yX3_needClass, .selects RX3 yX3_needClass yX3_needClass, .initialized RX3, .code yX3_needClass cX3_needClass 2 none, .classLink RX3 51 "java/lang/IndexOutOfBoundsException", .initialized "java/lang/IndexOutOfBoundsException", .fieldLink RX3 157 "ProtocolMachine$Table" "classes" "I", .methodLink RX3 160 yX3_needTable, .instanceMethod yX3_needTable, .selects RX3 yX3_needTable yX3_needTable, .code yX3_needTable cX3_needTable 1 none, .classLink RX3 36 "java/lang/IllegalStateException", .initialized "java/lang/IllegalStateException", .fieldLink RX3 43 "ProtocolMachine$Table" "made" "Z", .methodLink RX3 47 yX3_isBelow, .static yX3_isBelow, .code yX3_isBelow cX3_isBelow 2 (some .boolean)] ++ wsX30 ++ wsX20 ++ (vx_atS RX3 55 "java/lang/IndexOutOfBoundsException" ["java/lang/RuntimeException", "java/lang/Exception"]).filter goodWord ++ (vx_atS RX3 40 "java/lang/IllegalStateException" ["java/lang/RuntimeException", "java/lang/Exception"]).filter goodWord)
def wsX3_used_r1 : List Cond := [Cond.fieldLink RX3 28 "ProtocolMachine" "table" "LProtocolMachine$Table;", Cond.methodLink RX3 166 yX3_needClass, Cond.instanceMethod yX3_needClass, Cond.selects RX3 yX3_needClass yX3_needClass, Cond.initialized RX3, Cond.code yX3_needClass cX3_needClass 2 none, Cond.classLink RX3 51 "java/lang/IndexOutOfBoundsException", Cond.initialized "java/lang/IndexOutOfBoundsException", Cond.fieldLink RX3 157 "ProtocolMachine$Table" "classes" "I", Cond.methodLink RX3 160 yX3_needTable, Cond.instanceMethod yX3_needTable, Cond.selects RX3 yX3_needTable yX3_needTable, Cond.code yX3_needTable cX3_needTable 1 none, Cond.classLink RX3 36 "java/lang/IllegalStateException", Cond.initialized "java/lang/IllegalStateException", Cond.fieldLink RX3 43 "ProtocolMachine$Table" "made" "Z", Cond.methodLink RX3 47 yX3_isBelow, Cond.static yX3_isBelow, Cond.code yX3_isBelow cX3_isBelow 2 (some .boolean), Cond.methodLink RX3 173 yX2_usedCells, Cond.instanceMethod yX2_usedCells, Cond.selects RX2 yX2_usedCells yX2_usedCells, Cond.initialized RX2, Cond.code yX2_usedCells cX2_usedCells 2 (some .int)]
def wsX3_used_r2 : List Cond := [Cond.fieldLink RX2 32 "ProtocolMachine$Table" "usedBits" "[I", Cond.methodLink RX2 106 yJ6_bitCount_0f7a4, Cond.static yJ6_bitCount_0f7a4, Cond.initialized RJ6, Cond.code yJ6_bitCount_0f7a4 cJ6_bitCount_0f7a4 1 (some .int), Cond.constant RJ6 265 (1431655765), Cond.constant RJ6 266 (858993459), Cond.constant RJ6 267 (252645135)]
def wsX3_used : List Cond := .code yX3_used cX3_used 2 (some .int) :: ((wsX3_used_r1 ++ wsX3_used_r2) ++ wsX30 ++ wsX20 ++ (vx_atS RX3 55 "java/lang/IndexOutOfBoundsException" ["java/lang/RuntimeException", "java/lang/Exception"]).filter goodWord ++ (vx_atS RX3 40 "java/lang/IllegalStateException" ["java/lang/RuntimeException", "java/lang/Exception"]).filter goodWord)
def wsX3_tableSize : List Cond := .code yX3_tableSize cX3_tableSize 1 (some .int) :: ([.fieldLink RX3 28 "ProtocolMachine" "table" "LProtocolMachine$Table;", .fieldLink RX3 176 "ProtocolMachine$Table" "size" "I", .methodLink RX3 160 yX3_needTable, .instanceMethod yX3_needTable, .selects RX3 yX3_needTable yX3_needTable, .initialized RX3, .code yX3_needTable cX3_needTable 1 none, .classLink RX3 36 "java/lang/IllegalStateException", .initialized "java/lang/IllegalStateException", .fieldLink RX3 43 "ProtocolMachine$Table" "made" "Z"] ++ wsX30 ++ wsX20 ++ (vx_atS RX3 40 "java/lang/IllegalStateException" ["java/lang/RuntimeException", "java/lang/Exception"]).filter goodWord)
def wsX3_owner : List Cond := .code yX3_owner cX3_owner 2 (some .int) :: ([.classLink RX3 51 "java/lang/IndexOutOfBoundsException", .initialized "java/lang/IndexOutOfBoundsException", .fieldLink RX3 28 "ProtocolMachine" "table" "LProtocolMachine$Table;", .fieldLink RX3 176 "ProtocolMachine$Table" "size" "I", .fieldLink RX3 181 "ProtocolMachine$Table" "owners" "[I", .methodLink RX3 160 yX3_needTable, .instanceMethod yX3_needTable, .selects RX3 yX3_needTable yX3_needTable, .initialized RX3, .code yX3_needTable cX3_needTable 1 none, .classLink RX3 36 "java/lang/IllegalStateException", .initialized "java/lang/IllegalStateException", .fieldLink RX3 43 "ProtocolMachine$Table" "made" "Z", .methodLink RX3 47 yX3_isBelow, .static yX3_isBelow, .code yX3_isBelow cX3_isBelow 2 (some .boolean)] ++ wsX30 ++ wsX20 ++ (vx_atS RX3 55 "java/lang/IndexOutOfBoundsException" ["java/lang/RuntimeException", "java/lang/Exception"]).filter goodWord ++ (vx_atS RX3 40 "java/lang/IllegalStateException" ["java/lang/RuntimeException", "java/lang/Exception"]).filter goodWord)
def wsX3_density : List Cond := .code yX3_density cX3_density 1 (some .double) :: ([.fieldLink RX3 28 "ProtocolMachine" "table" "LProtocolMachine$Table;", .fieldLink RX3 176 "ProtocolMachine$Table" "size" "I", .fieldLink RX3 184 "ProtocolMachine$Table" "taken" "I", .methodLink RX3 160 yX3_needTable, .instanceMethod yX3_needTable, .selects RX3 yX3_needTable yX3_needTable, .initialized RX3, .code yX3_needTable cX3_needTable 1 none, .classLink RX3 36 "java/lang/IllegalStateException", .initialized "java/lang/IllegalStateException", .fieldLink RX3 43 "ProtocolMachine$Table" "made" "Z"] ++ wsX30 ++ wsX20 ++ (vx_atS RX3 40 "java/lang/IllegalStateException" ["java/lang/RuntimeException", "java/lang/Exception"]).filter goodWord)
def wsX3_mix : List Cond := .code yX3_mix cX3_mix 4 (some .long) :: ([.constantLong RX3 209 (31)])
def wsX3_mixExecution : List Cond := .code yX3_mixExecution cX3_mixExecution 6 (some .long) :: ([.fieldLink RX3 21 "ProtocolMachine" "execution" "LProtocolMachine$Execution;", .fieldLink RX3 129 "ProtocolMachine$Execution" "present" "I", .fieldLink RX3 113 "ProtocolMachine$Execution" "now" "J", .fieldLink RX3 132 "ProtocolMachine$Execution" "values" "[I", .fieldLink RX3 140 "ProtocolMachine$Execution" "emits" "I", .fieldLink RX3 151 "ProtocolMachine$Execution" "ignores" "I", .methodLink RX3 189 yX3_mix, .static yX3_mix, .initialized RX3, .code yX3_mix cX3_mix 4 (some .long), .constantLong RX3 209 (31), .methodLink RX3 137 yX0_ticksLeft, .instanceMethod yX0_ticksLeft, .selects RX0 yX0_ticksLeft yX0_ticksLeft, .initialized RX0, .code yX0_ticksLeft cX0_ticksLeft 2 (some .int), .fieldLink RX0 32 "ProtocolMachine$Execution" "due" "[J", .constantLong RX0 46 (-1), .fieldLink RX0 15 "ProtocolMachine$Execution" "now" "J"] ++ wsX30 ++ wsX00)
def wsX3_mixTable : List Cond := .code yX3_mixTable cX3_mixTable 6 (some .long) :: ([.fieldLink RX3 28 "ProtocolMachine" "table" "LProtocolMachine$Table;", .fieldLink RX3 157 "ProtocolMachine$Table" "classes" "I", .fieldLink RX3 170 "ProtocolMachine$Table" "offsets" "[I", .methodLink RX3 189 yX3_mix, .static yX3_mix, .initialized RX3, .code yX3_mix cX3_mix 4 (some .long), .constantLong RX3 209 (31)] ++ wsX30 ++ wsX20)
def wsX3_digest_r1 : List Cond := [Cond.constantLong RX3 187 (127), Cond.fieldLink RX3 12 "ProtocolMachine" "protocol" "LProtocolMachine$Protocol;", Cond.fieldLink RX3 32 "ProtocolMachine$Protocol" "states" "I", Cond.fieldLink RX3 69 "ProtocolMachine$Protocol" "transitions" "I", Cond.fieldLink RX3 193 "ProtocolMachine$Protocol" "from" "[I", Cond.fieldLink RX3 196 "ProtocolMachine$Protocol" "event" "[I", Cond.fieldLink RX3 199 "ProtocolMachine$Protocol" "next" "[I", Cond.fieldLink RX3 94 "ProtocolMachine$Protocol" "actions" "[I", Cond.fieldLink RX3 21 "ProtocolMachine" "execution" "LProtocolMachine$Execution;", Cond.fieldLink RX3 82 "ProtocolMachine$Execution" "fired" "[I", Cond.fieldLink RX3 28 "ProtocolMachine" "table" "LProtocolMachine$Table;", Cond.fieldLink RX3 43 "ProtocolMachine$Table" "made" "Z", Cond.methodLink RX3 189 yX3_mix, Cond.static yX3_mix, Cond.initialized RX3, Cond.code yX3_mix cX3_mix 4 (some .long), Cond.constantLong RX3 209 (31), Cond.methodLink RX3 202 yX3_mixExecution, Cond.instanceMethod yX3_mixExecution, Cond.selects RX3 yX3_mixExecution yX3_mixExecution, Cond.code yX3_mixExecution cX3_mixExecution 6 (some .long), Cond.fieldLink RX3 129 "ProtocolMachine$Execution" "present" "I", Cond.fieldLink RX3 113 "ProtocolMachine$Execution" "now" "J", Cond.fieldLink RX3 132 "ProtocolMachine$Execution" "values" "[I"]
def wsX3_digest_r2 : List Cond := [Cond.fieldLink RX3 140 "ProtocolMachine$Execution" "emits" "I", Cond.fieldLink RX3 151 "ProtocolMachine$Execution" "ignores" "I", Cond.methodLink RX3 137 yX0_ticksLeft, Cond.instanceMethod yX0_ticksLeft, Cond.selects RX0 yX0_ticksLeft yX0_ticksLeft, Cond.initialized RX0, Cond.code yX0_ticksLeft cX0_ticksLeft 2 (some .int), Cond.fieldLink RX0 32 "ProtocolMachine$Execution" "due" "[J", Cond.constantLong RX0 46 (-1), Cond.fieldLink RX0 15 "ProtocolMachine$Execution" "now" "J", Cond.methodLink RX3 206 yX3_mixTable, Cond.instanceMethod yX3_mixTable, Cond.selects RX3 yX3_mixTable yX3_mixTable, Cond.code yX3_mixTable cX3_mixTable 6 (some .long), Cond.fieldLink RX3 157 "ProtocolMachine$Table" "classes" "I", Cond.fieldLink RX3 170 "ProtocolMachine$Table" "offsets" "[I"]
def wsX3_digest : List Cond := .code yX3_digest cX3_digest 4 (some .long) :: ((wsX3_digest_r1 ++ wsX3_digest_r2) ++ wsX30 ++ wsX10 ++ wsX00 ++ wsX20)
def wsX4_init_r1 : List Cond := [Cond.methodLink RX4 1 objectInit, Cond.instanceMethod objectInit, Cond.code objectInit ⟨#[0xb1]⟩ 1 none, Cond.fieldLink RX4 7 "ProtocolMachineModel" "states" "I", Cond.arrayClass .int, Cond.fieldLink RX4 13 "ProtocolMachineModel" "timerEvents" "[I", Cond.fieldLink RX4 17 "ProtocolMachineModel" "froms" "[I", Cond.fieldLink RX4 20 "ProtocolMachineModel" "events" "[I", Cond.fieldLink RX4 23 "ProtocolMachineModel" "variables" "[I", Cond.fieldLink RX4 26 "ProtocolMachineModel" "relations" "[I", Cond.fieldLink RX4 29 "ProtocolMachineModel" "numbers" "[I", Cond.fieldLink RX4 32 "ProtocolMachineModel" "nexts" "[I", Cond.fieldLink RX4 35 "ProtocolMachineModel" "sizes" "[I", Cond.fieldLink RX4 38 "ProtocolMachineModel" "actions" "[I", Cond.fieldLink RX4 41 "ProtocolMachineModel" "fired" "[I", Cond.fieldLink RX4 44 "ProtocolMachineModel" "values" "[I", Cond.arrayClass .boolean, Cond.fieldLink RX4 47 "ProtocolMachineModel" "runs" "[Z", Cond.arrayClass .long, Cond.fieldLink RX4 51 "ProtocolMachineModel" "dues" "[J", Cond.fieldLink RX4 55 "ProtocolMachineModel" "output" "[I", Cond.fieldLink RX4 58 "ProtocolMachineModel" "numbersOf" "[I", Cond.fieldLink RX4 61 "ProtocolMachineModel" "offsets" "[I", Cond.fieldLink RX4 64 "ProtocolMachineModel" "useds" "[I"]
def wsX4_init_r2 : List Cond := [Cond.fieldLink RX4 67 "ProtocolMachineModel" "owners" "[I", Cond.fieldLink RX4 70 "ProtocolMachineModel" "isReached" "[Z", Cond.fieldLink RX4 73 "ProtocolMachineModel" "areApart" "[Z"]
def wsX4_init : List Cond := .code yX4_init cX4_init 1 none :: ((wsX4_init_r1 ++ wsX4_init_r2) ++ wsX40)
def wsX4_thrown : List Cond := .code yX4_thrown cX4_thrown 1 (some .int) :: ([.fieldLink RX4 76 "ProtocolMachineModel" "thrown" "I"] ++ wsX40)
def wsX4_fail : List Cond := .code yX4_fail cX4_fail 2 (some .int) :: ([.fieldLink RX4 76 "ProtocolMachineModel" "thrown" "I"] ++ wsX40)
def wsX4_isIn : List Cond := .code yX4_isIn cX4_isIn 3 (some .boolean) :: ([])
def wsX4_isState : List Cond := .code yX4_isState cX4_isState 2 (some .boolean) :: ([.fieldLink RX4 7 "ProtocolMachineModel" "states" "I", .methodLink RX4 79 yX4_isIn, .static yX4_isIn, .initialized RX4, .code yX4_isIn cX4_isIn 3 (some .boolean)] ++ wsX40)
def wsX4_isTransition : List Cond := .code yX4_isTransition cX4_isTransition 2 (some .boolean) :: ([.fieldLink RX4 83 "ProtocolMachineModel" "transitions" "I", .methodLink RX4 79 yX4_isIn, .static yX4_isIn, .initialized RX4, .code yX4_isIn cX4_isIn 3 (some .boolean)] ++ wsX40)
def wsX4_isEvent : List Cond := .code yX4_isEvent cX4_isEvent 1 (some .boolean) :: ([.methodLink RX4 79 yX4_isIn, .static yX4_isIn, .initialized RX4, .code yX4_isIn cX4_isIn 3 (some .boolean)])
def wsX4_isNumber : List Cond := .code yX4_isNumber cX4_isNumber 1 (some .boolean) :: ([.methodLink RX4 79 yX4_isIn, .static yX4_isIn, .initialized RX4, .code yX4_isIn cX4_isIn 3 (some .boolean)])
def wsX4_addState : List Cond := .code yX4_addState cX4_addState 1 (some .int) :: ([.fieldLink RX4 76 "ProtocolMachineModel" "thrown" "I", .fieldLink RX4 7 "ProtocolMachineModel" "states" "I", .fieldLink RX4 90 "ProtocolMachineModel" "isCompiled" "Z", .methodLink RX4 86 yX4_fail, .instanceMethod yX4_fail, .selects RX4 yX4_fail yX4_fail, .initialized RX4, .code yX4_fail cX4_fail 2 (some .int)] ++ wsX40)
def wsX4_addTransition_r1 : List Cond := [Cond.fieldLink RX4 76 "ProtocolMachineModel" "thrown" "I", Cond.fieldLink RX4 83 "ProtocolMachineModel" "transitions" "I", Cond.fieldLink RX4 17 "ProtocolMachineModel" "froms" "[I", Cond.fieldLink RX4 20 "ProtocolMachineModel" "events" "[I", Cond.fieldLink RX4 23 "ProtocolMachineModel" "variables" "[I", Cond.fieldLink RX4 26 "ProtocolMachineModel" "relations" "[I", Cond.fieldLink RX4 29 "ProtocolMachineModel" "numbers" "[I", Cond.fieldLink RX4 32 "ProtocolMachineModel" "nexts" "[I", Cond.fieldLink RX4 35 "ProtocolMachineModel" "sizes" "[I", Cond.fieldLink RX4 41 "ProtocolMachineModel" "fired" "[I", Cond.fieldLink RX4 90 "ProtocolMachineModel" "isCompiled" "Z", Cond.methodLink RX4 94 yX4_isState, Cond.instanceMethod yX4_isState, Cond.selects RX4 yX4_isState yX4_isState, Cond.initialized RX4, Cond.code yX4_isState cX4_isState 2 (some .boolean), Cond.fieldLink RX4 7 "ProtocolMachineModel" "states" "I", Cond.methodLink RX4 79 yX4_isIn, Cond.static yX4_isIn, Cond.code yX4_isIn cX4_isIn 3 (some .boolean), Cond.methodLink RX4 98 yX4_isEvent, Cond.static yX4_isEvent, Cond.code yX4_isEvent cX4_isEvent 1 (some .boolean), Cond.methodLink RX4 86 yX4_fail]
def wsX4_addTransition_r2 : List Cond := [Cond.instanceMethod yX4_fail, Cond.selects RX4 yX4_fail yX4_fail, Cond.code yX4_fail cX4_fail 2 (some .int), Cond.methodLink RX4 101 yX4_isNumber, Cond.static yX4_isNumber, Cond.code yX4_isNumber cX4_isNumber 1 (some .boolean)]
def wsX4_addTransition : List Cond := .code yX4_addTransition cX4_addTransition 7 (some .int) :: ((wsX4_addTransition_r1 ++ wsX4_addTransition_r2) ++ wsX40)
def wsX4_addAction : List Cond := .code yX4_addAction cX4_addAction 7 (some .int) :: ([.fieldLink RX4 76 "ProtocolMachineModel" "thrown" "I", .fieldLink RX4 35 "ProtocolMachineModel" "sizes" "[I", .fieldLink RX4 38 "ProtocolMachineModel" "actions" "[I", .fieldLink RX4 90 "ProtocolMachineModel" "isCompiled" "Z", .methodLink RX4 104 yX4_isTransition, .instanceMethod yX4_isTransition, .selects RX4 yX4_isTransition yX4_isTransition, .initialized RX4, .code yX4_isTransition cX4_isTransition 2 (some .boolean), .fieldLink RX4 83 "ProtocolMachineModel" "transitions" "I", .methodLink RX4 79 yX4_isIn, .static yX4_isIn, .code yX4_isIn cX4_isIn 3 (some .boolean), .methodLink RX4 86 yX4_fail, .instanceMethod yX4_fail, .selects RX4 yX4_fail yX4_fail, .code yX4_fail cX4_fail 2 (some .int), .methodLink RX4 101 yX4_isNumber, .static yX4_isNumber, .code yX4_isNumber cX4_isNumber 1 (some .boolean)] ++ wsX40)
def wsX4_drop : List Cond := .code yX4_drop cX4_drop 1 (some .int) :: ([.fieldLink RX4 76 "ProtocolMachineModel" "thrown" "I", .fieldLink RX4 83 "ProtocolMachineModel" "transitions" "I", .fieldLink RX4 90 "ProtocolMachineModel" "isCompiled" "Z", .methodLink RX4 86 yX4_fail, .instanceMethod yX4_fail, .selects RX4 yX4_fail yX4_fail, .initialized RX4, .code yX4_fail cX4_fail 2 (some .int)] ++ wsX40)
def wsX4_setTimerEvent : List Cond := .code yX4_setTimerEvent cX4_setTimerEvent 4 (some .int) :: ([.fieldLink RX4 76 "ProtocolMachineModel" "thrown" "I", .fieldLink RX4 13 "ProtocolMachineModel" "timerEvents" "[I", .fieldLink RX4 90 "ProtocolMachineModel" "isCompiled" "Z", .methodLink RX4 79 yX4_isIn, .static yX4_isIn, .initialized RX4, .code yX4_isIn cX4_isIn 3 (some .boolean), .methodLink RX4 98 yX4_isEvent, .static yX4_isEvent, .code yX4_isEvent cX4_isEvent 1 (some .boolean), .methodLink RX4 86 yX4_fail, .instanceMethod yX4_fail, .selects RX4 yX4_fail yX4_fail, .code yX4_fail cX4_fail 2 (some .int)] ++ wsX40)
def wsX4_stateCount : List Cond := .code yX4_stateCount cX4_stateCount 1 (some .int) :: ([.fieldLink RX4 76 "ProtocolMachineModel" "thrown" "I", .fieldLink RX4 7 "ProtocolMachineModel" "states" "I"] ++ wsX40)
def wsX4_transitionCount : List Cond := .code yX4_transitionCount cX4_transitionCount 1 (some .int) :: ([.fieldLink RX4 76 "ProtocolMachineModel" "thrown" "I", .fieldLink RX4 83 "ProtocolMachineModel" "transitions" "I"] ++ wsX40)
def wsX4_isTrue : List Cond := .code yX4_isTrue cX4_isTrue 3 (some .boolean) :: ([.fieldLink RX4 23 "ProtocolMachineModel" "variables" "[I", .fieldLink RX4 26 "ProtocolMachineModel" "relations" "[I", .fieldLink RX4 29 "ProtocolMachineModel" "numbers" "[I"] ++ wsX40)
def wsX4_hides : List Cond := .code yX4_hides cX4_hides 5 (some .boolean) :: ([.fieldLink RX4 17 "ProtocolMachineModel" "froms" "[I", .fieldLink RX4 20 "ProtocolMachineModel" "events" "[I", .fieldLink RX4 23 "ProtocolMachineModel" "variables" "[I", .methodLink RX4 107 yX4_isTrue, .instanceMethod yX4_isTrue, .selects RX4 yX4_isTrue yX4_isTrue, .initialized RX4, .code yX4_isTrue cX4_isTrue 3 (some .boolean), .fieldLink RX4 26 "ProtocolMachineModel" "relations" "[I", .fieldLink RX4 29 "ProtocolMachineModel" "numbers" "[I"] ++ wsX40)
def wsX4_isHidden : List Cond := .code yX4_isHidden cX4_isHidden 4 (some .boolean) :: ([.fieldLink RX4 76 "ProtocolMachineModel" "thrown" "I", .methodLink RX4 104 yX4_isTransition, .instanceMethod yX4_isTransition, .selects RX4 yX4_isTransition yX4_isTransition, .initialized RX4, .code yX4_isTransition cX4_isTransition 2 (some .boolean), .fieldLink RX4 83 "ProtocolMachineModel" "transitions" "I", .methodLink RX4 79 yX4_isIn, .static yX4_isIn, .code yX4_isIn cX4_isIn 3 (some .boolean), .methodLink RX4 111 yX4_hides, .instanceMethod yX4_hides, .selects RX4 yX4_hides yX4_hides, .code yX4_hides cX4_hides 5 (some .boolean), .fieldLink RX4 17 "ProtocolMachineModel" "froms" "[I", .fieldLink RX4 20 "ProtocolMachineModel" "events" "[I", .fieldLink RX4 23 "ProtocolMachineModel" "variables" "[I", .methodLink RX4 107 yX4_isTrue, .instanceMethod yX4_isTrue, .selects RX4 yX4_isTrue yX4_isTrue, .code yX4_isTrue cX4_isTrue 3 (some .boolean), .fieldLink RX4 26 "ProtocolMachineModel" "relations" "[I", .fieldLink RX4 29 "ProtocolMachineModel" "numbers" "[I"] ++ wsX40)
def wsX4_restart : List Cond := .code yX4_restart cX4_restart 4 (some .long) :: ([.fieldLink RX4 76 "ProtocolMachineModel" "thrown" "I", .fieldLink RX4 114 "ProtocolMachineModel" "time" "J", .fieldLink RX4 118 "ProtocolMachineModel" "state" "I", .fieldLink RX4 44 "ProtocolMachineModel" "values" "[I", .fieldLink RX4 47 "ProtocolMachineModel" "runs" "[Z", .fieldLink RX4 41 "ProtocolMachineModel" "fired" "[I", .fieldLink RX4 121 "ProtocolMachineModel" "emitted" "I", .fieldLink RX4 124 "ProtocolMachineModel" "ignored" "I"] ++ wsX40)
def wsX4_act : List Cond := .code yX4_act cX4_act 4 none :: ([.fieldLink RX4 44 "ProtocolMachineModel" "values" "[I", .methodLink RX4 127 Lib.Math.min.name, .static Lib.Math.min.name, .initialized "java/lang/Math", .code Lib.Math.min.name Lib.Math.min.code 2 (some .int), .methodLink RX4 133 Lib.Math.max.name, .static Lib.Math.max.name, .code Lib.Math.max.name Lib.Math.max.code 2 (some .int), .fieldLink RX4 47 "ProtocolMachineModel" "runs" "[Z", .fieldLink RX4 51 "ProtocolMachineModel" "dues" "[J", .fieldLink RX4 114 "ProtocolMachineModel" "time" "J", .fieldLink RX4 121 "ProtocolMachineModel" "emitted" "I", .fieldLink RX4 55 "ProtocolMachineModel" "output" "[I"] ++ wsX40)
def wsX4_fire_r1 : List Cond := [Cond.fieldLink RX4 83 "ProtocolMachineModel" "transitions" "I", Cond.fieldLink RX4 17 "ProtocolMachineModel" "froms" "[I", Cond.fieldLink RX4 118 "ProtocolMachineModel" "state" "I", Cond.fieldLink RX4 20 "ProtocolMachineModel" "events" "[I", Cond.fieldLink RX4 23 "ProtocolMachineModel" "variables" "[I", Cond.fieldLink RX4 44 "ProtocolMachineModel" "values" "[I", Cond.fieldLink RX4 35 "ProtocolMachineModel" "sizes" "[I", Cond.fieldLink RX4 38 "ProtocolMachineModel" "actions" "[I", Cond.fieldLink RX4 32 "ProtocolMachineModel" "nexts" "[I", Cond.fieldLink RX4 41 "ProtocolMachineModel" "fired" "[I", Cond.fieldLink RX4 124 "ProtocolMachineModel" "ignored" "I", Cond.methodLink RX4 107 yX4_isTrue, Cond.instanceMethod yX4_isTrue, Cond.selects RX4 yX4_isTrue yX4_isTrue, Cond.initialized RX4, Cond.code yX4_isTrue cX4_isTrue 3 (some .boolean), Cond.fieldLink RX4 26 "ProtocolMachineModel" "relations" "[I", Cond.fieldLink RX4 29 "ProtocolMachineModel" "numbers" "[I", Cond.methodLink RX4 136 yX4_act, Cond.instanceMethod yX4_act, Cond.selects RX4 yX4_act yX4_act, Cond.code yX4_act cX4_act 4 none, Cond.methodLink RX4 127 Lib.Math.min.name, Cond.static Lib.Math.min.name]
def wsX4_fire_r2 : List Cond := [Cond.initialized "java/lang/Math", Cond.code Lib.Math.min.name Lib.Math.min.code 2 (some .int), Cond.methodLink RX4 133 Lib.Math.max.name, Cond.static Lib.Math.max.name, Cond.code Lib.Math.max.name Lib.Math.max.code 2 (some .int), Cond.fieldLink RX4 47 "ProtocolMachineModel" "runs" "[Z", Cond.fieldLink RX4 51 "ProtocolMachineModel" "dues" "[J", Cond.fieldLink RX4 114 "ProtocolMachineModel" "time" "J", Cond.fieldLink RX4 121 "ProtocolMachineModel" "emitted" "I", Cond.fieldLink RX4 55 "ProtocolMachineModel" "output" "[I"]
def wsX4_fire : List Cond := .code yX4_fire cX4_fire 5 (some .int) :: ((wsX4_fire_r1 ++ wsX4_fire_r2) ++ wsX40)
def wsX4_happen_r1 : List Cond := [Cond.fieldLink RX4 76 "ProtocolMachineModel" "thrown" "I", Cond.methodLink RX4 98 yX4_isEvent, Cond.static yX4_isEvent, Cond.initialized RX4, Cond.code yX4_isEvent cX4_isEvent 1 (some .boolean), Cond.methodLink RX4 79 yX4_isIn, Cond.static yX4_isIn, Cond.code yX4_isIn cX4_isIn 3 (some .boolean), Cond.methodLink RX4 140 yX4_fire, Cond.instanceMethod yX4_fire, Cond.selects RX4 yX4_fire yX4_fire, Cond.code yX4_fire cX4_fire 5 (some .int), Cond.fieldLink RX4 83 "ProtocolMachineModel" "transitions" "I", Cond.fieldLink RX4 17 "ProtocolMachineModel" "froms" "[I", Cond.fieldLink RX4 118 "ProtocolMachineModel" "state" "I", Cond.fieldLink RX4 20 "ProtocolMachineModel" "events" "[I", Cond.fieldLink RX4 23 "ProtocolMachineModel" "variables" "[I", Cond.fieldLink RX4 44 "ProtocolMachineModel" "values" "[I", Cond.fieldLink RX4 35 "ProtocolMachineModel" "sizes" "[I", Cond.fieldLink RX4 38 "ProtocolMachineModel" "actions" "[I", Cond.fieldLink RX4 32 "ProtocolMachineModel" "nexts" "[I", Cond.fieldLink RX4 41 "ProtocolMachineModel" "fired" "[I", Cond.fieldLink RX4 124 "ProtocolMachineModel" "ignored" "I", Cond.methodLink RX4 107 yX4_isTrue]
def wsX4_happen_r2 : List Cond := [Cond.instanceMethod yX4_isTrue, Cond.selects RX4 yX4_isTrue yX4_isTrue, Cond.code yX4_isTrue cX4_isTrue 3 (some .boolean), Cond.fieldLink RX4 26 "ProtocolMachineModel" "relations" "[I", Cond.fieldLink RX4 29 "ProtocolMachineModel" "numbers" "[I", Cond.methodLink RX4 136 yX4_act, Cond.instanceMethod yX4_act, Cond.selects RX4 yX4_act yX4_act, Cond.code yX4_act cX4_act 4 none, Cond.methodLink RX4 127 Lib.Math.min.name, Cond.static Lib.Math.min.name, Cond.initialized "java/lang/Math", Cond.code Lib.Math.min.name Lib.Math.min.code 2 (some .int), Cond.methodLink RX4 133 Lib.Math.max.name, Cond.static Lib.Math.max.name, Cond.code Lib.Math.max.name Lib.Math.max.code 2 (some .int), Cond.fieldLink RX4 47 "ProtocolMachineModel" "runs" "[Z", Cond.fieldLink RX4 51 "ProtocolMachineModel" "dues" "[J", Cond.fieldLink RX4 114 "ProtocolMachineModel" "time" "J", Cond.fieldLink RX4 121 "ProtocolMachineModel" "emitted" "I", Cond.fieldLink RX4 55 "ProtocolMachineModel" "output" "[I", Cond.methodLink RX4 86 yX4_fail, Cond.instanceMethod yX4_fail, Cond.selects RX4 yX4_fail yX4_fail]
def wsX4_happen_r3 : List Cond := [Cond.code yX4_fail cX4_fail 2 (some .int)]
def wsX4_happen : List Cond := .code yX4_happen cX4_happen 2 (some .int) :: ((wsX4_happen_r1 ++ (wsX4_happen_r2 ++ wsX4_happen_r3)) ++ wsX40)
def wsX4_nextTimer : List Cond := .code yX4_nextTimer cX4_nextTimer 5 (some .int) :: ([.fieldLink RX4 47 "ProtocolMachineModel" "runs" "[Z", .fieldLink RX4 51 "ProtocolMachineModel" "dues" "[J"] ++ wsX40)
def wsX4_advance_r1 : List Cond := [Cond.fieldLink RX4 76 "ProtocolMachineModel" "thrown" "I", Cond.fieldLink RX4 114 "ProtocolMachineModel" "time" "J", Cond.fieldLink RX4 51 "ProtocolMachineModel" "dues" "[J", Cond.fieldLink RX4 47 "ProtocolMachineModel" "runs" "[Z", Cond.fieldLink RX4 13 "ProtocolMachineModel" "timerEvents" "[I", Cond.methodLink RX4 79 yX4_isIn, Cond.static yX4_isIn, Cond.initialized RX4, Cond.code yX4_isIn cX4_isIn 3 (some .boolean), Cond.methodLink RX4 86 yX4_fail, Cond.instanceMethod yX4_fail, Cond.selects RX4 yX4_fail yX4_fail, Cond.code yX4_fail cX4_fail 2 (some .int), Cond.methodLink RX4 143 yX4_nextTimer, Cond.instanceMethod yX4_nextTimer, Cond.selects RX4 yX4_nextTimer yX4_nextTimer, Cond.code yX4_nextTimer cX4_nextTimer 5 (some .int), Cond.methodLink RX4 140 yX4_fire, Cond.instanceMethod yX4_fire, Cond.selects RX4 yX4_fire yX4_fire, Cond.code yX4_fire cX4_fire 5 (some .int), Cond.fieldLink RX4 83 "ProtocolMachineModel" "transitions" "I", Cond.fieldLink RX4 17 "ProtocolMachineModel" "froms" "[I", Cond.fieldLink RX4 118 "ProtocolMachineModel" "state" "I"]
def wsX4_advance_r2 : List Cond := [Cond.fieldLink RX4 20 "ProtocolMachineModel" "events" "[I", Cond.fieldLink RX4 23 "ProtocolMachineModel" "variables" "[I", Cond.fieldLink RX4 44 "ProtocolMachineModel" "values" "[I", Cond.fieldLink RX4 35 "ProtocolMachineModel" "sizes" "[I", Cond.fieldLink RX4 38 "ProtocolMachineModel" "actions" "[I", Cond.fieldLink RX4 32 "ProtocolMachineModel" "nexts" "[I", Cond.fieldLink RX4 41 "ProtocolMachineModel" "fired" "[I", Cond.fieldLink RX4 124 "ProtocolMachineModel" "ignored" "I", Cond.methodLink RX4 107 yX4_isTrue, Cond.instanceMethod yX4_isTrue, Cond.selects RX4 yX4_isTrue yX4_isTrue, Cond.code yX4_isTrue cX4_isTrue 3 (some .boolean), Cond.fieldLink RX4 26 "ProtocolMachineModel" "relations" "[I", Cond.fieldLink RX4 29 "ProtocolMachineModel" "numbers" "[I", Cond.methodLink RX4 136 yX4_act, Cond.instanceMethod yX4_act, Cond.selects RX4 yX4_act yX4_act, Cond.code yX4_act cX4_act 4 none, Cond.methodLink RX4 127 Lib.Math.min.name, Cond.static Lib.Math.min.name, Cond.initialized "java/lang/Math", Cond.code Lib.Math.min.name Lib.Math.min.code 2 (some .int), Cond.methodLink RX4 133 Lib.Math.max.name, Cond.static Lib.Math.max.name]
def wsX4_advance_r3 : List Cond := [Cond.code Lib.Math.max.name Lib.Math.max.code 2 (some .int), Cond.fieldLink RX4 121 "ProtocolMachineModel" "emitted" "I", Cond.fieldLink RX4 55 "ProtocolMachineModel" "output" "[I"]
def wsX4_advance : List Cond := .code yX4_advance cX4_advance 6 (some .int) :: ((wsX4_advance_r1 ++ (wsX4_advance_r2 ++ wsX4_advance_r3)) ++ wsX40)
def wsX4_state : List Cond := .code yX4_state cX4_state 1 (some .int) :: ([.fieldLink RX4 76 "ProtocolMachineModel" "thrown" "I", .fieldLink RX4 118 "ProtocolMachineModel" "state" "I"] ++ wsX40)
def wsX4_time : List Cond := .code yX4_time cX4_time 1 (some .long) :: ([.fieldLink RX4 76 "ProtocolMachineModel" "thrown" "I", .fieldLink RX4 114 "ProtocolMachineModel" "time" "J"] ++ wsX40)
def wsX4_value : List Cond := .code yX4_value cX4_value 2 (some .int) :: ([.fieldLink RX4 76 "ProtocolMachineModel" "thrown" "I", .fieldLink RX4 44 "ProtocolMachineModel" "values" "[I", .methodLink RX4 79 yX4_isIn, .static yX4_isIn, .initialized RX4, .code yX4_isIn cX4_isIn 3 (some .boolean), .methodLink RX4 86 yX4_fail, .instanceMethod yX4_fail, .selects RX4 yX4_fail yX4_fail, .code yX4_fail cX4_fail 2 (some .int)] ++ wsX40)
def wsX4_leftOf : List Cond := .code yX4_leftOf cX4_leftOf 2 (some .int) :: ([.fieldLink RX4 47 "ProtocolMachineModel" "runs" "[Z", .fieldLink RX4 51 "ProtocolMachineModel" "dues" "[J", .fieldLink RX4 114 "ProtocolMachineModel" "time" "J"] ++ wsX40)
def wsX4_left : List Cond := .code yX4_left cX4_left 2 (some .int) :: ([.fieldLink RX4 76 "ProtocolMachineModel" "thrown" "I", .methodLink RX4 79 yX4_isIn, .static yX4_isIn, .initialized RX4, .code yX4_isIn cX4_isIn 3 (some .boolean), .methodLink RX4 147 yX4_leftOf, .instanceMethod yX4_leftOf, .selects RX4 yX4_leftOf yX4_leftOf, .code yX4_leftOf cX4_leftOf 2 (some .int), .fieldLink RX4 47 "ProtocolMachineModel" "runs" "[Z", .fieldLink RX4 51 "ProtocolMachineModel" "dues" "[J", .fieldLink RX4 114 "ProtocolMachineModel" "time" "J", .methodLink RX4 86 yX4_fail, .instanceMethod yX4_fail, .selects RX4 yX4_fail yX4_fail, .code yX4_fail cX4_fail 2 (some .int)] ++ wsX40)
def wsX4_emitted : List Cond := .code yX4_emitted cX4_emitted 1 (some .int) :: ([.fieldLink RX4 76 "ProtocolMachineModel" "thrown" "I", .fieldLink RX4 121 "ProtocolMachineModel" "emitted" "I"] ++ wsX40)
def wsX4_output : List Cond := .code yX4_output cX4_output 2 (some .int) :: ([.fieldLink RX4 76 "ProtocolMachineModel" "thrown" "I", .fieldLink RX4 121 "ProtocolMachineModel" "emitted" "I", .methodLink RX4 127 Lib.Math.min.name, .static Lib.Math.min.name, .initialized "java/lang/Math", .code Lib.Math.min.name Lib.Math.min.code 2 (some .int), .fieldLink RX4 55 "ProtocolMachineModel" "output" "[I", .methodLink RX4 79 yX4_isIn, .static yX4_isIn, .initialized RX4, .code yX4_isIn cX4_isIn 3 (some .boolean), .methodLink RX4 86 yX4_fail, .instanceMethod yX4_fail, .selects RX4 yX4_fail yX4_fail, .code yX4_fail cX4_fail 2 (some .int)] ++ wsX40)
def wsX4_fired : List Cond := .code yX4_fired cX4_fired 2 (some .int) :: ([.fieldLink RX4 76 "ProtocolMachineModel" "thrown" "I", .fieldLink RX4 41 "ProtocolMachineModel" "fired" "[I", .methodLink RX4 104 yX4_isTransition, .instanceMethod yX4_isTransition, .selects RX4 yX4_isTransition yX4_isTransition, .initialized RX4, .code yX4_isTransition cX4_isTransition 2 (some .boolean), .fieldLink RX4 83 "ProtocolMachineModel" "transitions" "I", .methodLink RX4 79 yX4_isIn, .static yX4_isIn, .code yX4_isIn cX4_isIn 3 (some .boolean), .methodLink RX4 86 yX4_fail, .instanceMethod yX4_fail, .selects RX4 yX4_fail yX4_fail, .code yX4_fail cX4_fail 2 (some .int)] ++ wsX40)
def wsX4_ignored : List Cond := .code yX4_ignored cX4_ignored 1 (some .int) :: ([.fieldLink RX4 76 "ProtocolMachineModel" "thrown" "I", .fieldLink RX4 124 "ProtocolMachineModel" "ignored" "I"] ++ wsX40)
def wsX4_reach : List Cond := .code yX4_reach cX4_reach 3 none :: ([.fieldLink RX4 70 "ProtocolMachineModel" "isReached" "[Z", .fieldLink RX4 83 "ProtocolMachineModel" "transitions" "I", .fieldLink RX4 17 "ProtocolMachineModel" "froms" "[I", .fieldLink RX4 32 "ProtocolMachineModel" "nexts" "[I"] ++ wsX40)
def wsX4_transition : List Cond := .code yX4_transition cX4_transition 6 (some .int) :: ([.fieldLink RX4 83 "ProtocolMachineModel" "transitions" "I", .fieldLink RX4 17 "ProtocolMachineModel" "froms" "[I", .fieldLink RX4 20 "ProtocolMachineModel" "events" "[I"] ++ wsX40)
def wsX4_areAlike : List Cond := .code yX4_areAlike cX4_areAlike 5 (some .boolean) :: ([.fieldLink RX4 23 "ProtocolMachineModel" "variables" "[I", .fieldLink RX4 26 "ProtocolMachineModel" "relations" "[I", .fieldLink RX4 29 "ProtocolMachineModel" "numbers" "[I", .fieldLink RX4 35 "ProtocolMachineModel" "sizes" "[I", .fieldLink RX4 73 "ProtocolMachineModel" "areApart" "[Z", .fieldLink RX4 32 "ProtocolMachineModel" "nexts" "[I", .fieldLink RX4 38 "ProtocolMachineModel" "actions" "[I"] ++ wsX40)
def wsX4_areDifferent : List Cond := .code yX4_areDifferent cX4_areDifferent 7 (some .boolean) :: ([.methodLink RX4 150 yX4_transition, .instanceMethod yX4_transition, .selects RX4 yX4_transition yX4_transition, .initialized RX4, .code yX4_transition cX4_transition 6 (some .int), .fieldLink RX4 83 "ProtocolMachineModel" "transitions" "I", .fieldLink RX4 17 "ProtocolMachineModel" "froms" "[I", .fieldLink RX4 20 "ProtocolMachineModel" "events" "[I", .methodLink RX4 154 yX4_areAlike, .instanceMethod yX4_areAlike, .selects RX4 yX4_areAlike yX4_areAlike, .code yX4_areAlike cX4_areAlike 5 (some .boolean), .fieldLink RX4 23 "ProtocolMachineModel" "variables" "[I", .fieldLink RX4 26 "ProtocolMachineModel" "relations" "[I", .fieldLink RX4 29 "ProtocolMachineModel" "numbers" "[I", .fieldLink RX4 35 "ProtocolMachineModel" "sizes" "[I", .fieldLink RX4 73 "ProtocolMachineModel" "areApart" "[Z", .fieldLink RX4 32 "ProtocolMachineModel" "nexts" "[I", .fieldLink RX4 38 "ProtocolMachineModel" "actions" "[I"] ++ wsX40)
def wsX4_takeApart_r1 : List Cond := [Cond.fieldLink RX4 73 "ProtocolMachineModel" "areApart" "[Z", Cond.fieldLink RX4 7 "ProtocolMachineModel" "states" "I", Cond.fieldLink RX4 70 "ProtocolMachineModel" "isReached" "[Z", Cond.methodLink RX4 157 yX4_areDifferent, Cond.instanceMethod yX4_areDifferent, Cond.selects RX4 yX4_areDifferent yX4_areDifferent, Cond.initialized RX4, Cond.code yX4_areDifferent cX4_areDifferent 7 (some .boolean), Cond.methodLink RX4 150 yX4_transition, Cond.instanceMethod yX4_transition, Cond.selects RX4 yX4_transition yX4_transition, Cond.code yX4_transition cX4_transition 6 (some .int), Cond.fieldLink RX4 83 "ProtocolMachineModel" "transitions" "I", Cond.fieldLink RX4 17 "ProtocolMachineModel" "froms" "[I", Cond.fieldLink RX4 20 "ProtocolMachineModel" "events" "[I", Cond.methodLink RX4 154 yX4_areAlike, Cond.instanceMethod yX4_areAlike, Cond.selects RX4 yX4_areAlike yX4_areAlike, Cond.code yX4_areAlike cX4_areAlike 5 (some .boolean), Cond.fieldLink RX4 23 "ProtocolMachineModel" "variables" "[I", Cond.fieldLink RX4 26 "ProtocolMachineModel" "relations" "[I", Cond.fieldLink RX4 29 "ProtocolMachineModel" "numbers" "[I", Cond.fieldLink RX4 35 "ProtocolMachineModel" "sizes" "[I", Cond.fieldLink RX4 32 "ProtocolMachineModel" "nexts" "[I"]
def wsX4_takeApart_r2 : List Cond := [Cond.fieldLink RX4 38 "ProtocolMachineModel" "actions" "[I"]
def wsX4_takeApart : List Cond := .code yX4_takeApart cX4_takeApart 4 none :: ((wsX4_takeApart_r1 ++ wsX4_takeApart_r2) ++ wsX40)
def wsX4_usedEvents : List Cond := .code yX4_usedEvents cX4_usedEvents 4 (some .int) :: ([.fieldLink RX4 83 "ProtocolMachineModel" "transitions" "I", .fieldLink RX4 17 "ProtocolMachineModel" "froms" "[I", .fieldLink RX4 20 "ProtocolMachineModel" "events" "[I"] ++ wsX40)
def wsX4_fits : List Cond := .code yX4_fits cX4_fits 5 (some .boolean) :: ([.fieldLink RX4 67 "ProtocolMachineModel" "owners" "[I"] ++ wsX40)
def wsX4_lay : List Cond := .code yX4_lay cX4_lay 5 none :: ([.fieldLink RX4 61 "ProtocolMachineModel" "offsets" "[I", .fieldLink RX4 67 "ProtocolMachineModel" "owners" "[I", .fieldLink RX4 163 "ProtocolMachineModel" "tableSize" "I", .methodLink RX4 133 Lib.Math.max.name, .static Lib.Math.max.name, .initialized "java/lang/Math", .code Lib.Math.max.name Lib.Math.max.code 2 (some .int), .methodLink RX4 160 yX4_fits, .instanceMethod yX4_fits, .selects RX4 yX4_fits yX4_fits, .initialized RX4, .code yX4_fits cX4_fits 5 (some .boolean)] ++ wsX40)
def wsX4_make_r1 : List Cond := [Cond.fieldLink RX4 172 "ProtocolMachineModel" "classes" "I", Cond.arrayClass .int, Cond.fieldLink RX4 7 "ProtocolMachineModel" "states" "I", Cond.fieldLink RX4 58 "ProtocolMachineModel" "numbersOf" "[I", Cond.fieldLink RX4 70 "ProtocolMachineModel" "isReached" "[Z", Cond.fieldLink RX4 73 "ProtocolMachineModel" "areApart" "[Z", Cond.fieldLink RX4 64 "ProtocolMachineModel" "useds" "[I", Cond.fieldLink RX4 163 "ProtocolMachineModel" "tableSize" "I", Cond.fieldLink RX4 67 "ProtocolMachineModel" "owners" "[I", Cond.fieldLink RX4 90 "ProtocolMachineModel" "isCompiled" "Z", Cond.methodLink RX4 166 yX4_reach, Cond.instanceMethod yX4_reach, Cond.selects RX4 yX4_reach yX4_reach, Cond.initialized RX4, Cond.code yX4_reach cX4_reach 3 none, Cond.fieldLink RX4 83 "ProtocolMachineModel" "transitions" "I", Cond.fieldLink RX4 17 "ProtocolMachineModel" "froms" "[I", Cond.fieldLink RX4 32 "ProtocolMachineModel" "nexts" "[I", Cond.methodLink RX4 169 yX4_takeApart, Cond.instanceMethod yX4_takeApart, Cond.selects RX4 yX4_takeApart yX4_takeApart, Cond.code yX4_takeApart cX4_takeApart 4 none, Cond.methodLink RX4 157 yX4_areDifferent, Cond.instanceMethod yX4_areDifferent]
def wsX4_make_r2 : List Cond := [Cond.selects RX4 yX4_areDifferent yX4_areDifferent, Cond.code yX4_areDifferent cX4_areDifferent 7 (some .boolean), Cond.methodLink RX4 150 yX4_transition, Cond.instanceMethod yX4_transition, Cond.selects RX4 yX4_transition yX4_transition, Cond.code yX4_transition cX4_transition 6 (some .int), Cond.fieldLink RX4 20 "ProtocolMachineModel" "events" "[I", Cond.methodLink RX4 154 yX4_areAlike, Cond.instanceMethod yX4_areAlike, Cond.selects RX4 yX4_areAlike yX4_areAlike, Cond.code yX4_areAlike cX4_areAlike 5 (some .boolean), Cond.fieldLink RX4 23 "ProtocolMachineModel" "variables" "[I", Cond.fieldLink RX4 26 "ProtocolMachineModel" "relations" "[I", Cond.fieldLink RX4 29 "ProtocolMachineModel" "numbers" "[I", Cond.fieldLink RX4 35 "ProtocolMachineModel" "sizes" "[I", Cond.fieldLink RX4 38 "ProtocolMachineModel" "actions" "[I", Cond.methodLink RX4 175 yX4_usedEvents, Cond.instanceMethod yX4_usedEvents, Cond.selects RX4 yX4_usedEvents yX4_usedEvents, Cond.code yX4_usedEvents cX4_usedEvents 4 (some .int), Cond.methodLink RX4 178 yJ6_bitCount_0f7a4, Cond.static yJ6_bitCount_0f7a4, Cond.initialized RJ6, Cond.code yJ6_bitCount_0f7a4 cJ6_bitCount_0f7a4 1 (some .int)]
def wsX4_make_r3 : List Cond := [Cond.constant RJ6 265 (1431655765), Cond.constant RJ6 266 (858993459), Cond.constant RJ6 267 (252645135), Cond.methodLink RX4 183 yX4_lay, Cond.instanceMethod yX4_lay, Cond.selects RX4 yX4_lay yX4_lay, Cond.code yX4_lay cX4_lay 5 none, Cond.fieldLink RX4 61 "ProtocolMachineModel" "offsets" "[I", Cond.methodLink RX4 133 Lib.Math.max.name, Cond.static Lib.Math.max.name, Cond.initialized "java/lang/Math", Cond.code Lib.Math.max.name Lib.Math.max.code 2 (some .int), Cond.methodLink RX4 160 yX4_fits, Cond.instanceMethod yX4_fits, Cond.selects RX4 yX4_fits yX4_fits, Cond.code yX4_fits cX4_fits 5 (some .boolean)]
def wsX4_make : List Cond := .code yX4_make cX4_make 4 none :: ((wsX4_make_r1 ++ (wsX4_make_r2 ++ wsX4_make_r3)) ++ wsX40)
def wsX4_compile_r1 : List Cond := [Cond.fieldLink RX4 76 "ProtocolMachineModel" "thrown" "I", Cond.fieldLink RX4 90 "ProtocolMachineModel" "isCompiled" "Z", Cond.fieldLink RX4 172 "ProtocolMachineModel" "classes" "I", Cond.methodLink RX4 187 yX4_make, Cond.instanceMethod yX4_make, Cond.selects RX4 yX4_make yX4_make, Cond.initialized RX4, Cond.code yX4_make cX4_make 4 none, Cond.arrayClass .int, Cond.fieldLink RX4 7 "ProtocolMachineModel" "states" "I", Cond.fieldLink RX4 58 "ProtocolMachineModel" "numbersOf" "[I", Cond.fieldLink RX4 70 "ProtocolMachineModel" "isReached" "[Z", Cond.fieldLink RX4 73 "ProtocolMachineModel" "areApart" "[Z", Cond.fieldLink RX4 64 "ProtocolMachineModel" "useds" "[I", Cond.fieldLink RX4 163 "ProtocolMachineModel" "tableSize" "I", Cond.fieldLink RX4 67 "ProtocolMachineModel" "owners" "[I", Cond.methodLink RX4 166 yX4_reach, Cond.instanceMethod yX4_reach, Cond.selects RX4 yX4_reach yX4_reach, Cond.code yX4_reach cX4_reach 3 none, Cond.fieldLink RX4 83 "ProtocolMachineModel" "transitions" "I", Cond.fieldLink RX4 17 "ProtocolMachineModel" "froms" "[I", Cond.fieldLink RX4 32 "ProtocolMachineModel" "nexts" "[I", Cond.methodLink RX4 169 yX4_takeApart]
def wsX4_compile_r2 : List Cond := [Cond.instanceMethod yX4_takeApart, Cond.selects RX4 yX4_takeApart yX4_takeApart, Cond.code yX4_takeApart cX4_takeApart 4 none, Cond.methodLink RX4 157 yX4_areDifferent, Cond.instanceMethod yX4_areDifferent, Cond.selects RX4 yX4_areDifferent yX4_areDifferent, Cond.code yX4_areDifferent cX4_areDifferent 7 (some .boolean), Cond.methodLink RX4 150 yX4_transition, Cond.instanceMethod yX4_transition, Cond.selects RX4 yX4_transition yX4_transition, Cond.code yX4_transition cX4_transition 6 (some .int), Cond.fieldLink RX4 20 "ProtocolMachineModel" "events" "[I", Cond.methodLink RX4 154 yX4_areAlike, Cond.instanceMethod yX4_areAlike, Cond.selects RX4 yX4_areAlike yX4_areAlike, Cond.code yX4_areAlike cX4_areAlike 5 (some .boolean), Cond.fieldLink RX4 23 "ProtocolMachineModel" "variables" "[I", Cond.fieldLink RX4 26 "ProtocolMachineModel" "relations" "[I", Cond.fieldLink RX4 29 "ProtocolMachineModel" "numbers" "[I", Cond.fieldLink RX4 35 "ProtocolMachineModel" "sizes" "[I", Cond.fieldLink RX4 38 "ProtocolMachineModel" "actions" "[I", Cond.methodLink RX4 175 yX4_usedEvents, Cond.instanceMethod yX4_usedEvents, Cond.selects RX4 yX4_usedEvents yX4_usedEvents]
def wsX4_compile_r3 : List Cond := [Cond.code yX4_usedEvents cX4_usedEvents 4 (some .int), Cond.methodLink RX4 178 yJ6_bitCount_0f7a4, Cond.static yJ6_bitCount_0f7a4, Cond.initialized RJ6, Cond.code yJ6_bitCount_0f7a4 cJ6_bitCount_0f7a4 1 (some .int), Cond.constant RJ6 265 (1431655765), Cond.constant RJ6 266 (858993459), Cond.constant RJ6 267 (252645135), Cond.methodLink RX4 183 yX4_lay, Cond.instanceMethod yX4_lay, Cond.selects RX4 yX4_lay yX4_lay, Cond.code yX4_lay cX4_lay 5 none, Cond.fieldLink RX4 61 "ProtocolMachineModel" "offsets" "[I", Cond.methodLink RX4 133 Lib.Math.max.name, Cond.static Lib.Math.max.name, Cond.initialized "java/lang/Math", Cond.code Lib.Math.max.name Lib.Math.max.code 2 (some .int), Cond.methodLink RX4 160 yX4_fits, Cond.instanceMethod yX4_fits, Cond.selects RX4 yX4_fits yX4_fits, Cond.code yX4_fits cX4_fits 5 (some .boolean)]
def wsX4_compile : List Cond := .code yX4_compile cX4_compile 1 (some .int) :: ((wsX4_compile_r1 ++ (wsX4_compile_r2 ++ wsX4_compile_r3)) ++ wsX40)
def wsX4_isCompiled : List Cond := .code yX4_isCompiled cX4_isCompiled 1 (some .boolean) :: ([.fieldLink RX4 76 "ProtocolMachineModel" "thrown" "I", .fieldLink RX4 90 "ProtocolMachineModel" "isCompiled" "Z"] ++ wsX40)
def wsX4_asks : List Cond := .code yX4_asks cX4_asks 3 (some .boolean) :: ([.fieldLink RX4 90 "ProtocolMachineModel" "isCompiled" "Z", .fieldLink RX4 76 "ProtocolMachineModel" "thrown" "I"] ++ wsX40)
def wsX4_classOf : List Cond := .code yX4_classOf cX4_classOf 2 (some .int) :: ([.fieldLink RX4 7 "ProtocolMachineModel" "states" "I", .fieldLink RX4 58 "ProtocolMachineModel" "numbersOf" "[I", .methodLink RX4 190 yX4_asks, .instanceMethod yX4_asks, .selects RX4 yX4_asks yX4_asks, .initialized RX4, .code yX4_asks cX4_asks 3 (some .boolean), .fieldLink RX4 90 "ProtocolMachineModel" "isCompiled" "Z", .fieldLink RX4 76 "ProtocolMachineModel" "thrown" "I"] ++ wsX40)
def wsX4_offset : List Cond := .code yX4_offset cX4_offset 2 (some .int) :: ([.fieldLink RX4 172 "ProtocolMachineModel" "classes" "I", .fieldLink RX4 61 "ProtocolMachineModel" "offsets" "[I", .methodLink RX4 190 yX4_asks, .instanceMethod yX4_asks, .selects RX4 yX4_asks yX4_asks, .initialized RX4, .code yX4_asks cX4_asks 3 (some .boolean), .fieldLink RX4 90 "ProtocolMachineModel" "isCompiled" "Z", .fieldLink RX4 76 "ProtocolMachineModel" "thrown" "I"] ++ wsX40)
def wsX4_used : List Cond := .code yX4_used cX4_used 2 (some .int) :: ([.fieldLink RX4 172 "ProtocolMachineModel" "classes" "I", .fieldLink RX4 64 "ProtocolMachineModel" "useds" "[I", .methodLink RX4 190 yX4_asks, .instanceMethod yX4_asks, .selects RX4 yX4_asks yX4_asks, .initialized RX4, .code yX4_asks cX4_asks 3 (some .boolean), .fieldLink RX4 90 "ProtocolMachineModel" "isCompiled" "Z", .fieldLink RX4 76 "ProtocolMachineModel" "thrown" "I"] ++ wsX40)
def wsX4_tableSize : List Cond := .code yX4_tableSize cX4_tableSize 1 (some .int) :: ([.fieldLink RX4 90 "ProtocolMachineModel" "isCompiled" "Z", .fieldLink RX4 76 "ProtocolMachineModel" "thrown" "I", .fieldLink RX4 163 "ProtocolMachineModel" "tableSize" "I"] ++ wsX40)
def wsX4_owner : List Cond := .code yX4_owner cX4_owner 2 (some .int) :: ([.fieldLink RX4 163 "ProtocolMachineModel" "tableSize" "I", .fieldLink RX4 67 "ProtocolMachineModel" "owners" "[I", .methodLink RX4 190 yX4_asks, .instanceMethod yX4_asks, .selects RX4 yX4_asks yX4_asks, .initialized RX4, .code yX4_asks cX4_asks 3 (some .boolean), .fieldLink RX4 90 "ProtocolMachineModel" "isCompiled" "Z", .fieldLink RX4 76 "ProtocolMachineModel" "thrown" "I"] ++ wsX40)
def wsX4_density : List Cond := .code yX4_density cX4_density 3 (some .double) :: ([.fieldLink RX4 90 "ProtocolMachineModel" "isCompiled" "Z", .fieldLink RX4 76 "ProtocolMachineModel" "thrown" "I", .fieldLink RX4 163 "ProtocolMachineModel" "tableSize" "I", .fieldLink RX4 67 "ProtocolMachineModel" "owners" "[I"] ++ wsX40)
def wsX4_digest_r1 : List Cond := [Cond.fieldLink RX4 76 "ProtocolMachineModel" "thrown" "I", Cond.constantLong RX4 193 (3937), Cond.fieldLink RX4 7 "ProtocolMachineModel" "states" "I", Cond.constantLong RX4 195 (31), Cond.fieldLink RX4 83 "ProtocolMachineModel" "transitions" "I", Cond.fieldLink RX4 17 "ProtocolMachineModel" "froms" "[I", Cond.fieldLink RX4 20 "ProtocolMachineModel" "events" "[I", Cond.fieldLink RX4 32 "ProtocolMachineModel" "nexts" "[I", Cond.fieldLink RX4 35 "ProtocolMachineModel" "sizes" "[I", Cond.fieldLink RX4 41 "ProtocolMachineModel" "fired" "[I", Cond.fieldLink RX4 118 "ProtocolMachineModel" "state" "I", Cond.fieldLink RX4 114 "ProtocolMachineModel" "time" "J", Cond.fieldLink RX4 44 "ProtocolMachineModel" "values" "[I", Cond.fieldLink RX4 121 "ProtocolMachineModel" "emitted" "I", Cond.fieldLink RX4 124 "ProtocolMachineModel" "ignored" "I", Cond.fieldLink RX4 90 "ProtocolMachineModel" "isCompiled" "Z", Cond.fieldLink RX4 172 "ProtocolMachineModel" "classes" "I", Cond.fieldLink RX4 61 "ProtocolMachineModel" "offsets" "[I", Cond.methodLink RX4 147 yX4_leftOf, Cond.instanceMethod yX4_leftOf, Cond.selects RX4 yX4_leftOf yX4_leftOf, Cond.initialized RX4, Cond.code yX4_leftOf cX4_leftOf 2 (some .int), Cond.fieldLink RX4 47 "ProtocolMachineModel" "runs" "[Z"]
def wsX4_digest_r2 : List Cond := [Cond.fieldLink RX4 51 "ProtocolMachineModel" "dues" "[J"]
def wsX4_digest : List Cond := .code yX4_digest cX4_digest 4 (some .long) :: ((wsX4_digest_r1 ++ wsX4_digest_r2) ++ wsX40)
def wsJ9_max_7cf53 : List Cond := .code yJ9_max_7cf53 cJ9_max_7cf53 2 (some .int) :: ([])
def wsJ9_min_7cf53 : List Cond := .code yJ9_min_7cf53 cJ9_min_7cf53 2 (some .int) :: ([])
def wsL_addState : List Cond := .codeWith yL_addState cL_addState 3 (some .int) [(0, 8, 11, 13)] :: ([.classLink RL 13 "java/lang/IllegalStateException", .methodLink RL 7 yX3_addState, .instanceMethod yX3_addState, .selects RX3 yX3_addState yX3_addState, .initialized RX3, .code yX3_addState cX3_addState 1 (some .int), .classLink RX3 36 "java/lang/IllegalStateException", .initialized "java/lang/IllegalStateException", .fieldLink RX3 12 "ProtocolMachine" "protocol" "LProtocolMachine$Protocol;", .fieldLink RX3 32 "ProtocolMachine$Protocol" "states" "I", .fieldLink RX3 28 "ProtocolMachine" "table" "LProtocolMachine$Table;", .fieldLink RX3 43 "ProtocolMachine$Table" "made" "Z"] ++ wsX30 ++ wsX10 ++ wsX20 ++ (vx_atS RX3 40 "java/lang/IllegalStateException" ["java/lang/RuntimeException", "java/lang/Exception"]).filter goodWord)
def wsL_addTransition_r1 : List Cond := [Cond.classLink RL 19 "java/lang/IndexOutOfBoundsException", Cond.classLink RL 21 "java/lang/IllegalArgumentException", Cond.classLink RL 13 "java/lang/IllegalStateException", Cond.methodLink RL 15 yX3_addTransition, Cond.instanceMethod yX3_addTransition, Cond.selects RX3 yX3_addTransition yX3_addTransition, Cond.initialized RX3, Cond.code yX3_addTransition cX3_addTransition 8 (some .int), Cond.classLink RX3 51 "java/lang/IndexOutOfBoundsException", Cond.initialized "java/lang/IndexOutOfBoundsException", Cond.classLink RX3 64 "java/lang/IllegalArgumentException", Cond.initialized "java/lang/IllegalArgumentException", Cond.classLink RX3 36 "java/lang/IllegalStateException", Cond.initialized "java/lang/IllegalStateException", Cond.fieldLink RX3 12 "ProtocolMachine" "protocol" "LProtocolMachine$Protocol;", Cond.fieldLink RX3 32 "ProtocolMachine$Protocol" "states" "I", Cond.fieldLink RX3 69 "ProtocolMachine$Protocol" "transitions" "I", Cond.fieldLink RX3 28 "ProtocolMachine" "table" "LProtocolMachine$Table;", Cond.fieldLink RX3 43 "ProtocolMachine$Table" "made" "Z", Cond.fieldLink RX3 21 "ProtocolMachine" "execution" "LProtocolMachine$Execution;", Cond.fieldLink RX3 82 "ProtocolMachine$Execution" "fired" "[I", Cond.methodLink RX3 47 yX3_isBelow, Cond.static yX3_isBelow, Cond.code yX3_isBelow cX3_isBelow 2 (some .boolean)]
def wsL_addTransition_r2 : List Cond := [Cond.methodLink RX3 60 yX3_isNumber, Cond.static yX3_isNumber, Cond.code yX3_isNumber cX3_isNumber 1 (some .boolean), Cond.methodLink RX3 74 yX1_append, Cond.instanceMethod yX1_append, Cond.selects RX1 yX1_append yX1_append, Cond.initialized RX1, Cond.code yX1_append cX1_append 5 (some .int), Cond.fieldLink RX1 15 "ProtocolMachine$Protocol" "transitions" "I", Cond.fieldLink RX1 22 "ProtocolMachine$Protocol" "from" "[I", Cond.fieldLink RX1 25 "ProtocolMachine$Protocol" "event" "[I", Cond.fieldLink RX1 28 "ProtocolMachine$Protocol" "next" "[I", Cond.fieldLink RX1 31 "ProtocolMachine$Protocol" "variable" "[I", Cond.fieldLink RX1 34 "ProtocolMachine$Protocol" "relation" "[I", Cond.fieldLink RX1 37 "ProtocolMachine$Protocol" "number" "[I", Cond.fieldLink RX1 40 "ProtocolMachine$Protocol" "actions" "[I", Cond.methodLink RX3 78 yX1_guard, Cond.instanceMethod yX1_guard, Cond.selects RX1 yX1_guard yX1_guard, Cond.code yX1_guard cX1_guard 5 none]
def wsL_addTransition : List Cond := .codeWith yL_addTransition cL_addTransition 9 (some .int) [(0, 18, 21, 19), (0, 18, 25, 21), (0, 18, 29, 13)] :: ((wsL_addTransition_r1 ++ wsL_addTransition_r2) ++ wsX30 ++ wsX10 ++ wsX20 ++ wsX00 ++ (vx_atS RX3 55 "java/lang/IndexOutOfBoundsException" ["java/lang/RuntimeException", "java/lang/Exception"]).filter goodWord ++ (vx_atS RX3 68 "java/lang/IllegalArgumentException" ["java/lang/RuntimeException", "java/lang/Exception"]).filter goodWord ++ (vx_atS RX3 40 "java/lang/IllegalStateException" ["java/lang/RuntimeException", "java/lang/Exception"]).filter goodWord)
def wsL_addAction_r1 : List Cond := [Cond.classLink RL 19 "java/lang/IndexOutOfBoundsException", Cond.classLink RL 21 "java/lang/IllegalArgumentException", Cond.classLink RL 13 "java/lang/IllegalStateException", Cond.methodLink RL 23 yX3_addAction, Cond.instanceMethod yX3_addAction, Cond.selects RX3 yX3_addAction yX3_addAction, Cond.initialized RX3, Cond.code yX3_addAction cX3_addAction 5 (some .int), Cond.classLink RX3 51 "java/lang/IndexOutOfBoundsException", Cond.initialized "java/lang/IndexOutOfBoundsException", Cond.classLink RX3 64 "java/lang/IllegalArgumentException", Cond.initialized "java/lang/IllegalArgumentException", Cond.classLink RX3 36 "java/lang/IllegalStateException", Cond.initialized "java/lang/IllegalStateException", Cond.fieldLink RX3 12 "ProtocolMachine" "protocol" "LProtocolMachine$Protocol;", Cond.fieldLink RX3 69 "ProtocolMachine$Protocol" "transitions" "I", Cond.fieldLink RX3 94 "ProtocolMachine$Protocol" "actions" "[I", Cond.fieldLink RX3 28 "ProtocolMachine" "table" "LProtocolMachine$Table;", Cond.fieldLink RX3 43 "ProtocolMachine$Table" "made" "Z", Cond.methodLink RX3 47 yX3_isBelow, Cond.static yX3_isBelow, Cond.code yX3_isBelow cX3_isBelow 2 (some .boolean), Cond.methodLink RX3 88 yX3_isAction, Cond.static yX3_isAction]
def wsL_addAction_r2 : List Cond := [Cond.code yX3_isAction cX3_isAction 3 (some .boolean), Cond.methodLink RX3 60 yX3_isNumber, Cond.static yX3_isNumber, Cond.code yX3_isNumber cX3_isNumber 1 (some .boolean), Cond.methodLink RX3 99 yX1_appendAction, Cond.instanceMethod yX1_appendAction, Cond.selects RX1 yX1_appendAction yX1_appendAction, Cond.initialized RX1, Cond.code yX1_appendAction cX1_appendAction 6 (some .int), Cond.fieldLink RX1 40 "ProtocolMachine$Protocol" "actions" "[I", Cond.fieldLink RX1 43 "ProtocolMachine$Protocol" "kind" "[I", Cond.fieldLink RX1 46 "ProtocolMachine$Protocol" "a" "[I", Cond.fieldLink RX1 49 "ProtocolMachine$Protocol" "b" "[I"]
def wsL_addAction : List Cond := .codeWith yL_addAction cL_addAction 7 (some .int) [(0, 14, 17, 19), (0, 14, 21, 21), (0, 14, 25, 13)] :: ((wsL_addAction_r1 ++ wsL_addAction_r2) ++ wsX30 ++ wsX10 ++ wsX20 ++ (vx_atS RX3 55 "java/lang/IndexOutOfBoundsException" ["java/lang/RuntimeException", "java/lang/Exception"]).filter goodWord ++ (vx_atS RX3 68 "java/lang/IllegalArgumentException" ["java/lang/RuntimeException", "java/lang/Exception"]).filter goodWord ++ (vx_atS RX3 40 "java/lang/IllegalStateException" ["java/lang/RuntimeException", "java/lang/Exception"]).filter goodWord)
def wsL_drop : List Cond := .codeWith yL_drop cL_drop 3 (some .int) [(0, 8, 11, 13)] :: ([.classLink RL 13 "java/lang/IllegalStateException", .methodLink RL 27 yX3_drop, .instanceMethod yX3_drop, .selects RX3 yX3_drop yX3_drop, .initialized RX3, .code yX3_drop cX3_drop 1 (some .int), .classLink RX3 36 "java/lang/IllegalStateException", .initialized "java/lang/IllegalStateException", .fieldLink RX3 12 "ProtocolMachine" "protocol" "LProtocolMachine$Protocol;", .fieldLink RX3 69 "ProtocolMachine$Protocol" "transitions" "I", .fieldLink RX3 28 "ProtocolMachine" "table" "LProtocolMachine$Table;", .fieldLink RX3 43 "ProtocolMachine$Table" "made" "Z"] ++ wsX30 ++ wsX10 ++ wsX20 ++ (vx_atS RX3 40 "java/lang/IllegalStateException" ["java/lang/RuntimeException", "java/lang/Exception"]).filter goodWord)
def wsL_setTimerEvent : List Cond := .codeWith yL_setTimerEvent cL_setTimerEvent 5 (some .int) [(0, 10, 13, 19)] :: ([.classLink RL 19 "java/lang/IndexOutOfBoundsException", .methodLink RL 30 yX3_setTimerEvent, .instanceMethod yX3_setTimerEvent, .selects RX3 yX3_setTimerEvent yX3_setTimerEvent, .initialized RX3, .code yX3_setTimerEvent cX3_setTimerEvent 4 (some .int), .classLink RX3 51 "java/lang/IndexOutOfBoundsException", .initialized "java/lang/IndexOutOfBoundsException", .fieldLink RX3 28 "ProtocolMachine" "table" "LProtocolMachine$Table;", .fieldLink RX3 43 "ProtocolMachine$Table" "made" "Z", .fieldLink RX3 12 "ProtocolMachine" "protocol" "LProtocolMachine$Protocol;", .fieldLink RX3 107 "ProtocolMachine$Protocol" "timerEvent" "[I", .methodLink RX3 47 yX3_isBelow, .static yX3_isBelow, .code yX3_isBelow cX3_isBelow 2 (some .boolean)] ++ wsX30 ++ wsX20 ++ wsX10 ++ (vx_atS RX3 55 "java/lang/IndexOutOfBoundsException" ["java/lang/RuntimeException", "java/lang/Exception"]).filter goodWord)
def wsL_isHidden_r1 : List Cond := [Cond.classLink RL 19 "java/lang/IndexOutOfBoundsException", Cond.methodLink RL 34 yX3_isHidden, Cond.instanceMethod yX3_isHidden, Cond.selects RX3 yX3_isHidden yX3_isHidden, Cond.initialized RX3, Cond.code yX3_isHidden cX3_isHidden 2 (some .boolean), Cond.classLink RX3 51 "java/lang/IndexOutOfBoundsException", Cond.initialized "java/lang/IndexOutOfBoundsException", Cond.fieldLink RX3 12 "ProtocolMachine" "protocol" "LProtocolMachine$Protocol;", Cond.fieldLink RX3 69 "ProtocolMachine$Protocol" "transitions" "I", Cond.methodLink RX3 47 yX3_isBelow, Cond.static yX3_isBelow, Cond.code yX3_isBelow cX3_isBelow 2 (some .boolean), Cond.methodLink RX3 110 yX1_isBehindAnother, Cond.instanceMethod yX1_isBehindAnother, Cond.selects RX1 yX1_isBehindAnother yX1_isBehindAnother, Cond.initialized RX1, Cond.code yX1_isBehindAnother cX1_isBehindAnother 3 (some .boolean), Cond.fieldLink RX1 22 "ProtocolMachine$Protocol" "from" "[I", Cond.fieldLink RX1 25 "ProtocolMachine$Protocol" "event" "[I", Cond.methodLink RX1 52 yX1_covers, Cond.instanceMethod yX1_covers, Cond.selects RX1 yX1_covers yX1_covers, Cond.code yX1_covers cX1_covers 5 (some .boolean)]
def wsL_isHidden_r2 : List Cond := [Cond.fieldLink RX1 31 "ProtocolMachine$Protocol" "variable" "[I", Cond.methodLink RX1 56 yX1_lowest, Cond.instanceMethod yX1_lowest, Cond.selects RX1 yX1_lowest yX1_lowest, Cond.code yX1_lowest cX1_lowest 2 (some .int), Cond.fieldLink RX1 34 "ProtocolMachine$Protocol" "relation" "[I", Cond.fieldLink RX1 37 "ProtocolMachine$Protocol" "number" "[I", Cond.methodLink RX1 60 yX1_highest, Cond.instanceMethod yX1_highest, Cond.selects RX1 yX1_highest yX1_highest, Cond.code yX1_highest cX1_highest 2 (some .int)]
def wsL_isHidden : List Cond := .codeWith yL_isHidden cL_isHidden 4 (some .int) [(0, 16, 19, 19)] :: ((wsL_isHidden_r1 ++ wsL_isHidden_r2) ++ wsX30 ++ wsX10 ++ (vx_atS RX3 55 "java/lang/IndexOutOfBoundsException" ["java/lang/RuntimeException", "java/lang/Exception"]).filter goodWord)
def wsL_happen_r1 : List Cond := [Cond.classLink RL 19 "java/lang/IndexOutOfBoundsException", Cond.methodLink RL 38 yX3_happen, Cond.instanceMethod yX3_happen, Cond.selects RX3 yX3_happen yX3_happen, Cond.initialized RX3, Cond.code yX3_happen cX3_happen 2 (some .int), Cond.classLink RX3 51 "java/lang/IndexOutOfBoundsException", Cond.initialized "java/lang/IndexOutOfBoundsException", Cond.fieldLink RX3 21 "ProtocolMachine" "execution" "LProtocolMachine$Execution;", Cond.methodLink RX3 47 yX3_isBelow, Cond.static yX3_isBelow, Cond.code yX3_isBelow cX3_isBelow 2 (some .boolean), Cond.methodLink RX3 120 yX0_react, Cond.instanceMethod yX0_react, Cond.selects RX0 yX0_react yX0_react, Cond.initialized RX0, Cond.code yX0_react cX0_react 4 (some .int), Cond.fieldLink RX0 25 "ProtocolMachine$Execution" "ignores" "I", Cond.fieldLink RX0 39 "ProtocolMachine$Execution" "fired" "[I", Cond.fieldLink RX0 42 "ProtocolMachine$Execution" "protocol" "LProtocolMachine$Protocol;", Cond.fieldLink RX0 61 "ProtocolMachine$Protocol" "actions" "[I", Cond.fieldLink RX0 70 "ProtocolMachine$Protocol" "next" "[I", Cond.fieldLink RX0 9 "ProtocolMachine$Execution" "present" "I", Cond.methodLink RX0 57 yX0_firstTrue]
def wsL_happen_r2 : List Cond := [Cond.instanceMethod yX0_firstTrue, Cond.selects RX0 yX0_firstTrue yX0_firstTrue, Cond.code yX0_firstTrue cX0_firstTrue 4 (some .int), Cond.methodLink RX0 73 yX1_firstBehind, Cond.instanceMethod yX1_firstBehind, Cond.selects RX1 yX1_firstBehind yX1_firstBehind, Cond.initialized RX1, Cond.code yX1_firstBehind cX1_firstBehind 5 (some .int), Cond.fieldLink RX1 15 "ProtocolMachine$Protocol" "transitions" "I", Cond.fieldLink RX1 22 "ProtocolMachine$Protocol" "from" "[I", Cond.fieldLink RX1 25 "ProtocolMachine$Protocol" "event" "[I", Cond.methodLink RX0 77 yX0_isTrue, Cond.instanceMethod yX0_isTrue, Cond.selects RX0 yX0_isTrue yX0_isTrue, Cond.code yX0_isTrue cX0_isTrue 3 (some .boolean), Cond.fieldLink RX0 81 "ProtocolMachine$Protocol" "variable" "[I", Cond.fieldLink RX0 28 "ProtocolMachine$Execution" "values" "[I", Cond.methodLink RX0 84 yX1_lowest, Cond.instanceMethod yX1_lowest, Cond.selects RX1 yX1_lowest yX1_lowest, Cond.code yX1_lowest cX1_lowest 2 (some .int), Cond.fieldLink RX1 34 "ProtocolMachine$Protocol" "relation" "[I", Cond.fieldLink RX1 37 "ProtocolMachine$Protocol" "number" "[I", Cond.methodLink RX0 87 yX1_highest]
def wsL_happen_r3 : List Cond := [Cond.instanceMethod yX1_highest, Cond.selects RX1 yX1_highest yX1_highest, Cond.code yX1_highest cX1_highest 2 (some .int), Cond.methodLink RX0 66 yX0_act, Cond.instanceMethod yX0_act, Cond.selects RX0 yX0_act yX0_act, Cond.code yX0_act cX0_act 4 none, Cond.fieldLink RX0 90 "ProtocolMachine$Protocol" "a" "[I", Cond.fieldLink RX0 93 "ProtocolMachine$Protocol" "b" "[I", Cond.fieldLink RX0 96 "ProtocolMachine$Protocol" "kind" "[I", Cond.methodLink RX0 99 Lib.Math.min.name, Cond.static Lib.Math.min.name, Cond.initialized "java/lang/Math", Cond.code Lib.Math.min.name Lib.Math.min.code 2 (some .int), Cond.methodLink RX0 105 Lib.Math.max.name, Cond.static Lib.Math.max.name, Cond.code Lib.Math.max.name Lib.Math.max.code 2 (some .int), Cond.fieldLink RX0 32 "ProtocolMachine$Execution" "due" "[J", Cond.fieldLink RX0 15 "ProtocolMachine$Execution" "now" "J", Cond.constantLong RX0 46 (-1), Cond.methodLink RX0 108 yX0_emit, Cond.instanceMethod yX0_emit, Cond.selects RX0 yX0_emit yX0_emit, Cond.code yX0_emit cX0_emit 2 none]
def wsL_happen_r4 : List Cond := [Cond.fieldLink RX0 22 "ProtocolMachine$Execution" "kept" "I", Cond.fieldLink RX0 36 "ProtocolMachine$Execution" "outputs" "[I", Cond.fieldLink RX0 19 "ProtocolMachine$Execution" "emits" "I"]
def wsL_happen : List Cond := .codeWith yL_happen cL_happen 4 (some .int) [(0, 9, 12, 19)] :: ((wsL_happen_r1 ++ (wsL_happen_r2 ++ (wsL_happen_r3 ++ wsL_happen_r4))) ++ wsX30 ++ wsX00 ++ wsX10 ++ (vx_atS RX3 55 "java/lang/IndexOutOfBoundsException" ["java/lang/RuntimeException", "java/lang/Exception"]).filter goodWord)
def wsL_advance_r1 : List Cond := [Cond.classLink RL 21 "java/lang/IllegalArgumentException", Cond.methodLink RL 42 yX3_advance, Cond.instanceMethod yX3_advance, Cond.selects RX3 yX3_advance yX3_advance, Cond.initialized RX3, Cond.code yX3_advance cX3_advance 2 (some .int), Cond.classLink RX3 64 "java/lang/IllegalArgumentException", Cond.initialized "java/lang/IllegalArgumentException", Cond.fieldLink RX3 21 "ProtocolMachine" "execution" "LProtocolMachine$Execution;", Cond.methodLink RX3 126 yX0_goOn, Cond.instanceMethod yX0_goOn, Cond.selects RX0 yX0_goOn yX0_goOn, Cond.initialized RX0, Cond.code yX0_goOn cX0_goOn 6 (some .int), Cond.fieldLink RX0 15 "ProtocolMachine$Execution" "now" "J", Cond.fieldLink RX0 32 "ProtocolMachine$Execution" "due" "[J", Cond.constantLong RX0 46 (-1), Cond.fieldLink RX0 42 "ProtocolMachine$Execution" "protocol" "LProtocolMachine$Protocol;", Cond.fieldLink RX0 115 "ProtocolMachine$Protocol" "timerEvent" "[I", Cond.methodLink RX0 111 yX0_firstDue, Cond.instanceMethod yX0_firstDue, Cond.selects RX0 yX0_firstDue yX0_firstDue, Cond.code yX0_firstDue cX0_firstDue 6 (some .int), Cond.methodLink RX0 118 yX0_react]
def wsL_advance_r2 : List Cond := [Cond.instanceMethod yX0_react, Cond.selects RX0 yX0_react yX0_react, Cond.code yX0_react cX0_react 4 (some .int), Cond.fieldLink RX0 25 "ProtocolMachine$Execution" "ignores" "I", Cond.fieldLink RX0 39 "ProtocolMachine$Execution" "fired" "[I", Cond.fieldLink RX0 61 "ProtocolMachine$Protocol" "actions" "[I", Cond.fieldLink RX0 70 "ProtocolMachine$Protocol" "next" "[I", Cond.fieldLink RX0 9 "ProtocolMachine$Execution" "present" "I", Cond.methodLink RX0 57 yX0_firstTrue, Cond.instanceMethod yX0_firstTrue, Cond.selects RX0 yX0_firstTrue yX0_firstTrue, Cond.code yX0_firstTrue cX0_firstTrue 4 (some .int), Cond.methodLink RX0 73 yX1_firstBehind, Cond.instanceMethod yX1_firstBehind, Cond.selects RX1 yX1_firstBehind yX1_firstBehind, Cond.initialized RX1, Cond.code yX1_firstBehind cX1_firstBehind 5 (some .int), Cond.fieldLink RX1 15 "ProtocolMachine$Protocol" "transitions" "I", Cond.fieldLink RX1 22 "ProtocolMachine$Protocol" "from" "[I", Cond.fieldLink RX1 25 "ProtocolMachine$Protocol" "event" "[I", Cond.methodLink RX0 77 yX0_isTrue, Cond.instanceMethod yX0_isTrue, Cond.selects RX0 yX0_isTrue yX0_isTrue, Cond.code yX0_isTrue cX0_isTrue 3 (some .boolean)]
def wsL_advance_r3 : List Cond := [Cond.fieldLink RX0 81 "ProtocolMachine$Protocol" "variable" "[I", Cond.fieldLink RX0 28 "ProtocolMachine$Execution" "values" "[I", Cond.methodLink RX0 84 yX1_lowest, Cond.instanceMethod yX1_lowest, Cond.selects RX1 yX1_lowest yX1_lowest, Cond.code yX1_lowest cX1_lowest 2 (some .int), Cond.fieldLink RX1 34 "ProtocolMachine$Protocol" "relation" "[I", Cond.fieldLink RX1 37 "ProtocolMachine$Protocol" "number" "[I", Cond.methodLink RX0 87 yX1_highest, Cond.instanceMethod yX1_highest, Cond.selects RX1 yX1_highest yX1_highest, Cond.code yX1_highest cX1_highest 2 (some .int), Cond.methodLink RX0 66 yX0_act, Cond.instanceMethod yX0_act, Cond.selects RX0 yX0_act yX0_act, Cond.code yX0_act cX0_act 4 none, Cond.fieldLink RX0 90 "ProtocolMachine$Protocol" "a" "[I", Cond.fieldLink RX0 93 "ProtocolMachine$Protocol" "b" "[I", Cond.fieldLink RX0 96 "ProtocolMachine$Protocol" "kind" "[I", Cond.methodLink RX0 99 Lib.Math.min.name, Cond.static Lib.Math.min.name, Cond.initialized "java/lang/Math", Cond.code Lib.Math.min.name Lib.Math.min.code 2 (some .int), Cond.methodLink RX0 105 Lib.Math.max.name]
def wsL_advance_r4 : List Cond := [Cond.static Lib.Math.max.name, Cond.code Lib.Math.max.name Lib.Math.max.code 2 (some .int), Cond.methodLink RX0 108 yX0_emit, Cond.instanceMethod yX0_emit, Cond.selects RX0 yX0_emit yX0_emit, Cond.code yX0_emit cX0_emit 2 none, Cond.fieldLink RX0 22 "ProtocolMachine$Execution" "kept" "I", Cond.fieldLink RX0 36 "ProtocolMachine$Execution" "outputs" "[I", Cond.fieldLink RX0 19 "ProtocolMachine$Execution" "emits" "I"]
def wsL_advance : List Cond := .codeWith yL_advance cL_advance 4 (some .int) [(0, 9, 12, 21)] :: ((wsL_advance_r1 ++ (wsL_advance_r2 ++ (wsL_advance_r3 ++ wsL_advance_r4))) ++ wsX30 ++ wsX00 ++ wsX10 ++ (vx_atS RX3 68 "java/lang/IllegalArgumentException" ["java/lang/RuntimeException", "java/lang/Exception"]).filter goodWord)
def wsL_value : List Cond := .codeWith yL_value cL_value 4 (some .int) [(0, 9, 12, 19)] :: ([.classLink RL 19 "java/lang/IndexOutOfBoundsException", .methodLink RL 45 yX3_value, .instanceMethod yX3_value, .selects RX3 yX3_value yX3_value, .initialized RX3, .code yX3_value cX3_value 2 (some .int), .classLink RX3 51 "java/lang/IndexOutOfBoundsException", .initialized "java/lang/IndexOutOfBoundsException", .fieldLink RX3 21 "ProtocolMachine" "execution" "LProtocolMachine$Execution;", .fieldLink RX3 132 "ProtocolMachine$Execution" "values" "[I", .methodLink RX3 47 yX3_isBelow, .static yX3_isBelow, .code yX3_isBelow cX3_isBelow 2 (some .boolean)] ++ wsX30 ++ wsX00 ++ (vx_atS RX3 55 "java/lang/IndexOutOfBoundsException" ["java/lang/RuntimeException", "java/lang/Exception"]).filter goodWord)
def wsL_left : List Cond := .codeWith yL_left cL_left 4 (some .int) [(0, 9, 12, 19)] :: ([.classLink RL 19 "java/lang/IndexOutOfBoundsException", .methodLink RL 48 yX3_left, .instanceMethod yX3_left, .selects RX3 yX3_left yX3_left, .initialized RX3, .code yX3_left cX3_left 2 (some .int), .classLink RX3 51 "java/lang/IndexOutOfBoundsException", .initialized "java/lang/IndexOutOfBoundsException", .fieldLink RX3 21 "ProtocolMachine" "execution" "LProtocolMachine$Execution;", .methodLink RX3 47 yX3_isBelow, .static yX3_isBelow, .code yX3_isBelow cX3_isBelow 2 (some .boolean), .methodLink RX3 137 yX0_ticksLeft, .instanceMethod yX0_ticksLeft, .selects RX0 yX0_ticksLeft yX0_ticksLeft, .initialized RX0, .code yX0_ticksLeft cX0_ticksLeft 2 (some .int), .fieldLink RX0 32 "ProtocolMachine$Execution" "due" "[J", .constantLong RX0 46 (-1), .fieldLink RX0 15 "ProtocolMachine$Execution" "now" "J"] ++ wsX30 ++ wsX00 ++ (vx_atS RX3 55 "java/lang/IndexOutOfBoundsException" ["java/lang/RuntimeException", "java/lang/Exception"]).filter goodWord)
def wsL_output : List Cond := .codeWith yL_output cL_output 4 (some .int) [(0, 9, 12, 19)] :: ([.classLink RL 19 "java/lang/IndexOutOfBoundsException", .methodLink RL 51 yX3_output, .instanceMethod yX3_output, .selects RX3 yX3_output yX3_output, .initialized RX3, .code yX3_output cX3_output 2 (some .int), .classLink RX3 51 "java/lang/IndexOutOfBoundsException", .initialized "java/lang/IndexOutOfBoundsException", .fieldLink RX3 21 "ProtocolMachine" "execution" "LProtocolMachine$Execution;", .fieldLink RX3 143 "ProtocolMachine$Execution" "kept" "I", .fieldLink RX3 148 "ProtocolMachine$Execution" "outputs" "[I", .methodLink RX3 47 yX3_isBelow, .static yX3_isBelow, .code yX3_isBelow cX3_isBelow 2 (some .boolean)] ++ wsX30 ++ wsX00 ++ (vx_atS RX3 55 "java/lang/IndexOutOfBoundsException" ["java/lang/RuntimeException", "java/lang/Exception"]).filter goodWord)
def wsL_fired : List Cond := .codeWith yL_fired cL_fired 4 (some .int) [(0, 9, 12, 19)] :: ([.classLink RL 19 "java/lang/IndexOutOfBoundsException", .methodLink RL 54 yX3_fired, .instanceMethod yX3_fired, .selects RX3 yX3_fired yX3_fired, .initialized RX3, .code yX3_fired cX3_fired 2 (some .int), .classLink RX3 51 "java/lang/IndexOutOfBoundsException", .initialized "java/lang/IndexOutOfBoundsException", .fieldLink RX3 12 "ProtocolMachine" "protocol" "LProtocolMachine$Protocol;", .fieldLink RX3 69 "ProtocolMachine$Protocol" "transitions" "I", .fieldLink RX3 21 "ProtocolMachine" "execution" "LProtocolMachine$Execution;", .fieldLink RX3 82 "ProtocolMachine$Execution" "fired" "[I", .methodLink RX3 47 yX3_isBelow, .static yX3_isBelow, .code yX3_isBelow cX3_isBelow 2 (some .boolean)] ++ wsX30 ++ wsX10 ++ wsX00 ++ (vx_atS RX3 55 "java/lang/IndexOutOfBoundsException" ["java/lang/RuntimeException", "java/lang/Exception"]).filter goodWord)
def wsL_classOf : List Cond := .codeWith yL_classOf cL_classOf 4 (some .int) [(0, 9, 12, 13), (0, 9, 15, 19)] :: ([.classLink RL 13 "java/lang/IllegalStateException", .classLink RL 19 "java/lang/IndexOutOfBoundsException", .methodLink RL 57 yX3_classOf, .instanceMethod yX3_classOf, .selects RX3 yX3_classOf yX3_classOf, .initialized RX3, .code yX3_classOf cX3_classOf 2 (some .int), .classLink RX3 51 "java/lang/IndexOutOfBoundsException", .initialized "java/lang/IndexOutOfBoundsException", .fieldLink RX3 12 "ProtocolMachine" "protocol" "LProtocolMachine$Protocol;", .fieldLink RX3 32 "ProtocolMachine$Protocol" "states" "I", .fieldLink RX3 28 "ProtocolMachine" "table" "LProtocolMachine$Table;", .fieldLink RX3 163 "ProtocolMachine$Table" "stateClass" "[I", .methodLink RX3 160 yX3_needTable, .instanceMethod yX3_needTable, .selects RX3 yX3_needTable yX3_needTable, .code yX3_needTable cX3_needTable 1 none, .classLink RX3 36 "java/lang/IllegalStateException", .initialized "java/lang/IllegalStateException", .fieldLink RX3 43 "ProtocolMachine$Table" "made" "Z", .methodLink RX3 47 yX3_isBelow, .static yX3_isBelow, .code yX3_isBelow cX3_isBelow 2 (some .boolean)] ++ wsX30 ++ wsX10 ++ wsX20 ++ (vx_atS RX3 55 "java/lang/IndexOutOfBoundsException" ["java/lang/RuntimeException", "java/lang/Exception"]).filter goodWord ++ (vx_atS RX3 40 "java/lang/IllegalStateException" ["java/lang/RuntimeException", "java/lang/Exception"]).filter goodWord)
def wsL_offset_r1 : List Cond := [Cond.classLink RL 13 "java/lang/IllegalStateException", Cond.classLink RL 19 "java/lang/IndexOutOfBoundsException", Cond.methodLink RL 60 yX3_offset, Cond.instanceMethod yX3_offset, Cond.selects RX3 yX3_offset yX3_offset, Cond.initialized RX3, Cond.code yX3_offset cX3_offset 2 (some .int), Cond.fieldLink RX3 28 "ProtocolMachine" "table" "LProtocolMachine$Table;", Cond.fieldLink RX3 170 "ProtocolMachine$Table" "offsets" "[I", Cond.methodLink RX3 166 yX3_needClass, Cond.instanceMethod yX3_needClass, Cond.selects RX3 yX3_needClass yX3_needClass, Cond.code yX3_needClass cX3_needClass 2 none, Cond.classLink RX3 51 "java/lang/IndexOutOfBoundsException", Cond.initialized "java/lang/IndexOutOfBoundsException", Cond.fieldLink RX3 157 "ProtocolMachine$Table" "classes" "I", Cond.methodLink RX3 160 yX3_needTable, Cond.instanceMethod yX3_needTable, Cond.selects RX3 yX3_needTable yX3_needTable, Cond.code yX3_needTable cX3_needTable 1 none, Cond.classLink RX3 36 "java/lang/IllegalStateException", Cond.initialized "java/lang/IllegalStateException", Cond.fieldLink RX3 43 "ProtocolMachine$Table" "made" "Z", Cond.methodLink RX3 47 yX3_isBelow]
def wsL_offset_r2 : List Cond := [Cond.static yX3_isBelow, Cond.code yX3_isBelow cX3_isBelow 2 (some .boolean)]
def wsL_offset : List Cond := .codeWith yL_offset cL_offset 4 (some .int) [(0, 9, 12, 13), (0, 9, 15, 19)] :: ((wsL_offset_r1 ++ wsL_offset_r2) ++ wsX30 ++ wsX20 ++ (vx_atS RX3 55 "java/lang/IndexOutOfBoundsException" ["java/lang/RuntimeException", "java/lang/Exception"]).filter goodWord ++ (vx_atS RX3 40 "java/lang/IllegalStateException" ["java/lang/RuntimeException", "java/lang/Exception"]).filter goodWord)
def wsL_used_r1 : List Cond := [Cond.classLink RL 13 "java/lang/IllegalStateException", Cond.classLink RL 19 "java/lang/IndexOutOfBoundsException", Cond.methodLink RL 63 yX3_used, Cond.instanceMethod yX3_used, Cond.selects RX3 yX3_used yX3_used, Cond.initialized RX3, Cond.code yX3_used cX3_used 2 (some .int), Cond.fieldLink RX3 28 "ProtocolMachine" "table" "LProtocolMachine$Table;", Cond.methodLink RX3 166 yX3_needClass, Cond.instanceMethod yX3_needClass, Cond.selects RX3 yX3_needClass yX3_needClass, Cond.code yX3_needClass cX3_needClass 2 none, Cond.classLink RX3 51 "java/lang/IndexOutOfBoundsException", Cond.initialized "java/lang/IndexOutOfBoundsException", Cond.fieldLink RX3 157 "ProtocolMachine$Table" "classes" "I", Cond.methodLink RX3 160 yX3_needTable, Cond.instanceMethod yX3_needTable, Cond.selects RX3 yX3_needTable yX3_needTable, Cond.code yX3_needTable cX3_needTable 1 none, Cond.classLink RX3 36 "java/lang/IllegalStateException", Cond.initialized "java/lang/IllegalStateException", Cond.fieldLink RX3 43 "ProtocolMachine$Table" "made" "Z", Cond.methodLink RX3 47 yX3_isBelow, Cond.static yX3_isBelow]
def wsL_used_r2 : List Cond := [Cond.code yX3_isBelow cX3_isBelow 2 (some .boolean), Cond.methodLink RX3 173 yX2_usedCells, Cond.instanceMethod yX2_usedCells, Cond.selects RX2 yX2_usedCells yX2_usedCells, Cond.initialized RX2, Cond.code yX2_usedCells cX2_usedCells 2 (some .int), Cond.fieldLink RX2 32 "ProtocolMachine$Table" "usedBits" "[I", Cond.methodLink RX2 106 yJ6_bitCount_0f7a4, Cond.static yJ6_bitCount_0f7a4, Cond.initialized RJ6, Cond.code yJ6_bitCount_0f7a4 cJ6_bitCount_0f7a4 1 (some .int), Cond.constant RJ6 265 (1431655765), Cond.constant RJ6 266 (858993459), Cond.constant RJ6 267 (252645135)]
def wsL_used : List Cond := .codeWith yL_used cL_used 4 (some .int) [(0, 9, 12, 13), (0, 9, 15, 19)] :: ((wsL_used_r1 ++ wsL_used_r2) ++ wsX30 ++ wsX20 ++ (vx_atS RX3 55 "java/lang/IndexOutOfBoundsException" ["java/lang/RuntimeException", "java/lang/Exception"]).filter goodWord ++ (vx_atS RX3 40 "java/lang/IllegalStateException" ["java/lang/RuntimeException", "java/lang/Exception"]).filter goodWord)
def wsL_tableSize : List Cond := .codeWith yL_tableSize cL_tableSize 3 (some .int) [(0, 8, 11, 13)] :: ([.classLink RL 13 "java/lang/IllegalStateException", .methodLink RL 66 yX3_tableSize, .instanceMethod yX3_tableSize, .selects RX3 yX3_tableSize yX3_tableSize, .initialized RX3, .code yX3_tableSize cX3_tableSize 1 (some .int), .fieldLink RX3 28 "ProtocolMachine" "table" "LProtocolMachine$Table;", .fieldLink RX3 176 "ProtocolMachine$Table" "size" "I", .methodLink RX3 160 yX3_needTable, .instanceMethod yX3_needTable, .selects RX3 yX3_needTable yX3_needTable, .code yX3_needTable cX3_needTable 1 none, .classLink RX3 36 "java/lang/IllegalStateException", .initialized "java/lang/IllegalStateException", .fieldLink RX3 43 "ProtocolMachine$Table" "made" "Z"] ++ wsX30 ++ wsX20 ++ (vx_atS RX3 40 "java/lang/IllegalStateException" ["java/lang/RuntimeException", "java/lang/Exception"]).filter goodWord)
def wsL_owner : List Cond := .codeWith yL_owner cL_owner 4 (some .int) [(0, 9, 12, 13), (0, 9, 15, 19)] :: ([.classLink RL 13 "java/lang/IllegalStateException", .classLink RL 19 "java/lang/IndexOutOfBoundsException", .methodLink RL 69 yX3_owner, .instanceMethod yX3_owner, .selects RX3 yX3_owner yX3_owner, .initialized RX3, .code yX3_owner cX3_owner 2 (some .int), .classLink RX3 51 "java/lang/IndexOutOfBoundsException", .initialized "java/lang/IndexOutOfBoundsException", .fieldLink RX3 28 "ProtocolMachine" "table" "LProtocolMachine$Table;", .fieldLink RX3 176 "ProtocolMachine$Table" "size" "I", .fieldLink RX3 181 "ProtocolMachine$Table" "owners" "[I", .methodLink RX3 160 yX3_needTable, .instanceMethod yX3_needTable, .selects RX3 yX3_needTable yX3_needTable, .code yX3_needTable cX3_needTable 1 none, .classLink RX3 36 "java/lang/IllegalStateException", .initialized "java/lang/IllegalStateException", .fieldLink RX3 43 "ProtocolMachine$Table" "made" "Z", .methodLink RX3 47 yX3_isBelow, .static yX3_isBelow, .code yX3_isBelow cX3_isBelow 2 (some .boolean)] ++ wsX30 ++ wsX20 ++ (vx_atS RX3 55 "java/lang/IndexOutOfBoundsException" ["java/lang/RuntimeException", "java/lang/Exception"]).filter goodWord ++ (vx_atS RX3 40 "java/lang/IllegalStateException" ["java/lang/RuntimeException", "java/lang/Exception"]).filter goodWord)
def wsL_density : List Cond := .codeWith yL_density cL_density 3 (some .int) [(0, 7, 10, 13)] :: ([.classLink RL 13 "java/lang/IllegalStateException", .methodLink RL 72 yX3_density, .instanceMethod yX3_density, .selects RX3 yX3_density yX3_density, .initialized RX3, .code yX3_density cX3_density 1 (some .double), .fieldLink RX3 28 "ProtocolMachine" "table" "LProtocolMachine$Table;", .fieldLink RX3 176 "ProtocolMachine$Table" "size" "I", .fieldLink RX3 184 "ProtocolMachine$Table" "taken" "I", .methodLink RX3 160 yX3_needTable, .instanceMethod yX3_needTable, .selects RX3 yX3_needTable yX3_needTable, .code yX3_needTable cX3_needTable 1 none, .classLink RX3 36 "java/lang/IllegalStateException", .initialized "java/lang/IllegalStateException", .fieldLink RX3 43 "ProtocolMachine$Table" "made" "Z"] ++ wsX30 ++ wsX20 ++ (vx_atS RX3 40 "java/lang/IllegalStateException" ["java/lang/RuntimeException", "java/lang/Exception"]).filter goodWord)
def wsL_law0_r1 : List Cond := [Cond.classLink RL 8 RX3, Cond.instantiable RX3 3, Cond.initialized RX3, Cond.classLink RL 77 RX4, Cond.instantiable RX4 30, Cond.initialized RX4, Cond.arrayClass .long, Cond.arrayClass .double, Cond.methodLink RL 76 yX3_init, Cond.instanceMethod yX3_init, Cond.code yX3_init cX3_init 1 none, Cond.methodLink RX3 3 objectInit, Cond.instanceMethod objectInit, Cond.code objectInit ⟨#[0xb1]⟩ 1 none, Cond.classLink RX3 9 RX1, Cond.instantiable RX1 13, Cond.initialized RX1, Cond.fieldLink RX3 12 "ProtocolMachine" "protocol" "LProtocolMachine$Protocol;", Cond.classLink RX3 16 RX0, Cond.instantiable RX0 10, Cond.initialized RX0, Cond.fieldLink RX3 21 "ProtocolMachine" "execution" "LProtocolMachine$Execution;", Cond.classLink RX3 25 RX2, Cond.instantiable RX2 10]
def wsL_law0_r2 : List Cond := [Cond.initialized RX2, Cond.fieldLink RX3 28 "ProtocolMachine" "table" "LProtocolMachine$Table;", Cond.methodLink RX3 11 yX1_init, Cond.instanceMethod yX1_init, Cond.code yX1_init cX1_init 2 none, Cond.methodLink RX1 3 objectInit, Cond.fieldLink RX1 9 "ProtocolMachine$Protocol" "states" "I", Cond.fieldLink RX1 15 "ProtocolMachine$Protocol" "transitions" "I", Cond.arrayClass .int, Cond.fieldLink RX1 18 "ProtocolMachine$Protocol" "timerEvent" "[I", Cond.fieldLink RX1 22 "ProtocolMachine$Protocol" "from" "[I", Cond.fieldLink RX1 25 "ProtocolMachine$Protocol" "event" "[I", Cond.fieldLink RX1 28 "ProtocolMachine$Protocol" "next" "[I", Cond.fieldLink RX1 31 "ProtocolMachine$Protocol" "variable" "[I", Cond.fieldLink RX1 34 "ProtocolMachine$Protocol" "relation" "[I", Cond.fieldLink RX1 37 "ProtocolMachine$Protocol" "number" "[I", Cond.fieldLink RX1 40 "ProtocolMachine$Protocol" "actions" "[I", Cond.fieldLink RX1 43 "ProtocolMachine$Protocol" "kind" "[I", Cond.fieldLink RX1 46 "ProtocolMachine$Protocol" "a" "[I", Cond.fieldLink RX1 49 "ProtocolMachine$Protocol" "b" "[I", Cond.methodLink RX3 18 yX0_init, Cond.instanceMethod yX0_init, Cond.code yX0_init cX0_init 2 none, Cond.methodLink RX0 3 objectInit]
def wsL_law0_r3 : List Cond := [Cond.fieldLink RX0 9 "ProtocolMachine$Execution" "present" "I", Cond.fieldLink RX0 15 "ProtocolMachine$Execution" "now" "J", Cond.fieldLink RX0 19 "ProtocolMachine$Execution" "emits" "I", Cond.fieldLink RX0 22 "ProtocolMachine$Execution" "kept" "I", Cond.fieldLink RX0 25 "ProtocolMachine$Execution" "ignores" "I", Cond.fieldLink RX0 28 "ProtocolMachine$Execution" "values" "[I", Cond.fieldLink RX0 32 "ProtocolMachine$Execution" "due" "[J", Cond.fieldLink RX0 36 "ProtocolMachine$Execution" "outputs" "[I", Cond.fieldLink RX0 39 "ProtocolMachine$Execution" "fired" "[I", Cond.fieldLink RX0 42 "ProtocolMachine$Execution" "protocol" "LProtocolMachine$Protocol;", Cond.constantLong RX0 46 (-1), Cond.methodLink RX0 48 yJ7_fill_d0a16, Cond.static yJ7_fill_d0a16, Cond.initialized RJ7, Cond.code yJ7_fill_d0a16 cJ7_fill_d0a16 5 none, Cond.methodLink RX3 27 yX2_init, Cond.instanceMethod yX2_init, Cond.code yX2_init cX2_init 2 none, Cond.methodLink RX2 3 objectInit, Cond.fieldLink RX2 9 "ProtocolMachine$Table" "made" "Z", Cond.fieldLink RX2 15 "ProtocolMachine$Table" "classes" "I", Cond.fieldLink RX2 19 "ProtocolMachine$Table" "size" "I", Cond.fieldLink RX2 22 "ProtocolMachine$Table" "taken" "I", Cond.fieldLink RX2 25 "ProtocolMachine$Table" "stateClass" "[I"]
def wsL_law0_r4 : List Cond := [Cond.fieldLink RX2 29 "ProtocolMachine$Table" "finerClass" "[I", Cond.fieldLink RX2 32 "ProtocolMachine$Table" "usedBits" "[I", Cond.fieldLink RX2 35 "ProtocolMachine$Table" "offsets" "[I", Cond.fieldLink RX2 38 "ProtocolMachine$Table" "owners" "[I", Cond.fieldLink RX2 41 "ProtocolMachine$Table" "protocol" "LProtocolMachine$Protocol;", Cond.methodLink RL 79 yX4_init, Cond.instanceMethod yX4_init, Cond.code yX4_init cX4_init 1 none, Cond.methodLink RX4 1 objectInit, Cond.fieldLink RX4 7 "ProtocolMachineModel" "states" "I", Cond.fieldLink RX4 13 "ProtocolMachineModel" "timerEvents" "[I", Cond.fieldLink RX4 17 "ProtocolMachineModel" "froms" "[I", Cond.fieldLink RX4 20 "ProtocolMachineModel" "events" "[I", Cond.fieldLink RX4 23 "ProtocolMachineModel" "variables" "[I", Cond.fieldLink RX4 26 "ProtocolMachineModel" "relations" "[I", Cond.fieldLink RX4 29 "ProtocolMachineModel" "numbers" "[I", Cond.fieldLink RX4 32 "ProtocolMachineModel" "nexts" "[I", Cond.fieldLink RX4 35 "ProtocolMachineModel" "sizes" "[I", Cond.fieldLink RX4 38 "ProtocolMachineModel" "actions" "[I", Cond.fieldLink RX4 41 "ProtocolMachineModel" "fired" "[I", Cond.fieldLink RX4 44 "ProtocolMachineModel" "values" "[I", Cond.arrayClass .boolean, Cond.fieldLink RX4 47 "ProtocolMachineModel" "runs" "[Z", Cond.fieldLink RX4 51 "ProtocolMachineModel" "dues" "[J"]
def wsL_law0_r5 : List Cond := [Cond.fieldLink RX4 55 "ProtocolMachineModel" "output" "[I", Cond.fieldLink RX4 58 "ProtocolMachineModel" "numbersOf" "[I", Cond.fieldLink RX4 61 "ProtocolMachineModel" "offsets" "[I", Cond.fieldLink RX4 64 "ProtocolMachineModel" "useds" "[I", Cond.fieldLink RX4 67 "ProtocolMachineModel" "owners" "[I", Cond.fieldLink RX4 70 "ProtocolMachineModel" "isReached" "[Z", Cond.fieldLink RX4 73 "ProtocolMachineModel" "areApart" "[Z", Cond.methodLink RL 80 yL_addState, Cond.static yL_addState, Cond.initialized RL, Cond.codeWith yL_addState cL_addState 3 (some .int) [(0, 8, 11, 13)], Cond.classLink RL 13 "java/lang/IllegalStateException", Cond.methodLink RL 7 yX3_addState, Cond.instanceMethod yX3_addState, Cond.selects RX3 yX3_addState yX3_addState, Cond.code yX3_addState cX3_addState 1 (some .int), Cond.classLink RX3 36 "java/lang/IllegalStateException", Cond.initialized "java/lang/IllegalStateException", Cond.fieldLink RX3 32 "ProtocolMachine$Protocol" "states" "I", Cond.fieldLink RX3 43 "ProtocolMachine$Table" "made" "Z", Cond.methodLink RL 85 yX4_addState, Cond.instanceMethod yX4_addState, Cond.selects RX4 yX4_addState yX4_addState, Cond.code yX4_addState cX4_addState 1 (some .int)]
def wsL_law0_r6 : List Cond := [Cond.fieldLink RX4 76 "ProtocolMachineModel" "thrown" "I", Cond.fieldLink RX4 90 "ProtocolMachineModel" "isCompiled" "Z", Cond.methodLink RX4 86 yX4_fail, Cond.instanceMethod yX4_fail, Cond.selects RX4 yX4_fail yX4_fail, Cond.code yX4_fail cX4_fail 2 (some .int), Cond.methodLink RL 86 yX4_thrown, Cond.instanceMethod yX4_thrown, Cond.selects RX4 yX4_thrown yX4_thrown, Cond.code yX4_thrown cX4_thrown 1 (some .int), Cond.methodLink RL 89 yL_addTransition, Cond.static yL_addTransition, Cond.codeWith yL_addTransition cL_addTransition 9 (some .int) [(0, 18, 21, 19), (0, 18, 25, 21), (0, 18, 29, 13)], Cond.classLink RL 19 "java/lang/IndexOutOfBoundsException", Cond.classLink RL 21 "java/lang/IllegalArgumentException", Cond.methodLink RL 15 yX3_addTransition, Cond.instanceMethod yX3_addTransition, Cond.selects RX3 yX3_addTransition yX3_addTransition, Cond.code yX3_addTransition cX3_addTransition 8 (some .int), Cond.classLink RX3 51 "java/lang/IndexOutOfBoundsException", Cond.initialized "java/lang/IndexOutOfBoundsException", Cond.classLink RX3 64 "java/lang/IllegalArgumentException", Cond.initialized "java/lang/IllegalArgumentException", Cond.fieldLink RX3 69 "ProtocolMachine$Protocol" "transitions" "I"]
def wsL_law0_r7 : List Cond := [Cond.fieldLink RX3 82 "ProtocolMachine$Execution" "fired" "[I", Cond.methodLink RX3 47 yX3_isBelow, Cond.static yX3_isBelow, Cond.code yX3_isBelow cX3_isBelow 2 (some .boolean), Cond.methodLink RX3 60 yX3_isNumber, Cond.static yX3_isNumber, Cond.code yX3_isNumber cX3_isNumber 1 (some .boolean), Cond.methodLink RX3 74 yX1_append, Cond.instanceMethod yX1_append, Cond.selects RX1 yX1_append yX1_append, Cond.code yX1_append cX1_append 5 (some .int), Cond.methodLink RX3 78 yX1_guard, Cond.instanceMethod yX1_guard, Cond.selects RX1 yX1_guard yX1_guard, Cond.code yX1_guard cX1_guard 5 none, Cond.methodLink RL 92 yX4_addTransition, Cond.instanceMethod yX4_addTransition, Cond.selects RX4 yX4_addTransition yX4_addTransition, Cond.code yX4_addTransition cX4_addTransition 7 (some .int), Cond.fieldLink RX4 83 "ProtocolMachineModel" "transitions" "I", Cond.methodLink RX4 94 yX4_isState, Cond.instanceMethod yX4_isState, Cond.selects RX4 yX4_isState yX4_isState, Cond.code yX4_isState cX4_isState 2 (some .boolean)]
def wsL_law0_r8 : List Cond := [Cond.methodLink RX4 79 yX4_isIn, Cond.static yX4_isIn, Cond.code yX4_isIn cX4_isIn 3 (some .boolean), Cond.methodLink RX4 98 yX4_isEvent, Cond.static yX4_isEvent, Cond.code yX4_isEvent cX4_isEvent 1 (some .boolean), Cond.methodLink RX4 101 yX4_isNumber, Cond.static yX4_isNumber, Cond.code yX4_isNumber cX4_isNumber 1 (some .boolean), Cond.methodLink RL 93 yL_addAction, Cond.static yL_addAction, Cond.codeWith yL_addAction cL_addAction 7 (some .int) [(0, 14, 17, 19), (0, 14, 21, 21), (0, 14, 25, 13)], Cond.methodLink RL 23 yX3_addAction, Cond.instanceMethod yX3_addAction, Cond.selects RX3 yX3_addAction yX3_addAction, Cond.code yX3_addAction cX3_addAction 5 (some .int), Cond.fieldLink RX3 94 "ProtocolMachine$Protocol" "actions" "[I", Cond.methodLink RX3 88 yX3_isAction, Cond.static yX3_isAction, Cond.code yX3_isAction cX3_isAction 3 (some .boolean), Cond.methodLink RX3 99 yX1_appendAction, Cond.instanceMethod yX1_appendAction, Cond.selects RX1 yX1_appendAction yX1_appendAction, Cond.code yX1_appendAction cX1_appendAction 6 (some .int)]
def wsL_law0_r9 : List Cond := [Cond.methodLink RL 96 yX4_addAction, Cond.instanceMethod yX4_addAction, Cond.selects RX4 yX4_addAction yX4_addAction, Cond.code yX4_addAction cX4_addAction 7 (some .int), Cond.methodLink RX4 104 yX4_isTransition, Cond.instanceMethod yX4_isTransition, Cond.selects RX4 yX4_isTransition yX4_isTransition, Cond.code yX4_isTransition cX4_isTransition 2 (some .boolean), Cond.methodLink RL 97 yL_drop, Cond.static yL_drop, Cond.codeWith yL_drop cL_drop 3 (some .int) [(0, 8, 11, 13)], Cond.methodLink RL 27 yX3_drop, Cond.instanceMethod yX3_drop, Cond.selects RX3 yX3_drop yX3_drop, Cond.code yX3_drop cX3_drop 1 (some .int), Cond.methodLink RL 99 yX4_drop, Cond.instanceMethod yX4_drop, Cond.selects RX4 yX4_drop yX4_drop, Cond.code yX4_drop cX4_drop 1 (some .int), Cond.methodLink RL 100 yL_setTimerEvent, Cond.static yL_setTimerEvent, Cond.codeWith yL_setTimerEvent cL_setTimerEvent 5 (some .int) [(0, 10, 13, 19)], Cond.methodLink RL 30 yX3_setTimerEvent, Cond.instanceMethod yX3_setTimerEvent]
def wsL_law0_r10 : List Cond := [Cond.selects RX3 yX3_setTimerEvent yX3_setTimerEvent, Cond.code yX3_setTimerEvent cX3_setTimerEvent 4 (some .int), Cond.fieldLink RX3 107 "ProtocolMachine$Protocol" "timerEvent" "[I", Cond.methodLink RL 103 yX4_setTimerEvent, Cond.instanceMethod yX4_setTimerEvent, Cond.selects RX4 yX4_setTimerEvent yX4_setTimerEvent, Cond.code yX4_setTimerEvent cX4_setTimerEvent 4 (some .int), Cond.methodLink RL 104 yX3_stateCount, Cond.instanceMethod yX3_stateCount, Cond.selects RX3 yX3_stateCount yX3_stateCount, Cond.code yX3_stateCount cX3_stateCount 1 (some .int), Cond.methodLink RL 107 yX4_stateCount, Cond.instanceMethod yX4_stateCount, Cond.selects RX4 yX4_stateCount yX4_stateCount, Cond.code yX4_stateCount cX4_stateCount 1 (some .int), Cond.methodLink RL 108 yX3_transitionCount, Cond.instanceMethod yX3_transitionCount, Cond.selects RX3 yX3_transitionCount yX3_transitionCount, Cond.code yX3_transitionCount cX3_transitionCount 1 (some .int), Cond.methodLink RL 111 yX4_transitionCount, Cond.instanceMethod yX4_transitionCount, Cond.selects RX4 yX4_transitionCount yX4_transitionCount, Cond.code yX4_transitionCount cX4_transitionCount 1 (some .int), Cond.methodLink RL 112 yL_isHidden]
def wsL_law0_r11 : List Cond := [Cond.static yL_isHidden, Cond.codeWith yL_isHidden cL_isHidden 4 (some .int) [(0, 16, 19, 19)], Cond.methodLink RL 34 yX3_isHidden, Cond.instanceMethod yX3_isHidden, Cond.selects RX3 yX3_isHidden yX3_isHidden, Cond.code yX3_isHidden cX3_isHidden 2 (some .boolean), Cond.methodLink RX3 110 yX1_isBehindAnother, Cond.instanceMethod yX1_isBehindAnother, Cond.selects RX1 yX1_isBehindAnother yX1_isBehindAnother, Cond.code yX1_isBehindAnother cX1_isBehindAnother 3 (some .boolean), Cond.methodLink RX1 52 yX1_covers, Cond.instanceMethod yX1_covers, Cond.selects RX1 yX1_covers yX1_covers, Cond.code yX1_covers cX1_covers 5 (some .boolean), Cond.methodLink RX1 56 yX1_lowest, Cond.instanceMethod yX1_lowest, Cond.selects RX1 yX1_lowest yX1_lowest, Cond.code yX1_lowest cX1_lowest 2 (some .int), Cond.methodLink RX1 60 yX1_highest, Cond.instanceMethod yX1_highest, Cond.selects RX1 yX1_highest yX1_highest, Cond.code yX1_highest cX1_highest 2 (some .int), Cond.methodLink RL 115 yX4_isHidden, Cond.instanceMethod yX4_isHidden]
def wsL_law0_r12 : List Cond := [Cond.selects RX4 yX4_isHidden yX4_isHidden, Cond.code yX4_isHidden cX4_isHidden 4 (some .boolean), Cond.methodLink RX4 111 yX4_hides, Cond.instanceMethod yX4_hides, Cond.selects RX4 yX4_hides yX4_hides, Cond.code yX4_hides cX4_hides 5 (some .boolean), Cond.methodLink RX4 107 yX4_isTrue, Cond.instanceMethod yX4_isTrue, Cond.selects RX4 yX4_isTrue yX4_isTrue, Cond.code yX4_isTrue cX4_isTrue 3 (some .boolean), Cond.methodLink RL 116 yX3_restart, Cond.instanceMethod yX3_restart, Cond.selects RX3 yX3_restart yX3_restart, Cond.code yX3_restart cX3_restart 3 (some .long), Cond.fieldLink RX3 113 "ProtocolMachine$Execution" "now" "J", Cond.methodLink RX3 117 yX0_begin, Cond.instanceMethod yX0_begin, Cond.selects RX0 yX0_begin yX0_begin, Cond.code yX0_begin cX0_begin 1 none, Cond.methodLink RX0 54 yJ7_fill_53178, Cond.static yJ7_fill_53178, Cond.code yJ7_fill_53178 cJ7_fill_53178 4 none, Cond.methodLink RL 120 yX4_restart, Cond.instanceMethod yX4_restart]
def wsL_law0_r13 : List Cond := [Cond.selects RX4 yX4_restart yX4_restart, Cond.code yX4_restart cX4_restart 4 (some .long), Cond.fieldLink RX4 114 "ProtocolMachineModel" "time" "J", Cond.fieldLink RX4 118 "ProtocolMachineModel" "state" "I", Cond.fieldLink RX4 121 "ProtocolMachineModel" "emitted" "I", Cond.fieldLink RX4 124 "ProtocolMachineModel" "ignored" "I", Cond.methodLink RL 121 yL_happen, Cond.static yL_happen, Cond.codeWith yL_happen cL_happen 4 (some .int) [(0, 9, 12, 19)], Cond.methodLink RL 38 yX3_happen, Cond.instanceMethod yX3_happen, Cond.selects RX3 yX3_happen yX3_happen, Cond.code yX3_happen cX3_happen 2 (some .int), Cond.methodLink RX3 120 yX0_react, Cond.instanceMethod yX0_react, Cond.selects RX0 yX0_react yX0_react, Cond.code yX0_react cX0_react 4 (some .int), Cond.fieldLink RX0 61 "ProtocolMachine$Protocol" "actions" "[I", Cond.fieldLink RX0 70 "ProtocolMachine$Protocol" "next" "[I", Cond.methodLink RX0 57 yX0_firstTrue, Cond.instanceMethod yX0_firstTrue, Cond.selects RX0 yX0_firstTrue yX0_firstTrue, Cond.code yX0_firstTrue cX0_firstTrue 4 (some .int), Cond.methodLink RX0 73 yX1_firstBehind]
def wsL_law0_r14 : List Cond := [Cond.instanceMethod yX1_firstBehind, Cond.selects RX1 yX1_firstBehind yX1_firstBehind, Cond.code yX1_firstBehind cX1_firstBehind 5 (some .int), Cond.methodLink RX0 77 yX0_isTrue, Cond.instanceMethod yX0_isTrue, Cond.selects RX0 yX0_isTrue yX0_isTrue, Cond.code yX0_isTrue cX0_isTrue 3 (some .boolean), Cond.fieldLink RX0 81 "ProtocolMachine$Protocol" "variable" "[I", Cond.methodLink RX0 84 yX1_lowest, Cond.methodLink RX0 87 yX1_highest, Cond.methodLink RX0 66 yX0_act, Cond.instanceMethod yX0_act, Cond.selects RX0 yX0_act yX0_act, Cond.code yX0_act cX0_act 4 none, Cond.fieldLink RX0 90 "ProtocolMachine$Protocol" "a" "[I", Cond.fieldLink RX0 93 "ProtocolMachine$Protocol" "b" "[I", Cond.fieldLink RX0 96 "ProtocolMachine$Protocol" "kind" "[I", Cond.methodLink RX0 99 Lib.Math.min.name, Cond.static Lib.Math.min.name, Cond.initialized "java/lang/Math", Cond.code Lib.Math.min.name Lib.Math.min.code 2 (some .int), Cond.methodLink RX0 105 Lib.Math.max.name, Cond.static Lib.Math.max.name, Cond.code Lib.Math.max.name Lib.Math.max.code 2 (some .int)]
def wsL_law0_r15 : List Cond := [Cond.methodLink RX0 108 yX0_emit, Cond.instanceMethod yX0_emit, Cond.selects RX0 yX0_emit yX0_emit, Cond.code yX0_emit cX0_emit 2 none, Cond.methodLink RL 123 yX4_happen, Cond.instanceMethod yX4_happen, Cond.selects RX4 yX4_happen yX4_happen, Cond.code yX4_happen cX4_happen 2 (some .int), Cond.methodLink RX4 140 yX4_fire, Cond.instanceMethod yX4_fire, Cond.selects RX4 yX4_fire yX4_fire, Cond.code yX4_fire cX4_fire 5 (some .int), Cond.methodLink RX4 136 yX4_act, Cond.instanceMethod yX4_act, Cond.selects RX4 yX4_act yX4_act, Cond.code yX4_act cX4_act 4 none, Cond.methodLink RX4 127 Lib.Math.min.name, Cond.methodLink RX4 133 Lib.Math.max.name, Cond.methodLink RL 124 yL_advance, Cond.static yL_advance, Cond.codeWith yL_advance cL_advance 4 (some .int) [(0, 9, 12, 21)], Cond.methodLink RL 42 yX3_advance, Cond.instanceMethod yX3_advance, Cond.selects RX3 yX3_advance yX3_advance]
def wsL_law0_r16 : List Cond := [Cond.code yX3_advance cX3_advance 2 (some .int), Cond.methodLink RX3 126 yX0_goOn, Cond.instanceMethod yX0_goOn, Cond.selects RX0 yX0_goOn yX0_goOn, Cond.code yX0_goOn cX0_goOn 6 (some .int), Cond.fieldLink RX0 115 "ProtocolMachine$Protocol" "timerEvent" "[I", Cond.methodLink RX0 111 yX0_firstDue, Cond.instanceMethod yX0_firstDue, Cond.selects RX0 yX0_firstDue yX0_firstDue, Cond.code yX0_firstDue cX0_firstDue 6 (some .int), Cond.methodLink RX0 118 yX0_react, Cond.methodLink RL 126 yX4_advance, Cond.instanceMethod yX4_advance, Cond.selects RX4 yX4_advance yX4_advance, Cond.code yX4_advance cX4_advance 6 (some .int), Cond.methodLink RX4 143 yX4_nextTimer, Cond.instanceMethod yX4_nextTimer, Cond.selects RX4 yX4_nextTimer yX4_nextTimer, Cond.code yX4_nextTimer cX4_nextTimer 5 (some .int), Cond.methodLink RL 127 yX3_state, Cond.instanceMethod yX3_state, Cond.selects RX3 yX3_state yX3_state, Cond.code yX3_state cX3_state 1 (some .int), Cond.fieldLink RX3 129 "ProtocolMachine$Execution" "present" "I"]
def wsL_law0_r17 : List Cond := [Cond.methodLink RL 130 yX4_state, Cond.instanceMethod yX4_state, Cond.selects RX4 yX4_state yX4_state, Cond.code yX4_state cX4_state 1 (some .int), Cond.methodLink RL 131 yX3_time, Cond.instanceMethod yX3_time, Cond.selects RX3 yX3_time yX3_time, Cond.code yX3_time cX3_time 1 (some .long), Cond.methodLink RL 134 yX4_time, Cond.instanceMethod yX4_time, Cond.selects RX4 yX4_time yX4_time, Cond.code yX4_time cX4_time 1 (some .long), Cond.methodLink RL 135 yL_value, Cond.static yL_value, Cond.codeWith yL_value cL_value 4 (some .int) [(0, 9, 12, 19)], Cond.methodLink RL 45 yX3_value, Cond.instanceMethod yX3_value, Cond.selects RX3 yX3_value yX3_value, Cond.code yX3_value cX3_value 2 (some .int), Cond.fieldLink RX3 132 "ProtocolMachine$Execution" "values" "[I", Cond.methodLink RL 137 yX4_value, Cond.instanceMethod yX4_value, Cond.selects RX4 yX4_value yX4_value, Cond.code yX4_value cX4_value 2 (some .int)]
def wsL_law0_r18 : List Cond := [Cond.methodLink RL 138 yL_left, Cond.static yL_left, Cond.codeWith yL_left cL_left 4 (some .int) [(0, 9, 12, 19)], Cond.methodLink RL 48 yX3_left, Cond.instanceMethod yX3_left, Cond.selects RX3 yX3_left yX3_left, Cond.code yX3_left cX3_left 2 (some .int), Cond.methodLink RX3 137 yX0_ticksLeft, Cond.instanceMethod yX0_ticksLeft, Cond.selects RX0 yX0_ticksLeft yX0_ticksLeft, Cond.code yX0_ticksLeft cX0_ticksLeft 2 (some .int), Cond.methodLink RL 140 yX4_left, Cond.instanceMethod yX4_left, Cond.selects RX4 yX4_left yX4_left, Cond.code yX4_left cX4_left 2 (some .int), Cond.methodLink RX4 147 yX4_leftOf, Cond.instanceMethod yX4_leftOf, Cond.selects RX4 yX4_leftOf yX4_leftOf, Cond.code yX4_leftOf cX4_leftOf 2 (some .int), Cond.methodLink RL 141 yX3_emitted, Cond.instanceMethod yX3_emitted, Cond.selects RX3 yX3_emitted yX3_emitted, Cond.code yX3_emitted cX3_emitted 1 (some .int), Cond.fieldLink RX3 140 "ProtocolMachine$Execution" "emits" "I"]
def wsL_law0_r19 : List Cond := [Cond.methodLink RL 144 yX4_emitted, Cond.instanceMethod yX4_emitted, Cond.selects RX4 yX4_emitted yX4_emitted, Cond.code yX4_emitted cX4_emitted 1 (some .int), Cond.methodLink RL 145 yL_output, Cond.static yL_output, Cond.codeWith yL_output cL_output 4 (some .int) [(0, 9, 12, 19)], Cond.methodLink RL 51 yX3_output, Cond.instanceMethod yX3_output, Cond.selects RX3 yX3_output yX3_output, Cond.code yX3_output cX3_output 2 (some .int), Cond.fieldLink RX3 143 "ProtocolMachine$Execution" "kept" "I", Cond.fieldLink RX3 148 "ProtocolMachine$Execution" "outputs" "[I", Cond.methodLink RL 147 yX4_output, Cond.instanceMethod yX4_output, Cond.selects RX4 yX4_output yX4_output, Cond.code yX4_output cX4_output 2 (some .int), Cond.methodLink RL 148 yL_fired, Cond.static yL_fired, Cond.codeWith yL_fired cL_fired 4 (some .int) [(0, 9, 12, 19)], Cond.methodLink RL 54 yX3_fired, Cond.instanceMethod yX3_fired, Cond.selects RX3 yX3_fired yX3_fired, Cond.code yX3_fired cX3_fired 2 (some .int)]
def wsL_law0_r20 : List Cond := [Cond.methodLink RL 150 yX4_fired, Cond.instanceMethod yX4_fired, Cond.selects RX4 yX4_fired yX4_fired, Cond.code yX4_fired cX4_fired 2 (some .int), Cond.methodLink RL 151 yX3_ignored, Cond.instanceMethod yX3_ignored, Cond.selects RX3 yX3_ignored yX3_ignored, Cond.code yX3_ignored cX3_ignored 1 (some .int), Cond.fieldLink RX3 151 "ProtocolMachine$Execution" "ignores" "I", Cond.methodLink RL 154 yX4_ignored, Cond.instanceMethod yX4_ignored, Cond.selects RX4 yX4_ignored yX4_ignored, Cond.code yX4_ignored cX4_ignored 1 (some .int), Cond.methodLink RL 155 yX3_compile, Cond.instanceMethod yX3_compile, Cond.selects RX3 yX3_compile yX3_compile, Cond.code yX3_compile cX3_compile 1 (some .int), Cond.fieldLink RX3 157 "ProtocolMachine$Table" "classes" "I", Cond.methodLink RX3 154 yX2_make, Cond.instanceMethod yX2_make, Cond.selects RX2 yX2_make yX2_make, Cond.code yX2_make cX2_make 3 none, Cond.methodLink RX2 45 yX2_putReachedIntoOneClass, Cond.instanceMethod yX2_putReachedIntoOneClass]
def wsL_law0_r21 : List Cond := [Cond.selects RX2 yX2_putReachedIntoOneClass yX2_putReachedIntoOneClass, Cond.code yX2_putReachedIntoOneClass cX2_putReachedIntoOneClass 3 none, Cond.fieldLink RX2 64 "ProtocolMachine$Protocol" "states" "I", Cond.fieldLink RX2 69 "ProtocolMachine$Protocol" "transitions" "I", Cond.fieldLink RX2 72 "ProtocolMachine$Protocol" "from" "[I", Cond.fieldLink RX2 75 "ProtocolMachine$Protocol" "next" "[I", Cond.methodLink RX2 58 yJ7_fill_53178, Cond.methodLink RX2 48 yX2_splitOnce, Cond.instanceMethod yX2_splitOnce, Cond.selects RX2 yX2_splitOnce yX2_splitOnce, Cond.code yX2_splitOnce cX2_splitOnce 4 (some .int), Cond.methodLink RX2 82 arraycopyName, Cond.native arraycopyName, Cond.static arraycopyName, Cond.initialized "java/lang/System", Cond.methodLink RX2 78 yX2_earlierTwin, Cond.instanceMethod yX2_earlierTwin, Cond.selects RX2 yX2_earlierTwin yX2_earlierTwin, Cond.code yX2_earlierTwin cX2_earlierTwin 3 (some .int), Cond.methodLink RX2 88 yX2_haveSameRows, Cond.instanceMethod yX2_haveSameRows, Cond.selects RX2 yX2_haveSameRows yX2_haveSameRows, Cond.code yX2_haveSameRows cX2_haveSameRows 4 (some .boolean), Cond.methodLink RX2 92 yX2_haveSameCells]
def wsL_law0_r22 : List Cond := [Cond.instanceMethod yX2_haveSameCells, Cond.selects RX2 yX2_haveSameCells yX2_haveSameCells, Cond.code yX2_haveSameCells cX2_haveSameCells 8 (some .boolean), Cond.methodLink RX2 96 yX1_firstBehind, Cond.methodLink RX2 100 yX1_doTheSame, Cond.instanceMethod yX1_doTheSame, Cond.selects RX1 yX1_doTheSame yX1_doTheSame, Cond.code yX1_doTheSame cX1_doTheSame 7 (some .boolean), Cond.methodLink RX2 52 yX2_findUsedCells, Cond.instanceMethod yX2_findUsedCells, Cond.selects RX2 yX2_findUsedCells yX2_findUsedCells, Cond.code yX2_findUsedCells cX2_findUsedCells 3 none, Cond.fieldLink RX2 103 "ProtocolMachine$Protocol" "event" "[I", Cond.methodLink RX2 55 yX2_layRows, Cond.instanceMethod yX2_layRows, Cond.selects RX2 yX2_layRows yX2_layRows, Cond.code yX2_layRows cX2_layRows 3 none, Cond.methodLink RX2 111 yX2_usedCells, Cond.instanceMethod yX2_usedCells, Cond.selects RX2 yX2_usedCells yX2_usedCells, Cond.code yX2_usedCells cX2_usedCells 2 (some .int), Cond.methodLink RX2 106 yJ6_bitCount_0f7a4, Cond.static yJ6_bitCount_0f7a4, Cond.initialized RJ6]
def wsL_law0_r23 : List Cond := [Cond.code yJ6_bitCount_0f7a4 cJ6_bitCount_0f7a4 1 (some .int), Cond.constant RJ6 265 (1431655765), Cond.constant RJ6 266 (858993459), Cond.constant RJ6 267 (252645135), Cond.methodLink RX2 114 yX2_layRow, Cond.instanceMethod yX2_layRow, Cond.selects RX2 yX2_layRow yX2_layRow, Cond.code yX2_layRow cX2_layRow 4 none, Cond.methodLink RX2 124 Lib.Math.max.name, Cond.methodLink RX2 118 yX2_isFree, Cond.instanceMethod yX2_isFree, Cond.selects RX2 yX2_isFree yX2_isFree, Cond.code yX2_isFree cX2_isFree 4 (some .boolean), Cond.methodLink RX2 121 yX2_isUsed, Cond.instanceMethod yX2_isUsed, Cond.selects RX2 yX2_isUsed yX2_isUsed, Cond.code yX2_isUsed cX2_isUsed 3 (some .boolean), Cond.methodLink RL 158 yX4_compile, Cond.instanceMethod yX4_compile, Cond.selects RX4 yX4_compile yX4_compile, Cond.code yX4_compile cX4_compile 1 (some .int), Cond.fieldLink RX4 172 "ProtocolMachineModel" "classes" "I", Cond.methodLink RX4 187 yX4_make, Cond.instanceMethod yX4_make]
def wsL_law0_r24 : List Cond := [Cond.selects RX4 yX4_make yX4_make, Cond.code yX4_make cX4_make 4 none, Cond.fieldLink RX4 163 "ProtocolMachineModel" "tableSize" "I", Cond.methodLink RX4 166 yX4_reach, Cond.instanceMethod yX4_reach, Cond.selects RX4 yX4_reach yX4_reach, Cond.code yX4_reach cX4_reach 3 none, Cond.methodLink RX4 169 yX4_takeApart, Cond.instanceMethod yX4_takeApart, Cond.selects RX4 yX4_takeApart yX4_takeApart, Cond.code yX4_takeApart cX4_takeApart 4 none, Cond.methodLink RX4 157 yX4_areDifferent, Cond.instanceMethod yX4_areDifferent, Cond.selects RX4 yX4_areDifferent yX4_areDifferent, Cond.code yX4_areDifferent cX4_areDifferent 7 (some .boolean), Cond.methodLink RX4 150 yX4_transition, Cond.instanceMethod yX4_transition, Cond.selects RX4 yX4_transition yX4_transition, Cond.code yX4_transition cX4_transition 6 (some .int), Cond.methodLink RX4 154 yX4_areAlike, Cond.instanceMethod yX4_areAlike, Cond.selects RX4 yX4_areAlike yX4_areAlike, Cond.code yX4_areAlike cX4_areAlike 5 (some .boolean), Cond.methodLink RX4 175 yX4_usedEvents]
def wsL_law0_r25 : List Cond := [Cond.instanceMethod yX4_usedEvents, Cond.selects RX4 yX4_usedEvents yX4_usedEvents, Cond.code yX4_usedEvents cX4_usedEvents 4 (some .int), Cond.methodLink RX4 178 yJ6_bitCount_0f7a4, Cond.methodLink RX4 183 yX4_lay, Cond.instanceMethod yX4_lay, Cond.selects RX4 yX4_lay yX4_lay, Cond.code yX4_lay cX4_lay 5 none, Cond.methodLink RX4 160 yX4_fits, Cond.instanceMethod yX4_fits, Cond.selects RX4 yX4_fits yX4_fits, Cond.code yX4_fits cX4_fits 5 (some .boolean), Cond.methodLink RL 159 yX3_isCompiled, Cond.instanceMethod yX3_isCompiled, Cond.selects RX3 yX3_isCompiled yX3_isCompiled, Cond.code yX3_isCompiled cX3_isCompiled 1 (some .boolean), Cond.methodLink RL 163 yX4_isCompiled, Cond.instanceMethod yX4_isCompiled, Cond.selects RX4 yX4_isCompiled yX4_isCompiled, Cond.code yX4_isCompiled cX4_isCompiled 1 (some .boolean), Cond.methodLink RL 164 yL_classOf, Cond.static yL_classOf, Cond.codeWith yL_classOf cL_classOf 4 (some .int) [(0, 9, 12, 13), (0, 9, 15, 19)], Cond.methodLink RL 57 yX3_classOf]
def wsL_law0_r26 : List Cond := [Cond.instanceMethod yX3_classOf, Cond.selects RX3 yX3_classOf yX3_classOf, Cond.code yX3_classOf cX3_classOf 2 (some .int), Cond.fieldLink RX3 163 "ProtocolMachine$Table" "stateClass" "[I", Cond.methodLink RX3 160 yX3_needTable, Cond.instanceMethod yX3_needTable, Cond.selects RX3 yX3_needTable yX3_needTable, Cond.code yX3_needTable cX3_needTable 1 none, Cond.methodLink RL 166 yX4_classOf, Cond.instanceMethod yX4_classOf, Cond.selects RX4 yX4_classOf yX4_classOf, Cond.code yX4_classOf cX4_classOf 2 (some .int), Cond.methodLink RX4 190 yX4_asks, Cond.instanceMethod yX4_asks, Cond.selects RX4 yX4_asks yX4_asks, Cond.code yX4_asks cX4_asks 3 (some .boolean), Cond.methodLink RL 167 yL_offset, Cond.static yL_offset, Cond.codeWith yL_offset cL_offset 4 (some .int) [(0, 9, 12, 13), (0, 9, 15, 19)], Cond.methodLink RL 60 yX3_offset, Cond.instanceMethod yX3_offset, Cond.selects RX3 yX3_offset yX3_offset, Cond.code yX3_offset cX3_offset 2 (some .int), Cond.fieldLink RX3 170 "ProtocolMachine$Table" "offsets" "[I"]
def wsL_law0_r27 : List Cond := [Cond.methodLink RX3 166 yX3_needClass, Cond.instanceMethod yX3_needClass, Cond.selects RX3 yX3_needClass yX3_needClass, Cond.code yX3_needClass cX3_needClass 2 none, Cond.methodLink RL 169 yX4_offset, Cond.instanceMethod yX4_offset, Cond.selects RX4 yX4_offset yX4_offset, Cond.code yX4_offset cX4_offset 2 (some .int), Cond.methodLink RL 170 yL_used, Cond.static yL_used, Cond.codeWith yL_used cL_used 4 (some .int) [(0, 9, 12, 13), (0, 9, 15, 19)], Cond.methodLink RL 63 yX3_used, Cond.instanceMethod yX3_used, Cond.selects RX3 yX3_used yX3_used, Cond.code yX3_used cX3_used 2 (some .int), Cond.methodLink RX3 173 yX2_usedCells, Cond.methodLink RL 172 yX4_used, Cond.instanceMethod yX4_used, Cond.selects RX4 yX4_used yX4_used, Cond.code yX4_used cX4_used 2 (some .int), Cond.methodLink RL 173 yL_tableSize, Cond.static yL_tableSize, Cond.codeWith yL_tableSize cL_tableSize 3 (some .int) [(0, 8, 11, 13)], Cond.methodLink RL 66 yX3_tableSize]
def wsL_law0_r28 : List Cond := [Cond.instanceMethod yX3_tableSize, Cond.selects RX3 yX3_tableSize yX3_tableSize, Cond.code yX3_tableSize cX3_tableSize 1 (some .int), Cond.fieldLink RX3 176 "ProtocolMachine$Table" "size" "I", Cond.methodLink RL 175 yX4_tableSize, Cond.instanceMethod yX4_tableSize, Cond.selects RX4 yX4_tableSize yX4_tableSize, Cond.code yX4_tableSize cX4_tableSize 1 (some .int), Cond.methodLink RL 176 yL_owner, Cond.static yL_owner, Cond.codeWith yL_owner cL_owner 4 (some .int) [(0, 9, 12, 13), (0, 9, 15, 19)], Cond.methodLink RL 69 yX3_owner, Cond.instanceMethod yX3_owner, Cond.selects RX3 yX3_owner yX3_owner, Cond.code yX3_owner cX3_owner 2 (some .int), Cond.fieldLink RX3 181 "ProtocolMachine$Table" "owners" "[I", Cond.methodLink RL 178 yX4_owner, Cond.instanceMethod yX4_owner, Cond.selects RX4 yX4_owner yX4_owner, Cond.code yX4_owner cX4_owner 2 (some .int), Cond.methodLink RL 179 yL_density, Cond.static yL_density, Cond.codeWith yL_density cL_density 3 (some .int) [(0, 7, 10, 13)], Cond.methodLink RL 72 yX3_density]
def wsL_law0_r29 : List Cond := [Cond.instanceMethod yX3_density, Cond.selects RX3 yX3_density yX3_density, Cond.code yX3_density cX3_density 1 (some .double), Cond.fieldLink RX3 184 "ProtocolMachine$Table" "taken" "I", Cond.methodLink RL 182 yX4_density, Cond.instanceMethod yX4_density, Cond.selects RX4 yX4_density yX4_density, Cond.code yX4_density cX4_density 3 (some .double), Cond.methodLink RL 183 yX3_digest, Cond.instanceMethod yX3_digest, Cond.selects RX3 yX3_digest yX3_digest, Cond.code yX3_digest cX3_digest 4 (some .long), Cond.constantLong RX3 187 (127), Cond.fieldLink RX3 193 "ProtocolMachine$Protocol" "from" "[I", Cond.fieldLink RX3 196 "ProtocolMachine$Protocol" "event" "[I", Cond.fieldLink RX3 199 "ProtocolMachine$Protocol" "next" "[I", Cond.methodLink RX3 189 yX3_mix, Cond.static yX3_mix, Cond.code yX3_mix cX3_mix 4 (some .long), Cond.constantLong RX3 209 (31), Cond.methodLink RX3 202 yX3_mixExecution, Cond.instanceMethod yX3_mixExecution, Cond.selects RX3 yX3_mixExecution yX3_mixExecution, Cond.code yX3_mixExecution cX3_mixExecution 6 (some .long)]
def wsL_law0_r30 : List Cond := [Cond.methodLink RX3 206 yX3_mixTable, Cond.instanceMethod yX3_mixTable, Cond.selects RX3 yX3_mixTable yX3_mixTable, Cond.code yX3_mixTable cX3_mixTable 6 (some .long), Cond.methodLink RL 186 yX4_digest, Cond.instanceMethod yX4_digest, Cond.selects RX4 yX4_digest yX4_digest, Cond.code yX4_digest cX4_digest 4 (some .long), Cond.constantLong RX4 193 (3937), Cond.constantLong RX4 195 (31)]
def wsL_law0 : List Cond := (wsL_law0_r1 ++ (wsL_law0_r2 ++ (wsL_law0_r3 ++ (wsL_law0_r4 ++ (wsL_law0_r5 ++ (wsL_law0_r6 ++ (wsL_law0_r7 ++ (wsL_law0_r8 ++ (wsL_law0_r9 ++ (wsL_law0_r10 ++ (wsL_law0_r11 ++ (wsL_law0_r12 ++ (wsL_law0_r13 ++ (wsL_law0_r14 ++ (wsL_law0_r15 ++ (wsL_law0_r16 ++ (wsL_law0_r17 ++ (wsL_law0_r18 ++ (wsL_law0_r19 ++ (wsL_law0_r20 ++ (wsL_law0_r21 ++ (wsL_law0_r22 ++ (wsL_law0_r23 ++ (wsL_law0_r24 ++ (wsL_law0_r25 ++ (wsL_law0_r26 ++ (wsL_law0_r27 ++ (wsL_law0_r28 ++ (wsL_law0_r29 ++ wsL_law0_r30))))))))))))))))))))))))))))) ++ wsX30 ++ wsX40 ++ wsX10 ++ wsX00 ++ wsX20 ++ ([] : List Cond)
def wsL_law : List Cond := wsL_law0 ++ (vx_atS RX3 40 "java/lang/IllegalStateException" ["java/lang/RuntimeException", "java/lang/Exception"]).filter goodWord ++ (vx_atS RX3 55 "java/lang/IndexOutOfBoundsException" ["java/lang/RuntimeException", "java/lang/Exception"]).filter goodWord ++ (vx_atS RX3 68 "java/lang/IllegalArgumentException" ["java/lang/RuntimeException", "java/lang/Exception"]).filter goodWord
theorem wsL_ap {a b T : List Cond} (ha : ∀ w ∈ a, w ∈ T) (hb : ∀ w ∈ b, w ∈ T) : ∀ w ∈ a ++ b, w ∈ T := fun w h => (List.mem_append.mp h).elim (ha w) (hb w)
set_option maxRecDepth 20000 in
theorem wsL_q1 : ∀ w ∈ wsL_law0_r1, w ∈ lw_tbl := by decide +kernel
set_option maxRecDepth 20000 in
theorem wsL_q2 : ∀ w ∈ wsL_law0_r2, w ∈ lw_tbl := by decide +kernel
set_option maxRecDepth 20000 in
theorem wsL_q3 : ∀ w ∈ wsL_law0_r3, w ∈ lw_tbl := by decide +kernel
set_option maxRecDepth 20000 in
theorem wsL_q4 : ∀ w ∈ wsL_law0_r4, w ∈ lw_tbl := by decide +kernel
set_option maxRecDepth 20000 in
theorem wsL_q5 : ∀ w ∈ wsL_law0_r5, w ∈ lw_tbl := by decide +kernel
set_option maxRecDepth 20000 in
theorem wsL_q6 : ∀ w ∈ wsL_law0_r6, w ∈ lw_tbl := by decide +kernel
set_option maxRecDepth 20000 in
theorem wsL_q7 : ∀ w ∈ wsL_law0_r7, w ∈ lw_tbl := by decide +kernel
set_option maxRecDepth 20000 in
theorem wsL_q8 : ∀ w ∈ wsL_law0_r8, w ∈ lw_tbl := by decide +kernel
set_option maxRecDepth 20000 in
theorem wsL_q9 : ∀ w ∈ wsL_law0_r9, w ∈ lw_tbl := by decide +kernel
set_option maxRecDepth 20000 in
theorem wsL_q10 : ∀ w ∈ wsL_law0_r10, w ∈ lw_tbl := by decide +kernel
set_option maxRecDepth 20000 in
theorem wsL_q11 : ∀ w ∈ wsL_law0_r11, w ∈ lw_tbl := by decide +kernel
set_option maxRecDepth 20000 in
theorem wsL_q12 : ∀ w ∈ wsL_law0_r12, w ∈ lw_tbl := by decide +kernel
set_option maxRecDepth 20000 in
theorem wsL_q13 : ∀ w ∈ wsL_law0_r13, w ∈ lw_tbl := by decide +kernel
set_option maxRecDepth 20000 in
theorem wsL_q14 : ∀ w ∈ wsL_law0_r14, w ∈ lw_tbl := by decide +kernel
set_option maxRecDepth 20000 in
theorem wsL_q15 : ∀ w ∈ wsL_law0_r15, w ∈ lw_tbl := by decide +kernel
set_option maxRecDepth 20000 in
theorem wsL_q16 : ∀ w ∈ wsL_law0_r16, w ∈ lw_tbl := by decide +kernel
set_option maxRecDepth 20000 in
theorem wsL_q17 : ∀ w ∈ wsL_law0_r17, w ∈ lw_tbl := by decide +kernel
set_option maxRecDepth 20000 in
theorem wsL_q18 : ∀ w ∈ wsL_law0_r18, w ∈ lw_tbl := by decide +kernel
set_option maxRecDepth 20000 in
theorem wsL_q19 : ∀ w ∈ wsL_law0_r19, w ∈ lw_tbl := by decide +kernel
set_option maxRecDepth 20000 in
theorem wsL_q20 : ∀ w ∈ wsL_law0_r20, w ∈ lw_tbl := by decide +kernel
set_option maxRecDepth 20000 in
theorem wsL_q21 : ∀ w ∈ wsL_law0_r21, w ∈ lw_tbl := by decide +kernel
set_option maxRecDepth 20000 in
theorem wsL_q22 : ∀ w ∈ wsL_law0_r22, w ∈ lw_tbl := by decide +kernel
set_option maxRecDepth 20000 in
theorem wsL_q23 : ∀ w ∈ wsL_law0_r23, w ∈ lw_tbl := by decide +kernel
set_option maxRecDepth 20000 in
theorem wsL_q24 : ∀ w ∈ wsL_law0_r24, w ∈ lw_tbl := by decide +kernel
set_option maxRecDepth 20000 in
theorem wsL_q25 : ∀ w ∈ wsL_law0_r25, w ∈ lw_tbl := by decide +kernel
set_option maxRecDepth 20000 in
theorem wsL_q26 : ∀ w ∈ wsL_law0_r26, w ∈ lw_tbl := by decide +kernel
set_option maxRecDepth 20000 in
theorem wsL_q27 : ∀ w ∈ wsL_law0_r27, w ∈ lw_tbl := by decide +kernel
set_option maxRecDepth 20000 in
theorem wsL_q28 : ∀ w ∈ wsL_law0_r28, w ∈ lw_tbl := by decide +kernel
set_option maxRecDepth 20000 in
theorem wsL_q29 : ∀ w ∈ wsL_law0_r29, w ∈ lw_tbl := by decide +kernel
set_option maxRecDepth 20000 in
theorem wsL_q30 : ∀ w ∈ wsL_law0_r30, w ∈ lw_tbl := by decide +kernel
set_option maxRecDepth 20000 in
theorem wsL_qX3 : ∀ w ∈ wsX30, w ∈ lw_tbl := by decide +kernel
set_option maxRecDepth 20000 in
theorem wsL_qX4 : ∀ w ∈ wsX40, w ∈ lw_tbl := by decide +kernel
set_option maxRecDepth 20000 in
theorem wsL_qX1 : ∀ w ∈ wsX10, w ∈ lw_tbl := by decide +kernel
set_option maxRecDepth 20000 in
theorem wsL_qX0 : ∀ w ∈ wsX00, w ∈ lw_tbl := by decide +kernel
set_option maxRecDepth 20000 in
theorem wsL_qX2 : ∀ w ∈ wsX20, w ∈ lw_tbl := by decide +kernel
theorem wsL_law_in0 : ∀ w ∈ wsL_law0, w ∈ lw_tbl := (wsL_ap (wsL_ap (wsL_ap (wsL_ap (wsL_ap (wsL_ap (wsL_ap wsL_q1 (wsL_ap wsL_q2 (wsL_ap wsL_q3 (wsL_ap wsL_q4 (wsL_ap wsL_q5 (wsL_ap wsL_q6 (wsL_ap wsL_q7 (wsL_ap wsL_q8 (wsL_ap wsL_q9 (wsL_ap wsL_q10 (wsL_ap wsL_q11 (wsL_ap wsL_q12 (wsL_ap wsL_q13 (wsL_ap wsL_q14 (wsL_ap wsL_q15 (wsL_ap wsL_q16 (wsL_ap wsL_q17 (wsL_ap wsL_q18 (wsL_ap wsL_q19 (wsL_ap wsL_q20 (wsL_ap wsL_q21 (wsL_ap wsL_q22 (wsL_ap wsL_q23 (wsL_ap wsL_q24 (wsL_ap wsL_q25 (wsL_ap wsL_q26 (wsL_ap wsL_q27 (wsL_ap wsL_q28 (wsL_ap wsL_q29 wsL_q30))))))))))))))))))))))))))))) wsL_qX3) wsL_qX4) wsL_qX1) wsL_qX0) wsL_qX2) (fun _ h => absurd h List.not_mem_nil))
theorem wsL_law_x0 : ∀ w ∈ (vx_atS RX3 40 "java/lang/IllegalStateException" ["java/lang/RuntimeException", "java/lang/Exception"]).filter goodWord, w ∈ lw_tbl := by decide +kernel
theorem wsL_law_x1 : ∀ w ∈ (vx_atS RX3 55 "java/lang/IndexOutOfBoundsException" ["java/lang/RuntimeException", "java/lang/Exception"]).filter goodWord, w ∈ lw_tbl := by decide +kernel
theorem wsL_law_x2 : ∀ w ∈ (vx_atS RX3 68 "java/lang/IllegalArgumentException" ["java/lang/RuntimeException", "java/lang/Exception"]).filter goodWord, w ∈ lw_tbl := by decide +kernel
theorem wsL_law_in : ∀ w ∈ wsL_law, w ∈ lw_tbl := fun w h => (List.mem_append.mp h).elim (fun h => (List.mem_append.mp h).elim (fun h => (List.mem_append.mp h).elim (fun h => wsL_law_in0 w h) (fun h => wsL_law_x0 w h)) (fun h => wsL_law_x1 w h)) (fun h => wsL_law_x2 w h)
theorem inlX0 : ∀ w ∈ wsX00, w ∈ wsL_law := fun _ h => List.mem_append_left _ (List.mem_append_left _ (List.mem_append_left _ (List.mem_append_left _ (List.mem_append_left _ (List.mem_append_right _ h)))))
theorem inX0 : ∀ w ∈ wsX00, w ∈ lw_tbl := fun w h => wsL_law_in w (inlX0 w h)
theorem inlX1 : ∀ w ∈ wsX10, w ∈ wsL_law := fun _ h => List.mem_append_left _ (List.mem_append_left _ (List.mem_append_left _ (List.mem_append_left _ (List.mem_append_left _ (List.mem_append_left _ (List.mem_append_right _ h))))))
theorem inX1 : ∀ w ∈ wsX10, w ∈ lw_tbl := fun w h => wsL_law_in w (inlX1 w h)
theorem inlX2 : ∀ w ∈ wsX20, w ∈ wsL_law := fun _ h => List.mem_append_left _ (List.mem_append_left _ (List.mem_append_left _ (List.mem_append_left _ (List.mem_append_right _ h))))
theorem inX2 : ∀ w ∈ wsX20, w ∈ lw_tbl := fun w h => wsL_law_in w (inlX2 w h)
theorem inlX3 : ∀ w ∈ wsX30, w ∈ wsL_law := fun _ h => List.mem_append_left _ (List.mem_append_left _ (List.mem_append_left _ (List.mem_append_left _ (List.mem_append_left _ (List.mem_append_left _ (List.mem_append_left _ (List.mem_append_left _ (List.mem_append_right _ h))))))))
theorem inX3 : ∀ w ∈ wsX30, w ∈ lw_tbl := fun w h => wsL_law_in w (inlX3 w h)
theorem inlX4 : ∀ w ∈ wsX40, w ∈ wsL_law := fun _ h => List.mem_append_left _ (List.mem_append_left _ (List.mem_append_left _ (List.mem_append_left _ (List.mem_append_left _ (List.mem_append_left _ (List.mem_append_left _ (List.mem_append_right _ h)))))))
theorem inX4 : ∀ w ∈ wsX40, w ∈ lw_tbl := fun w h => wsL_law_in w (inlX4 w h)
theorem inJx145de : ∀ w ∈ wsJx145de0, w ∈ lw_tbl := by decide +kernel
theorem inJ6 : ∀ w ∈ wsJ60, w ∈ lw_tbl := by decide +kernel
theorem inJ9 : ∀ w ∈ wsJ90, w ∈ lw_tbl := by decide +kernel
theorem inJ0 : ∀ w ∈ wsJ00, w ∈ lw_tbl := by decide +kernel
theorem inJ10 : ∀ w ∈ wsJ100, w ∈ lw_tbl := by decide +kernel
theorem inJ7 : ∀ w ∈ wsJ70, w ∈ lw_tbl := by decide +kernel
set_option maxRecDepth 20000 in
theorem ggX0_init_J7_fill_d0a16 : GoodIn wsX0_init wsJ7_fill_d0a16 := goodIn_r _ [20] (by decide +kernel) (by decide +kernel)
set_option maxRecDepth 20000 in
theorem gX0_init_J7_fill_d0a16 : GoodIn wsX0_init (va_wsS RX0 48 yJ7_fill_d0a16 wsJ7_fill_d0a16) := goodIn_app (goodIn_of _ (by decide +kernel)) ggX0_init_J7_fill_d0a16
theorem dX0_init_0 : decode cX0_init 0 = .ok (.aload_n 0, 1) := by decide +kernel
theorem dX0_init_1 : decode cX0_init 1 = .ok (.invokespecial 3, 3) := by decide +kernel
theorem dX0_init_4 : decode cX0_init 4 = .ok (.aload_n 0, 1) := by decide +kernel
theorem dX0_init_5 : decode cX0_init 5 = .ok (.iconst 0, 1) := by decide +kernel
theorem dX0_init_6 : decode cX0_init 6 = .ok (.putfield 9, 3) := by decide +kernel
theorem dX0_init_9 : decode cX0_init 9 = .ok (.aload_n 0, 1) := by decide +kernel
theorem dX0_init_10 : decode cX0_init 10 = .ok (.lconst 0, 1) := by decide +kernel
theorem dX0_init_11 : decode cX0_init 11 = .ok (.putfield 15, 3) := by decide +kernel
theorem dX0_init_14 : decode cX0_init 14 = .ok (.aload_n 0, 1) := by decide +kernel
theorem dX0_init_15 : decode cX0_init 15 = .ok (.iconst 0, 1) := by decide +kernel
theorem dX0_init_16 : decode cX0_init 16 = .ok (.putfield 19, 3) := by decide +kernel
theorem dX0_init_19 : decode cX0_init 19 = .ok (.aload_n 0, 1) := by decide +kernel
theorem dX0_init_20 : decode cX0_init 20 = .ok (.iconst 0, 1) := by decide +kernel
theorem dX0_init_21 : decode cX0_init 21 = .ok (.putfield 22, 3) := by decide +kernel
theorem dX0_init_24 : decode cX0_init 24 = .ok (.aload_n 0, 1) := by decide +kernel
theorem dX0_init_25 : decode cX0_init 25 = .ok (.iconst 0, 1) := by decide +kernel
theorem dX0_init_26 : decode cX0_init 26 = .ok (.putfield 25, 3) := by decide +kernel
theorem dX0_init_29 : decode cX0_init 29 = .ok (.aload_n 0, 1) := by decide +kernel
theorem dX0_init_30 : decode cX0_init 30 = .ok (.iconst 3, 1) := by decide +kernel
theorem dX0_init_31 : decode cX0_init 31 = .ok (.newarray .int, 2) := by decide +kernel
theorem dX0_init_33 : decode cX0_init 33 = .ok (.putfield 28, 3) := by decide +kernel
theorem dX0_init_36 : decode cX0_init 36 = .ok (.aload_n 0, 1) := by decide +kernel
theorem dX0_init_37 : decode cX0_init 37 = .ok (.iconst 4, 1) := by decide +kernel
theorem dX0_init_38 : decode cX0_init 38 = .ok (.newarray .long, 2) := by decide +kernel
theorem dX0_init_40 : decode cX0_init 40 = .ok (.putfield 32, 3) := by decide +kernel
theorem dX0_init_43 : decode cX0_init 43 = .ok (.aload_n 0, 1) := by decide +kernel
theorem dX0_init_44 : decode cX0_init 44 = .ok (.bipush 60, 2) := by decide +kernel
theorem dX0_init_46 : decode cX0_init 46 = .ok (.newarray .int, 2) := by decide +kernel
theorem dX0_init_48 : decode cX0_init 48 = .ok (.putfield 36, 3) := by decide +kernel
theorem dX0_init_51 : decode cX0_init 51 = .ok (.aload_n 0, 1) := by decide +kernel
theorem dX0_init_52 : decode cX0_init 52 = .ok (.bipush 40, 2) := by decide +kernel
theorem dX0_init_54 : decode cX0_init 54 = .ok (.newarray .int, 2) := by decide +kernel
theorem dX0_init_56 : decode cX0_init 56 = .ok (.putfield 39, 3) := by decide +kernel
theorem dX0_init_59 : decode cX0_init 59 = .ok (.aload_n 0, 1) := by decide +kernel
theorem dX0_init_60 : decode cX0_init 60 = .ok (.aload_n 1, 1) := by decide +kernel
theorem dX0_init_61 : decode cX0_init 61 = .ok (.putfield 42, 3) := by decide +kernel
theorem dX0_init_64 : decode cX0_init 64 = .ok (.aload_n 0, 1) := by decide +kernel
theorem dX0_init_65 : decode cX0_init 65 = .ok (.getfield 32, 3) := by decide +kernel
theorem dX0_init_68 : decode cX0_init 68 = .ok (.ldc2_w 46, 3) := by decide +kernel
theorem dX0_init_71 : decode cX0_init 71 = .ok (.invokestatic 48, 3) := by decide +kernel
theorem dX0_init_74 : decode cX0_init 74 = .ok (.return_, 1) := by decide +kernel
set_option maxRecDepth 20000 in
theorem ggX0_begin_J7_fill_53178 : GoodIn wsX0_begin wsJ7_fill_53178 := goodIn_r _ [13] (by decide +kernel) (by decide +kernel)
set_option maxRecDepth 20000 in
theorem gX0_begin_J7_fill_53178 : GoodIn wsX0_begin (va_wsS RX0 54 yJ7_fill_53178 wsJ7_fill_53178) := goodIn_app (goodIn_of _ (by decide +kernel)) ggX0_begin_J7_fill_53178
set_option maxRecDepth 20000 in
theorem ggX0_begin_J7_fill_d0a16 : GoodIn wsX0_begin wsJ7_fill_d0a16 := goodIn_r _ [16] (by decide +kernel) (by decide +kernel)
set_option maxRecDepth 20000 in
theorem gX0_begin_J7_fill_d0a16 : GoodIn wsX0_begin (va_wsS RX0 48 yJ7_fill_d0a16 wsJ7_fill_d0a16) := goodIn_app (goodIn_of _ (by decide +kernel)) ggX0_begin_J7_fill_d0a16
theorem dX0_begin_0 : decode cX0_begin 0 = .ok (.aload_n 0, 1) := by decide +kernel
theorem dX0_begin_1 : decode cX0_begin 1 = .ok (.iconst 0, 1) := by decide +kernel
theorem dX0_begin_2 : decode cX0_begin 2 = .ok (.putfield 9, 3) := by decide +kernel
theorem dX0_begin_5 : decode cX0_begin 5 = .ok (.aload_n 0, 1) := by decide +kernel
theorem dX0_begin_6 : decode cX0_begin 6 = .ok (.lconst 0, 1) := by decide +kernel
theorem dX0_begin_7 : decode cX0_begin 7 = .ok (.putfield 15, 3) := by decide +kernel
theorem dX0_begin_10 : decode cX0_begin 10 = .ok (.aload_n 0, 1) := by decide +kernel
theorem dX0_begin_11 : decode cX0_begin 11 = .ok (.iconst 0, 1) := by decide +kernel
theorem dX0_begin_12 : decode cX0_begin 12 = .ok (.putfield 19, 3) := by decide +kernel
theorem dX0_begin_15 : decode cX0_begin 15 = .ok (.aload_n 0, 1) := by decide +kernel
theorem dX0_begin_16 : decode cX0_begin 16 = .ok (.iconst 0, 1) := by decide +kernel
theorem dX0_begin_17 : decode cX0_begin 17 = .ok (.putfield 22, 3) := by decide +kernel
theorem dX0_begin_20 : decode cX0_begin 20 = .ok (.aload_n 0, 1) := by decide +kernel
theorem dX0_begin_21 : decode cX0_begin 21 = .ok (.iconst 0, 1) := by decide +kernel
theorem dX0_begin_22 : decode cX0_begin 22 = .ok (.putfield 25, 3) := by decide +kernel
theorem dX0_begin_25 : decode cX0_begin 25 = .ok (.aload_n 0, 1) := by decide +kernel
theorem dX0_begin_26 : decode cX0_begin 26 = .ok (.getfield 28, 3) := by decide +kernel
theorem dX0_begin_29 : decode cX0_begin 29 = .ok (.iconst 0, 1) := by decide +kernel
theorem dX0_begin_30 : decode cX0_begin 30 = .ok (.invokestatic 54, 3) := by decide +kernel
theorem dX0_begin_33 : decode cX0_begin 33 = .ok (.aload_n 0, 1) := by decide +kernel
theorem dX0_begin_34 : decode cX0_begin 34 = .ok (.getfield 32, 3) := by decide +kernel
theorem dX0_begin_37 : decode cX0_begin 37 = .ok (.ldc2_w 46, 3) := by decide +kernel
theorem dX0_begin_40 : decode cX0_begin 40 = .ok (.invokestatic 48, 3) := by decide +kernel
theorem dX0_begin_43 : decode cX0_begin 43 = .ok (.aload_n 0, 1) := by decide +kernel
theorem dX0_begin_44 : decode cX0_begin 44 = .ok (.getfield 39, 3) := by decide +kernel
theorem dX0_begin_47 : decode cX0_begin 47 = .ok (.iconst 0, 1) := by decide +kernel
theorem dX0_begin_48 : decode cX0_begin 48 = .ok (.invokestatic 54, 3) := by decide +kernel
theorem dX0_begin_51 : decode cX0_begin 51 = .ok (.return_, 1) := by decide +kernel
theorem dX0_ticksLeft_0 : decode cX0_ticksLeft 0 = .ok (.aload_n 0, 1) := by decide +kernel
theorem dX0_ticksLeft_1 : decode cX0_ticksLeft 1 = .ok (.getfield 32, 3) := by decide +kernel
theorem dX0_ticksLeft_4 : decode cX0_ticksLeft 4 = .ok (.iload_n 1, 1) := by decide +kernel
theorem dX0_ticksLeft_5 : decode cX0_ticksLeft 5 = .ok (.laload, 1) := by decide +kernel
theorem dX0_ticksLeft_6 : decode cX0_ticksLeft 6 = .ok (.ldc2_w 46, 3) := by decide +kernel
theorem dX0_ticksLeft_9 : decode cX0_ticksLeft 9 = .ok (.lcmp, 1) := by decide +kernel
theorem dX0_ticksLeft_10 : decode cX0_ticksLeft 10 = .ok (.ifCond .ne 7, 3) := by decide +kernel
theorem dX0_ticksLeft_13 : decode cX0_ticksLeft 13 = .ok (.iconst (-1), 1) := by decide +kernel
theorem dX0_ticksLeft_14 : decode cX0_ticksLeft 14 = .ok (.goto 15, 3) := by decide +kernel
theorem dX0_ticksLeft_17 : decode cX0_ticksLeft 17 = .ok (.aload_n 0, 1) := by decide +kernel
theorem dX0_ticksLeft_18 : decode cX0_ticksLeft 18 = .ok (.getfield 32, 3) := by decide +kernel
theorem dX0_ticksLeft_21 : decode cX0_ticksLeft 21 = .ok (.iload_n 1, 1) := by decide +kernel
theorem dX0_ticksLeft_22 : decode cX0_ticksLeft 22 = .ok (.laload, 1) := by decide +kernel
theorem dX0_ticksLeft_23 : decode cX0_ticksLeft 23 = .ok (.aload_n 0, 1) := by decide +kernel
theorem dX0_ticksLeft_24 : decode cX0_ticksLeft 24 = .ok (.getfield 15, 3) := by decide +kernel
theorem dX0_ticksLeft_27 : decode cX0_ticksLeft 27 = .ok (.lsub, 1) := by decide +kernel
theorem dX0_ticksLeft_28 : decode cX0_ticksLeft 28 = .ok (.l2i, 1) := by decide +kernel
theorem dX0_ticksLeft_29 : decode cX0_ticksLeft 29 = .ok (.ireturn, 1) := by decide +kernel
set_option maxRecDepth 20000 in
theorem ggX0_react_X0_firstTrue : GoodIn wsX0_react wsX0_firstTrue := goodIn_r _ [11, 3, 6, 12, 13, 14, 15, 16, 17, 18, 19, 20, 21, 22, 10, 23, 24, 25, 26, 27, 28, 29, 30, 31, 32, 33, 34, 35, 60, 61, 62, 63, 64, 65, 66, 67, 68, 69, 70, 71, 72, 73, 74, 75, 76, 77, 78, 79, 80, 81, 82] (by decide +kernel) (by decide +kernel)
set_option maxRecDepth 20000 in
theorem gX0_react_X0_firstTrue : GoodIn wsX0_react (wsV RX0 57 RX0 yX0_firstTrue wsX0_firstTrue) := goodIn_app (goodIn_of _ (by decide +kernel)) ggX0_react_X0_firstTrue
set_option maxRecDepth 20000 in
theorem ggX0_react_X0_act : GoodIn wsX0_react wsX0_act := goodIn_r _ [39, 3, 40, 41, 42, 25, 43, 44, 45, 46, 47, 48, 49, 50, 51, 52, 53, 54, 55, 10, 56, 57, 58, 59, 60, 61, 62, 63, 64, 65, 66, 67, 68, 69, 70, 71, 72, 73, 74, 75, 76, 77, 78, 79, 80, 81, 82] (by decide +kernel) (by decide +kernel)
set_option maxRecDepth 20000 in
theorem gX0_react_X0_act : GoodIn wsX0_react (wsV RX0 66 RX0 yX0_act wsX0_act) := goodIn_app (goodIn_of _ (by decide +kernel)) ggX0_react_X0_act
theorem dX0_react_0 : decode cX0_react 0 = .ok (.aload_n 0, 1) := by decide +kernel
theorem dX0_react_1 : decode cX0_react 1 = .ok (.iload_n 1, 1) := by decide +kernel
theorem dX0_react_2 : decode cX0_react 2 = .ok (.invokevirtual 57, 3) := by decide +kernel
theorem dX0_react_5 : decode cX0_react 5 = .ok (.istore_n 2, 1) := by decide +kernel
theorem dX0_react_6 : decode cX0_react 6 = .ok (.iload_n 2, 1) := by decide +kernel
theorem dX0_react_7 : decode cX0_react 7 = .ok (.iconst (-1), 1) := by decide +kernel
theorem dX0_react_8 : decode cX0_react 8 = .ok (.if_icmp .ne 15, 3) := by decide +kernel
theorem dX0_react_11 : decode cX0_react 11 = .ok (.aload_n 0, 1) := by decide +kernel
theorem dX0_react_12 : decode cX0_react 12 = .ok (.dup, 1) := by decide +kernel
theorem dX0_react_13 : decode cX0_react 13 = .ok (.getfield 25, 3) := by decide +kernel
theorem dX0_react_16 : decode cX0_react 16 = .ok (.iconst 1, 1) := by decide +kernel
theorem dX0_react_17 : decode cX0_react 17 = .ok (.iadd, 1) := by decide +kernel
theorem dX0_react_18 : decode cX0_react 18 = .ok (.putfield 25, 3) := by decide +kernel
theorem dX0_react_21 : decode cX0_react 21 = .ok (.iconst (-1), 1) := by decide +kernel
theorem dX0_react_22 : decode cX0_react 22 = .ok (.ireturn, 1) := by decide +kernel
theorem dX0_react_23 : decode cX0_react 23 = .ok (.aload_n 0, 1) := by decide +kernel
theorem dX0_react_24 : decode cX0_react 24 = .ok (.getfield 39, 3) := by decide +kernel
theorem dX0_react_27 : decode cX0_react 27 = .ok (.iload_n 2, 1) := by decide +kernel
theorem dX0_react_28 : decode cX0_react 28 = .ok (.dup2, 1) := by decide +kernel
theorem dX0_react_29 : decode cX0_react 29 = .ok (.iaload, 1) := by decide +kernel
theorem dX0_react_30 : decode cX0_react 30 = .ok (.iconst 1, 1) := by decide +kernel
theorem dX0_react_31 : decode cX0_react 31 = .ok (.iadd, 1) := by decide +kernel
theorem dX0_react_32 : decode cX0_react 32 = .ok (.iastore, 1) := by decide +kernel
theorem dX0_react_33 : decode cX0_react 33 = .ok (.iconst 0, 1) := by decide +kernel
theorem dX0_react_34 : decode cX0_react 34 = .ok (.istore_n 3, 1) := by decide +kernel
theorem dX0_react_35 : decode cX0_react 35 = .ok (.iload_n 3, 1) := by decide +kernel
theorem dX0_react_36 : decode cX0_react 36 = .ok (.aload_n 0, 1) := by decide +kernel
theorem dX0_react_37 : decode cX0_react 37 = .ok (.getfield 42, 3) := by decide +kernel
theorem dX0_react_40 : decode cX0_react 40 = .ok (.getfield 61, 3) := by decide +kernel
theorem dX0_react_43 : decode cX0_react 43 = .ok (.iload_n 2, 1) := by decide +kernel
theorem dX0_react_44 : decode cX0_react 44 = .ok (.iaload, 1) := by decide +kernel
theorem dX0_react_45 : decode cX0_react 45 = .ok (.if_icmp .ge 18, 3) := by decide +kernel
theorem dX0_react_48 : decode cX0_react 48 = .ok (.aload_n 0, 1) := by decide +kernel
theorem dX0_react_49 : decode cX0_react 49 = .ok (.iconst 3, 1) := by decide +kernel
theorem dX0_react_50 : decode cX0_react 50 = .ok (.iload_n 2, 1) := by decide +kernel
theorem dX0_react_51 : decode cX0_react 51 = .ok (.imul, 1) := by decide +kernel
theorem dX0_react_52 : decode cX0_react 52 = .ok (.iload_n 3, 1) := by decide +kernel
theorem dX0_react_53 : decode cX0_react 53 = .ok (.iadd, 1) := by decide +kernel
theorem dX0_react_54 : decode cX0_react 54 = .ok (.invokevirtual 66, 3) := by decide +kernel
theorem dX0_react_57 : decode cX0_react 57 = .ok (.iinc 3 1, 3) := by decide +kernel
theorem dX0_react_60 : decode cX0_react 60 = .ok (.goto (-25), 3) := by decide +kernel
theorem dX0_react_63 : decode cX0_react 63 = .ok (.aload_n 0, 1) := by decide +kernel
theorem dX0_react_64 : decode cX0_react 64 = .ok (.aload_n 0, 1) := by decide +kernel
theorem dX0_react_65 : decode cX0_react 65 = .ok (.getfield 42, 3) := by decide +kernel
theorem dX0_react_68 : decode cX0_react 68 = .ok (.getfield 70, 3) := by decide +kernel
theorem dX0_react_71 : decode cX0_react 71 = .ok (.iload_n 2, 1) := by decide +kernel
theorem dX0_react_72 : decode cX0_react 72 = .ok (.iaload, 1) := by decide +kernel
theorem dX0_react_73 : decode cX0_react 73 = .ok (.putfield 9, 3) := by decide +kernel
theorem dX0_react_76 : decode cX0_react 76 = .ok (.iload_n 2, 1) := by decide +kernel
theorem dX0_react_77 : decode cX0_react 77 = .ok (.ireturn, 1) := by decide +kernel
set_option maxRecDepth 20000 in
theorem ggX0_firstTrue_X1_firstBehind : GoodIn wsX0_firstTrue wsX1_firstBehind := goodIn_r _ [7, 8, 9, 10, 38, 39, 40, 41, 42, 43, 44, 45, 46, 47, 48, 49, 50] (by decide +kernel) (by decide +kernel)
set_option maxRecDepth 20000 in
theorem gX0_firstTrue_X1_firstBehind : GoodIn wsX0_firstTrue (wsV RX0 73 RX1 yX1_firstBehind wsX1_firstBehind) := goodIn_app (goodIn_of _ (by decide +kernel)) ggX0_firstTrue_X1_firstBehind
set_option maxRecDepth 20000 in
theorem ggX0_firstTrue_X0_isTrue : GoodIn wsX0_firstTrue wsX0_isTrue := goodIn_r _ [15, 1, 16, 17, 18, 19, 20, 6, 21, 22, 23, 24, 25, 26, 27, 28, 29, 30, 31, 32, 33, 34, 35, 36, 37, 38, 39, 40, 41, 42, 43, 44, 45, 46, 47, 48, 49, 50] (by decide +kernel) (by decide +kernel)
set_option maxRecDepth 20000 in
theorem gX0_firstTrue_X0_isTrue : GoodIn wsX0_firstTrue (wsV RX0 77 RX0 yX0_isTrue wsX0_isTrue) := goodIn_app (goodIn_of _ (by decide +kernel)) ggX0_firstTrue_X0_isTrue
theorem dX0_firstTrue_0 : decode cX0_firstTrue 0 = .ok (.iconst (-1), 1) := by decide +kernel
theorem dX0_firstTrue_1 : decode cX0_firstTrue 1 = .ok (.istore_n 2, 1) := by decide +kernel
theorem dX0_firstTrue_2 : decode cX0_firstTrue 2 = .ok (.iconst 0, 1) := by decide +kernel
theorem dX0_firstTrue_3 : decode cX0_firstTrue 3 = .ok (.istore_n 3, 1) := by decide +kernel
theorem dX0_firstTrue_4 : decode cX0_firstTrue 4 = .ok (.iload_n 3, 1) := by decide +kernel
theorem dX0_firstTrue_5 : decode cX0_firstTrue 5 = .ok (.bipush 40, 2) := by decide +kernel
theorem dX0_firstTrue_7 : decode cX0_firstTrue 7 = .ok (.if_icmp .ge 38, 3) := by decide +kernel
theorem dX0_firstTrue_10 : decode cX0_firstTrue 10 = .ok (.aload_n 0, 1) := by decide +kernel
theorem dX0_firstTrue_11 : decode cX0_firstTrue 11 = .ok (.getfield 42, 3) := by decide +kernel
theorem dX0_firstTrue_14 : decode cX0_firstTrue 14 = .ok (.iload_n 2, 1) := by decide +kernel
theorem dX0_firstTrue_15 : decode cX0_firstTrue 15 = .ok (.aload_n 0, 1) := by decide +kernel
theorem dX0_firstTrue_16 : decode cX0_firstTrue 16 = .ok (.getfield 9, 3) := by decide +kernel
theorem dX0_firstTrue_19 : decode cX0_firstTrue 19 = .ok (.iload_n 1, 1) := by decide +kernel
theorem dX0_firstTrue_20 : decode cX0_firstTrue 20 = .ok (.invokevirtual 73, 3) := by decide +kernel
theorem dX0_firstTrue_23 : decode cX0_firstTrue 23 = .ok (.istore_n 2, 1) := by decide +kernel
theorem dX0_firstTrue_24 : decode cX0_firstTrue 24 = .ok (.iload_n 2, 1) := by decide +kernel
theorem dX0_firstTrue_25 : decode cX0_firstTrue 25 = .ok (.iconst (-1), 1) := by decide +kernel
theorem dX0_firstTrue_26 : decode cX0_firstTrue 26 = .ok (.if_icmp .eq 11, 3) := by decide +kernel
theorem dX0_firstTrue_29 : decode cX0_firstTrue 29 = .ok (.aload_n 0, 1) := by decide +kernel
theorem dX0_firstTrue_30 : decode cX0_firstTrue 30 = .ok (.iload_n 2, 1) := by decide +kernel
theorem dX0_firstTrue_31 : decode cX0_firstTrue 31 = .ok (.invokevirtual 77, 3) := by decide +kernel
theorem dX0_firstTrue_34 : decode cX0_firstTrue 34 = .ok (.ifCond .eq 5, 3) := by decide +kernel
theorem dX0_firstTrue_37 : decode cX0_firstTrue 37 = .ok (.iload_n 2, 1) := by decide +kernel
theorem dX0_firstTrue_38 : decode cX0_firstTrue 38 = .ok (.ireturn, 1) := by decide +kernel
theorem dX0_firstTrue_39 : decode cX0_firstTrue 39 = .ok (.iinc 3 1, 3) := by decide +kernel
theorem dX0_firstTrue_42 : decode cX0_firstTrue 42 = .ok (.goto (-38), 3) := by decide +kernel
theorem dX0_firstTrue_45 : decode cX0_firstTrue 45 = .ok (.iconst (-1), 1) := by decide +kernel
theorem dX0_firstTrue_46 : decode cX0_firstTrue 46 = .ok (.ireturn, 1) := by decide +kernel
set_option maxRecDepth 20000 in
theorem ggX0_isTrue_X1_lowest : GoodIn wsX0_isTrue wsX1_lowest := goodIn_r _ [8, 9, 10, 25, 26, 27, 28, 29, 30, 31, 32, 33, 34, 35, 36, 37] (by decide +kernel) (by decide +kernel)
set_option maxRecDepth 20000 in
theorem gX0_isTrue_X1_lowest : GoodIn wsX0_isTrue (wsV RX0 84 RX1 yX1_lowest wsX1_lowest) := goodIn_app (goodIn_of _ (by decide +kernel)) ggX0_isTrue_X1_lowest
set_option maxRecDepth 20000 in
theorem ggX0_isTrue_X1_highest : GoodIn wsX0_isTrue wsX1_highest := goodIn_r _ [14, 9, 10, 25, 26, 27, 28, 29, 30, 31, 32, 33, 34, 35, 36, 37] (by decide +kernel) (by decide +kernel)
set_option maxRecDepth 20000 in
theorem gX0_isTrue_X1_highest : GoodIn wsX0_isTrue (wsV RX0 87 RX1 yX1_highest wsX1_highest) := goodIn_app (goodIn_of _ (by decide +kernel)) ggX0_isTrue_X1_highest
theorem dX0_isTrue_0 : decode cX0_isTrue 0 = .ok (.aload_n 0, 1) := by decide +kernel
theorem dX0_isTrue_1 : decode cX0_isTrue 1 = .ok (.getfield 42, 3) := by decide +kernel
theorem dX0_isTrue_4 : decode cX0_isTrue 4 = .ok (.getfield 81, 3) := by decide +kernel
theorem dX0_isTrue_7 : decode cX0_isTrue 7 = .ok (.iload_n 1, 1) := by decide +kernel
theorem dX0_isTrue_8 : decode cX0_isTrue 8 = .ok (.iaload, 1) := by decide +kernel
theorem dX0_isTrue_9 : decode cX0_isTrue 9 = .ok (.istore_n 2, 1) := by decide +kernel
theorem dX0_isTrue_10 : decode cX0_isTrue 10 = .ok (.iload_n 2, 1) := by decide +kernel
theorem dX0_isTrue_11 : decode cX0_isTrue 11 = .ok (.iconst (-1), 1) := by decide +kernel
theorem dX0_isTrue_12 : decode cX0_isTrue 12 = .ok (.if_icmp .ne 5, 3) := by decide +kernel
theorem dX0_isTrue_15 : decode cX0_isTrue 15 = .ok (.iconst 1, 1) := by decide +kernel
theorem dX0_isTrue_16 : decode cX0_isTrue 16 = .ok (.ireturn, 1) := by decide +kernel
theorem dX0_isTrue_17 : decode cX0_isTrue 17 = .ok (.aload_n 0, 1) := by decide +kernel
theorem dX0_isTrue_18 : decode cX0_isTrue 18 = .ok (.getfield 42, 3) := by decide +kernel
theorem dX0_isTrue_21 : decode cX0_isTrue 21 = .ok (.iload_n 1, 1) := by decide +kernel
theorem dX0_isTrue_22 : decode cX0_isTrue 22 = .ok (.invokevirtual 84, 3) := by decide +kernel
theorem dX0_isTrue_25 : decode cX0_isTrue 25 = .ok (.aload_n 0, 1) := by decide +kernel
theorem dX0_isTrue_26 : decode cX0_isTrue 26 = .ok (.getfield 28, 3) := by decide +kernel
theorem dX0_isTrue_29 : decode cX0_isTrue 29 = .ok (.iload_n 2, 1) := by decide +kernel
theorem dX0_isTrue_30 : decode cX0_isTrue 30 = .ok (.iaload, 1) := by decide +kernel
theorem dX0_isTrue_31 : decode cX0_isTrue 31 = .ok (.if_icmp .gt 24, 3) := by decide +kernel
theorem dX0_isTrue_34 : decode cX0_isTrue 34 = .ok (.aload_n 0, 1) := by decide +kernel
theorem dX0_isTrue_35 : decode cX0_isTrue 35 = .ok (.getfield 28, 3) := by decide +kernel
theorem dX0_isTrue_38 : decode cX0_isTrue 38 = .ok (.iload_n 2, 1) := by decide +kernel
theorem dX0_isTrue_39 : decode cX0_isTrue 39 = .ok (.iaload, 1) := by decide +kernel
theorem dX0_isTrue_40 : decode cX0_isTrue 40 = .ok (.aload_n 0, 1) := by decide +kernel
theorem dX0_isTrue_41 : decode cX0_isTrue 41 = .ok (.getfield 42, 3) := by decide +kernel
theorem dX0_isTrue_44 : decode cX0_isTrue 44 = .ok (.iload_n 1, 1) := by decide +kernel
theorem dX0_isTrue_45 : decode cX0_isTrue 45 = .ok (.invokevirtual 87, 3) := by decide +kernel
theorem dX0_isTrue_48 : decode cX0_isTrue 48 = .ok (.if_icmp .gt 7, 3) := by decide +kernel
theorem dX0_isTrue_51 : decode cX0_isTrue 51 = .ok (.iconst 1, 1) := by decide +kernel
theorem dX0_isTrue_52 : decode cX0_isTrue 52 = .ok (.goto 4, 3) := by decide +kernel
theorem dX0_isTrue_55 : decode cX0_isTrue 55 = .ok (.iconst 0, 1) := by decide +kernel
theorem dX0_isTrue_56 : decode cX0_isTrue 56 = .ok (.ireturn, 1) := by decide +kernel
set_option maxRecDepth 20000 in
theorem ggX0_act_X0_emit : GoodIn wsX0_act wsX0_emit := goodIn_r _ [20, 21, 22, 23, 24, 25, 26, 27, 28, 29, 30, 31, 32, 33] (by decide +kernel) (by decide +kernel)
set_option maxRecDepth 20000 in
theorem gX0_act_X0_emit : GoodIn wsX0_act (wsV RX0 108 RX0 yX0_emit wsX0_emit) := goodIn_app (goodIn_of _ (by decide +kernel)) ggX0_act_X0_emit
theorem dX0_act_0 : decode cX0_act 0 = .ok (.aload_n 0, 1) := by decide +kernel
theorem dX0_act_1 : decode cX0_act 1 = .ok (.getfield 42, 3) := by decide +kernel
theorem dX0_act_4 : decode cX0_act 4 = .ok (.getfield 90, 3) := by decide +kernel
theorem dX0_act_7 : decode cX0_act 7 = .ok (.iload_n 1, 1) := by decide +kernel
theorem dX0_act_8 : decode cX0_act 8 = .ok (.iaload, 1) := by decide +kernel
theorem dX0_act_9 : decode cX0_act 9 = .ok (.istore_n 2, 1) := by decide +kernel
theorem dX0_act_10 : decode cX0_act 10 = .ok (.aload_n 0, 1) := by decide +kernel
theorem dX0_act_11 : decode cX0_act 11 = .ok (.getfield 42, 3) := by decide +kernel
theorem dX0_act_14 : decode cX0_act 14 = .ok (.getfield 93, 3) := by decide +kernel
theorem dX0_act_17 : decode cX0_act 17 = .ok (.iload_n 1, 1) := by decide +kernel
theorem dX0_act_18 : decode cX0_act 18 = .ok (.iaload, 1) := by decide +kernel
theorem dX0_act_19 : decode cX0_act 19 = .ok (.istore_n 3, 1) := by decide +kernel
theorem dX0_act_20 : decode cX0_act 20 = .ok (.aload_n 0, 1) := by decide +kernel
theorem dX0_act_21 : decode cX0_act 21 = .ok (.getfield 42, 3) := by decide +kernel
theorem dX0_act_24 : decode cX0_act 24 = .ok (.getfield 96, 3) := by decide +kernel
theorem dX0_act_27 : decode cX0_act 27 = .ok (.iload_n 1, 1) := by decide +kernel
theorem dX0_act_28 : decode cX0_act 28 = .ok (.iaload, 1) := by decide +kernel
theorem dX0_act_29 : decode cX0_act 29 = .ok (.tableswitch 98 0 3 #[31, 41, 70, 86], 31) := by decide +kernel
theorem dX0_act_60 : decode cX0_act 60 = .ok (.aload_n 0, 1) := by decide +kernel
theorem dX0_act_61 : decode cX0_act 61 = .ok (.getfield 28, 3) := by decide +kernel
theorem dX0_act_64 : decode cX0_act 64 = .ok (.iload_n 2, 1) := by decide +kernel
theorem dX0_act_65 : decode cX0_act 65 = .ok (.iload_n 3, 1) := by decide +kernel
theorem dX0_act_66 : decode cX0_act 66 = .ok (.iastore, 1) := by decide +kernel
theorem dX0_act_67 : decode cX0_act 67 = .ok (.goto 65, 3) := by decide +kernel
theorem dX0_act_70 : decode cX0_act 70 = .ok (.aload_n 0, 1) := by decide +kernel
theorem dX0_act_71 : decode cX0_act 71 = .ok (.getfield 28, 3) := by decide +kernel
theorem dX0_act_74 : decode cX0_act 74 = .ok (.iload_n 2, 1) := by decide +kernel
theorem dX0_act_75 : decode cX0_act 75 = .ok (.sipush (-1000), 3) := by decide +kernel
theorem dX0_act_78 : decode cX0_act 78 = .ok (.sipush 1000, 3) := by decide +kernel
theorem dX0_act_81 : decode cX0_act 81 = .ok (.aload_n 0, 1) := by decide +kernel
theorem dX0_act_82 : decode cX0_act 82 = .ok (.getfield 28, 3) := by decide +kernel
theorem dX0_act_85 : decode cX0_act 85 = .ok (.iload_n 2, 1) := by decide +kernel
theorem dX0_act_86 : decode cX0_act 86 = .ok (.iaload, 1) := by decide +kernel
theorem dX0_act_87 : decode cX0_act 87 = .ok (.iload_n 3, 1) := by decide +kernel
theorem dX0_act_88 : decode cX0_act 88 = .ok (.iadd, 1) := by decide +kernel
theorem dX0_act_89 : decode cX0_act 89 = .ok (.invokestatic 99, 3) := by decide +kernel
theorem dX0_act_92 : decode cX0_act 92 = .ok (.invokestatic 105, 3) := by decide +kernel
theorem dX0_act_95 : decode cX0_act 95 = .ok (.iastore, 1) := by decide +kernel
theorem dX0_act_96 : decode cX0_act 96 = .ok (.goto 36, 3) := by decide +kernel
theorem dX0_act_99 : decode cX0_act 99 = .ok (.aload_n 0, 1) := by decide +kernel
theorem dX0_act_100 : decode cX0_act 100 = .ok (.getfield 32, 3) := by decide +kernel
theorem dX0_act_103 : decode cX0_act 103 = .ok (.iload_n 2, 1) := by decide +kernel
theorem dX0_act_104 : decode cX0_act 104 = .ok (.aload_n 0, 1) := by decide +kernel
theorem dX0_act_105 : decode cX0_act 105 = .ok (.getfield 15, 3) := by decide +kernel
theorem dX0_act_108 : decode cX0_act 108 = .ok (.iload_n 3, 1) := by decide +kernel
theorem dX0_act_109 : decode cX0_act 109 = .ok (.i2l, 1) := by decide +kernel
theorem dX0_act_110 : decode cX0_act 110 = .ok (.ladd, 1) := by decide +kernel
theorem dX0_act_111 : decode cX0_act 111 = .ok (.lastore, 1) := by decide +kernel
theorem dX0_act_112 : decode cX0_act 112 = .ok (.goto 20, 3) := by decide +kernel
theorem dX0_act_115 : decode cX0_act 115 = .ok (.aload_n 0, 1) := by decide +kernel
theorem dX0_act_116 : decode cX0_act 116 = .ok (.getfield 32, 3) := by decide +kernel
theorem dX0_act_119 : decode cX0_act 119 = .ok (.iload_n 2, 1) := by decide +kernel
theorem dX0_act_120 : decode cX0_act 120 = .ok (.ldc2_w 46, 3) := by decide +kernel
theorem dX0_act_123 : decode cX0_act 123 = .ok (.lastore, 1) := by decide +kernel
theorem dX0_act_124 : decode cX0_act 124 = .ok (.goto 8, 3) := by decide +kernel
theorem dX0_act_127 : decode cX0_act 127 = .ok (.aload_n 0, 1) := by decide +kernel
theorem dX0_act_128 : decode cX0_act 128 = .ok (.iload_n 2, 1) := by decide +kernel
theorem dX0_act_129 : decode cX0_act 129 = .ok (.invokevirtual 108, 3) := by decide +kernel
theorem dX0_act_132 : decode cX0_act 132 = .ok (.return_, 1) := by decide +kernel
theorem dX0_emit_0 : decode cX0_emit 0 = .ok (.aload_n 0, 1) := by decide +kernel
theorem dX0_emit_1 : decode cX0_emit 1 = .ok (.getfield 22, 3) := by decide +kernel
theorem dX0_emit_4 : decode cX0_emit 4 = .ok (.bipush 60, 2) := by decide +kernel
theorem dX0_emit_6 : decode cX0_emit 6 = .ok (.if_icmp .ge 23, 3) := by decide +kernel
theorem dX0_emit_9 : decode cX0_emit 9 = .ok (.aload_n 0, 1) := by decide +kernel
theorem dX0_emit_10 : decode cX0_emit 10 = .ok (.getfield 36, 3) := by decide +kernel
theorem dX0_emit_13 : decode cX0_emit 13 = .ok (.aload_n 0, 1) := by decide +kernel
theorem dX0_emit_14 : decode cX0_emit 14 = .ok (.getfield 22, 3) := by decide +kernel
theorem dX0_emit_17 : decode cX0_emit 17 = .ok (.iload_n 1, 1) := by decide +kernel
theorem dX0_emit_18 : decode cX0_emit 18 = .ok (.iastore, 1) := by decide +kernel
theorem dX0_emit_19 : decode cX0_emit 19 = .ok (.aload_n 0, 1) := by decide +kernel
theorem dX0_emit_20 : decode cX0_emit 20 = .ok (.dup, 1) := by decide +kernel
theorem dX0_emit_21 : decode cX0_emit 21 = .ok (.getfield 22, 3) := by decide +kernel
theorem dX0_emit_24 : decode cX0_emit 24 = .ok (.iconst 1, 1) := by decide +kernel
theorem dX0_emit_25 : decode cX0_emit 25 = .ok (.iadd, 1) := by decide +kernel
theorem dX0_emit_26 : decode cX0_emit 26 = .ok (.putfield 22, 3) := by decide +kernel
theorem dX0_emit_29 : decode cX0_emit 29 = .ok (.aload_n 0, 1) := by decide +kernel
theorem dX0_emit_30 : decode cX0_emit 30 = .ok (.dup, 1) := by decide +kernel
theorem dX0_emit_31 : decode cX0_emit 31 = .ok (.getfield 19, 3) := by decide +kernel
theorem dX0_emit_34 : decode cX0_emit 34 = .ok (.iconst 1, 1) := by decide +kernel
theorem dX0_emit_35 : decode cX0_emit 35 = .ok (.iadd, 1) := by decide +kernel
theorem dX0_emit_36 : decode cX0_emit 36 = .ok (.putfield 19, 3) := by decide +kernel
theorem dX0_emit_39 : decode cX0_emit 39 = .ok (.return_, 1) := by decide +kernel
set_option maxRecDepth 20000 in
theorem ggX0_goOn_X0_firstDue : GoodIn wsX0_goOn wsX0_firstDue := goodIn_r _ [10, 2, 3, 69, 70, 71, 72, 73, 74, 75, 76, 77, 78] (by decide +kernel) (by decide +kernel)
set_option maxRecDepth 20000 in
theorem gX0_goOn_X0_firstDue : GoodIn wsX0_goOn (wsV RX0 111 RX0 yX0_firstDue wsX0_firstDue) := goodIn_app (goodIn_of _ (by decide +kernel)) ggX0_goOn_X0_firstDue
set_option maxRecDepth 20000 in
theorem ggX0_goOn_X0_react : GoodIn wsX0_goOn wsX0_react := goodIn_r _ [14, 15, 16, 4, 17, 18, 19, 20, 21, 22, 9, 23, 24, 25, 26, 27, 28, 29, 30, 31, 32, 33, 34, 35, 36, 37, 38, 39, 40, 41, 42, 43, 44, 45, 46, 47, 48, 49, 50, 51, 52, 53, 54, 55, 56, 57, 58, 59, 60, 61, 2, 1, 3, 62, 63, 64, 65, 66, 67, 68, 69, 70, 71, 72, 73, 74, 75, 76, 77, 78, 79, 80, 81, 82, 83, 84, 85, 86, 87, 88, 89, 90, 91] (by decide +kernel) (by decide +kernel)
set_option maxRecDepth 20000 in
theorem gX0_goOn_X0_react : GoodIn wsX0_goOn (wsV RX0 118 RX0 yX0_react wsX0_react) := goodIn_app (goodIn_of _ (by decide +kernel)) ggX0_goOn_X0_react
theorem dX0_goOn_0 : decode cX0_goOn 0 = .ok (.aload_n 0, 1) := by decide +kernel
theorem dX0_goOn_1 : decode cX0_goOn 1 = .ok (.getfield 15, 3) := by decide +kernel
theorem dX0_goOn_4 : decode cX0_goOn 4 = .ok (.iload_n 1, 1) := by decide +kernel
theorem dX0_goOn_5 : decode cX0_goOn 5 = .ok (.i2l, 1) := by decide +kernel
theorem dX0_goOn_6 : decode cX0_goOn 6 = .ok (.ladd, 1) := by decide +kernel
theorem dX0_goOn_7 : decode cX0_goOn 7 = .ok (.lstore_n 2, 1) := by decide +kernel
theorem dX0_goOn_8 : decode cX0_goOn 8 = .ok (.iconst 0, 1) := by decide +kernel
theorem dX0_goOn_9 : decode cX0_goOn 9 = .ok (.istore 4, 2) := by decide +kernel
theorem dX0_goOn_11 : decode cX0_goOn 11 = .ok (.aload_n 0, 1) := by decide +kernel
theorem dX0_goOn_12 : decode cX0_goOn 12 = .ok (.lload_n 2, 1) := by decide +kernel
theorem dX0_goOn_13 : decode cX0_goOn 13 = .ok (.invokevirtual 111, 3) := by decide +kernel
theorem dX0_goOn_16 : decode cX0_goOn 16 = .ok (.istore 5, 2) := by decide +kernel
theorem dX0_goOn_18 : decode cX0_goOn 18 = .ok (.iload 5, 2) := by decide +kernel
theorem dX0_goOn_20 : decode cX0_goOn 20 = .ok (.iconst (-1), 1) := by decide +kernel
theorem dX0_goOn_21 : decode cX0_goOn 21 = .ok (.if_icmp .eq 60, 3) := by decide +kernel
theorem dX0_goOn_24 : decode cX0_goOn 24 = .ok (.iload 4, 2) := by decide +kernel
theorem dX0_goOn_26 : decode cX0_goOn 26 = .ok (.sipush 4000, 3) := by decide +kernel
theorem dX0_goOn_29 : decode cX0_goOn 29 = .ok (.if_icmp .ge 52, 3) := by decide +kernel
theorem dX0_goOn_32 : decode cX0_goOn 32 = .ok (.aload_n 0, 1) := by decide +kernel
theorem dX0_goOn_33 : decode cX0_goOn 33 = .ok (.aload_n 0, 1) := by decide +kernel
theorem dX0_goOn_34 : decode cX0_goOn 34 = .ok (.getfield 32, 3) := by decide +kernel
theorem dX0_goOn_37 : decode cX0_goOn 37 = .ok (.iload 5, 2) := by decide +kernel
theorem dX0_goOn_39 : decode cX0_goOn 39 = .ok (.laload, 1) := by decide +kernel
theorem dX0_goOn_40 : decode cX0_goOn 40 = .ok (.putfield 15, 3) := by decide +kernel
theorem dX0_goOn_43 : decode cX0_goOn 43 = .ok (.aload_n 0, 1) := by decide +kernel
theorem dX0_goOn_44 : decode cX0_goOn 44 = .ok (.getfield 32, 3) := by decide +kernel
theorem dX0_goOn_47 : decode cX0_goOn 47 = .ok (.iload 5, 2) := by decide +kernel
theorem dX0_goOn_49 : decode cX0_goOn 49 = .ok (.ldc2_w 46, 3) := by decide +kernel
theorem dX0_goOn_52 : decode cX0_goOn 52 = .ok (.lastore, 1) := by decide +kernel
theorem dX0_goOn_53 : decode cX0_goOn 53 = .ok (.aload_n 0, 1) := by decide +kernel
theorem dX0_goOn_54 : decode cX0_goOn 54 = .ok (.aload_n 0, 1) := by decide +kernel
theorem dX0_goOn_55 : decode cX0_goOn 55 = .ok (.getfield 42, 3) := by decide +kernel
theorem dX0_goOn_58 : decode cX0_goOn 58 = .ok (.getfield 115, 3) := by decide +kernel
theorem dX0_goOn_61 : decode cX0_goOn 61 = .ok (.iload 5, 2) := by decide +kernel
theorem dX0_goOn_63 : decode cX0_goOn 63 = .ok (.iaload, 1) := by decide +kernel
theorem dX0_goOn_64 : decode cX0_goOn 64 = .ok (.invokevirtual 118, 3) := by decide +kernel
theorem dX0_goOn_67 : decode cX0_goOn 67 = .ok (.pop, 1) := by decide +kernel
theorem dX0_goOn_68 : decode cX0_goOn 68 = .ok (.iinc 4 1, 3) := by decide +kernel
theorem dX0_goOn_71 : decode cX0_goOn 71 = .ok (.aload_n 0, 1) := by decide +kernel
theorem dX0_goOn_72 : decode cX0_goOn 72 = .ok (.lload_n 2, 1) := by decide +kernel
theorem dX0_goOn_73 : decode cX0_goOn 73 = .ok (.invokevirtual 111, 3) := by decide +kernel
theorem dX0_goOn_76 : decode cX0_goOn 76 = .ok (.istore 5, 2) := by decide +kernel
theorem dX0_goOn_78 : decode cX0_goOn 78 = .ok (.goto (-60), 3) := by decide +kernel
theorem dX0_goOn_81 : decode cX0_goOn 81 = .ok (.aload_n 0, 1) := by decide +kernel
theorem dX0_goOn_82 : decode cX0_goOn 82 = .ok (.lload_n 2, 1) := by decide +kernel
theorem dX0_goOn_83 : decode cX0_goOn 83 = .ok (.putfield 15, 3) := by decide +kernel
theorem dX0_goOn_86 : decode cX0_goOn 86 = .ok (.iload 4, 2) := by decide +kernel
theorem dX0_goOn_88 : decode cX0_goOn 88 = .ok (.ireturn, 1) := by decide +kernel
theorem dX0_firstDue_0 : decode cX0_firstDue 0 = .ok (.iconst (-1), 1) := by decide +kernel
theorem dX0_firstDue_1 : decode cX0_firstDue 1 = .ok (.istore_n 3, 1) := by decide +kernel
theorem dX0_firstDue_2 : decode cX0_firstDue 2 = .ok (.iconst 0, 1) := by decide +kernel
theorem dX0_firstDue_3 : decode cX0_firstDue 3 = .ok (.istore 4, 2) := by decide +kernel
theorem dX0_firstDue_5 : decode cX0_firstDue 5 = .ok (.iload 4, 2) := by decide +kernel
theorem dX0_firstDue_7 : decode cX0_firstDue 7 = .ok (.iconst 4, 1) := by decide +kernel
theorem dX0_firstDue_8 : decode cX0_firstDue 8 = .ok (.if_icmp .ge 72, 3) := by decide +kernel
theorem dX0_firstDue_11 : decode cX0_firstDue 11 = .ok (.aload_n 0, 1) := by decide +kernel
theorem dX0_firstDue_12 : decode cX0_firstDue 12 = .ok (.getfield 32, 3) := by decide +kernel
theorem dX0_firstDue_15 : decode cX0_firstDue 15 = .ok (.iload 4, 2) := by decide +kernel
theorem dX0_firstDue_17 : decode cX0_firstDue 17 = .ok (.laload, 1) := by decide +kernel
theorem dX0_firstDue_18 : decode cX0_firstDue 18 = .ok (.ldc2_w 46, 3) := by decide +kernel
theorem dX0_firstDue_21 : decode cX0_firstDue 21 = .ok (.lcmp, 1) := by decide +kernel
theorem dX0_firstDue_22 : decode cX0_firstDue 22 = .ok (.ifCond .eq 19, 3) := by decide +kernel
theorem dX0_firstDue_25 : decode cX0_firstDue 25 = .ok (.aload_n 0, 1) := by decide +kernel
theorem dX0_firstDue_26 : decode cX0_firstDue 26 = .ok (.getfield 32, 3) := by decide +kernel
theorem dX0_firstDue_29 : decode cX0_firstDue 29 = .ok (.iload 4, 2) := by decide +kernel
theorem dX0_firstDue_31 : decode cX0_firstDue 31 = .ok (.laload, 1) := by decide +kernel
theorem dX0_firstDue_32 : decode cX0_firstDue 32 = .ok (.lload_n 1, 1) := by decide +kernel
theorem dX0_firstDue_33 : decode cX0_firstDue 33 = .ok (.lcmp, 1) := by decide +kernel
theorem dX0_firstDue_34 : decode cX0_firstDue 34 = .ok (.ifCond .gt 7, 3) := by decide +kernel
theorem dX0_firstDue_37 : decode cX0_firstDue 37 = .ok (.iconst 1, 1) := by decide +kernel
theorem dX0_firstDue_38 : decode cX0_firstDue 38 = .ok (.goto 4, 3) := by decide +kernel
theorem dX0_firstDue_41 : decode cX0_firstDue 41 = .ok (.iconst 0, 1) := by decide +kernel
theorem dX0_firstDue_42 : decode cX0_firstDue 42 = .ok (.istore 5, 2) := by decide +kernel
theorem dX0_firstDue_44 : decode cX0_firstDue 44 = .ok (.iload 5, 2) := by decide +kernel
theorem dX0_firstDue_46 : decode cX0_firstDue 46 = .ok (.ifCond .eq 28, 3) := by decide +kernel
theorem dX0_firstDue_49 : decode cX0_firstDue 49 = .ok (.iload_n 3, 1) := by decide +kernel
theorem dX0_firstDue_50 : decode cX0_firstDue 50 = .ok (.iconst (-1), 1) := by decide +kernel
theorem dX0_firstDue_51 : decode cX0_firstDue 51 = .ok (.if_icmp .eq 20, 3) := by decide +kernel
theorem dX0_firstDue_54 : decode cX0_firstDue 54 = .ok (.aload_n 0, 1) := by decide +kernel
theorem dX0_firstDue_55 : decode cX0_firstDue 55 = .ok (.getfield 32, 3) := by decide +kernel
theorem dX0_firstDue_58 : decode cX0_firstDue 58 = .ok (.iload 4, 2) := by decide +kernel
theorem dX0_firstDue_60 : decode cX0_firstDue 60 = .ok (.laload, 1) := by decide +kernel
theorem dX0_firstDue_61 : decode cX0_firstDue 61 = .ok (.aload_n 0, 1) := by decide +kernel
theorem dX0_firstDue_62 : decode cX0_firstDue 62 = .ok (.getfield 32, 3) := by decide +kernel
theorem dX0_firstDue_65 : decode cX0_firstDue 65 = .ok (.iload_n 3, 1) := by decide +kernel
theorem dX0_firstDue_66 : decode cX0_firstDue 66 = .ok (.laload, 1) := by decide +kernel
theorem dX0_firstDue_67 : decode cX0_firstDue 67 = .ok (.lcmp, 1) := by decide +kernel
theorem dX0_firstDue_68 : decode cX0_firstDue 68 = .ok (.ifCond .ge 6, 3) := by decide +kernel
theorem dX0_firstDue_71 : decode cX0_firstDue 71 = .ok (.iload 4, 2) := by decide +kernel
theorem dX0_firstDue_73 : decode cX0_firstDue 73 = .ok (.istore_n 3, 1) := by decide +kernel
theorem dX0_firstDue_74 : decode cX0_firstDue 74 = .ok (.iinc 4 1, 3) := by decide +kernel
theorem dX0_firstDue_77 : decode cX0_firstDue 77 = .ok (.goto (-72), 3) := by decide +kernel
theorem dX0_firstDue_80 : decode cX0_firstDue 80 = .ok (.iload_n 3, 1) := by decide +kernel
theorem dX0_firstDue_81 : decode cX0_firstDue 81 = .ok (.ireturn, 1) := by decide +kernel
theorem dX1_init_0 : decode cX1_init 0 = .ok (.aload_n 0, 1) := by decide +kernel
theorem dX1_init_1 : decode cX1_init 1 = .ok (.invokespecial 3, 3) := by decide +kernel
theorem dX1_init_4 : decode cX1_init 4 = .ok (.aload_n 0, 1) := by decide +kernel
theorem dX1_init_5 : decode cX1_init 5 = .ok (.iconst 1, 1) := by decide +kernel
theorem dX1_init_6 : decode cX1_init 6 = .ok (.putfield 9, 3) := by decide +kernel
theorem dX1_init_9 : decode cX1_init 9 = .ok (.aload_n 0, 1) := by decide +kernel
theorem dX1_init_10 : decode cX1_init 10 = .ok (.iconst 0, 1) := by decide +kernel
theorem dX1_init_11 : decode cX1_init 11 = .ok (.putfield 15, 3) := by decide +kernel
theorem dX1_init_14 : decode cX1_init 14 = .ok (.aload_n 0, 1) := by decide +kernel
theorem dX1_init_15 : decode cX1_init 15 = .ok (.iconst 4, 1) := by decide +kernel
theorem dX1_init_16 : decode cX1_init 16 = .ok (.newarray .int, 2) := by decide +kernel
theorem dX1_init_18 : decode cX1_init 18 = .ok (.putfield 18, 3) := by decide +kernel
theorem dX1_init_21 : decode cX1_init 21 = .ok (.aload_n 0, 1) := by decide +kernel
theorem dX1_init_22 : decode cX1_init 22 = .ok (.bipush 40, 2) := by decide +kernel
theorem dX1_init_24 : decode cX1_init 24 = .ok (.newarray .int, 2) := by decide +kernel
theorem dX1_init_26 : decode cX1_init 26 = .ok (.putfield 22, 3) := by decide +kernel
theorem dX1_init_29 : decode cX1_init 29 = .ok (.aload_n 0, 1) := by decide +kernel
theorem dX1_init_30 : decode cX1_init 30 = .ok (.bipush 40, 2) := by decide +kernel
theorem dX1_init_32 : decode cX1_init 32 = .ok (.newarray .int, 2) := by decide +kernel
