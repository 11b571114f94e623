def RX0 : String := "DelayLineStore$Assembler"
def TX0 : u_T := fun k => match k with
  | 0 => ("DelayLineStore$Assembler", "text", "[I", true)
  | 1 => ("DelayLineStore$Assembler", "length", "I", false)
  | 2 => ("DelayLineStore$Assembler", "errorCode", "I", false)
  | 3 => ("DelayLineStore$Assembler", "errorPosition", "I", false)
  | 4 => ("DelayLineStore$Assembler", "words", "[I", true)
  | 5 => ("DelayLineStore$Assembler", "written", "[Z", true)
  | 6 => ("DelayLineStore$Assembler", "writtenCount", "I", false)
  | 7 => ("DelayLineStore$Assembler", "startLocation", "I", false)
  | 8 => ("DelayLineStore$Assembler", "place", "I", false)
  | 9 => ("DelayLineStore$Assembler", "kind", "I", false)
  | 10 => ("DelayLineStore$Assembler", "tokenStart", "I", false)
  | 11 => ("DelayLineStore$Assembler", "tokenEnd", "I", false)
  | _ => ("DelayLineStore$Assembler", "number", "I", false)
def tyX0 : Nat → FieldType := fun k => match k with
  | 0 => .array .int
  | 1 => .int
  | 2 => .int
  | 3 => .int
  | 4 => .array .int
  | 5 => .array .boolean
  | 6 => .int
  | 7 => .int
  | 8 => .int
  | 9 => .int
  | 10 => .int
  | 11 => .int
  | _ => .int
abbrev wsX00 : List Cond := u_ws RX0 TX0 13
theorem nmX0 : ∀ a, a < 13 → ∀ b, b < 13 → a ≠ b → (TX0 a).2.1 ≠ (TX0 b).2.1 := by decide +kernel
theorem tyX0_ok : ∀ k, k < 13 → parseFieldDescriptor (TX0 k).2.2.1 = some (tyX0 k) := by decide +kernel
abbrev cX0_init : ByteArray := prog_2_method_1_code
def yX0_init : MethodName := ⟨RX0, "<init>", "()V"⟩
def RX1 : String := "DelayLineStore$Climate"
def TX1 : u_T := fun k => match k with
  | 0 => ("DelayLineStore$Climate", "temperatures", "[I", true)
  | 1 => ("DelayLineStore$Climate", "pilotTemperature", "I", false)
  | 2 => ("DelayLineStore$Climate", "ovenTemperature", "I", false)
  | 3 => ("DelayLineStore$Climate", "fixedPeriod", "I", false)
  | _ => ("DelayLineStore$Climate", "pilotOn", "Z", false)
def tyX1 : Nat → FieldType := fun k => match k with
  | 0 => .array .int
  | 1 => .int
  | 2 => .int
  | 3 => .int
  | _ => .boolean
abbrev wsX10 : List Cond := u_ws RX1 TX1 5
theorem nmX1 : ∀ a, a < 5 → ∀ b, b < 5 → a ≠ b → (TX1 a).2.1 ≠ (TX1 b).2.1 := by decide +kernel
theorem tyX1_ok : ∀ k, k < 5 → parseFieldDescriptor (TX1 k).2.2.1 = some (tyX1 k) := by decide +kernel
abbrev cX1_init : ByteArray := prog_3_method_1_code
def yX1_init : MethodName := ⟨RX1, "<init>", "()V"⟩
abbrev cX1_temperatureOf : ByteArray := prog_3_method_2_code
def yX1_temperatureOf : MethodName := ⟨RX1, "temperatureOf", "(I)I"⟩
abbrev cX1_putTemperature : ByteArray := prog_3_method_3_code
def yX1_putTemperature : MethodName := ⟨RX1, "putTemperature", "(II)V"⟩
abbrev cX1_exchange : ByteArray := prog_3_method_4_code
def yX1_exchange : MethodName := ⟨RX1, "exchange", "(II)V"⟩
abbrev cX1_clockPeriod : ByteArray := prog_3_method_5_code
def yX1_clockPeriod : MethodName := ⟨RX1, "clockPeriod", "()I"⟩
abbrev cX1_drift : ByteArray := prog_3_method_7_code
def yX1_drift : MethodName := ⟨RX1, "drift", "()V"⟩
abbrev cX1_copyFrom : ByteArray := prog_3_method_8_code
def yX1_copyFrom : MethodName := ⟨RX1, "copyFrom", "(LDelayLineStore$Climate;)V"⟩
def RX2 : String := "DelayLineStore$Computer"
def TX2 : u_T := fun k => match k with
  | 0 => ("DelayLineStore$Computer", "store", "LDelayLineStore$Store;", true)
  | 1 => ("DelayLineStore$Computer", "climate", "LDelayLineStore$Climate;", true)
  | 2 => ("DelayLineStore$Computer", "input", "LDelayLineStore$NumberQueue;", true)
  | 3 => ("DelayLineStore$Computer", "output", "LDelayLineStore$NumberQueue;", true)
  | 4 => ("DelayLineStore$Computer", "executedCounts", "[I", true)
  | 5 => ("DelayLineStore$Computer", "executedTotal", "I", false)
  | 6 => ("DelayLineStore$Computer", "waitedTotal", "I", false)
  | 7 => ("DelayLineStore$Computer", "time", "I", false)
  | 8 => ("DelayLineStore$Computer", "state", "I", false)
  | 9 => ("DelayLineStore$Computer", "here", "I", false)
  | 10 => ("DelayLineStore$Computer", "accumulator", "I", false)
  | _ => ("DelayLineStore$Computer", "overflow", "Z", false)
def tyX2 : Nat → FieldType := fun k => match k with
  | 0 => .object "DelayLineStore$Store"
  | 1 => .object "DelayLineStore$Climate"
  | 2 => .object "DelayLineStore$NumberQueue"
  | 3 => .object "DelayLineStore$NumberQueue"
  | 4 => .array .int
  | 5 => .int
  | 6 => .int
  | 7 => .int
  | 8 => .int
  | 9 => .int
  | 10 => .int
  | _ => .boolean
abbrev wsX20 : List Cond := u_ws RX2 TX2 12
theorem nmX2 : ∀ a, a < 12 → ∀ b, b < 12 → a ≠ b → (TX2 a).2.1 ≠ (TX2 b).2.1 := by decide +kernel
theorem tyX2_ok : ∀ k, k < 12 → parseFieldDescriptor (TX2 k).2.2.1 = some (tyX2 k) := by decide +kernel
abbrev cX2_init : ByteArray := prog_4_method_1_code
def yX2_init : MethodName := ⟨RX2, "<init>", "()V"⟩
abbrev cX2_makeReadyAt : ByteArray := prog_4_method_2_code
def yX2_makeReadyAt : MethodName := ⟨RX2, "makeReadyAt", "(I)V"⟩
abbrev cX2_executedCountAt : ByteArray := prog_4_method_3_code
def yX2_executedCountAt : MethodName := ⟨RX2, "executedCountAt", "(I)I"⟩
abbrev cX2_executeUpTo : ByteArray := prog_4_method_4_code
def yX2_executeUpTo : MethodName := ⟨RX2, "executeUpTo", "(I)I"⟩
abbrev cX2_executeNext : ByteArray := prog_4_method_5_code
def yX2_executeNext : MethodName := ⟨RX2, "executeNext", "()V"⟩
abbrev cX2_isJumpTaken : ByteArray := prog_4_method_6_code
def yX2_isJumpTaken : MethodName := ⟨RX2, "isJumpTaken", "(I)Z"⟩
abbrev cX2_perform : ByteArray := prog_4_method_7_code
def yX2_perform : MethodName := ⟨RX2, "perform", "(II)V"⟩
abbrev cX2_combine : ByteArray := prog_4_method_8_code
def yX2_combine : MethodName := ⟨RX2, "combine", "(II)V"⟩
abbrev cX2_putResult : ByteArray := prog_4_method_9_code
def yX2_putResult : MethodName := ⟨RX2, "putResult", "(J)V"⟩
abbrev cX2_awaitCycle : ByteArray := prog_4_method_10_code
def yX2_awaitCycle : MethodName := ⟨RX2, "awaitCycle", "(I)V"⟩
abbrev cX2_pass : ByteArray := prog_4_method_11_code
def yX2_pass : MethodName := ⟨RX2, "pass", "(I)V"⟩
abbrev cX2_endMajorCycle : ByteArray := prog_4_method_12_code
def yX2_endMajorCycle : MethodName := ⟨RX2, "endMajorCycle", "(I)V"⟩
abbrev cX2_copyFrom : ByteArray := prog_4_method_13_code
def yX2_copyFrom : MethodName := ⟨RX2, "copyFrom", "(LDelayLineStore$Computer;)V"⟩
def RX3 : String := "DelayLineStore$Instruction"
def TX3 : u_T := fun k => match k with
  | _ => ("", "", "", false)
def tyX3 : Nat → FieldType := fun k => match k with
  | _ => .int
abbrev wsX30 : List Cond := u_ws RX3 TX3 0
theorem nmX3 : ∀ a, a < 0 → ∀ b, b < 0 → a ≠ b → (TX3 a).2.1 ≠ (TX3 b).2.1 := by decide +kernel
theorem tyX3_ok : ∀ k, k < 0 → parseFieldDescriptor (TX3 k).2.2.1 = some (tyX3 k) := by decide +kernel
abbrev cX3_opcode : ByteArray := prog_5_method_2_code
def yX3_opcode : MethodName := ⟨RX3, "opcode", "(I)I"⟩
abbrev cX3_operand : ByteArray := prog_5_method_3_code
def yX3_operand : MethodName := ⟨RX3, "operand", "(I)I"⟩
abbrev cX3_next : ByteArray := prog_5_method_4_code
def yX3_next : MethodName := ⟨RX3, "next", "(I)I"⟩
abbrev cX3_operandForm : ByteArray := prog_5_method_8_code
def yX3_operandForm : MethodName := ⟨RX3, "operandForm", "(I)I"⟩
abbrev cX3_isJump : ByteArray := prog_5_method_9_code
def yX3_isJump : MethodName := ⟨RX3, "isJump", "(I)Z"⟩
abbrev cX3_waitsForOperand : ByteArray := prog_5_method_10_code
def yX3_waitsForOperand : MethodName := ⟨RX3, "waitsForOperand", "(I)Z"⟩
abbrev cX3_ownTime : ByteArray := prog_5_method_11_code
def yX3_ownTime : MethodName := ⟨RX3, "ownTime", "(I)I"⟩
def RX4 : String := "DelayLineStore$NumberQueue"
def TX4 : u_T := fun k => match k with
  | 0 => ("DelayLineStore$NumberQueue", "ring", "[I", true)
  | 1 => ("DelayLineStore$NumberQueue", "first", "I", false)
  | _ => ("DelayLineStore$NumberQueue", "length", "I", false)
def tyX4 : Nat → FieldType := fun k => match k with
  | 0 => .array .int
  | 1 => .int
  | _ => .int
abbrev wsX40 : List Cond := u_ws RX4 TX4 3
theorem nmX4 : ∀ a, a < 3 → ∀ b, b < 3 → a ≠ b → (TX4 a).2.1 ≠ (TX4 b).2.1 := by decide +kernel
theorem tyX4_ok : ∀ k, k < 3 → parseFieldDescriptor (TX4 k).2.2.1 = some (tyX4 k) := by decide +kernel
abbrev cX4_init : ByteArray := prog_6_method_1_code
def yX4_init : MethodName := ⟨RX4, "<init>", "()V"⟩
abbrev cX4_isFull : ByteArray := prog_6_method_2_code
def yX4_isFull : MethodName := ⟨RX4, "isFull", "()Z"⟩
abbrev cX4_addLast : ByteArray := prog_6_method_3_code
def yX4_addLast : MethodName := ⟨RX4, "addLast", "(I)V"⟩
abbrev cX4_removeFirst : ByteArray := prog_6_method_4_code
def yX4_removeFirst : MethodName := ⟨RX4, "removeFirst", "()I"⟩
abbrev cX4_copyFrom : ByteArray := prog_6_method_5_code
def yX4_copyFrom : MethodName := ⟨RX4, "copyFrom", "(LDelayLineStore$NumberQueue;)V"⟩
def RX5 : String := "DelayLineStore$Store"
def TX5 : u_T := fun k => match k with
  | 0 => ("DelayLineStore$Store", "bits", "[I", true)
  | 1 => ("DelayLineStore$Store", "ring", "[I", true)
  | 2 => ("DelayLineStore$Store", "slipCounts", "[I", true)
  | _ => ("DelayLineStore$Store", "dropoutCount", "I", false)
def tyX5 : Nat → FieldType := fun k => match k with
  | 0 => .array .int
  | 1 => .array .int
  | 2 => .array .int
  | _ => .int
abbrev wsX50 : List Cond := u_ws RX5 TX5 4
theorem nmX5 : ∀ a, a < 4 → ∀ b, b < 4 → a ≠ b → (TX5 a).2.1 ≠ (TX5 b).2.1 := by decide +kernel
theorem tyX5_ok : ∀ k, k < 4 → parseFieldDescriptor (TX5 k).2.2.1 = some (tyX5 k) := by decide +kernel
abbrev cX5_init : ByteArray := prog_7_method_1_code
def yX5_init : MethodName := ⟨RX5, "<init>", "()V"⟩
abbrev cX5_wordAt : ByteArray := prog_7_method_2_code
def yX5_wordAt : MethodName := ⟨RX5, "wordAt", "(I)I"⟩
abbrev cX5_putWord : ByteArray := prog_7_method_3_code
def yX5_putWord : MethodName := ⟨RX5, "putWord", "(II)V"⟩
abbrev cX5_slipCountOf : ByteArray := prog_7_method_4_code
def yX5_slipCountOf : MethodName := ⟨RX5, "slipCountOf", "(I)I"⟩
abbrev cX5_countOnes : ByteArray := prog_7_method_5_code
def yX5_countOnes : MethodName := ⟨RX5, "countOnes", "(I)I"⟩
abbrev cX5_clearBits : ByteArray := prog_7_method_6_code
def yX5_clearBits : MethodName := ⟨RX5, "clearBits", "(I)V"⟩
abbrev cX5_exchange : ByteArray := prog_7_method_7_code
def yX5_exchange : MethodName := ⟨RX5, "exchange", "(II)V"⟩
abbrev cX5_moveBits : ByteArray := prog_7_method_8_code
def yX5_moveBits : MethodName := ⟨RX5, "moveBits", "(II)V"⟩
abbrev cX5_dropBit : ByteArray := prog_7_method_9_code
def yX5_dropBit : MethodName := ⟨RX5, "dropBit", "(II)V"⟩
abbrev cX5_copyFrom : ByteArray := prog_7_method_10_code
def yX5_copyFrom : MethodName := ⟨RX5, "copyFrom", "(LDelayLineStore$Store;)V"⟩
def RX6 : String := "DelayLineStore"
def TX6 : u_T := fun k => match k with
  | 0 => ("DelayLineStore", "computer", "LDelayLineStore$Computer;", true)
  | 1 => ("DelayLineStore", "rehearsal", "LDelayLineStore$Computer;", true)
  | 2 => ("DelayLineStore", "firstSnapshot", "LDelayLineStore$Computer;", true)
  | 3 => ("DelayLineStore", "secondSnapshot", "LDelayLineStore$Computer;", true)
  | 4 => ("DelayLineStore", "firstSaved", "Z", false)
  | 5 => ("DelayLineStore", "secondSaved", "Z", false)
  | 6 => ("DelayLineStore", "assembler", "LDelayLineStore$Assembler;", true)
  | _ => ("DelayLineStore", "formatted", "Ljava/lang/StringBuilder;", true)
def tyX6 : Nat → FieldType := fun k => match k with
  | 0 => .object "DelayLineStore$Computer"
  | 1 => .object "DelayLineStore$Computer"
  | 2 => .object "DelayLineStore$Computer"
  | 3 => .object "DelayLineStore$Computer"
  | 4 => .boolean
  | 5 => .boolean
  | 6 => .object "DelayLineStore$Assembler"
  | _ => .object "java/lang/StringBuilder"
abbrev wsX60 : List Cond := u_ws RX6 TX6 8
theorem nmX6 : ∀ a, a < 8 → ∀ b, b < 8 → a ≠ b → (TX6 a).2.1 ≠ (TX6 b).2.1 := by decide +kernel
theorem tyX6_ok : ∀ k, k < 8 → parseFieldDescriptor (TX6 k).2.2.1 = some (tyX6 k) := by decide +kernel
abbrev cX6_init : ByteArray := prog_1_method_1_code
def yX6_init : MethodName := ⟨RX6, "<init>", "()V"⟩
abbrev cX6_readWord : ByteArray := prog_1_method_7_code
def yX6_readWord : MethodName := ⟨RX6, "readWord", "(II)I"⟩
abbrev cX6_writeWord : ByteArray := prog_1_method_8_code
def yX6_writeWord : MethodName := ⟨RX6, "writeWord", "(III)I"⟩
abbrev cX6_clearTank : ByteArray := prog_1_method_9_code
def yX6_clearTank : MethodName := ⟨RX6, "clearTank", "(I)I"⟩
abbrev cX6_swapTanks : ByteArray := prog_1_method_10_code
def yX6_swapTanks : MethodName := ⟨RX6, "swapTanks", "(II)V"⟩
abbrev cX6_bitCount : ByteArray := prog_1_method_11_code
def yX6_bitCount : MethodName := ⟨RX6, "bitCount", "(I)I"⟩
abbrev cX6_slips : ByteArray := prog_1_method_12_code
def yX6_slips : MethodName := ⟨RX6, "slips", "(I)I"⟩
abbrev cX6_dropouts : ByteArray := prog_1_method_13_code
def yX6_dropouts : MethodName := ⟨RX6, "dropouts", "()I"⟩
abbrev cX6_setTemperature : ByteArray := prog_1_method_14_code
def yX6_setTemperature : MethodName := ⟨RX6, "setTemperature", "(II)I"⟩
abbrev cX6_temperature : ByteArray := prog_1_method_15_code
def yX6_temperature : MethodName := ⟨RX6, "temperature", "(I)I"⟩
abbrev cX6_setOven : ByteArray := prog_1_method_16_code
def yX6_setOven : MethodName := ⟨RX6, "setOven", "(I)I"⟩
abbrev cX6_setPilotTemperature : ByteArray := prog_1_method_17_code
def yX6_setPilotTemperature : MethodName := ⟨RX6, "setPilotTemperature", "(I)I"⟩
abbrev cX6_setPilot : ByteArray := prog_1_method_18_code
def yX6_setPilot : MethodName := ⟨RX6, "setPilot", "(Z)Z"⟩
abbrev cX6_setFixedPeriod : ByteArray := prog_1_method_19_code
def yX6_setFixedPeriod : MethodName := ⟨RX6, "setFixedPeriod", "(I)I"⟩
abbrev cX6_period : ByteArray := prog_1_method_20_code
def yX6_period : MethodName := ⟨RX6, "period", "()I"⟩
abbrev cX6_mismatch : ByteArray := prog_1_method_21_code
def yX6_mismatch : MethodName := ⟨RX6, "mismatch", "(I)I"⟩
abbrev cX6_start : ByteArray := prog_1_method_25_code
def yX6_start : MethodName := ⟨RX6, "start", "(II)V"⟩
abbrev cX6_run : ByteArray := prog_1_method_26_code
def yX6_run : MethodName := ⟨RX6, "run", "(I)I"⟩
abbrev cX6_idle : ByteArray := prog_1_method_27_code
def yX6_idle : MethodName := ⟨RX6, "idle", "(I)I"⟩
abbrev cX6_time : ByteArray := prog_1_method_28_code
def yX6_time : MethodName := ⟨RX6, "time", "()I"⟩
abbrev cX6_state : ByteArray := prog_1_method_29_code
def yX6_state : MethodName := ⟨RX6, "state", "()I"⟩
abbrev cX6_accumulator : ByteArray := prog_1_method_30_code
def yX6_accumulator : MethodName := ⟨RX6, "accumulator", "()I"⟩
abbrev cX6_hasOverflow : ByteArray := prog_1_method_31_code
def yX6_hasOverflow : MethodName := ⟨RX6, "hasOverflow", "()Z"⟩
abbrev cX6_location : ByteArray := prog_1_method_32_code
def yX6_location : MethodName := ⟨RX6, "location", "()I"⟩
abbrev cX6_offerInput : ByteArray := prog_1_method_33_code
def yX6_offerInput : MethodName := ⟨RX6, "offerInput", "(I)I"⟩
abbrev cX6_takeOutput : ByteArray := prog_1_method_34_code
def yX6_takeOutput : MethodName := ⟨RX6, "takeOutput", "()I"⟩
abbrev cX6_outputLength : ByteArray := prog_1_method_35_code
def yX6_outputLength : MethodName := ⟨RX6, "outputLength", "()I"⟩
abbrev cX6_executed : ByteArray := prog_1_method_36_code
def yX6_executed : MethodName := ⟨RX6, "executed", "()I"⟩
abbrev cX6_executedAt : ByteArray := prog_1_method_37_code
def yX6_executedAt : MethodName := ⟨RX6, "executedAt", "(II)I"⟩
abbrev cX6_waited : ByteArray := prog_1_method_38_code
def yX6_waited : MethodName := ⟨RX6, "waited", "()I"⟩
abbrev cX6_predictTime : ByteArray := prog_1_method_39_code
def yX6_predictTime : MethodName := ⟨RX6, "predictTime", "(I)I"⟩
abbrev cX6_requireTank : ByteArray := prog_1_method_48_code
def yX6_requireTank : MethodName := ⟨RX6, "requireTank", "(I)V"⟩
abbrev cX6_requireLocation : ByteArray := prog_1_method_49_code
def yX6_requireLocation : MethodName := ⟨RX6, "requireLocation", "(II)V"⟩
abbrev cX6_requireWord : ByteArray := prog_1_method_50_code
def yX6_requireWord : MethodName := ⟨RX6, "requireWord", "(I)V"⟩
abbrev cX6_requireTemperature : ByteArray := prog_1_method_51_code
def yX6_requireTemperature : MethodName := ⟨RX6, "requireTemperature", "(I)V"⟩
abbrev cX6_requireCount : ByteArray := prog_1_method_52_code
def yX6_requireCount : MethodName := ⟨RX6, "requireCount", "(II)V"⟩
abbrev cX6_requireReady : ByteArray := prog_1_method_54_code
def yX6_requireReady : MethodName := ⟨RX6, "requireReady", "()V"⟩
abbrev cX6_locationOf : ByteArray := prog_1_method_55_code
def yX6_locationOf : MethodName := ⟨RX6, "locationOf", "(II)I"⟩
abbrev cX6_cycleOf : ByteArray := prog_1_method_56_code
def yX6_cycleOf : MethodName := ⟨RX6, "cycleOf", "(I)I"⟩
abbrev cX6_waitingUntil : ByteArray := prog_1_method_57_code
def yX6_waitingUntil : MethodName := ⟨RX6, "waitingUntil", "(II)I"⟩
abbrev cX6_wrap : ByteArray := prog_1_method_58_code
def yX6_wrap : MethodName := ⟨RX6, "wrap", "(J)I"⟩
abbrev cX6_delayOf : ByteArray := prog_1_method_59_code
def yX6_delayOf : MethodName := ⟨RX6, "delayOf", "(I)I"⟩
abbrev cX6_mismatchOf : ByteArray := prog_1_method_60_code
def yX6_mismatchOf : MethodName := ⟨RX6, "mismatchOf", "(II)I"⟩
abbrev cX6_copyRow : ByteArray := prog_1_method_62_code
def yX6_copyRow : MethodName := ⟨RX6, "copyRow", "([I[I)V"⟩
def RX7 : String := "DelayLineStoreLaw$Draws"
def TX7 : u_T := fun k => match k with
  | _ => ("DelayLineStoreLaw$Draws", "x", "I", false)
def tyX7 : Nat → FieldType := fun k => match k with
  | _ => .int
abbrev wsX70 : List Cond := u_ws RX7 TX7 1
theorem nmX7 : ∀ a, a < 1 → ∀ b, b < 1 → a ≠ b → (TX7 a).2.1 ≠ (TX7 b).2.1 := by decide +kernel
theorem tyX7_ok : ∀ k, k < 1 → parseFieldDescriptor (TX7 k).2.2.1 = some (tyX7 k) := by decide +kernel
abbrev cX7_init : ByteArray := prog_9_method_1_code
def yX7_init : MethodName := ⟨RX7, "<init>", "(I)V"⟩
abbrev cX7_next : ByteArray := prog_9_method_2_code
def yX7_next : MethodName := ⟨RX7, "next", "(I)I"⟩
def RX8 : String := "DelayLineStoreLaw$Machine"
def TX8 : u_T := fun k => match k with
  | 0 => ("DelayLineStoreLaw$Machine", "bits", "[[Z", true)
  | 1 => ("DelayLineStoreLaw$Machine", "warm", "[I", true)
  | 2 => ("DelayLineStoreLaw$Machine", "slips", "[I", true)
  | 3 => ("DelayLineStoreLaw$Machine", "counts", "[[I", true)
  | 4 => ("DelayLineStoreLaw$Machine", "in", "Ljava/util/ArrayList;", true)
  | 5 => ("DelayLineStoreLaw$Machine", "out", "Ljava/util/ArrayList;", true)
  | 6 => ("DelayLineStoreLaw$Machine", "time", "I", false)
  | 7 => ("DelayLineStoreLaw$Machine", "acc", "I", false)
  | 8 => ("DelayLineStoreLaw$Machine", "tank", "I", false)
  | 9 => ("DelayLineStoreLaw$Machine", "cycle", "I", false)
  | 10 => ("DelayLineStoreLaw$Machine", "state", "I", false)
  | 11 => ("DelayLineStoreLaw$Machine", "done", "I", false)
  | 12 => ("DelayLineStoreLaw$Machine", "waited", "I", false)
  | 13 => ("DelayLineStoreLaw$Machine", "dropouts", "I", false)
  | 14 => ("DelayLineStoreLaw$Machine", "oven", "I", false)
  | 15 => ("DelayLineStoreLaw$Machine", "pilot", "I", false)
  | 16 => ("DelayLineStoreLaw$Machine", "fixed", "I", false)
  | 17 => ("DelayLineStoreLaw$Machine", "isPilot", "Z", false)
  | _ => ("DelayLineStoreLaw$Machine", "isOver", "Z", false)
def tyX8 : Nat → FieldType := fun k => match k with
  | 0 => .array (.array .boolean)
  | 1 => .array .int
  | 2 => .array .int
  | 3 => .array (.array .int)
  | 4 => .object "java/util/ArrayList"
  | 5 => .object "java/util/ArrayList"
  | 6 => .int
  | 7 => .int
  | 8 => .int
  | 9 => .int
  | 10 => .int
  | 11 => .int
  | 12 => .int
  | 13 => .int
  | 14 => .int
  | 15 => .int
  | 16 => .int
  | 17 => .boolean
  | _ => .boolean
abbrev wsX80 : List Cond := u_ws RX8 TX8 19
theorem nmX8 : ∀ a, a < 19 → ∀ b, b < 19 → a ≠ b → (TX8 a).2.1 ≠ (TX8 b).2.1 := by decide +kernel
theorem tyX8_ok : ∀ k, k < 19 → parseFieldDescriptor (TX8 k).2.2.1 = some (tyX8 k) := by decide +kernel
abbrev cX8_init : ByteArray := prog_10_method_1_code
def yX8_init : MethodName := ⟨RX8, "<init>", "()V"⟩
abbrev cX8_copy : ByteArray := prog_10_method_2_code
def yX8_copy : MethodName := ⟨RX8, "copy", "()LDelayLineStoreLaw$Machine;"⟩
abbrev cX8_word : ByteArray := prog_10_method_3_code
def yX8_word : MethodName := ⟨RX8, "word", "(II)I"⟩
abbrev cX8_set : ByteArray := prog_10_method_4_code
def yX8_set : MethodName := ⟨RX8, "set", "(III)V"⟩
abbrev cX8_ones : ByteArray := prog_10_method_5_code
def yX8_ones : MethodName := ⟨RX8, "ones", "(I)I"⟩
abbrev cX8_period : ByteArray := prog_10_method_6_code
def yX8_period : MethodName := ⟨RX8, "period", "()I"⟩
abbrev cX8_mismatch : ByteArray := prog_10_method_7_code
def yX8_mismatch : MethodName := ⟨RX8, "mismatch", "(I)I"⟩
abbrev cX8_isSafe : ByteArray := prog_10_method_8_code
def yX8_isSafe : MethodName := ⟨RX8, "isSafe", "(I)Z"⟩
abbrev cX8_areSafe : ByteArray := prog_10_method_9_code
def yX8_areSafe : MethodName := ⟨RX8, "areSafe", "()Z"⟩
abbrev cX8_warms : ByteArray := prog_10_method_10_code
def yX8_warms : MethodName := ⟨RX8, "warms", "()V"⟩
abbrev cX8_passes : ByteArray := prog_10_method_11_code
def yX8_passes : MethodName := ⟨RX8, "passes", "(I)V"⟩
abbrev cX8_waitsFor : ByteArray := prog_10_method_12_code
def yX8_waitsFor : MethodName := ⟨RX8, "waitsFor", "(I)V"⟩
abbrev cX8_wrap : ByteArray := prog_10_method_13_code
def yX8_wrap : MethodName := ⟨RX8, "wrap", "(J)I"⟩
abbrev cX8_result : ByteArray := prog_10_method_14_code
def yX8_result : MethodName := ⟨RX8, "result", "(JZ)V"⟩
abbrev cX8_step : ByteArray := prog_10_method_15_code
def yX8_step : MethodName := ⟨RX8, "step", "()Z"⟩
abbrev cX8_run : ByteArray := prog_10_method_16_code
def yX8_run : MethodName := ⟨RX8, "run", "(I)I"⟩
def RX9 : String := "DelayLineStoreModel"
def TX9 : u_T := fun k => match k with
  | _ => ("", "", "", false)
def tyX9 : Nat → FieldType := fun k => match k with
  | _ => .int
abbrev wsX90 : List Cond := u_ws RX9 TX9 0
theorem nmX9 : ∀ a, a < 0 → ∀ b, b < 0 → a ≠ b → (TX9 a).2.1 ≠ (TX9 b).2.1 := by decide +kernel
theorem tyX9_ok : ∀ k, k < 0 → parseFieldDescriptor (TX9 k).2.2.1 = some (tyX9 k) := by decide +kernel
def RJx145de : String := "java/io/Serializable"
def TJx145de : u_T := fun k => match k with
  | _ => ("", "", "", false)
def tyJx145de : Nat → FieldType := fun k => match k with
  | _ => .int
abbrev wsJx145de0 : List Cond := u_ws RJx145de TJx145de 0
theorem nmJx145de : ∀ a, a < 0 → ∀ b, b < 0 → a ≠ b → (TJx145de a).2.1 ≠ (TJx145de b).2.1 := by decide +kernel
theorem tyJx145de_ok : ∀ k, k < 0 → parseFieldDescriptor (TJx145de k).2.2.1 = some (tyJx145de k) := by decide +kernel
def RJ5 : String := "java/lang/AbstractStringBuilder"
def TJ5 : u_T := fun k => match k with
  | _ => ("", "", "", false)
def tyJ5 : Nat → FieldType := fun k => match k with
  | _ => .int
abbrev wsJ50 : List Cond := u_ws RJ5 TJ5 0
theorem nmJ5 : ∀ a, a < 0 → ∀ b, b < 0 → a ≠ b → (TJ5 a).2.1 ≠ (TJ5 b).2.1 := by decide +kernel
theorem tyJ5_ok : ∀ k, k < 0 → parseFieldDescriptor (TJ5 k).2.2.1 = some (tyJ5 k) := by decide +kernel
abbrev cJ5_init_d00df : ByteArray := prog_13_method_2_code
def yJ5_init_d00df : MethodName := ⟨RJ5, "<init>", "(I)V"⟩
def RJx2cfe8 : String := "java/lang/Appendable"
def TJx2cfe8 : u_T := fun k => match k with
  | _ => ("", "", "", false)
def tyJx2cfe8 : Nat → FieldType := fun k => match k with
  | _ => .int
abbrev wsJx2cfe80 : List Cond := u_ws RJx2cfe8 TJx2cfe8 0
theorem nmJx2cfe8 : ∀ a, a < 0 → ∀ b, b < 0 → a ≠ b → (TJx2cfe8 a).2.1 ≠ (TJx2cfe8 b).2.1 := by decide +kernel
theorem tyJx2cfe8_ok : ∀ k, k < 0 → parseFieldDescriptor (TJx2cfe8 k).2.2.1 = some (tyJx2cfe8 k) := by decide +kernel
def RJx9f9b0 : String := "java/lang/CharSequence"
def TJx9f9b0 : u_T := fun k => match k with
  | _ => ("", "", "", false)
def tyJx9f9b0 : Nat → FieldType := fun k => match k with
  | _ => .int
abbrev wsJx9f9b00 : List Cond := u_ws RJx9f9b0 TJx9f9b0 0
theorem nmJx9f9b0 : ∀ a, a < 0 → ∀ b, b < 0 → a ≠ b → (TJx9f9b0 a).2.1 ≠ (TJx9f9b0 b).2.1 := by decide +kernel
theorem tyJx9f9b0_ok : ∀ k, k < 0 → parseFieldDescriptor (TJx9f9b0 k).2.2.1 = some (tyJx9f9b0 k) := by decide +kernel
def RJx8e188 : String := "java/lang/Cloneable"
def TJx8e188 : u_T := fun k => match k with
  | _ => ("", "", "", false)
def tyJx8e188 : Nat → FieldType := fun k => match k with
  | _ => .int
abbrev wsJx8e1880 : List Cond := u_ws RJx8e188 TJx8e188 0
theorem nmJx8e188 : ∀ a, a < 0 → ∀ b, b < 0 → a ≠ b → (TJx8e188 a).2.1 ≠ (TJx8e188 b).2.1 := by decide +kernel
theorem tyJx8e188_ok : ∀ k, k < 0 → parseFieldDescriptor (TJx8e188 k).2.2.1 = some (tyJx8e188 k) := by decide +kernel
def RJxb160c : String := "java/lang/Comparable"
def TJxb160c : u_T := fun k => match k with
  | _ => ("", "", "", false)
def tyJxb160c : Nat → FieldType := fun k => match k with
  | _ => .int
abbrev wsJxb160c0 : List Cond := u_ws RJxb160c TJxb160c 0
theorem nmJxb160c : ∀ a, a < 0 → ∀ b, b < 0 → a ≠ b → (TJxb160c a).2.1 ≠ (TJxb160c b).2.1 := by decide +kernel
theorem tyJxb160c_ok : ∀ k, k < 0 → parseFieldDescriptor (TJxb160c k).2.2.1 = some (tyJxb160c k) := by decide +kernel
def RJxabbfe : String := "java/lang/Integer$IntegerCache"
def TJxabbfe : u_T := fun k => match k with
  | _ => ("", "", "", false)
def tyJxabbfe : Nat → FieldType := fun k => match k with
  | _ => .int
abbrev wsJxabbfe0 : List Cond := u_ws RJxabbfe TJxabbfe 0
theorem nmJxabbfe : ∀ a, a < 0 → ∀ b, b < 0 → a ≠ b → (TJxabbfe a).2.1 ≠ (TJxabbfe b).2.1 := by decide +kernel
theorem tyJxabbfe_ok : ∀ k, k < 0 → parseFieldDescriptor (TJxabbfe k).2.2.1 = some (tyJxabbfe k) := by decide +kernel
def RJ6 : String := "java/lang/Integer"
def TJ6 : u_T := fun k => match k with
  | _ => ("java/lang/Integer", "value", "I", true)
def tyJ6 : Nat → FieldType := fun k => match k with
  | _ => .int
abbrev wsJ60 : List Cond := u_ws RJ6 TJ6 1
theorem nmJ6 : ∀ a, a < 1 → ∀ b, b < 1 → a ≠ b → (TJ6 a).2.1 ≠ (TJ6 b).2.1 := by decide +kernel
theorem tyJ6_ok : ∀ k, k < 1 → parseFieldDescriptor (TJ6 k).2.2.1 = some (tyJ6 k) := by decide +kernel
abbrev cJ6_valueOf_2dffe : ByteArray := prog_22_method_22_code
def yJ6_valueOf_2dffe : MethodName := ⟨RJ6, "valueOf", "(I)Ljava/lang/Integer;"⟩
abbrev cJ6_init_d00df : ByteArray := prog_22_method_23_code
def yJ6_init_d00df : MethodName := ⟨RJ6, "<init>", "(I)V"⟩
abbrev cJ6_intValue_8abf5 : ByteArray := prog_22_method_27_code
def yJ6_intValue_8abf5 : MethodName := ⟨RJ6, "intValue", "()I"⟩
abbrev cJ6_bitCount_0f7a4 : ByteArray := prog_22_method_49_code
def yJ6_bitCount_0f7a4 : MethodName := ⟨RJ6, "bitCount", "(I)I"⟩
def RJxab1ab : String := "java/lang/Iterable"
def TJxab1ab : u_T := fun k => match k with
  | _ => ("", "", "", false)
def tyJxab1ab : Nat → FieldType := fun k => match k with
  | _ => .int
abbrev wsJxab1ab0 : List Cond := u_ws RJxab1ab TJxab1ab 0
theorem nmJxab1ab : ∀ a, a < 0 → ∀ b, b < 0 → a ≠ b → (TJxab1ab a).2.1 ≠ (TJxab1ab b).2.1 := by decide +kernel
theorem tyJxab1ab_ok : ∀ k, k < 0 → parseFieldDescriptor (TJxab1ab k).2.2.1 = some (tyJxab1ab k) := by decide +kernel
def RJ9 : String := "java/lang/Math"
def TJ9 : u_T := fun k => match k with
  | _ => ("", "", "", false)
def tyJ9 : Nat → FieldType := fun k => match k with
  | _ => .int
abbrev wsJ90 : List Cond := u_ws RJ9 TJ9 0
theorem nmJ9 : ∀ a, a < 0 → ∀ b, b < 0 → a ≠ b → (TJ9 a).2.1 ≠ (TJ9 b).2.1 := by decide +kernel
theorem tyJ9_ok : ∀ k, k < 0 → parseFieldDescriptor (TJ9 k).2.2.1 = some (tyJ9 k) := by decide +kernel
abbrev cJ9_floorDiv_7cf53 : ByteArray := prog_25_method_47_code
def yJ9_floorDiv_7cf53 : MethodName := ⟨RJ9, "floorDiv", "(II)I"⟩
abbrev cJ9_floorDiv_f86c9 : ByteArray := prog_25_method_49_code
def yJ9_floorDiv_f86c9 : MethodName := ⟨RJ9, "floorDiv", "(JJ)J"⟩
abbrev cJ9_floorMod_7cf53 : ByteArray := prog_25_method_50_code
def yJ9_floorMod_7cf53 : MethodName := ⟨RJ9, "floorMod", "(II)I"⟩
abbrev cJ9_abs_0f7a4 : ByteArray := prog_25_method_59_code
def yJ9_abs_0f7a4 : MethodName := ⟨RJ9, "abs", "(I)I"⟩
abbrev cJ9_max_7cf53 : ByteArray := prog_25_method_65_code
def yJ9_max_7cf53 : MethodName := ⟨RJ9, "max", "(II)I"⟩
abbrev cJ9_min_7cf53 : ByteArray := prog_25_method_69_code
def yJ9_min_7cf53 : MethodName := ⟨RJ9, "min", "(II)I"⟩
def RJxd2413 : String := "java/lang/Number"
def TJxd2413 : u_T := fun k => match k with
  | _ => ("", "", "", false)
def tyJxd2413 : Nat → FieldType := fun k => match k with
  | _ => .int
abbrev wsJxd24130 : List Cond := u_ws RJxd2413 TJxd2413 0
theorem nmJxd2413 : ∀ a, a < 0 → ∀ b, b < 0 → a ≠ b → (TJxd2413 a).2.1 ≠ (TJxd2413 b).2.1 := by decide +kernel
theorem tyJxd2413_ok : ∀ k, k < 0 → parseFieldDescriptor (TJxd2413 k).2.2.1 = some (tyJxd2413 k) := by decide +kernel
abbrev cJxd2413_init_da8c8 : ByteArray := prog_26_method_1_code
def yJxd2413_init_da8c8 : MethodName := ⟨RJxd2413, "<init>", "()V"⟩
def RJ0 : String := "java/lang/String"
def TJ0 : u_T := fun k => match k with
  | _ => ("", "", "", false)
def tyJ0 : Nat → FieldType := fun k => match k with
  | _ => .int
abbrev wsJ00 : List Cond := u_ws RJ0 TJ0 0
theorem nmJ0 : ∀ a, a < 0 → ∀ b, b < 0 → a ≠ b → (TJ0 a).2.1 ≠ (TJ0 b).2.1 := by decide +kernel
theorem tyJ0_ok : ∀ k, k < 0 → parseFieldDescriptor (TJ0 k).2.2.1 = some (tyJ0 k) := by decide +kernel
def RJ4 : String := "java/lang/StringBuilder"
def TJ4 : u_T := fun k => match k with
  | 0 => ("java/lang/AbstractStringBuilder", "value", "[B", false)
  | 1 => ("java/lang/AbstractStringBuilder", "coder", "B", false)
  | 2 => ("java/lang/AbstractStringBuilder", "maybeLatin1", "Z", false)
  | _ => ("java/lang/AbstractStringBuilder", "count", "I", false)
def tyJ4 : Nat → FieldType := fun k => match k with
  | 0 => .array .byte
  | 1 => .byte
  | 2 => .boolean
  | _ => .int
abbrev wsJ40 : List Cond := u_ws RJ4 TJ4 4
theorem nmJ4 : ∀ a, a < 4 → ∀ b, b < 4 → a ≠ b → (TJ4 a).2.1 ≠ (TJ4 b).2.1 := by decide +kernel
theorem tyJ4_ok : ∀ k, k < 4 → parseFieldDescriptor (TJ4 k).2.2.1 = some (tyJ4 k) := by decide +kernel
abbrev cJ4_init_da8c8 : ByteArray := prog_29_method_1_code
def yJ4_init_da8c8 : MethodName := ⟨RJ4, "<init>", "()V"⟩
def RJ2 : String := "java/lang/StringUTF16"
def TJ2 : u_T := fun k => match k with
  | _ => ("", "", "", false)
def tyJ2 : Nat → FieldType := fun k => match k with
  | _ => .int
abbrev wsJ20 : List Cond := u_ws RJ2 TJ2 0
theorem nmJ2 : ∀ a, a < 0 → ∀ b, b < 0 → a ≠ b → (TJ2 a).2.1 ≠ (TJ2 b).2.1 := by decide +kernel
theorem tyJ2_ok : ∀ k, k < 0 → parseFieldDescriptor (TJ2 k).2.2.1 = some (tyJ2 k) := by decide +kernel
abbrev cJ2_newBytesFor_77867 : ByteArray := prog_30_method_2_code
def yJ2_newBytesFor_77867 : MethodName := ⟨RJ2, "newBytesFor", "(I)[B"⟩
abbrev cJ2_newBytesLength_0f7a4 : ByteArray := prog_30_method_3_code
def yJ2_newBytesLength_0f7a4 : MethodName := ⟨RJ2, "newBytesLength", "(I)I"⟩
def RJ10 : String := "java/lang/System"
def TJ10 : u_T := fun k => match k with
  | _ => ("", "", "", false)
def tyJ10 : Nat → FieldType := fun k => match k with
  | _ => .int
abbrev wsJ100 : List Cond := u_ws RJ10 TJ10 0
theorem nmJ10 : ∀ a, a < 0 → ∀ b, b < 0 → a ≠ b → (TJ10 a).2.1 ≠ (TJ10 b).2.1 := by decide +kernel
theorem tyJ10_ok : ∀ k, k < 0 → parseFieldDescriptor (TJ10 k).2.2.1 = some (tyJ10 k) := by decide +kernel
def RJxfd54e : String := "java/lang/constant/Constable"
def TJxfd54e : u_T := fun k => match k with
  | _ => ("", "", "", false)
def tyJxfd54e : Nat → FieldType := fun k => match k with
  | _ => .int
abbrev wsJxfd54e0 : List Cond := u_ws RJxfd54e TJxfd54e 0
theorem nmJxfd54e : ∀ a, a < 0 → ∀ b, b < 0 → a ≠ b → (TJxfd54e a).2.1 ≠ (TJxfd54e b).2.1 := by decide +kernel
theorem tyJxfd54e_ok : ∀ k, k < 0 → parseFieldDescriptor (TJxfd54e k).2.2.1 = some (tyJxfd54e k) := by decide +kernel
def RJx3cf43 : String := "java/lang/constant/ConstantDesc"
def TJx3cf43 : u_T := fun k => match k with
  | _ => ("", "", "", false)
def tyJx3cf43 : Nat → FieldType := fun k => match k with
  | _ => .int
abbrev wsJx3cf430 : List Cond := u_ws RJx3cf43 TJx3cf43 0
theorem nmJx3cf43 : ∀ a, a < 0 → ∀ b, b < 0 → a ≠ b → (TJx3cf43 a).2.1 ≠ (TJx3cf43 b).2.1 := by decide +kernel
theorem tyJx3cf43_ok : ∀ k, k < 0 → parseFieldDescriptor (TJx3cf43 k).2.2.1 = some (tyJx3cf43 k) := by decide +kernel
def RJxa1e45 : String := "java/util/AbstractCollection"
def TJxa1e45 : u_T := fun k => match k with
  | _ => ("", "", "", false)
def tyJxa1e45 : Nat → FieldType := fun k => match k with
  | _ => .int
abbrev wsJxa1e450 : List Cond := u_ws RJxa1e45 TJxa1e45 0
theorem nmJxa1e45 : ∀ a, a < 0 → ∀ b, b < 0 → a ≠ b → (TJxa1e45 a).2.1 ≠ (TJxa1e45 b).2.1 := by decide +kernel
theorem tyJxa1e45_ok : ∀ k, k < 0 → parseFieldDescriptor (TJxa1e45 k).2.2.1 = some (tyJxa1e45 k) := by decide +kernel
abbrev cJxa1e45_init_da8c8 : ByteArray := prog_35_method_1_code
def yJxa1e45_init_da8c8 : MethodName := ⟨RJxa1e45, "<init>", "()V"⟩
def RJxc12de : String := "java/util/AbstractList"
def TJxc12de : u_T := fun k => match k with
  | _ => ("", "", "", false)
def tyJxc12de : Nat → FieldType := fun k => match k with
  | _ => .int
abbrev wsJxc12de0 : List Cond := u_ws RJxc12de TJxc12de 0
theorem nmJxc12de : ∀ a, a < 0 → ∀ b, b < 0 → a ≠ b → (TJxc12de a).2.1 ≠ (TJxc12de b).2.1 := by decide +kernel
theorem tyJxc12de_ok : ∀ k, k < 0 → parseFieldDescriptor (TJxc12de k).2.2.1 = some (tyJxc12de k) := by decide +kernel
abbrev cJxc12de_init_da8c8 : ByteArray := prog_36_method_1_code
def yJxc12de_init_da8c8 : MethodName := ⟨RJxc12de, "<init>", "()V"⟩
def RJx4a65c : String := "java/util/ArrayList"
def TJx4a65c : u_T := fun k => match k with
  | 0 => ("java/util/AbstractList", "modCount", "I", false)
  | 1 => ("java/util/ArrayList", "elementData", "[Ljava/lang/Object;", false)
  | _ => ("java/util/ArrayList", "size", "I", false)
def tyJx4a65c : Nat → FieldType := fun k => match k with
  | 0 => .int
  | 1 => .array (.object "java/lang/Object")
  | _ => .int
abbrev wsJx4a65c0 : List Cond := u_ws RJx4a65c TJx4a65c 3
theorem nmJx4a65c : ∀ a, a < 3 → ∀ b, b < 3 → a ≠ b → (TJx4a65c a).2.1 ≠ (TJx4a65c b).2.1 := by decide +kernel
theorem tyJx4a65c_ok : ∀ k, k < 3 → parseFieldDescriptor (TJx4a65c k).2.2.1 = some (tyJx4a65c k) := by decide +kernel
abbrev cJx4a65c_init_da8c8 : ByteArray := prog_37_method_2_code
def yJx4a65c_init_da8c8 : MethodName := ⟨RJx4a65c, "<init>", "()V"⟩
abbrev cJx4a65c_grow_92f84 : ByteArray := prog_37_method_6_code
def yJx4a65c_grow_92f84 : MethodName := ⟨RJx4a65c, "grow", "(I)[Ljava/lang/Object;"⟩
abbrev cJx4a65c_grow_d5877 : ByteArray := prog_37_method_7_code
def yJx4a65c_grow_d5877 : MethodName := ⟨RJx4a65c, "grow", "()[Ljava/lang/Object;"⟩
abbrev cJx4a65c_size_8abf5 : ByteArray := prog_37_method_8_code
def yJx4a65c_size_8abf5 : MethodName := ⟨RJx4a65c, "size", "()I"⟩
abbrev cJx4a65c_isEmpty_aae02 : ByteArray := prog_37_method_9_code
def yJx4a65c_isEmpty_aae02 : MethodName := ⟨RJx4a65c, "isEmpty", "()Z"⟩
abbrev cJx4a65c_toArray_d5877 : ByteArray := prog_37_method_16_code
def yJx4a65c_toArray_d5877 : MethodName := ⟨RJx4a65c, "toArray", "()[Ljava/lang/Object;"⟩
abbrev cJx4a65c_add_72be8 : ByteArray := prog_37_method_24_code
def yJx4a65c_add_72be8 : MethodName := ⟨RJx4a65c, "add", "(Ljava/lang/Object;[Ljava/lang/Object;I)V"⟩
abbrev cJx4a65c_add_9ea2d : ByteArray := prog_37_method_25_code
def yJx4a65c_add_9ea2d : MethodName := ⟨RJx4a65c, "add", "(Ljava/lang/Object;)Z"⟩
abbrev cJx4a65c_remove_915e3 : ByteArray := prog_37_method_29_code
def yJx4a65c_remove_915e3 : MethodName := ⟨RJx4a65c, "remove", "(I)Ljava/lang/Object;"⟩
abbrev cJx4a65c_fastRemove_b59b0 : ByteArray := prog_37_method_39_code
def yJx4a65c_fastRemove_b59b0 : MethodName := ⟨RJx4a65c, "fastRemove", "([Ljava/lang/Object;I)V"⟩
abbrev cJx4a65c_addAll_f0b43 : ByteArray := prog_37_method_41_code
def yJx4a65c_addAll_f0b43 : MethodName := ⟨RJx4a65c, "addAll", "(Ljava/util/Collection;)Z"⟩
def RJ7 : String := "java/util/Arrays"
def TJ7 : u_T := fun k => match k with
  | _ => ("", "", "", false)
def tyJ7 : Nat → FieldType := fun k => match k with
  | _ => .int
abbrev wsJ70 : List Cond := u_ws RJ7 TJ7 0
theorem nmJ7 : ∀ a, a < 0 → ∀ b, b < 0 → a ≠ b → (TJ7 a).2.1 ≠ (TJ7 b).2.1 := by decide +kernel
theorem tyJ7_ok : ∀ k, k < 0 → parseFieldDescriptor (TJ7 k).2.2.1 = some (tyJ7 k) := by decide +kernel
abbrev cJ7_copyOf_1904c : ByteArray := prog_38_method_119_code
def yJ7_copyOf_1904c : MethodName := ⟨RJ7, "copyOf", "([Ljava/lang/Object;I)[Ljava/lang/Object;"⟩
abbrev cJ7_copyOf_6403c : ByteArray := prog_38_method_120_code
def yJ7_copyOf_6403c : MethodName := ⟨RJ7, "copyOf", "([Ljava/lang/Object;ILjava/lang/Class;)[Ljava/lang/Object;"⟩
def RJx5ef63 : String := "java/util/Collection"
def TJx5ef63 : u_T := fun k => match k with
  | _ => ("", "", "", false)
def tyJx5ef63 : Nat → FieldType := fun k => match k with
  | _ => .int
abbrev wsJx5ef630 : List Cond := u_ws RJx5ef63 TJx5ef63 0
theorem nmJx5ef63 : ∀ a, a < 0 → ∀ b, b < 0 → a ≠ b → (TJx5ef63 a).2.1 ≠ (TJx5ef63 b).2.1 := by decide +kernel
theorem tyJx5ef63_ok : ∀ k, k < 0 → parseFieldDescriptor (TJx5ef63 k).2.2.1 = some (tyJx5ef63 k) := by decide +kernel
def RJxbd725 : String := "java/util/List"
def TJxbd725 : u_T := fun k => match k with
  | _ => ("", "", "", false)
def tyJxbd725 : Nat → FieldType := fun k => match k with
  | _ => .int
abbrev wsJxbd7250 : List Cond := u_ws RJxbd725 TJxbd725 0
theorem nmJxbd725 : ∀ a, a < 0 → ∀ b, b < 0 → a ≠ b → (TJxbd725 a).2.1 ≠ (TJxbd725 b).2.1 := by decide +kernel
theorem tyJxbd725_ok : ∀ k, k < 0 → parseFieldDescriptor (TJxbd725 k).2.2.1 = some (tyJxbd725 k) := by decide +kernel
def RJ15 : String := "java/util/Objects"
def TJ15 : u_T := fun k => match k with
  | _ => ("", "", "", false)
def tyJ15 : Nat → FieldType := fun k => match k with
  | _ => .int
abbrev wsJ150 : List Cond := u_ws RJ15 TJ15 0
theorem nmJ15 : ∀ a, a < 0 → ∀ b, b < 0 → a ≠ b → (TJ15 a).2.1 ≠ (TJ15 b).2.1 := by decide +kernel
theorem tyJ15_ok : ∀ k, k < 0 → parseFieldDescriptor (TJ15 k).2.2.1 = some (tyJ15 k) := by decide +kernel
abbrev cJ15_checkIndex_7cf53 : ByteArray := prog_42_method_17_code
def yJ15_checkIndex_7cf53 : MethodName := ⟨RJ15, "checkIndex", "(II)I"⟩
def RJxf0a74 : String := "java/util/RandomAccess"
def TJxf0a74 : u_T := fun k => match k with
  | _ => ("", "", "", false)
def tyJxf0a74 : Nat → FieldType := fun k => match k with
  | _ => .int
abbrev wsJxf0a740 : List Cond := u_ws RJxf0a74 TJxf0a74 0
theorem nmJxf0a74 : ∀ a, a < 0 → ∀ b, b < 0 → a ≠ b → (TJxf0a74 a).2.1 ≠ (TJxf0a74 b).2.1 := by decide +kernel
theorem tyJxf0a74_ok : ∀ k, k < 0 → parseFieldDescriptor (TJxf0a74 k).2.2.1 = some (tyJxf0a74 k) := by decide +kernel
def RJxa66e6 : String := "java/util/SequencedCollection"
def TJxa66e6 : u_T := fun k => match k with
  | _ => ("", "", "", false)
def tyJxa66e6 : Nat → FieldType := fun k => match k with
  | _ => .int
abbrev wsJxa66e60 : List Cond := u_ws RJxa66e6 TJxa66e6 0
theorem nmJxa66e6 : ∀ a, a < 0 → ∀ b, b < 0 → a ≠ b → (TJxa66e6 a).2.1 ≠ (TJxa66e6 b).2.1 := by decide +kernel
theorem tyJxa66e6_ok : ∀ k, k < 0 → parseFieldDescriptor (TJxa66e6 k).2.2.1 = some (tyJxa66e6 k) := by decide +kernel
def RJ8 : String := "jdk/internal/util/ArraysSupport"
def TJ8 : u_T := fun k => match k with
  | _ => ("", "", "", false)
def tyJ8 : Nat → FieldType := fun k => match k with
  | _ => .int
abbrev wsJ80 : List Cond := u_ws RJ8 TJ8 0
theorem nmJ8 : ∀ a, a < 0 → ∀ b, b < 0 → a ≠ b → (TJ8 a).2.1 ≠ (TJ8 b).2.1 := by decide +kernel
theorem tyJ8_ok : ∀ k, k < 0 → parseFieldDescriptor (TJ8 k).2.2.1 = some (tyJ8 k) := by decide +kernel
abbrev cJ8_newLength_cabcc : ByteArray := prog_45_method_27_code
def yJ8_newLength_cabcc : MethodName := ⟨RJ8, "newLength", "(III)I"⟩
abbrev cJ8_hugeLength_7cf53 : ByteArray := prog_45_method_28_code
def yJ8_hugeLength_7cf53 : MethodName := ⟨RJ8, "hugeLength", "(II)I"⟩
def RJ3 : String := "jdk/internal/util/Preconditions"
def TJ3 : u_T := fun k => match k with
  | _ => ("", "", "", false)
def tyJ3 : Nat → FieldType := fun k => match k with
  | _ => .int
abbrev wsJ30 : List Cond := u_ws RJ3 TJ3 0
theorem nmJ3 : ∀ a, a < 0 → ∀ b, b < 0 → a ≠ b → (TJ3 a).2.1 ≠ (TJ3 b).2.1 := by decide +kernel
theorem tyJ3_ok : ∀ k, k < 0 → parseFieldDescriptor (TJ3 k).2.2.1 = some (tyJ3 k) := by decide +kernel
abbrev cJ3_checkIndex_8e157 : ByteArray := prog_46_method_11_code
def yJ3_checkIndex_8e157 : MethodName := ⟨RJ3, "checkIndex", "(IILjava/util/function/BiFunction;)I"⟩
def RL : String := "DelayLineStoreLaw"
abbrev cL_isSo : ByteArray := method_4_code
def yL_isSo : MethodName := ⟨RL, "isSo", "(LDelayLineStore;LDelayLineStoreLaw$Machine;)Z"⟩
abbrev cL_acts : ByteArray := method_5_code
def yL_acts : MethodName := ⟨RL, "acts", "(LDelayLineStore;LDelayLineStoreLaw$Machine;LDelayLineStoreLaw$Draws;)Z"⟩
abbrev cL_fills : ByteArray := method_6_code
def yL_fills : MethodName := ⟨RL, "fills", "(LDelayLineStore;LDelayLineStoreLaw$Machine;LDelayLineStoreLaw$Draws;)V"⟩
abbrev cL_law : ByteArray := code
def yL_law : MethodName := ⟨RL, "law", "([I)Z"⟩
abbrev vwCl : List vw_C := [(RJ4, TJ4, 4), (RJ6, TJ6, 1), (RJx4a65c, TJx4a65c, 3), (RX0, TX0, 13), (RX1, TX1, 5), (RX2, TX2, 12), (RX4, TX4, 3), (RX5, TX5, 4), (RX6, TX6, 8), (RX7, TX7, 1), (RX8, TX8, 19)]
