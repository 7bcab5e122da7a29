-- ===== PART A: goes FIRST, ahead of the names: the tables' words, and 'selects' of the private methods out of them =====
/-- a private method of a class that the tables say can be made, by its rows of tables_1 -/
def lw_okq (q : MethodName × Nat) : Prop := (q.1.cls ≠ "java/lang/invoke/MethodHandle" ∧ q.1.cls ≠ "java/lang/invoke/VarHandle") ∧ Cond.instantiable q.1.cls q.2 ∈ tables_1 ∧ Cond.privateMethod q.1 ∈ tables_1 ∧ Cond.instanceMethod q.1 ∈ tables_1
theorem lw_p0 : lw_okq (⟨"AlibiWindow", "checkWhat", "(II)V"⟩, 6) := ⟨⟨by decide +kernel, by decide +kernel⟩, List.mem_of_getElem? (i := 15) (by decide +kernel), List.mem_of_getElem? (i := 188) (by decide +kernel), List.mem_of_getElem? (i := 189) (by decide +kernel)⟩
theorem lw_p1 : lw_okq (⟨"java/lang/Throwable", "fillInStackTrace", "(I)Ljava/lang/Throwable;"⟩, 6) := ⟨⟨by decide +kernel, by decide +kernel⟩, List.mem_of_getElem? (i := 230) (by decide +kernel), List.mem_of_getElem? (i := 228) (by decide +kernel), List.mem_of_getElem? (i := 229) (by decide +kernel)⟩
theorem lw_p2 : lw_okq (⟨"AlibiWindow", "checkPlace", "(II)V"⟩, 6) := ⟨⟨by decide +kernel, by decide +kernel⟩, List.mem_of_getElem? (i := 15) (by decide +kernel), List.mem_of_getElem? (i := 312) (by decide +kernel), List.mem_of_getElem? (i := 313) (by decide +kernel)⟩
theorem lw_p3 : lw_okq (⟨"AlibiWindow", "rehearsePlainOrder", "()V"⟩, 6) := ⟨⟨by decide +kernel, by decide +kernel⟩, List.mem_of_getElem? (i := 15) (by decide +kernel), List.mem_of_getElem? (i := 389) (by decide +kernel), List.mem_of_getElem? (i := 390) (by decide +kernel)⟩
theorem lw_p4 : lw_okq (⟨"AlibiWindow", "registerFact", "(II)I"⟩, 6) := ⟨⟨by decide +kernel, by decide +kernel⟩, List.mem_of_getElem? (i := 15) (by decide +kernel), List.mem_of_getElem? (i := 454) (by decide +kernel), List.mem_of_getElem? (i := 455) (by decide +kernel)⟩
theorem lw_p5 : lw_okq (⟨"AlibiWindow", "cellFact", "(II)I"⟩, 6) := ⟨⟨by decide +kernel, by decide +kernel⟩, List.mem_of_getElem? (i := 15) (by decide +kernel), List.mem_of_getElem? (i := 467) (by decide +kernel), List.mem_of_getElem? (i := 468) (by decide +kernel)⟩
theorem lw_p6 : lw_okq (⟨"AlibiWindow", "checkCycles", "(I)V"⟩, 6) := ⟨⟨by decide +kernel, by decide +kernel⟩, List.mem_of_getElem? (i := 15) (by decide +kernel), List.mem_of_getElem? (i := 503) (by decide +kernel), List.mem_of_getElem? (i := 504) (by decide +kernel)⟩
theorem lw_p7 : lw_okq (⟨"AlibiWindow", "rehearseCycles", "(I)V"⟩, 6) := ⟨⟨by decide +kernel, by decide +kernel⟩, List.mem_of_getElem? (i := 15) (by decide +kernel), List.mem_of_getElem? (i := 508) (by decide +kernel), List.mem_of_getElem? (i := 509) (by decide +kernel)⟩
theorem lw_p8 : lw_okq (⟨"AlibiWindow", "rehearsed", "(I)I"⟩, 6) := ⟨⟨by decide +kernel, by decide +kernel⟩, List.mem_of_getElem? (i := 15) (by decide +kernel), List.mem_of_getElem? (i := 565) (by decide +kernel), List.mem_of_getElem? (i := 566) (by decide +kernel)⟩
theorem lw_p9 : lw_okq (⟨"AlibiWindow", "rehearseWindows", "()V"⟩, 6) := ⟨⟨by decide +kernel, by decide +kernel⟩, List.mem_of_getElem? (i := 15) (by decide +kernel), List.mem_of_getElem? (i := 583) (by decide +kernel), List.mem_of_getElem? (i := 584) (by decide +kernel)⟩
theorem lw_p10 : lw_okq (⟨"AlibiWindow", "saveState", "()V"⟩, 6) := ⟨⟨by decide +kernel, by decide +kernel⟩, List.mem_of_getElem? (i := 15) (by decide +kernel), List.mem_of_getElem? (i := 668) (by decide +kernel), List.mem_of_getElem? (i := 669) (by decide +kernel)⟩
theorem lw_p11 : lw_okq (⟨"AlibiWindow", "putValue", "([III)I"⟩, 6) := ⟨⟨by decide +kernel, by decide +kernel⟩, List.mem_of_getElem? (i := 15) (by decide +kernel), List.mem_of_getElem? (i := 718) (by decide +kernel), List.mem_of_getElem? (i := 719) (by decide +kernel)⟩
def lw_privs_1 : List (MethodName × Nat) := [(⟨"AlibiWindow", "checkWhat", "(II)V"⟩, 6), (⟨"java/lang/Throwable", "fillInStackTrace", "(I)Ljava/lang/Throwable;"⟩, 6), (⟨"AlibiWindow", "checkPlace", "(II)V"⟩, 6), (⟨"AlibiWindow", "rehearsePlainOrder", "()V"⟩, 6), (⟨"AlibiWindow", "registerFact", "(II)I"⟩, 6), (⟨"AlibiWindow", "cellFact", "(II)I"⟩, 6), (⟨"AlibiWindow", "checkCycles", "(I)V"⟩, 6), (⟨"AlibiWindow", "rehearseCycles", "(I)V"⟩, 6), (⟨"AlibiWindow", "rehearsed", "(I)I"⟩, 6), (⟨"AlibiWindow", "rehearseWindows", "()V"⟩, 6), (⟨"AlibiWindow", "saveState", "()V"⟩, 6), (⟨"AlibiWindow", "putValue", "([III)I"⟩, 6)]
theorem lw_r1 : ∀ q ∈ lw_privs_1, lw_okq q := List.forall_mem_cons.mpr ⟨lw_p0, List.forall_mem_cons.mpr ⟨lw_p1, List.forall_mem_cons.mpr ⟨lw_p2, List.forall_mem_cons.mpr ⟨lw_p3, List.forall_mem_cons.mpr ⟨lw_p4, List.forall_mem_cons.mpr ⟨lw_p5, List.forall_mem_cons.mpr ⟨lw_p6, List.forall_mem_cons.mpr ⟨lw_p7, List.forall_mem_cons.mpr ⟨lw_p8, List.forall_mem_cons.mpr ⟨lw_p9, List.forall_mem_cons.mpr ⟨lw_p10, List.forall_mem_cons.mpr ⟨lw_p11, fun _ h => absurd h List.not_mem_nil⟩⟩⟩⟩⟩⟩⟩⟩⟩⟩⟩⟩
def lw_privs : List (MethodName × Nat) := lw_privs_1
def lw_tbl : List Cond := k2_sels lw_privs ++ tables_1
theorem lw_privs_ok : ∀ q ∈ lw_privs, lw_okq q := lw_r1
/-- the streams that the claim lets the run draw from -/
abbrev lw_cs : List Choice := [Jvm.Choice.named "NaN.bits"]
theorem lw_bits : nanBits ∈ lw_cs := by first | decide | exact List.mem_cons_self | simp [lw_cs, nanBits]
def RX0 : String := "AlibiWindow$Floats"
def TX0 : u_T := fun k => match k with
  | _ => ("", "", "", false)
def tyX0 : Nat → FieldType := fun k => match k with
  | _ => .int
abbrev wsX00 : List Cond := u_ws RX0 TX0 0
theorem nmX0 : ∀ a, a < 0 → ∀ b, b < 0 → a ≠ b → (TX0 a).2.1 ≠ (TX0 b).2.1 := by decide +kernel
theorem tyX0_ok : ∀ k, k < 0 → parseFieldDescriptor (TX0 k).2.2.1 = some (tyX0 k) := by decide +kernel
abbrev cX0_isInRange : ByteArray := prog_2_method_2_code
def yX0_isInRange : MethodName := ⟨RX0, "isInRange", "(I)Z"⟩
abbrev cX0_valueOf : ByteArray := prog_2_method_3_code
def yX0_valueOf : MethodName := ⟨RX0, "valueOf", "(I)F"⟩
abbrev cX0_bitsOf : ByteArray := prog_2_method_4_code
def yX0_bitsOf : MethodName := ⟨RX0, "bitsOf", "(FI)I"⟩
abbrev cX0_result : ByteArray := prog_2_method_5_code
def yX0_result : MethodName := ⟨RX0, "result", "(IIII)I"⟩
abbrev cX0_limited : ByteArray := prog_2_method_6_code
def yX0_limited : MethodName := ⟨RX0, "limited", "(F)F"⟩
def RX1 : String := "AlibiWindow$Instruction"
def TX1 : u_T := fun k => match k with
  | 0 => ("AlibiWindow$Instruction", "kind", "I", false)
  | 1 => ("AlibiWindow$Instruction", "r", "I", false)
  | 2 => ("AlibiWindow$Instruction", "p", "I", false)
  | 3 => ("AlibiWindow$Instruction", "q", "I", false)
  | 4 => ("AlibiWindow$Instruction", "number", "I", false)
  | 5 => ("AlibiWindow$Instruction", "distrust", "I", false)
  | 6 => ("AlibiWindow$Instruction", "replays", "I", false)
  | 7 => ("AlibiWindow$Instruction", "stage", "I", false)
  | 8 => ("AlibiWindow$Instruction", "workLeft", "I", false)
  | 9 => ("AlibiWindow$Instruction", "nameOfP", "I", false)
  | 10 => ("AlibiWindow$Instruction", "nameOfQ", "I", false)
  | 11 => ("AlibiWindow$Instruction", "place", "I", false)
  | 12 => ("AlibiWindow$Instruction", "alibi", "I", false)
  | _ => ("AlibiWindow$Instruction", "made", "I", false)
def tyX1 : Nat → FieldType := fun k => match k with
  | 0 => .int
  | 1 => .int
  | 2 => .int
  | 3 => .int
  | 4 => .int
  | 5 => .int
  | 6 => .int
  | 7 => .int
  | 8 => .int
  | 9 => .int
  | 10 => .int
  | 11 => .int
  | 12 => .int
  | _ => .int
abbrev wsX10 : List Cond := u_ws RX1 TX1 14
theorem nmX1 : ∀ a, a < 14 → ∀ b, b < 14 → a ≠ b → (TX1 a).2.1 ≠ (TX1 b).2.1 := by decide +kernel
theorem tyX1_ok : ∀ k, k < 14 → parseFieldDescriptor (TX1 k).2.2.1 = some (tyX1 k) := by decide +kernel
abbrev cX1_init : ByteArray := prog_3_method_1_code
def yX1_init : MethodName := ⟨RX1, "<init>", "()V"⟩
abbrev cX1_become : ByteArray := prog_3_method_2_code
def yX1_become : MethodName := ⟨RX1, "become", "(IIIII)V"⟩
abbrev cX1_becomeLike : ByteArray := prog_3_method_3_code
def yX1_becomeLike : MethodName := ⟨RX1, "becomeLike", "(LAlibiWindow$Instruction;)V"⟩
abbrev cX1_isDone : ByteArray := prog_3_method_4_code
def yX1_isDone : MethodName := ⟨RX1, "isDone", "(I)Z"⟩
abbrev cX1_endsItsWork : ByteArray := prog_3_method_5_code
def yX1_endsItsWork : MethodName := ⟨RX1, "endsItsWork", "()Z"⟩
abbrev cX1_cyclesNeeded : ByteArray := prog_3_method_6_code
def yX1_cyclesNeeded : MethodName := ⟨RX1, "cyclesNeeded", "()I"⟩
abbrev cX1_part : ByteArray := prog_3_method_7_code
def yX1_part : MethodName := ⟨RX1, "part", "(I)I"⟩
def RX2 : String := "AlibiWindow$Machine"
def TX2 : u_T := fun k => match k with
  | 0 => ("AlibiWindow$Machine", "rows", "[LAlibiWindow$Instruction;", true)
  | 1 => ("AlibiWindow$Machine", "nothing", "LAlibiWindow$Instruction;", true)
  | 2 => ("AlibiWindow$Machine", "registers", "[I", true)
  | 3 => ("AlibiWindow$Machine", "memory", "[I", true)
  | 4 => ("AlibiWindow$Machine", "settings", "[I", true)
  | 5 => ("AlibiWindow$Machine", "cycle", "I", false)
  | 6 => ("AlibiWindow$Machine", "length", "I", false)
  | 7 => ("AlibiWindow$Machine", "issued", "I", false)
  | 8 => ("AlibiWindow$Machine", "retired", "I", false)
  | 9 => ("AlibiWindow$Machine", "replays", "I", false)
  | 10 => ("AlibiWindow$Machine", "madeWaiting", "I", false)
  | 11 => ("AlibiWindow$Machine", "retiredEver", "I", false)
  | 12 => ("AlibiWindow$Machine", "loadsMade", "I", false)
  | _ => ("AlibiWindow$Machine", "earlyLoads", "I", false)
def tyX2 : Nat → FieldType := fun k => match k with
  | 0 => .array (.object "AlibiWindow$Instruction")
  | 1 => .object "AlibiWindow$Instruction"
  | 2 => .array .int
  | 3 => .array .int
  | 4 => .array .int
  | 5 => .int
  | 6 => .int
  | 7 => .int
  | 8 => .int
  | 9 => .int
  | 10 => .int
  | 11 => .int
  | 12 => .int
  | _ => .int
abbrev wsX20 : List Cond := u_ws RX2 TX2 14
theorem nmX2 : ∀ a, a < 14 → ∀ b, b < 14 → a ≠ b → (TX2 a).2.1 ≠ (TX2 b).2.1 := by decide +kernel
theorem tyX2_ok : ∀ k, k < 14 → parseFieldDescriptor (TX2 k).2.2.1 = some (tyX2 k) := by decide +kernel
abbrev cX2_init : ByteArray := prog_4_method_1_code
def yX2_init : MethodName := ⟨RX2, "<init>", "()V"⟩
abbrev cX2_greatest : ByteArray := prog_4_method_2_code
def yX2_greatest : MethodName := ⟨RX2, "greatest", "(I)I"⟩
abbrev cX2_becomeLike : ByteArray := prog_4_method_3_code
def yX2_becomeLike : MethodName := ⟨RX2, "becomeLike", "(LAlibiWindow$Machine;)V"⟩
abbrev cX2_beginAnew : ByteArray := prog_4_method_4_code
def yX2_beginAnew : MethodName := ⟨RX2, "beginAnew", "()V"⟩
abbrev cX2_at : ByteArray := prog_4_method_5_code
def yX2_at : MethodName := ⟨RX2, "at", "(I)LAlibiWindow$Instruction;"⟩
abbrev cX2_registerBits : ByteArray := prog_4_method_6_code
def yX2_registerBits : MethodName := ⟨RX2, "registerBits", "(I)I"⟩
abbrev cX2_cellBits : ByteArray := prog_4_method_7_code
def yX2_cellBits : MethodName := ⟨RX2, "cellBits", "(I)I"⟩
abbrev cX2_put : ByteArray := prog_4_method_8_code
def yX2_put : MethodName := ⟨RX2, "put", "(LAlibiWindow$Instruction;)V"⟩
abbrev cX2_entries : ByteArray := prog_4_method_9_code
def yX2_entries : MethodName := ⟨RX2, "entries", "()I"⟩
abbrev cX2_isFinished : ByteArray := prog_4_method_10_code
def yX2_isFinished : MethodName := ⟨RX2, "isFinished", "()Z"⟩
abbrev cX2_number : ByteArray := prog_4_method_11_code
def yX2_number : MethodName := ⟨RX2, "number", "(I)I"⟩
abbrev cX2_property : ByteArray := prog_4_method_12_code
def yX2_property : MethodName := ⟨RX2, "property", "(II)I"⟩
abbrev cX2_hindrance : ByteArray := prog_4_method_13_code
def yX2_hindrance : MethodName := ⟨RX2, "hindrance", "(I)I"⟩
abbrev cX2_isReady : ByteArray := prog_4_method_14_code
def yX2_isReady : MethodName := ⟨RX2, "isReady", "(I)Z"⟩
abbrev cX2_hasOpenStoreAhead : ByteArray := prog_4_method_15_code
def yX2_hasOpenStoreAhead : MethodName := ⟨RX2, "hasOpenStoreAhead", "(I)Z"⟩
abbrev cX2_latestMaker : ByteArray := prog_4_method_16_code
def yX2_latestMaker : MethodName := ⟨RX2, "latestMaker", "(II)I"⟩
abbrev cX2_latestStore : ByteArray := prog_4_method_17_code
def yX2_latestStore : MethodName := ⟨RX2, "latestStore", "(II)I"⟩
abbrev cX2_passCycles : ByteArray := prog_4_method_18_code
def yX2_passCycles : MethodName := ⟨RX2, "passCycles", "(I)V"⟩
abbrev cX2_cyclesToEnd : ByteArray := prog_4_method_19_code
def yX2_cyclesToEnd : MethodName := ⟨RX2, "cyclesToEnd", "(I)I"⟩
abbrev cX2_passCycle : ByteArray := prog_4_method_20_code
def yX2_passCycle : MethodName := ⟨RX2, "passCycle", "()V"⟩
abbrev cX2_retireEntries : ByteArray := prog_4_method_21_code
def yX2_retireEntries : MethodName := ⟨RX2, "retireEntries", "()V"⟩
abbrev cX2_finish : ByteArray := prog_4_method_22_code
def yX2_finish : MethodName := ⟨RX2, "finish", "(ILAlibiWindow$Instruction;)V"⟩
abbrev cX2_operand : ByteArray := prog_4_method_23_code
def yX2_operand : MethodName := ⟨RX2, "operand", "(II)I"⟩
abbrev cX2_finishLoad : ByteArray := prog_4_method_24_code
def yX2_finishLoad : MethodName := ⟨RX2, "finishLoad", "(ILAlibiWindow$Instruction;I)V"⟩
abbrev cX2_breakAlibis : ByteArray := prog_4_method_25_code
def yX2_breakAlibis : MethodName := ⟨RX2, "breakAlibis", "(II)V"⟩
abbrev cX2_replay : ByteArray := prog_4_method_26_code
def yX2_replay : MethodName := ⟨RX2, "replay", "(ILAlibiWindow$Instruction;)V"⟩
abbrev cX2_startEntries : ByteArray := prog_4_method_27_code
def yX2_startEntries : MethodName := ⟨RX2, "startEntries", "()V"⟩
abbrev cX2_issueInstructions : ByteArray := prog_4_method_28_code
def yX2_issueInstructions : MethodName := ⟨RX2, "issueInstructions", "()V"⟩
abbrev cX2_carryOutPlainly : ByteArray := prog_4_method_29_code
def yX2_carryOutPlainly : MethodName := ⟨RX2, "carryOutPlainly", "()V"⟩
abbrev cX2_placeOf : ByteArray := prog_4_method_30_code
def yX2_placeOf : MethodName := ⟨RX2, "placeOf", "(II)I"⟩
def RX3 : String := "AlibiWindow$Text"
def TX3 : u_T := fun k => match k with
  | 0 => ("AlibiWindow$Text", "signs", "[C", true)
  | _ => ("AlibiWindow$Text", "length", "I", false)
def tyX3 : Nat → FieldType := fun k => match k with
  | 0 => .array .char
  | _ => .int
abbrev wsX30 : List Cond := u_ws RX3 TX3 2
theorem nmX3 : ∀ a, a < 2 → ∀ b, b < 2 → a ≠ b → (TX3 a).2.1 ≠ (TX3 b).2.1 := by decide +kernel
theorem tyX3_ok : ∀ k, k < 2 → parseFieldDescriptor (TX3 k).2.2.1 = some (tyX3 k) := by decide +kernel
abbrev cX3_init : ByteArray := prog_5_method_1_code
def yX3_init : MethodName := ⟨RX3, "<init>", "()V"⟩
abbrev cX3_add : ByteArray := prog_5_method_2_code
def yX3_add : MethodName := ⟨RX3, "add", "(C)V"⟩
abbrev cX3_signAt : ByteArray := prog_5_method_3_code
def yX3_signAt : MethodName := ⟨RX3, "signAt", "(I)C"⟩
abbrev cX3_isComplete : ByteArray := prog_5_method_5_code
def yX3_isComplete : MethodName := ⟨RX3, "isComplete", "()Z"⟩
abbrev cX3_instructions : ByteArray := prog_5_method_6_code
def yX3_instructions : MethodName := ⟨RX3, "instructions", "()I"⟩
abbrev cX3_nextInstruction : ByteArray := prog_5_method_7_code
def yX3_nextInstruction : MethodName := ⟨RX3, "nextInstruction", "(I)I"⟩
abbrev cX3_readInstruction : ByteArray := prog_5_method_8_code
def yX3_readInstruction : MethodName := ⟨RX3, "readInstruction", "(ILAlibiWindow$Instruction;)V"⟩
abbrev cX3_registerAt : ByteArray := prog_5_method_9_code
def yX3_registerAt : MethodName := ⟨RX3, "registerAt", "(I)I"⟩
abbrev cX3_digitAt : ByteArray := prog_5_method_10_code
def yX3_digitAt : MethodName := ⟨RX3, "digitAt", "(I)I"⟩
abbrev cX3_numberAt : ByteArray := prog_5_method_11_code
def yX3_numberAt : MethodName := ⟨RX3, "numberAt", "(I)I"⟩
abbrev cX3_isRegister : ByteArray := prog_5_method_13_code
def yX3_isRegister : MethodName := ⟨RX3, "isRegister", "(C)Z"⟩
abbrev cX3_isDigit : ByteArray := prog_5_method_14_code
def yX3_isDigit : MethodName := ⟨RX3, "isDigit", "(C)Z"⟩
abbrev cX3_next : ByteArray := prog_5_method_15_code
def yX3_next : MethodName := ⟨RX3, "next", "(IC)I"⟩
abbrev cX3_ifRegister : ByteArray := prog_5_method_16_code
def yX3_ifRegister : MethodName := ⟨RX3, "ifRegister", "(CI)I"⟩
abbrev cX3_nextOfRightSide : ByteArray := prog_5_method_17_code
def yX3_nextOfRightSide : MethodName := ⟨RX3, "nextOfRightSide", "(C)I"⟩
abbrev cX3_nextOfNumber : ByteArray := prog_5_method_18_code
def yX3_nextOfNumber : MethodName := ⟨RX3, "nextOfNumber", "(C)I"⟩
abbrev cX3_nextOfEnd : ByteArray := prog_5_method_19_code
def yX3_nextOfEnd : MethodName := ⟨RX3, "nextOfEnd", "(C)I"⟩
def RX4 : String := "AlibiWindow"
def TX4 : u_T := fun k => match k with
  | 0 => ("AlibiWindow", "now", "LAlibiWindow$Machine;", true)
  | 1 => ("AlibiWindow", "rehearsal", "LAlibiWindow$Machine;", true)
  | 2 => ("AlibiWindow", "saved", "[LAlibiWindow$Machine;", true)
  | 3 => ("AlibiWindow", "buffer", "LAlibiWindow$Text;", true)
  | 4 => ("AlibiWindow", "best", "[I", true)
  | _ => ("AlibiWindow", "savedStates", "I", false)
def tyX4 : Nat → FieldType := fun k => match k with
  | 0 => .object "AlibiWindow$Machine"
  | 1 => .object "AlibiWindow$Machine"
  | 2 => .array (.object "AlibiWindow$Machine")
  | 3 => .object "AlibiWindow$Text"
  | 4 => .array .int
  | _ => .int
abbrev wsX40 : List Cond := u_ws RX4 TX4 6
theorem nmX4 : ∀ a, a < 6 → ∀ b, b < 6 → a ≠ b → (TX4 a).2.1 ≠ (TX4 b).2.1 := by decide +kernel
theorem tyX4_ok : ∀ k, k < 6 → parseFieldDescriptor (TX4 k).2.2.1 = some (tyX4 k) := by decide +kernel
abbrev cX4_init : ByteArray := prog_1_method_1_code
def yX4_init : MethodName := ⟨RX4, "<init>", "()V"⟩
abbrev cX4_set : ByteArray := prog_1_method_2_code
def yX4_set : MethodName := ⟨RX4, "set", "(II)I"⟩
abbrev cX4_putRegister : ByteArray := prog_1_method_3_code
def yX4_putRegister : MethodName := ⟨RX4, "putRegister", "(II)I"⟩
abbrev cX4_putCell : ByteArray := prog_1_method_4_code
def yX4_putCell : MethodName := ⟨RX4, "putCell", "(II)I"⟩
abbrev cX4_putValue : ByteArray := prog_1_method_5_code
def yX4_putValue : MethodName := ⟨RX4, "putValue", "([III)I"⟩
abbrev cX4_run : ByteArray := prog_1_method_6_code
def yX4_run : MethodName := ⟨RX4, "run", "(I)I"⟩
abbrev cX4_checkCycles : ByteArray := prog_1_method_7_code
def yX4_checkCycles : MethodName := ⟨RX4, "checkCycles", "(I)V"⟩
abbrev cX4_flush : ByteArray := prog_1_method_8_code
def yX4_flush : MethodName := ⟨RX4, "flush", "()I"⟩
abbrev cX4_again : ByteArray := prog_1_method_9_code
def yX4_again : MethodName := ⟨RX4, "again", "()I"⟩
abbrev cX4_append : ByteArray := prog_1_method_10_code
def yX4_append : MethodName := ⟨RX4, "append", "(I)I"⟩
abbrev cX4_clearBuffer : ByteArray := prog_1_method_11_code
def yX4_clearBuffer : MethodName := ⟨RX4, "clearBuffer", "()I"⟩
abbrev cX4_load : ByteArray := prog_1_method_13_code
def yX4_load : MethodName := ⟨RX4, "load", "()I"⟩
abbrev cX4_saveState : ByteArray := prog_1_method_15_code
def yX4_saveState : MethodName := ⟨RX4, "saveState", "()V"⟩
abbrev cX4_instruction : ByteArray := prog_1_method_16_code
def yX4_instruction : MethodName := ⟨RX4, "instruction", "(II)I"⟩
abbrev cX4_entry : ByteArray := prog_1_method_17_code
def yX4_entry : MethodName := ⟨RX4, "entry", "(II)I"⟩
abbrev cX4_whyNot : ByteArray := prog_1_method_18_code
def yX4_whyNot : MethodName := ⟨RX4, "whyNot", "(I)I"⟩
abbrev cX4_register : ByteArray := prog_1_method_19_code
def yX4_register : MethodName := ⟨RX4, "register", "(II)I"⟩
abbrev cX4_cell : ByteArray := prog_1_method_20_code
def yX4_cell : MethodName := ⟨RX4, "cell", "(II)I"⟩
abbrev cX4_count : ByteArray := prog_1_method_21_code
def yX4_count : MethodName := ⟨RX4, "count", "(I)I"⟩
abbrev cX4_setting : ByteArray := prog_1_method_22_code
def yX4_setting : MethodName := ⟨RX4, "setting", "(I)I"⟩
abbrev cX4_checkPlace : ByteArray := prog_1_method_23_code
def yX4_checkPlace : MethodName := ⟨RX4, "checkPlace", "(II)V"⟩
abbrev cX4_checkWhat : ByteArray := prog_1_method_24_code
def yX4_checkWhat : MethodName := ⟨RX4, "checkWhat", "(II)V"⟩
abbrev cX4_registerFact : ByteArray := prog_1_method_25_code
def yX4_registerFact : MethodName := ⟨RX4, "registerFact", "(II)I"⟩
abbrev cX4_cellFact : ByteArray := prog_1_method_26_code
def yX4_cellFact : MethodName := ⟨RX4, "cellFact", "(II)I"⟩
abbrev cX4_ifRun : ByteArray := prog_1_method_27_code
def yX4_ifRun : MethodName := ⟨RX4, "ifRun", "(II)I"⟩
abbrev cX4_cyclesLeft : ByteArray := prog_1_method_28_code
def yX4_cyclesLeft : MethodName := ⟨RX4, "cyclesLeft", "()I"⟩
abbrev cX4_bestWindow : ByteArray := prog_1_method_29_code
def yX4_bestWindow : MethodName := ⟨RX4, "bestWindow", "(I)I"⟩
abbrev cX4_worstLoad : ByteArray := prog_1_method_30_code
def yX4_worstLoad : MethodName := ⟨RX4, "worstLoad", "()I"⟩
abbrev cX4_earlyShare : ByteArray := prog_1_method_31_code
def yX4_earlyShare : MethodName := ⟨RX4, "earlyShare", "()D"⟩
abbrev cX4_rehearsePlainOrder : ByteArray := prog_1_method_36_code
def yX4_rehearsePlainOrder : MethodName := ⟨RX4, "rehearsePlainOrder", "()V"⟩
abbrev cX4_rehearseCycles : ByteArray := prog_1_method_37_code
def yX4_rehearseCycles : MethodName := ⟨RX4, "rehearseCycles", "(I)V"⟩
abbrev cX4_rehearsed : ByteArray := prog_1_method_38_code
def yX4_rehearsed : MethodName := ⟨RX4, "rehearsed", "(I)I"⟩
abbrev cX4_rehearseWindows : ByteArray := prog_1_method_39_code
def yX4_rehearseWindows : MethodName := ⟨RX4, "rehearseWindows", "()V"⟩
def RX5 : String := "AlibiWindowModel"
def TX5 : u_T := fun k => match k with
  | _ => ("", "", "", false)
def tyX5 : Nat → FieldType := fun k => match k with
  | _ => .int
abbrev wsX50 : List Cond := u_ws RX5 TX5 0
theorem nmX5 : ∀ a, a < 0 → ∀ b, b < 0 → a ≠ b → (TX5 a).2.1 ≠ (TX5 b).2.1 := by decide +kernel
theorem tyX5_ok : ∀ k, k < 0 → parseFieldDescriptor (TX5 k).2.2.1 = some (tyX5 k) := by decide +kernel
def RJ9 : String := "java/lang/Math"
def TJ9 : u_T := fun k => match k with
  | _ => ("", "", "", false)
def tyJ9 : Nat → FieldType := fun k => match k with
  | _ => .int
abbrev wsJ90 : List Cond := u_ws RJ9 TJ9 0
theorem nmJ9 : ∀ a, a < 0 → ∀ b, b < 0 → a ≠ b → (TJ9 a).2.1 ≠ (TJ9 b).2.1 := by decide +kernel
theorem tyJ9_ok : ∀ k, k < 0 → parseFieldDescriptor (TJ9 k).2.2.1 = some (tyJ9 k) := by decide +kernel
abbrev cJ9_floorMod_7cf53 : ByteArray := prog_12_method_50_code
def yJ9_floorMod_7cf53 : MethodName := ⟨RJ9, "floorMod", "(II)I"⟩
def RJ0 : String := "java/lang/String"
def TJ0 : u_T := fun k => match k with
  | _ => ("", "", "", false)
def tyJ0 : Nat → FieldType := fun k => match k with
  | _ => .int
abbrev wsJ00 : List Cond := u_ws RJ0 TJ0 0
theorem nmJ0 : ∀ a, a < 0 → ∀ b, b < 0 → a ≠ b → (TJ0 a).2.1 ≠ (TJ0 b).2.1 := by decide +kernel
theorem tyJ0_ok : ∀ k, k < 0 → parseFieldDescriptor (TJ0 k).2.2.1 = some (tyJ0 k) := by decide +kernel
def RJ10 : String := "java/lang/System"
def TJ10 : u_T := fun k => match k with
  | _ => ("", "", "", false)
def tyJ10 : Nat → FieldType := fun k => match k with
  | _ => .int
abbrev wsJ100 : List Cond := u_ws RJ10 TJ10 0
theorem nmJ10 : ∀ a, a < 0 → ∀ b, b < 0 → a ≠ b → (TJ10 a).2.1 ≠ (TJ10 b).2.1 := by decide +kernel
theorem tyJ10_ok : ∀ k, k < 0 → parseFieldDescriptor (TJ10 k).2.2.1 = some (tyJ10 k) := by decide +kernel
def RL : String := "AlibiWindowLaw"
abbrev cL_cell : ByteArray := method_2_code
def yL_cell : MethodName := ⟨RL, "cell", "([II)I"⟩
abbrev cL_at : ByteArray := method_3_code
def yL_at : MethodName := ⟨RL, "at", "(II)I"⟩
abbrev cL_bits : ByteArray := method_4_code
def yL_bits : MethodName := ⟨RL, "bits", "(I)I"⟩
abbrev cL_plain : ByteArray := method_5_code
def yL_plain : MethodName := ⟨RL, "plain", "(I)I"⟩
abbrev cL_held : ByteArray := method_6_code
def yL_held : MethodName := ⟨RL, "held", "(J)I"⟩
abbrev cL_add : ByteArray := method_7_code
def yL_add : MethodName := ⟨RL, "add", "(II)I"⟩
abbrev cL_mul : ByteArray := method_8_code
def yL_mul : MethodName := ⟨RL, "mul", "(II)I"⟩
abbrev cL_place : ByteArray := method_9_code
def yL_place : MethodName := ⟨RL, "place", "(II)I"⟩
abbrev cL_name : ByteArray := method_10_code
def yL_name : MethodName := ⟨RL, "name", "(II[I[I)I"⟩
abbrev cL_ready : ByteArray := method_11_code
def yL_ready : MethodName := ⟨RL, "ready", "(II[I[I[I)Z"⟩
abbrev cL_value : ByteArray := method_12_code
def yL_value : MethodName := ⟨RL, "value", "(II[I[I[I[I)I"⟩
abbrev cL_why : ByteArray := method_13_code
def yL_why : MethodName := ⟨RL, "why", "(I[I[I[I)I"⟩
abbrev cL_done : ByteArray := method_14_code
def yL_done : MethodName := ⟨RL, "done", "(I[I[I[I[I[I)V"⟩
abbrev cL_cycle : ByteArray := method_15_code
def yL_cycle : MethodName := ⟨RL, "cycle", "([I[I[I[I[I[I)I"⟩
abbrev cL_begin : ByteArray := method_16_code
def yL_begin : MethodName := ⟨RL, "begin", "([I[I)V"⟩
abbrev cL_same : ByteArray := method_17_code
def yL_same : MethodName := ⟨RL, "same", "([I[I)V"⟩
abbrev cL_order : ByteArray := method_18_code
def yL_order : MethodName := ⟨RL, "order", "([I[I[I[I)V"⟩
abbrev cL_told : ByteArray := method_19_code
def yL_told : MethodName := ⟨RL, "told", "(LAlibiWindow;[I[I[I[I[I[I)Z"⟩
abbrev cL_ahead : ByteArray := method_20_code
def yL_ahead : MethodName := ⟨RL, "ahead", "(LAlibiWindow;I[I[I[I[I[I[I)Z"⟩
abbrev cL_line : ByteArray := method_21_code
def yL_line : MethodName := ⟨RL, "line", "(LAlibiWindow;I[I)Z"⟩
abbrev cL_load : ByteArray := method_22_code
def yL_load : MethodName := ⟨RL, "load", "(LAlibiWindow;II[I[I)Z"⟩
abbrev cL_act : ByteArray := method_23_code
def yL_act : MethodName := ⟨RL, "act", "(LAlibiWindow;III[I[I[I[I[I[I)Z"⟩
abbrev cL_law : ByteArray := code
def yL_law : MethodName := ⟨RL, "law", "([I)Z"⟩
abbrev vwCl : List vw_C := [(RX1, TX1, 14), (RX2, TX2, 14), (RX3, TX3, 2), (RX4, TX4, 6)]
