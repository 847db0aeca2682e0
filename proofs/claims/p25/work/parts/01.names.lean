-- ===== PART A: goes FIRST, ahead of the names: the tables' words, and 'selects' of the private methods out of them =====
/-- a private method of a class that the tables say can be made, by its rows of tables_1 -/
def lw_okq (q : MethodName × Nat) : Prop := (q.1.cls ≠ "java/lang/invoke/MethodHandle" ∧ q.1.cls ≠ "java/lang/invoke/VarHandle") ∧ Cond.instantiable q.1.cls q.2 ∈ tables_1 ∧ Cond.privateMethod q.1 ∈ tables_1 ∧ Cond.instanceMethod q.1 ∈ tables_1
theorem lw_p0 : lw_okq (⟨"SleepSteps$Pad", "signAt", "(I)I"⟩, 2) := ⟨⟨by decide +kernel, by decide +kernel⟩, List.mem_of_getElem? (i := 21) (by decide +kernel), List.mem_of_getElem? (i := 220) (by decide +kernel), List.mem_of_getElem? (i := 221) (by decide +kernel)⟩
theorem lw_p1 : lw_okq (⟨"SleepSteps$Pad", "isDigitAt", "(I)Z"⟩, 2) := ⟨⟨by decide +kernel, by decide +kernel⟩, List.mem_of_getElem? (i := 21) (by decide +kernel), List.mem_of_getElem? (i := 224) (by decide +kernel), List.mem_of_getElem? (i := 225) (by decide +kernel)⟩
theorem lw_p2 : lw_okq (⟨"SleepSteps$Programs", "append", "(II)V"⟩, 2) := ⟨⟨by decide +kernel, by decide +kernel⟩, List.mem_of_getElem? (i := 41) (by decide +kernel), List.mem_of_getElem? (i := 262) (by decide +kernel), List.mem_of_getElem? (i := 263) (by decide +kernel)⟩
theorem lw_p3 : lw_okq (⟨"SleepSteps", "changeProgramsToDraft", "()V"⟩, 11) := ⟨⟨by decide +kernel, by decide +kernel⟩, List.mem_of_getElem? (i := 13) (by decide +kernel), List.mem_of_getElem? (i := 290) (by decide +kernel), List.mem_of_getElem? (i := 291) (by decide +kernel)⟩
theorem lw_p4 : lw_okq (⟨"SleepSteps$StandSpace", "noteHeldLocks", "()V"⟩, 12) := ⟨⟨by decide +kernel, by decide +kernel⟩, List.mem_of_getElem? (i := 97) (by decide +kernel), List.mem_of_getElem? (i := 364) (by decide +kernel), List.mem_of_getElem? (i := 365) (by decide +kernel)⟩
theorem lw_p5 : lw_okq (⟨"SleepSteps$StandSpace", "isReachable", "(I)Z"⟩, 12) := ⟨⟨by decide +kernel, by decide +kernel⟩, List.mem_of_getElem? (i := 97) (by decide +kernel), List.mem_of_getElem? (i := 375) (by decide +kernel), List.mem_of_getElem? (i := 376) (by decide +kernel)⟩
theorem lw_p6 : lw_okq (⟨"SleepSteps$StandSpace", "goFrom", "(I)V"⟩, 12) := ⟨⟨by decide +kernel, by decide +kernel⟩, List.mem_of_getElem? (i := 97) (by decide +kernel), List.mem_of_getElem? (i := 379) (by decide +kernel), List.mem_of_getElem? (i := 380) (by decide +kernel)⟩
theorem lw_p7 : lw_okq (⟨"SleepSteps$StandSpace", "threadsThatCanGo", "(I)I"⟩, 12) := ⟨⟨by decide +kernel, by decide +kernel⟩, List.mem_of_getElem? (i := 97) (by decide +kernel), List.mem_of_getElem? (i := 383) (by decide +kernel), List.mem_of_getElem? (i := 384) (by decide +kernel)⟩
theorem lw_p8 : lw_okq (⟨"SleepSteps$StandSpace", "nextStep", "(II)I"⟩, 12) := ⟨⟨by decide +kernel, by decide +kernel⟩, List.mem_of_getElem? (i := 97) (by decide +kernel), List.mem_of_getElem? (i := 394) (by decide +kernel), List.mem_of_getElem? (i := 395) (by decide +kernel)⟩
theorem lw_p9 : lw_okq (⟨"SleepSteps$StandSpace", "isEnd", "(I)Z"⟩, 12) := ⟨⟨by decide +kernel, by decide +kernel⟩, List.mem_of_getElem? (i := 97) (by decide +kernel), List.mem_of_getElem? (i := 414) (by decide +kernel), List.mem_of_getElem? (i := 415) (by decide +kernel)⟩
theorem lw_p10 : lw_okq (⟨"SleepSteps$StandSpace", "isDeadlock", "(I)Z"⟩, 12) := ⟨⟨by decide +kernel, by decide +kernel⟩, List.mem_of_getElem? (i := 97) (by decide +kernel), List.mem_of_getElem? (i := 422) (by decide +kernel), List.mem_of_getElem? (i := 423) (by decide +kernel)⟩
theorem lw_p11 : lw_okq (⟨"SleepSteps$StandSpace", "exploreFrom", "(I)V"⟩, 12) := ⟨⟨by decide +kernel, by decide +kernel⟩, List.mem_of_getElem? (i := 97) (by decide +kernel), List.mem_of_getElem? (i := 451) (by decide +kernel), List.mem_of_getElem? (i := 452) (by decide +kernel)⟩
theorem lw_p12 : lw_okq (⟨"SleepSteps$StandSpace", "exploreWith", "(IIJ)V"⟩, 12) := ⟨⟨by decide +kernel, by decide +kernel⟩, List.mem_of_getElem? (i := 97) (by decide +kernel), List.mem_of_getElem? (i := 455) (by decide +kernel), List.mem_of_getElem? (i := 456) (by decide +kernel)⟩
theorem lw_p13 : lw_okq (⟨"SleepSteps$StandSpace", "stillAsleep", "(III)I"⟩, 12) := ⟨⟨by decide +kernel, by decide +kernel⟩, List.mem_of_getElem? (i := 97) (by decide +kernel), List.mem_of_getElem? (i := 459) (by decide +kernel), List.mem_of_getElem? (i := 460) (by decide +kernel)⟩
theorem lw_p14 : lw_okq (⟨"SleepSteps$RunOrder", "addStep", "(LSleepSteps$Programs;I)V"⟩, 6) := ⟨⟨by decide +kernel, by decide +kernel⟩, List.mem_of_getElem? (i := 147) (by decide +kernel), List.mem_of_getElem? (i := 507) (by decide +kernel), List.mem_of_getElem? (i := 508) (by decide +kernel)⟩
theorem lw_p15 : lw_okq (⟨"SleepSteps$RunOrder", "neededSteps", "(LSleepSteps$Programs;II)I"⟩, 6) := ⟨⟨by decide +kernel, by decide +kernel⟩, List.mem_of_getElem? (i := 147) (by decide +kernel), List.mem_of_getElem? (i := 513) (by decide +kernel), List.mem_of_getElem? (i := 514) (by decide +kernel)⟩
def lw_privs_1 : List (MethodName × Nat) := [(⟨"SleepSteps$Pad", "signAt", "(I)I"⟩, 2), (⟨"SleepSteps$Pad", "isDigitAt", "(I)Z"⟩, 2), (⟨"SleepSteps$Programs", "append", "(II)V"⟩, 2), (⟨"SleepSteps", "changeProgramsToDraft", "()V"⟩, 11), (⟨"SleepSteps$StandSpace", "noteHeldLocks", "()V"⟩, 12), (⟨"SleepSteps$StandSpace", "isReachable", "(I)Z"⟩, 12), (⟨"SleepSteps$StandSpace", "goFrom", "(I)V"⟩, 12), (⟨"SleepSteps$StandSpace", "threadsThatCanGo", "(I)I"⟩, 12), (⟨"SleepSteps$StandSpace", "nextStep", "(II)I"⟩, 12), (⟨"SleepSteps$StandSpace", "isEnd", "(I)Z"⟩, 12), (⟨"SleepSteps$StandSpace", "isDeadlock", "(I)Z"⟩, 12), (⟨"SleepSteps$StandSpace", "exploreFrom", "(I)V"⟩, 12), (⟨"SleepSteps$StandSpace", "exploreWith", "(IIJ)V"⟩, 12), (⟨"SleepSteps$StandSpace", "stillAsleep", "(III)I"⟩, 12), (⟨"SleepSteps$RunOrder", "addStep", "(LSleepSteps$Programs;I)V"⟩, 6), (⟨"SleepSteps$RunOrder", "neededSteps", "(LSleepSteps$Programs;II)I"⟩, 6)]
theorem lw_r1 : ∀ q ∈ lw_privs_1, lw_okq q := List.forall_mem_cons.mpr ⟨lw_p0, List.forall_mem_cons.mpr ⟨lw_p1, List.forall_mem_cons.mpr ⟨lw_p2, List.forall_mem_cons.mpr ⟨lw_p3, List.forall_mem_cons.mpr ⟨lw_p4, List.forall_mem_cons.mpr ⟨lw_p5, List.forall_mem_cons.mpr ⟨lw_p6, List.forall_mem_cons.mpr ⟨lw_p7, List.forall_mem_cons.mpr ⟨lw_p8, List.forall_mem_cons.mpr ⟨lw_p9, List.forall_mem_cons.mpr ⟨lw_p10, List.forall_mem_cons.mpr ⟨lw_p11, List.forall_mem_cons.mpr ⟨lw_p12, List.forall_mem_cons.mpr ⟨lw_p13, List.forall_mem_cons.mpr ⟨lw_p14, List.forall_mem_cons.mpr ⟨lw_p15, fun _ h => absurd h List.not_mem_nil⟩⟩⟩⟩⟩⟩⟩⟩⟩⟩⟩⟩⟩⟩⟩⟩
theorem lw_p16 : lw_okq (⟨"SleepSteps$RunOrder", "leastThatMayGo", "(I)I"⟩, 6) := ⟨⟨by decide +kernel, by decide +kernel⟩, List.mem_of_getElem? (i := 147) (by decide +kernel), List.mem_of_getElem? (i := 527) (by decide +kernel), List.mem_of_getElem? (i := 528) (by decide +kernel)⟩
theorem lw_p17 : lw_okq (⟨"SleepSteps$RunOrder", "mayGo", "(II)Z"⟩, 6) := ⟨⟨by decide +kernel, by decide +kernel⟩, List.mem_of_getElem? (i := 147) (by decide +kernel), List.mem_of_getElem? (i := 531) (by decide +kernel), List.mem_of_getElem? (i := 532) (by decide +kernel)⟩
theorem lw_p18 : lw_okq (⟨"SleepSteps$StandSpace", "shortestWay", "()I"⟩, 12) := ⟨⟨by decide +kernel, by decide +kernel⟩, List.mem_of_getElem? (i := 97) (by decide +kernel), List.mem_of_getElem? (i := 648) (by decide +kernel), List.mem_of_getElem? (i := 649) (by decide +kernel)⟩
theorem lw_p19 : lw_okq (⟨"SleepSteps$StandSpace", "markWaysOf", "(I)V"⟩, 12) := ⟨⟨by decide +kernel, by decide +kernel⟩, List.mem_of_getElem? (i := 97) (by decide +kernel), List.mem_of_getElem? (i := 653) (by decide +kernel), List.mem_of_getElem? (i := 654) (by decide +kernel)⟩
theorem lw_p20 : lw_okq (⟨"SleepSteps$StandSpace", "leastLeading", "(I)I"⟩, 12) := ⟨⟨by decide +kernel, by decide +kernel⟩, List.mem_of_getElem? (i := 97) (by decide +kernel), List.mem_of_getElem? (i := 657) (by decide +kernel), List.mem_of_getElem? (i := 658) (by decide +kernel)⟩
def lw_privs_2 : List (MethodName × Nat) := [(⟨"SleepSteps$RunOrder", "leastThatMayGo", "(I)I"⟩, 6), (⟨"SleepSteps$RunOrder", "mayGo", "(II)Z"⟩, 6), (⟨"SleepSteps$StandSpace", "shortestWay", "()I"⟩, 12), (⟨"SleepSteps$StandSpace", "markWaysOf", "(I)V"⟩, 12), (⟨"SleepSteps$StandSpace", "leastLeading", "(I)I"⟩, 12)]
theorem lw_r2 : ∀ q ∈ lw_privs_2, lw_okq q := List.forall_mem_cons.mpr ⟨lw_p16, List.forall_mem_cons.mpr ⟨lw_p17, List.forall_mem_cons.mpr ⟨lw_p18, List.forall_mem_cons.mpr ⟨lw_p19, List.forall_mem_cons.mpr ⟨lw_p20, fun _ h => absurd h List.not_mem_nil⟩⟩⟩⟩⟩
def lw_privs : List (MethodName × Nat) := lw_privs_1 ++ (lw_privs_2)
def lw_tbl : List Cond := k2_sels lw_privs ++ tables_1
theorem lw_privs_ok : ∀ q ∈ lw_privs, lw_okq q := by
  show ∀ q ∈ lw_privs_1 ++ (lw_privs_2), lw_okq q
  exact List.forall_mem_append.mpr ⟨lw_r1, lw_r2⟩
-- ===== end of PART A; then your names; then what follows =====
def RX0 : String := "SleepSteps$History"
def TX0 : u_T := fun k => match k with
  | 0 => ("SleepSteps$History", "states", "[LSleepSteps$State;", true)
  | 1 => ("SleepSteps$History", "oldest", "I", false)
  | _ => ("SleepSteps$History", "size", "I", false)
def tyX0 : Nat → FieldType := fun k => match k with
  | 0 => .array (.object "SleepSteps$State")
  | 1 => .int
  | _ => .int
abbrev wsX00 : List Cond := u_ws RX0 TX0 3
theorem nmX0 : ∀ a, a < 3 → ∀ b, b < 3 → a ≠ b → (TX0 a).2.1 ≠ (TX0 b).2.1 := by decide +kernel
theorem tyX0_ok : ∀ k, k < 3 → parseFieldDescriptor (TX0 k).2.2.1 = some (tyX0 k) := by decide +kernel
abbrev cX0_init : ByteArray := prog_2_method_1_code
def yX0_init : MethodName := ⟨RX0, "<init>", "()V"⟩
abbrev cX0_size : ByteArray := prog_2_method_2_code
def yX0_size : MethodName := ⟨RX0, "size", "()I"⟩
abbrev cX0_record : ByteArray := prog_2_method_3_code
def yX0_record : MethodName := ⟨RX0, "record", "(LSleepSteps$State;)V"⟩
abbrev cX0_takeBackInto : ByteArray := prog_2_method_4_code
def yX0_takeBackInto : MethodName := ⟨RX0, "takeBackInto", "(LSleepSteps$State;)V"⟩
def RX1 : String := "SleepSteps$Pad"
def TX1 : u_T := fun k => match k with
  | 0 => ("SleepSteps$Pad", "signs", "[I", true)
  | _ => ("SleepSteps$Pad", "length", "I", false)
def tyX1 : Nat → FieldType := fun k => match k with
  | 0 => .array .int
  | _ => .int
abbrev wsX10 : List Cond := u_ws RX1 TX1 2
theorem nmX1 : ∀ a, a < 2 → ∀ b, b < 2 → a ≠ b → (TX1 a).2.1 ≠ (TX1 b).2.1 := by decide +kernel
theorem tyX1_ok : ∀ k, k < 2 → parseFieldDescriptor (TX1 k).2.2.1 = some (tyX1 k) := by decide +kernel
abbrev cX1_init : ByteArray := prog_3_method_1_code
def yX1_init : MethodName := ⟨RX1, "<init>", "()V"⟩
abbrev cX1_charactersIn : ByteArray := prog_3_method_2_code
def yX1_charactersIn : MethodName := ⟨RX1, "charactersIn", "(J)I"⟩
abbrev cX1_signIn : ByteArray := prog_3_method_3_code
def yX1_signIn : MethodName := ⟨RX1, "signIn", "(JI)I"⟩
abbrev cX1_length : ByteArray := prog_3_method_4_code
def yX1_length : MethodName := ⟨RX1, "length", "()I"⟩
abbrev cX1_clear : ByteArray := prog_3_method_5_code
def yX1_clear : MethodName := ⟨RX1, "clear", "()V"⟩
abbrev cX1_append : ByteArray := prog_3_method_6_code
def yX1_append : MethodName := ⟨RX1, "append", "(JI)V"⟩
abbrev cX1_faultAsProgram : ByteArray := prog_3_method_7_code
def yX1_faultAsProgram : MethodName := ⟨RX1, "faultAsProgram", "()I"⟩
abbrev cX1_faultAsRun : ByteArray := prog_3_method_8_code
def yX1_faultAsRun : MethodName := ⟨RX1, "faultAsRun", "()I"⟩
abbrev cX1_kindAt : ByteArray := prog_3_method_9_code
def yX1_kindAt : MethodName := ⟨RX1, "kindAt", "(I)I"⟩
abbrev cX1_digitAt : ByteArray := prog_3_method_10_code
def yX1_digitAt : MethodName := ⟨RX1, "digitAt", "(I)I"⟩
abbrev cX1_isDigitAt : ByteArray := prog_3_method_11_code
def yX1_isDigitAt : MethodName := ⟨RX1, "isDigitAt", "(I)Z"⟩
abbrev cX1_signAt : ByteArray := prog_3_method_12_code
def yX1_signAt : MethodName := ⟨RX1, "signAt", "(I)I"⟩
def RX2 : String := "SleepSteps$Programs"
def TX2 : u_T := fun k => match k with
  | 0 => ("SleepSteps$Programs", "steps", "[I", true)
  | _ => ("SleepSteps$Programs", "lengths", "[I", true)
def tyX2 : Nat → FieldType := fun k => match k with
  | 0 => .array .int
  | _ => .array .int
abbrev wsX20 : List Cond := u_ws RX2 TX2 2
theorem nmX2 : ∀ a, a < 2 → ∀ b, b < 2 → a ≠ b → (TX2 a).2.1 ≠ (TX2 b).2.1 := by decide +kernel
theorem tyX2_ok : ∀ k, k < 2 → parseFieldDescriptor (TX2 k).2.2.1 = some (tyX2 k) := by decide +kernel
abbrev cX2_init : ByteArray := prog_4_method_1_code
def yX2_init : MethodName := ⟨RX2, "<init>", "()V"⟩
abbrev cX2_lengthOf : ByteArray := prog_4_method_2_code
def yX2_lengthOf : MethodName := ⟨RX2, "lengthOf", "(I)I"⟩
abbrev cX2_stepOf : ByteArray := prog_4_method_3_code
def yX2_stepOf : MethodName := ⟨RX2, "stepOf", "(II)I"⟩
abbrev cX2_allSteps : ByteArray := prog_4_method_4_code
def yX2_allSteps : MethodName := ⟨RX2, "allSteps", "()I"⟩
abbrev cX2_copyFrom : ByteArray := prog_4_method_5_code
def yX2_copyFrom : MethodName := ⟨RX2, "copyFrom", "(LSleepSteps$Programs;)V"⟩
abbrev cX2_copyWithoutLock : ByteArray := prog_4_method_6_code
def yX2_copyWithoutLock : MethodName := ⟨RX2, "copyWithoutLock", "(LSleepSteps$Programs;I)V"⟩
abbrev cX2_readProgram : ByteArray := prog_4_method_7_code
def yX2_readProgram : MethodName := ⟨RX2, "readProgram", "(ILSleepSteps$Pad;)V"⟩
abbrev cX2_append : ByteArray := prog_4_method_8_code
def yX2_append : MethodName := ⟨RX2, "append", "(II)V"⟩
abbrev cX2_swapWithNext : ByteArray := prog_4_method_9_code
def yX2_swapWithNext : MethodName := ⟨RX2, "swapWithNext", "(II)V"⟩
abbrev cX2_sameAs : ByteArray := prog_4_method_10_code
def yX2_sameAs : MethodName := ⟨RX2, "sameAs", "(LSleepSteps$Programs;)Z"⟩
abbrev cX2_isWell : ByteArray := prog_4_method_11_code
def yX2_isWell : MethodName := ⟨RX2, "isWell", "(I)Z"⟩
abbrev cX2_heldAfter : ByteArray := prog_4_method_12_code
def yX2_heldAfter : MethodName := ⟨RX2, "heldAfter", "(II)I"⟩
abbrev cX2_conflictsOf : ByteArray := prog_4_method_13_code
def yX2_conflictsOf : MethodName := ⟨RX2, "conflictsOf", "(II)I"⟩
abbrev cX2_conflictingPairs : ByteArray := prog_4_method_14_code
def yX2_conflictingPairs : MethodName := ⟨RX2, "conflictingPairs", "()I"⟩
def RX3 : String := "SleepSteps$Run"
def TX3 : u_T := fun k => match k with
  | 0 => ("SleepSteps$Run", "threads", "[I", true)
  | _ => ("SleepSteps$Run", "length", "I", false)
def tyX3 : Nat → FieldType := fun k => match k with
  | 0 => .array .int
  | _ => .int
abbrev wsX30 : List Cond := u_ws RX3 TX3 2
theorem nmX3 : ∀ a, a < 2 → ∀ b, b < 2 → a ≠ b → (TX3 a).2.1 ≠ (TX3 b).2.1 := by decide +kernel
theorem tyX3_ok : ∀ k, k < 2 → parseFieldDescriptor (TX3 k).2.2.1 = some (tyX3 k) := by decide +kernel
abbrev cX3_init : ByteArray := prog_5_method_1_code
def yX3_init : MethodName := ⟨RX3, "<init>", "()V"⟩
abbrev cX3_length : ByteArray := prog_5_method_2_code
def yX3_length : MethodName := ⟨RX3, "length", "()I"⟩
abbrev cX3_threadAt : ByteArray := prog_5_method_3_code
def yX3_threadAt : MethodName := ⟨RX3, "threadAt", "(I)I"⟩
abbrev cX3_clear : ByteArray := prog_5_method_4_code
def yX3_clear : MethodName := ⟨RX3, "clear", "()V"⟩
abbrev cX3_append : ByteArray := prog_5_method_5_code
def yX3_append : MethodName := ⟨RX3, "append", "(I)V"⟩
abbrev cX3_copyFrom : ByteArray := prog_5_method_6_code
def yX3_copyFrom : MethodName := ⟨RX3, "copyFrom", "(LSleepSteps$Run;)V"⟩
abbrev cX3_readRun : ByteArray := prog_5_method_7_code
def yX3_readRun : MethodName := ⟨RX3, "readRun", "(LSleepSteps$Pad;)V"⟩
abbrev cX3_sameAs : ByteArray := prog_5_method_8_code
def yX3_sameAs : MethodName := ⟨RX3, "sameAs", "(LSleepSteps$Run;)Z"⟩
def RX4 : String := "SleepSteps$RunOrder"
def TX4 : u_T := fun k => match k with
  | 0 => ("SleepSteps$RunOrder", "counts", "[I", true)
  | 1 => ("SleepSteps$RunOrder", "needs", "[I", true)
  | 2 => ("SleepSteps$RunOrder", "chains", "[I", true)
  | 3 => ("SleepSteps$RunOrder", "longestChain", "I", false)
  | 4 => ("SleepSteps$RunOrder", "lastStand", "I", false)
  | _ => ("SleepSteps$RunOrder", "ways", "[J", true)
def tyX4 : Nat → FieldType := fun k => match k with
  | 0 => .array .int
  | 1 => .array .int
  | 2 => .array .int
  | 3 => .int
  | 4 => .int
  | _ => .array .long
abbrev wsX40 : List Cond := u_ws RX4 TX4 6
theorem nmX4 : ∀ a, a < 6 → ∀ b, b < 6 → a ≠ b → (TX4 a).2.1 ≠ (TX4 b).2.1 := by decide +kernel
theorem tyX4_ok : ∀ k, k < 6 → parseFieldDescriptor (TX4 k).2.2.1 = some (tyX4 k) := by decide +kernel
abbrev cX4_init : ByteArray := prog_6_method_1_code
def yX4_init : MethodName := ⟨RX4, "<init>", "()V"⟩
abbrev cX4_lookAt : ByteArray := prog_6_method_2_code
def yX4_lookAt : MethodName := ⟨RX4, "lookAt", "(LSleepSteps$Programs;LSleepSteps$Run;)V"⟩
abbrev cX4_addStep : ByteArray := prog_6_method_3_code
def yX4_addStep : MethodName := ⟨RX4, "addStep", "(LSleepSteps$Programs;I)V"⟩
abbrev cX4_neededSteps : ByteArray := prog_6_method_4_code
def yX4_neededSteps : MethodName := ⟨RX4, "neededSteps", "(LSleepSteps$Programs;II)I"⟩
abbrev cX4_mayGo : ByteArray := prog_6_method_5_code
def yX4_mayGo : MethodName := ⟨RX4, "mayGo", "(II)Z"⟩
abbrev cX4_longestChain : ByteArray := prog_6_method_6_code
def yX4_longestChain : MethodName := ⟨RX4, "longestChain", "()I"⟩
abbrev cX4_writeLeast : ByteArray := prog_6_method_7_code
def yX4_writeLeast : MethodName := ⟨RX4, "writeLeast", "(LSleepSteps$Run;)V"⟩
abbrev cX4_leastThatMayGo : ByteArray := prog_6_method_8_code
def yX4_leastThatMayGo : MethodName := ⟨RX4, "leastThatMayGo", "(I)I"⟩
abbrev cX4_linearOrders : ByteArray := prog_6_method_9_code
def yX4_linearOrders : MethodName := ⟨RX4, "linearOrders", "()J"⟩
def RX5 : String := "SleepSteps$StandSpace"
def TX5 : u_T := fun k => match k with
  | 0 => ("SleepSteps$StandSpace", "programs", "LSleepSteps$Programs;", true)
  | 1 => ("SleepSteps$StandSpace", "isExplored", "Z", false)
  | 2 => ("SleepSteps$StandSpace", "heldByThread", "[I", true)
  | 3 => ("SleepSteps$StandSpace", "goers", "[I", true)
  | 4 => ("SleepSteps$StandSpace", "runsTo", "[J", true)
  | 5 => ("SleepSteps$StandSpace", "isSleepExplored", "Z", false)
  | 6 => ("SleepSteps$StandSpace", "timesAsleep", "[J", true)
  | 7 => ("SleepSteps$StandSpace", "sleepEnds", "J", false)
  | 8 => ("SleepSteps$StandSpace", "sleepCuts", "J", false)
  | 9 => ("SleepSteps$StandSpace", "sleepDeadlocks", "I", false)
  | 10 => ("SleepSteps$StandSpace", "leadsToShortest", "[Z", true)
  | _ => ("SleepSteps$StandSpace", "way", "LSleepSteps$Run;", true)
def tyX5 : Nat → FieldType := fun k => match k with
  | 0 => .object "SleepSteps$Programs"
  | 1 => .boolean
  | 2 => .array .int
  | 3 => .array .int
  | 4 => .array .long
  | 5 => .boolean
  | 6 => .array .long
  | 7 => .long
  | 8 => .long
  | 9 => .int
  | 10 => .array .boolean
  | _ => .object "SleepSteps$Run"
abbrev wsX50 : List Cond := u_ws RX5 TX5 12
theorem nmX5 : ∀ a, a < 12 → ∀ b, b < 12 → a ≠ b → (TX5 a).2.1 ≠ (TX5 b).2.1 := by decide +kernel
theorem tyX5_ok : ∀ k, k < 12 → parseFieldDescriptor (TX5 k).2.2.1 = some (tyX5 k) := by decide +kernel
abbrev cX5_init : ByteArray := prog_7_method_1_code
def yX5_init : MethodName := ⟨RX5, "<init>", "()V"⟩
abbrev cX5_lookAt : ByteArray := prog_7_method_2_code
def yX5_lookAt : MethodName := ⟨RX5, "lookAt", "(LSleepSteps$Programs;)V"⟩
abbrev cX5_noteHeldLocks : ByteArray := prog_7_method_3_code
def yX5_noteHeldLocks : MethodName := ⟨RX5, "noteHeldLocks", "()V"⟩
abbrev cX5_goFrom : ByteArray := prog_7_method_4_code
def yX5_goFrom : MethodName := ⟨RX5, "goFrom", "(I)V"⟩
abbrev cX5_threadsThatCanGo : ByteArray := prog_7_method_5_code
def yX5_threadsThatCanGo : MethodName := ⟨RX5, "threadsThatCanGo", "(I)I"⟩
abbrev cX5_nextStep : ByteArray := prog_7_method_6_code
def yX5_nextStep : MethodName := ⟨RX5, "nextStep", "(II)I"⟩
abbrev cX5_heldLocks : ByteArray := prog_7_method_7_code
def yX5_heldLocks : MethodName := ⟨RX5, "heldLocks", "(I)I"⟩
abbrev cX5_unfinishedThreads : ByteArray := prog_7_method_8_code
def yX5_unfinishedThreads : MethodName := ⟨RX5, "unfinishedThreads", "(I)I"⟩
abbrev cX5_isReachable : ByteArray := prog_7_method_9_code
def yX5_isReachable : MethodName := ⟨RX5, "isReachable", "(I)Z"⟩
abbrev cX5_isEnd : ByteArray := prog_7_method_10_code
def yX5_isEnd : MethodName := ⟨RX5, "isEnd", "(I)Z"⟩
abbrev cX5_isDeadlock : ByteArray := prog_7_method_11_code
def yX5_isDeadlock : MethodName := ⟨RX5, "isDeadlock", "(I)Z"⟩
abbrev cX5_canRun : ByteArray := prog_7_method_12_code
def yX5_canRun : MethodName := ⟨RX5, "canRun", "(LSleepSteps$Run;)Z"⟩
abbrev cX5_reachableStands : ByteArray := prog_7_method_13_code
def yX5_reachableStands : MethodName := ⟨RX5, "reachableStands", "()I"⟩
abbrev cX5_ends : ByteArray := prog_7_method_14_code
def yX5_ends : MethodName := ⟨RX5, "ends", "()I"⟩
abbrev cX5_deadlocks : ByteArray := prog_7_method_15_code
def yX5_deadlocks : MethodName := ⟨RX5, "deadlocks", "()I"⟩
abbrev cX5_deadlockAt : ByteArray := prog_7_method_16_code
def yX5_deadlockAt : MethodName := ⟨RX5, "deadlockAt", "(I)I"⟩
abbrev cX5_wholeRuns : ByteArray := prog_7_method_17_code
def yX5_wholeRuns : MethodName := ⟨RX5, "wholeRuns", "()J"⟩
abbrev cX5_wholeRunsToDeadlocks : ByteArray := prog_7_method_18_code
def yX5_wholeRunsToDeadlocks : MethodName := ⟨RX5, "wholeRunsToDeadlocks", "()J"⟩
abbrev cX5_exploreWithSleepSets : ByteArray := prog_7_method_19_code
def yX5_exploreWithSleepSets : MethodName := ⟨RX5, "exploreWithSleepSets", "()V"⟩
abbrev cX5_exploreFrom : ByteArray := prog_7_method_20_code
def yX5_exploreFrom : MethodName := ⟨RX5, "exploreFrom", "(I)V"⟩
abbrev cX5_exploreWith : ByteArray := prog_7_method_21_code
def yX5_exploreWith : MethodName := ⟨RX5, "exploreWith", "(IIJ)V"⟩
abbrev cX5_stillAsleep : ByteArray := prog_7_method_22_code
def yX5_stillAsleep : MethodName := ⟨RX5, "stillAsleep", "(III)I"⟩
abbrev cX5_sleepEnds : ByteArray := prog_7_method_23_code
def yX5_sleepEnds : MethodName := ⟨RX5, "sleepEnds", "()J"⟩
abbrev cX5_sleepCuts : ByteArray := prog_7_method_24_code
def yX5_sleepCuts : MethodName := ⟨RX5, "sleepCuts", "()J"⟩
abbrev cX5_sleepDeadlocks : ByteArray := prog_7_method_25_code
def yX5_sleepDeadlocks : MethodName := ⟨RX5, "sleepDeadlocks", "()I"⟩
abbrev cX5_leastShortestWay : ByteArray := prog_7_method_26_code
def yX5_leastShortestWay : MethodName := ⟨RX5, "leastShortestWay", "()LSleepSteps$Run;"⟩
abbrev cX5_shortestWay : ByteArray := prog_7_method_27_code
def yX5_shortestWay : MethodName := ⟨RX5, "shortestWay", "()I"⟩
abbrev cX5_markWaysOf : ByteArray := prog_7_method_28_code
def yX5_markWaysOf : MethodName := ⟨RX5, "markWaysOf", "(I)V"⟩
abbrev cX5_leastLeading : ByteArray := prog_7_method_29_code
def yX5_leastLeading : MethodName := ⟨RX5, "leastLeading", "(I)I"⟩
def RX6 : String := "SleepSteps$State"
def TX6 : u_T := fun k => match k with
  | 0 => ("SleepSteps$State", "programs", "LSleepSteps$Programs;", true)
  | _ => ("SleepSteps$State", "run", "LSleepSteps$Run;", true)
def tyX6 : Nat → FieldType := fun k => match k with
  | 0 => .object "SleepSteps$Programs"
  | _ => .object "SleepSteps$Run"
abbrev wsX60 : List Cond := u_ws RX6 TX6 2
theorem nmX6 : ∀ a, a < 2 → ∀ b, b < 2 → a ≠ b → (TX6 a).2.1 ≠ (TX6 b).2.1 := by decide +kernel
theorem tyX6_ok : ∀ k, k < 2 → parseFieldDescriptor (TX6 k).2.2.1 = some (tyX6 k) := by decide +kernel
abbrev cX6_init : ByteArray := prog_8_method_1_code
def yX6_init : MethodName := ⟨RX6, "<init>", "()V"⟩
abbrev cX6_copyFrom : ByteArray := prog_8_method_2_code
def yX6_copyFrom : MethodName := ⟨RX6, "copyFrom", "(LSleepSteps$State;)V"⟩
def RX7 : String := "SleepSteps"
def TX7 : u_T := fun k => match k with
  | 0 => ("SleepSteps", "pad", "LSleepSteps$Pad;", true)
  | 1 => ("SleepSteps", "now", "LSleepSteps$State;", true)
  | 2 => ("SleepSteps", "history", "LSleepSteps$History;", true)
  | 3 => ("SleepSteps", "saved", "[LSleepSteps$State;", true)
  | 4 => ("SleepSteps", "isSaved", "[Z", true)
  | 5 => ("SleepSteps", "draft", "LSleepSteps$Programs;", true)
  | 6 => ("SleepSteps", "space", "LSleepSteps$StandSpace;", true)
  | 7 => ("SleepSteps", "order", "LSleepSteps$RunOrder;", true)
  | 8 => ("SleepSteps", "padRun", "LSleepSteps$Run;", true)
  | 9 => ("SleepSteps", "leastRun", "LSleepSteps$Run;", true)
  | _ => ("SleepSteps", "otherLeastRun", "LSleepSteps$Run;", true)
def tyX7 : Nat → FieldType := fun k => match k with
  | 0 => .object "SleepSteps$Pad"
  | 1 => .object "SleepSteps$State"
  | 2 => .object "SleepSteps$History"
  | 3 => .array (.object "SleepSteps$State")
  | 4 => .array .boolean
  | 5 => .object "SleepSteps$Programs"
  | 6 => .object "SleepSteps$StandSpace"
  | 7 => .object "SleepSteps$RunOrder"
  | 8 => .object "SleepSteps$Run"
  | 9 => .object "SleepSteps$Run"
  | _ => .object "SleepSteps$Run"
abbrev wsX70 : List Cond := u_ws RX7 TX7 11
theorem nmX7 : ∀ a, a < 11 → ∀ b, b < 11 → a ≠ b → (TX7 a).2.1 ≠ (TX7 b).2.1 := by decide +kernel
theorem tyX7_ok : ∀ k, k < 11 → parseFieldDescriptor (TX7 k).2.2.1 = some (tyX7 k) := by decide +kernel
abbrev cX7_init : ByteArray := prog_1_method_1_code
def yX7_init : MethodName := ⟨RX7, "<init>", "()V"⟩
abbrev cX7_put : ByteArray := prog_1_method_2_code
def yX7_put : MethodName := ⟨RX7, "put", "(J)I"⟩
abbrev cX7_wipe : ByteArray := prog_1_method_3_code
def yX7_wipe : MethodName := ⟨RX7, "wipe", "()I"⟩
abbrev cX7_fault : ByteArray := prog_1_method_4_code
def yX7_fault : MethodName := ⟨RX7, "fault", "(I)I"⟩
abbrev cX7_program : ByteArray := prog_1_method_5_code
def yX7_program : MethodName := ⟨RX7, "program", "(I)I"⟩
abbrev cX7_exchange : ByteArray := prog_1_method_6_code
def yX7_exchange : MethodName := ⟨RX7, "exchange", "(II)I"⟩
abbrev cX7_keep : ByteArray := prog_1_method_7_code
def yX7_keep : MethodName := ⟨RX7, "keep", "()I"⟩
abbrev cX7_changeProgramsToDraft : ByteArray := prog_1_method_8_code
def yX7_changeProgramsToDraft : MethodName := ⟨RX7, "changeProgramsToDraft", "()V"⟩
abbrev cX7_ofStep : ByteArray := prog_1_method_9_code
def yX7_ofStep : MethodName := ⟨RX7, "ofStep", "(III)I"⟩
abbrev cX7_count : ByteArray := prog_1_method_10_code
def yX7_count : MethodName := ⟨RX7, "count", "(I)I"⟩
abbrev cX7_stands : ByteArray := prog_1_method_11_code
def yX7_stands : MethodName := ⟨RX7, "stands", "(I)I"⟩
abbrev cX7_deadlock : ByteArray := prog_1_method_12_code
def yX7_deadlock : MethodName := ⟨RX7, "deadlock", "(II)I"⟩
abbrev cX7_runs : ByteArray := prog_1_method_13_code
def yX7_runs : MethodName := ⟨RX7, "runs", "(I)J"⟩
abbrev cX7_sleeping : ByteArray := prog_1_method_14_code
def yX7_sleeping : MethodName := ⟨RX7, "sleeping", "(I)J"⟩
abbrev cX7_wayToDeadlock : ByteArray := prog_1_method_15_code
def yX7_wayToDeadlock : MethodName := ⟨RX7, "wayToDeadlock", "(I)I"⟩
abbrev cX7_without : ByteArray := prog_1_method_16_code
def yX7_without : MethodName := ⟨RX7, "without", "(I)I"⟩
abbrev cX7_least : ByteArray := prog_1_method_17_code
def yX7_least : MethodName := ⟨RX7, "least", "(I)I"⟩
abbrev cX7_alike : ByteArray := prog_1_method_18_code
def yX7_alike : MethodName := ⟨RX7, "alike", "()I"⟩
abbrev cX7_chain : ByteArray := prog_1_method_19_code
def yX7_chain : MethodName := ⟨RX7, "chain", "()I"⟩
abbrev cX7_lastWrite : ByteArray := prog_1_method_20_code
def yX7_lastWrite : MethodName := ⟨RX7, "lastWrite", "(II)I"⟩
abbrev cX7_alikeRuns : ByteArray := prog_1_method_21_code
def yX7_alikeRuns : MethodName := ⟨RX7, "alikeRuns", "()J"⟩
abbrev cX7_undo : ByteArray := prog_1_method_22_code
def yX7_undo : MethodName := ⟨RX7, "undo", "()I"⟩
abbrev cX7_save : ByteArray := prog_1_method_23_code
def yX7_save : MethodName := ⟨RX7, "save", "(I)I"⟩
abbrev cX7_restore : ByteArray := prog_1_method_24_code
def yX7_restore : MethodName := ⟨RX7, "restore", "(I)I"⟩
abbrev cX7_isThread : ByteArray := prog_1_method_25_code
def yX7_isThread : MethodName := ⟨RX7, "isThread", "(I)Z"⟩
abbrev cX7_isName : ByteArray := prog_1_method_26_code
def yX7_isName : MethodName := ⟨RX7, "isName", "(I)Z"⟩
abbrev cX7_isSlot : ByteArray := prog_1_method_27_code
def yX7_isSlot : MethodName := ⟨RX7, "isSlot", "(I)Z"⟩
abbrev cX7_setOf : ByteArray := prog_1_method_28_code
def yX7_setOf : MethodName := ⟨RX7, "setOf", "(I)I"⟩
abbrev cX7_isIn : ByteArray := prog_1_method_29_code
def yX7_isIn : MethodName := ⟨RX7, "isIn", "(II)Z"⟩
abbrev cX7_codeOf : ByteArray := prog_1_method_30_code
def yX7_codeOf : MethodName := ⟨RX7, "codeOf", "(II)I"⟩
abbrev cX7_kindOf : ByteArray := prog_1_method_31_code
def yX7_kindOf : MethodName := ⟨RX7, "kindOf", "(I)I"⟩
abbrev cX7_nameOf : ByteArray := prog_1_method_32_code
def yX7_nameOf : MethodName := ⟨RX7, "nameOf", "(I)I"⟩
abbrev cX7_commute : ByteArray := prog_1_method_33_code
def yX7_commute : MethodName := ⟨RX7, "commute", "(II)Z"⟩
abbrev cX7_doneBy : ByteArray := prog_1_method_34_code
def yX7_doneBy : MethodName := ⟨RX7, "doneBy", "(II)I"⟩
abbrev cX7_standAfter : ByteArray := prog_1_method_35_code
def yX7_standAfter : MethodName := ⟨RX7, "standAfter", "(II)I"⟩
abbrev cX7_stepsDone : ByteArray := prog_1_method_36_code
def yX7_stepsDone : MethodName := ⟨RX7, "stepsDone", "(I)I"⟩
def RJ9 : String := "java/lang/Math"
def TJ9 : u_T := fun k => match k with
  | _ => ("", "", "", false)
def tyJ9 : Nat → FieldType := fun k => match k with
  | _ => .int
abbrev wsJ90 : List Cond := u_ws RJ9 TJ9 0
theorem nmJ9 : ∀ a, a < 0 → ∀ b, b < 0 → a ≠ b → (TJ9 a).2.1 ≠ (TJ9 b).2.1 := by decide +kernel
theorem tyJ9_ok : ∀ k, k < 0 → parseFieldDescriptor (TJ9 k).2.2.1 = some (tyJ9 k) := by decide +kernel
abbrev cJ9_max_7cf53 : ByteArray := prog_11_method_65_code
def yJ9_max_7cf53 : MethodName := ⟨RJ9, "max", "(II)I"⟩
def RJ10 : String := "java/lang/System"
def TJ10 : u_T := fun k => match k with
  | _ => ("", "", "", false)
def tyJ10 : Nat → FieldType := fun k => match k with
  | _ => .int
abbrev wsJ100 : List Cond := u_ws RJ10 TJ10 0
theorem nmJ10 : ∀ a, a < 0 → ∀ b, b < 0 → a ≠ b → (TJ10 a).2.1 ≠ (TJ10 b).2.1 := by decide +kernel
theorem tyJ10_ok : ∀ k, k < 0 → parseFieldDescriptor (TJ10 k).2.2.1 = some (tyJ10 k) := by decide +kernel
def RJ7 : String := "java/util/Arrays"
def TJ7 : u_T := fun k => match k with
  | _ => ("", "", "", false)
def tyJ7 : Nat → FieldType := fun k => match k with
  | _ => .int
abbrev wsJ70 : List Cond := u_ws RJ7 TJ7 0
theorem nmJ7 : ∀ a, a < 0 → ∀ b, b < 0 → a ≠ b → (TJ7 a).2.1 ≠ (TJ7 b).2.1 := by decide +kernel
theorem tyJ7_ok : ∀ k, k < 0 → parseFieldDescriptor (TJ7 k).2.2.1 = some (tyJ7 k) := by decide +kernel
abbrev cJ7_fill_d0a16 : ByteArray := prog_13_method_101_code
def yJ7_fill_d0a16 : MethodName := ⟨RJ7, "fill", "([JJ)V"⟩
abbrev cJ7_fill_53178 : ByteArray := prog_13_method_103_code
def yJ7_fill_53178 : MethodName := ⟨RJ7, "fill", "([II)V"⟩
def RL : String := "SleepStepsLaw"
abbrev cL_cell : ByteArray := method_2_code
def yL_cell : MethodName := ⟨RL, "cell", "([II)I"⟩
abbrev cL_up : ByteArray := method_3_code
def yL_up : MethodName := ⟨RL, "up", "(II)I"⟩
abbrev cL_held : ByteArray := method_4_code
def yL_held : MethodName := ⟨RL, "held", "([III)I"⟩
abbrev cL_reads : ByteArray := method_5_code
def yL_reads : MethodName := ⟨RL, "reads", "(LSleepSteps;[III)Z"⟩
abbrev cL_commute : ByteArray := method_6_code
def yL_commute : MethodName := ⟨RL, "commute", "(II)Z"⟩
abbrev cL_steps : ByteArray := method_7_code
def yL_steps : MethodName := ⟨RL, "steps", "(LSleepSteps;[I)Z"⟩
abbrev cL_stands : ByteArray := method_8_code
def yL_stands : MethodName := ⟨RL, "stands", "(LSleepSteps;[I)Z"⟩
abbrev cL_way : ByteArray := method_9_code
def yL_way : MethodName := ⟨RL, "way", "(LSleepSteps;[I)Z"⟩
abbrev cL_keeps : ByteArray := method_10_code
def yL_keeps : MethodName := ⟨RL, "keeps", "(LSleepSteps;[II)Z"⟩
abbrev cL_run : ByteArray := method_11_code
def yL_run : MethodName := ⟨RL, "run", "(LSleepSteps;[I)Z"⟩
abbrev cL_fails : ByteArray := method_12_code
def yL_fails : MethodName := ⟨RL, "fails", "(LSleepSteps;)Z"⟩
abbrev cL_law : ByteArray := code
def yL_law : MethodName := ⟨RL, "law", "([I)Z"⟩
abbrev vwCl : List vw_C := [(RX0, TX0, 3), (RX1, TX1, 2), (RX2, TX2, 2), (RX3, TX3, 2), (RX4, TX4, 6), (RX5, TX5, 12), (RX6, TX6, 2), (RX7, TX7, 11)]
