section
-- ===== PART A: goes FIRST, ahead of the names: the tables' words, and 'selects' of the private methods out of them =====
/-- a private method of a class that the tables say can be made, by its rows of tables_1 -/
def lw_okq (q : MethodName × Nat) : Prop := (q.1.cls ≠ "java/lang/invoke/MethodHandle" ∧ q.1.cls ≠ "java/lang/invoke/VarHandle") ∧ Cond.instantiable q.1.cls q.2 ∈ tables_1 ∧ Cond.privateMethod q.1 ∈ tables_1 ∧ Cond.instanceMethod q.1 ∈ tables_1
theorem lw_p0 : lw_okq (⟨"SleepSteps$Pad", "signAt", "(I)I"⟩, 2) := ⟨⟨by decide +kernel, by decide +kernel⟩, List.mem_of_getElem? (i := 22) (by decide +kernel), List.mem_of_getElem? (i := 248) (by decide +kernel), List.mem_of_getElem? (i := 249) (by decide +kernel)⟩
theorem lw_p1 : lw_okq (⟨"SleepSteps$Pad", "isDigitAt", "(I)Z"⟩, 2) := ⟨⟨by decide +kernel, by decide +kernel⟩, List.mem_of_getElem? (i := 22) (by decide +kernel), List.mem_of_getElem? (i := 252) (by decide +kernel), List.mem_of_getElem? (i := 253) (by decide +kernel)⟩
theorem lw_p2 : lw_okq (⟨"SleepSteps$Programs", "append", "(II)V"⟩, 2) := ⟨⟨by decide +kernel, by decide +kernel⟩, List.mem_of_getElem? (i := 42) (by decide +kernel), List.mem_of_getElem? (i := 287) (by decide +kernel), List.mem_of_getElem? (i := 288) (by decide +kernel)⟩
theorem lw_p3 : lw_okq (⟨"SleepSteps", "changeProgramsToDraft", "()V"⟩, 11) := ⟨⟨by decide +kernel, by decide +kernel⟩, List.mem_of_getElem? (i := 14) (by decide +kernel), List.mem_of_getElem? (i := 315) (by decide +kernel), List.mem_of_getElem? (i := 316) (by decide +kernel)⟩
theorem lw_p4 : lw_okq (⟨"SleepSteps$StandSpace", "noteHeldLocks", "()V"⟩, 12) := ⟨⟨by decide +kernel, by decide +kernel⟩, List.mem_of_getElem? (i := 98) (by decide +kernel), List.mem_of_getElem? (i := 375) (by decide +kernel), List.mem_of_getElem? (i := 376) (by decide +kernel)⟩
theorem lw_p5 : lw_okq (⟨"SleepSteps$StandSpace", "isReachable", "(I)Z"⟩, 12) := ⟨⟨by decide +kernel, by decide +kernel⟩, List.mem_of_getElem? (i := 98) (by decide +kernel), List.mem_of_getElem? (i := 386) (by decide +kernel), List.mem_of_getElem? (i := 387) (by decide +kernel)⟩
theorem lw_p6 : lw_okq (⟨"SleepSteps$StandSpace", "goFrom", "(I)V"⟩, 12) := ⟨⟨by decide +kernel, by decide +kernel⟩, List.mem_of_getElem? (i := 98) (by decide +kernel), List.mem_of_getElem? (i := 390) (by decide +kernel), List.mem_of_getElem? (i := 391) (by decide +kernel)⟩
theorem lw_p7 : lw_okq (⟨"SleepSteps$StandSpace", "threadsThatCanGo", "(I)I"⟩, 12) := ⟨⟨by decide +kernel, by decide +kernel⟩, List.mem_of_getElem? (i := 98) (by decide +kernel), List.mem_of_getElem? (i := 394) (by decide +kernel), List.mem_of_getElem? (i := 395) (by decide +kernel)⟩
theorem lw_p8 : lw_okq (⟨"SleepSteps$StandSpace", "nextStep", "(II)I"⟩, 12) := ⟨⟨by decide +kernel, by decide +kernel⟩, List.mem_of_getElem? (i := 98) (by decide +kernel), List.mem_of_getElem? (i := 405) (by decide +kernel), List.mem_of_getElem? (i := 406) (by decide +kernel)⟩
theorem lw_p9 : lw_okq (⟨"SleepSteps$StandSpace", "isEnd", "(I)Z"⟩, 12) := ⟨⟨by decide +kernel, by decide +kernel⟩, List.mem_of_getElem? (i := 98) (by decide +kernel), List.mem_of_getElem? (i := 473) (by decide +kernel), List.mem_of_getElem? (i := 474) (by decide +kernel)⟩
theorem lw_p10 : lw_okq (⟨"SleepSteps$StandSpace", "isDeadlock", "(I)Z"⟩, 12) := ⟨⟨by decide +kernel, by decide +kernel⟩, List.mem_of_getElem? (i := 98) (by decide +kernel), List.mem_of_getElem? (i := 481) (by decide +kernel), List.mem_of_getElem? (i := 482) (by decide +kernel)⟩
theorem lw_p11 : lw_okq (⟨"SleepSteps$StandSpace", "exploreFrom", "(I)V"⟩, 12) := ⟨⟨by decide +kernel, by decide +kernel⟩, List.mem_of_getElem? (i := 98) (by decide +kernel), List.mem_of_getElem? (i := 524) (by decide +kernel), List.mem_of_getElem? (i := 525) (by decide +kernel)⟩
theorem lw_p12 : lw_okq (⟨"SleepSteps$StandSpace", "exploreWith", "(IIJ)V"⟩, 12) := ⟨⟨by decide +kernel, by decide +kernel⟩, List.mem_of_getElem? (i := 98) (by decide +kernel), List.mem_of_getElem? (i := 528) (by decide +kernel), List.mem_of_getElem? (i := 529) (by decide +kernel)⟩
theorem lw_p13 : lw_okq (⟨"SleepSteps$StandSpace", "stillAsleep", "(III)I"⟩, 12) := ⟨⟨by decide +kernel, by decide +kernel⟩, List.mem_of_getElem? (i := 98) (by decide +kernel), List.mem_of_getElem? (i := 532) (by decide +kernel), List.mem_of_getElem? (i := 533) (by decide +kernel)⟩
theorem lw_p14 : lw_okq (⟨"SleepSteps$StandSpace", "shortestWay", "()I"⟩, 12) := ⟨⟨by decide +kernel, by decide +kernel⟩, List.mem_of_getElem? (i := 98) (by decide +kernel), List.mem_of_getElem? (i := 558) (by decide +kernel), List.mem_of_getElem? (i := 559) (by decide +kernel)⟩
theorem lw_p15 : lw_okq (⟨"SleepSteps$StandSpace", "markWaysOf", "(I)V"⟩, 12) := ⟨⟨by decide +kernel, by decide +kernel⟩, List.mem_of_getElem? (i := 98) (by decide +kernel), List.mem_of_getElem? (i := 563) (by decide +kernel), List.mem_of_getElem? (i := 564) (by decide +kernel)⟩
def lw_privs_1 : List (MethodName × Nat) := [(⟨"SleepSteps$Pad", "signAt", "(I)I"⟩, 2), (⟨"SleepSteps$Pad", "isDigitAt", "(I)Z"⟩, 2), (⟨"SleepSteps$Programs", "append", "(II)V"⟩, 2), (⟨"SleepSteps", "changeProgramsToDraft", "()V"⟩, 11), (⟨"SleepSteps$StandSpace", "noteHeldLocks", "()V"⟩, 12), (⟨"SleepSteps$StandSpace", "isReachable", "(I)Z"⟩, 12), (⟨"SleepSteps$StandSpace", "goFrom", "(I)V"⟩, 12), (⟨"SleepSteps$StandSpace", "threadsThatCanGo", "(I)I"⟩, 12), (⟨"SleepSteps$StandSpace", "nextStep", "(II)I"⟩, 12), (⟨"SleepSteps$StandSpace", "isEnd", "(I)Z"⟩, 12), (⟨"SleepSteps$StandSpace", "isDeadlock", "(I)Z"⟩, 12), (⟨"SleepSteps$StandSpace", "exploreFrom", "(I)V"⟩, 12), (⟨"SleepSteps$StandSpace", "exploreWith", "(IIJ)V"⟩, 12), (⟨"SleepSteps$StandSpace", "stillAsleep", "(III)I"⟩, 12), (⟨"SleepSteps$StandSpace", "shortestWay", "()I"⟩, 12), (⟨"SleepSteps$StandSpace", "markWaysOf", "(I)V"⟩, 12)]
theorem lw_r1 : ∀ q ∈ lw_privs_1, lw_okq q := List.forall_mem_cons.mpr ⟨lw_p0, List.forall_mem_cons.mpr ⟨lw_p1, List.forall_mem_cons.mpr ⟨lw_p2, List.forall_mem_cons.mpr ⟨lw_p3, List.forall_mem_cons.mpr ⟨lw_p4, List.forall_mem_cons.mpr ⟨lw_p5, List.forall_mem_cons.mpr ⟨lw_p6, List.forall_mem_cons.mpr ⟨lw_p7, List.forall_mem_cons.mpr ⟨lw_p8, List.forall_mem_cons.mpr ⟨lw_p9, List.forall_mem_cons.mpr ⟨lw_p10, List.forall_mem_cons.mpr ⟨lw_p11, List.forall_mem_cons.mpr ⟨lw_p12, List.forall_mem_cons.mpr ⟨lw_p13, List.forall_mem_cons.mpr ⟨lw_p14, List.forall_mem_cons.mpr ⟨lw_p15, fun _ h => absurd h List.not_mem_nil⟩⟩⟩⟩⟩⟩⟩⟩⟩⟩⟩⟩⟩⟩⟩⟩
theorem lw_p16 : lw_okq (⟨"SleepSteps$StandSpace", "leastLeading", "(I)I"⟩, 12) := ⟨⟨by decide +kernel, by decide +kernel⟩, List.mem_of_getElem? (i := 98) (by decide +kernel), List.mem_of_getElem? (i := 567) (by decide +kernel), List.mem_of_getElem? (i := 568) (by decide +kernel)⟩
theorem lw_p17 : lw_okq (⟨"SleepSteps$RunOrder", "addStep", "(LSleepSteps$Programs;I)V"⟩, 6) := ⟨⟨by decide +kernel, by decide +kernel⟩, List.mem_of_getElem? (i := 148) (by decide +kernel), List.mem_of_getElem? (i := 596) (by decide +kernel), List.mem_of_getElem? (i := 597) (by decide +kernel)⟩
theorem lw_p18 : lw_okq (⟨"SleepSteps$RunOrder", "neededSteps", "(LSleepSteps$Programs;II)I"⟩, 6) := ⟨⟨by decide +kernel, by decide +kernel⟩, List.mem_of_getElem? (i := 148) (by decide +kernel), List.mem_of_getElem? (i := 602) (by decide +kernel), List.mem_of_getElem? (i := 603) (by decide +kernel)⟩
theorem lw_p19 : lw_okq (⟨"SleepSteps$RunOrder", "leastThatMayGo", "(I)I"⟩, 6) := ⟨⟨by decide +kernel, by decide +kernel⟩, List.mem_of_getElem? (i := 148) (by decide +kernel), List.mem_of_getElem? (i := 616) (by decide +kernel), List.mem_of_getElem? (i := 617) (by decide +kernel)⟩
theorem lw_p20 : lw_okq (⟨"SleepSteps$RunOrder", "mayGo", "(II)Z"⟩, 6) := ⟨⟨by decide +kernel, by decide +kernel⟩, List.mem_of_getElem? (i := 148) (by decide +kernel), List.mem_of_getElem? (i := 620) (by decide +kernel), List.mem_of_getElem? (i := 621) (by decide +kernel)⟩
theorem lw_p21 : lw_okq (⟨"SleepStepsModel", "faultOf", "(I)I"⟩, 22) := ⟨⟨by decide +kernel, by decide +kernel⟩, List.mem_of_getElem? (i := 677) (by decide +kernel), List.mem_of_getElem? (i := 766) (by decide +kernel), List.mem_of_getElem? (i := 767) (by decide +kernel)⟩
theorem lw_p22 : lw_okq (⟨"SleepStepsModel", "isWell", "(I)Z"⟩, 22) := ⟨⟨by decide +kernel, by decide +kernel⟩, List.mem_of_getElem? (i := 677) (by decide +kernel), List.mem_of_getElem? (i := 783) (by decide +kernel), List.mem_of_getElem? (i := 784) (by decide +kernel)⟩
theorem lw_p23 : lw_okq (⟨"SleepStepsModel", "step", "(II)I"⟩, 22) := ⟨⟨by decide +kernel, by decide +kernel⟩, List.mem_of_getElem? (i := 677) (by decide +kernel), List.mem_of_getElem? (i := 787) (by decide +kernel), List.mem_of_getElem? (i := 788) (by decide +kernel)⟩
theorem lw_p24 : lw_okq (⟨"SleepStepsModel", "records", "([I)V"⟩, 22) := ⟨⟨by decide +kernel, by decide +kernel⟩, List.mem_of_getElem? (i := 677) (by decide +kernel), List.mem_of_getElem? (i := 791) (by decide +kernel), List.mem_of_getElem? (i := 792) (by decide +kernel)⟩
theorem lw_p25 : lw_okq (⟨"SleepStepsModel", "laysWays", "()V"⟩, 22) := ⟨⟨by decide +kernel, by decide +kernel⟩, List.mem_of_getElem? (i := 677) (by decide +kernel), List.mem_of_getElem? (i := 803) (by decide +kernel), List.mem_of_getElem? (i := 804) (by decide +kernel)⟩
theorem lw_p26 : lw_okq (⟨"SleepStepsModel", "laysHeld", "()V"⟩, 22) := ⟨⟨by decide +kernel, by decide +kernel⟩, List.mem_of_getElem? (i := 677) (by decide +kernel), List.mem_of_getElem? (i := 807) (by decide +kernel), List.mem_of_getElem? (i := 808) (by decide +kernel)⟩
theorem lw_p27 : lw_okq (⟨"SleepStepsModel", "canGo", "(II)Z"⟩, 22) := ⟨⟨by decide +kernel, by decide +kernel⟩, List.mem_of_getElem? (i := 677) (by decide +kernel), List.mem_of_getElem? (i := 811) (by decide +kernel), List.mem_of_getElem? (i := 812) (by decide +kernel)⟩
theorem lw_p28 : lw_okq (⟨"SleepStepsModel", "hasNext", "(II)Z"⟩, 22) := ⟨⟨by decide +kernel, by decide +kernel⟩, List.mem_of_getElem? (i := 677) (by decide +kernel), List.mem_of_getElem? (i := 815) (by decide +kernel), List.mem_of_getElem? (i := 816) (by decide +kernel)⟩
theorem lw_p29 : lw_okq (⟨"SleepStepsModel", "heldBut", "(II)I"⟩, 22) := ⟨⟨by decide +kernel, by decide +kernel⟩, List.mem_of_getElem? (i := 677) (by decide +kernel), List.mem_of_getElem? (i := 825) (by decide +kernel), List.mem_of_getElem? (i := 826) (by decide +kernel)⟩
theorem lw_p30 : lw_okq (⟨"SleepStepsModel", "isEnd", "(I)Z"⟩, 22) := ⟨⟨by decide +kernel, by decide +kernel⟩, List.mem_of_getElem? (i := 677) (by decide +kernel), List.mem_of_getElem? (i := 829) (by decide +kernel), List.mem_of_getElem? (i := 830) (by decide +kernel)⟩
theorem lw_p31 : lw_okq (⟨"SleepStepsModel", "isDeadlock", "(I)Z"⟩, 22) := ⟨⟨by decide +kernel, by decide +kernel⟩, List.mem_of_getElem? (i := 677) (by decide +kernel), List.mem_of_getElem? (i := 833) (by decide +kernel), List.mem_of_getElem? (i := 834) (by decide +kernel)⟩
def lw_privs_2 : List (MethodName × Nat) := [(⟨"SleepSteps$StandSpace", "leastLeading", "(I)I"⟩, 12), (⟨"SleepSteps$RunOrder", "addStep", "(LSleepSteps$Programs;I)V"⟩, 6), (⟨"SleepSteps$RunOrder", "neededSteps", "(LSleepSteps$Programs;II)I"⟩, 6), (⟨"SleepSteps$RunOrder", "leastThatMayGo", "(I)I"⟩, 6), (⟨"SleepSteps$RunOrder", "mayGo", "(II)Z"⟩, 6), (⟨"SleepStepsModel", "faultOf", "(I)I"⟩, 22), (⟨"SleepStepsModel", "isWell", "(I)Z"⟩, 22), (⟨"SleepStepsModel", "step", "(II)I"⟩, 22), (⟨"SleepStepsModel", "records", "([I)V"⟩, 22), (⟨"SleepStepsModel", "laysWays", "()V"⟩, 22), (⟨"SleepStepsModel", "laysHeld", "()V"⟩, 22), (⟨"SleepStepsModel", "canGo", "(II)Z"⟩, 22), (⟨"SleepStepsModel", "hasNext", "(II)Z"⟩, 22), (⟨"SleepStepsModel", "heldBut", "(II)I"⟩, 22), (⟨"SleepStepsModel", "isEnd", "(I)Z"⟩, 22), (⟨"SleepStepsModel", "isDeadlock", "(I)Z"⟩, 22)]
theorem lw_r2 : ∀ q ∈ lw_privs_2, lw_okq q := List.forall_mem_cons.mpr ⟨lw_p16, List.forall_mem_cons.mpr ⟨lw_p17, List.forall_mem_cons.mpr ⟨lw_p18, List.forall_mem_cons.mpr ⟨lw_p19, List.forall_mem_cons.mpr ⟨lw_p20, List.forall_mem_cons.mpr ⟨lw_p21, List.forall_mem_cons.mpr ⟨lw_p22, List.forall_mem_cons.mpr ⟨lw_p23, List.forall_mem_cons.mpr ⟨lw_p24, List.forall_mem_cons.mpr ⟨lw_p25, List.forall_mem_cons.mpr ⟨lw_p26, List.forall_mem_cons.mpr ⟨lw_p27, List.forall_mem_cons.mpr ⟨lw_p28, List.forall_mem_cons.mpr ⟨lw_p29, List.forall_mem_cons.mpr ⟨lw_p30, List.forall_mem_cons.mpr ⟨lw_p31, fun _ h => absurd h List.not_mem_nil⟩⟩⟩⟩⟩⟩⟩⟩⟩⟩⟩⟩⟩⟩⟩⟩
theorem lw_p32 : lw_okq (⟨"SleepStepsModel", "deadlocks", "()I"⟩, 22) := ⟨⟨by decide +kernel, by decide +kernel⟩, List.mem_of_getElem? (i := 677) (by decide +kernel), List.mem_of_getElem? (i := 841) (by decide +kernel), List.mem_of_getElem? (i := 842) (by decide +kernel)⟩
theorem lw_p33 : lw_okq (⟨"SleepStepsModel", "toldOf", "(II)I"⟩, 22) := ⟨⟨by decide +kernel, by decide +kernel⟩, List.mem_of_getElem? (i := 677) (by decide +kernel), List.mem_of_getElem? (i := 845) (by decide +kernel), List.mem_of_getElem? (i := 846) (by decide +kernel)⟩
theorem lw_p34 : lw_okq (⟨"SleepStepsModel", "length", "(I)I"⟩, 22) := ⟨⟨by decide +kernel, by decide +kernel⟩, List.mem_of_getElem? (i := 677) (by decide +kernel), List.mem_of_getElem? (i := 849) (by decide +kernel), List.mem_of_getElem? (i := 850) (by decide +kernel)⟩
theorem lw_p35 : lw_okq (⟨"SleepStepsModel", "sleeps", "()V"⟩, 22) := ⟨⟨by decide +kernel, by decide +kernel⟩, List.mem_of_getElem? (i := 677) (by decide +kernel), List.mem_of_getElem? (i := 862) (by decide +kernel), List.mem_of_getElem? (i := 863) (by decide +kernel)⟩
theorem lw_p36 : lw_okq (⟨"SleepStepsModel", "explores", "(III)V"⟩, 22) := ⟨⟨by decide +kernel, by decide +kernel⟩, List.mem_of_getElem? (i := 677) (by decide +kernel), List.mem_of_getElem? (i := 866) (by decide +kernel), List.mem_of_getElem? (i := 867) (by decide +kernel)⟩
theorem lw_p37 : lw_okq (⟨"SleepStepsModel", "asleep", "(III)I"⟩, 22) := ⟨⟨by decide +kernel, by decide +kernel⟩, List.mem_of_getElem? (i := 677) (by decide +kernel), List.mem_of_getElem? (i := 870) (by decide +kernel), List.mem_of_getElem? (i := 871) (by decide +kernel)⟩
theorem lw_p38 : lw_okq (⟨"SleepStepsModel", "nearest", "()I"⟩, 22) := ⟨⟨by decide +kernel, by decide +kernel⟩, List.mem_of_getElem? (i := 677) (by decide +kernel), List.mem_of_getElem? (i := 881) (by decide +kernel), List.mem_of_getElem? (i := 882) (by decide +kernel)⟩
theorem lw_p39 : lw_okq (⟨"SleepStepsModel", "takesPad", "()Z"⟩, 22) := ⟨⟨by decide +kernel, by decide +kernel⟩, List.mem_of_getElem? (i := 677) (by decide +kernel), List.mem_of_getElem? (i := 893) (by decide +kernel), List.mem_of_getElem? (i := 894) (by decide +kernel)⟩
theorem lw_p40 : lw_okq (⟨"SleepStepsModel", "goesAll", "()Z"⟩, 22) := ⟨⟨by decide +kernel, by decide +kernel⟩, List.mem_of_getElem? (i := 677) (by decide +kernel), List.mem_of_getElem? (i := 897) (by decide +kernel), List.mem_of_getElem? (i := 898) (by decide +kernel)⟩
theorem lw_p41 : lw_okq (⟨"SleepStepsModel", "takesKept", "()V"⟩, 22) := ⟨⟨by decide +kernel, by decide +kernel⟩, List.mem_of_getElem? (i := 677) (by decide +kernel), List.mem_of_getElem? (i := 905) (by decide +kernel), List.mem_of_getElem? (i := 906) (by decide +kernel)⟩
theorem lw_p42 : lw_okq (⟨"SleepStepsModel", "laysLeast", "()V"⟩, 22) := ⟨⟨by decide +kernel, by decide +kernel⟩, List.mem_of_getElem? (i := 677) (by decide +kernel), List.mem_of_getElem? (i := 909) (by decide +kernel), List.mem_of_getElem? (i := 910) (by decide +kernel)⟩
theorem lw_p43 : lw_okq (⟨"SleepStepsModel", "isFree", "(I)Z"⟩, 22) := ⟨⟨by decide +kernel, by decide +kernel⟩, List.mem_of_getElem? (i := 677) (by decide +kernel), List.mem_of_getElem? (i := 913) (by decide +kernel), List.mem_of_getElem? (i := 914) (by decide +kernel)⟩
theorem lw_p44 : lw_okq (⟨"SleepStepsModel", "isTied", "(II)Z"⟩, 22) := ⟨⟨by decide +kernel, by decide +kernel⟩, List.mem_of_getElem? (i := 677) (by decide +kernel), List.mem_of_getElem? (i := 917) (by decide +kernel), List.mem_of_getElem? (i := 918) (by decide +kernel)⟩
theorem lw_p45 : lw_okq (⟨"SleepStepsModel", "comesNext", "(II)Z"⟩, 22) := ⟨⟨by decide +kernel, by decide +kernel⟩, List.mem_of_getElem? (i := 677) (by decide +kernel), List.mem_of_getElem? (i := 937) (by decide +kernel), List.mem_of_getElem? (i := 938) (by decide +kernel)⟩
theorem lw_p46 : lw_okq (⟨"SleepStepsModel", "notWith", "(II)I"⟩, 22) := ⟨⟨by decide +kernel, by decide +kernel⟩, List.mem_of_getElem? (i := 677) (by decide +kernel), List.mem_of_getElem? (i := 945) (by decide +kernel), List.mem_of_getElem? (i := 946) (by decide +kernel)⟩
theorem lw_p47 : lw_okq (⟨"SleepStepsModel", "stepsAll", "()I"⟩, 22) := ⟨⟨by decide +kernel, by decide +kernel⟩, List.mem_of_getElem? (i := 677) (by decide +kernel), List.mem_of_getElem? (i := 953) (by decide +kernel), List.mem_of_getElem? (i := 954) (by decide +kernel)⟩
def lw_privs_3 : List (MethodName × Nat) := [(⟨"SleepStepsModel", "deadlocks", "()I"⟩, 22), (⟨"SleepStepsModel", "toldOf", "(II)I"⟩, 22), (⟨"SleepStepsModel", "length", "(I)I"⟩, 22), (⟨"SleepStepsModel", "sleeps", "()V"⟩, 22), (⟨"SleepStepsModel", "explores", "(III)V"⟩, 22), (⟨"SleepStepsModel", "asleep", "(III)I"⟩, 22), (⟨"SleepStepsModel", "nearest", "()I"⟩, 22), (⟨"SleepStepsModel", "takesPad", "()Z"⟩, 22), (⟨"SleepStepsModel", "goesAll", "()Z"⟩, 22), (⟨"SleepStepsModel", "takesKept", "()V"⟩, 22), (⟨"SleepStepsModel", "laysLeast", "()V"⟩, 22), (⟨"SleepStepsModel", "isFree", "(I)Z"⟩, 22), (⟨"SleepStepsModel", "isTied", "(II)Z"⟩, 22), (⟨"SleepStepsModel", "comesNext", "(II)Z"⟩, 22), (⟨"SleepStepsModel", "notWith", "(II)I"⟩, 22), (⟨"SleepStepsModel", "stepsAll", "()I"⟩, 22)]
theorem lw_r3 : ∀ q ∈ lw_privs_3, lw_okq q := List.forall_mem_cons.mpr ⟨lw_p32, List.forall_mem_cons.mpr ⟨lw_p33, List.forall_mem_cons.mpr ⟨lw_p34, List.forall_mem_cons.mpr ⟨lw_p35, List.forall_mem_cons.mpr ⟨lw_p36, List.forall_mem_cons.mpr ⟨lw_p37, List.forall_mem_cons.mpr ⟨lw_p38, List.forall_mem_cons.mpr ⟨lw_p39, List.forall_mem_cons.mpr ⟨lw_p40, List.forall_mem_cons.mpr ⟨lw_p41, List.forall_mem_cons.mpr ⟨lw_p42, List.forall_mem_cons.mpr ⟨lw_p43, List.forall_mem_cons.mpr ⟨lw_p44, List.forall_mem_cons.mpr ⟨lw_p45, List.forall_mem_cons.mpr ⟨lw_p46, List.forall_mem_cons.mpr ⟨lw_p47, fun _ h => absurd h List.not_mem_nil⟩⟩⟩⟩⟩⟩⟩⟩⟩⟩⟩⟩⟩⟩⟩⟩
def lw_privs : List (MethodName × Nat) := lw_privs_1 ++ (lw_privs_2 ++ (lw_privs_3))
def lw_tbl : List Cond := k2_sels lw_privs ++ tables_1
theorem lw_privs_ok : ∀ q ∈ lw_privs, lw_okq q := by
  show ∀ q ∈ lw_privs_1 ++ (lw_privs_2 ++ (lw_privs_3)), lw_okq q
  exact List.forall_mem_append.mpr ⟨lw_r1, List.forall_mem_append.mpr ⟨lw_r2, lw_r3⟩⟩
-- ===== end of PART A; then your names; then what follows =====
theorem goodIn_r {big : List Cond} (ws : List Cond) (ps : List Nat) (hp : ws = ps.filterMap (fun i => big[i]?)) (h : ws.all goodWord = true) : GoodIn big ws := by
  intro w hw
  have h1 := List.all_eq_true.mp h w hw
  rw [hp] at hw
  obtain ⟨i, -, hi⟩ := List.mem_filterMap.mp hw
  have hm : w ∈ big := by first | exact List.mem_of_getElem? hi | exact List.getElem?_mem hi
  exact ⟨hm, good_of_word h1⟩
theorem goodIn_app {big a b : List Cond} (ha : GoodIn big a) (hb : GoodIn big b) : GoodIn big (a ++ b) := fun w h => (List.mem_append.mp h).elim (ha w) (hb w)
theorem goodIn_ca {big a b : List Cond} {c : Cond} (ha : GoodIn big (c :: a)) (hb : GoodIn big b) : GoodIn big (c :: (a ++ b)) := fun w h => (List.mem_cons.mp h).elim (fun e => ha w (List.mem_cons.mpr (Or.inl e))) (fun h => (List.mem_append.mp h).elim (fun h => ha w (List.mem_cons.mpr (Or.inr h))) (hb w))
theorem goodIn_sub {big ws : List Cond} (hm : ∀ w ∈ ws, w ∈ big) (h : ws.all goodWord = true) : GoodIn big ws := fun w hw => ⟨hm w hw, good_of_word (List.all_eq_true.mp h w hw)⟩
def RX0 : String := "SleepSteps$History"
def TX0 : u_T := fun k => match k with
  | 0 => ("SleepSteps$History", "states", "[LSleepSteps$State;", true)
  | 1 => ("SleepSteps$History", "oldest", "I", false)
  | _ => ("SleepSteps$History", "size", "I", false)
def tyX0 : Nat → FieldType := fun k => match k with
  | 0 => .array (.object "SleepSteps$State")
  | 1 => .int
  | _ => .int
abbrev wsX00 : List Cond := u_ws RX0 TX0 3
theorem nmX0 : ∀ a, a < 3 → ∀ b, b < 3 → a ≠ b → (TX0 a).2.1 ≠ (TX0 b).2.1 := by decide +kernel
theorem tyX0_ok : ∀ k, k < 3 → parseFieldDescriptor (TX0 k).2.2.1 = some (tyX0 k) := by decide +kernel
abbrev cX0_init : ByteArray := prog_2_method_1_code
def yX0_init : MethodName := ⟨RX0, "<init>", "()V"⟩
abbrev cX0_size : ByteArray := prog_2_method_2_code
def yX0_size : MethodName := ⟨RX0, "size", "()I"⟩
abbrev cX0_record : ByteArray := prog_2_method_3_code
def yX0_record : MethodName := ⟨RX0, "record", "(LSleepSteps$State;)V"⟩
abbrev cX0_takeBackInto : ByteArray := prog_2_method_4_code
def yX0_takeBackInto : MethodName := ⟨RX0, "takeBackInto", "(LSleepSteps$State;)V"⟩
def RX1 : String := "SleepSteps$Pad"
def TX1 : u_T := fun k => match k with
  | 0 => ("SleepSteps$Pad", "signs", "[I", true)
  | _ => ("SleepSteps$Pad", "length", "I", false)
def tyX1 : Nat → FieldType := fun k => match k with
  | 0 => .array .int
  | _ => .int
abbrev wsX10 : List Cond := u_ws RX1 TX1 2
theorem nmX1 : ∀ a, a < 2 → ∀ b, b < 2 → a ≠ b → (TX1 a).2.1 ≠ (TX1 b).2.1 := by decide +kernel
theorem tyX1_ok : ∀ k, k < 2 → parseFieldDescriptor (TX1 k).2.2.1 = some (tyX1 k) := by decide +kernel
abbrev cX1_init : ByteArray := prog_3_method_1_code
def yX1_init : MethodName := ⟨RX1, "<init>", "()V"⟩
abbrev cX1_charactersIn : ByteArray := prog_3_method_2_code
def yX1_charactersIn : MethodName := ⟨RX1, "charactersIn", "(J)I"⟩
abbrev cX1_signIn : ByteArray := prog_3_method_3_code
def yX1_signIn : MethodName := ⟨RX1, "signIn", "(JI)I"⟩
abbrev cX1_length : ByteArray := prog_3_method_4_code
def yX1_length : MethodName := ⟨RX1, "length", "()I"⟩
abbrev cX1_clear : ByteArray := prog_3_method_5_code
def yX1_clear : MethodName := ⟨RX1, "clear", "()V"⟩
abbrev cX1_append : ByteArray := prog_3_method_6_code
def yX1_append : MethodName := ⟨RX1, "append", "(JI)V"⟩
abbrev cX1_faultAsProgram : ByteArray := prog_3_method_7_code
def yX1_faultAsProgram : MethodName := ⟨RX1, "faultAsProgram", "()I"⟩
abbrev cX1_faultAsRun : ByteArray := prog_3_method_8_code
def yX1_faultAsRun : MethodName := ⟨RX1, "faultAsRun", "()I"⟩
abbrev cX1_kindAt : ByteArray := prog_3_method_9_code
def yX1_kindAt : MethodName := ⟨RX1, "kindAt", "(I)I"⟩
abbrev cX1_digitAt : ByteArray := prog_3_method_10_code
def yX1_digitAt : MethodName := ⟨RX1, "digitAt", "(I)I"⟩
abbrev cX1_isDigitAt : ByteArray := prog_3_method_11_code
def yX1_isDigitAt : MethodName := ⟨RX1, "isDigitAt", "(I)Z"⟩
abbrev cX1_signAt : ByteArray := prog_3_method_12_code
def yX1_signAt : MethodName := ⟨RX1, "signAt", "(I)I"⟩
def RX2 : String := "SleepSteps$Programs"
def TX2 : u_T := fun k => match k with
  | 0 => ("SleepSteps$Programs", "steps", "[I", true)
  | _ => ("SleepSteps$Programs", "lengths", "[I", true)
def tyX2 : Nat → FieldType := fun k => match k with
  | 0 => .array .int
  | _ => .array .int
abbrev wsX20 : List Cond := u_ws RX2 TX2 2
theorem nmX2 : ∀ a, a < 2 → ∀ b, b < 2 → a ≠ b → (TX2 a).2.1 ≠ (TX2 b).2.1 := by decide +kernel
theorem tyX2_ok : ∀ k, k < 2 → parseFieldDescriptor (TX2 k).2.2.1 = some (tyX2 k) := by decide +kernel
abbrev cX2_init : ByteArray := prog_4_method_1_code
def yX2_init : MethodName := ⟨RX2, "<init>", "()V"⟩
abbrev cX2_lengthOf : ByteArray := prog_4_method_2_code
def yX2_lengthOf : MethodName := ⟨RX2, "lengthOf", "(I)I"⟩
abbrev cX2_stepOf : ByteArray := prog_4_method_3_code
def yX2_stepOf : MethodName := ⟨RX2, "stepOf", "(II)I"⟩
abbrev cX2_allSteps : ByteArray := prog_4_method_4_code
def yX2_allSteps : MethodName := ⟨RX2, "allSteps", "()I"⟩
abbrev cX2_copyFrom : ByteArray := prog_4_method_5_code
def yX2_copyFrom : MethodName := ⟨RX2, "copyFrom", "(LSleepSteps$Programs;)V"⟩
abbrev cX2_copyWithoutLock : ByteArray := prog_4_method_6_code
def yX2_copyWithoutLock : MethodName := ⟨RX2, "copyWithoutLock", "(LSleepSteps$Programs;I)V"⟩
abbrev cX2_readProgram : ByteArray := prog_4_method_7_code
def yX2_readProgram : MethodName := ⟨RX2, "readProgram", "(ILSleepSteps$Pad;)V"⟩
abbrev cX2_append : ByteArray := prog_4_method_8_code
def yX2_append : MethodName := ⟨RX2, "append", "(II)V"⟩
abbrev cX2_swapWithNext : ByteArray := prog_4_method_9_code
def yX2_swapWithNext : MethodName := ⟨RX2, "swapWithNext", "(II)V"⟩
abbrev cX2_sameAs : ByteArray := prog_4_method_10_code
def yX2_sameAs : MethodName := ⟨RX2, "sameAs", "(LSleepSteps$Programs;)Z"⟩
abbrev cX2_isWell : ByteArray := prog_4_method_11_code
def yX2_isWell : MethodName := ⟨RX2, "isWell", "(I)Z"⟩
abbrev cX2_heldAfter : ByteArray := prog_4_method_12_code
def yX2_heldAfter : MethodName := ⟨RX2, "heldAfter", "(II)I"⟩
abbrev cX2_conflictsOf : ByteArray := prog_4_method_13_code
def yX2_conflictsOf : MethodName := ⟨RX2, "conflictsOf", "(II)I"⟩
abbrev cX2_conflictingPairs : ByteArray := prog_4_method_14_code
def yX2_conflictingPairs : MethodName := ⟨RX2, "conflictingPairs", "()I"⟩
def RX3 : String := "SleepSteps$Run"
def TX3 : u_T := fun k => match k with
  | 0 => ("SleepSteps$Run", "threads", "[I", true)
  | _ => ("SleepSteps$Run", "length", "I", false)
def tyX3 : Nat → FieldType := fun k => match k with
  | 0 => .array .int
  | _ => .int
abbrev wsX30 : List Cond := u_ws RX3 TX3 2
theorem nmX3 : ∀ a, a < 2 → ∀ b, b < 2 → a ≠ b → (TX3 a).2.1 ≠ (TX3 b).2.1 := by decide +kernel
theorem tyX3_ok : ∀ k, k < 2 → parseFieldDescriptor (TX3 k).2.2.1 = some (tyX3 k) := by decide +kernel
abbrev cX3_init : ByteArray := prog_5_method_1_code
def yX3_init : MethodName := ⟨RX3, "<init>", "()V"⟩
abbrev cX3_length : ByteArray := prog_5_method_2_code
def yX3_length : MethodName := ⟨RX3, "length", "()I"⟩
abbrev cX3_threadAt : ByteArray := prog_5_method_3_code
def yX3_threadAt : MethodName := ⟨RX3, "threadAt", "(I)I"⟩
abbrev cX3_clear : ByteArray := prog_5_method_4_code
def yX3_clear : MethodName := ⟨RX3, "clear", "()V"⟩
abbrev cX3_append : ByteArray := prog_5_method_5_code
def yX3_append : MethodName := ⟨RX3, "append", "(I)V"⟩
abbrev cX3_copyFrom : ByteArray := prog_5_method_6_code
def yX3_copyFrom : MethodName := ⟨RX3, "copyFrom", "(LSleepSteps$Run;)V"⟩
abbrev cX3_readRun : ByteArray := prog_5_method_7_code
def yX3_readRun : MethodName := ⟨RX3, "readRun", "(LSleepSteps$Pad;)V"⟩
abbrev cX3_sameAs : ByteArray := prog_5_method_8_code
def yX3_sameAs : MethodName := ⟨RX3, "sameAs", "(LSleepSteps$Run;)Z"⟩
def RX4 : String := "SleepSteps$RunOrder"
def TX4 : u_T := fun k => match k with
  | 0 => ("SleepSteps$RunOrder", "counts", "[I", true)
  | 1 => ("SleepSteps$RunOrder", "needs", "[I", true)
  | 2 => ("SleepSteps$RunOrder", "chains", "[I", true)
  | 3 => ("SleepSteps$RunOrder", "longestChain", "I", false)
  | 4 => ("SleepSteps$RunOrder", "lastStand", "I", false)
  | _ => ("SleepSteps$RunOrder", "ways", "[J", true)
def tyX4 : Nat → FieldType := fun k => match k with
  | 0 => .array .int
  | 1 => .array .int
  | 2 => .array .int
  | 3 => .int
  | 4 => .int
  | _ => .array .long
abbrev wsX40 : List Cond := u_ws RX4 TX4 6
theorem nmX4 : ∀ a, a < 6 → ∀ b, b < 6 → a ≠ b → (TX4 a).2.1 ≠ (TX4 b).2.1 := by decide +kernel
theorem tyX4_ok : ∀ k, k < 6 → parseFieldDescriptor (TX4 k).2.2.1 = some (tyX4 k) := by decide +kernel
abbrev cX4_init : ByteArray := prog_6_method_1_code
def yX4_init : MethodName := ⟨RX4, "<init>", "()V"⟩
abbrev cX4_lookAt : ByteArray := prog_6_method_2_code
def yX4_lookAt : MethodName := ⟨RX4, "lookAt", "(LSleepSteps$Programs;LSleepSteps$Run;)V"⟩
abbrev cX4_addStep : ByteArray := prog_6_method_3_code
def yX4_addStep : MethodName := ⟨RX4, "addStep", "(LSleepSteps$Programs;I)V"⟩
abbrev cX4_neededSteps : ByteArray := prog_6_method_4_code
def yX4_neededSteps : MethodName := ⟨RX4, "neededSteps", "(LSleepSteps$Programs;II)I"⟩
abbrev cX4_mayGo : ByteArray := prog_6_method_5_code
def yX4_mayGo : MethodName := ⟨RX4, "mayGo", "(II)Z"⟩
abbrev cX4_longestChain : ByteArray := prog_6_method_6_code
def yX4_longestChain : MethodName := ⟨RX4, "longestChain", "()I"⟩
abbrev cX4_writeLeast : ByteArray := prog_6_method_7_code
def yX4_writeLeast : MethodName := ⟨RX4, "writeLeast", "(LSleepSteps$Run;)V"⟩
abbrev cX4_leastThatMayGo : ByteArray := prog_6_method_8_code
def yX4_leastThatMayGo : MethodName := ⟨RX4, "leastThatMayGo", "(I)I"⟩
abbrev cX4_linearOrders : ByteArray := prog_6_method_9_code
def yX4_linearOrders : MethodName := ⟨RX4, "linearOrders", "()J"⟩
def RX5 : String := "SleepSteps$StandSpace"
def TX5 : u_T := fun k => match k with
  | 0 => ("SleepSteps$StandSpace", "programs", "LSleepSteps$Programs;", true)
  | 1 => ("SleepSteps$StandSpace", "isExplored", "Z", false)
  | 2 => ("SleepSteps$StandSpace", "heldByThread", "[I", true)
  | 3 => ("SleepSteps$StandSpace", "goers", "[I", true)
  | 4 => ("SleepSteps$StandSpace", "runsTo", "[J", true)
  | 5 => ("SleepSteps$StandSpace", "isSleepExplored", "Z", false)
  | 6 => ("SleepSteps$StandSpace", "timesAsleep", "[J", true)
  | 7 => ("SleepSteps$StandSpace", "sleepEnds", "J", false)
  | 8 => ("SleepSteps$StandSpace", "sleepCuts", "J", false)
  | 9 => ("SleepSteps$StandSpace", "sleepDeadlocks", "I", false)
  | 10 => ("SleepSteps$StandSpace", "leadsToShortest", "[Z", true)
  | _ => ("SleepSteps$StandSpace", "way", "LSleepSteps$Run;", true)
def tyX5 : Nat → FieldType := fun k => match k with
  | 0 => .object "SleepSteps$Programs"
  | 1 => .boolean
  | 2 => .array .int
  | 3 => .array .int
  | 4 => .array .long
  | 5 => .boolean
  | 6 => .array .long
  | 7 => .long
  | 8 => .long
  | 9 => .int
  | 10 => .array .boolean
  | _ => .object "SleepSteps$Run"
abbrev wsX50 : List Cond := u_ws RX5 TX5 12
theorem nmX5 : ∀ a, a < 12 → ∀ b, b < 12 → a ≠ b → (TX5 a).2.1 ≠ (TX5 b).2.1 := by decide +kernel
theorem tyX5_ok : ∀ k, k < 12 → parseFieldDescriptor (TX5 k).2.2.1 = some (tyX5 k) := by decide +kernel
abbrev cX5_init : ByteArray := prog_7_method_1_code
def yX5_init : MethodName := ⟨RX5, "<init>", "()V"⟩
abbrev cX5_lookAt : ByteArray := prog_7_method_2_code
def yX5_lookAt : MethodName := ⟨RX5, "lookAt", "(LSleepSteps$Programs;)V"⟩
abbrev cX5_noteHeldLocks : ByteArray := prog_7_method_3_code
def yX5_noteHeldLocks : MethodName := ⟨RX5, "noteHeldLocks", "()V"⟩
abbrev cX5_goFrom : ByteArray := prog_7_method_4_code
def yX5_goFrom : MethodName := ⟨RX5, "goFrom", "(I)V"⟩
abbrev cX5_threadsThatCanGo : ByteArray := prog_7_method_5_code
def yX5_threadsThatCanGo : MethodName := ⟨RX5, "threadsThatCanGo", "(I)I"⟩
abbrev cX5_nextStep : ByteArray := prog_7_method_6_code
def yX5_nextStep : MethodName := ⟨RX5, "nextStep", "(II)I"⟩
abbrev cX5_heldLocks : ByteArray := prog_7_method_7_code
def yX5_heldLocks : MethodName := ⟨RX5, "heldLocks", "(I)I"⟩
abbrev cX5_unfinishedThreads : ByteArray := prog_7_method_8_code
def yX5_unfinishedThreads : MethodName := ⟨RX5, "unfinishedThreads", "(I)I"⟩
abbrev cX5_isReachable : ByteArray := prog_7_method_9_code
def yX5_isReachable : MethodName := ⟨RX5, "isReachable", "(I)Z"⟩
abbrev cX5_isEnd : ByteArray := prog_7_method_10_code
def yX5_isEnd : MethodName := ⟨RX5, "isEnd", "(I)Z"⟩
abbrev cX5_isDeadlock : ByteArray := prog_7_method_11_code
def yX5_isDeadlock : MethodName := ⟨RX5, "isDeadlock", "(I)Z"⟩
abbrev cX5_canRun : ByteArray := prog_7_method_12_code
def yX5_canRun : MethodName := ⟨RX5, "canRun", "(LSleepSteps$Run;)Z"⟩
abbrev cX5_reachableStands : ByteArray := prog_7_method_13_code
def yX5_reachableStands : MethodName := ⟨RX5, "reachableStands", "()I"⟩
abbrev cX5_ends : ByteArray := prog_7_method_14_code
def yX5_ends : MethodName := ⟨RX5, "ends", "()I"⟩
abbrev cX5_deadlocks : ByteArray := prog_7_method_15_code
def yX5_deadlocks : MethodName := ⟨RX5, "deadlocks", "()I"⟩
abbrev cX5_deadlockAt : ByteArray := prog_7_method_16_code
def yX5_deadlockAt : MethodName := ⟨RX5, "deadlockAt", "(I)I"⟩
abbrev cX5_wholeRuns : ByteArray := prog_7_method_17_code
def yX5_wholeRuns : MethodName := ⟨RX5, "wholeRuns", "()J"⟩
abbrev cX5_wholeRunsToDeadlocks : ByteArray := prog_7_method_18_code
def yX5_wholeRunsToDeadlocks : MethodName := ⟨RX5, "wholeRunsToDeadlocks", "()J"⟩
abbrev cX5_exploreWithSleepSets : ByteArray := prog_7_method_19_code
def yX5_exploreWithSleepSets : MethodName := ⟨RX5, "exploreWithSleepSets", "()V"⟩
abbrev cX5_exploreFrom : ByteArray := prog_7_method_20_code
def yX5_exploreFrom : MethodName := ⟨RX5, "exploreFrom", "(I)V"⟩
abbrev cX5_exploreWith : ByteArray := prog_7_method_21_code
def yX5_exploreWith : MethodName := ⟨RX5, "exploreWith", "(IIJ)V"⟩
abbrev cX5_stillAsleep : ByteArray := prog_7_method_22_code
def yX5_stillAsleep : MethodName := ⟨RX5, "stillAsleep", "(III)I"⟩
abbrev cX5_sleepEnds : ByteArray := prog_7_method_23_code
def yX5_sleepEnds : MethodName := ⟨RX5, "sleepEnds", "()J"⟩
abbrev cX5_sleepCuts : ByteArray := prog_7_method_24_code
def yX5_sleepCuts : MethodName := ⟨RX5, "sleepCuts", "()J"⟩
abbrev cX5_sleepDeadlocks : ByteArray := prog_7_method_25_code
def yX5_sleepDeadlocks : MethodName := ⟨RX5, "sleepDeadlocks", "()I"⟩
abbrev cX5_leastShortestWay : ByteArray := prog_7_method_26_code
def yX5_leastShortestWay : MethodName := ⟨RX5, "leastShortestWay", "()LSleepSteps$Run;"⟩
abbrev cX5_shortestWay : ByteArray := prog_7_method_27_code
def yX5_shortestWay : MethodName := ⟨RX5, "shortestWay", "()I"⟩
abbrev cX5_markWaysOf : ByteArray := prog_7_method_28_code
def yX5_markWaysOf : MethodName := ⟨RX5, "markWaysOf", "(I)V"⟩
abbrev cX5_leastLeading : ByteArray := prog_7_method_29_code
def yX5_leastLeading : MethodName := ⟨RX5, "leastLeading", "(I)I"⟩
def RX6 : String := "SleepSteps$State"
def TX6 : u_T := fun k => match k with
  | 0 => ("SleepSteps$State", "programs", "LSleepSteps$Programs;", true)
  | _ => ("SleepSteps$State", "run", "LSleepSteps$Run;", true)
def tyX6 : Nat → FieldType := fun k => match k with
  | 0 => .object "SleepSteps$Programs"
  | _ => .object "SleepSteps$Run"
abbrev wsX60 : List Cond := u_ws RX6 TX6 2
theorem nmX6 : ∀ a, a < 2 → ∀ b, b < 2 → a ≠ b → (TX6 a).2.1 ≠ (TX6 b).2.1 := by decide +kernel
theorem tyX6_ok : ∀ k, k < 2 → parseFieldDescriptor (TX6 k).2.2.1 = some (tyX6 k) := by decide +kernel
abbrev cX6_init : ByteArray := prog_8_method_1_code
def yX6_init : MethodName := ⟨RX6, "<init>", "()V"⟩
abbrev cX6_copyFrom : ByteArray := prog_8_method_2_code
def yX6_copyFrom : MethodName := ⟨RX6, "copyFrom", "(LSleepSteps$State;)V"⟩
def RX7 : String := "SleepSteps"
def TX7 : u_T := fun k => match k with
  | 0 => ("SleepSteps", "pad", "LSleepSteps$Pad;", true)
  | 1 => ("SleepSteps", "now", "LSleepSteps$State;", true)
  | 2 => ("SleepSteps", "history", "LSleepSteps$History;", true)
  | 3 => ("SleepSteps", "saved", "[LSleepSteps$State;", true)
  | 4 => ("SleepSteps", "isSaved", "[Z", true)
  | 5 => ("SleepSteps", "draft", "LSleepSteps$Programs;", true)
  | 6 => ("SleepSteps", "space", "LSleepSteps$StandSpace;", true)
  | 7 => ("SleepSteps", "order", "LSleepSteps$RunOrder;", true)
  | 8 => ("SleepSteps", "padRun", "LSleepSteps$Run;", true)
  | 9 => ("SleepSteps", "leastRun", "LSleepSteps$Run;", true)
  | _ => ("SleepSteps", "otherLeastRun", "LSleepSteps$Run;", true)
def tyX7 : Nat → FieldType := fun k => match k with
  | 0 => .object "SleepSteps$Pad"
  | 1 => .object "SleepSteps$State"
  | 2 => .object "SleepSteps$History"
  | 3 => .array (.object "SleepSteps$State")
  | 4 => .array .boolean
  | 5 => .object "SleepSteps$Programs"
  | 6 => .object "SleepSteps$StandSpace"
  | 7 => .object "SleepSteps$RunOrder"
  | 8 => .object "SleepSteps$Run"
  | 9 => .object "SleepSteps$Run"
  | _ => .object "SleepSteps$Run"
abbrev wsX70 : List Cond := u_ws RX7 TX7 11
theorem nmX7 : ∀ a, a < 11 → ∀ b, b < 11 → a ≠ b → (TX7 a).2.1 ≠ (TX7 b).2.1 := by decide +kernel
theorem tyX7_ok : ∀ k, k < 11 → parseFieldDescriptor (TX7 k).2.2.1 = some (tyX7 k) := by decide +kernel
abbrev cX7_init : ByteArray := prog_1_method_1_code
def yX7_init : MethodName := ⟨RX7, "<init>", "()V"⟩
abbrev cX7_put : ByteArray := prog_1_method_2_code
def yX7_put : MethodName := ⟨RX7, "put", "(J)I"⟩
abbrev cX7_wipe : ByteArray := prog_1_method_3_code
def yX7_wipe : MethodName := ⟨RX7, "wipe", "()I"⟩
abbrev cX7_fault : ByteArray := prog_1_method_4_code
def yX7_fault : MethodName := ⟨RX7, "fault", "(I)I"⟩
abbrev cX7_program : ByteArray := prog_1_method_5_code
def yX7_program : MethodName := ⟨RX7, "program", "(I)I"⟩
abbrev cX7_exchange : ByteArray := prog_1_method_6_code
def yX7_exchange : MethodName := ⟨RX7, "exchange", "(II)I"⟩
abbrev cX7_keep : ByteArray := prog_1_method_7_code
def yX7_keep : MethodName := ⟨RX7, "keep", "()I"⟩
abbrev cX7_changeProgramsToDraft : ByteArray := prog_1_method_8_code
def yX7_changeProgramsToDraft : MethodName := ⟨RX7, "changeProgramsToDraft", "()V"⟩
abbrev cX7_ofStep : ByteArray := prog_1_method_9_code
def yX7_ofStep : MethodName := ⟨RX7, "ofStep", "(III)I"⟩
abbrev cX7_count : ByteArray := prog_1_method_10_code
def yX7_count : MethodName := ⟨RX7, "count", "(I)I"⟩
abbrev cX7_stands : ByteArray := prog_1_method_11_code
def yX7_stands : MethodName := ⟨RX7, "stands", "(I)I"⟩
abbrev cX7_deadlock : ByteArray := prog_1_method_12_code
def yX7_deadlock : MethodName := ⟨RX7, "deadlock", "(II)I"⟩
abbrev cX7_runs : ByteArray := prog_1_method_13_code
def yX7_runs : MethodName := ⟨RX7, "runs", "(I)J"⟩
abbrev cX7_sleeping : ByteArray := prog_1_method_14_code
def yX7_sleeping : MethodName := ⟨RX7, "sleeping", "(I)J"⟩
abbrev cX7_wayToDeadlock : ByteArray := prog_1_method_15_code
def yX7_wayToDeadlock : MethodName := ⟨RX7, "wayToDeadlock", "(I)I"⟩
abbrev cX7_without : ByteArray := prog_1_method_16_code
def yX7_without : MethodName := ⟨RX7, "without", "(I)I"⟩
abbrev cX7_least : ByteArray := prog_1_method_17_code
def yX7_least : MethodName := ⟨RX7, "least", "(I)I"⟩
abbrev cX7_alike : ByteArray := prog_1_method_18_code
def yX7_alike : MethodName := ⟨RX7, "alike", "()I"⟩
abbrev cX7_chain : ByteArray := prog_1_method_19_code
def yX7_chain : MethodName := ⟨RX7, "chain", "()I"⟩
abbrev cX7_lastWrite : ByteArray := prog_1_method_20_code
def yX7_lastWrite : MethodName := ⟨RX7, "lastWrite", "(II)I"⟩
abbrev cX7_alikeRuns : ByteArray := prog_1_method_21_code
def yX7_alikeRuns : MethodName := ⟨RX7, "alikeRuns", "()J"⟩
abbrev cX7_undo : ByteArray := prog_1_method_22_code
def yX7_undo : MethodName := ⟨RX7, "undo", "()I"⟩
abbrev cX7_save : ByteArray := prog_1_method_23_code
def yX7_save : MethodName := ⟨RX7, "save", "(I)I"⟩
abbrev cX7_restore : ByteArray := prog_1_method_24_code
def yX7_restore : MethodName := ⟨RX7, "restore", "(I)I"⟩
abbrev cX7_isThread : ByteArray := prog_1_method_25_code
def yX7_isThread : MethodName := ⟨RX7, "isThread", "(I)Z"⟩
abbrev cX7_isName : ByteArray := prog_1_method_26_code
def yX7_isName : MethodName := ⟨RX7, "isName", "(I)Z"⟩
abbrev cX7_isSlot : ByteArray := prog_1_method_27_code
def yX7_isSlot : MethodName := ⟨RX7, "isSlot", "(I)Z"⟩
abbrev cX7_setOf : ByteArray := prog_1_method_28_code
def yX7_setOf : MethodName := ⟨RX7, "setOf", "(I)I"⟩
abbrev cX7_isIn : ByteArray := prog_1_method_29_code
def yX7_isIn : MethodName := ⟨RX7, "isIn", "(II)Z"⟩
abbrev cX7_codeOf : ByteArray := prog_1_method_30_code
def yX7_codeOf : MethodName := ⟨RX7, "codeOf", "(II)I"⟩
abbrev cX7_kindOf : ByteArray := prog_1_method_31_code
def yX7_kindOf : MethodName := ⟨RX7, "kindOf", "(I)I"⟩
abbrev cX7_nameOf : ByteArray := prog_1_method_32_code
def yX7_nameOf : MethodName := ⟨RX7, "nameOf", "(I)I"⟩
abbrev cX7_commute : ByteArray := prog_1_method_33_code
def yX7_commute : MethodName := ⟨RX7, "commute", "(II)Z"⟩
abbrev cX7_doneBy : ByteArray := prog_1_method_34_code
def yX7_doneBy : MethodName := ⟨RX7, "doneBy", "(II)I"⟩
abbrev cX7_standAfter : ByteArray := prog_1_method_35_code
def yX7_standAfter : MethodName := ⟨RX7, "standAfter", "(II)I"⟩
abbrev cX7_stepsDone : ByteArray := prog_1_method_36_code
def yX7_stepsDone : MethodName := ⟨RX7, "stepsDone", "(I)I"⟩
def RX8 : String := "SleepStepsModel"
def TX8 : u_T := fun k => match k with
  | 0 => ("SleepStepsModel", "now", "[I", true)
  | 1 => ("SleepStepsModel", "past", "[I", true)
  | 2 => ("SleepStepsModel", "pasts", "I", false)
  | 3 => ("SleepStepsModel", "slots", "[I", true)
  | 4 => ("SleepStepsModel", "saved", "I", false)
  | 5 => ("SleepStepsModel", "trial", "[I", true)
  | 6 => ("SleepStepsModel", "pad", "[I", true)
  | 7 => ("SleepStepsModel", "typed", "I", false)
  | 8 => ("SleepStepsModel", "held", "[I", true)
  | 9 => ("SleepStepsModel", "ways", "[J", true)
  | 10 => ("SleepStepsModel", "times", "[J", true)
  | 11 => ("SleepStepsModel", "timesNext", "[J", true)
  | 12 => ("SleepStepsModel", "endings", "J", false)
  | 13 => ("SleepStepsModel", "cuts", "J", false)
  | 14 => ("SleepStepsModel", "ended", "I", false)
  | 15 => ("SleepStepsModel", "leads", "[Z", true)
  | 16 => ("SleepStepsModel", "run", "[I", true)
  | 17 => ("SleepStepsModel", "which", "[I", true)
  | 18 => ("SleepStepsModel", "runMany", "I", false)
  | 19 => ("SleepStepsModel", "row", "[I", true)
  | 20 => ("SleepStepsModel", "taken", "[Z", true)
  | _ => ("SleepStepsModel", "other", "[I", true)
def tyX8 : Nat → FieldType := fun k => match k with
  | 0 => .array .int
  | 1 => .array .int
  | 2 => .int
  | 3 => .array .int
  | 4 => .int
  | 5 => .array .int
  | 6 => .array .int
  | 7 => .int
  | 8 => .array .int
  | 9 => .array .long
  | 10 => .array .long
  | 11 => .array .long
  | 12 => .long
  | 13 => .long
  | 14 => .int
  | 15 => .array .boolean
  | 16 => .array .int
  | 17 => .array .int
  | 18 => .int
  | 19 => .array .int
  | 20 => .array .boolean
  | _ => .array .int
abbrev wsX80 : List Cond := u_ws RX8 TX8 22
theorem nmX8 : ∀ a, a < 22 → ∀ b, b < 22 → a ≠ b → (TX8 a).2.1 ≠ (TX8 b).2.1 := by decide +kernel
theorem tyX8_ok : ∀ k, k < 22 → parseFieldDescriptor (TX8 k).2.2.1 = some (tyX8 k) := by decide +kernel
abbrev cX8_init : ByteArray := prog_10_method_1_code
def yX8_init : MethodName := ⟨RX8, "<init>", "()V"⟩
abbrev cX8_in : ByteArray := prog_10_method_2_code
def yX8_in : MethodName := ⟨RX8, "in", "(III)Z"⟩
abbrev cX8_copies : ByteArray := prog_10_method_3_code
def yX8_copies : MethodName := ⟨RX8, "copies", "([II[II)V"⟩
abbrev cX8_records : ByteArray := prog_10_method_4_code
def yX8_records : MethodName := ⟨RX8, "records", "([I)V"⟩
abbrev cX8_isThread : ByteArray := prog_10_method_5_code
def yX8_isThread : MethodName := ⟨RX8, "isThread", "(I)Z"⟩
abbrev cX8_step : ByteArray := prog_10_method_6_code
def yX8_step : MethodName := ⟨RX8, "step", "(II)I"⟩
abbrev cX8_stepsAll : ByteArray := prog_10_method_7_code
def yX8_stepsAll : MethodName := ⟨RX8, "stepsAll", "()I"⟩
abbrev cX8_commute : ByteArray := prog_10_method_8_code
def yX8_commute : MethodName := ⟨RX8, "commute", "(II)Z"⟩
abbrev cX8_put : ByteArray := prog_10_method_9_code
def yX8_put : MethodName := ⟨RX8, "put", "(J)I"⟩
abbrev cX8_wipe : ByteArray := prog_10_method_10_code
def yX8_wipe : MethodName := ⟨RX8, "wipe", "()I"⟩
abbrev cX8_kindOf : ByteArray := prog_10_method_11_code
def yX8_kindOf : MethodName := ⟨RX8, "kindOf", "(I)I"⟩
abbrev cX8_faultOf : ByteArray := prog_10_method_12_code
def yX8_faultOf : MethodName := ⟨RX8, "faultOf", "(I)I"⟩
abbrev cX8_fault : ByteArray := prog_10_method_13_code
def yX8_fault : MethodName := ⟨RX8, "fault", "(I)I"⟩
abbrev cX8_isWell : ByteArray := prog_10_method_14_code
def yX8_isWell : MethodName := ⟨RX8, "isWell", "(I)Z"⟩
abbrev cX8_program : ByteArray := prog_10_method_15_code
def yX8_program : MethodName := ⟨RX8, "program", "(I)I"⟩
abbrev cX8_exchange : ByteArray := prog_10_method_16_code
def yX8_exchange : MethodName := ⟨RX8, "exchange", "(II)I"⟩
abbrev cX8_figure : ByteArray := prog_10_method_17_code
def yX8_figure : MethodName := ⟨RX8, "figure", "(I)I"⟩
abbrev cX8_done : ByteArray := prog_10_method_18_code
def yX8_done : MethodName := ⟨RX8, "done", "(II)I"⟩
abbrev cX8_laysHeld : ByteArray := prog_10_method_19_code
def yX8_laysHeld : MethodName := ⟨RX8, "laysHeld", "()V"⟩
abbrev cX8_heldBut : ByteArray := prog_10_method_20_code
def yX8_heldBut : MethodName := ⟨RX8, "heldBut", "(II)I"⟩
abbrev cX8_hasNext : ByteArray := prog_10_method_21_code
def yX8_hasNext : MethodName := ⟨RX8, "hasNext", "(II)Z"⟩
abbrev cX8_canGo : ByteArray := prog_10_method_22_code
def yX8_canGo : MethodName := ⟨RX8, "canGo", "(II)Z"⟩
abbrev cX8_isEnd : ByteArray := prog_10_method_23_code
def yX8_isEnd : MethodName := ⟨RX8, "isEnd", "(I)Z"⟩
abbrev cX8_isDeadlock : ByteArray := prog_10_method_24_code
def yX8_isDeadlock : MethodName := ⟨RX8, "isDeadlock", "(I)Z"⟩
abbrev cX8_laysWays : ByteArray := prog_10_method_25_code
def yX8_laysWays : MethodName := ⟨RX8, "laysWays", "()V"⟩
abbrev cX8_length : ByteArray := prog_10_method_26_code
def yX8_length : MethodName := ⟨RX8, "length", "(I)I"⟩
abbrev cX8_deadlocks : ByteArray := prog_10_method_27_code
def yX8_deadlocks : MethodName := ⟨RX8, "deadlocks", "()I"⟩
abbrev cX8_stands : ByteArray := prog_10_method_28_code
def yX8_stands : MethodName := ⟨RX8, "stands", "(I)I"⟩
abbrev cX8_toldOf : ByteArray := prog_10_method_29_code
def yX8_toldOf : MethodName := ⟨RX8, "toldOf", "(II)I"⟩
abbrev cX8_deadlock : ByteArray := prog_10_method_30_code
def yX8_deadlock : MethodName := ⟨RX8, "deadlock", "(II)I"⟩
abbrev cX8_runs : ByteArray := prog_10_method_31_code
def yX8_runs : MethodName := ⟨RX8, "runs", "(I)J"⟩
abbrev cX8_asleep : ByteArray := prog_10_method_32_code
def yX8_asleep : MethodName := ⟨RX8, "asleep", "(III)I"⟩
abbrev cX8_explores : ByteArray := prog_10_method_33_code
def yX8_explores : MethodName := ⟨RX8, "explores", "(III)V"⟩
abbrev cX8_sleeps : ByteArray := prog_10_method_34_code
def yX8_sleeps : MethodName := ⟨RX8, "sleeps", "()V"⟩
abbrev cX8_sleeping : ByteArray := prog_10_method_35_code
def yX8_sleeping : MethodName := ⟨RX8, "sleeping", "(I)J"⟩
abbrev cX8_nearest : ByteArray := prog_10_method_36_code
def yX8_nearest : MethodName := ⟨RX8, "nearest", "()I"⟩
abbrev cX8_wayToDeadlock : ByteArray := prog_10_method_37_code
def yX8_wayToDeadlock : MethodName := ⟨RX8, "wayToDeadlock", "(I)I"⟩
abbrev cX8_without : ByteArray := prog_10_method_38_code
def yX8_without : MethodName := ⟨RX8, "without", "(I)I"⟩
abbrev cX8_goesAll : ByteArray := prog_10_method_39_code
def yX8_goesAll : MethodName := ⟨RX8, "goesAll", "()Z"⟩
abbrev cX8_takesPad : ByteArray := prog_10_method_40_code
def yX8_takesPad : MethodName := ⟨RX8, "takesPad", "()Z"⟩
abbrev cX8_takesKept : ByteArray := prog_10_method_41_code
def yX8_takesKept : MethodName := ⟨RX8, "takesKept", "()V"⟩
abbrev cX8_isTied : ByteArray := prog_10_method_42_code
def yX8_isTied : MethodName := ⟨RX8, "isTied", "(II)Z"⟩
abbrev cX8_isFree : ByteArray := prog_10_method_43_code
def yX8_isFree : MethodName := ⟨RX8, "isFree", "(I)Z"⟩
abbrev cX8_laysLeast : ByteArray := prog_10_method_44_code
def yX8_laysLeast : MethodName := ⟨RX8, "laysLeast", "()V"⟩
abbrev cX8_keep : ByteArray := prog_10_method_45_code
def yX8_keep : MethodName := ⟨RX8, "keep", "()I"⟩
abbrev cX8_least : ByteArray := prog_10_method_46_code
def yX8_least : MethodName := ⟨RX8, "least", "(I)I"⟩
abbrev cX8_alike : ByteArray := prog_10_method_47_code
def yX8_alike : MethodName := ⟨RX8, "alike", "()I"⟩
abbrev cX8_chain : ByteArray := prog_10_method_48_code
def yX8_chain : MethodName := ⟨RX8, "chain", "()I"⟩
abbrev cX8_lastWrite : ByteArray := prog_10_method_49_code
def yX8_lastWrite : MethodName := ⟨RX8, "lastWrite", "(II)I"⟩
abbrev cX8_comesNext : ByteArray := prog_10_method_50_code
def yX8_comesNext : MethodName := ⟨RX8, "comesNext", "(II)Z"⟩
abbrev cX8_alikeRuns : ByteArray := prog_10_method_51_code
def yX8_alikeRuns : MethodName := ⟨RX8, "alikeRuns", "()J"⟩
abbrev cX8_notWith : ByteArray := prog_10_method_52_code
def yX8_notWith : MethodName := ⟨RX8, "notWith", "(II)I"⟩
abbrev cX8_ofStep : ByteArray := prog_10_method_53_code
def yX8_ofStep : MethodName := ⟨RX8, "ofStep", "(III)I"⟩
abbrev cX8_count : ByteArray := prog_10_method_54_code
def yX8_count : MethodName := ⟨RX8, "count", "(I)I"⟩
abbrev cX8_undo : ByteArray := prog_10_method_55_code
def yX8_undo : MethodName := ⟨RX8, "undo", "()I"⟩
abbrev cX8_save : ByteArray := prog_10_method_56_code
def yX8_save : MethodName := ⟨RX8, "save", "(I)I"⟩
abbrev cX8_restore : ByteArray := prog_10_method_57_code
def yX8_restore : MethodName := ⟨RX8, "restore", "(I)I"⟩
def RJ9 : String := "java/lang/Math"
def TJ9 : u_T := fun k => match k with
  | _ => ("", "", "", false)
def tyJ9 : Nat → FieldType := fun k => match k with
  | _ => .int
abbrev wsJ90 : List Cond := u_ws RJ9 TJ9 0
theorem nmJ9 : ∀ a, a < 0 → ∀ b, b < 0 → a ≠ b → (TJ9 a).2.1 ≠ (TJ9 b).2.1 := by decide +kernel
theorem tyJ9_ok : ∀ k, k < 0 → parseFieldDescriptor (TJ9 k).2.2.1 = some (tyJ9 k) := by decide +kernel
abbrev cJ9_max_7cf53 : ByteArray := prog_11_method_65_code
def yJ9_max_7cf53 : MethodName := ⟨RJ9, "max", "(II)I"⟩
def RJ10 : String := "java/lang/System"
def TJ10 : u_T := fun k => match k with
  | _ => ("", "", "", false)
def tyJ10 : Nat → FieldType := fun k => match k with
  | _ => .int
abbrev wsJ100 : List Cond := u_ws RJ10 TJ10 0
theorem nmJ10 : ∀ a, a < 0 → ∀ b, b < 0 → a ≠ b → (TJ10 a).2.1 ≠ (TJ10 b).2.1 := by decide +kernel
theorem tyJ10_ok : ∀ k, k < 0 → parseFieldDescriptor (TJ10 k).2.2.1 = some (tyJ10 k) := by decide +kernel
def RJ7 : String := "java/util/Arrays"
def TJ7 : u_T := fun k => match k with
  | _ => ("", "", "", false)
def tyJ7 : Nat → FieldType := fun k => match k with
  | _ => .int
abbrev wsJ70 : List Cond := u_ws RJ7 TJ7 0
theorem nmJ7 : ∀ a, a < 0 → ∀ b, b < 0 → a ≠ b → (TJ7 a).2.1 ≠ (TJ7 b).2.1 := by decide +kernel
theorem tyJ7_ok : ∀ k, k < 0 → parseFieldDescriptor (TJ7 k).2.2.1 = some (tyJ7 k) := by decide +kernel
abbrev cJ7_fill_d0a16 : ByteArray := prog_13_method_101_code
def yJ7_fill_d0a16 : MethodName := ⟨RJ7, "fill", "([JJ)V"⟩
abbrev cJ7_fill_53178 : ByteArray := prog_13_method_103_code
def yJ7_fill_53178 : MethodName := ⟨RJ7, "fill", "([II)V"⟩
def RL : String := "SleepStepsLaw"
abbrev cL_law : ByteArray := code
def yL_law : MethodName := ⟨RL, "law", "([I)Z"⟩
abbrev vwCl : List vw_C := [(RX0, TX0, 3), (RX1, TX1, 2), (RX2, TX2, 2), (RX3, TX3, 2), (RX4, TX4, 6), (RX5, TX5, 12), (RX6, TX6, 2), (RX7, TX7, 11), (RX8, TX8, 22)]
end
section
/-! THE EXECUTOR: methods as data, run over a world whose cells have fixed places (tag, number). Nothing here speaks of the machine. -/
abbrev ZV : Type := Int32 ⊕ (Int64 ⊕ (Nat × Nat))
abbrev Wd : Type := (Nat → Nat → Nat → Int32) × (Nat → Nat → Nat → Int64)
abbrev Lo : Type := List (Option ZV)
abbrev zi (x : Int32) : ZV := Sum.inl x
abbrev zl (x : Int64) : ZV := Sum.inr (Sum.inl x)
abbrev zr (t i : Nat) : ZV := Sum.inr (Sum.inr (t, i))
def zget : Lo → Nat → Option ZV
  | [], _ => none
  | a :: _, 0 => a
  | _ :: l, n + 1 => zget l n
def zset : Lo → Nat → Option ZV → Lo
  | [], _, _ => []
  | _ :: l, 0, v => v :: l
  | a :: l, n + 1, v => a :: zset l n v
def zkill (lo : Lo) : Nat → Lo
  | 0 => lo
  | j + 1 => match zget lo j with
    | some (Sum.inr (Sum.inl _)) => zset lo j none
    | _ => lo
def zst1 (lo : Lo) (i : Nat) (v : ZV) : Lo := zset (zkill lo i) i (some v)
def zst2 (lo : Lo) (i : Nat) (v : ZV) : Lo := zset (zset (zkill lo i) i (some v)) (i + 1) none
def zmask : List Bool → Lo → Lo
  | [], _ => []
  | _, [] => []
  | b :: bs, v :: l => (bif b then v else none) :: zmask bs l
def wI (w : Wd) (t i j : Nat) (x : Int32) : Wd := (fun a b c => if a = t ∧ b = i ∧ c = j then x else w.1 a b c, w.2)
def wL (w : Wd) (t i j : Nat) (x : Int64) : Wd := (w.1, fun a b c => if a = t ∧ b = i ∧ c = j then x else w.2 a b c)
/-- a run of ints of one row into another -/
def wC (w : Wd) (t0 i0 sp t1 i1 dp n : Nat) : Wd := (fun a b c => if a = t1 ∧ b = i1 ∧ dp ≤ c ∧ c < dp + n then w.1 t0 i0 (sp + (c - dp)) else w.1 a b c, w.2)
def zop {α : Type} : List (Nat × α) → Nat → Option α
  | [], _ => none
  | p :: r, k => bif Nat.beq p.1 k then some p.2 else zop r k
def zn {α : Type} : List α → Nat → Option α
  | [], _ => none
  | a :: _, 0 => some a
  | _ :: l, n + 1 => zn l n
/-- how many cells of a tag -/
def zC : List (Nat × Nat) := [(0, 1), (1, 1), (2, 11), (3, 13), (4, 1), (5, 1), (6, 9), (7, 1), (8, 1), (10, 1), (11, 11), (12, 11), (13, 13), (14, 2), (15, 1), (16, 1), (17, 3), (18, 1), (19, 1), (20, 1), (21, 1), (22, 1), (30, 4), (31, 1), (32, 1), (33, 1), (34, 1), (35, 1), (36, 1), (37, 1), (38, 1), (39, 1), (40, 1), (41, 1), (50, 1)]
def zcnt (t : Nat) : Nat := match zop zC t with
  | some n => n
  | none => 0
/-- the rows: kind (1 int, 2 boolean, 3 long, 4 State, 5 the script), length -/
def zR : List (Nat × (Nat × (Nat → Wd → Nat))) := [(10, 1, fun _ _ => 40), (11, 1, fun _ _ => 24), (12, 1, fun _ _ => 4), (13, 1, fun _ _ => 24), (14, 1, fun i _ => if i = 0 then 4 else 4096), (15, 1, fun _ _ => 96), (16, 1, fun _ _ => 24), (17, 3, fun i _ => if i = 2 then 65536 else 4096), (18, 1, fun _ _ => 32), (19, 2, fun _ _ => 4096), (20, 4, fun _ _ => 6), (21, 4, fun _ _ => 2), (22, 2, fun _ _ => 2), (30, 1, fun i _ => if i = 1 then 318 else if i = 2 then 106 else 53), (31, 1, fun _ _ => 40), (32, 1, fun _ _ => 28), (33, 3, fun _ _ => 2401), (34, 3, fun _ _ => 5488), (35, 3, fun _ _ => 5488), (36, 2, fun _ _ => 2401), (37, 1, fun _ _ => 24), (38, 1, fun _ _ => 24), (39, 1, fun _ _ => 24), (40, 2, fun _ _ => 24), (41, 1, fun _ _ => 24), (50, 5, fun _ w => (w.1 51 0 0).toNatClampNeg)]
def zkd (t : Nat) : Nat := match zop zR t with
  | some q => q.1
  | none => 0
def zlen (t i : Nat) (w : Wd) : Nat := match zop zR t with
  | some q => q.2 i w
  | none => 0
/-- fields: 0 int, 1 boolean, 2 long, 3 a cell of a fixed number, 4 a cell of the same number -/
def zF : List (Nat × List (Nat × Nat × Nat)) := [
  (0, [(3, 20, 0), (0, 0, 0), (0, 0, 0)]),
  (1, [(3, 10, 0), (0, 0, 0)]),
  (2, [(4, 11, 0), (4, 12, 0)]),
  (3, [(4, 13, 0), (0, 0, 0)]),
  (4, [(3, 14, 0), (3, 15, 0), (3, 16, 0), (0, 0, 0), (0, 0, 0), (3, 17, 0)]),
  (5, [(3, 2, 10), (1, 0, 0), (3, 18, 0), (3, 14, 1), (3, 17, 1), (1, 0, 0), (3, 17, 2), (2, 0, 0), (2, 0, 0), (0, 0, 0), (3, 19, 0), (3, 3, 12)]),
  (6, [(4, 2, 0), (4, 3, 0)]),
  (7, [(3, 1, 0), (3, 6, 0), (3, 0, 0), (3, 21, 0), (3, 22, 0), (3, 2, 9), (3, 5, 0), (3, 4, 0), (3, 3, 9), (3, 3, 10), (3, 3, 11)]),
  (8, [(3, 30, 0), (3, 30, 1), (0, 0, 0), (3, 30, 2), (0, 0, 0), (3, 30, 3), (3, 31, 0), (0, 0, 0), (3, 32, 0), (3, 33, 0), (3, 34, 0), (3, 35, 0), (2, 0, 0), (2, 0, 0), (0, 0, 0), (3, 36, 0), (3, 37, 0), (3, 38, 0), (0, 0, 0), (3, 39, 0), (3, 40, 0), (3, 41, 0)])]
def zfs (t : Nat) : List (Nat × Nat × Nat) := match zop zF t with
  | some l => l
  | none => []
def zval (q : Nat × Nat × Nat) (t i k : Nat) (w : Wd) : ZV :=
  bif Nat.beq q.1 3 then zr q.2.1 q.2.2 else bif Nat.beq q.1 4 then zr q.2.1 i else bif Nat.beq q.1 2 then zl (w.2 t i k) else zi (w.1 t i k)
def zvals (t i : Nat) (w : Wd) : Nat → List (Nat × Nat × Nat) → List ZV
  | _, [] => []
  | k, q :: r => zval q t i k w :: zvals t i w (k + 1) r
section EX
variable {ρ : Type}
abbrev ZJ (ρ : Type) : Type := Nat → List ZV → Lo → Wd → Option ρ
abbrev ZCall (ρ : Type) : Type := List ZV → Wd → (Option ZV → Wd → Option ρ) → Option ρ
abbrev ZRow : Type := Instr × Nat × Nat × List (Int × Nat)
def pI (st : List ZV) (f : Int32 → List ZV → Option ρ) : Option ρ := match st with
  | Sum.inl x :: r => f x r
  | _ => none
def pL (st : List ZV) (f : Int64 → List ZV → Option ρ) : Option ρ := match st with
  | Sum.inr (Sum.inl x) :: r => f x r
  | _ => none
def pR (st : List ZV) (f : Nat → Nat → List ZV → Option ρ) : Option ρ := match st with
  | Sum.inr (Sum.inr q) :: r => f q.1 q.2 r
  | _ => none
def pE (st : List ZV) (f : Option ρ) : Option ρ := match st with
  | [] => f
  | _ => none
def gI (lo : Lo) (k : Nat) (f : Int32 → Option ρ) : Option ρ := match zget lo k with
  | some (Sum.inl x) => f x
  | _ => none
def gL (lo : Lo) (k : Nat) (f : Int64 → Option ρ) : Option ρ := match zget lo k with
  | some (Sum.inr (Sum.inl x)) => f x
  | _ => none
def gR (lo : Lo) (k : Nat) (f : Nat → Nat → Option ρ) : Option ρ := match zget lo k with
  | some (Sum.inr (Sum.inr q)) => f q.1 q.2
  | _ => none
def oB {α : Type} (o : Option α) (f : α → Option ρ) : Option ρ := match o with
  | some a => f a
  | none => none
def zif (b : Bool) (f : Option ρ) : Option ρ := match b with
  | true => f
  | false => none
/-- the index is in range -/
def chk (x : Int32) (n : Nat) (f : Option ρ) : Option ρ := if x < 0 ∨ n ≤ x.toNatClampNeg then none else f
/-- 0 or 1 -/
def zb (x : Int32) (f : Option ρ) : Option ρ := if x = 0 ∨ x = 1 then f else none
def zsw (x : Int32) (d : Option ρ) (J : Nat → Option ρ) : List (Int × Nat) → Option ρ
  | [] => d
  | p :: r => if x = Int32.ofInt p.1 then J p.2 else zsw x d J r
def zcat : List ZV → Nat
  | [] => 0
  | Sum.inr (Sum.inl _) :: r => 2 + zcat r
  | _ :: r => 1 + zcat r
def zpop : Nat → List ZV → List ZV → (List ZV → List ZV → Option ρ) → Option ρ
  | 0, st, acc, f => f acc st
  | n + 1, v :: st, acc, f => zpop n st (v :: acc) f
  | _ + 1, [], _, _ => none
def zic (c : Jvm.ClassFile.Cond) (x y : Int32) (a b : Option ρ) : Option ρ := match c with
  | .eq => if x = y then a else b
  | .ne => if x = y then b else a
  | .lt => if x < y then a else b
  | .ge => if y ≤ x then a else b
  | .gt => if y < x then a else b
  | .le => if x ≤ y then a else b
def zif0 (c : Jvm.ClassFile.Cond) (x : Int32) (a b : Option ρ) : Option ρ := match c with
  | .eq => if x = 0 then a else b
  | .ne => if x = 0 then b else a
  | .lt => if x < 0 then a else b
  | .ge => if 0 ≤ x then a else b
  | .gt => if 0 < x then a else b
  | .le => if x ≤ 0 then a else b
def zinv (cM : List (Nat × Nat × ZCall ρ)) (k : Nat) (st : List ZV) (lo : Lo) (w : Wd) (K : List ZV → Lo → Wd → Option ρ) : Option ρ :=
  oB (zop cM k) fun e => zpop e.1 st [] fun as r => zif (Nat.ble (zcat r) 8) (e.2 as w fun v w' => K (v.toList ++ r) lo w')
def zgf (cF : List (Nat × Nat × Nat)) (k : Nat) (st : List ZV) (lo : Lo) (w : Wd) (K : List ZV → Lo → Wd → Option ρ) : Option ρ :=
  pR st fun t i r => oB (zop cF k) fun e => zif (Nat.beq t e.1) (oB (zn (zfs t) e.2) fun q => K (zval q t i e.2 w :: r) lo w)
def zpf (cF : List (Nat × Nat × Nat)) (k : Nat) (st : List ZV) (lo : Lo) (w : Wd) (K : List ZV → Lo → Wd → Option ρ) : Option ρ := match st with
  | Sum.inl x :: r => pR r fun t i r => oB (zop cF k) fun e => zif (Nat.beq t e.1) (oB (zn (zfs t) e.2) fun q => match q.1 with
    | 0 => K r lo (wI w t i e.2 x)
    | 1 => zb x (K r lo (wI w t i e.2 x))
    | _ => none)
  | Sum.inr (Sum.inl x) :: r => pR r fun t i r => oB (zop cF k) fun e => zif (Nat.beq t e.1) (oB (zn (zfs t) e.2) fun q => match q.1 with
    | 2 => K r lo (wL w t i e.2 x)
    | _ => none)
  | _ => none
def zdup (st : List ZV) (K : List ZV → Option ρ) : Option ρ := match st with
  | Sum.inl x :: r => K (zi x :: zi x :: r)
  | Sum.inr (Sum.inr q) :: r => K (zr q.1 q.2 :: zr q.1 q.2 :: r)
  | _ => none
def zstp (cF : List (Nat × Nat × Nat)) (cL : List (Nat × Int64)) (cM : List (Nat × Nat × ZCall ρ)) (ret : Option ZV → Wd → Option ρ) (i : Instr) (tgt : Nat) (sw : List (Int × Nat)) (st : List ZV) (lo : Lo) (w : Wd) (K : List ZV → Lo → Wd → Option ρ) (J : ZJ ρ) : Option ρ := match i with
  | .iconst n => K (zi (Int32.ofInt n) :: st) lo w
  | .bipush n => K (zi (Int32.ofInt n) :: st) lo w
  | .sipush n => K (zi (Int32.ofInt n) :: st) lo w
  | .lconst n => K (zl (Int64.ofInt (n.val : Nat)) :: st) lo w
  | .ldc2_w k => oB (zop cL k) fun v => K (zl v :: st) lo w
  | .iload k => gI lo k fun x => K (zi x :: st) lo w
  | .iload_n k => gI lo k.val fun x => K (zi x :: st) lo w
  | .lload k => gL lo k fun x => K (zl x :: st) lo w
  | .lload_n k => gL lo k.val fun x => K (zl x :: st) lo w
  | .aload k => gR lo k fun t i => K (zr t i :: st) lo w
  | .aload_n k => gR lo k.val fun t i => K (zr t i :: st) lo w
  | .istore k => pI st fun x r => K r (zst1 lo k (zi x)) w
  | .istore_n k => pI st fun x r => K r (zst1 lo k.val (zi x)) w
  | .lstore k => pL st fun x r => K r (zst2 lo k (zl x)) w
  | .lstore_n k => pL st fun x r => K r (zst2 lo k.val (zl x)) w
  | .astore k => pR st fun t i r => K r (zst1 lo k (zr t i)) w
  | .astore_n k => pR st fun t i r => K r (zst1 lo k.val (zr t i)) w
  | .iinc k n => gI lo k fun x => K st (zst1 lo k (zi (x + Int32.ofInt n))) w
  | .iadd => pI st fun y r => pI r fun x r => K (zi (x + y) :: r) lo w
  | .isub => pI st fun y r => pI r fun x r => K (zi (x - y) :: r) lo w
  | .imul => pI st fun y r => pI r fun x r => K (zi (x * y) :: r) lo w
  | .iand => pI st fun y r => pI r fun x r => K (zi (x &&& y) :: r) lo w
  | .ior => pI st fun y r => pI r fun x r => K (zi (x ||| y) :: r) lo w
  | .ixor => pI st fun y r => pI r fun x r => K (zi (x ^^^ y) :: r) lo w
  | .idiv => pI st fun y r => pI r fun x r => if y = 0 then none else K (zi (x / y) :: r) lo w
  | .irem => pI st fun y r => pI r fun x r => if y = 0 then none else K (zi (x - x / y * y) :: r) lo w
  | .ishl => pI st fun y r => pI r fun x r => K (zi (x <<< (y &&& 31)) :: r) lo w
  | .ishr => pI st fun y r => pI r fun x r => K (zi (x >>> (y &&& 31)) :: r) lo w
  | .ladd => pL st fun y r => pL r fun x r => K (zl (x + y) :: r) lo w
  | .land => pL st fun y r => pL r fun x r => K (zl (x &&& y) :: r) lo w
  | .lor => pL st fun y r => pL r fun x r => K (zl (x ||| y) :: r) lo w
  | .lushr => pI st fun y r => pL r fun x r => K (zl (x.toUInt64 >>> (y.toInt64.toUInt64 &&& Int64.toUInt64 63)).toInt64 :: r) lo w
  | .lshl => pI st fun y r => pL r fun x r => K (zl (x <<< (y.toInt64 &&& 63)) :: r) lo w
  | .lcmp => pL st fun y r => pL r fun x r => K (zi (lg_cmp x y) :: r) lo w
  | .i2l => pI st fun x r => K (zl x.toInt64 :: r) lo w
  | .l2i => pL st fun x r => K (zi x.toInt32 :: r) lo w
  | .dup => zdup st fun r => K r lo w
  | .dup2 => pI st fun x r => pR r fun t i r => K (zi x :: zr t i :: zi x :: zr t i :: r) lo w
  | .goto _ => J tgt st lo w
  | .ifCond c _ => pI st fun x r => zif0 c x (J tgt r lo w) (K r lo w)
  | .if_icmp c _ => pI st fun y r => pI r fun x r => zic c x y (J tgt r lo w) (K r lo w)
  | .tableswitch _ _ _ _ => pI st fun x r => zsw x (J tgt r lo w) (fun t => J t r lo w) sw
  | .lookupswitch _ _ => pI st fun x r => zsw x (J tgt r lo w) (fun t => J t r lo w) sw
  | .getfield k => zgf cF k st lo w K
  | .putfield k => zpf cF k st lo w K
  | .iaload => pI st fun x r => pR r fun t i r => zif (Nat.beq (zkd t) 1 || Nat.beq (zkd t) 5) (chk x (zlen t i w) (K (zi (w.1 t i x.toNatClampNeg) :: r) lo w))
  | .baload => pI st fun x r => pR r fun t i r => zif (Nat.beq (zkd t) 2) (chk x (zlen t i w) (K (zi (w.1 t i x.toNatClampNeg) :: r) lo w))
  | .laload => pI st fun x r => pR r fun t i r => zif (Nat.beq (zkd t) 3) (chk x (zlen t i w) (K (zl (w.2 t i x.toNatClampNeg) :: r) lo w))
  | .aaload => pI st fun x r => pR r fun t i r => zif (Nat.beq t 20) (chk x 6 (K (zr 6 (1 + x.toNatClampNeg) :: r) lo w))
  | .iastore => pI st fun x r => pI r fun j r => pR r fun t i r => zif (Nat.beq (zkd t) 1) (chk j (zlen t i w) (K r lo (wI w t i j.toNatClampNeg x)))
  | .bastore => pI st fun x r => pI r fun j r => pR r fun t i r => zif (Nat.beq (zkd t) 2) (chk j (zlen t i w) (zb x (K r lo (wI w t i j.toNatClampNeg x))))
  | .lastore => pL st fun x r => pI r fun j r => pR r fun t i r => zif (Nat.beq (zkd t) 3) (chk j (zlen t i w) (K r lo (wL w t i j.toNatClampNeg x)))
  | .arraylength => pR st fun t i r => zif (Nat.beq (zkd t) 1 || Nat.beq (zkd t) 3 || Nat.beq (zkd t) 5) (K (zi (Int32.ofNat (zlen t i w)) :: r) lo w)
  | .invokevirtual k => zinv cM k st lo w K
  | .invokestatic k => zinv cM k st lo w K
  | .ireturn => pI st fun x r => pE r (ret (some (zi x)) w)
  | .lreturn => pL st fun x r => pE r (ret (some (zl x)) w)
  | .areturn => pR st fun t i r => pE r (ret (some (zr t i)) w)
  | .return_ => pE st (ret none w)
  | _ => none
def zrun (cF : List (Nat × Nat × Nat)) (cL : List (Nat × Int64)) (cM : List (Nat × Nat × ZCall ρ)) (ret : Option ZV → Wd → Option ρ) (J : ZJ ρ) : List ZRow → Nat → List ZV → Lo → Wd → Option ρ
  | [], pc, st, lo, w => J pc st lo w
  | r :: rs, pc, st, lo, w => zstp cF cL cM ret r.1 r.2.2.1 r.2.2.2 st lo w (fun st lo w => zrun cF cL cM ret J rs (pc + r.2.1) st lo w) J
abbrev ZBl : Type := List (Nat × Option (List Bool) × List ZRow)
def zex (cF : List (Nat × Nat × Nat)) (cL : List (Nat × Int64)) (bl : ZBl) (cM : List (Nat × Nat × ZCall ρ)) (ret : Option ZV → Wd → Option ρ) (J : ZJ ρ) : Nat → ZJ ρ
  | 0, _, _, _, _ => none
  | k + 1, pc, st, lo, w => oB (zop bl pc) fun b => zrun cF cL cM ret (fun pc st lo w => oB (zop bl pc) fun b => match b.1 with
    | some ms => J pc st (zmask ms lo) w
    | none => zex cF cL bl cM ret J k pc st lo w) b.2 pc st lo w
def zeN (cF : List (Nat × Nat × Nat)) (cL : List (Nat × Int64)) (bl : ZBl) (cM : List (Nat × Nat × ZCall ρ)) (ret : Option ZV → Wd → Option ρ) : Nat → ZJ ρ
  | 0, _, _, _, _ => none
  | n + 1, pc, st, lo, w => zex cF cL bl cM ret (zeN cF cL bl cM ret n) 60 pc st lo w
noncomputable def zev (cF : List (Nat × Nat × Nat)) (cL : List (Nat × Int64)) (bl : ZBl) (cM : List (Nat × Nat × ZCall ρ)) (ret : Option ZV → Wd → Option ρ) : ZJ ρ := fun pc st lo w =>
  @dite _ (∃ (X : ρ) (n : Nat), zeN cF cL bl cM ret n pc st lo w = some X) (Classical.propDecidable _) (fun h => some (Classical.choose h)) (fun _ => none)
/-! an answer comes from one jump, or from none -/
def Lf (F : ZJ ρ → Option ρ) : Prop := ∀ (J : ZJ ρ) (X : ρ), F J = some X → (∀ J', F J' = some X) ∨ ∃ pc st lo w, J pc st lo w = some X ∧ ∀ J', J' pc st lo w = some X → F J' = some X
def LfC (F : ZCall ρ) : Prop := ∀ as w K X, F as w K = some X → ∃ v w', K v w' = some X ∧ ∀ K', K' v w' = some X → F as w K' = some X
theorem lf_k (o : Option ρ) : Lf (fun _ => o) := fun _ _ h => Or.inl fun _ => h
theorem lf_j (pc : Nat) (st : List ZV) (lo : Lo) (w : Wd) : Lf (fun J : ZJ ρ => J pc st lo w) := fun _ _ h => Or.inr ⟨pc, st, lo, w, h, fun _ h' => h'⟩
theorem lf_ite {c : Prop} [Decidable c] {F G : ZJ ρ → Option ρ} (hF : Lf F) (hG : Lf G) : Lf (fun J => if c then F J else G J) := by
  intro J X h
  by_cases hc : c
  · simp only [if_pos hc] at h ⊢
    exact hF J X h
  · simp only [if_neg hc] at h ⊢
    exact hG J X h
theorem lf_pI {st : List ZV} {F : ZJ ρ → Int32 → List ZV → Option ρ} (h : ∀ x r, Lf (fun J => F J x r)) : Lf (fun J => pI st (F J)) := by
  unfold pI; split
  · exact h _ _
  · exact lf_k none
theorem lf_pL {st : List ZV} {F : ZJ ρ → Int64 → List ZV → Option ρ} (h : ∀ x r, Lf (fun J => F J x r)) : Lf (fun J => pL st (F J)) := by
  unfold pL; split
  · exact h _ _
  · exact lf_k none
theorem lf_pR {st : List ZV} {F : ZJ ρ → Nat → Nat → List ZV → Option ρ} (h : ∀ x y r, Lf (fun J => F J x y r)) : Lf (fun J => pR st (F J)) := by
  unfold pR; split
  · exact h _ _ _
  · exact lf_k none
theorem lf_pE {st : List ZV} {F : ZJ ρ → Option ρ} (h : Lf F) : Lf (fun J => pE st (F J)) := by
  unfold pE; split
  · exact h
  · exact lf_k none
theorem lf_gI {lo : Lo} {k : Nat} {F : ZJ ρ → Int32 → Option ρ} (h : ∀ x, Lf (fun J => F J x)) : Lf (fun J => gI lo k (F J)) := by
  unfold gI; split
  · exact h _
  · exact lf_k none
theorem lf_gL {lo : Lo} {k : Nat} {F : ZJ ρ → Int64 → Option ρ} (h : ∀ x, Lf (fun J => F J x)) : Lf (fun J => gL lo k (F J)) := by
  unfold gL; split
  · exact h _
  · exact lf_k none
theorem lf_gR {lo : Lo} {k : Nat} {F : ZJ ρ → Nat → Nat → Option ρ} (h : ∀ x y, Lf (fun J => F J x y)) : Lf (fun J => gR lo k (F J)) := by
  unfold gR; split
  · exact h _ _
  · exact lf_k none
theorem lf_oB {α : Type} {o : Option α} {F : ZJ ρ → α → Option ρ} (h : ∀ x, Lf (fun J => F J x)) : Lf (fun J => oB o (F J)) := by
  unfold oB; split
  · exact h _
  · exact lf_k none
theorem lf_zif {b : Bool} {F : ZJ ρ → Option ρ} (h : Lf F) : Lf (fun J => zif b (F J)) := by
  unfold zif; split
  · exact h
  · exact lf_k none
theorem lf_chk {x : Int32} {n : Nat} {F : ZJ ρ → Option ρ} (h : Lf F) : Lf (fun J => chk x n (F J)) := lf_ite (lf_k none) h
theorem lf_zb {x : Int32} {F : ZJ ρ → Option ρ} (h : Lf F) : Lf (fun J => zb x (F J)) := lf_ite h (lf_k none)
theorem lf_zsw {x : Int32} {r : List ZV} {lo : Lo} {w : Wd} {d : Nat} : ∀ sw : List (Int × Nat), Lf (fun J : ZJ ρ => zsw x (J d r lo w) (fun t => J t r lo w) sw)
  | [] => lf_j _ _ _ _
  | _ :: sw => lf_ite (lf_j _ _ _ _) (lf_zsw sw)
theorem lf_zic {c : Jvm.ClassFile.Cond} {x y : Int32} {F G : ZJ ρ → Option ρ} (hF : Lf F) (hG : Lf G) : Lf (fun J => zic c x y (F J) (G J)) := by
  cases c <;> first | exact lf_ite hF hG | exact lf_ite hG hF
theorem lf_zif0 {c : Jvm.ClassFile.Cond} {x : Int32} {F G : ZJ ρ → Option ρ} (hF : Lf F) (hG : Lf G) : Lf (fun J => zif0 c x (F J) (G J)) := by
  cases c <;> first | exact lf_ite hF hG | exact lf_ite hG hF
theorem lf_zpop {F : ZJ ρ → List ZV → List ZV → Option ρ} (h : ∀ a r, Lf (fun J => F J a r)) : ∀ (n : Nat) (st acc : List ZV), Lf (fun J => zpop n st acc (F J))
  | 0, _, _ => h _ _
  | n + 1, v :: st, acc => lf_zpop h n st (v :: acc)
  | _ + 1, [], _ => lf_k none
theorem lf_call {C : ZCall ρ} (hC : LfC C) {as : List ZV} {w : Wd} {F : ZJ ρ → Option ZV → Wd → Option ρ} (h : ∀ v w', Lf (fun J => F J v w')) : Lf (fun J => C as w (F J)) := by
  intro J X hX
  obtain ⟨v, w', h1, h2⟩ := hC _ _ _ _ hX
  rcases h v w' J X h1 with g | ⟨pc, st, lo, w1, g1, g2⟩
  · exact Or.inl fun J' => h2 _ (g J')
  · exact Or.inr ⟨pc, st, lo, w1, g1, fun J' h' => h2 _ (g2 J' h')⟩
def LfM (cM : List (Nat × Nat × ZCall ρ)) : Prop := ∀ (k : Nat) (e : Nat × ZCall ρ), zop cM k = some e → LfC e.2
theorem lf_zinv {cM : List (Nat × Nat × ZCall ρ)} (hM : LfM cM) {k : Nat} {st : List ZV} {lo : Lo} {w : Wd} {F : ZJ ρ → List ZV → Lo → Wd → Option ρ} (h : ∀ st lo w, Lf (fun J => F J st lo w)) : Lf (fun J => zinv cM k st lo w (F J)) := by
  unfold zinv oB
  split
  · rename_i e he
    exact lf_zpop (fun a r => lf_zif (lf_call (hM k e he) fun v w' => h _ _ _)) _ _ _
  · exact lf_k none
theorem lf_zgf {cF : List (Nat × Nat × Nat)} {k : Nat} {st : List ZV} {lo : Lo} {w : Wd} {F : ZJ ρ → List ZV → Lo → Wd → Option ρ} (h : ∀ st lo w, Lf (fun J => F J st lo w)) : Lf (fun J => zgf cF k st lo w (F J)) :=
  lf_pR fun _ _ _ => lf_oB fun _ => lf_zif (lf_oB fun _ => h _ _ _)
theorem lf_zpf {cF : List (Nat × Nat × Nat)} {k : Nat} {st : List ZV} {lo : Lo} {w : Wd} {F : ZJ ρ → List ZV → Lo → Wd → Option ρ} (h : ∀ st lo w, Lf (fun J => F J st lo w)) : Lf (fun J => zpf cF k st lo w (F J)) := by
  unfold zpf
  split
  · refine lf_pR fun _ _ _ => lf_oB fun _ => lf_zif (lf_oB fun q => ?_)
    split
    · exact h _ _ _
    · exact lf_zb (h _ _ _)
    · exact lf_k none
  · refine lf_pR fun _ _ _ => lf_oB fun _ => lf_zif (lf_oB fun q => ?_)
    split
    · exact h _ _ _
    · exact lf_k none
  · exact lf_k none
theorem lf_zdup {st : List ZV} {F : ZJ ρ → List ZV → Option ρ} (h : ∀ st, Lf (fun J => F J st)) : Lf (fun J => zdup st (F J)) := by
  unfold zdup; split
  · exact h _
  · exact h _
  · exact lf_k none
set_option maxHeartbeats 4000000 in
theorem lf_zstp {cF : List (Nat × Nat × Nat)} {cL : List (Nat × Int64)} {cM : List (Nat × Nat × ZCall ρ)} (hM : LfM cM) {ret : Option ZV → Wd → Option ρ} {i : Instr} {tgt : Nat} {sw : List (Int × Nat)} {st : List ZV} {lo : Lo} {w : Wd} {F : ZJ ρ → List ZV → Lo → Wd → Option ρ} (h : ∀ st lo w, Lf (fun J => F J st lo w)) : Lf (fun J => zstp cF cL cM ret i tgt sw st lo w (F J) J) := by
  cases i
  case aload k => exact lf_gR (F := fun J t i => F J (zr t i :: st) lo w) fun _ _ => h _ _ _
  case aload_n k => exact lf_gR (F := fun J t i => F J (zr t i :: st) lo w) fun _ _ => h _ _ _
  case astore k => exact lf_pR (F := fun J t i r => F J r (zst1 lo k (zr t i)) w) fun _ _ _ => h _ _ _
  case astore_n k => exact lf_pR (F := fun J t i r => F J r (zst1 lo k.val (zr t i)) w) fun _ _ _ => h _ _ _
  case dup => exact lf_zdup (F := fun J r => F J r lo w) fun _ => h _ _ _
  case areturn => exact lf_pR (F := fun _ t i r => pE r (ret (some (zr t i)) w)) fun _ _ _ => lf_pE (lf_k _)
  case arraylength => exact lf_pR (F := fun J t i r => zif (Nat.beq (zkd t) 1 || Nat.beq (zkd t) 3 || Nat.beq (zkd t) 5) (F J (zi (Int32.ofNat (zlen t i w)) :: r) lo w)) fun _ _ _ => lf_zif (h _ _ _)
  all_goals first
    | exact lf_k none
    | exact h _ _ _
    | exact lf_j _ _ _ _
    | exact lf_gI fun _ => h _ _ _
    | exact lf_gL fun _ => h _ _ _
    | exact lf_gR fun _ _ => h _ _ _
    | exact lf_oB fun _ => h _ _ _
    | exact lf_pI fun _ _ => h _ _ _
    | exact lf_pL fun _ _ => h _ _ _
    | exact lf_pR fun _ _ _ => h _ _ _
    | exact lf_pI fun _ _ => lf_pI fun _ _ => h _ _ _
    | exact lf_pL fun _ _ => lf_pL fun _ _ => h _ _ _
    | exact lf_pI fun _ _ => lf_pL fun _ _ => h _ _ _
    | exact lf_pI fun _ _ => lf_pR fun _ _ _ => h _ _ _
    | exact lf_pI fun _ _ => lf_pI fun _ _ => lf_ite (lf_k none) (h _ _ _)
    | exact lf_pI fun _ _ => lf_zif0 (lf_j _ _ _ _) (h _ _ _)
    | exact lf_pI fun _ _ => lf_pI fun _ _ => lf_zic (lf_j _ _ _ _) (h _ _ _)
    | exact lf_pI fun _ _ => lf_zsw _
    | exact lf_zdup fun _ => h _ _ _
    | exact lf_zgf h
    | exact lf_zpf h
    | exact lf_zinv hM h
    | exact lf_pI fun _ _ => lf_pR fun _ _ _ => lf_zif (lf_chk (h _ _ _))
    | exact lf_pI fun _ _ => lf_pI fun _ _ => lf_pR fun _ _ _ => lf_zif (lf_chk (h _ _ _))
    | exact lf_pI fun _ _ => lf_pI fun _ _ => lf_pR fun _ _ _ => lf_zif (lf_chk (lf_zb (h _ _ _)))
    | exact lf_pL fun _ _ => lf_pI fun _ _ => lf_pR fun _ _ _ => lf_zif (lf_chk (h _ _ _))
    | exact lf_pR fun _ _ _ => lf_zif (h _ _ _)
    | exact lf_pI fun _ _ => lf_pE (lf_k _)
    | exact lf_pL fun _ _ => lf_pE (lf_k _)
    | exact lf_pR fun _ _ _ => lf_pE (lf_k _)
    | exact lf_pE (lf_k _)
theorem lf_zrun {cF : List (Nat × Nat × Nat)} {cL : List (Nat × Int64)} {cM : List (Nat × Nat × ZCall ρ)} (hM : LfM cM) {ret : Option ZV → Wd → Option ρ} : ∀ (rs : List ZRow) (pc : Nat) (st : List ZV) (lo : Lo) (w : Wd), Lf (fun J => zrun cF cL cM ret J rs pc st lo w)
  | [], _, _, _, _ => lf_j _ _ _ _
  | _ :: rs, _, _, _, _ => lf_zstp hM fun _ _ _ => lf_zrun hM rs _ _ _ _
/-- jumps that are themselves of one jump -/
theorem lf_comp {F : ZJ ρ → Option ρ} (hF : Lf F) {G : ZJ ρ → ZJ ρ} (hG : ∀ pc st lo w, Lf (fun J => G J pc st lo w)) : Lf (fun J => F (G J)) := by
  intro J X h
  rcases hF _ _ h with g | ⟨pc, st, lo, w, g1, g2⟩
  · exact Or.inl fun J' => g _
  · rcases hG pc st lo w J X g1 with k | ⟨pc', st', lo', w', k1, k2⟩
    · exact Or.inl fun J' => g2 _ (k J')
    · exact Or.inr ⟨pc', st', lo', w', k1, fun J' h' => g2 _ (k2 J' h')⟩
theorem lf_zex {cF : List (Nat × Nat × Nat)} {cL : List (Nat × Int64)} {bl : ZBl} {cM : List (Nat × Nat × ZCall ρ)} (hM : LfM cM) {ret : Option ZV → Wd → Option ρ} : ∀ (k pc : Nat) (st : List ZV) (lo : Lo) (w : Wd), Lf (fun J => zex cF cL bl cM ret J k pc st lo w)
  | 0, _, _, _, _ => lf_k none
  | k + 1, _, _, _, _ => by
    refine lf_oB fun b => lf_comp (lf_zrun hM b.2 _ _ _ _) (G := fun J pc st lo w => oB (zop bl pc) fun b => match b.1 with
      | some ms => J pc st (zmask ms lo) w
      | none => zex cF cL bl cM ret J k pc st lo w) fun pc st lo w => lf_oB fun b' => ?_
    split
    · exact lf_j _ _ _ _
    · exact lf_zex hM k _ _ _ _
section EV
variable {cF : List (Nat × Nat × Nat)} {cL : List (Nat × Int64)} {bl : ZBl} {cM : List (Nat × Nat × ZCall ρ)} {ret : Option ZV → Wd → Option ρ}
theorem zeN_succ (hM : LfM cM) : ∀ (n pc : Nat) (st : List ZV) (lo : Lo) (w : Wd) (X : ρ), zeN cF cL bl cM ret n pc st lo w = some X → zeN cF cL bl cM ret (n + 1) pc st lo w = some X
  | 0, _, _, _, _, _, h => by cases h
  | n + 1, pc, st, lo, w, X, h => by
    rcases lf_zex hM 60 pc st lo w _ X h with g | ⟨pc', st', lo', w', g1, g2⟩
    · exact g _
    · exact g2 _ (zeN_succ hM n pc' st' lo' w' X g1)
theorem zeN_mono (hM : LfM cM) {n m : Nat} (hnm : n ≤ m) {pc : Nat} {st : List ZV} {lo : Lo} {w : Wd} {X : ρ} (h : zeN cF cL bl cM ret n pc st lo w = some X) : zeN cF cL bl cM ret m pc st lo w = some X := by
  induction hnm with
  | refl => exact h
  | step _ ih => exact zeN_succ hM _ _ _ _ _ _ ih
theorem zev_some (hM : LfM cM) {pc : Nat} {st : List ZV} {lo : Lo} {w : Wd} {X : ρ} : zev cF cL bl cM ret pc st lo w = some X ↔ ∃ n, zeN cF cL bl cM ret n pc st lo w = some X := by
  unfold zev
  constructor
  · intro h
    split at h
    · rename_i hx
      obtain ⟨n, hn⟩ := Classical.choose_spec hx
      cases h
      exact ⟨n, hn⟩
    · cases h
  · rintro ⟨n, hn⟩
    have hx : ∃ (X : ρ) (n : Nat), zeN cF cL bl cM ret n pc st lo w = some X := ⟨X, n, hn⟩
    rw [dif_pos hx]
    obtain ⟨m, hm⟩ := Classical.choose_spec hx
    have h1 := zeN_mono hM (Nat.le_max_left n m) hn
    have h2 := zeN_mono hM (Nat.le_max_right n m) hm
    rw [h1] at h2
    rw [← Option.some.inj h2]
theorem zev_eq (hM : LfM cM) (pc : Nat) (st : List ZV) (lo : Lo) (w : Wd) : zev cF cL bl cM ret pc st lo w = zex cF cL bl cM ret (zev cF cL bl cM ret) 60 pc st lo w := by
  apply Option.ext
  intro X
  constructor
  · intro h
    obtain ⟨n, hn⟩ := (zev_some hM).mp h
    cases n with
    | zero => cases hn
    | succ n =>
      rcases lf_zex hM 60 pc st lo w _ X hn with g | ⟨pc', st', lo', w', g1, g2⟩
      · exact g _
      · exact g2 _ ((zev_some hM).mpr ⟨n, g1⟩)
  · intro h
    rcases lf_zex hM 60 pc st lo w _ X h with g | ⟨pc', st', lo', w', g1, g2⟩
    · exact (zev_some hM).mpr ⟨1, g _⟩
    · obtain ⟨n, hn⟩ := (zev_some hM).mp g1
      exact (zev_some hM).mpr ⟨n + 1, g2 _ hn⟩
end EV
end EX
end
