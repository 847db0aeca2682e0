section
-- ===== PART A: goes FIRST, ahead of the names: the tables' words, and 'selects' of the private methods out of them =====
/-- a private method of a class that the tables say can be made, by its rows of tables_1 -/
def lw_okq (q : MethodName × Nat) : Prop := (q.1.cls ≠ "java/lang/invoke/MethodHandle" ∧ q.1.cls ≠ "java/lang/invoke/VarHandle") ∧ Cond.instantiable q.1.cls q.2 ∈ tables_1 ∧ Cond.privateMethod q.1 ∈ tables_1 ∧ Cond.instanceMethod q.1 ∈ tables_1
theorem lw_p0 : lw_okq (⟨"SleepSteps$Pad", "signAt", "(I)I"⟩, 2) := ⟨⟨by decide +kernel, by decide +kernel⟩, List.mem_of_getElem? (i := 22) (by decide +kernel), List.mem_of_getElem? (i := 248) (by decide +kernel), List.mem_of_getElem? (i := 249) (by decide +kernel)⟩
theorem lw_p1 : lw_okq (⟨"SleepSteps$Pad", "isDigitAt", "(I)Z"⟩, 2) := ⟨⟨by decide +kernel, by decide +kernel⟩, List.mem_of_getElem? (i := 22) (by decide +kernel), List.mem_of_getElem? (i := 252) (by decide +kernel), List.mem_of_getElem? (i := 253) (by decide +kernel)⟩
theorem lw_p2 : lw_okq (⟨"SleepSteps$Programs", "append", "(II)V"⟩, 2) := ⟨⟨by decide +kernel, by decide +kernel⟩, List.mem_of_getElem? (i := 42) (by decide +kernel), List.mem_of_getElem? (i := 287) (by decide +kernel), List.mem_of_getElem? (i := 288) (by decide +kernel)⟩
theorem lw_p3 : lw_okq (⟨"SleepSteps", "changeProgramsToDraft", "()V"⟩, 11) := ⟨⟨by decide +kernel, by decide +kernel⟩, List.mem_of_getElem? (i := 14) (by decide +kernel), List.mem_of_getElem? (i := 315) (by decide +kernel), List.mem_of_getElem? (i := 316) (by decide +kernel)⟩
theorem lw_p4 : lw_okq (⟨"SleepSteps$StandSpace", "noteHeldLocks", "()V"⟩, 12) := ⟨⟨by decide +kernel, by decide +kernel⟩, List.mem_of_getElem? (i := 98) (by decide +kernel), List.mem_of_getElem? (i := 375) (by decide +kernel), List.mem_of_getElem? (i := 376) (by decide +kernel)⟩
theorem lw_p5 : lw_okq (⟨"SleepSteps$StandSpace", "isReachable", "(I)Z"⟩, 12) := ⟨⟨by decide +kernel, by decide +kernel⟩, List.mem_of_getElem? (i := 98) (by decide +kernel), List.mem_of_getElem? (i := 386) (by decide +kernel), List.mem_of_getElem? (i := 387) (by decide +kernel)⟩
theorem lw_p6 : lw_okq (⟨"SleepSteps$StandSpace", "goFrom", "(I)V"⟩, 12) := ⟨⟨by decide +kernel, by decide +kernel⟩, List.mem_of_getElem? (i := 98) (by decide +kernel), List.mem_of_getElem? (i := 390) (by decide +kernel), List.mem_of_getElem? (i := 391) (by decide +kernel)⟩
theorem lw_p7 : lw_okq (⟨"SleepSteps$StandSpace", "threadsThatCanGo", "(I)I"⟩, 12) := ⟨⟨by decide +kernel, by decide +kernel⟩, List.mem_of_getElem? (i := 98) (by decide +kernel), List.mem_of_getElem? (i := 394) (by decide +kernel), List.mem_of_getElem? (i := 395) (by decide +kernel)⟩
theorem lw_p8 : lw_okq (⟨"SleepSteps$StandSpace", "nextStep", "(II)I"⟩, 12) := ⟨⟨by decide +kernel, by decide +kernel⟩, List.mem_of_getElem? (i := 98) (by decide +kernel), List.mem_of_getElem? (i := 405) (by decide +kernel), List.mem_of_getElem? (i := 406) (by decide +kernel)⟩
theorem lw_p9 : lw_okq (⟨"SleepSteps$StandSpace", "isEnd", "(I)Z"⟩, 12) := ⟨⟨by decide +kernel, by decide +kernel⟩, List.mem_of_getElem? (i := 98) (by decide +kernel), List.mem_of_getElem? (i := 473) (by decide +kernel), List.mem_of_getElem? (i := 474) (by decide +kernel)⟩
theorem lw_p10 : lw_okq (⟨"SleepSteps$StandSpace", "isDeadlock", "(I)Z"⟩, 12) := ⟨⟨by decide +kernel, by decide +kernel⟩, List.mem_of_getElem? (i := 98) (by decide +kernel), List.mem_of_getElem? (i := 481) (by decide +kernel), List.mem_of_getElem? (i := 482) (by decide +kernel)⟩
theorem lw_p11 : lw_okq (⟨"SleepSteps$StandSpace", "exploreFrom", "(I)V"⟩, 12) := ⟨⟨by decide +kernel, by decide +kernel⟩, List.mem_of_getElem? (i := 98) (by decide +kernel), List.mem_of_getElem? (i := 524) (by decide +kernel), List.mem_of_getElem? (i := 525) (by decide +kernel)⟩
theorem lw_p12 : lw_okq (⟨"SleepSteps$StandSpace", "exploreWith", "(IIJ)V"⟩, 12) := ⟨⟨by decide +kernel, by decide +kernel⟩, List.mem_of_getElem? (i := 98) (by decide +kernel), List.mem_of_getElem? (i := 528) (by decide +kernel), List.mem_of_getElem? (i := 529) (by decide +kernel)⟩
theorem lw_p13 : lw_okq (⟨"SleepSteps$StandSpace", "stillAsleep", "(III)I"⟩, 12) := ⟨⟨by decide +kernel, by decide +kernel⟩, List.mem_of_getElem? (i := 98) (by decide +kernel), List.mem_of_getElem? (i := 532) (by decide +kernel), List.mem_of_getElem? (i := 533) (by decide +kernel)⟩
theorem lw_p14 : lw_okq (⟨"SleepSteps$StandSpace", "shortestWay", "()I"⟩, 12) := ⟨⟨by decide +kernel, by decide +kernel⟩, List.mem_of_getElem? (i := 98) (by decide +kernel), List.mem_of_getElem? (i := 558) (by decide +kernel), List.mem_of_getElem? (i := 559) (by decide +kernel)⟩
theorem lw_p15 : lw_okq (⟨"SleepSteps$StandSpace", "markWaysOf", "(I)V"⟩, 12) := ⟨⟨by decide +kernel, by decide +kernel⟩, List.mem_of_getElem? (i := 98) (by decide +kernel), List.mem_of_getElem? (i := 563) (by decide +kernel), List.mem_of_getElem? (i := 564) (by decide +kernel)⟩
def lw_privs_1 : List (MethodName × Nat) := [(⟨"SleepSteps$Pad", "signAt", "(I)I"⟩, 2), (⟨"SleepSteps$Pad", "isDigitAt", "(I)Z"⟩, 2), (⟨"SleepSteps$Programs", "append", "(II)V"⟩, 2), (⟨"SleepSteps", "changeProgramsToDraft", "()V"⟩, 11), (⟨"SleepSteps$StandSpace", "noteHeldLocks", "()V"⟩, 12), (⟨"SleepSteps$StandSpace", "isReachable", "(I)Z"⟩, 12), (⟨"SleepSteps$StandSpace", "goFrom", "(I)V"⟩, 12), (⟨"SleepSteps$StandSpace", "threadsThatCanGo", "(I)I"⟩, 12), (⟨"SleepSteps$StandSpace", "nextStep", "(II)I"⟩, 12), (⟨"SleepSteps$StandSpace", "isEnd", "(I)Z"⟩, 12), (⟨"SleepSteps$StandSpace", "isDeadlock", "(I)Z"⟩, 12), (⟨"SleepSteps$StandSpace", "exploreFrom", "(I)V"⟩, 12), (⟨"SleepSteps$StandSpace", "exploreWith", "(IIJ)V"⟩, 12), (⟨"SleepSteps$StandSpace", "stillAsleep", "(III)I"⟩, 12), (⟨"SleepSteps$StandSpace", "shortestWay", "()I"⟩, 12), (⟨"SleepSteps$StandSpace", "markWaysOf", "(I)V"⟩, 12)]
theorem lw_r1 : ∀ q ∈ lw_privs_1, lw_okq q := List.forall_mem_cons.mpr ⟨lw_p0, List.forall_mem_cons.mpr ⟨lw_p1, List.forall_mem_cons.mpr ⟨lw_p2, List.forall_mem_cons.mpr ⟨lw_p3, List.forall_mem_cons.mpr ⟨lw_p4, List.forall_mem_cons.mpr ⟨lw_p5, List.forall_mem_cons.mpr ⟨lw_p6, List.forall_mem_cons.mpr ⟨lw_p7, List.forall_mem_cons.mpr ⟨lw_p8, List.forall_mem_cons.mpr ⟨lw_p9, List.forall_mem_cons.mpr ⟨lw_p10, List.forall_mem_cons.mpr ⟨lw_p11, List.forall_mem_cons.mpr ⟨lw_p12, List.forall_mem_cons.mpr ⟨lw_p13, List.forall_mem_cons.mpr ⟨lw_p14, List.forall_mem_cons.mpr ⟨lw_p15, fun _ h => absurd h List.not_mem_nil⟩⟩⟩⟩⟩⟩⟩⟩⟩⟩⟩⟩⟩⟩⟩⟩
theorem lw_p16 : lw_okq (⟨"SleepSteps$StandSpace", "leastLeading", "(I)I"⟩, 12) := ⟨⟨by decide +kernel, by decide +kernel⟩, List.mem_of_getElem? (i := 98) (by decide +kernel), List.mem_of_getElem? (i := 567) (by decide +kernel), List.mem_of_getElem? (i := 568) (by decide +kernel)⟩
theorem lw_p17 : lw_okq (⟨"SleepSteps$RunOrder", "addStep", "(LSleepSteps$Programs;I)V"⟩, 6) := ⟨⟨by decide +kernel, by decide +kernel⟩, List.mem_of_getElem? (i := 148) (by decide +kernel), List.mem_of_getElem? (i := 596) (by decide +kernel), List.mem_of_getElem? (i := 597) (by decide +kernel)⟩
theorem lw_p18 : lw_okq (⟨"SleepSteps$RunOrder", "neededSteps", "(LSleepSteps$Programs;II)I"⟩, 6) := ⟨⟨by decide +kernel, by decide +kernel⟩, List.mem_of_getElem? (i := 148) (by decide +kernel), List.mem_of_getElem? (i := 602) (by decide +kernel), List.mem_of_getElem? (i := 603) (by decide +kernel)⟩
theorem lw_p19 : lw_okq (⟨"SleepSteps$RunOrder", "leastThatMayGo", "(I)I"⟩, 6) := ⟨⟨by decide +kernel, by decide +kernel⟩, List.mem_of_getElem? (i := 148) (by decide +kernel), List.mem_of_getElem? (i := 616) (by decide +kernel), List.mem_of_getElem? (i := 617) (by decide +kernel)⟩
theorem lw_p20 : lw_okq (⟨"SleepSteps$RunOrder", "mayGo", "(II)Z"⟩, 6) := ⟨⟨by decide +kernel, by decide +kernel⟩, List.mem_of_getElem? (i := 148) (by decide +kernel), List.mem_of_getElem? (i := 620) (by decide +kernel), List.mem_of_getElem? (i := 621) (by decide +kernel)⟩
theorem lw_p21 : lw_okq (⟨"SleepStepsModel", "faultOf", "(I)I"⟩, 22) := ⟨⟨by decide +kernel, by decide +kernel⟩, List.mem_of_getElem? (i := 677) (by decide +kernel), List.mem_of_getElem? (i := 766) (by decide +kernel), List.mem_of_getElem? (i := 767) (by decide +kernel)⟩
theorem lw_p22 : lw_okq (⟨"SleepStepsModel", "isWell", "(I)Z"⟩, 22) := ⟨⟨by decide +kernel, by decide +kernel⟩, List.mem_of_getElem? (i := 677) (by decide +kernel), List.mem_of_getElem? (i := 783) (by decide +kernel), List.mem_of_getElem? (i := 784) (by decide +kernel)⟩
theorem lw_p23 : lw_okq (⟨"SleepStepsModel", "step", "(II)I"⟩, 22) := ⟨⟨by decide +kernel, by decide +kernel⟩, List.mem_of_getElem? (i := 677) (by decide +kernel), List.mem_of_getElem? (i := 787) (by decide +kernel), List.mem_of_getElem? (i := 788) (by decide +kernel)⟩
theorem lw_p24 : lw_okq (⟨"SleepStepsModel", "records", "([I)V"⟩, 22) := ⟨⟨by decide +kernel, by decide +kernel⟩, List.mem_of_getElem? (i := 677) (by decide +kernel), List.mem_of_getElem? (i := 791) (by decide +kernel), List.mem_of_getElem? (i := 792) (by decide +kernel)⟩
theorem lw_p25 : lw_okq (⟨"SleepStepsModel", "laysWays", "()V"⟩, 22) := ⟨⟨by decide +kernel, by decide +kernel⟩, List.mem_of_getElem? (i := 677) (by decide +kernel), List.mem_of_getElem? (i := 803) (by decide +kernel), List.mem_of_getElem? (i := 804) (by decide +kernel)⟩
theorem lw_p26 : lw_okq (⟨"SleepStepsModel", "laysHeld", "()V"⟩, 22) := ⟨⟨by decide +kernel, by decide +kernel⟩, List.mem_of_getElem? (i := 677) (by decide +kernel), List.mem_of_getElem? (i := 807) (by decide +kernel), List.mem_of_getElem? (i := 808) (by decide +kernel)⟩
theorem lw_p27 : lw_okq (⟨"SleepStepsModel", "canGo", "(II)Z"⟩, 22) := ⟨⟨by decide +kernel, by decide +kernel⟩, List.mem_of_getElem? (i := 677) (by decide +kernel), List.mem_of_getElem? (i := 811) (by decide +kernel), List.mem_of_getElem? (i := 812) (by decide +kernel)⟩
theorem lw_p28 : lw_okq (⟨"SleepStepsModel", "hasNext", "(II)Z"⟩, 22) := ⟨⟨by decide +kernel, by decide +kernel⟩, List.mem_of_getElem? (i := 677) (by decide +kernel), List.mem_of_getElem? (i := 815) (by decide +kernel), List.mem_of_getElem? (i := 816) (by decide +kernel)⟩
theorem lw_p29 : lw_okq (⟨"SleepStepsModel", "heldBut", "(II)I"⟩, 22) := ⟨⟨by decide +kernel, by decide +kernel⟩, List.mem_of_getElem? (i := 677) (by decide +kernel), List.mem_of_getElem? (i := 825) (by decide +kernel), List.mem_of_getElem? (i := 826) (by decide +kernel)⟩
theorem lw_p30 : lw_okq (⟨"SleepStepsModel", "isEnd", "(I)Z"⟩, 22) := ⟨⟨by decide +kernel, by decide +kernel⟩, List.mem_of_getElem? (i := 677) (by decide +kernel), List.mem_of_getElem? (i := 829) (by decide +kernel), List.mem_of_getElem? (i := 830) (by decide +kernel)⟩
theorem lw_p31 : lw_okq (⟨"SleepStepsModel", "isDeadlock", "(I)Z"⟩, 22) := ⟨⟨by decide +kernel, by decide +kernel⟩, List.mem_of_getElem? (i := 677) (by decide +kernel), List.mem_of_getElem? (i := 833) (by decide +kernel), List.mem_of_getElem? (i := 834) (by decide +kernel)⟩
def lw_privs_2 : List (MethodName × Nat) := [(⟨"SleepSteps$StandSpace", "leastLeading", "(I)I"⟩, 12), (⟨"SleepSteps$RunOrder", "addStep", "(LSleepSteps$Programs;I)V"⟩, 6), (⟨"SleepSteps$RunOrder", "neededSteps", "(LSleepSteps$Programs;II)I"⟩, 6), (⟨"SleepSteps$RunOrder", "leastThatMayGo", "(I)I"⟩, 6), (⟨"SleepSteps$RunOrder", "mayGo", "(II)Z"⟩, 6), (⟨"SleepStepsModel", "faultOf", "(I)I"⟩, 22), (⟨"SleepStepsModel", "isWell", "(I)Z"⟩, 22), (⟨"SleepStepsModel", "step", "(II)I"⟩, 22), (⟨"SleepStepsModel", "records", "([I)V"⟩, 22), (⟨"SleepStepsModel", "laysWays", "()V"⟩, 22), (⟨"SleepStepsModel", "laysHeld", "()V"⟩, 22), (⟨"SleepStepsModel", "canGo", "(II)Z"⟩, 22), (⟨"SleepStepsModel", "hasNext", "(II)Z"⟩, 22), (⟨"SleepStepsModel", "heldBut", "(II)I"⟩, 22), (⟨"SleepStepsModel", "isEnd", "(I)Z"⟩, 22), (⟨"SleepStepsModel", "isDeadlock", "(I)Z"⟩, 22)]
theorem lw_r2 : ∀ q ∈ lw_privs_2, lw_okq q := List.forall_mem_cons.mpr ⟨lw_p16, List.forall_mem_cons.mpr ⟨lw_p17, List.forall_mem_cons.mpr ⟨lw_p18, List.forall_mem_cons.mpr ⟨lw_p19, List.forall_mem_cons.mpr ⟨lw_p20, List.forall_mem_cons.mpr ⟨lw_p21, List.forall_mem_cons.mpr ⟨lw_p22, List.forall_mem_cons.mpr ⟨lw_p23, List.forall_mem_cons.mpr ⟨lw_p24, List.forall_mem_cons.mpr ⟨lw_p25, List.forall_mem_cons.mpr ⟨lw_p26, List.forall_mem_cons.mpr ⟨lw_p27, List.forall_mem_cons.mpr ⟨lw_p28, List.forall_mem_cons.mpr ⟨lw_p29, List.forall_mem_cons.mpr ⟨lw_p30, List.forall_mem_cons.mpr ⟨lw_p31, fun _ h => absurd h List.not_mem_nil⟩⟩⟩⟩⟩⟩⟩⟩⟩⟩⟩⟩⟩⟩⟩⟩
theorem lw_p32 : lw_okq (⟨"SleepStepsModel", "deadlocks", "()I"⟩, 22) := ⟨⟨by decide +kernel, by decide +kernel⟩, List.mem_of_getElem? (i := 677) (by decide +kernel), List.mem_of_getElem? (i := 841) (by decide +kernel), List.mem_of_getElem? (i := 842) (by decide +kernel)⟩
theorem lw_p33 : lw_okq (⟨"SleepStepsModel", "toldOf", "(II)I"⟩, 22) := ⟨⟨by decide +kernel, by decide +kernel⟩, List.mem_of_getElem? (i := 677) (by decide +kernel), List.mem_of_getElem? (i := 845) (by decide +kernel), List.mem_of_getElem? (i := 846) (by decide +kernel)⟩
theorem lw_p34 : lw_okq (⟨"SleepStepsModel", "length", "(I)I"⟩, 22) := ⟨⟨by decide +kernel, by decide +kernel⟩, List.mem_of_getElem? (i := 677) (by decide +kernel), List.mem_of_getElem? (i := 849) (by decide +kernel), List.mem_of_getElem? (i := 850) (by decide +kernel)⟩
theorem lw_p35 : lw_okq (⟨"SleepStepsModel", "sleeps", "()V"⟩, 22) := ⟨⟨by decide +kernel, by decide +kernel⟩, List.mem_of_getElem? (i := 677) (by decide +kernel), List.mem_of_getElem? (i := 862) (by decide +kernel), List.mem_of_getElem? (i := 863) (by decide +kernel)⟩
theorem lw_p36 : lw_okq (⟨"SleepStepsModel", "explores", "(III)V"⟩, 22) := ⟨⟨by decide +kernel, by decide +kernel⟩, List.mem_of_getElem? (i := 677) (by decide +kernel), List.mem_of_getElem? (i := 866) (by decide +kernel), List.mem_of_getElem? (i := 867) (by decide +kernel)⟩
theorem lw_p37 : lw_okq (⟨"SleepStepsModel", "asleep", "(III)I"⟩, 22) := ⟨⟨by decide +kernel, by decide +kernel⟩, List.mem_of_getElem? (i := 677) (by decide +kernel), List.mem_of_getElem? (i := 870) (by decide +kernel), List.mem_of_getElem? (i := 871) (by decide +kernel)⟩
theorem lw_p38 : lw_okq (⟨"SleepStepsModel", "nearest", "()I"⟩, 22) := ⟨⟨by decide +kernel, by decide +kernel⟩, List.mem_of_getElem? (i := 677) (by decide +kernel), List.mem_of_getElem? (i := 881) (by decide +kernel), List.mem_of_getElem? (i := 882) (by decide +kernel)⟩
theorem lw_p39 : lw_okq (⟨"SleepStepsModel", "takesPad", "()Z"⟩, 22) := ⟨⟨by decide +kernel, by decide +kernel⟩, List.mem_of_getElem? (i := 677) (by decide +kernel), List.mem_of_getElem? (i := 893) (by decide +kernel), List.mem_of_getElem? (i := 894) (by decide +kernel)⟩
theorem lw_p40 : lw_okq (⟨"SleepStepsModel", "goesAll", "()Z"⟩, 22) := ⟨⟨by decide +kernel, by decide +kernel⟩, List.mem_of_getElem? (i := 677) (by decide +kernel), List.mem_of_getElem? (i := 897) (by decide +kernel), List.mem_of_getElem? (i := 898) (by decide +kernel)⟩
theorem lw_p41 : lw_okq (⟨"SleepStepsModel", "takesKept", "()V"⟩, 22) := ⟨⟨by decide +kernel, by decide +kernel⟩, List.mem_of_getElem? (i := 677) (by decide +kernel), List.mem_of_getElem? (i := 905) (by decide +kernel), List.mem_of_getElem? (i := 906) (by decide +kernel)⟩
theorem lw_p42 : lw_okq (⟨"SleepStepsModel", "laysLeast", "()V"⟩, 22) := ⟨⟨by decide +kernel, by decide +kernel⟩, List.mem_of_getElem? (i := 677) (by decide +kernel), List.mem_of_getElem? (i := 909) (by decide +kernel), List.mem_of_getElem? (i := 910) (by decide +kernel)⟩
theorem lw_p43 : lw_okq (⟨"SleepStepsModel", "isFree", "(I)Z"⟩, 22) := ⟨⟨by decide +kernel, by decide +kernel⟩, List.mem_of_getElem? (i := 677) (by decide +kernel), List.mem_of_getElem? (i := 913) (by decide +kernel), List.mem_of_getElem? (i := 914) (by decide +kernel)⟩
theorem lw_p44 : lw_okq (⟨"SleepStepsModel", "isTied", "(II)Z"⟩, 22) := ⟨⟨by decide +kernel, by decide +kernel⟩, List.mem_of_getElem? (i := 677) (by decide +kernel), List.mem_of_getElem? (i := 917) (by decide +kernel), List.mem_of_getElem? (i := 918) (by decide +kernel)⟩
theorem lw_p45 : lw_okq (⟨"SleepStepsModel", "comesNext", "(II)Z"⟩, 22) := ⟨⟨by decide +kernel, by decide +kernel⟩, List.mem_of_getElem? (i := 677) (by decide +kernel), List.mem_of_getElem? (i := 937) (by decide +kernel), List.mem_of_getElem? (i := 938) (by decide +kernel)⟩
theorem lw_p46 : lw_okq (⟨"SleepStepsModel", "notWith", "(II)I"⟩, 22) := ⟨⟨by decide +kernel, by decide +kernel⟩, List.mem_of_getElem? (i := 677) (by decide +kernel), List.mem_of_getElem? (i := 945) (by decide +kernel), List.mem_of_getElem? (i := 946) (by decide +kernel)⟩
theorem lw_p47 : lw_okq (⟨"SleepStepsModel", "stepsAll", "()I"⟩, 22) := ⟨⟨by decide +kernel, by decide +kernel⟩, List.mem_of_getElem? (i := 677) (by decide +kernel), List.mem_of_getElem? (i := 953) (by decide +kernel), List.mem_of_getElem? (i := 954) (by decide +kernel)⟩
def lw_privs_3 : List (MethodName × Nat) := [(⟨"SleepStepsModel", "deadlocks", "()I"⟩, 22), (⟨"SleepStepsModel", "toldOf", "(II)I"⟩, 22), (⟨"SleepStepsModel", "length", "(I)I"⟩, 22), (⟨"SleepStepsModel", "sleeps", "()V"⟩, 22), (⟨"SleepStepsModel", "explores", "(III)V"⟩, 22), (⟨"SleepStepsModel", "asleep", "(III)I"⟩, 22), (⟨"SleepStepsModel", "nearest", "()I"⟩, 22), (⟨"SleepStepsModel", "takesPad", "()Z"⟩, 22), (⟨"SleepStepsModel", "goesAll", "()Z"⟩, 22), (⟨"SleepStepsModel", "takesKept", "()V"⟩, 22), (⟨"SleepStepsModel", "laysLeast", "()V"⟩, 22), (⟨"SleepStepsModel", "isFree", "(I)Z"⟩, 22), (⟨"SleepStepsModel", "isTied", "(II)Z"⟩, 22), (⟨"SleepStepsModel", "comesNext", "(II)Z"⟩, 22), (⟨"SleepStepsModel", "notWith", "(II)I"⟩, 22), (⟨"SleepStepsModel", "stepsAll", "()I"⟩, 22)]
theorem lw_r3 : ∀ q ∈ lw_privs_3, lw_okq q := List.forall_mem_cons.mpr ⟨lw_p32, List.forall_mem_cons.mpr ⟨lw_p33, List.forall_mem_cons.mpr ⟨lw_p34, List.forall_mem_cons.mpr ⟨lw_p35, List.forall_mem_cons.mpr ⟨lw_p36, List.forall_mem_cons.mpr ⟨lw_p37, List.forall_mem_cons.mpr ⟨lw_p38, List.forall_mem_cons.mpr ⟨lw_p39, List.forall_mem_cons.mpr ⟨lw_p40, List.forall_mem_cons.mpr ⟨lw_p41, List.forall_mem_cons.mpr ⟨lw_p42, List.forall_mem_cons.mpr ⟨lw_p43, List.forall_mem_cons.mpr ⟨lw_p44, List.forall_mem_cons.mpr ⟨lw_p45, List.forall_mem_cons.mpr ⟨lw_p46, List.forall_mem_cons.mpr ⟨lw_p47, fun _ h => absurd h List.not_mem_nil⟩⟩⟩⟩⟩⟩⟩⟩⟩⟩⟩⟩⟩⟩⟩⟩
def lw_privs : List (MethodName × Nat) := lw_privs_1 ++ (lw_privs_2 ++ (lw_privs_3))
def lw_tbl : List Cond := k2_sels lw_privs ++ tables_1
theorem lw_privs_ok : ∀ q ∈ lw_privs, lw_okq q := by
  show ∀ q ∈ lw_privs_1 ++ (lw_privs_2 ++ (lw_privs_3)), lw_okq q
  exact List.forall_mem_append.mpr ⟨lw_r1, List.forall_mem_append.mpr ⟨lw_r2, lw_r3⟩⟩
-- ===== end of PART A; then your names; then what follows =====
theorem goodIn_r {big : List Cond} (ws : List Cond) (ps : List Nat) (hp : ws = ps.filterMap (fun i => big[i]?)) (h : ws.all goodWord = true) : GoodIn big ws := by
  intro w hw
  have h1 := List.all_eq_true.mp h w hw
  rw [hp] at hw
  obtain ⟨i, -, hi⟩ := List.mem_filterMap.mp hw
  have hm : w ∈ big := by first | exact List.mem_of_getElem? hi | exact List.getElem?_mem hi
  exact ⟨hm, good_of_word h1⟩
theorem goodIn_app {big a b : List Cond} (ha : GoodIn big a) (hb : GoodIn big b) : GoodIn big (a ++ b) := fun w h => (List.mem_append.mp h).elim (ha w) (hb w)
theorem goodIn_ca {big a b : List Cond} {c : Cond} (ha : GoodIn big (c :: a)) (hb : GoodIn big b) : GoodIn big (c :: (a ++ b)) := fun w h => (List.mem_cons.mp h).elim (fun e => ha w (List.mem_cons.mpr (Or.inl e))) (fun h => (List.mem_append.mp h).elim (fun h => ha w (List.mem_cons.mpr (Or.inr h))) (hb w))
theorem goodIn_sub {big ws : List Cond} (hm : ∀ w ∈ ws, w ∈ big) (h : ws.all goodWord = true) : GoodIn big ws := fun w hw => ⟨hm w hw, good_of_word (List.all_eq_true.mp h w hw)⟩
def RX0 : String := "SleepSteps$History"
def TX0 : u_T := fun k => match k with
  | 0 => ("SleepSteps$History", "states", "[LSleepSteps$State;", true)
  | 1 => ("SleepSteps$History", "oldest", "I", false)
  | _ => ("SleepSteps$History", "size", "I", false)
def tyX0 : Nat → FieldType := fun k => match k with
  | 0 => .array (.object "SleepSteps$State")
  | 1 => .int
  | _ => .int
abbrev wsX00 : List Cond := u_ws RX0 TX0 3
theorem nmX0 : ∀ a, a < 3 → ∀ b, b < 3 → a ≠ b → (TX0 a).2.1 ≠ (TX0 b).2.1 := by decide +kernel
theorem tyX0_ok : ∀ k, k < 3 → parseFieldDescriptor (TX0 k).2.2.1 = some (tyX0 k) := by decide +kernel
abbrev cX0_init : ByteArray := prog_2_method_1_code
def yX0_init : MethodName := ⟨RX0, "<init>", "()V"⟩
abbrev cX0_size : ByteArray := prog_2_method_2_code
def yX0_size : MethodName := ⟨RX0, "size", "()I"⟩
abbrev cX0_record : ByteArray := prog_2_method_3_code
def yX0_record : MethodName := ⟨RX0, "record", "(LSleepSteps$State;)V"⟩
abbrev cX0_takeBackInto : ByteArray := prog_2_method_4_code
def yX0_takeBackInto : MethodName := ⟨RX0, "takeBackInto", "(LSleepSteps$State;)V"⟩
def RX1 : String := "SleepSteps$Pad"
def TX1 : u_T := fun k => match k with
  | 0 => ("SleepSteps$Pad", "signs", "[I", true)
  | _ => ("SleepSteps$Pad", "length", "I", false)
def tyX1 : Nat → FieldType := fun k => match k with
  | 0 => .array .int
  | _ => .int
abbrev wsX10 : List Cond := u_ws RX1 TX1 2
theorem nmX1 : ∀ a, a < 2 → ∀ b, b < 2 → a ≠ b → (TX1 a).2.1 ≠ (TX1 b).2.1 := by decide +kernel
theorem tyX1_ok : ∀ k, k < 2 → parseFieldDescriptor (TX1 k).2.2.1 = some (tyX1 k) := by decide +kernel
abbrev cX1_init : ByteArray := prog_3_method_1_code
def yX1_init : MethodName := ⟨RX1, "<init>", "()V"⟩
abbrev cX1_charactersIn : ByteArray := prog_3_method_2_code
def yX1_charactersIn : MethodName := ⟨RX1, "charactersIn", "(J)I"⟩
abbrev cX1_signIn : ByteArray := prog_3_method_3_code
def yX1_signIn : MethodName := ⟨RX1, "signIn", "(JI)I"⟩
abbrev cX1_length : ByteArray := prog_3_method_4_code
def yX1_length : MethodName := ⟨RX1, "length", "()I"⟩
abbrev cX1_clear : ByteArray := prog_3_method_5_code
def yX1_clear : MethodName := ⟨RX1, "clear", "()V"⟩
abbrev cX1_append : ByteArray := prog_3_method_6_code
def yX1_append : MethodName := ⟨RX1, "append", "(JI)V"⟩
abbrev cX1_faultAsProgram : ByteArray := prog_3_method_7_code
def yX1_faultAsProgram : MethodName := ⟨RX1, "faultAsProgram", "()I"⟩
abbrev cX1_faultAsRun : ByteArray := prog_3_method_8_code
def yX1_faultAsRun : MethodName := ⟨RX1, "faultAsRun", "()I"⟩
abbrev cX1_kindAt : ByteArray := prog_3_method_9_code
def yX1_kindAt : MethodName := ⟨RX1, "kindAt", "(I)I"⟩
abbrev cX1_digitAt : ByteArray := prog_3_method_10_code
def yX1_digitAt : MethodName := ⟨RX1, "digitAt", "(I)I"⟩
abbrev cX1_isDigitAt : ByteArray := prog_3_method_11_code
def yX1_isDigitAt : MethodName := ⟨RX1, "isDigitAt", "(I)Z"⟩
abbrev cX1_signAt : ByteArray := prog_3_method_12_code
def yX1_signAt : MethodName := ⟨RX1, "signAt", "(I)I"⟩
def RX2 : String := "SleepSteps$Programs"
def TX2 : u_T := fun k => match k with
  | 0 => ("SleepSteps$Programs", "steps", "[I", true)
  | _ => ("SleepSteps$Programs", "lengths", "[I", true)
def tyX2 : Nat → FieldType := fun k => match k with
  | 0 => .array .int
  | _ => .array .int
abbrev wsX20 : List Cond := u_ws RX2 TX2 2
theorem nmX2 : ∀ a, a < 2 → ∀ b, b < 2 → a ≠ b → (TX2 a).2.1 ≠ (TX2 b).2.1 := by decide +kernel
theorem tyX2_ok : ∀ k, k < 2 → parseFieldDescriptor (TX2 k).2.2.1 = some (tyX2 k) := by decide +kernel
abbrev cX2_init : ByteArray := prog_4_method_1_code
def yX2_init : MethodName := ⟨RX2, "<init>", "()V"⟩
abbrev cX2_lengthOf : ByteArray := prog_4_method_2_code
def yX2_lengthOf : MethodName := ⟨RX2, "lengthOf", "(I)I"⟩
abbrev cX2_stepOf : ByteArray := prog_4_method_3_code
def yX2_stepOf : MethodName := ⟨RX2, "stepOf", "(II)I"⟩
abbrev cX2_allSteps : ByteArray := prog_4_method_4_code
def yX2_allSteps : MethodName := ⟨RX2, "allSteps", "()I"⟩
abbrev cX2_copyFrom : ByteArray := prog_4_method_5_code
def yX2_copyFrom : MethodName := ⟨RX2, "copyFrom", "(LSleepSteps$Programs;)V"⟩
abbrev cX2_copyWithoutLock : ByteArray := prog_4_method_6_code
def yX2_copyWithoutLock : MethodName := ⟨RX2, "copyWithoutLock", "(LSleepSteps$Programs;I)V"⟩
abbrev cX2_readProgram : ByteArray := prog_4_method_7_code
def yX2_readProgram : MethodName := ⟨RX2, "readProgram", "(ILSleepSteps$Pad;)V"⟩
abbrev cX2_append : ByteArray := prog_4_method_8_code
def yX2_append : MethodName := ⟨RX2, "append", "(II)V"⟩
abbrev cX2_swapWithNext : ByteArray := prog_4_method_9_code
def yX2_swapWithNext : MethodName := ⟨RX2, "swapWithNext", "(II)V"⟩
abbrev cX2_sameAs : ByteArray := prog_4_method_10_code
def yX2_sameAs : MethodName := ⟨RX2, "sameAs", "(LSleepSteps$Programs;)Z"⟩
abbrev cX2_isWell : ByteArray := prog_4_method_11_code
def yX2_isWell : MethodName := ⟨RX2, "isWell", "(I)Z"⟩
abbrev cX2_heldAfter : ByteArray := prog_4_method_12_code
def yX2_heldAfter : MethodName := ⟨RX2, "heldAfter", "(II)I"⟩
abbrev cX2_conflictsOf : ByteArray := prog_4_method_13_code
def yX2_conflictsOf : MethodName := ⟨RX2, "conflictsOf", "(II)I"⟩
abbrev cX2_conflictingPairs : ByteArray := prog_4_method_14_code
def yX2_conflictingPairs : MethodName := ⟨RX2, "conflictingPairs", "()I"⟩
def RX3 : String := "SleepSteps$Run"
def TX3 : u_T := fun k => match k with
  | 0 => ("SleepSteps$Run", "threads", "[I", true)
  | _ => ("SleepSteps$Run", "length", "I", false)
def tyX3 : Nat → FieldType := fun k => match k with
  | 0 => .array .int
  | _ => .int
abbrev wsX30 : List Cond := u_ws RX3 TX3 2
theorem nmX3 : ∀ a, a < 2 → ∀ b, b < 2 → a ≠ b → (TX3 a).2.1 ≠ (TX3 b).2.1 := by decide +kernel
theorem tyX3_ok : ∀ k, k < 2 → parseFieldDescriptor (TX3 k).2.2.1 = some (tyX3 k) := by decide +kernel
abbrev cX3_init : ByteArray := prog_5_method_1_code
def yX3_init : MethodName := ⟨RX3, "<init>", "()V"⟩
abbrev cX3_length : ByteArray := prog_5_method_2_code
def yX3_length : MethodName := ⟨RX3, "length", "()I"⟩
abbrev cX3_threadAt : ByteArray := prog_5_method_3_code
def yX3_threadAt : MethodName := ⟨RX3, "threadAt", "(I)I"⟩
abbrev cX3_clear : ByteArray := prog_5_method_4_code
def yX3_clear : MethodName := ⟨RX3, "clear", "()V"⟩
abbrev cX3_append : ByteArray := prog_5_method_5_code
def yX3_append : MethodName := ⟨RX3, "append", "(I)V"⟩
abbrev cX3_copyFrom : ByteArray := prog_5_method_6_code
def yX3_copyFrom : MethodName := ⟨RX3, "copyFrom", "(LSleepSteps$Run;)V"⟩
abbrev cX3_readRun : ByteArray := prog_5_method_7_code
def yX3_readRun : MethodName := ⟨RX3, "readRun", "(LSleepSteps$Pad;)V"⟩
abbrev cX3_sameAs : ByteArray := prog_5_method_8_code
def yX3_sameAs : MethodName := ⟨RX3, "sameAs", "(LSleepSteps$Run;)Z"⟩
def RX4 : String := "SleepSteps$RunOrder"
def TX4 : u_T := fun k => match k with
  | 0 => ("SleepSteps$RunOrder", "counts", "[I", true)
  | 1 => ("SleepSteps$RunOrder", "needs", "[I", true)
  | 2 => ("SleepSteps$RunOrder", "chains", "[I", true)
  | 3 => ("SleepSteps$RunOrder", "longestChain", "I", false)
  | 4 => ("SleepSteps$RunOrder", "lastStand", "I", false)
  | _ => ("SleepSteps$RunOrder", "ways", "[J", true)
def tyX4 : Nat → FieldType := fun k => match k with
  | 0 => .array .int
  | 1 => .array .int
  | 2 => .array .int
  | 3 => .int
  | 4 => .int
  | _ => .array .long
abbrev wsX40 : List Cond := u_ws RX4 TX4 6
theorem nmX4 : ∀ a, a < 6 → ∀ b, b < 6 → a ≠ b → (TX4 a).2.1 ≠ (TX4 b).2.1 := by decide +kernel
theorem tyX4_ok : ∀ k, k < 6 → parseFieldDescriptor (TX4 k).2.2.1 = some (tyX4 k) := by decide +kernel
abbrev cX4_init : ByteArray := prog_6_method_1_code
def yX4_init : MethodName := ⟨RX4, "<init>", "()V"⟩
abbrev cX4_lookAt : ByteArray := prog_6_method_2_code
def yX4_lookAt : MethodName := ⟨RX4, "lookAt", "(LSleepSteps$Programs;LSleepSteps$Run;)V"⟩
abbrev cX4_addStep : ByteArray := prog_6_method_3_code
def yX4_addStep : MethodName := ⟨RX4, "addStep", "(LSleepSteps$Programs;I)V"⟩
abbrev cX4_neededSteps : ByteArray := prog_6_method_4_code
def yX4_neededSteps : MethodName := ⟨RX4, "neededSteps", "(LSleepSteps$Programs;II)I"⟩
abbrev cX4_mayGo : ByteArray := prog_6_method_5_code
def yX4_mayGo : MethodName := ⟨RX4, "mayGo", "(II)Z"⟩
abbrev cX4_longestChain : ByteArray := prog_6_method_6_code
def yX4_longestChain : MethodName := ⟨RX4, "longestChain", "()I"⟩
abbrev cX4_writeLeast : ByteArray := prog_6_method_7_code
def yX4_writeLeast : MethodName := ⟨RX4, "writeLeast", "(LSleepSteps$Run;)V"⟩
abbrev cX4_leastThatMayGo : ByteArray := prog_6_method_8_code
def yX4_leastThatMayGo : MethodName := ⟨RX4, "leastThatMayGo", "(I)I"⟩
abbrev cX4_linearOrders : ByteArray := prog_6_method_9_code
def yX4_linearOrders : MethodName := ⟨RX4, "linearOrders", "()J"⟩
def RX5 : String := "SleepSteps$StandSpace"
def TX5 : u_T := fun k => match k with
  | 0 => ("SleepSteps$StandSpace", "programs", "LSleepSteps$Programs;", true)
  | 1 => ("SleepSteps$StandSpace", "isExplored", "Z", false)
  | 2 => ("SleepSteps$StandSpace", "heldByThread", "[I", true)
  | 3 => ("SleepSteps$StandSpace", "goers", "[I", true)
  | 4 => ("SleepSteps$StandSpace", "runsTo", "[J", true)
  | 5 => ("SleepSteps$StandSpace", "isSleepExplored", "Z", false)
  | 6 => ("SleepSteps$StandSpace", "timesAsleep", "[J", true)
  | 7 => ("SleepSteps$StandSpace", "sleepEnds", "J", false)
  | 8 => ("SleepSteps$StandSpace", "sleepCuts", "J", false)
  | 9 => ("SleepSteps$StandSpace", "sleepDeadlocks", "I", false)
  | 10 => ("SleepSteps$StandSpace", "leadsToShortest", "[Z", true)
  | _ => ("SleepSteps$StandSpace", "way", "LSleepSteps$Run;", true)
def tyX5 : Nat → FieldType := fun k => match k with
  | 0 => .object "SleepSteps$Programs"
  | 1 => .boolean
  | 2 => .array .int
  | 3 => .array .int
  | 4 => .array .long
  | 5 => .boolean
  | 6 => .array .long
  | 7 => .long
  | 8 => .long
  | 9 => .int
  | 10 => .array .boolean
  | _ => .object "SleepSteps$Run"
abbrev wsX50 : List Cond := u_ws RX5 TX5 12
theorem nmX5 : ∀ a, a < 12 → ∀ b, b < 12 → a ≠ b → (TX5 a).2.1 ≠ (TX5 b).2.1 := by decide +kernel
theorem tyX5_ok : ∀ k, k < 12 → parseFieldDescriptor (TX5 k).2.2.1 = some (tyX5 k) := by decide +kernel
abbrev cX5_init : ByteArray := prog_7_method_1_code
def yX5_init : MethodName := ⟨RX5, "<init>", "()V"⟩
abbrev cX5_lookAt : ByteArray := prog_7_method_2_code
def yX5_lookAt : MethodName := ⟨RX5, "lookAt", "(LSleepSteps$Programs;)V"⟩
abbrev cX5_noteHeldLocks : ByteArray := prog_7_method_3_code
def yX5_noteHeldLocks : MethodName := ⟨RX5, "noteHeldLocks", "()V"⟩
abbrev cX5_goFrom : ByteArray := prog_7_method_4_code
def yX5_goFrom : MethodName := ⟨RX5, "goFrom", "(I)V"⟩
abbrev cX5_threadsThatCanGo : ByteArray := prog_7_method_5_code
def yX5_threadsThatCanGo : MethodName := ⟨RX5, "threadsThatCanGo", "(I)I"⟩
abbrev cX5_nextStep : ByteArray := prog_7_method_6_code
def yX5_nextStep : MethodName := ⟨RX5, "nextStep", "(II)I"⟩
abbrev cX5_heldLocks : ByteArray := prog_7_method_7_code
def yX5_heldLocks : MethodName := ⟨RX5, "heldLocks", "(I)I"⟩
abbrev cX5_unfinishedThreads : ByteArray := prog_7_method_8_code
def yX5_unfinishedThreads : MethodName := ⟨RX5, "unfinishedThreads", "(I)I"⟩
abbrev cX5_isReachable : ByteArray := prog_7_method_9_code
def yX5_isReachable : MethodName := ⟨RX5, "isReachable", "(I)Z"⟩
abbrev cX5_isEnd : ByteArray := prog_7_method_10_code
def yX5_isEnd : MethodName := ⟨RX5, "isEnd", "(I)Z"⟩
abbrev cX5_isDeadlock : ByteArray := prog_7_method_11_code
def yX5_isDeadlock : MethodName := ⟨RX5, "isDeadlock", "(I)Z"⟩
abbrev cX5_canRun : ByteArray := prog_7_method_12_code
def yX5_canRun : MethodName := ⟨RX5, "canRun", "(LSleepSteps$Run;)Z"⟩
abbrev cX5_reachableStands : ByteArray := prog_7_method_13_code
def yX5_reachableStands : MethodName := ⟨RX5, "reachableStands", "()I"⟩
abbrev cX5_ends : ByteArray := prog_7_method_14_code
def yX5_ends : MethodName := ⟨RX5, "ends", "()I"⟩
abbrev cX5_deadlocks : ByteArray := prog_7_method_15_code
def yX5_deadlocks : MethodName := ⟨RX5, "deadlocks", "()I"⟩
abbrev cX5_deadlockAt : ByteArray := prog_7_method_16_code
def yX5_deadlockAt : MethodName := ⟨RX5, "deadlockAt", "(I)I"⟩
abbrev cX5_wholeRuns : ByteArray := prog_7_method_17_code
def yX5_wholeRuns : MethodName := ⟨RX5, "wholeRuns", "()J"⟩
abbrev cX5_wholeRunsToDeadlocks : ByteArray := prog_7_method_18_code
def yX5_wholeRunsToDeadlocks : MethodName := ⟨RX5, "wholeRunsToDeadlocks", "()J"⟩
abbrev cX5_exploreWithSleepSets : ByteArray := prog_7_method_19_code
def yX5_exploreWithSleepSets : MethodName := ⟨RX5, "exploreWithSleepSets", "()V"⟩
abbrev cX5_exploreFrom : ByteArray := prog_7_method_20_code
def yX5_exploreFrom : MethodName := ⟨RX5, "exploreFrom", "(I)V"⟩
abbrev cX5_exploreWith : ByteArray := prog_7_method_21_code
def yX5_exploreWith : MethodName := ⟨RX5, "exploreWith", "(IIJ)V"⟩
abbrev cX5_stillAsleep : ByteArray := prog_7_method_22_code
def yX5_stillAsleep : MethodName := ⟨RX5, "stillAsleep", "(III)I"⟩
abbrev cX5_sleepEnds : ByteArray := prog_7_method_23_code
def yX5_sleepEnds : MethodName := ⟨RX5, "sleepEnds", "()J"⟩
abbrev cX5_sleepCuts : ByteArray := prog_7_method_24_code
def yX5_sleepCuts : MethodName := ⟨RX5, "sleepCuts", "()J"⟩
abbrev cX5_sleepDeadlocks : ByteArray := prog_7_method_25_code
def yX5_sleepDeadlocks : MethodName := ⟨RX5, "sleepDeadlocks", "()I"⟩
abbrev cX5_leastShortestWay : ByteArray := prog_7_method_26_code
def yX5_leastShortestWay : MethodName := ⟨RX5, "leastShortestWay", "()LSleepSteps$Run;"⟩
abbrev cX5_shortestWay : ByteArray := prog_7_method_27_code
def yX5_shortestWay : MethodName := ⟨RX5, "shortestWay", "()I"⟩
abbrev cX5_markWaysOf : ByteArray := prog_7_method_28_code
def yX5_markWaysOf : MethodName := ⟨RX5, "markWaysOf", "(I)V"⟩
abbrev cX5_leastLeading : ByteArray := prog_7_method_29_code
def yX5_leastLeading : MethodName := ⟨RX5, "leastLeading", "(I)I"⟩
def RX6 : String := "SleepSteps$State"
def TX6 : u_T := fun k => match k with
  | 0 => ("SleepSteps$State", "programs", "LSleepSteps$Programs;", true)
  | _ => ("SleepSteps$State", "run", "LSleepSteps$Run;", true)
def tyX6 : Nat → FieldType := fun k => match k with
  | 0 => .object "SleepSteps$Programs"
  | _ => .object "SleepSteps$Run"
abbrev wsX60 : List Cond := u_ws RX6 TX6 2
theorem nmX6 : ∀ a, a < 2 → ∀ b, b < 2 → a ≠ b → (TX6 a).2.1 ≠ (TX6 b).2.1 := by decide +kernel
theorem tyX6_ok : ∀ k, k < 2 → parseFieldDescriptor (TX6 k).2.2.1 = some (tyX6 k) := by decide +kernel
abbrev cX6_init : ByteArray := prog_8_method_1_code
def yX6_init : MethodName := ⟨RX6, "<init>", "()V"⟩
abbrev cX6_copyFrom : ByteArray := prog_8_method_2_code
def yX6_copyFrom : MethodName := ⟨RX6, "copyFrom", "(LSleepSteps$State;)V"⟩
def RX7 : String := "SleepSteps"
def TX7 : u_T := fun k => match k with
  | 0 => ("SleepSteps", "pad", "LSleepSteps$Pad;", true)
  | 1 => ("SleepSteps", "now", "LSleepSteps$State;", true)
  | 2 => ("SleepSteps", "history", "LSleepSteps$History;", true)
  | 3 => ("SleepSteps", "saved", "[LSleepSteps$State;", true)
  | 4 => ("SleepSteps", "isSaved", "[Z", true)
  | 5 => ("SleepSteps", "draft", "LSleepSteps$Programs;", true)
  | 6 => ("SleepSteps", "space", "LSleepSteps$StandSpace;", true)
  | 7 => ("SleepSteps", "order", "LSleepSteps$RunOrder;", true)
  | 8 => ("SleepSteps", "padRun", "LSleepSteps$Run;", true)
  | 9 => ("SleepSteps", "leastRun", "LSleepSteps$Run;", true)
  | _ => ("SleepSteps", "otherLeastRun", "LSleepSteps$Run;", true)
def tyX7 : Nat → FieldType := fun k => match k with
  | 0 => .object "SleepSteps$Pad"
  | 1 => .object "SleepSteps$State"
  | 2 => .object "SleepSteps$History"
  | 3 => .array (.object "SleepSteps$State")
  | 4 => .array .boolean
  | 5 => .object "SleepSteps$Programs"
  | 6 => .object "SleepSteps$StandSpace"
  | 7 => .object "SleepSteps$RunOrder"
  | 8 => .object "SleepSteps$Run"
  | 9 => .object "SleepSteps$Run"
  | _ => .object "SleepSteps$Run"
abbrev wsX70 : List Cond := u_ws RX7 TX7 11
theorem nmX7 : ∀ a, a < 11 → ∀ b, b < 11 → a ≠ b → (TX7 a).2.1 ≠ (TX7 b).2.1 := by decide +kernel
theorem tyX7_ok : ∀ k, k < 11 → parseFieldDescriptor (TX7 k).2.2.1 = some (tyX7 k) := by decide +kernel
abbrev cX7_init : ByteArray := prog_1_method_1_code
def yX7_init : MethodName := ⟨RX7, "<init>", "()V"⟩
abbrev cX7_put : ByteArray := prog_1_method_2_code
def yX7_put : MethodName := ⟨RX7, "put", "(J)I"⟩
abbrev cX7_wipe : ByteArray := prog_1_method_3_code
def yX7_wipe : MethodName := ⟨RX7, "wipe", "()I"⟩
abbrev cX7_fault : ByteArray := prog_1_method_4_code
def yX7_fault : MethodName := ⟨RX7, "fault", "(I)I"⟩
abbrev cX7_program : ByteArray := prog_1_method_5_code
def yX7_program : MethodName := ⟨RX7, "program", "(I)I"⟩
abbrev cX7_exchange : ByteArray := prog_1_method_6_code
def yX7_exchange : MethodName := ⟨RX7, "exchange", "(II)I"⟩
abbrev cX7_keep : ByteArray := prog_1_method_7_code
def yX7_keep : MethodName := ⟨RX7, "keep", "()I"⟩
abbrev cX7_changeProgramsToDraft : ByteArray := prog_1_method_8_code
def yX7_changeProgramsToDraft : MethodName := ⟨RX7, "changeProgramsToDraft", "()V"⟩
abbrev cX7_ofStep : ByteArray := prog_1_method_9_code
def yX7_ofStep : MethodName := ⟨RX7, "ofStep", "(III)I"⟩
abbrev cX7_count : ByteArray := prog_1_method_10_code
def yX7_count : MethodName := ⟨RX7, "count", "(I)I"⟩
abbrev cX7_stands : ByteArray := prog_1_method_11_code
def yX7_stands : MethodName := ⟨RX7, "stands", "(I)I"⟩
abbrev cX7_deadlock : ByteArray := prog_1_method_12_code
def yX7_deadlock : MethodName := ⟨RX7, "deadlock", "(II)I"⟩
abbrev cX7_runs : ByteArray := prog_1_method_13_code
def yX7_runs : MethodName := ⟨RX7, "runs", "(I)J"⟩
abbrev cX7_sleeping : ByteArray := prog_1_method_14_code
def yX7_sleeping : MethodName := ⟨RX7, "sleeping", "(I)J"⟩
abbrev cX7_wayToDeadlock : ByteArray := prog_1_method_15_code
def yX7_wayToDeadlock : MethodName := ⟨RX7, "wayToDeadlock", "(I)I"⟩
abbrev cX7_without : ByteArray := prog_1_method_16_code
def yX7_without : MethodName := ⟨RX7, "without", "(I)I"⟩
abbrev cX7_least : ByteArray := prog_1_method_17_code
def yX7_least : MethodName := ⟨RX7, "least", "(I)I"⟩
abbrev cX7_alike : ByteArray := prog_1_method_18_code
def yX7_alike : MethodName := ⟨RX7, "alike", "()I"⟩
abbrev cX7_chain : ByteArray := prog_1_method_19_code
def yX7_chain : MethodName := ⟨RX7, "chain", "()I"⟩
abbrev cX7_lastWrite : ByteArray := prog_1_method_20_code
def yX7_lastWrite : MethodName := ⟨RX7, "lastWrite", "(II)I"⟩
abbrev cX7_alikeRuns : ByteArray := prog_1_method_21_code
def yX7_alikeRuns : MethodName := ⟨RX7, "alikeRuns", "()J"⟩
abbrev cX7_undo : ByteArray := prog_1_method_22_code
def yX7_undo : MethodName := ⟨RX7, "undo", "()I"⟩
abbrev cX7_save : ByteArray := prog_1_method_23_code
def yX7_save : MethodName := ⟨RX7, "save", "(I)I"⟩
abbrev cX7_restore : ByteArray := prog_1_method_24_code
def yX7_restore : MethodName := ⟨RX7, "restore", "(I)I"⟩
abbrev cX7_isThread : ByteArray := prog_1_method_25_code
def yX7_isThread : MethodName := ⟨RX7, "isThread", "(I)Z"⟩
abbrev cX7_isName : ByteArray := prog_1_method_26_code
def yX7_isName : MethodName := ⟨RX7, "isName", "(I)Z"⟩
abbrev cX7_isSlot : ByteArray := prog_1_method_27_code
def yX7_isSlot : MethodName := ⟨RX7, "isSlot", "(I)Z"⟩
abbrev cX7_setOf : ByteArray := prog_1_method_28_code
def yX7_setOf : MethodName := ⟨RX7, "setOf", "(I)I"⟩
abbrev cX7_isIn : ByteArray := prog_1_method_29_code
def yX7_isIn : MethodName := ⟨RX7, "isIn", "(II)Z"⟩
abbrev cX7_codeOf : ByteArray := prog_1_method_30_code
def yX7_codeOf : MethodName := ⟨RX7, "codeOf", "(II)I"⟩
abbrev cX7_kindOf : ByteArray := prog_1_method_31_code
def yX7_kindOf : MethodName := ⟨RX7, "kindOf", "(I)I"⟩
abbrev cX7_nameOf : ByteArray := prog_1_method_32_code
def yX7_nameOf : MethodName := ⟨RX7, "nameOf", "(I)I"⟩
abbrev cX7_commute : ByteArray := prog_1_method_33_code
def yX7_commute : MethodName := ⟨RX7, "commute", "(II)Z"⟩
abbrev cX7_doneBy : ByteArray := prog_1_method_34_code
def yX7_doneBy : MethodName := ⟨RX7, "doneBy", "(II)I"⟩
abbrev cX7_standAfter : ByteArray := prog_1_method_35_code
def yX7_standAfter : MethodName := ⟨RX7, "standAfter", "(II)I"⟩
abbrev cX7_stepsDone : ByteArray := prog_1_method_36_code
def yX7_stepsDone : MethodName := ⟨RX7, "stepsDone", "(I)I"⟩
def RX8 : String := "SleepStepsModel"
def TX8 : u_T := fun k => match k with
  | 0 => ("SleepStepsModel", "now", "[I", true)
  | 1 => ("SleepStepsModel", "past", "[I", true)
  | 2 => ("SleepStepsModel", "pasts", "I", false)
  | 3 => ("SleepStepsModel", "slots", "[I", true)
  | 4 => ("SleepStepsModel", "saved", "I", false)
  | 5 => ("SleepStepsModel", "trial", "[I", true)
  | 6 => ("SleepStepsModel", "pad", "[I", true)
  | 7 => ("SleepStepsModel", "typed", "I", false)
  | 8 => ("SleepStepsModel", "held", "[I", true)
  | 9 => ("SleepStepsModel", "ways", "[J", true)
  | 10 => ("SleepStepsModel", "times", "[J", true)
  | 11 => ("SleepStepsModel", "timesNext", "[J", true)
  | 12 => ("SleepStepsModel", "endings", "J", false)
  | 13 => ("SleepStepsModel", "cuts", "J", false)
  | 14 => ("SleepStepsModel", "ended", "I", false)
  | 15 => ("SleepStepsModel", "leads", "[Z", true)
  | 16 => ("SleepStepsModel", "run", "[I", true)
  | 17 => ("SleepStepsModel", "which", "[I", true)
  | 18 => ("SleepStepsModel", "runMany", "I", false)
  | 19 => ("SleepStepsModel", "row", "[I", true)
  | 20 => ("SleepStepsModel", "taken", "[Z", true)
  | _ => ("SleepStepsModel", "other", "[I", true)
def tyX8 : Nat → FieldType := fun k => match k with
  | 0 => .array .int
  | 1 => .array .int
  | 2 => .int
  | 3 => .array .int
  | 4 => .int
  | 5 => .array .int
  | 6 => .array .int
  | 7 => .int
  | 8 => .array .int
  | 9 => .array .long
  | 10 => .array .long
  | 11 => .array .long
  | 12 => .long
  | 13 => .long
  | 14 => .int
  | 15 => .array .boolean
  | 16 => .array .int
  | 17 => .array .int
  | 18 => .int
  | 19 => .array .int
  | 20 => .array .boolean
  | _ => .array .int
abbrev wsX80 : List Cond := u_ws RX8 TX8 22
theorem nmX8 : ∀ a, a < 22 → ∀ b, b < 22 → a ≠ b → (TX8 a).2.1 ≠ (TX8 b).2.1 := by decide +kernel
theorem tyX8_ok : ∀ k, k < 22 → parseFieldDescriptor (TX8 k).2.2.1 = some (tyX8 k) := by decide +kernel
abbrev cX8_init : ByteArray := prog_10_method_1_code
def yX8_init : MethodName := ⟨RX8, "<init>", "()V"⟩
abbrev cX8_in : ByteArray := prog_10_method_2_code
def yX8_in : MethodName := ⟨RX8, "in", "(III)Z"⟩
abbrev cX8_copies : ByteArray := prog_10_method_3_code
def yX8_copies : MethodName := ⟨RX8, "copies", "([II[II)V"⟩
abbrev cX8_records : ByteArray := prog_10_method_4_code
def yX8_records : MethodName := ⟨RX8, "records", "([I)V"⟩
abbrev cX8_isThread : ByteArray := prog_10_method_5_code
def yX8_isThread : MethodName := ⟨RX8, "isThread", "(I)Z"⟩
abbrev cX8_step : ByteArray := prog_10_method_6_code
def yX8_step : MethodName := ⟨RX8, "step", "(II)I"⟩
abbrev cX8_stepsAll : ByteArray := prog_10_method_7_code
def yX8_stepsAll : MethodName := ⟨RX8, "stepsAll", "()I"⟩
abbrev cX8_commute : ByteArray := prog_10_method_8_code
def yX8_commute : MethodName := ⟨RX8, "commute", "(II)Z"⟩
abbrev cX8_put : ByteArray := prog_10_method_9_code
def yX8_put : MethodName := ⟨RX8, "put", "(J)I"⟩
abbrev cX8_wipe : ByteArray := prog_10_method_10_code
def yX8_wipe : MethodName := ⟨RX8, "wipe", "()I"⟩
abbrev cX8_kindOf : ByteArray := prog_10_method_11_code
def yX8_kindOf : MethodName := ⟨RX8, "kindOf", "(I)I"⟩
abbrev cX8_faultOf : ByteArray := prog_10_method_12_code
def yX8_faultOf : MethodName := ⟨RX8, "faultOf", "(I)I"⟩
abbrev cX8_fault : ByteArray := prog_10_method_13_code
def yX8_fault : MethodName := ⟨RX8, "fault", "(I)I"⟩
abbrev cX8_isWell : ByteArray := prog_10_method_14_code
def yX8_isWell : MethodName := ⟨RX8, "isWell", "(I)Z"⟩
abbrev cX8_program : ByteArray := prog_10_method_15_code
def yX8_program : MethodName := ⟨RX8, "program", "(I)I"⟩
abbrev cX8_exchange : ByteArray := prog_10_method_16_code
def yX8_exchange : MethodName := ⟨RX8, "exchange", "(II)I"⟩
abbrev cX8_figure : ByteArray := prog_10_method_17_code
def yX8_figure : MethodName := ⟨RX8, "figure", "(I)I"⟩
abbrev cX8_done : ByteArray := prog_10_method_18_code
def yX8_done : MethodName := ⟨RX8, "done", "(II)I"⟩
abbrev cX8_laysHeld : ByteArray := prog_10_method_19_code
def yX8_laysHeld : MethodName := ⟨RX8, "laysHeld", "()V"⟩
abbrev cX8_heldBut : ByteArray := prog_10_method_20_code
def yX8_heldBut : MethodName := ⟨RX8, "heldBut", "(II)I"⟩
abbrev cX8_hasNext : ByteArray := prog_10_method_21_code
def yX8_hasNext : MethodName := ⟨RX8, "hasNext", "(II)Z"⟩
abbrev cX8_canGo : ByteArray := prog_10_method_22_code
def yX8_canGo : MethodName := ⟨RX8, "canGo", "(II)Z"⟩
abbrev cX8_isEnd : ByteArray := prog_10_method_23_code
def yX8_isEnd : MethodName := ⟨RX8, "isEnd", "(I)Z"⟩
abbrev cX8_isDeadlock : ByteArray := prog_10_method_24_code
def yX8_isDeadlock : MethodName := ⟨RX8, "isDeadlock", "(I)Z"⟩
abbrev cX8_laysWays : ByteArray := prog_10_method_25_code
def yX8_laysWays : MethodName := ⟨RX8, "laysWays", "()V"⟩
abbrev cX8_length : ByteArray := prog_10_method_26_code
def yX8_length : MethodName := ⟨RX8, "length", "(I)I"⟩
abbrev cX8_deadlocks : ByteArray := prog_10_method_27_code
def yX8_deadlocks : MethodName := ⟨RX8, "deadlocks", "()I"⟩
abbrev cX8_stands : ByteArray := prog_10_method_28_code
def yX8_stands : MethodName := ⟨RX8, "stands", "(I)I"⟩
abbrev cX8_toldOf : ByteArray := prog_10_method_29_code
def yX8_toldOf : MethodName := ⟨RX8, "toldOf", "(II)I"⟩
abbrev cX8_deadlock : ByteArray := prog_10_method_30_code
def yX8_deadlock : MethodName := ⟨RX8, "deadlock", "(II)I"⟩
abbrev cX8_runs : ByteArray := prog_10_method_31_code
def yX8_runs : MethodName := ⟨RX8, "runs", "(I)J"⟩
abbrev cX8_asleep : ByteArray := prog_10_method_32_code
def yX8_asleep : MethodName := ⟨RX8, "asleep", "(III)I"⟩
abbrev cX8_explores : ByteArray := prog_10_method_33_code
def yX8_explores : MethodName := ⟨RX8, "explores", "(III)V"⟩
abbrev cX8_sleeps : ByteArray := prog_10_method_34_code
def yX8_sleeps : MethodName := ⟨RX8, "sleeps", "()V"⟩
abbrev cX8_sleeping : ByteArray := prog_10_method_35_code
def yX8_sleeping : MethodName := ⟨RX8, "sleeping", "(I)J"⟩
abbrev cX8_nearest : ByteArray := prog_10_method_36_code
def yX8_nearest : MethodName := ⟨RX8, "nearest", "()I"⟩
abbrev cX8_wayToDeadlock : ByteArray := prog_10_method_37_code
def yX8_wayToDeadlock : MethodName := ⟨RX8, "wayToDeadlock", "(I)I"⟩
abbrev cX8_without : ByteArray := prog_10_method_38_code
def yX8_without : MethodName := ⟨RX8, "without", "(I)I"⟩
abbrev cX8_goesAll : ByteArray := prog_10_method_39_code
def yX8_goesAll : MethodName := ⟨RX8, "goesAll", "()Z"⟩
abbrev cX8_takesPad : ByteArray := prog_10_method_40_code
def yX8_takesPad : MethodName := ⟨RX8, "takesPad", "()Z"⟩
abbrev cX8_takesKept : ByteArray := prog_10_method_41_code
def yX8_takesKept : MethodName := ⟨RX8, "takesKept", "()V"⟩
abbrev cX8_isTied : ByteArray := prog_10_method_42_code
def yX8_isTied : MethodName := ⟨RX8, "isTied", "(II)Z"⟩
abbrev cX8_isFree : ByteArray := prog_10_method_43_code
def yX8_isFree : MethodName := ⟨RX8, "isFree", "(I)Z"⟩
abbrev cX8_laysLeast : ByteArray := prog_10_method_44_code
def yX8_laysLeast : MethodName := ⟨RX8, "laysLeast", "()V"⟩
abbrev cX8_keep : ByteArray := prog_10_method_45_code
def yX8_keep : MethodName := ⟨RX8, "keep", "()I"⟩
abbrev cX8_least : ByteArray := prog_10_method_46_code
def yX8_least : MethodName := ⟨RX8, "least", "(I)I"⟩
abbrev cX8_alike : ByteArray := prog_10_method_47_code
def yX8_alike : MethodName := ⟨RX8, "alike", "()I"⟩
abbrev cX8_chain : ByteArray := prog_10_method_48_code
def yX8_chain : MethodName := ⟨RX8, "chain", "()I"⟩
abbrev cX8_lastWrite : ByteArray := prog_10_method_49_code
def yX8_lastWrite : MethodName := ⟨RX8, "lastWrite", "(II)I"⟩
abbrev cX8_comesNext : ByteArray := prog_10_method_50_code
def yX8_comesNext : MethodName := ⟨RX8, "comesNext", "(II)Z"⟩
abbrev cX8_alikeRuns : ByteArray := prog_10_method_51_code
def yX8_alikeRuns : MethodName := ⟨RX8, "alikeRuns", "()J"⟩
abbrev cX8_notWith : ByteArray := prog_10_method_52_code
def yX8_notWith : MethodName := ⟨RX8, "notWith", "(II)I"⟩
abbrev cX8_ofStep : ByteArray := prog_10_method_53_code
def yX8_ofStep : MethodName := ⟨RX8, "ofStep", "(III)I"⟩
abbrev cX8_count : ByteArray := prog_10_method_54_code
def yX8_count : MethodName := ⟨RX8, "count", "(I)I"⟩
abbrev cX8_undo : ByteArray := prog_10_method_55_code
def yX8_undo : MethodName := ⟨RX8, "undo", "()I"⟩
abbrev cX8_save : ByteArray := prog_10_method_56_code
def yX8_save : MethodName := ⟨RX8, "save", "(I)I"⟩
abbrev cX8_restore : ByteArray := prog_10_method_57_code
def yX8_restore : MethodName := ⟨RX8, "restore", "(I)I"⟩
def RJ9 : String := "java/lang/Math"
def TJ9 : u_T := fun k => match k with
  | _ => ("", "", "", false)
def tyJ9 : Nat → FieldType := fun k => match k with
  | _ => .int
abbrev wsJ90 : List Cond := u_ws RJ9 TJ9 0
theorem nmJ9 : ∀ a, a < 0 → ∀ b, b < 0 → a ≠ b → (TJ9 a).2.1 ≠ (TJ9 b).2.1 := by decide +kernel
theorem tyJ9_ok : ∀ k, k < 0 → parseFieldDescriptor (TJ9 k).2.2.1 = some (tyJ9 k) := by decide +kernel
abbrev cJ9_max_7cf53 : ByteArray := prog_11_method_65_code
def yJ9_max_7cf53 : MethodName := ⟨RJ9, "max", "(II)I"⟩
def RJ10 : String := "java/lang/System"
def TJ10 : u_T := fun k => match k with
  | _ => ("", "", "", false)
def tyJ10 : Nat → FieldType := fun k => match k with
  | _ => .int
abbrev wsJ100 : List Cond := u_ws RJ10 TJ10 0
theorem nmJ10 : ∀ a, a < 0 → ∀ b, b < 0 → a ≠ b → (TJ10 a).2.1 ≠ (TJ10 b).2.1 := by decide +kernel
theorem tyJ10_ok : ∀ k, k < 0 → parseFieldDescriptor (TJ10 k).2.2.1 = some (tyJ10 k) := by decide +kernel
def RJ7 : String := "java/util/Arrays"
def TJ7 : u_T := fun k => match k with
  | _ => ("", "", "", false)
def tyJ7 : Nat → FieldType := fun k => match k with
  | _ => .int
abbrev wsJ70 : List Cond := u_ws RJ7 TJ7 0
theorem nmJ7 : ∀ a, a < 0 → ∀ b, b < 0 → a ≠ b → (TJ7 a).2.1 ≠ (TJ7 b).2.1 := by decide +kernel
theorem tyJ7_ok : ∀ k, k < 0 → parseFieldDescriptor (TJ7 k).2.2.1 = some (tyJ7 k) := by decide +kernel
abbrev cJ7_fill_d0a16 : ByteArray := prog_13_method_101_code
def yJ7_fill_d0a16 : MethodName := ⟨RJ7, "fill", "([JJ)V"⟩
abbrev cJ7_fill_53178 : ByteArray := prog_13_method_103_code
def yJ7_fill_53178 : MethodName := ⟨RJ7, "fill", "([II)V"⟩
def RL : String := "SleepStepsLaw"
abbrev cL_law : ByteArray := code
def yL_law : MethodName := ⟨RL, "law", "([I)Z"⟩
abbrev vwCl : List vw_C := [(RX0, TX0, 3), (RX1, TX1, 2), (RX2, TX2, 2), (RX3, TX3, 2), (RX4, TX4, 6), (RX5, TX5, 12), (RX6, TX6, 2), (RX7, TX7, 11), (RX8, TX8, 22)]
end
section
/-! THE EXECUTOR: methods as data, run over a world whose cells have fixed places (tag, number). Nothing here speaks of the machine. -/
abbrev ZV : Type := Int32 ⊕ (Int64 ⊕ (Nat × Nat))
abbrev Wd : Type := (Nat → Nat → Nat → Int32) × (Nat → Nat → Nat → Int64)
abbrev Lo : Type := List (Option ZV)
abbrev zi (x : Int32) : ZV := Sum.inl x
abbrev zl (x : Int64) : ZV := Sum.inr (Sum.inl x)
abbrev zr (t i : Nat) : ZV := Sum.inr (Sum.inr (t, i))
def zget : Lo → Nat → Option ZV
  | [], _ => none
  | a :: _, 0 => a
  | _ :: l, n + 1 => zget l n
def zset : Lo → Nat → Option ZV → Lo
  | [], _, _ => []
  | _ :: l, 0, v => v :: l
  | a :: l, n + 1, v => a :: zset l n v
def zkill (lo : Lo) : Nat → Lo
  | 0 => lo
  | j + 1 => match zget lo j with
    | some (Sum.inr (Sum.inl _)) => zset lo j none
    | _ => lo
def zst1 (lo : Lo) (i : Nat) (v : ZV) : Lo := zset (zkill lo i) i (some v)
def zst2 (lo : Lo) (i : Nat) (v : ZV) : Lo := zset (zset (zkill lo i) i (some v)) (i + 1) none
def zmask : List Bool → Lo → Lo
  | [], _ => []
  | _, [] => []
  | b :: bs, v :: l => (bif b then v else none) :: zmask bs l
def wI (w : Wd) (t i j : Nat) (x : Int32) : Wd := (fun a b c => if a = t ∧ b = i ∧ c = j then x else w.1 a b c, w.2)
def wL (w : Wd) (t i j : Nat) (x : Int64) : Wd := (w.1, fun a b c => if a = t ∧ b = i ∧ c = j then x else w.2 a b c)
/-- a run of ints of one row into another -/
def wC (w : Wd) (t0 i0 sp t1 i1 dp n : Nat) : Wd := (fun a b c => if a = t1 ∧ b = i1 ∧ dp ≤ c ∧ c < dp + n then w.1 t0 i0 (sp + (c - dp)) else w.1 a b c, w.2)
def zop {α : Type} : List (Nat × α) → Nat → Option α
  | [], _ => none
  | p :: r, k => bif Nat.beq p.1 k then some p.2 else zop r k
def zn {α : Type} : List α → Nat → Option α
  | [], _ => none
  | a :: _, 0 => some a
  | _ :: l, n + 1 => zn l n
/-- how many cells of a tag -/
def zC : List (Nat × Nat) := [(0, 1), (1, 1), (2, 11), (3, 13), (4, 1), (5, 1), (6, 9), (7, 1), (8, 1), (10, 1), (11, 11), (12, 11), (13, 13), (14, 2), (15, 1), (16, 1), (17, 3), (18, 1), (19, 1), (20, 1), (21, 1), (22, 1), (30, 4), (31, 1), (32, 1), (33, 1), (34, 1), (35, 1), (36, 1), (37, 1), (38, 1), (39, 1), (40, 1), (41, 1), (50, 1)]
def zcnt (t : Nat) : Nat := match zop zC t with
  | some n => n
  | none => 0
/-- the rows: kind (1 int, 2 boolean, 3 long, 4 State, 5 the script), length -/
def zR : List (Nat × (Nat × (Nat → Wd → Nat))) := [(10, 1, fun _ _ => 40), (11, 1, fun _ _ => 24), (12, 1, fun _ _ => 4), (13, 1, fun _ _ => 24), (14, 1, fun i _ => if i = 0 then 4 else 4096), (15, 1, fun _ _ => 96), (16, 1, fun _ _ => 24), (17, 3, fun i _ => if i = 2 then 65536 else 4096), (18, 1, fun _ _ => 32), (19, 2, fun _ _ => 4096), (20, 4, fun _ _ => 6), (21, 4, fun _ _ => 2), (22, 2, fun _ _ => 2), (30, 1, fun i _ => if i = 1 then 318 else if i = 2 then 106 else 53), (31, 1, fun _ _ => 40), (32, 1, fun _ _ => 28), (33, 3, fun _ _ => 2401), (34, 3, fun _ _ => 5488), (35, 3, fun _ _ => 5488), (36, 2, fun _ _ => 2401), (37, 1, fun _ _ => 24), (38, 1, fun _ _ => 24), (39, 1, fun _ _ => 24), (40, 2, fun _ _ => 24), (41, 1, fun _ _ => 24), (50, 5, fun _ w => (w.1 51 0 0).toNatClampNeg)]
def zkd (t : Nat) : Nat := match zop zR t with
  | some q => q.1
  | none => 0
def zlen (t i : Nat) (w : Wd) : Nat := match zop zR t with
  | some q => q.2 i w
  | none => 0
/-- fields: 0 int, 1 boolean, 2 long, 3 a cell of a fixed number, 4 a cell of the same number -/
def zF : List (Nat × List (Nat × Nat × Nat)) := [
  (0, [(3, 20, 0), (0, 0, 0), (0, 0, 0)]),
  (1, [(3, 10, 0), (0, 0, 0)]),
  (2, [(4, 11, 0), (4, 12, 0)]),
  (3, [(4, 13, 0), (0, 0, 0)]),
  (4, [(3, 14, 0), (3, 15, 0), (3, 16, 0), (0, 0, 0), (0, 0, 0), (3, 17, 0)]),
  (5, [(3, 2, 10), (1, 0, 0), (3, 18, 0), (3, 14, 1), (3, 17, 1), (1, 0, 0), (3, 17, 2), (2, 0, 0), (2, 0, 0), (0, 0, 0), (3, 19, 0), (3, 3, 12)]),
  (6, [(4, 2, 0), (4, 3, 0)]),
  (7, [(3, 1, 0), (3, 6, 0), (3, 0, 0), (3, 21, 0), (3, 22, 0), (3, 2, 9), (3, 5, 0), (3, 4, 0), (3, 3, 9), (3, 3, 10), (3, 3, 11)]),
  (8, [(3, 30, 0), (3, 30, 1), (0, 0, 0), (3, 30, 2), (0, 0, 0), (3, 30, 3), (3, 31, 0), (0, 0, 0), (3, 32, 0), (3, 33, 0), (3, 34, 0), (3, 35, 0), (2, 0, 0), (2, 0, 0), (0, 0, 0), (3, 36, 0), (3, 37, 0), (3, 38, 0), (0, 0, 0), (3, 39, 0), (3, 40, 0), (3, 41, 0)])]
def zfs (t : Nat) : List (Nat × Nat × Nat) := match zop zF t with
  | some l => l
  | none => []
def zval (q : Nat × Nat × Nat) (t i k : Nat) (w : Wd) : ZV :=
  bif Nat.beq q.1 3 then zr q.2.1 q.2.2 else bif Nat.beq q.1 4 then zr q.2.1 i else bif Nat.beq q.1 2 then zl (w.2 t i k) else zi (w.1 t i k)
def zvals (t i : Nat) (w : Wd) : Nat → List (Nat × Nat × Nat) → List ZV
  | _, [] => []
  | k, q :: r => zval q t i k w :: zvals t i w (k + 1) r
section EX
variable {ρ : Type}
abbrev ZJ (ρ : Type) : Type := Nat → List ZV → Lo → Wd → Option ρ
abbrev ZCall (ρ : Type) : Type := List ZV → Wd → (Option ZV → Wd → Option ρ) → Option ρ
abbrev ZRow : Type := Instr × Nat × Nat × List (Int × Nat)
def pI (st : List ZV) (f : Int32 → List ZV → Option ρ) : Option ρ := match st with
  | Sum.inl x :: r => f x r
  | _ => none
def pL (st : List ZV) (f : Int64 → List ZV → Option ρ) : Option ρ := match st with
  | Sum.inr (Sum.inl x) :: r => f x r
  | _ => none
def pR (st : List ZV) (f : Nat → Nat → List ZV → Option ρ) : Option ρ := match st with
  | Sum.inr (Sum.inr q) :: r => f q.1 q.2 r
  | _ => none
def pE (st : List ZV) (f : Option ρ) : Option ρ := match st with
  | [] => f
  | _ => none
def gI (lo : Lo) (k : Nat) (f : Int32 → Option ρ) : Option ρ := match zget lo k with
  | some (Sum.inl x) => f x
  | _ => none
def gL (lo : Lo) (k : Nat) (f : Int64 → Option ρ) : Option ρ := match zget lo k with
  | some (Sum.inr (Sum.inl x)) => f x
  | _ => none
def gR (lo : Lo) (k : Nat) (f : Nat → Nat → Option ρ) : Option ρ := match zget lo k with
  | some (Sum.inr (Sum.inr q)) => f q.1 q.2
  | _ => none
def oB {α : Type} (o : Option α) (f : α → Option ρ) : Option ρ := match o with
  | some a => f a
  | none => none
def zif (b : Bool) (f : Option ρ) : Option ρ := match b with
  | true => f
  | false => none
/-- the index is in range -/
def chk (x : Int32) (n : Nat) (f : Option ρ) : Option ρ := if x < 0 ∨ n ≤ x.toNatClampNeg then none else f
/-- 0 or 1 -/
def zb (x : Int32) (f : Option ρ) : Option ρ := if x = 0 ∨ x = 1 then f else none
def zsw (x : Int32) (d : Option ρ) (J : Nat → Option ρ) : List (Int × Nat) → Option ρ
  | [] => d
  | p :: r => if x = Int32.ofInt p.1 then J p.2 else zsw x d J r
def zcat : List ZV → Nat
  | [] => 0
  | Sum.inr (Sum.inl _) :: r => 2 + zcat r
  | _ :: r => 1 + zcat r
def zpop : Nat → List ZV → List ZV → (List ZV → List ZV → Option ρ) → Option ρ
  | 0, st, acc, f => f acc st
  | n + 1, v :: st, acc, f => zpop n st (v :: acc) f
  | _ + 1, [], _, _ => none
def zic (c : Jvm.ClassFile.Cond) (x y : Int32) (a b : Option ρ) : Option ρ := match c with
  | .eq => if x = y then a else b
  | .ne => if x = y then b else a
  | .lt => if x < y then a else b
  | .ge => if y ≤ x then a else b
  | .gt => if y < x then a else b
  | .le => if x ≤ y then a else b
def zif0 (c : Jvm.ClassFile.Cond) (x : Int32) (a b : Option ρ) : Option ρ := match c with
  | .eq => if x = 0 then a else b
  | .ne => if x = 0 then b else a
  | .lt => if x < 0 then a else b
  | .ge => if 0 ≤ x then a else b
  | .gt => if 0 < x then a else b
  | .le => if x ≤ 0 then a else b
def zinv (cM : List (Nat × Nat × ZCall ρ)) (k : Nat) (st : List ZV) (lo : Lo) (w : Wd) (K : List ZV → Lo → Wd → Option ρ) : Option ρ :=
  oB (zop cM k) fun e => zpop e.1 st [] fun as r => zif (Nat.ble (zcat r) 8) (e.2 as w fun v w' => K (v.toList ++ r) lo w')
def zgf (cF : List (Nat × Nat × Nat)) (k : Nat) (st : List ZV) (lo : Lo) (w : Wd) (K : List ZV → Lo → Wd → Option ρ) : Option ρ :=
  pR st fun t i r => oB (zop cF k) fun e => zif (Nat.beq t e.1) (oB (zn (zfs t) e.2) fun q => K (zval q t i e.2 w :: r) lo w)
def zpf (cF : List (Nat × Nat × Nat)) (k : Nat) (st : List ZV) (lo : Lo) (w : Wd) (K : List ZV → Lo → Wd → Option ρ) : Option ρ := match st with
  | Sum.inl x :: r => pR r fun t i r => oB (zop cF k) fun e => zif (Nat.beq t e.1) (oB (zn (zfs t) e.2) fun q => match q.1 with
    | 0 => K r lo (wI w t i e.2 x)
    | 1 => zb x (K r lo (wI w t i e.2 x))
    | _ => none)
  | Sum.inr (Sum.inl x) :: r => pR r fun t i r => oB (zop cF k) fun e => zif (Nat.beq t e.1) (oB (zn (zfs t) e.2) fun q => match q.1 with
    | 2 => K r lo (wL w t i e.2 x)
    | _ => none)
  | _ => none
def zdup (st : List ZV) (K : List ZV → Option ρ) : Option ρ := match st with
  | Sum.inl x :: r => K (zi x :: zi x :: r)
  | Sum.inr (Sum.inr q) :: r => K (zr q.1 q.2 :: zr q.1 q.2 :: r)
  | _ => none
def zstp (cF : List (Nat × Nat × Nat)) (cL : List (Nat × Int64)) (cM : List (Nat × Nat × ZCall ρ)) (ret : Option ZV → Wd → Option ρ) (i : Instr) (tgt : Nat) (sw : List (Int × Nat)) (st : List ZV) (lo : Lo) (w : Wd) (K : List ZV → Lo → Wd → Option ρ) (J : ZJ ρ) : Option ρ := match i with
  | .iconst n => K (zi (Int32.ofInt n) :: st) lo w
  | .bipush n => K (zi (Int32.ofInt n) :: st) lo w
  | .sipush n => K (zi (Int32.ofInt n) :: st) lo w
  | .lconst n => K (zl (Int64.ofInt (n.val : Nat)) :: st) lo w
  | .ldc2_w k => oB (zop cL k) fun v => K (zl v :: st) lo w
  | .iload k => gI lo k fun x => K (zi x :: st) lo w
  | .iload_n k => gI lo k.val fun x => K (zi x :: st) lo w
  | .lload k => gL lo k fun x => K (zl x :: st) lo w
  | .lload_n k => gL lo k.val fun x => K (zl x :: st) lo w
  | .aload k => gR lo k fun t i => K (zr t i :: st) lo w
  | .aload_n k => gR lo k.val fun t i => K (zr t i :: st) lo w
  | .istore k => pI st fun x r => K r (zst1 lo k (zi x)) w
  | .istore_n k => pI st fun x r => K r (zst1 lo k.val (zi x)) w
  | .lstore k => pL st fun x r => K r (zst2 lo k (zl x)) w
  | .lstore_n k => pL st fun x r => K r (zst2 lo k.val (zl x)) w
  | .astore k => pR st fun t i r => K r (zst1 lo k (zr t i)) w
  | .astore_n k => pR st fun t i r => K r (zst1 lo k.val (zr t i)) w
  | .iinc k n => gI lo k fun x => K st (zst1 lo k (zi (x + Int32.ofInt n))) w
  | .iadd => pI st fun y r => pI r fun x r => K (zi (x + y) :: r) lo w
  | .isub => pI st fun y r => pI r fun x r => K (zi (x - y) :: r) lo w
  | .imul => pI st fun y r => pI r fun x r => K (zi (x * y) :: r) lo w
  | .iand => pI st fun y r => pI r fun x r => K (zi (x &&& y) :: r) lo w
  | .ior => pI st fun y r => pI r fun x r => K (zi (x ||| y) :: r) lo w
  | .ixor => pI st fun y r => pI r fun x r => K (zi (x ^^^ y) :: r) lo w
  | .idiv => pI st fun y r => pI r fun x r => if y = 0 then none else K (zi (x / y) :: r) lo w
  | .irem => pI st fun y r => pI r fun x r => if y = 0 then none else K (zi (x - x / y * y) :: r) lo w
  | .ishl => pI st fun y r => pI r fun x r => K (zi (x <<< (y &&& 31)) :: r) lo w
  | .ishr => pI st fun y r => pI r fun x r => K (zi (x >>> (y &&& 31)) :: r) lo w
  | .ladd => pL st fun y r => pL r fun x r => K (zl (x + y) :: r) lo w
  | .land => pL st fun y r => pL r fun x r => K (zl (x &&& y) :: r) lo w
  | .lor => pL st fun y r => pL r fun x r => K (zl (x ||| y) :: r) lo w
  | .lushr => pI st fun y r => pL r fun x r => K (zl (x.toUInt64 >>> (y.toInt64.toUInt64 &&& Int64.toUInt64 63)).toInt64 :: r) lo w
  | .lshl => pI st fun y r => pL r fun x r => K (zl (x <<< (y.toInt64 &&& 63)) :: r) lo w
  | .lcmp => pL st fun y r => pL r fun x r => K (zi (lg_cmp x y) :: r) lo w
  | .i2l => pI st fun x r => K (zl x.toInt64 :: r) lo w
  | .l2i => pL st fun x r => K (zi x.toInt32 :: r) lo w
  | .dup => zdup st fun r => K r lo w
  | .dup2 => pI st fun x r => pR r fun t i r => K (zi x :: zr t i :: zi x :: zr t i :: r) lo w
  | .goto _ => J tgt st lo w
  | .ifCond c _ => pI st fun x r => zif0 c x (J tgt r lo w) (K r lo w)
  | .if_icmp c _ => pI st fun y r => pI r fun x r => zic c x y (J tgt r lo w) (K r lo w)
  | .tableswitch _ _ _ _ => pI st fun x r => zsw x (J tgt r lo w) (fun t => J t r lo w) sw
  | .lookupswitch _ _ => pI st fun x r => zsw x (J tgt r lo w) (fun t => J t r lo w) sw
  | .getfield k => zgf cF k st lo w K
  | .putfield k => zpf cF k st lo w K
  | .iaload => pI st fun x r => pR r fun t i r => zif (Nat.beq (zkd t) 1 || Nat.beq (zkd t) 5) (chk x (zlen t i w) (K (zi (w.1 t i x.toNatClampNeg) :: r) lo w))
  | .baload => pI st fun x r => pR r fun t i r => zif (Nat.beq (zkd t) 2) (chk x (zlen t i w) (K (zi (w.1 t i x.toNatClampNeg) :: r) lo w))
  | .laload => pI st fun x r => pR r fun t i r => zif (Nat.beq (zkd t) 3) (chk x (zlen t i w) (K (zl (w.2 t i x.toNatClampNeg) :: r) lo w))
  | .aaload => pI st fun x r => pR r fun t i r => match Nat.beq t 20 with
    | true => chk x 6 (K (zr 6 (1 + x.toNatClampNeg) :: r) lo w)
    | false => zif (Nat.beq t 21) (chk x 2 (K (zr 6 (7 + x.toNatClampNeg) :: r) lo w))
  | .iastore => pI st fun x r => pI r fun j r => pR r fun t i r => zif (Nat.beq (zkd t) 1) (chk j (zlen t i w) (K r lo (wI w t i j.toNatClampNeg x)))
  | .bastore => pI st fun x r => pI r fun j r => pR r fun t i r => zif (Nat.beq (zkd t) 2) (chk j (zlen t i w) (zb x (K r lo (wI w t i j.toNatClampNeg x))))
  | .lastore => pL st fun x r => pI r fun j r => pR r fun t i r => zif (Nat.beq (zkd t) 3) (chk j (zlen t i w) (K r lo (wL w t i j.toNatClampNeg x)))
  | .arraylength => pR st fun t i r => zif (Nat.beq (zkd t) 1 || Nat.beq (zkd t) 3 || Nat.beq (zkd t) 5) (K (zi (Int32.ofNat (zlen t i w)) :: r) lo w)
  | .invokevirtual k => zinv cM (2 * k) st lo w K
  | .invokestatic k => zinv cM (2 * k + 1) st lo w K
  | .ireturn => pI st fun x r => pE r (ret (some (zi x)) w)
  | .lreturn => pL st fun x r => pE r (ret (some (zl x)) w)
  | .areturn => pR st fun t i r => pE r (ret (some (zr t i)) w)
  | .return_ => pE st (ret none w)
  | _ => none
def zrun (cF : List (Nat × Nat × Nat)) (cL : List (Nat × Int64)) (cM : List (Nat × Nat × ZCall ρ)) (ret : Option ZV → Wd → Option ρ) (J : ZJ ρ) : List ZRow → Nat → List ZV → Lo → Wd → Option ρ
  | [], pc, st, lo, w => J pc st lo w
  | r :: rs, pc, st, lo, w => zstp cF cL cM ret r.1 r.2.2.1 r.2.2.2 st lo w (fun st lo w => zrun cF cL cM ret J rs (pc + r.2.1) st lo w) J
abbrev ZBl : Type := List (Nat × Option (List Bool) × List ZRow)
def zex (cF : List (Nat × Nat × Nat)) (cL : List (Nat × Int64)) (bl : ZBl) (cM : List (Nat × Nat × ZCall ρ)) (ret : Option ZV → Wd → Option ρ) (J : ZJ ρ) : Nat → ZJ ρ
  | 0, _, _, _, _ => none
  | k + 1, pc, st, lo, w => oB (zop bl pc) fun b => zrun cF cL cM ret (fun pc st lo w => oB (zop bl pc) fun b => match b.1 with
    | some ms => J pc st (zmask ms lo) w
    | none => zex cF cL bl cM ret J k pc st lo w) b.2 pc st lo w
def zeN (cF : List (Nat × Nat × Nat)) (cL : List (Nat × Int64)) (bl : ZBl) (cM : List (Nat × Nat × ZCall ρ)) (ret : Option ZV → Wd → Option ρ) : Nat → ZJ ρ
  | 0, _, _, _, _ => none
  | n + 1, pc, st, lo, w => zex cF cL bl cM ret (zeN cF cL bl cM ret n) 60 pc st lo w
noncomputable def zev (cF : List (Nat × Nat × Nat)) (cL : List (Nat × Int64)) (bl : ZBl) (cM : List (Nat × Nat × ZCall ρ)) (ret : Option ZV → Wd → Option ρ) : ZJ ρ := fun pc st lo w =>
  @dite _ (∃ (X : ρ) (n : Nat), zeN cF cL bl cM ret n pc st lo w = some X) (Classical.propDecidable _) (fun h => some (Classical.choose h)) (fun _ => none)
/-! an answer comes from one jump, or from none -/
def Lf (F : ZJ ρ → Option ρ) : Prop := ∀ (J : ZJ ρ) (X : ρ), F J = some X → (∀ J', F J' = some X) ∨ ∃ pc st lo w, J pc st lo w = some X ∧ ∀ J', J' pc st lo w = some X → F J' = some X
def LfC (F : ZCall ρ) : Prop := ∀ as w K X, F as w K = some X → ∃ v w', K v w' = some X ∧ ∀ K', K' v w' = some X → F as w K' = some X
theorem lf_k (o : Option ρ) : Lf (fun _ => o) := fun _ _ h => Or.inl fun _ => h
theorem lf_j (pc : Nat) (st : List ZV) (lo : Lo) (w : Wd) : Lf (fun J : ZJ ρ => J pc st lo w) := fun _ _ h => Or.inr ⟨pc, st, lo, w, h, fun _ h' => h'⟩
theorem lf_ite {c : Prop} [Decidable c] {F G : ZJ ρ → Option ρ} (hF : Lf F) (hG : Lf G) : Lf (fun J => if c then F J else G J) := by
  intro J X h
  by_cases hc : c
  · simp only [if_pos hc] at h ⊢
    exact hF J X h
  · simp only [if_neg hc] at h ⊢
    exact hG J X h
theorem lf_pI {st : List ZV} {F : ZJ ρ → Int32 → List ZV → Option ρ} (h : ∀ x r, Lf (fun J => F J x r)) : Lf (fun J => pI st (F J)) := by
  unfold pI; split
  · exact h _ _
  · exact lf_k none
theorem lf_pL {st : List ZV} {F : ZJ ρ → Int64 → List ZV → Option ρ} (h : ∀ x r, Lf (fun J => F J x r)) : Lf (fun J => pL st (F J)) := by
  unfold pL; split
  · exact h _ _
  · exact lf_k none
theorem lf_pR {st : List ZV} {F : ZJ ρ → Nat → Nat → List ZV → Option ρ} (h : ∀ x y r, Lf (fun J => F J x y r)) : Lf (fun J => pR st (F J)) := by
  unfold pR; split
  · exact h _ _ _
  · exact lf_k none
theorem lf_pE {st : List ZV} {F : ZJ ρ → Option ρ} (h : Lf F) : Lf (fun J => pE st (F J)) := by
  unfold pE; split
  · exact h
  · exact lf_k none
theorem lf_gI {lo : Lo} {k : Nat} {F : ZJ ρ → Int32 → Option ρ} (h : ∀ x, Lf (fun J => F J x)) : Lf (fun J => gI lo k (F J)) := by
  unfold gI; split
  · exact h _
  · exact lf_k none
theorem lf_gL {lo : Lo} {k : Nat} {F : ZJ ρ → Int64 → Option ρ} (h : ∀ x, Lf (fun J => F J x)) : Lf (fun J => gL lo k (F J)) := by
  unfold gL; split
  · exact h _
  · exact lf_k none
theorem lf_gR {lo : Lo} {k : Nat} {F : ZJ ρ → Nat → Nat → Option ρ} (h : ∀ x y, Lf (fun J => F J x y)) : Lf (fun J => gR lo k (F J)) := by
  unfold gR; split
  · exact h _ _
  · exact lf_k none
theorem lf_oB {α : Type} {o : Option α} {F : ZJ ρ → α → Option ρ} (h : ∀ x, Lf (fun J => F J x)) : Lf (fun J => oB o (F J)) := by
  unfold oB; split
  · exact h _
  · exact lf_k none
theorem lf_zif {b : Bool} {F : ZJ ρ → Option ρ} (h : Lf F) : Lf (fun J => zif b (F J)) := by
  unfold zif; split
  · exact h
  · exact lf_k none
theorem lf_chk {x : Int32} {n : Nat} {F : ZJ ρ → Option ρ} (h : Lf F) : Lf (fun J => chk x n (F J)) := lf_ite (lf_k none) h
theorem lf_zb {x : Int32} {F : ZJ ρ → Option ρ} (h : Lf F) : Lf (fun J => zb x (F J)) := lf_ite h (lf_k none)
theorem lf_zsw {x : Int32} {r : List ZV} {lo : Lo} {w : Wd} {d : Nat} : ∀ sw : List (Int × Nat), Lf (fun J : ZJ ρ => zsw x (J d r lo w) (fun t => J t r lo w) sw)
  | [] => lf_j _ _ _ _
  | _ :: sw => lf_ite (lf_j _ _ _ _) (lf_zsw sw)
theorem lf_zic {c : Jvm.ClassFile.Cond} {x y : Int32} {F G : ZJ ρ → Option ρ} (hF : Lf F) (hG : Lf G) : Lf (fun J => zic c x y (F J) (G J)) := by
  cases c <;> first | exact lf_ite hF hG | exact lf_ite hG hF
theorem lf_zif0 {c : Jvm.ClassFile.Cond} {x : Int32} {F G : ZJ ρ → Option ρ} (hF : Lf F) (hG : Lf G) : Lf (fun J => zif0 c x (F J) (G J)) := by
  cases c <;> first | exact lf_ite hF hG | exact lf_ite hG hF
theorem lf_zpop {F : ZJ ρ → List ZV → List ZV → Option ρ} (h : ∀ a r, Lf (fun J => F J a r)) : ∀ (n : Nat) (st acc : List ZV), Lf (fun J => zpop n st acc (F J))
  | 0, _, _ => h _ _
  | n + 1, v :: st, acc => lf_zpop h n st (v :: acc)
  | _ + 1, [], _ => lf_k none
theorem lf_call {C : ZCall ρ} (hC : LfC C) {as : List ZV} {w : Wd} {F : ZJ ρ → Option ZV → Wd → Option ρ} (h : ∀ v w', Lf (fun J => F J v w')) : Lf (fun J => C as w (F J)) := by
  intro J X hX
  obtain ⟨v, w', h1, h2⟩ := hC _ _ _ _ hX
  rcases h v w' J X h1 with g | ⟨pc, st, lo, w1, g1, g2⟩
  · exact Or.inl fun J' => h2 _ (g J')
  · exact Or.inr ⟨pc, st, lo, w1, g1, fun J' h' => h2 _ (g2 J' h')⟩
def LfM (cM : List (Nat × Nat × ZCall ρ)) : Prop := ∀ (k : Nat) (e : Nat × ZCall ρ), zop cM k = some e → LfC e.2
theorem lf_zinv {cM : List (Nat × Nat × ZCall ρ)} (hM : LfM cM) {k : Nat} {st : List ZV} {lo : Lo} {w : Wd} {F : ZJ ρ → List ZV → Lo → Wd → Option ρ} (h : ∀ st lo w, Lf (fun J => F J st lo w)) : Lf (fun J => zinv cM k st lo w (F J)) := by
  unfold zinv oB
  split
  · rename_i e he
    exact lf_zpop (fun a r => lf_zif (lf_call (hM k e he) fun v w' => h _ _ _)) _ _ _
  · exact lf_k none
theorem lf_zgf {cF : List (Nat × Nat × Nat)} {k : Nat} {st : List ZV} {lo : Lo} {w : Wd} {F : ZJ ρ → List ZV → Lo → Wd → Option ρ} (h : ∀ st lo w, Lf (fun J => F J st lo w)) : Lf (fun J => zgf cF k st lo w (F J)) :=
  lf_pR fun _ _ _ => lf_oB fun _ => lf_zif (lf_oB fun _ => h _ _ _)
theorem lf_zpf {cF : List (Nat × Nat × Nat)} {k : Nat} {st : List ZV} {lo : Lo} {w : Wd} {F : ZJ ρ → List ZV → Lo → Wd → Option ρ} (h : ∀ st lo w, Lf (fun J => F J st lo w)) : Lf (fun J => zpf cF k st lo w (F J)) := by
  unfold zpf
  split
  · refine lf_pR fun _ _ _ => lf_oB fun _ => lf_zif (lf_oB fun q => ?_)
    split
    · exact h _ _ _
    · exact lf_zb (h _ _ _)
    · exact lf_k none
  · refine lf_pR fun _ _ _ => lf_oB fun _ => lf_zif (lf_oB fun q => ?_)
    split
    · exact h _ _ _
    · exact lf_k none
  · exact lf_k none
theorem lf_zdup {st : List ZV} {F : ZJ ρ → List ZV → Option ρ} (h : ∀ st, Lf (fun J => F J st)) : Lf (fun J => zdup st (F J)) := by
  unfold zdup; split
  · exact h _
  · exact h _
  · exact lf_k none
set_option maxHeartbeats 4000000 in
theorem lf_zstp {cF : List (Nat × Nat × Nat)} {cL : List (Nat × Int64)} {cM : List (Nat × Nat × ZCall ρ)} (hM : LfM cM) {ret : Option ZV → Wd → Option ρ} {i : Instr} {tgt : Nat} {sw : List (Int × Nat)} {st : List ZV} {lo : Lo} {w : Wd} {F : ZJ ρ → List ZV → Lo → Wd → Option ρ} (h : ∀ st lo w, Lf (fun J => F J st lo w)) : Lf (fun J => zstp cF cL cM ret i tgt sw st lo w (F J) J) := by
  cases i
  case aload k => exact lf_gR (F := fun J t i => F J (zr t i :: st) lo w) fun _ _ => h _ _ _
  case aload_n k => exact lf_gR (F := fun J t i => F J (zr t i :: st) lo w) fun _ _ => h _ _ _
  case astore k => exact lf_pR (F := fun J t i r => F J r (zst1 lo k (zr t i)) w) fun _ _ _ => h _ _ _
  case astore_n k => exact lf_pR (F := fun J t i r => F J r (zst1 lo k.val (zr t i)) w) fun _ _ _ => h _ _ _
  case aaload =>
    refine lf_pI fun x r => lf_pR (F := fun J t i r => match Nat.beq t 20 with
      | true => chk x 6 (F J (zr 6 (1 + x.toNatClampNeg) :: r) lo w)
      | false => zif (Nat.beq t 21) (chk x 2 (F J (zr 6 (7 + x.toNatClampNeg) :: r) lo w))) fun t i r => ?_
    cases Nat.beq t 20
    · exact lf_zif (lf_chk (h _ _ _))
    · exact lf_chk (h _ _ _)
  case dup => exact lf_zdup (F := fun J r => F J r lo w) fun _ => h _ _ _
  case areturn => exact lf_pR (F := fun _ t i r => pE r (ret (some (zr t i)) w)) fun _ _ _ => lf_pE (lf_k _)
  case arraylength => exact lf_pR (F := fun J t i r => zif (Nat.beq (zkd t) 1 || Nat.beq (zkd t) 3 || Nat.beq (zkd t) 5) (F J (zi (Int32.ofNat (zlen t i w)) :: r) lo w)) fun _ _ _ => lf_zif (h _ _ _)
  all_goals first
    | exact lf_k none
    | exact h _ _ _
    | exact lf_j _ _ _ _
    | exact lf_gI fun _ => h _ _ _
    | exact lf_gL fun _ => h _ _ _
    | exact lf_gR fun _ _ => h _ _ _
    | exact lf_oB fun _ => h _ _ _
    | exact lf_pI fun _ _ => h _ _ _
    | exact lf_pL fun _ _ => h _ _ _
    | exact lf_pR fun _ _ _ => h _ _ _
    | exact lf_pI fun _ _ => lf_pI fun _ _ => h _ _ _
    | exact lf_pL fun _ _ => lf_pL fun _ _ => h _ _ _
    | exact lf_pI fun _ _ => lf_pL fun _ _ => h _ _ _
    | exact lf_pI fun _ _ => lf_pR fun _ _ _ => h _ _ _
    | exact lf_pI fun _ _ => lf_pI fun _ _ => lf_ite (lf_k none) (h _ _ _)
    | exact lf_pI fun _ _ => lf_zif0 (lf_j _ _ _ _) (h _ _ _)
    | exact lf_pI fun _ _ => lf_pI fun _ _ => lf_zic (lf_j _ _ _ _) (h _ _ _)
    | exact lf_pI fun _ _ => lf_zsw _
    | exact lf_zdup fun _ => h _ _ _
    | exact lf_zgf h
    | exact lf_zpf h
    | exact lf_zinv hM h
    | exact lf_pI fun _ _ => lf_pR fun _ _ _ => lf_zif (lf_chk (h _ _ _))
    | exact lf_pI fun _ _ => lf_pI fun _ _ => lf_pR fun _ _ _ => lf_zif (lf_chk (h _ _ _))
    | exact lf_pI fun _ _ => lf_pI fun _ _ => lf_pR fun _ _ _ => lf_zif (lf_chk (lf_zb (h _ _ _)))
    | exact lf_pL fun _ _ => lf_pI fun _ _ => lf_pR fun _ _ _ => lf_zif (lf_chk (h _ _ _))
    | exact lf_pR fun _ _ _ => lf_zif (h _ _ _)
    | exact lf_pI fun _ _ => lf_pE (lf_k _)
    | exact lf_pL fun _ _ => lf_pE (lf_k _)
    | exact lf_pR fun _ _ _ => lf_pE (lf_k _)
    | exact lf_pE (lf_k _)
theorem lf_zrun {cF : List (Nat × Nat × Nat)} {cL : List (Nat × Int64)} {cM : List (Nat × Nat × ZCall ρ)} (hM : LfM cM) {ret : Option ZV → Wd → Option ρ} : ∀ (rs : List ZRow) (pc : Nat) (st : List ZV) (lo : Lo) (w : Wd), Lf (fun J => zrun cF cL cM ret J rs pc st lo w)
  | [], _, _, _, _ => lf_j _ _ _ _
  | _ :: rs, _, _, _, _ => lf_zstp hM fun _ _ _ => lf_zrun hM rs _ _ _ _
/-- jumps that are themselves of one jump -/
theorem lf_comp {F : ZJ ρ → Option ρ} (hF : Lf F) {G : ZJ ρ → ZJ ρ} (hG : ∀ pc st lo w, Lf (fun J => G J pc st lo w)) : Lf (fun J => F (G J)) := by
  intro J X h
  rcases hF _ _ h with g | ⟨pc, st, lo, w, g1, g2⟩
  · exact Or.inl fun J' => g _
  · rcases hG pc st lo w J X g1 with k | ⟨pc', st', lo', w', k1, k2⟩
    · exact Or.inl fun J' => g2 _ (k J')
    · exact Or.inr ⟨pc', st', lo', w', k1, fun J' h' => g2 _ (k2 J' h')⟩
theorem lf_zex {cF : List (Nat × Nat × Nat)} {cL : List (Nat × Int64)} {bl : ZBl} {cM : List (Nat × Nat × ZCall ρ)} (hM : LfM cM) {ret : Option ZV → Wd → Option ρ} : ∀ (k pc : Nat) (st : List ZV) (lo : Lo) (w : Wd), Lf (fun J => zex cF cL bl cM ret J k pc st lo w)
  | 0, _, _, _, _ => lf_k none
  | k + 1, _, _, _, _ => by
    refine lf_oB fun b => lf_comp (lf_zrun hM b.2 _ _ _ _) (G := fun J pc st lo w => oB (zop bl pc) fun b => match b.1 with
      | some ms => J pc st (zmask ms lo) w
      | none => zex cF cL bl cM ret J k pc st lo w) fun pc st lo w => lf_oB fun b' => ?_
    split
    · exact lf_j _ _ _ _
    · exact lf_zex hM k _ _ _ _
section EV
variable {cF : List (Nat × Nat × Nat)} {cL : List (Nat × Int64)} {bl : ZBl} {cM : List (Nat × Nat × ZCall ρ)} {ret : Option ZV → Wd → Option ρ}
theorem zeN_succ (hM : LfM cM) : ∀ (n pc : Nat) (st : List ZV) (lo : Lo) (w : Wd) (X : ρ), zeN cF cL bl cM ret n pc st lo w = some X → zeN cF cL bl cM ret (n + 1) pc st lo w = some X
  | 0, _, _, _, _, _, h => by cases h
  | n + 1, pc, st, lo, w, X, h => by
    rcases lf_zex hM 60 pc st lo w _ X h with g | ⟨pc', st', lo', w', g1, g2⟩
    · exact g _
    · exact g2 _ (zeN_succ hM n pc' st' lo' w' X g1)
theorem zeN_mono (hM : LfM cM) {n m : Nat} (hnm : n ≤ m) {pc : Nat} {st : List ZV} {lo : Lo} {w : Wd} {X : ρ} (h : zeN cF cL bl cM ret n pc st lo w = some X) : zeN cF cL bl cM ret m pc st lo w = some X := by
  induction hnm with
  | refl => exact h
  | step _ ih => exact zeN_succ hM _ _ _ _ _ _ ih
theorem zev_some (hM : LfM cM) {pc : Nat} {st : List ZV} {lo : Lo} {w : Wd} {X : ρ} : zev cF cL bl cM ret pc st lo w = some X ↔ ∃ n, zeN cF cL bl cM ret n pc st lo w = some X := by
  unfold zev
  constructor
  · intro h
    split at h
    · rename_i hx
      obtain ⟨n, hn⟩ := Classical.choose_spec hx
      cases h
      exact ⟨n, hn⟩
    · cases h
  · rintro ⟨n, hn⟩
    have hx : ∃ (X : ρ) (n : Nat), zeN cF cL bl cM ret n pc st lo w = some X := ⟨X, n, hn⟩
    rw [dif_pos hx]
    obtain ⟨m, hm⟩ := Classical.choose_spec hx
    have h1 := zeN_mono hM (Nat.le_max_left n m) hn
    have h2 := zeN_mono hM (Nat.le_max_right n m) hm
    rw [h1] at h2
    rw [← Option.some.inj h2]
theorem zev_eq (hM : LfM cM) (pc : Nat) (st : List ZV) (lo : Lo) (w : Wd) : zev cF cL bl cM ret pc st lo w = zex cF cL bl cM ret (zev cF cL bl cM ret) 60 pc st lo w := by
  apply Option.ext
  intro X
  constructor
  · intro h
    obtain ⟨n, hn⟩ := (zev_some hM).mp h
    cases n with
    | zero => cases hn
    | succ n =>
      rcases lf_zex hM 60 pc st lo w _ X hn with g | ⟨pc', st', lo', w', g1, g2⟩
      · exact g _
      · exact g2 _ ((zev_some hM).mpr ⟨n, g1⟩)
  · intro h
    rcases lf_zex hM 60 pc st lo w _ X h with g | ⟨pc', st', lo', w', g1, g2⟩
    · exact (zev_some hM).mpr ⟨1, g _⟩
    · obtain ⟨n, hn⟩ := (zev_some hM).mp g1
      exact (zev_some hM).mpr ⟨n + 1, g2 _ hn⟩
end EV
end EX
end
section
/-! THE EXECUTOR IS SOUND: what it answers, the machine answers. -/
def zW0 : List Cond := lw_tbl.filter goodWord
theorem zW0_mem {w : Cond} (h : w ∈ lw_tbl) (hg : goodWord w = true) : w ∈ zW0 := List.mem_filter.mpr ⟨h, hg⟩
def zNest : Cond → Bool
  | .fieldLinkNest .. => true
  | .methodLinkNest .. => true
  | _ => false
def zTs (y : MethodName) (cc : ByteArray) (nL : Nat) (rt : Option FieldType) : List Cond := .code y cc nL rt :: zW0
theorem zTs_W0 {y : MethodName} {cc : ByteArray} {nL : Nat} {rt : Option FieldType} : ∀ w ∈ zW0, w ∈ zTs y cc nL rt := fun _ h => List.mem_cons_of_mem _ h
theorem zGood {Ts : List Cond} (hT : ∀ w ∈ zW0, w ∈ Ts) {y : MethodName} {cc : ByteArray} {nL : Nat} {rt : Option FieldType} (h : Cond.code y cc nL rt ∈ lw_tbl) : GoodIn Ts (zTs y cc nL rt) := by
  intro w hw
  rcases List.mem_cons.mp hw with rfl | hw
  · exact ⟨hT _ (zW0_mem h rfl), good_of_word rfl⟩
  · exact ⟨hT _ hw, good_of_word (List.mem_filter.mp hw).2⟩
def zconc (ad : Nat → Nat → Nat) : ZV → Value
  | Sum.inl x => .int x
  | Sum.inr (Sum.inl x) => .long x
  | Sum.inr (Sum.inr q) => .ref (ad q.1 q.2)
def zVal : ZV → Prop
  | Sum.inr (Sum.inr q) => q.2 < zcnt q.1
  | _ => True
def zcell (ad : Nat → Nat → Nat) (cA : Nat → ClassId) (t i : Nat) (w : Wd) : va_E := match zkd t with
  | 0 => .inr (t, (zvals t i w 0 (zfs t)).map (zconc ad))
  | 1 => .inl (cA 1, zlen t i w, .inl (w.1 t i))
  | 2 => .inl (cA 2, zlen t i w, .inl (w.1 t i))
  | 3 => .inl (cA 3, zlen t i w, .inr (.inl (w.2 t i)))
  | _ => .inl (cA 4, zlen t i w, .inr (.inr (.inr (.inr (fun j => some (ad 6 ((if t = 20 then 1 else 7) + j)))))))
def zRep (D : va_G) (ad : Nat → Nat → Nat) (cA : Nat → ClassId) (w : Wd) (s : State) (H : Heap) : Prop :=
  ∀ t i, i < zcnt t → if t = 50 then va_X (ad 50 0) (zlen 50 0 w) (w.1 50 0) s H else va_at D vwCl (ad t i, zcell ad cA t i w) H
def zK (D : va_G) (cA : Nat → ClassId) (s : State) : Prop :=
  va_K D vwCl [(cA 1, .int), (cA 2, .boolean), (cA 3, .long), (cA 4, .object "SleepSteps$State")] s ∧ ∀ w ∈ lw_tbl, zNest w = true → va_Nw w s
def zInj (ad : Nat → Nat → Nat) : Prop := ∀ t i t' i', i < zcnt t → i' < zcnt t' → ad t i = ad t' i' → t = t' ∧ i = i'
def zA (ad : Nat → Nat → Nat) : Nat → Prop := fun q => ∃ t i, t ≠ 50 ∧ i < zcnt t ∧ q = ad t i
def zLH (ad : Nat → Nat → Nat) (ls : Array Slot) (nL : Nat) (lo : Lo) : Prop := ∃ l, lv_has ls nL l ∧ ∀ i v, zget lo i = some v → (i, zconc ad v) ∈ l
theorem zRep.moved {D : va_G} {ad : Nat → Nat → Nat} {cA : Nat → ClassId} {w : Wd} {s U : State} {H : Heap} (hvm : s.vm.Alike U.vm) (h : zRep D ad cA w s H) : zRep D ad cA w U H := by
  intro t i hi
  have h1 := h t i hi
  by_cases ht : t = 50
  · rw [if_pos ht] at h1 ⊢
    exact va_X.moved hvm h1
  · rw [if_neg ht] at h1 ⊢
    exact h1
theorem zK.moved {D : va_G} {cA : Nat → ClassId} {s U : State} (hW : s.WarmedH U.vm) (h : zK D cA s) : zK D cA U := by
  refine ⟨va_K.moved hW.alike h.1, fun w hw hn => ?_⟩
  have h1 := h.2 w hw hn
  cases w <;> first
    | (cases hn; done)
    | exact va_Nw.warmF hW h1
    | exact va_Nw.warmM hW h1
/-! locals -/
theorem zget_zset : ∀ (lo : Lo) (k i : Nat) (v : Option ZV) (u : ZV), zget (zset lo k v) i = some u → (i = k ∧ v = some u) ∨ (i ≠ k ∧ zget lo i = some u)
  | [], _, _, _, _, h => by cases h
  | a :: l, 0, 0, v, u, h => Or.inl ⟨rfl, h⟩
  | a :: l, 0, i + 1, v, u, h => Or.inr ⟨by omega, h⟩
  | a :: l, k + 1, 0, v, u, h => Or.inr ⟨by omega, h⟩
  | a :: l, k + 1, i + 1, v, u, h => by
    rcases zget_zset l k i v u h with ⟨h1, h2⟩ | ⟨h1, h2⟩
    · exact Or.inl ⟨by omega, h2⟩
    · exact Or.inr ⟨by omega, h2⟩
theorem zget_zkill {lo : Lo} {k i : Nat} {u : ZV} (h : zget (zkill lo k) i = some u) : zget lo i = some u ∧ ∀ x, i + 1 = k → u ≠ zl x := by
  cases k with
  | zero => exact ⟨h, fun x e => by omega⟩
  | succ j =>
    have fin : zget lo i = some u → (∀ x, zget lo j ≠ some (zl x)) → zget lo i = some u ∧ ∀ x, i + 1 = j + 1 → u ≠ zl x := by
      intro h1 hn
      refine ⟨h1, fun x e hu => ?_⟩
      have : i = j := by omega
      subst this; subst hu
      exact hn _ h1
    cases hz : zget lo j with
    | none => exact fin (by simpa [zkill, hz] using h) (fun x e => by rw [hz] at e; cases e)
    | some a =>
      rcases a with x | x | q
      · exact fin (by simpa [zkill, hz] using h) (fun x e => by rw [hz] at e; cases e)
      · have h2 : zget (zset lo j none) i = some u := by simpa [zkill, hz] using h
        rcases zget_zset _ _ _ _ _ h2 with ⟨h1, h2⟩ | ⟨h1, h2⟩
        · cases h2
        · exact ⟨h2, fun x e => by omega⟩
      · exact fin (by simpa [zkill, hz] using h) (fun x e => by rw [hz] at e; cases e)
theorem zcat_conc {ad : Nat → Nat → Nat} (v : ZV) : (zconc ad v).category = 2 → ∃ x, v = zl x := by
  intro h
  rcases v with x | x | q
  · cases h
  · exact ⟨x, rfl⟩
  · cases h
theorem zst1_mem {ad : Nat → Nat → Nat} {lo : Lo} {l : List (Nat × Value)} (h : ∀ i v, zget lo i = some v → (i, zconc ad v) ∈ l) (k : Nat) (v : ZV) :
    ∀ i u, zget (zst1 lo k v) i = some u → (i, zconc ad u) ∈ (k, zconc ad v) :: l.filter (fun q => !(q.1 == k) && !(q.1 + 1 == k && q.2.category == 2)) := by
  intro i u hu
  rcases zget_zset _ _ _ _ _ hu with ⟨h1, h2⟩ | ⟨h1, h2⟩
  · cases h2
    rw [h1]
    exact List.mem_cons_self
  · obtain ⟨g1, g2⟩ := zget_zkill h2
    refine List.mem_cons_of_mem _ (List.mem_filter.mpr ⟨h i u g1, ?_⟩)
    simp only [Bool.and_eq_true, Bool.not_eq_true', beq_eq_false_iff_ne, ne_eq, Bool.and_eq_false_iff]
    refine ⟨h1, ?_⟩
    by_cases e : i + 1 = k
    · right
      intro hc
      obtain ⟨x, hx⟩ := zcat_conc u hc
      exact g2 x e hx
    · exact Or.inl e
theorem zst2_mem {ad : Nat → Nat → Nat} {lo : Lo} {l : List (Nat × Value)} (h : ∀ i v, zget lo i = some v → (i, zconc ad v) ∈ l) (k : Nat) (v : ZV) :
    ∀ i u, zget (zst2 lo k v) i = some u → (i, zconc ad u) ∈ (k, zconc ad v) :: l.filter (fun q => !(q.1 == k) && (!(q.1 == k + 1) && !(q.1 + 1 == k && q.2.category == 2))) := by
  intro i u hu
  rcases zget_zset _ _ _ _ _ hu with ⟨h1, h2⟩ | ⟨h0, h3⟩
  · cases h2
  rcases zget_zset _ _ _ _ _ h3 with ⟨h1, h2⟩ | ⟨h1, h2⟩
  · cases h2
    rw [h1]
    exact List.mem_cons_self
  · obtain ⟨g1, g2⟩ := zget_zkill h2
    refine List.mem_cons_of_mem _ (List.mem_filter.mpr ⟨h i u g1, ?_⟩)
    simp only [Bool.and_eq_true, Bool.not_eq_true', beq_eq_false_iff_ne, ne_eq, Bool.and_eq_false_iff]
    refine ⟨h1, h0, ?_⟩
    by_cases e : i + 1 = k
    · right
      intro hc
      obtain ⟨x, hx⟩ := zcat_conc u hc
      exact g2 x e hx
    · exact Or.inl e
theorem zst1_val {lo : Lo} (h : ∀ i v, zget lo i = some v → zVal v) {k : Nat} {v : ZV} (hv : zVal v) : ∀ i u, zget (zst1 lo k v) i = some u → zVal u := by
  intro i u hu
  rcases zget_zset _ _ _ _ _ hu with ⟨h1, h2⟩ | ⟨h1, h2⟩
  · cases h2; exact hv
  · exact h i u (zget_zkill h2).1
theorem zst2_val {lo : Lo} (h : ∀ i v, zget lo i = some v → zVal v) {k : Nat} {v : ZV} (hv : zVal v) : ∀ i u, zget (zst2 lo k v) i = some u → zVal u := by
  intro i u hu
  rcases zget_zset _ _ _ _ _ hu with ⟨h1, h2⟩ | ⟨h0, h3⟩
  · cases h2
  rcases zget_zset _ _ _ _ _ h3 with ⟨h1, h2⟩ | ⟨h1, h2⟩
  · cases h2; exact hv
  · exact h i u (zget_zkill h2).1
theorem zget_mask : ∀ (ms : List Bool) (lo : Lo) (i : Nat) (u : ZV), zget (zmask ms lo) i = some u → zget lo i = some u
  | [], _, _, _, h => by cases h
  | b :: bs, [], i, _, h => by cases h
  | b :: bs, v :: l, 0, u, h => by
    cases b
    · cases h
    · exact h
  | b :: bs, v :: l, i + 1, u, h => zget_mask bs l i u h
theorem zLH.at {ad : Nat → Nat → Nat} {ls : Array Slot} {nL : Nat} {lo : Lo} (h : zLH ad ls nL lo) {i : Nat} {v : ZV} (hv : zget lo i = some v) : ls[i]? = some (.val (zconc ad v)) := by
  obtain ⟨l, h1, h2⟩ := h
  exact h1.2.2 _ (h2 i v hv)
theorem zLH.mask {ad : Nat → Nat → Nat} {ls : Array Slot} {nL : Nat} {lo : Lo} (h : zLH ad ls nL lo) (ms : List Bool) : zLH ad ls nL (zmask ms lo) := by
  obtain ⟨l, h1, h2⟩ := h
  exact ⟨l, h1, fun i v hv => h2 i v (zget_mask _ _ _ _ hv)⟩
/-! what the combinators say, backwards -/
section INV
variable {ρ : Type} {X : ρ}
theorem pI_inv {st : List ZV} {f : Int32 → List ZV → Option ρ} (h : pI st f = some X) : ∃ x r, st = zi x :: r ∧ f x r = some X := by
  unfold pI at h; split at h
  · exact ⟨_, _, rfl, h⟩
  · cases h
theorem pL_inv {st : List ZV} {f : Int64 → List ZV → Option ρ} (h : pL st f = some X) : ∃ x r, st = zl x :: r ∧ f x r = some X := by
  unfold pL at h; split at h
  · exact ⟨_, _, rfl, h⟩
  · cases h
theorem pR_inv {st : List ZV} {f : Nat → Nat → List ZV → Option ρ} (h : pR st f = some X) : ∃ t i r, st = zr t i :: r ∧ f t i r = some X := by
  unfold pR at h; split at h
  · exact ⟨_, _, _, rfl, h⟩
  · cases h
theorem pE_inv {st : List ZV} {f : Option ρ} (h : pE st f = some X) : st = [] ∧ f = some X := by
  unfold pE at h; split at h
  · exact ⟨rfl, h⟩
  · cases h
theorem gI_inv {lo : Lo} {k : Nat} {f : Int32 → Option ρ} (h : gI lo k f = some X) : ∃ x, zget lo k = some (zi x) ∧ f x = some X := by
  unfold gI at h; split at h
  · exact ⟨_, by assumption, h⟩
  · cases h
theorem gL_inv {lo : Lo} {k : Nat} {f : Int64 → Option ρ} (h : gL lo k f = some X) : ∃ x, zget lo k = some (zl x) ∧ f x = some X := by
  unfold gL at h; split at h
  · exact ⟨_, by assumption, h⟩
  · cases h
theorem gR_inv {lo : Lo} {k : Nat} {f : Nat → Nat → Option ρ} (h : gR lo k f = some X) : ∃ t i, zget lo k = some (zr t i) ∧ f t i = some X := by
  unfold gR at h; split at h
  · exact ⟨_, _, by assumption, h⟩
  · cases h
theorem oB_inv {α : Type} {o : Option α} {f : α → Option ρ} (h : oB o f = some X) : ∃ a, o = some a ∧ f a = some X := by
  unfold oB at h; split at h
  · exact ⟨_, rfl, h⟩
  · cases h
theorem zif_inv {b : Bool} {f : Option ρ} (h : zif b f = some X) : b = true ∧ f = some X := by
  unfold zif at h; split at h
  · exact ⟨rfl, h⟩
  · cases h
theorem chk_inv {x : Int32} {n : Nat} {f : Option ρ} (h : chk x n f = some X) : vp_in x n ∧ f = some X := by
  unfold chk at h; split at h
  · cases h
  · exact ⟨by assumption, h⟩
theorem zb_inv {x : Int32} {f : Option ρ} (h : zb x f = some X) : (x = 0 ∨ x = 1) ∧ f = some X := by
  unfold zb at h; split at h
  · exact ⟨by assumption, h⟩
  · cases h
theorem zpop_inv {f : List ZV → List ZV → Option ρ} : ∀ (n : Nat) (st acc : List ZV), zpop n st acc f = some X → ∃ as r, st = as.reverse ++ r ∧ as.length = n ∧ f (as ++ acc) r = some X
  | 0, st, acc, h => ⟨[], st, rfl, rfl, h⟩
  | n + 1, [], acc, h => by cases h
  | n + 1, v :: st, acc, h => by
    obtain ⟨as, r, h1, h2, h3⟩ := zpop_inv n st (v :: acc) h
    exact ⟨as ++ [v], r, by simp [h1], by simp [h2], by simpa using h3⟩
end INV
theorem zop_mem {α : Type} : ∀ {l : List (Nat × α)} {k : Nat} {a : α}, zop l k = some a → (k, a) ∈ l
  | [], _, _, h => by cases h
  | p :: r, k, a, h => by
    unfold zop at h
    cases hb : Nat.beq p.1 k with
    | true =>
      rw [hb] at h
      have e := Nat.eq_of_beq_eq_true hb
      subst e
      simp only [cond_true, Option.some.injEq] at h
      subst h
      exact List.mem_cons_self
    | false =>
      rw [hb] at h
      exact List.mem_cons_of_mem _ (zop_mem h)
theorem zn_get {α : Type} : ∀ {l : List α} {k : Nat} {a : α}, zn l k = some a → l[k]? = some a
  | [], _, _, h => by cases h
  | b :: l, 0, a, h => by simpa [zn] using h
  | b :: l, k + 1, a, h => by
    have := zn_get (l := l) (k := k) (a := a) h
    simpa using this
theorem zvals_get (t i : Nat) (w : Wd) : ∀ (l : List (Nat × Nat × Nat)) (k0 k : Nat) (q : Nat × Nat × Nat), l[k]? = some q → (zvals t i w k0 l)[k]? = some (zval q t i (k0 + k) w)
  | [], _, _, _, h => by simp at h
  | p :: r, k0, 0, q, h => by
    simp at h
    subst h
    simp [zvals]
  | p :: r, k0, k + 1, q, h => by
    have h1 : r[k]? = some q := by simpa using h
    have := zvals_get t i w r (k0 + 1) k q h1
    rw [show k0 + (k + 1) = k0 + 1 + k by omega]
    simpa [zvals] using this
theorem zvals_len (t i : Nat) (w : Wd) : ∀ (l : List (Nat × Nat × Nat)) (k0 : Nat), (zvals t i w k0 l).length = l.length
  | [], _ => rfl
  | p :: r, k0 => by simp [zvals, zvals_len t i w r]
end
section
/-! ONE INSTRUCTION OF THE EXECUTOR is one of the machine's. -/
theorem zlen_eq {w w' : Wd} (h : w'.1 51 0 0 = w.1 51 0 0) (t i : Nat) : zlen t i w' = zlen t i w := by
  unfold zlen
  cases hz : zop zR t with
  | none => rfl
  | some q =>
    have hm := zop_mem hz
    simp only [zR, List.mem_cons, Prod.mk.injEq, List.not_mem_nil, or_false] at hm
    rcases hm with hm | hm | hm | hm | hm | hm | hm | hm | hm | hm | hm | hm | hm | hm | hm | hm | hm | hm | hm | hm | hm | hm | hm | hm | hm | hm <;> (obtain ⟨-, rfl⟩ := hm; first | rfl | (show (w'.1 51 0 0).toNatClampNeg = _; rw [h]))
theorem zval_eq {w w' : Wd} {t i k : Nat} (h1 : w'.1 t i k = w.1 t i k) (h2 : w'.2 t i k = w.2 t i k) (q : Nat × Nat × Nat) : zval q t i k w' = zval q t i k w := by
  unfold zval; rw [h1, h2]
theorem zvals_eq {w w' : Wd} {t i : Nat} : ∀ (l : List (Nat × Nat × Nat)) (k0 : Nat), (∀ k, k0 ≤ k → w'.1 t i k = w.1 t i k ∧ w'.2 t i k = w.2 t i k) → zvals t i w' k0 l = zvals t i w k0 l
  | [], _, _ => rfl
  | q :: r, k0, h => by
    have h0 := h k0 (Nat.le_refl _)
    rw [zvals, zvals, zval_eq h0.1 h0.2, zvals_eq r (k0 + 1) fun k hk => h k (by omega)]
theorem zcell_eq {ad : Nat → Nat → Nat} {cA : Nat → ClassId} {w w' : Wd} {t i : Nat} (h1 : w'.1 t i = w.1 t i) (h2 : w'.2 t i = w.2 t i) (h : w'.1 51 0 0 = w.1 51 0 0) : zcell ad cA t i w' = zcell ad cA t i w := by
  unfold zcell
  rw [zlen_eq h, h1, h2, zvals_eq (zfs t) 0 fun k _ => ⟨congrFun h1 k, congrFun h2 k⟩]
theorem zRep.change {D : va_G} {ad : Nat → Nat → Nat} {cA : Nat → ClassId} {w w' : Wd} {s : State} {H H1 : Heap} {t i : Nat} (h : zRep D ad cA w s H) (hI : zInj ad) (ht : t ≠ 50) (hi : i < zcnt t)
    (h1 : ∀ t' i', ¬ (t' = t ∧ i' = i) → w'.1 t' i' = w.1 t' i' ∧ w'.2 t' i' = w.2 t' i') (he : va_at D vwCl (ad t i, zcell ad cA t i w') H1) (oq : ∀ q : Nat, q ≠ ad t i → H1[q]? = H[q]?) : zRep D ad cA w' s H1 := by
  have h51 : w'.1 51 0 0 = w.1 51 0 0 := by
    refine congrFun (h1 51 0 ?_).1 0
    rintro ⟨rfl, rfl⟩
    exact absurd hi (by decide)
  intro t' i' hi'
  have g := h t' i' hi'
  by_cases h50 : t' = 50
  · subst h50
    rw [if_pos rfl] at g ⊢
    have z0 : i' = 0 := by
      have : zcnt 50 = 1 := by decide
      omega
    subst z0
    have hne : ¬ (50 = t ∧ 0 = i) := fun e => ht e.1.symm
    rw [zlen_eq h51, (h1 50 0 hne).1]
    exact g.kept (oq _ fun e => hne ⟨(hI _ _ _ _ hi' hi e).1, (hI _ _ _ _ hi' hi e).2⟩)
  · rw [if_neg h50] at g ⊢
    by_cases e : t' = t ∧ i' = i
    · obtain ⟨rfl, rfl⟩ := e
      exact he
    · rw [zcell_eq (h1 _ _ e).1 (h1 _ _ e).2 h51]
      exact g.kept (oq _ fun z => e (hI _ _ _ _ hi' hi z))
theorem wI_ne (w : Wd) (t i j : Nat) (x : Int32) (t' i' : Nat) (h : ¬ (t' = t ∧ i' = i)) : (wI w t i j x).1 t' i' = w.1 t' i' ∧ (wI w t i j x).2 t' i' = w.2 t' i' := by
  refine ⟨?_, rfl⟩
  funext c
  show (if t' = t ∧ i' = i ∧ c = j then x else w.1 t' i' c) = _
  rw [if_neg]
  exact fun e => h ⟨e.1, e.2.1⟩
theorem wL_ne (w : Wd) (t i j : Nat) (x : Int64) (t' i' : Nat) (h : ¬ (t' = t ∧ i' = i)) : (wL w t i j x).1 t' i' = w.1 t' i' ∧ (wL w t i j x).2 t' i' = w.2 t' i' := by
  refine ⟨rfl, ?_⟩
  funext c
  show (if t' = t ∧ i' = i ∧ c = j then x else w.2 t' i' c) = _
  rw [if_neg]
  exact fun e => h ⟨e.1, e.2.1⟩
theorem wC_ne (w : Wd) (t0 i0 sp t i dp n : Nat) (t' i' : Nat) (h : ¬ (t' = t ∧ i' = i)) : (wC w t0 i0 sp t i dp n).1 t' i' = w.1 t' i' ∧ (wC w t0 i0 sp t i dp n).2 t' i' = w.2 t' i' := by
  refine ⟨?_, rfl⟩
  funext c
  show (if t' = t ∧ i' = i ∧ dp ≤ c ∧ c < dp + n then w.1 t0 i0 (sp + (c - dp)) else w.1 t' i' c) = _
  rw [if_neg]
  exact fun e => h ⟨e.1, e.2.1⟩
theorem wI_self (w : Wd) (t i j : Nat) (x : Int32) : (wI w t i j x).1 t i = upd (w.1 t i) j x := by
  funext c
  simp [wI, upd]
theorem wL_self (w : Wd) (t i j : Nat) (x : Int64) : (wL w t i j x).2 t i = vp_updL (w.2 t i) j x := by
  funext c
  simp [wL, vp_updL]
theorem wC_self (w : Wd) (t0 i0 sp t i dp n : Nat) : (wC w t0 i0 sp t i dp n).1 t i = va_cpy (w.1 t0 i0) (w.1 t i) sp dp n := by
  funext c
  simp [wC, va_cpy]
theorem zvals_wI (w : Wd) (t i : Nat) (x : Int32) : ∀ (l : List (Nat × Nat × Nat)) (k0 k : Nat) (q : Nat × Nat × Nat), l[k]? = some q → (q.1 = 0 ∨ q.1 = 1) → zvals t i (wI w t i (k0 + k) x) k0 l = (zvals t i w k0 l).set k (zi x)
  | [], _, _, _, h, _ => by simp at h
  | p :: r, k0, 0, q, h, hq => by
    simp only [List.getElem?_cons_zero, Option.some.injEq] at h
    subst h
    have e : zval p t i k0 (wI w t i (k0 + 0) x) = zi x := by
      unfold zval
      rcases hq with hq | hq <;> rw [hq] <;> simp [wI, Nat.beq]
    have hr : zvals t i (wI w t i (k0 + 0) x) (k0 + 1) r = zvals t i w (k0 + 1) r := zvals_eq r (k0 + 1) fun k hk => ⟨by
      have : k ≠ k0 := by omega
      simp [wI, this], rfl⟩
    rw [zvals, zvals, e, hr]
    rfl
  | p :: r, k0, k + 1, q, h, hq => by
    have h1 : r[k]? = some q := by simpa using h
    have e1 : (wI w t i (k0 + (k + 1)) x).1 t i k0 = w.1 t i k0 := by simp [wI]
    have e : zval p t i k0 (wI w t i (k0 + (k + 1)) x) = zval p t i k0 w := zval_eq e1 rfl p
    rw [zvals, zvals, e]
    show _ :: zvals t i (wI w t i (k0 + (k + 1)) x) (k0 + 1) r = _ :: (zvals t i w (k0 + 1) r).set k (zi x)
    rw [← zvals_wI w t i x r (k0 + 1) k q h1 hq, show k0 + 1 + k = k0 + (k + 1) by omega]
theorem zvals_wL (w : Wd) (t i : Nat) (x : Int64) : ∀ (l : List (Nat × Nat × Nat)) (k0 k : Nat) (q : Nat × Nat × Nat), l[k]? = some q → q.1 = 2 → zvals t i (wL w t i (k0 + k) x) k0 l = (zvals t i w k0 l).set k (zl x)
  | [], _, _, _, h, _ => by simp at h
  | p :: r, k0, 0, q, h, hq => by
    simp only [List.getElem?_cons_zero, Option.some.injEq] at h
    subst h
    have e : zval p t i k0 (wL w t i (k0 + 0) x) = zl x := by
      unfold zval
      rw [hq]
      simp [wL, Nat.beq]
    have hr : zvals t i (wL w t i (k0 + 0) x) (k0 + 1) r = zvals t i w (k0 + 1) r := zvals_eq r (k0 + 1) fun k hk => ⟨rfl, by
      have : k ≠ k0 := by omega
      simp [wL, this]⟩
    rw [zvals, zvals, e, hr]
    rfl
  | p :: r, k0, k + 1, q, h, hq => by
    have h1 : r[k]? = some q := by simpa using h
    have e1 : (wL w t i (k0 + (k + 1)) x).2 t i k0 = w.2 t i k0 := by simp [wL]
    have e : zval p t i k0 (wL w t i (k0 + (k + 1)) x) = zval p t i k0 w := zval_eq (w := w) (w' := wL w t i (k0 + (k + 1)) x) rfl e1 p
    rw [zvals, zvals, e]
    show _ :: zvals t i (wL w t i (k0 + (k + 1)) x) (k0 + 1) r = _ :: (zvals t i w (k0 + 1) r).set k (zl x)
    rw [← zvals_wL w t i x r (k0 + 1) k q h1 hq, show k0 + 1 + k = k0 + (k + 1) by omega]
/-! a class of the tables, as the executor has it -/
def zfc (ci k : Nat) (fin : Bool) (ty : FieldType) : Bool := match zn (zfs ci) k with
  | some q => match q.1 with
    | 0 => !fin && decide (ty = .int)
    | 1 => !fin && decide (ty = .boolean)
    | 2 => !fin && decide (ty = .long)
    | _ => true
  | none => false
def zCls (ci : Nat) (C : String) (T : u_T) (N : Nat) (ty : Nat → FieldType) : Prop :=
  vwCl[ci]? = some (C, T, N) ∧ (∀ w ∈ u_ws C T N, w ∈ zW0) ∧ (∀ k, k < N → parseFieldDescriptor (T k).2.2.1 = some (ty k)) ∧ (∀ a, a < N → ∀ b, b < N → a ≠ b → (T a).2.1 ≠ (T b).2.1) ∧ zkd ci = 0 ∧ (zfs ci).length = N ∧ ∀ k, k < N → zfc ci k (T k).2.2.2 (ty k) = true
def zFl (own : String) (cF : List (Nat × Nat × Nat)) : Prop := ∀ q ∈ cF, ∃ C T N ty, zCls q.2.1 C T N ty ∧ ((Cond.fieldLink own q.1 (T q.2.2).1 (T q.2.2).2.1 (T q.2.2).2.2.1 ∈ zW0) ∨ ∃ host, Cond.fieldLinkNest own q.1 (T q.2.2).1 (T q.2.2).2.1 (T q.2.2).2.2.1 host ∈ lw_tbl)
def zLl (own : String) (cL : List (Nat × Int64)) : Prop := ∀ q ∈ cL, Cond.constantLong own q.1 q.2 ∈ zW0
/-! the static check of a row -/
def ztsw (pc lo : Int) : List Int → List (Int × Nat) → Bool
  | [], [] => true
  | o :: os, q :: qs => decide (q.1 = lo) && decide ((q.2 : Int) = pc + o) && ztsw pc (lo + 1) os qs
  | _, _ => false
def zlsw (pc : Int) : List (Int × Int) → List (Int × Nat) → Bool
  | [], [] => true
  | o :: os, q :: qs => decide (q.1 = o.1) && decide ((q.2 : Int) = pc + o.2) && decide (-2147483648 ≤ o.1) && decide (o.1 < 2147483648) && zlsw pc os qs
  | _, _ => false
def zdc (i : Instr) (len tgt : Nat) (sw : List (Int × Nat)) (nL pc : Nat) : Bool := match i with
  | .iconst _ => Nat.beq len 1
  | .bipush n => Nat.beq len 2 && decide (-128 ≤ n) && decide (n < 128)
  | .sipush n => Nat.beq len 3 && decide (-32768 ≤ n) && decide (n < 32768)
  | .lconst _ => Nat.beq len 1
  | .ldc2_w _ => Nat.beq len 3
  | .iload _ => Nat.beq len 2
  | .iload_n _ => Nat.beq len 1
  | .lload _ => Nat.beq len 2
  | .lload_n _ => Nat.beq len 1
  | .aload _ => Nat.beq len 2
  | .aload_n _ => Nat.beq len 1
  | .istore k => Nat.beq len 2 && Nat.blt k nL
  | .istore_n k => Nat.beq len 1 && Nat.blt k.val nL
  | .lstore k => Nat.beq len 2 && Nat.blt (k + 1) nL
  | .lstore_n k => Nat.beq len 1 && Nat.blt (k.val + 1) nL
  | .astore k => Nat.beq len 2 && Nat.blt k nL
  | .astore_n k => Nat.beq len 1 && Nat.blt k.val nL
  | .iinc k _ => Nat.beq len 3 && Nat.blt k nL
  | .goto off => Nat.beq len 3 && decide ((pc : Int) + off = (tgt : Int))
  | .ifCond _ off => Nat.beq len 3 && decide ((pc : Int) + off = (tgt : Int))
  | .if_icmp _ off => Nat.beq len 3 && decide ((pc : Int) + off = (tgt : Int))
  | .tableswitch d lo hi offs => decide ((pc : Int) + d = (tgt : Int)) && decide (-2147483648 ≤ lo) && decide (hi < 2147483648) && decide ((offs.toList.length : Int) = hi - lo + 1) && ztsw pc lo offs.toList sw
  | .lookupswitch d ps => decide ((pc : Int) + d = (tgt : Int)) && (ps.toList.zip (ps.toList.drop 1)).all (fun (a, next) => a.1 < next.1) && zlsw pc ps.toList sw
  | .getfield _ => Nat.beq len 3
  | .putfield _ => Nat.beq len 3
  | .invokevirtual _ => Nat.beq len 3
  | .invokestatic _ => Nat.beq len 3
  | _ => Nat.beq len 1
theorem zsw_table {ρ : Type} {X : ρ} {x : Int32} {d : Option ρ} {J : Nat → Option ρ} {pc : Int} : ∀ (os : List Int) (sw : List (Int × Nat)) (lo : Int), ztsw pc lo os sw = true → -2147483648 ≤ lo → lo + os.length ≤ 2147483648 → zsw x d J sw = some X →
    (∃ (k : Nat) (o : Int), os[k]? = some o ∧ x.toInt = lo + k ∧ ∃ t : Nat, (t : Int) = pc + o ∧ J t = some X) ∨ ((x.toInt < lo ∨ lo + os.length ≤ x.toInt) ∧ d = some X)
  | [], [], lo, _, _, _, h => Or.inr ⟨by simp; omega, h⟩
  | [], _ :: _, _, hz, _, _, _ => by simp [ztsw] at hz
  | _ :: _, [], _, hz, _, _, _ => by simp [ztsw] at hz
  | o :: os, q :: qs, lo, hz, h1, h2, h => by
    simp only [ztsw, Bool.and_eq_true, decide_eq_true_eq] at hz
    obtain ⟨⟨e1, e2⟩, hz⟩ := hz
    simp only [List.length_cons] at h2
    unfold zsw at h
    by_cases hx : x = Int32.ofInt q.1
    · rw [if_pos hx] at h
      refine Or.inl ⟨0, o, rfl, ?_, q.2, e2, h⟩
      rw [hx, e1, Int32.toInt_ofInt_of_le (by omega) (by omega)]
      simp
    · rw [if_neg hx] at h
      have hne : x.toInt ≠ lo := by
        intro z
        apply hx
        rw [e1]
        apply Int32.toInt_inj.mp
        rw [Int32.toInt_ofInt_of_le (by omega) (by omega), z]
      rcases zsw_table os qs (lo + 1) hz (by omega) (by omega) h with ⟨k, o', g1, g2, g3⟩ | ⟨g1, g2⟩
      · exact Or.inl ⟨k + 1, o', by simpa using g1, by omega, g3⟩
      · refine Or.inr ⟨?_, g2⟩
        simp only [List.length_cons]
        omega
theorem zsw_lookup {ρ : Type} {X : ρ} {x : Int32} {d : Option ρ} {J : Nat → Option ρ} {pc : Int} {dd : Int} : ∀ (os : List (Int × Int)) (sw : List (Int × Nat)), zlsw pc os sw = true → zsw x d J sw = some X →
    (∃ t : Nat, (t : Int) = pc + Op.lookupswitch.offset os dd x.toInt ∧ J t = some X) ∨ (Op.lookupswitch.offset os dd x.toInt = dd ∧ d = some X)
  | [], [], _, h => Or.inr ⟨rfl, h⟩
  | [], _ :: _, hz, _ => by simp [zlsw] at hz
  | _ :: _, [], hz, _ => by simp [zlsw] at hz
  | o :: os, q :: qs, hz, h => by
    simp only [zlsw, Bool.and_eq_true, decide_eq_true_eq] at hz
    obtain ⟨⟨⟨⟨e1, e2⟩, e3⟩, e4⟩, hz⟩ := hz
    obtain ⟨a, b⟩ := o
    unfold zsw at h
    rw [Op.lookupswitch.offset_cons]
    by_cases hx : x = Int32.ofInt q.1
    · rw [if_pos hx] at h
      have hk : a = x.toInt := by
        rw [hx, e1, Int32.toInt_ofInt_of_le (by simp only at e3; omega) (by simp only at e4; omega)]
      rw [if_pos hk]
      exact Or.inl ⟨q.2, e2, h⟩
    · rw [if_neg hx] at h
      have hne : ¬ a = x.toInt := by
        intro z
        apply hx
        rw [e1]
        apply Int32.toInt_inj.mp
        rw [Int32.toInt_ofInt_of_le (by simp only at e3; omega) (by simp only at e4; omega)]
        exact z.symm
      rw [if_neg hne]
      exact zsw_lookup os qs hz h
theorem zi8 {n : Int} (h1 : -128 ≤ n) (h2 : n < 128) : (Int8.ofInt n).toInt32 = Int32.ofInt n := by
  apply Int32.toInt_inj.mp
  rw [Int8.toInt_toInt32, Int8.toInt_ofInt_of_le (by omega) (by omega), Int32.toInt_ofInt_of_le (by omega) (by omega)]
theorem zi16 {n : Int} (h1 : -32768 ≤ n) (h2 : n < 32768) : (Int16.ofInt n).toInt32 = Int32.ofInt n := by
  apply Int32.toInt_inj.mp
  rw [Int16.toInt_toInt32, Int16.toInt_ofInt_of_le (by omega) (by omega), Int32.toInt_ofInt_of_le (by omega) (by omega)]
theorem zl2 (n : Fin 2) : Int64.ofNat (n : Nat) = Int64.ofInt ((n.val : Nat) : Int) := rfl
end
section
/-! THE WALK: a run of the executor is a walk of the machine. -/
section WK
variable {p : Program} {l : Launch} {e : Env} {R : Room} {s : State} {m : MethodId} {args : Array Value} {below : List Frame} {meth : Method} {c : Code} {cells slots : Nat} {Q : State → Prop} {cc : ByteArray} {nL : Nat} {own : String} {Ts : List Cond} {D : va_G} {ad : Nat → Nat → Nat} {cA : Nat → ClassId} {A : Nat → Prop}
/-- what holds all through a method's body -/
def zMF (p : Program) (s : State) (m : MethodId) (args : Array Value) (c : Code) (cc : ByteArray) (nL : Nat) (own : String) (Ts : List Cond) (D : va_G) (ad : Nat → Nat → Nat) (cA : Nat → ClassId) (A : Nat → Prop) : Prop :=
  p.tables.exec = Jvm.exec ∧ c.code = cc ∧ c.maxLocals = nL ∧ s.vm.findClass own = some m.cls ∧ (∀ w ∈ Ts, w.before args s = true) ∧ (∀ w ∈ zW0, w ∈ Ts) ∧ zK D cA s ∧ zInj ad ∧ ∀ t i, t ≠ 50 → i < zcnt t → A (ad t i)
/-- from this place of the executor the machine comes to Q -/
def zAt (p : Program) (l : Launch) (e : Env) (R : Room) (s : State) (m : MethodId) (args : Array Value) (below : List Frame) (meth : Method) (c : Code) (cells slots : Nat) (Q : State → Prop) (nL : Nat) (D : va_G) (ad : Nat → Nat → Nat) (cA : Nat → ClassId) (A : Nat → Prop) (pc : Nat) (st : List ZV) (lo : Lo) (w : Wd) : Prop :=
  (∀ v ∈ st, zVal v) → (∀ i v, zget lo i = some v → zVal v) → ∀ (H : Heap) (locs : List Loc) (ls : Array Slot), zRep D ad cA w s H → va_S A s.heap H locs → zLH ad ls nL lo →
    W p l e R s m args below meth c H locs cells slots Q (F0 m pc ls (st.map (zconc ad)))
theorem zv_cons {a : ZV} {r : List ZV} (h1 : zVal a) (h2 : ∀ v ∈ r, zVal v) : ∀ v ∈ a :: r, zVal v := fun v hv => by
  rcases List.mem_cons.mp hv with rfl | hv
  · exact h1
  · exact h2 v hv
theorem zv_tl {a : ZV} {r : List ZV} (h : ∀ v ∈ a :: r, zVal v) : ∀ v ∈ r, zVal v := fun v hv => h v (List.mem_cons_of_mem _ hv)
theorem zv_hd {a : ZV} {r : List ZV} (h : ∀ v ∈ a :: r, zVal v) : zVal a := h a List.mem_cons_self
/-- a call, whichever it is -/
def zCk {ρ : Type} (p : Program) (l : Launch) (e : Env) (R : Room) (s : State) (m : MethodId) (args : Array Value) (below : List Frame) (meth : Method) (c : Code) (cells slots : Nat) (Q : State → Prop) (cc : ByteArray) (nL : Nat) (D : va_G) (ad : Nat → Nat → Nat) (cA : Nat → ClassId) (A : Nat → Prop) (X : ρ) (ins : Instr) (q : Nat × ZCall ρ) : Prop :=
  ∀ (pc : Nat) (as r : List ZV) (lo : Lo) (w : Wd) (Kf : Option ZV → Wd → Option ρ), decode cc pc = .ok (ins, 3) → as.length = q.1 → zcat r ≤ 8 → q.2 as w Kf = some X →
    (∀ v w', Kf v w' = some X → zAt p l e R s m args below meth c cells slots Q nL D ad cA A (pc + 3) (v.toList ++ r) lo w') → zAt p l e R s m args below meth c cells slots Q nL D ad cA A pc (as.reverse ++ r) lo w
/-- the table of calls: virtual ones under 2 k, static ones under 2 k + 1 -/
def zMl {ρ : Type} (P : Instr → Nat × ZCall ρ → Prop) (cM : List (Nat × Nat × ZCall ρ)) : Prop := ∀ q ∈ cM, (∀ k, q.1 = 2 * k → P (.invokevirtual k) q.2) ∧ ∀ k, q.1 = 2 * k + 1 → P (.invokestatic k) q.2
/-- returns -/
def zRt {ρ : Type} (p : Program) (l : Launch) (e : Env) (R : Room) (s : State) (m : MethodId) (args : Array Value) (below : List Frame) (meth : Method) (c : Code) (cells slots : Nat) (Q : State → Prop) (cc : ByteArray) (nL : Nat) (D : va_G) (ad : Nat → Nat → Nat) (cA : Nat → ClassId) (A : Nat → Prop) (X : ρ) (ret : Option ZV → Wd → Option ρ) : Prop :=
  (∀ pc x w lo, decode cc pc = .ok (.ireturn, 1) → ret (some (zi x)) w = some X → zAt p l e R s m args below meth c cells slots Q nL D ad cA A pc [zi x] lo w) ∧
  (∀ pc x w lo, decode cc pc = .ok (.lreturn, 1) → ret (some (zl x)) w = some X → zAt p l e R s m args below meth c cells slots Q nL D ad cA A pc [zl x] lo w) ∧
  (∀ pc t i w lo, decode cc pc = .ok (.areturn, 1) → ret (some (zr t i)) w = some X → zAt p l e R s m args below meth c cells slots Q nL D ad cA A pc [zr t i] lo w) ∧
  ∀ pc w lo, decode cc pc = .ok (.return_, 1) → ret none w = some X → zAt p l e R s m args below meth c cells slots Q nL D ad cA A pc [] lo w
theorem zRep.arr {w : Wd} {H : Heap} (h : zRep D ad cA w s H) {t i : Nat} (hi : i < zcnt t) (ht : t ≠ 50) {a : ClassId × vp_A} (hc : zcell ad cA t i w = .inl a) : H[ad t i]? = some (vp_cell a.1 a.2) := by
  have g := h t i hi
  rw [if_neg ht] at g
  unfold va_at at g
  simp only [hc] at g
  exact g
theorem zcell_1 {w : Wd} {t i : Nat} (h : zkd t = 1) : zcell ad cA t i w = .inl (cA 1, zlen t i w, .inl (w.1 t i)) := by simp only [zcell, h]
theorem zcell_2 {w : Wd} {t i : Nat} (h : zkd t = 2) : zcell ad cA t i w = .inl (cA 2, zlen t i w, .inl (w.1 t i)) := by simp only [zcell, h]
theorem zcell_3 {w : Wd} {t i : Nat} (h : zkd t = 3) : zcell ad cA t i w = .inl (cA 3, zlen t i w, .inr (.inl (w.2 t i))) := by simp only [zcell, h]
theorem zcell_0 {w : Wd} {t i : Nat} (h : zkd t = 0) : zcell ad cA t i w = .inr (t, (zvals t i w 0 (zfs t)).map (zconc ad)) := by simp only [zcell, h]
theorem zkd_ne50 {t : Nat} (h : zkd t = 0 ∨ zkd t = 1 ∨ zkd t = 2 ∨ zkd t = 3 ∨ zkd t = 4) : t ≠ 50 := by
  rintro rfl
  revert h
  decide
/-- the kinds of rows, in the tables -/
theorem zK.arr (h : zK D cA s) : ArrOfT s (cA 1) .int ∧ ArrOfT s (cA 2) .boolean ∧ ArrOfT s (cA 3) .long ∧ ArrOfT s (cA 4) (.object "SleepSteps$State") :=
  ⟨(h.1.2 0 _ rfl).1, (h.1.2 1 _ rfl).1, (h.1.2 2 _ rfl).1, (h.1.2 3 _ rfl).1⟩
theorem zx_iald {pc : Nat} {t i : Nat} {x : Int32} {r : List ZV} {lo : Lo} {w : Wd} (hF : zMF p s m args c cc nL own Ts D ad cA A) (hd : decode cc pc = .ok (.iaload, 1)) (hk : (Nat.beq (zkd t) 1 || Nat.beq (zkd t) 5) = true) (hin : vp_in x (zlen t i w))
    (h : zAt p l e R s m args below meth c cells slots Q nL D ad cA A (pc + 1) (zi (w.1 t i x.toNatClampNeg) :: r) lo w) : zAt p l e R s m args below meth c cells slots Q nL D ad cA A pc (zi x :: zr t i :: r) lo w := by
  obtain ⟨hx, hb, -, -, -, -, hK, -, -⟩ := hF
  intro hv hvl H locs ls hP hS hL
  have hi : i < zcnt t := zv_hd (zv_tl hv)
  have hlt : x.toNatClampNeg < zlen t i w := Nat.not_le.mp fun q => hin (Or.inr q)
  have kk := h (zv_cons trivial (zv_tl (zv_tl hv))) hvl H locs ls hP hS hL
  by_cases h50 : t = 50
  · subst h50
    have g := hP 50 i hi
    rw [if_pos rfl] at g
    have z0 : i = 0 := by
      have : zcnt 50 = 1 := by decide
      omega
    subst z0
    obtain ⟨scr, g1, g2, g3, g4, g5⟩ := g
    exact W.iald (v := .int (w.1 50 0 x.toNatClampNeg)) hx hb g1 g2 g3 (by rw [g4]; exact hin) (g5 _ hlt) rfl rfl hd kk
  · have k1 : zkd t = 1 := by
      rcases Bool.or_eq_true _ _ ▸ hk with h | h
      · exact Nat.eq_of_beq_eq_true h
      · exfalso
        have h5 := Nat.eq_of_beq_eq_true h
        unfold zkd at h5
        cases hz : zop zR t with
        | none => rw [hz] at h5; cases h5
        | some q =>
          rw [hz] at h5
          have hm := zop_mem hz
          simp only [zR, List.mem_cons, Prod.mk.injEq, List.not_mem_nil, or_false] at hm
          rcases hm with hm | hm | hm | hm | hm | hm | hm | hm | hm | hm | hm | hm | hm | hm | hm | hm | hm | hm | hm | hm | hm | hm | hm | hm | hm | hm <;> (obtain ⟨h1, rfl⟩ := hm; first | (simp at h5; done) | exact h50 h1)
    have g := hP.arr hi h50 (zcell_1 k1)
    exact W.iald (v := .int (w.1 t i x.toNatClampNeg)) hx hb g (hK.arr.1 (zlen t i w) (fun j => .int (w.1 t i j))) (fun q => by cases q) (by show ¬ (x < 0 ∨ (arrV _ _ _).slots.size ≤ _); rw [arrV_size]; exact hin) (by show (arrV _ _ _).slots[_]? = _; rw [arrV_read _ _ hlt]) rfl rfl hd kk
theorem zx_bald {pc : Nat} {t i : Nat} {x : Int32} {r : List ZV} {lo : Lo} {w : Wd} (hF : zMF p s m args c cc nL own Ts D ad cA A) (hd : decode cc pc = .ok (.baload, 1)) (hk : Nat.beq (zkd t) 2 = true) (hin : vp_in x (zlen t i w))
    (h : zAt p l e R s m args below meth c cells slots Q nL D ad cA A (pc + 1) (zi (w.1 t i x.toNatClampNeg) :: r) lo w) : zAt p l e R s m args below meth c cells slots Q nL D ad cA A pc (zi x :: zr t i :: r) lo w := by
  obtain ⟨hx, hb, -, -, -, -, hK, -, -⟩ := hF
  intro hv hvl H locs ls hP hS hL
  have hi : i < zcnt t := zv_hd (zv_tl hv)
  have hlt : x.toNatClampNeg < zlen t i w := Nat.not_le.mp fun q => hin (Or.inr q)
  have kk := h (zv_cons trivial (zv_tl (zv_tl hv))) hvl H locs ls hP hS hL
  have k1 := Nat.eq_of_beq_eq_true hk
  have g := hP.arr hi (zkd_ne50 (by omega)) (zcell_2 k1)
  exact W.zald (v := .int (w.1 t i x.toNatClampNeg)) hx hb g (hK.arr.2.1 (zlen t i w) (fun j => .int (w.1 t i j))) (fun q => by cases q) (by show ¬ (x < 0 ∨ (arrV _ _ _).slots.size ≤ _); rw [arrV_size]; exact hin) (by show (arrV _ _ _).slots[_]? = _; rw [arrV_read _ _ hlt]) rfl rfl hd kk
theorem zx_lald {pc : Nat} {t i : Nat} {x : Int32} {r : List ZV} {lo : Lo} {w : Wd} (hF : zMF p s m args c cc nL own Ts D ad cA A) (hd : decode cc pc = .ok (.laload, 1)) (hk : Nat.beq (zkd t) 3 = true) (hin : vp_in x (zlen t i w))
    (h : zAt p l e R s m args below meth c cells slots Q nL D ad cA A (pc + 1) (zl (w.2 t i x.toNatClampNeg) :: r) lo w) : zAt p l e R s m args below meth c cells slots Q nL D ad cA A pc (zi x :: zr t i :: r) lo w := by
  obtain ⟨hx, hb, -, -, -, -, hK, -, -⟩ := hF
  intro hv hvl H locs ls hP hS hL
  have hi : i < zcnt t := zv_hd (zv_tl hv)
  have hlt : x.toNatClampNeg < zlen t i w := Nat.not_le.mp fun q => hin (Or.inr q)
  have kk := h (zv_cons trivial (zv_tl (zv_tl hv))) hvl H locs ls hP hS hL
  have k1 := Nat.eq_of_beq_eq_true hk
  have g := hP.arr hi (zkd_ne50 (by omega)) (zcell_3 k1)
  exact W.lald (v := .long (w.2 t i x.toNatClampNeg)) hx hb g (hK.arr.2.2.1 (zlen t i w) (fun j => .long (w.2 t i j))) (fun q => by cases q) (by show ¬ (x < 0 ∨ (arrV _ _ _).slots.size ≤ _); rw [arrV_size]; exact hin) (by show (arrV _ _ _).slots[_]? = _; rw [arrV_read _ _ hlt]) rfl rfl hd kk
theorem zx_aald {pc : Nat} {i : Nat} {x : Int32} {r : List ZV} {lo : Lo} {w : Wd} {t n b : Nat} (hF : zMF p s m args c cc nL own Ts D ad cA A) (hd : decode cc pc = .ok (.aaload, 1)) (htb : (t = 20 ∧ n = 6 ∧ b = 1) ∨ (t = 21 ∧ n = 2 ∧ b = 7)) (hin : vp_in x n)
    (h : zAt p l e R s m args below meth c cells slots Q nL D ad cA A (pc + 1) (zr 6 (b + x.toNatClampNeg) :: r) lo w) : zAt p l e R s m args below meth c cells slots Q nL D ad cA A pc (zi x :: zr t i :: r) lo w := by
  obtain ⟨hx, hb, -, -, -, -, hK, -, -⟩ := hF
  intro hv hvl H locs ls hP hS hL
  have hi : i < zcnt t := zv_hd (zv_tl hv)
  have hlt : x.toNatClampNeg < n := Nat.not_le.mp fun q => hin (Or.inr q)
  have h9 : zcnt 6 = 9 := by decide
  have kk := h (zv_cons (show b + x.toNatClampNeg < zcnt 6 by omega) (zv_tl (zv_tl hv))) hvl H locs ls hP hS hL
  have g : H[ad t i]? = some (vp_cell (cA 4) (n, .inr (.inr (.inr (.inr (fun j => some (ad 6 (b + j)))))))) := by
    rcases htb with ⟨rfl, rfl, rfl⟩ | ⟨rfl, rfl, rfl⟩
    · exact hP.arr hi (by decide) rfl
    · exact hP.arr hi (by decide) rfl
  exact W.aald (v := .ref (ad 6 (b + x.toNatClampNeg))) (ty := .object "SleepSteps$State") hx hb g (hK.arr.2.2.2 n (fun j => va_rf (some (ad 6 (b + j))))) rfl (fun q => by cases q) (by show ¬ (x < 0 ∨ (arrV _ _ _).slots.size ≤ _); rw [arrV_size]; exact hin) (by show (arrV _ _ _).slots[_]? = _; rw [arrV_read _ _ hlt]; rfl) rfl rfl hd kk
theorem zx_iast {pc : Nat} {t i : Nat} {x j : Int32} {r : List ZV} {lo : Lo} {w : Wd} (hF : zMF p s m args c cc nL own Ts D ad cA A) (hd : decode cc pc = .ok (.iastore, 1)) (hk : Nat.beq (zkd t) 1 = true) (hin : vp_in j (zlen t i w))
    (h : zAt p l e R s m args below meth c cells slots Q nL D ad cA A (pc + 1) r lo (wI w t i j.toNatClampNeg x)) : zAt p l e R s m args below meth c cells slots Q nL D ad cA A pc (zi x :: zi j :: zr t i :: r) lo w := by
  obtain ⟨hx, hb, -, -, -, -, hK, hI, hA⟩ := hF
  intro hv hvl H locs ls hP hS hL
  have hi : i < zcnt t := zv_hd (zv_tl (zv_tl hv))
  have k1 := Nat.eq_of_beq_eq_true hk
  have ht : t ≠ 50 := zkd_ne50 (by omega)
  have g := hP.arr hi ht (zcell_1 k1)
  refine W.iast hx hb g (hK.arr.1 (zlen t i w) (fun j => .int (w.1 t i j))) (fun q => by cases q) (by show ¬ (j < 0 ∨ (arrV _ _ _).slots.size ≤ _); rw [arrV_size]; exact hin) rfl rfl hd fun H1 g1 z oq => ?_
  refine h (zv_tl (zv_tl (zv_tl hv))) hvl H1 _ ls (hP.change hI ht hi (wI_ne w t i _ x) ?_ oq) (hS.put z oq (hA t i ht hi)) hL
  unfold va_at
  simp only [zcell_1 (w := wI w t i j.toNatClampNeg x) k1]
  have h51 : zlen t i (wI w t i j.toNatClampNeg x) = zlen t i w := zlen_eq (congrFun (wI_ne w t i _ x 51 0 (by
    rintro ⟨rfl, -⟩
    have h0 : zcnt 51 = 0 := by decide
    rw [h0] at hi
    exact Nat.not_lt_zero _ hi)).1 0) t i
  rw [g1, wI_self, h51]
  simp only [vp_cell_i, arrV_store]
  congr 2
  funext k
  simp only [updV, upd]
  split <;> rfl
theorem zx_bast {pc : Nat} {t i : Nat} {x j : Int32} {r : List ZV} {lo : Lo} {w : Wd} (hF : zMF p s m args c cc nL own Ts D ad cA A) (hd : decode cc pc = .ok (.bastore, 1)) (hk : Nat.beq (zkd t) 2 = true) (hin : vp_in j (zlen t i w)) (h01 : x = 0 ∨ x = 1)
    (h : zAt p l e R s m args below meth c cells slots Q nL D ad cA A (pc + 1) r lo (wI w t i j.toNatClampNeg x)) : zAt p l e R s m args below meth c cells slots Q nL D ad cA A pc (zi x :: zi j :: zr t i :: r) lo w := by
  obtain ⟨hx, hb, -, -, -, -, hK, hI, hA⟩ := hF
  intro hv hvl H locs ls hP hS hL
  have hi : i < zcnt t := zv_hd (zv_tl (zv_tl hv))
  have k1 := Nat.eq_of_beq_eq_true hk
  have ht : t ≠ 50 := zkd_ne50 (by omega)
  have g := hP.arr hi ht (zcell_2 k1)
  refine W.zast hx hb g (hK.arr.2.1 (zlen t i w) (fun j => .int (w.1 t i j))) (fun q => by cases q) (by show ¬ (j < 0 ∨ (arrV _ _ _).slots.size ≤ _); rw [arrV_size]; exact hin) rfl rfl hd fun H1 g1 z oq => ?_
  refine h (zv_tl (zv_tl (zv_tl hv))) hvl H1 _ ls (hP.change hI ht hi (wI_ne w t i _ x) ?_ oq) (hS.put z oq (hA t i ht hi)) hL
  unfold va_at
  simp only [zcell_2 (w := wI w t i j.toNatClampNeg x) k1]
  have hn : narrow .boolean (.int x) = .int x := by
    rcases h01 with rfl | rfl <;> rfl
  have h51 : zlen t i (wI w t i j.toNatClampNeg x) = zlen t i w := zlen_eq (congrFun (wI_ne w t i _ x 51 0 (by
    rintro ⟨rfl, -⟩
    have h0 : zcnt 51 = 0 := by decide
    rw [h0] at hi
    exact Nat.not_lt_zero _ hi)).1 0) t i
  rw [g1, wI_self, hn, h51]
  simp only [vp_cell_i, arrV_store]
  congr 2
  funext k
  simp only [updV, upd]
  split <;> rfl
theorem zx_last {pc : Nat} {t i : Nat} {x : Int64} {j : Int32} {r : List ZV} {lo : Lo} {w : Wd} (hF : zMF p s m args c cc nL own Ts D ad cA A) (hd : decode cc pc = .ok (.lastore, 1)) (hk : Nat.beq (zkd t) 3 = true) (hin : vp_in j (zlen t i w))
    (h : zAt p l e R s m args below meth c cells slots Q nL D ad cA A (pc + 1) r lo (wL w t i j.toNatClampNeg x)) : zAt p l e R s m args below meth c cells slots Q nL D ad cA A pc (zl x :: zi j :: zr t i :: r) lo w := by
  obtain ⟨hx, hb, -, -, -, -, hK, hI, hA⟩ := hF
  intro hv hvl H locs ls hP hS hL
  have hi : i < zcnt t := zv_hd (zv_tl (zv_tl hv))
  have k1 := Nat.eq_of_beq_eq_true hk
  have ht : t ≠ 50 := zkd_ne50 (by omega)
  have g := hP.arr hi ht (zcell_3 k1)
  refine W.last hx hb g (hK.arr.2.2.1 (zlen t i w) (fun j => .long (w.2 t i j))) (fun q => by cases q) (by show ¬ (j < 0 ∨ (arrV _ _ _).slots.size ≤ _); rw [arrV_size]; exact hin) rfl rfl hd fun H1 g1 z oq => ?_
  refine h (zv_tl (zv_tl (zv_tl hv))) hvl H1 _ ls (hP.change hI ht hi (wL_ne w t i _ x) ?_ oq) (hS.put z oq (hA t i ht hi)) hL
  unfold va_at
  simp only [zcell_3 (w := wL w t i j.toNatClampNeg x) k1]
  rw [g1, wL_self, zlen_eq (w := w) (w' := wL w t i j.toNatClampNeg x) rfl]
  simp only [vp_cell_l, arrV_store]
  congr 2
  funext k
  simp only [updV, vp_updL]
  split <;> rfl
theorem zx_alen {pc : Nat} {t i : Nat} {r : List ZV} {lo : Lo} {w : Wd} (hF : zMF p s m args c cc nL own Ts D ad cA A) (hd : decode cc pc = .ok (.arraylength, 1)) (hk : (Nat.beq (zkd t) 1 || Nat.beq (zkd t) 3 || Nat.beq (zkd t) 5) = true)
    (h : zAt p l e R s m args below meth c cells slots Q nL D ad cA A (pc + 1) (zi (Int32.ofNat (zlen t i w)) :: r) lo w) : zAt p l e R s m args below meth c cells slots Q nL D ad cA A pc (zr t i :: r) lo w := by
  obtain ⟨hx, hb, -, -, -, -, hK, -, -⟩ := hF
  intro hv hvl H locs ls hP hS hL
  have hi : i < zcnt t := zv_hd hv
  have kk := h (zv_cons trivial (zv_tl hv)) hvl H locs ls hP hS hL
  by_cases h50 : t = 50
  · subst h50
    have g := hP 50 i hi
    rw [if_pos rfl] at g
    have z0 : i = 0 := by
      have : zcnt 50 = 1 := by decide
      omega
    subst z0
    obtain ⟨scr, g1, g2, g3, g4, g5⟩ := g
    exact W.alen (n := Int32.ofNat (zlen 50 0 w)) hx hb g1 g2 (by rw [g4]) rfl rfl hd kk
  · have k1 : zkd t = 1 ∨ zkd t = 3 := by
      simp only [Bool.or_eq_true] at hk
      rcases hk with (h | h) | h
      · exact Or.inl (Nat.eq_of_beq_eq_true h)
      · exact Or.inr (Nat.eq_of_beq_eq_true h)
      · exfalso
        have h5 := Nat.eq_of_beq_eq_true h
        unfold zkd at h5
        cases hz : zop zR t with
        | none => rw [hz] at h5; cases h5
        | some q =>
          rw [hz] at h5
          have hm := zop_mem hz
          simp only [zR, List.mem_cons, Prod.mk.injEq, List.not_mem_nil, or_false] at hm
          rcases hm with hm | hm | hm | hm | hm | hm | hm | hm | hm | hm | hm | hm | hm | hm | hm | hm | hm | hm | hm | hm | hm | hm | hm | hm | hm | hm <;> (obtain ⟨h1, rfl⟩ := hm; first | (simp at h5; done) | exact h50 h1)
    rcases k1 with k1 | k1
    · have g := hP.arr hi h50 (zcell_1 k1)
      exact W.alen (n := Int32.ofNat (zlen t i w)) hx hb g (hK.arr.1 (zlen t i w) (fun j => .int (w.1 t i j))) (by show (arrV _ _ _).slots.size.toInt32 = _; rw [arrV_size]) rfl rfl hd kk
    · have g := hP.arr hi h50 (zcell_3 k1)
      exact W.alen (n := Int32.ofNat (zlen t i w)) hx hb g (hK.arr.2.2.1 (zlen t i w) (fun j => .long (w.2 t i j))) (by show (arrV _ _ _).slots.size.toInt32 = _; rw [arrV_size]) rfl rfl hd kk
theorem zx_obj {w : Wd} {H : Heap} (h : zRep D ad cA w s H) {t i : Nat} (hi : i < zcnt t) (hk : zkd t = 0) : va_P D vwCl [(ad t i, .inr (t, (zvals t i w 0 (zfs t)).map (zconc ad)))] H := by
  have g := h t i hi
  rw [if_neg (zkd_ne50 (Or.inl hk)), zcell_0 hk] at g
  intro k q hq
  cases k with
  | zero => cases hq; exact g
  | succ k => simp at hq
theorem zx_fld {w : Wd} {t i k : Nat} {q : Nat × Nat × Nat} (hq : zn (zfs t) k = some q) : ((zvals t i w 0 (zfs t)).map (zconc ad))[k]? = some (zconc ad (zval q t i k w)) := by
  rw [List.getElem?_map, zvals_get t i w (zfs t) 0 k q (zn_get hq), Nat.zero_add]
  rfl
/-- a field's value is a cell that is there -/
theorem zval_ok {w : Wd} {t i k : Nat} {q : Nat × Nat × Nat} (hi : i < zcnt t) (hq : zn (zfs t) k = some q) : zVal (zval q t i k w) := by
  have key : ∀ a ∈ zF, ∀ b ∈ a.2, (b.1 = 3 → b.2.2 < zcnt b.2.1) ∧ (b.1 = 4 → zcnt a.1 ≤ zcnt b.2.1) := by decide +kernel
  unfold zfs at hq
  cases hz : zop zF t with
  | none => rw [hz] at hq; cases hq
  | some l =>
    rw [hz] at hq
    have h1 := key _ (zop_mem hz) q (List.mem_of_getElem? (zn_get hq))
    unfold zval
    by_cases h3 : q.1 = 3
    · rw [h3]
      exact h1.1 h3
    · by_cases h4 : q.1 = 4
      · rw [h4]
        exact Nat.lt_of_lt_of_le hi (h1.2 h4)
      · have e3 : Nat.beq q.1 3 = false := by
          cases hb : Nat.beq q.1 3 with
          | false => rfl
          | true => exact absurd (Nat.eq_of_beq_eq_true hb) h3
        have e4 : Nat.beq q.1 4 = false := by
          cases hb : Nat.beq q.1 4 with
          | false => rfl
          | true => exact absurd (Nat.eq_of_beq_eq_true hb) h4
        rw [e3, e4]
        cases Nat.beq q.1 2 <;> exact trivial
theorem zx_getf {ρ : Type} {X : ρ} {pc k : Nat} {st : List ZV} {lo : Lo} {w : Wd} {cF : List (Nat × Nat × Nat)} {K : List ZV → Lo → Wd → Option ρ} (hF : zMF p s m args c cc nL own Ts D ad cA A) (hcF : zFl own cF) (hd : decode cc pc = .ok (.getfield k, 3))
    (hK : ∀ st lo w, K st lo w = some X → zAt p l e R s m args below meth c cells slots Q nL D ad cA A (pc + 3) st lo w) (h : zgf cF k st lo w K = some X) : zAt p l e R s m args below meth c cells slots Q nL D ad cA A pc st lo w := by
  obtain ⟨hx, hb, -, hown, hts, hT, hKs, -, -⟩ := hF
  obtain ⟨t, i, r, rfl, h⟩ := pR_inv h
  obtain ⟨q, hq, h⟩ := oB_inv h
  obtain ⟨ht, h⟩ := zif_inv h
  obtain ⟨f, hf, h⟩ := oB_inv h
  have ht := Nat.eq_of_beq_eq_true ht
  obtain ⟨C, T, N, ty, ⟨hC, hws, hty, hnm, hkd, hlen, hcode⟩, hlink⟩ := hcF _ (zop_mem hq)
  simp only at hC hkd hlen hcode hlink
  rw [← ht] at hC hkd hlen
  intro hv hvl H locs ls hP hS hL
  have hi : i < zcnt t := zv_hd hv
  have kk := hK _ _ _ h (zv_cons (zval_ok hi hf) (zv_tl hv)) hvl H locs ls hP hS hL
  have hkN : q.2 < N := by
    rw [← hlen]
    exact (List.getElem?_eq_some_iff.mp (zn_get hf)).1
  rcases hlink with hl | ⟨host, hl⟩
  · exact va_get (D := D) hx hb hts (fun w h => hT w (hws w h)) hown hKs.1 (zx_obj hP hi hkd) 0 rfl hC q.2 hkN (hts _ (hT _ hl)) (fun _ h => h) (zx_fld hf) hd kk
  · exact va_getN (D := D) hx hb hts (fun w h => hT w (hws w h)) hown hKs.1 (zx_obj hP hi hkd) 0 rfl hC q.2 hkN (va_Nw.use rfl (hKs.2 _ hl rfl)) (fun _ h => h) (zx_fld hf) hd kk
theorem zx_put {pc k : Nat} {t i : Nat} {v : ZV} {r : List ZV} {lo : Lo} {w w' : Wd} {cF : List (Nat × Nat × Nat)} {q : Nat × Nat} {f : Nat × Nat × Nat} (hF : zMF p s m args c cc nL own Ts D ad cA A) (hcF : zFl own cF) (hd : decode cc pc = .ok (.putfield k, 3)) (hq : zop cF k = some q) (ht : Nat.beq t q.1 = true) (hf : zn (zfs t) q.2 = some f)
    {ty1 : FieldType} (hty1 : (f.1 = 0 ∧ ty1 = .int) ∨ (f.1 = 1 ∧ ty1 = .boolean) ∨ (f.1 = 2 ∧ ty1 = .long)) (hn : narrow ty1 (zconc ad v) = zconc ad v) (hfit : fits ty1 (zconc ad v) = true)
    (hw : ∀ t' i', ¬ (t' = t ∧ i' = i) → w'.1 t' i' = w.1 t' i' ∧ w'.2 t' i' = w.2 t' i') (hset : zvals t i w' 0 (zfs t) = (zvals t i w 0 (zfs t)).set q.2 v)
    (h : zAt p l e R s m args below meth c cells slots Q nL D ad cA A (pc + 3) r lo w') : zAt p l e R s m args below meth c cells slots Q nL D ad cA A pc (v :: zr t i :: r) lo w := by
  obtain ⟨hx, hb, -, hown, hts, hT, hKs, hI, hA⟩ := hF
  have ht := Nat.eq_of_beq_eq_true ht
  obtain ⟨C, T, N, ty, ⟨hC, hws, hty, hnm, hkd, hlen, hcode⟩, hlink⟩ := hcF _ (zop_mem hq)
  simp only at hC hkd hlen hcode hlink
  rw [← ht] at hC hkd hlen hcode
  intro hv hvl H locs ls hP hS hL
  have hi : i < zcnt t := zv_hd (zv_tl hv)
  have h50 : t ≠ 50 := zkd_ne50 (Or.inl hkd)
  have hkN : q.2 < N := by
    rw [← hlen]
    exact (List.getElem?_eq_some_iff.mp (zn_get hf)).1
  have hcc := hcode q.2 hkN
  unfold zfc at hcc
  rw [hf] at hcc
  have hfin : (T q.2).2.2.2 = false ∧ ty q.2 = ty1 := by
    rcases hty1 with ⟨h1, rfl⟩ | ⟨h1, rfl⟩ | ⟨h1, rfl⟩ <;> (simp only [h1] at hcc; simpa using hcc)
  have hin : ∀ w ∈ u_ws C T N, w ∈ Ts := fun w h => hT w (hws w h)
  have hap := va_apart (own := own) hts hin ty hty hnm hKs.1 hC
  have hPo := zx_obj hP hi hkd
  obtain ⟨r0, h1, cell, q1, q2, q3, q4⟩ := hPo 0 _ rfl
  have hr : r0 = (C, T, N) := Option.some.inj (h1.symm.trans hC)
  subst hr
  obtain ⟨hSl, hfc, kC, hkC, hkind⟩ := hKs.1.1 t _ hC
  obtain ⟨cf, kf, fi, fd, hi', hsl⟩ := hSl q.2 hkN
  have hlay := hts _ (hin _ (u_in_lay hkN))
  unfold u_lay at hlay
  rw [if_neg (by rw [hfin.1]; decide)] at hlay
  have hst := (u_facts hfc hkC (u_lays hts hin hkN) hi').1
  have h6 := u_store hfc hkC hkind hlay hi' (hfin.2 ▸ hty q.2 hkN) hn hfit
  have fin : ∀ H' : Heap, H'[ad t i]? = some (cell.setSlot fd.slot (zconc ad v)) → H'.size = H.size → (∀ q, q ≠ ad t i → H'[q]? = H[q]?) → W p l e R s m args below meth c H' (locs ++ [⟨ad t i, fd.slot⟩]) cells slots Q (F0 m (pc + 3) ls (r.map (zconc ad))) := by
    intro H' e1 e2 e3
    rw [hsl] at e1 ⊢
    refine h (zv_tl (zv_tl hv)) hvl H' _ ls (hP.change hI h50 hi hw ?_ e3) (hS.put e2 e3 (hA t i h50 hi)) hL
    rw [zcell_0 hkd, hset, List.map_set]
    exact ⟨_, hC, t_OB.to (V := updV (vp_V ((zvals t i w 0 (zfs t)).map (zconc ad))) q.2 (zconc ad v)) ⟨_, e1, q2, q3, t_set q4 hap hkN (zconc ad v)⟩ (fun j _ => vp_updV_set (by rw [List.length_map, zvals_len, hlen]; exact hkN) (zconc ad v) j)⟩
  rcases hlink with hl | ⟨host, hl⟩
  · exact W.putK hx hb (f := fd) ⟨hown, hts _ (hT _ hl), ⟨_, _, _, hi'⟩, hst⟩ (by rw [q2]; exact h6) q1 q3 (by rw [hsl]; exact k2_hasslot (q4 q.2 hkN)) rfl rfl hd fin
  · exact va_WputK hx hb (f := fd) hown (va_Nw.use rfl (hKs.2 _ hl rfl)) hi' hst (by rw [q2]; exact h6) q1 q3 (by rw [hsl]; exact k2_hasslot (q4 q.2 hkN)) rfl rfl hd fin
theorem zx_putf {ρ : Type} {X : ρ} {pc k : Nat} {st : List ZV} {lo : Lo} {w : Wd} {cF : List (Nat × Nat × Nat)} {K : List ZV → Lo → Wd → Option ρ} (hF : zMF p s m args c cc nL own Ts D ad cA A) (hcF : zFl own cF) (hd : decode cc pc = .ok (.putfield k, 3))
    (hK : ∀ st lo w, K st lo w = some X → zAt p l e R s m args below meth c cells slots Q nL D ad cA A (pc + 3) st lo w) (h : zpf cF k st lo w K = some X) : zAt p l e R s m args below meth c cells slots Q nL D ad cA A pc st lo w := by
  rcases st with _ | ⟨v, st⟩
  · cases h
  rcases v with x | x | qq
  · simp only [zpf] at h
    obtain ⟨t, i, r, rfl, h⟩ := pR_inv h
    obtain ⟨q, hq, h⟩ := oB_inv h
    obtain ⟨ht, h⟩ := zif_inv h
    obtain ⟨f, hf, h⟩ := oB_inv h
    have hset : (f.1 = 0 ∨ f.1 = 1) → zvals t i (wI w t i q.2 x) 0 (zfs t) = (zvals t i w 0 (zfs t)).set q.2 (zi x) := fun hc => by
      have := zvals_wI w t i x (zfs t) 0 q.2 f (zn_get hf) hc
      rwa [Nat.zero_add] at this
    split at h
    · rename_i h0
      exact zx_put hF hcF hd hq ht hf (Or.inl ⟨h0, rfl⟩) rfl rfl (wI_ne w t i _ x) (hset (Or.inl h0)) (hK _ _ _ h)
    · rename_i h0
      obtain ⟨h01, h⟩ := zb_inv h
      exact zx_put hF hcF hd hq ht hf (Or.inr (Or.inl ⟨h0, rfl⟩)) (by rcases h01 with rfl | rfl <;> rfl) (by rcases h01 with rfl | rfl <;> rfl) (wI_ne w t i _ x) (hset (Or.inr h0)) (hK _ _ _ h)
    · cases h
  · simp only [zpf] at h
    obtain ⟨t, i, r, rfl, h⟩ := pR_inv h
    obtain ⟨q, hq, h⟩ := oB_inv h
    obtain ⟨ht, h⟩ := zif_inv h
    obtain ⟨f, hf, h⟩ := oB_inv h
    split at h
    · rename_i h0
      refine zx_put hF hcF hd hq ht hf (Or.inr (Or.inr ⟨h0, rfl⟩)) rfl rfl (wL_ne w t i _ x) ?_ (hK _ _ _ h)
      have := zvals_wL w t i x (zfs t) 0 q.2 f (zn_get hf) h0
      rwa [Nat.zero_add] at this
    · cases h
  · cases h
end WK
end
section
/-! A run of the executor, whole. -/
section RUN
variable {p : Program} {l : Launch} {e : Env} {R : Room} {s : State} {m : MethodId} {args : Array Value} {below : List Frame} {meth : Method} {c : Code} {cells slots : Nat} {Q : State → Prop} {cc : ByteArray} {nL : Nat} {own : String} {Ts : List Cond} {D : va_G} {ad : Nat → Nat → Nat} {cA : Nat → ClassId} {A : Nat → Prop}
set_option maxHeartbeats 8000000 in
theorem zstp_sound {ρ : Type} {X : ρ} {cF : List (Nat × Nat × Nat)} {cL : List (Nat × Int64)} {cM : List (Nat × Nat × ZCall ρ)} {ret : Option ZV → Wd → Option ρ} {i : Instr} {len tgt : Nat} {sw : List (Int × Nat)} {st : List ZV} {lo : Lo} {w : Wd} {K : List ZV → Lo → Wd → Option ρ} {J : ZJ ρ} {pc : Nat}
    (hF : zMF p s m args c cc nL own Ts D ad cA A) (hd : decode cc pc = .ok (i, len)) (hc : zdc i len tgt sw nL pc = true) (hcF : zFl own cF) (hcL : zLl own cL)
    (hcM : zMl (zCk p l e R s m args below meth c cells slots Q cc nL D ad cA A X) cM) (hR : zRt p l e R s m args below meth c cells slots Q cc nL D ad cA A X ret)
    (hK : ∀ st lo w, K st lo w = some X → zAt p l e R s m args below meth c cells slots Q nL D ad cA A (pc + len) st lo w) (hJ : ∀ pc st lo w, J pc st lo w = some X → zAt p l e R s m args below meth c cells slots Q nL D ad cA A pc st lo w)
    (h : zstp cF cL cM ret i tgt sw st lo w K J = some X) : zAt p l e R s m args below meth c cells slots Q nL D ad cA A pc st lo w := by
  obtain ⟨hx, hb, hml, hown, hts, hT, -, -, -⟩ := id hF
  have W0 : ∀ w ∈ zW0, w.before args s = true := fun w h => hts w (hT w h)
  cases i
  case iconst n =>
    simp only [zstp] at h
    have hl : len = 1 := Nat.eq_of_beq_eq_true hc
    subst hl
    intro hv hvl H locs ls hP hS hL
    exact lv_iconst hx hb hd rfl (hK _ _ _ h (zv_cons trivial hv) hvl H locs ls hP hS hL)
  case bipush n =>
    simp only [zstp] at h
    simp only [zdc, Bool.and_eq_true, decide_eq_true_eq] at hc
    have hl : len = 2 := Nat.eq_of_beq_eq_true hc.1.1
    subst hl
    intro hv hvl H locs ls hP hS hL
    exact lv_bipush hx hb hd (zi8 hc.1.2 hc.2) (hK _ _ _ h (zv_cons trivial hv) hvl H locs ls hP hS hL)
  case sipush n =>
    simp only [zstp] at h
    simp only [zdc, Bool.and_eq_true, decide_eq_true_eq] at hc
    have hl : len = 3 := Nat.eq_of_beq_eq_true hc.1.1
    subst hl
    intro hv hvl H locs ls hP hS hL
    exact lv_sipush hx hb hd (zi16 hc.1.2 hc.2) (hK _ _ _ h (zv_cons trivial hv) hvl H locs ls hP hS hL)
  case lconst n =>
    simp only [zstp] at h
    have hl : len = 1 := Nat.eq_of_beq_eq_true hc
    subst hl
    intro hv hvl H locs ls hP hS hL
    exact lv_lconst hx hb hd (zl2 n) (hK _ _ _ h (zv_cons trivial hv) hvl H locs ls hP hS hL)
  case ldc2_w k =>
    simp only [zstp] at h
    have hl : len = 3 := Nat.eq_of_beq_eq_true hc
    subst hl
    obtain ⟨v, hv1, h1_⟩ := oB_inv h
    intro hv hvl H locs ls hP hS hL
    exact lv_ldc2 hx hb hown (W0 _ (hcL _ (zop_mem hv1))) hd (hK _ _ _ h1_ (zv_cons trivial hv) hvl H locs ls hP hS hL)
  case iload k =>
    simp only [zstp] at h
    have hl : len = 2 := Nat.eq_of_beq_eq_true hc
    subst hl
    obtain ⟨x, hg, h1_⟩ := gI_inv h
    intro hv hvl H locs ls hP hS hL
    exact lv_iload hx hb hd (hL.at hg) (hK _ _ _ h1_ (zv_cons trivial hv) hvl H locs ls hP hS hL)
  case iload_n k =>
    simp only [zstp] at h
    have hl : len = 1 := Nat.eq_of_beq_eq_true hc
    subst hl
    obtain ⟨x, hg, h1_⟩ := gI_inv h
    intro hv hvl H locs ls hP hS hL
    exact lv_iload_n hx hb hd rfl (hL.at hg) (hK _ _ _ h1_ (zv_cons trivial hv) hvl H locs ls hP hS hL)
  case lload k =>
    simp only [zstp] at h
    have hl : len = 2 := Nat.eq_of_beq_eq_true hc
    subst hl
    obtain ⟨x, hg, h1_⟩ := gL_inv h
    intro hv hvl H locs ls hP hS hL
    exact lv_lload hx hb hd (hL.at hg) (hK _ _ _ h1_ (zv_cons trivial hv) hvl H locs ls hP hS hL)
  case lload_n k =>
    simp only [zstp] at h
    have hl : len = 1 := Nat.eq_of_beq_eq_true hc
    subst hl
    obtain ⟨x, hg, h1_⟩ := gL_inv h
    intro hv hvl H locs ls hP hS hL
    exact lv_lload_n hx hb hd rfl (hL.at hg) (hK _ _ _ h1_ (zv_cons trivial hv) hvl H locs ls hP hS hL)
  case aload k =>
    simp only [zstp] at h
    have hl : len = 2 := Nat.eq_of_beq_eq_true hc
    subst hl
    obtain ⟨t, i, hg, h1_⟩ := gR_inv h
    intro hv hvl H locs ls hP hS hL
    exact lv_aload hx hb hd (hL.at hg) (hK _ _ _ h1_ (zv_cons (hvl _ _ hg) hv) hvl H locs ls hP hS hL)
  case aload_n k =>
    simp only [zstp] at h
    have hl : len = 1 := Nat.eq_of_beq_eq_true hc
    subst hl
    obtain ⟨t, i, hg, h1_⟩ := gR_inv h
    intro hv hvl H locs ls hP hS hL
    exact lv_aload_n hx hb hd rfl (hL.at hg) (hK _ _ _ h1_ (zv_cons (hvl _ _ hg) hv) hvl H locs ls hP hS hL)
  case istore k =>
    simp only [zstp] at h
    simp only [zdc, Bool.and_eq_true, decide_eq_true_eq] at hc
    have hl : len = 2 := Nat.eq_of_beq_eq_true hc.1
    subst hl
    have hlt := Nat.blt_eq.mp hc.2
    obtain ⟨x, r, rfl, h1_⟩ := pI_inv h
    intro hv hvl H locs ls hP hS hL
    obtain ⟨lv, hl1, hl2⟩ := hL
    exact lv_istore hx hb hd hl1 hlt rfl fun ls' hl' => hK _ _ _ h1_ (zv_tl hv) (zst1_val hvl trivial) H locs ls' hP hS ⟨_, hl', zst1_mem hl2 k (zi x)⟩
  case istore_n k =>
    simp only [zstp] at h
    simp only [zdc, Bool.and_eq_true, decide_eq_true_eq] at hc
    have hl : len = 1 := Nat.eq_of_beq_eq_true hc.1
    subst hl
    have hlt := Nat.blt_eq.mp hc.2
    obtain ⟨x, r, rfl, h1_⟩ := pI_inv h
    intro hv hvl H locs ls hP hS hL
    obtain ⟨lv, hl1, hl2⟩ := hL
    exact lv_istore_n hx hb hd rfl hl1 hlt rfl fun ls' hl' => hK _ _ _ h1_ (zv_tl hv) (zst1_val hvl trivial) H locs ls' hP hS ⟨_, hl', zst1_mem hl2 k.val (zi x)⟩
  case lstore k =>
    simp only [zstp] at h
    simp only [zdc, Bool.and_eq_true, decide_eq_true_eq] at hc
    have hl : len = 2 := Nat.eq_of_beq_eq_true hc.1
    subst hl
    have hlt := Nat.blt_eq.mp hc.2
    obtain ⟨x, r, rfl, h1_⟩ := pL_inv h
    intro hv hvl H locs ls hP hS hL
    obtain ⟨lv, hl1, hl2⟩ := hL
    exact lv_lstore hx hb hd hl1 hlt rfl fun ls' hl' => hK _ _ _ h1_ (zv_tl hv) (zst2_val hvl trivial) H locs ls' hP hS ⟨_, hl', zst2_mem hl2 k (zl x)⟩
  case lstore_n k =>
    simp only [zstp] at h
    simp only [zdc, Bool.and_eq_true, decide_eq_true_eq] at hc
    have hl : len = 1 := Nat.eq_of_beq_eq_true hc.1
    subst hl
    have hlt := Nat.blt_eq.mp hc.2
    obtain ⟨x, r, rfl, h1_⟩ := pL_inv h
    intro hv hvl H locs ls hP hS hL
    obtain ⟨lv, hl1, hl2⟩ := hL
    exact lv_lstore_n hx hb hd rfl hl1 hlt rfl fun ls' hl' => hK _ _ _ h1_ (zv_tl hv) (zst2_val hvl trivial) H locs ls' hP hS ⟨_, hl', zst2_mem hl2 k.val (zl x)⟩
  case astore k =>
    simp only [zstp] at h
    simp only [zdc, Bool.and_eq_true, decide_eq_true_eq] at hc
    have hl : len = 2 := Nat.eq_of_beq_eq_true hc.1
    subst hl
    have hlt := Nat.blt_eq.mp hc.2
    obtain ⟨t, i, r, rfl, h1_⟩ := pR_inv h
    intro hv hvl H locs ls hP hS hL
    obtain ⟨lv, hl1, hl2⟩ := hL
    exact lv_astore hx hb hd hl1 hlt rfl fun ls' hl' => hK _ _ _ h1_ (zv_tl hv) (zst1_val hvl (zv_hd hv)) H locs ls' hP hS ⟨_, hl', zst1_mem hl2 k (zr t i)⟩
  case astore_n k =>
    simp only [zstp] at h
    simp only [zdc, Bool.and_eq_true, decide_eq_true_eq] at hc
    have hl : len = 1 := Nat.eq_of_beq_eq_true hc.1
    subst hl
    have hlt := Nat.blt_eq.mp hc.2
    obtain ⟨t, i, r, rfl, h1_⟩ := pR_inv h
    intro hv hvl H locs ls hP hS hL
    obtain ⟨lv, hl1, hl2⟩ := hL
    exact lv_astore_n hx hb hd rfl hl1 hlt rfl fun ls' hl' => hK _ _ _ h1_ (zv_tl hv) (zst1_val hvl (zv_hd hv)) H locs ls' hP hS ⟨_, hl', zst1_mem hl2 k.val (zr t i)⟩
  case iinc k n =>
    simp only [zstp] at h
    simp only [zdc, Bool.and_eq_true, decide_eq_true_eq] at hc
    have hl : len = 3 := Nat.eq_of_beq_eq_true hc.1
    subst hl
    have hlt := Nat.blt_eq.mp hc.2
    obtain ⟨x, hg, h1_⟩ := gI_inv h
    intro hv hvl H locs ls hP hS hL
    obtain ⟨lv, hl1, hl2⟩ := hL
    obtain ⟨j, hj⟩ := List.getElem?_of_mem (hl2 _ _ hg)
    exact lv_iinc (v := x + Int32.ofInt n) hx hb hd hl1 hj rfl hlt rfl fun ls' hl' => hK _ _ _ h1_ hv (zst1_val hvl trivial) H locs ls' hP hS ⟨_, hl', zst1_mem hl2 k (zi (x + Int32.ofInt n))⟩
  case iadd =>
    simp only [zstp] at h
    have hl : len = 1 := Nat.eq_of_beq_eq_true hc
    subst hl
    obtain ⟨y, r, rfl, h1_⟩ := pI_inv h
    obtain ⟨x, r, rfl, h2_⟩ := pI_inv h1_
    intro hv hvl H locs ls hP hS hL
    exact lv_iadd hx hb hd (hK _ _ _ h2_ (zv_cons trivial (zv_tl (zv_tl hv))) hvl H locs ls hP hS hL)
  case isub =>
    simp only [zstp] at h
    have hl : len = 1 := Nat.eq_of_beq_eq_true hc
    subst hl
    obtain ⟨y, r, rfl, h1_⟩ := pI_inv h
    obtain ⟨x, r, rfl, h2_⟩ := pI_inv h1_
    intro hv hvl H locs ls hP hS hL
    exact lv_isub hx hb hd (hK _ _ _ h2_ (zv_cons trivial (zv_tl (zv_tl hv))) hvl H locs ls hP hS hL)
  case imul =>
    simp only [zstp] at h
    have hl : len = 1 := Nat.eq_of_beq_eq_true hc
    subst hl
    obtain ⟨y, r, rfl, h1_⟩ := pI_inv h
    obtain ⟨x, r, rfl, h2_⟩ := pI_inv h1_
    intro hv hvl H locs ls hP hS hL
    exact lv_imul hx hb hd (hK _ _ _ h2_ (zv_cons trivial (zv_tl (zv_tl hv))) hvl H locs ls hP hS hL)
  case iand =>
    simp only [zstp] at h
    have hl : len = 1 := Nat.eq_of_beq_eq_true hc
    subst hl
    obtain ⟨y, r, rfl, h1_⟩ := pI_inv h
    obtain ⟨x, r, rfl, h2_⟩ := pI_inv h1_
    intro hv hvl H locs ls hP hS hL
    exact lv_iand hx hb hd (hK _ _ _ h2_ (zv_cons trivial (zv_tl (zv_tl hv))) hvl H locs ls hP hS hL)
  case ior =>
    simp only [zstp] at h
    have hl : len = 1 := Nat.eq_of_beq_eq_true hc
    subst hl
    obtain ⟨y, r, rfl, h1_⟩ := pI_inv h
    obtain ⟨x, r, rfl, h2_⟩ := pI_inv h1_
    intro hv hvl H locs ls hP hS hL
    exact lv_ior hx hb hd (hK _ _ _ h2_ (zv_cons trivial (zv_tl (zv_tl hv))) hvl H locs ls hP hS hL)
  case ixor =>
    simp only [zstp] at h
    have hl : len = 1 := Nat.eq_of_beq_eq_true hc
    subst hl
    obtain ⟨y, r, rfl, h1_⟩ := pI_inv h
    obtain ⟨x, r, rfl, h2_⟩ := pI_inv h1_
    intro hv hvl H locs ls hP hS hL
    exact lv_ixor hx hb hd (hK _ _ _ h2_ (zv_cons trivial (zv_tl (zv_tl hv))) hvl H locs ls hP hS hL)
  case ishl =>
    simp only [zstp] at h
    have hl : len = 1 := Nat.eq_of_beq_eq_true hc
    subst hl
    obtain ⟨y, r, rfl, h1_⟩ := pI_inv h
    obtain ⟨x, r, rfl, h2_⟩ := pI_inv h1_
    intro hv hvl H locs ls hP hS hL
    exact lv_ishl hx hb hd (hK _ _ _ h2_ (zv_cons trivial (zv_tl (zv_tl hv))) hvl H locs ls hP hS hL)
  case ishr =>
    simp only [zstp] at h
    have hl : len = 1 := Nat.eq_of_beq_eq_true hc
    subst hl
    obtain ⟨y, r, rfl, h1_⟩ := pI_inv h
    obtain ⟨x, r, rfl, h2_⟩ := pI_inv h1_
    intro hv hvl H locs ls hP hS hL
    exact lv_ishr hx hb hd (hK _ _ _ h2_ (zv_cons trivial (zv_tl (zv_tl hv))) hvl H locs ls hP hS hL)
  case ladd =>
    simp only [zstp] at h
    have hl : len = 1 := Nat.eq_of_beq_eq_true hc
    subst hl
    obtain ⟨y, r, rfl, h1_⟩ := pL_inv h
    obtain ⟨x, r, rfl, h2_⟩ := pL_inv h1_
    intro hv hvl H locs ls hP hS hL
    exact lv_ladd hx hb hd (hK _ _ _ h2_ (zv_cons trivial (zv_tl (zv_tl hv))) hvl H locs ls hP hS hL)
  case land =>
    simp only [zstp] at h
    have hl : len = 1 := Nat.eq_of_beq_eq_true hc
    subst hl
    obtain ⟨y, r, rfl, h1_⟩ := pL_inv h
    obtain ⟨x, r, rfl, h2_⟩ := pL_inv h1_
    intro hv hvl H locs ls hP hS hL
    exact lv_land hx hb hd (hK _ _ _ h2_ (zv_cons trivial (zv_tl (zv_tl hv))) hvl H locs ls hP hS hL)
  case lor =>
    simp only [zstp] at h
    have hl : len = 1 := Nat.eq_of_beq_eq_true hc
    subst hl
    obtain ⟨y, r, rfl, h1_⟩ := pL_inv h
    obtain ⟨x, r, rfl, h2_⟩ := pL_inv h1_
    intro hv hvl H locs ls hP hS hL
    exact lv_lor hx hb hd (hK _ _ _ h2_ (zv_cons trivial (zv_tl (zv_tl hv))) hvl H locs ls hP hS hL)
  case lushr =>
    simp only [zstp] at h
    have hl : len = 1 := Nat.eq_of_beq_eq_true hc
    subst hl
    obtain ⟨y, r, rfl, h1_⟩ := pI_inv h
    obtain ⟨x, r, rfl, h2_⟩ := pL_inv h1_
    intro hv hvl H locs ls hP hS hL
    exact lv_lushr hx hb hd rfl (hK _ _ _ h2_ (zv_cons trivial (zv_tl (zv_tl hv))) hvl H locs ls hP hS hL)
  case lshl =>
    simp only [zstp] at h
    have hl : len = 1 := Nat.eq_of_beq_eq_true hc
    subst hl
    obtain ⟨y, r, rfl, h1_⟩ := pI_inv h
    obtain ⟨x, r, rfl, h2_⟩ := pL_inv h1_
    intro hv hvl H locs ls hP hS hL
    exact lv_lshl hx hb hd rfl (hK _ _ _ h2_ (zv_cons trivial (zv_tl (zv_tl hv))) hvl H locs ls hP hS hL)
  case lcmp =>
    simp only [zstp] at h
    have hl : len = 1 := Nat.eq_of_beq_eq_true hc
    subst hl
    obtain ⟨y, r, rfl, h1_⟩ := pL_inv h
    obtain ⟨x, r, rfl, h2_⟩ := pL_inv h1_
    intro hv hvl H locs ls hP hS hL
    exact W.lcmp hx hb hd (hK _ _ _ h2_ (zv_cons trivial (zv_tl (zv_tl hv))) hvl H locs ls hP hS hL)
  case idiv =>
    simp only [zstp] at h
    have hl : len = 1 := Nat.eq_of_beq_eq_true hc
    subst hl
    obtain ⟨y, r, rfl, h1_⟩ := pI_inv h
    obtain ⟨x, r, rfl, h2_⟩ := pI_inv h1_
    split at h2_
    · cases h2_
    · rename_i hy
      intro hv hvl H locs ls hP hS hL
      exact lv_idiv hx hb hd hy (hK _ _ _ h2_ (zv_cons trivial (zv_tl (zv_tl hv))) hvl H locs ls hP hS hL)
  case irem =>
    simp only [zstp] at h
    have hl : len = 1 := Nat.eq_of_beq_eq_true hc
    subst hl
    obtain ⟨y, r, rfl, h1_⟩ := pI_inv h
    obtain ⟨x, r, rfl, h2_⟩ := pI_inv h1_
    split at h2_
    · cases h2_
    · rename_i hy
      intro hv hvl H locs ls hP hS hL
      exact lv_irem hx hb hd hy (hK _ _ _ h2_ (zv_cons trivial (zv_tl (zv_tl hv))) hvl H locs ls hP hS hL)
  case i2l =>
    simp only [zstp] at h
    have hl : len = 1 := Nat.eq_of_beq_eq_true hc
    subst hl
    obtain ⟨x, r, rfl, h1_⟩ := pI_inv h
    intro hv hvl H locs ls hP hS hL
    exact lv_i2l hx hb hd rfl (hK _ _ _ h1_ (zv_cons trivial (zv_tl hv)) hvl H locs ls hP hS hL)
  case l2i =>
    simp only [zstp] at h
    have hl : len = 1 := Nat.eq_of_beq_eq_true hc
    subst hl
    obtain ⟨x, r, rfl, h1_⟩ := pL_inv h
    intro hv hvl H locs ls hP hS hL
    exact lv_l2i hx hb hd rfl (hK _ _ _ h1_ (zv_cons trivial (zv_tl hv)) hvl H locs ls hP hS hL)
  case dup =>
    simp only [zstp] at h
    have hl : len = 1 := Nat.eq_of_beq_eq_true hc
    subst hl
    rcases st with _ | ⟨v, st⟩
    · cases h
    rcases v with x | x | qq
    · intro hv hvl H locs ls hP hS hL
      exact lv_dup hx hb hd rfl (hK _ _ _ h (zv_cons trivial hv) hvl H locs ls hP hS hL)
    · cases h
    · intro hv hvl H locs ls hP hS hL
      exact lv_dup hx hb hd rfl (hK _ _ _ h (zv_cons (zv_hd hv) hv) hvl H locs ls hP hS hL)
  case dup2 =>
    simp only [zstp] at h
    have hl : len = 1 := Nat.eq_of_beq_eq_true hc
    subst hl
    obtain ⟨x, r, rfl, h1_⟩ := pI_inv h
    obtain ⟨t, i, r, rfl, h2_⟩ := pR_inv h1_
    intro hv hvl H locs ls hP hS hL
    exact lv_dup2_11 hx hb hd rfl rfl (hK _ _ _ h2_ (zv_cons trivial (zv_cons (zv_hd (zv_tl hv)) hv)) hvl H locs ls hP hS hL)
  case goto off =>
    simp only [zstp] at h
    simp only [zdc, Bool.and_eq_true, decide_eq_true_eq] at hc
    have hl : len = 3 := Nat.eq_of_beq_eq_true hc.1
    subst hl
    intro hv hvl H locs ls hP hS hL
    exact lv_goto hx hb hd hc.2 (hJ _ _ _ _ h hv hvl H locs ls hP hS hL)
  case ifCond cnd off =>
    simp only [zstp] at h
    simp only [zdc, Bool.and_eq_true, decide_eq_true_eq] at hc
    have hl : len = 3 := Nat.eq_of_beq_eq_true hc.1
    subst hl
    obtain ⟨x, r, rfl, h1_⟩ := pI_inv h
    cases cnd
    case eq =>
      intro hv hvl H locs ls hP hS hL
      refine lv_if_eq hx hb hd hc.2 (fun hh => ?_) (fun hh => ?_)
      · exact hJ _ _ _ _ (by simp only [zif0] at h1_; rwa [if_pos hh] at h1_) (zv_tl hv) hvl H locs ls hP hS hL
      · exact hK _ _ _ (by simp only [zif0] at h1_; rwa [if_neg hh] at h1_) (zv_tl hv) hvl H locs ls hP hS hL
    case ne =>
      intro hv hvl H locs ls hP hS hL
      refine lv_if_ne hx hb hd hc.2 (fun hh => ?_) (fun hh => ?_)
      · exact hJ _ _ _ _ (by simp only [zif0] at h1_; rwa [if_neg hh] at h1_) (zv_tl hv) hvl H locs ls hP hS hL
      · exact hK _ _ _ (by simp only [zif0] at h1_; rwa [if_pos hh] at h1_) (zv_tl hv) hvl H locs ls hP hS hL
    case lt =>
      intro hv hvl H locs ls hP hS hL
      refine lv_if_lt hx hb hd hc.2 (fun hh => ?_) (fun hh => ?_)
      · exact hJ _ _ _ _ (by simp only [zif0] at h1_; rwa [if_pos hh] at h1_) (zv_tl hv) hvl H locs ls hP hS hL
      · exact hK _ _ _ (by simp only [zif0] at h1_; rwa [if_neg hh] at h1_) (zv_tl hv) hvl H locs ls hP hS hL
    case ge =>
      intro hv hvl H locs ls hP hS hL
      refine lv_if_ge hx hb hd hc.2 (fun hh => ?_) (fun hh => ?_)
      · exact hJ _ _ _ _ (by simp only [zif0] at h1_; rwa [if_pos hh] at h1_) (zv_tl hv) hvl H locs ls hP hS hL
      · exact hK _ _ _ (by simp only [zif0] at h1_; rwa [if_neg hh] at h1_) (zv_tl hv) hvl H locs ls hP hS hL
    case gt =>
      intro hv hvl H locs ls hP hS hL
      refine lv_if_gt hx hb hd hc.2 (fun hh => ?_) (fun hh => ?_)
      · exact hJ _ _ _ _ (by simp only [zif0] at h1_; rwa [if_pos hh] at h1_) (zv_tl hv) hvl H locs ls hP hS hL
      · exact hK _ _ _ (by simp only [zif0] at h1_; rwa [if_neg hh] at h1_) (zv_tl hv) hvl H locs ls hP hS hL
    case le =>
      intro hv hvl H locs ls hP hS hL
      refine lv_if_le hx hb hd hc.2 (fun hh => ?_) (fun hh => ?_)
      · exact hJ _ _ _ _ (by simp only [zif0] at h1_; rwa [if_pos hh] at h1_) (zv_tl hv) hvl H locs ls hP hS hL
      · exact hK _ _ _ (by simp only [zif0] at h1_; rwa [if_neg hh] at h1_) (zv_tl hv) hvl H locs ls hP hS hL
  case if_icmp cnd off =>
    simp only [zstp] at h
    simp only [zdc, Bool.and_eq_true, decide_eq_true_eq] at hc
    have hl : len = 3 := Nat.eq_of_beq_eq_true hc.1
    subst hl
    obtain ⟨y, r, rfl, h1_⟩ := pI_inv h
    obtain ⟨x, r, rfl, h2_⟩ := pI_inv h1_
    cases cnd
    case eq =>
      intro hv hvl H locs ls hP hS hL
      refine lv_icmp_eq hx hb hd hc.2 (fun hh => ?_) (fun hh => ?_)
      · exact hJ _ _ _ _ (by simp only [zic] at h2_; rwa [if_pos hh] at h2_) (zv_tl (zv_tl hv)) hvl H locs ls hP hS hL
      · exact hK _ _ _ (by simp only [zic] at h2_; rwa [if_neg hh] at h2_) (zv_tl (zv_tl hv)) hvl H locs ls hP hS hL
    case ne =>
      intro hv hvl H locs ls hP hS hL
      refine lv_icmp_ne hx hb hd hc.2 (fun hh => ?_) (fun hh => ?_)
      · exact hJ _ _ _ _ (by simp only [zic] at h2_; rwa [if_neg hh] at h2_) (zv_tl (zv_tl hv)) hvl H locs ls hP hS hL
      · exact hK _ _ _ (by simp only [zic] at h2_; rwa [if_pos hh] at h2_) (zv_tl (zv_tl hv)) hvl H locs ls hP hS hL
    case lt =>
      intro hv hvl H locs ls hP hS hL
      refine lv_icmp_lt hx hb hd hc.2 (fun hh => ?_) (fun hh => ?_)
      · exact hJ _ _ _ _ (by simp only [zic] at h2_; rwa [if_pos hh] at h2_) (zv_tl (zv_tl hv)) hvl H locs ls hP hS hL
      · exact hK _ _ _ (by simp only [zic] at h2_; rwa [if_neg hh] at h2_) (zv_tl (zv_tl hv)) hvl H locs ls hP hS hL
    case ge =>
      intro hv hvl H locs ls hP hS hL
      refine lv_icmp_ge hx hb hd hc.2 (fun hh => ?_) (fun hh => ?_)
      · exact hJ _ _ _ _ (by simp only [zic] at h2_; rwa [if_pos hh] at h2_) (zv_tl (zv_tl hv)) hvl H locs ls hP hS hL
      · exact hK _ _ _ (by simp only [zic] at h2_; rwa [if_neg hh] at h2_) (zv_tl (zv_tl hv)) hvl H locs ls hP hS hL
    case gt =>
      intro hv hvl H locs ls hP hS hL
      refine lv_icmp_gt hx hb hd hc.2 (fun hh => ?_) (fun hh => ?_)
      · exact hJ _ _ _ _ (by simp only [zic] at h2_; rwa [if_pos hh] at h2_) (zv_tl (zv_tl hv)) hvl H locs ls hP hS hL
      · exact hK _ _ _ (by simp only [zic] at h2_; rwa [if_neg hh] at h2_) (zv_tl (zv_tl hv)) hvl H locs ls hP hS hL
    case le =>
      intro hv hvl H locs ls hP hS hL
      refine lv_icmp_le hx hb hd hc.2 (fun hh => ?_) (fun hh => ?_)
      · exact hJ _ _ _ _ (by simp only [zic] at h2_; rwa [if_pos hh] at h2_) (zv_tl (zv_tl hv)) hvl H locs ls hP hS hL
      · exact hK _ _ _ (by simp only [zic] at h2_; rwa [if_neg hh] at h2_) (zv_tl (zv_tl hv)) hvl H locs ls hP hS hL
  case tableswitch d lw hi offs =>
    simp only [zstp] at h
    simp only [zdc, Bool.and_eq_true, decide_eq_true_eq] at hc
    obtain ⟨⟨⟨⟨c1, c2⟩, c3⟩, c4⟩, c5⟩ := hc
    obtain ⟨x, r, rfl, h1_⟩ := pI_inv h
    rcases zsw_table (pc := (pc : Int)) offs.toList sw lw c5 c2 (by omega) h1_ with ⟨k, o, g1, g2, t, g3, g4⟩ | ⟨g1, g2⟩
    · intro hv hvl H locs ls hP hS hL
      refine lv_tableIn (off := o) (tgt := t) hx hb hd (by omega) (by have := (List.getElem?_eq_some_iff.mp g1).1; omega) ?_ g3.symm (hJ _ _ _ _ g4 (zv_tl hv) hvl H locs ls hP hS hL)
      rw [show (x.toInt - lw).toNat = k by omega, ← Array.getElem?_toList]
      exact g1
    · intro hv hvl H locs ls hP hS hL
      exact lv_tableOut hx hb hd (by omega) c1 (hJ _ _ _ _ g2 (zv_tl hv) hvl H locs ls hP hS hL)
  case lookupswitch d ps =>
    simp only [zstp] at h
    simp only [zdc, Bool.and_eq_true, decide_eq_true_eq] at hc
    obtain ⟨⟨c1, c2⟩, c3⟩ := hc
    obtain ⟨x, r, rfl, h1_⟩ := pI_inv h
    rcases zsw_lookup (pc := (pc : Int)) (dd := d) ps.toList sw c3 h1_ with ⟨t, g1, g2⟩ | ⟨g1, g2⟩
    · intro hv hvl H locs ls hP hS hL
      exact lv_lookup hx hb hd c2 rfl g1.symm (hJ _ _ _ _ g2 (zv_tl hv) hvl H locs ls hP hS hL)
    · intro hv hvl H locs ls hP hS hL
      exact lv_lookup hx hb hd c2 g1 c1 (hJ _ _ _ _ g2 (zv_tl hv) hvl H locs ls hP hS hL)
  case getfield k =>
    simp only [zstp] at h
    have hl : len = 3 := Nat.eq_of_beq_eq_true hc
    subst hl
    exact zx_getf hF hcF hd hK h
  case putfield k =>
    simp only [zstp] at h
    have hl : len = 3 := Nat.eq_of_beq_eq_true hc
    subst hl
    exact zx_putf hF hcF hd hK h
  case iaload =>
    simp only [zstp] at h
    have hl : len = 1 := Nat.eq_of_beq_eq_true hc
    subst hl
    obtain ⟨x, r, rfl, h1_⟩ := pI_inv h
    obtain ⟨t, i, r, rfl, h2_⟩ := pR_inv h1_
    obtain ⟨hk, h3_⟩ := zif_inv h2_
    obtain ⟨hin, h4_⟩ := chk_inv h3_
    exact zx_iald hF hd hk hin (hK _ _ _ h4_)
  case baload =>
    simp only [zstp] at h
    have hl : len = 1 := Nat.eq_of_beq_eq_true hc
    subst hl
    obtain ⟨x, r, rfl, h1_⟩ := pI_inv h
    obtain ⟨t, i, r, rfl, h2_⟩ := pR_inv h1_
    obtain ⟨hk, h3_⟩ := zif_inv h2_
    obtain ⟨hin, h4_⟩ := chk_inv h3_
    exact zx_bald hF hd hk hin (hK _ _ _ h4_)
  case laload =>
    simp only [zstp] at h
    have hl : len = 1 := Nat.eq_of_beq_eq_true hc
    subst hl
    obtain ⟨x, r, rfl, h1_⟩ := pI_inv h
    obtain ⟨t, i, r, rfl, h2_⟩ := pR_inv h1_
    obtain ⟨hk, h3_⟩ := zif_inv h2_
    obtain ⟨hin, h4_⟩ := chk_inv h3_
    exact zx_lald hF hd hk hin (hK _ _ _ h4_)
  case aaload =>
    simp only [zstp] at h
    have hl : len = 1 := Nat.eq_of_beq_eq_true hc
    subst hl
    obtain ⟨x, r, rfl, h1_⟩ := pI_inv h
    obtain ⟨t, i, r, rfl, h2_⟩ := pR_inv h1_
    cases hb20 : Nat.beq t 20
    · rw [hb20] at h2_
      obtain ⟨hk, g1_⟩ := zif_inv h2_
      obtain ⟨hin, g2_⟩ := chk_inv g1_
      exact zx_aald hF hd (Or.inr ⟨Nat.eq_of_beq_eq_true hk, rfl, rfl⟩) hin (hK _ _ _ g2_)
    · rw [hb20] at h2_
      obtain ⟨hin, g2_⟩ := chk_inv h2_
      exact zx_aald hF hd (Or.inl ⟨Nat.eq_of_beq_eq_true hb20, rfl, rfl⟩) hin (hK _ _ _ g2_)
  case iastore =>
    simp only [zstp] at h
    have hl : len = 1 := Nat.eq_of_beq_eq_true hc
    subst hl
    obtain ⟨x, r, rfl, h1_⟩ := pI_inv h
    obtain ⟨j, r, rfl, h2_⟩ := pI_inv h1_
    obtain ⟨t, i, r, rfl, h3_⟩ := pR_inv h2_
    obtain ⟨hk, h4_⟩ := zif_inv h3_
    obtain ⟨hin, h5_⟩ := chk_inv h4_
    exact zx_iast hF hd hk hin (hK _ _ _ h5_)
  case bastore =>
    simp only [zstp] at h
    have hl : len = 1 := Nat.eq_of_beq_eq_true hc
    subst hl
    obtain ⟨x, r, rfl, h1_⟩ := pI_inv h
    obtain ⟨j, r, rfl, h2_⟩ := pI_inv h1_
    obtain ⟨t, i, r, rfl, h3_⟩ := pR_inv h2_
    obtain ⟨hk, h4_⟩ := zif_inv h3_
    obtain ⟨hin, h5_⟩ := chk_inv h4_
    obtain ⟨h01, h6_⟩ := zb_inv h5_
    exact zx_bast hF hd hk hin h01 (hK _ _ _ h6_)
  case lastore =>
    simp only [zstp] at h
    have hl : len = 1 := Nat.eq_of_beq_eq_true hc
    subst hl
    obtain ⟨x, r, rfl, h1_⟩ := pL_inv h
    obtain ⟨j, r, rfl, h2_⟩ := pI_inv h1_
    obtain ⟨t, i, r, rfl, h3_⟩ := pR_inv h2_
    obtain ⟨hk, h4_⟩ := zif_inv h3_
    obtain ⟨hin, h5_⟩ := chk_inv h4_
    exact zx_last hF hd hk hin (hK _ _ _ h5_)
  case arraylength =>
    simp only [zstp] at h
    have hl : len = 1 := Nat.eq_of_beq_eq_true hc
    subst hl
    obtain ⟨t, i, r, rfl, h1_⟩ := pR_inv h
    obtain ⟨hk, h2_⟩ := zif_inv h1_
    exact zx_alen hF hd hk (hK _ _ _ h2_)
  case invokevirtual k =>
    simp only [zstp] at h
    have hl : len = 3 := Nat.eq_of_beq_eq_true hc
    subst hl
    obtain ⟨q, hq, h1_⟩ := oB_inv h
    obtain ⟨as, r, rfl, hn, h2_⟩ := zpop_inv _ _ _ h1_
    obtain ⟨h8, h3_⟩ := zif_inv h2_
    rw [List.append_nil] at h3_
    exact (hcM _ (zop_mem hq)).1 k rfl pc as r lo w _ hd hn (Nat.le_of_ble_eq_true h8) h3_ fun v w' h' => hK _ _ _ h'
  case invokestatic k =>
    simp only [zstp] at h
    have hl : len = 3 := Nat.eq_of_beq_eq_true hc
    subst hl
    obtain ⟨q, hq, h1_⟩ := oB_inv h
    obtain ⟨as, r, rfl, hn, h2_⟩ := zpop_inv _ _ _ h1_
    obtain ⟨h8, h3_⟩ := zif_inv h2_
    rw [List.append_nil] at h3_
    exact (hcM _ (zop_mem hq)).2 k rfl pc as r lo w _ hd hn (Nat.le_of_ble_eq_true h8) h3_ fun v w' h' => hK _ _ _ h'
  case ireturn =>
    simp only [zstp] at h
    have hl : len = 1 := Nat.eq_of_beq_eq_true hc
    subst hl
    obtain ⟨x, r, rfl, h1_⟩ := pI_inv h
    obtain ⟨rfl, h2_⟩ := pE_inv h1_
    exact hR.1 pc x w lo hd h2_
  case lreturn =>
    simp only [zstp] at h
    have hl : len = 1 := Nat.eq_of_beq_eq_true hc
    subst hl
    obtain ⟨x, r, rfl, h1_⟩ := pL_inv h
    obtain ⟨rfl, h2_⟩ := pE_inv h1_
    exact hR.2.1 pc x w lo hd h2_
  case areturn =>
    simp only [zstp] at h
    have hl : len = 1 := Nat.eq_of_beq_eq_true hc
    subst hl
    obtain ⟨t, i, r, rfl, h1_⟩ := pR_inv h
    obtain ⟨rfl, h2_⟩ := pE_inv h1_
    exact hR.2.2.1 pc t i w lo hd h2_
  case return_ =>
    simp only [zstp] at h
    have hl : len = 1 := Nat.eq_of_beq_eq_true hc
    subst hl
    obtain ⟨rfl, h1_⟩ := pE_inv h
    exact hR.2.2.2 pc w lo hd h1_
  all_goals cases h
def zdr (cc : ByteArray) (nL : Nat) : Nat → List ZRow → Bool
  | _, [] => true
  | pc, r :: rs => decide (decode cc pc = .ok (r.1, r.2.1)) && zdc r.1 r.2.1 r.2.2.1 r.2.2.2 nL pc && zdr cc nL (pc + r.2.1) rs
def zdb (cc : ByteArray) (nL : Nat) (bl : ZBl) : Bool := bl.all fun b => zdr cc nL b.1 b.2.2
theorem zrun_sound {ρ : Type} {X : ρ} {cF : List (Nat × Nat × Nat)} {cL : List (Nat × Int64)} {cM : List (Nat × Nat × ZCall ρ)} {ret : Option ZV → Wd → Option ρ} {J : ZJ ρ} (hF : zMF p s m args c cc nL own Ts D ad cA A) (hcF : zFl own cF) (hcL : zLl own cL) (hcM : zMl (zCk p l e R s m args below meth c cells slots Q cc nL D ad cA A X) cM) (hR : zRt p l e R s m args below meth c cells slots Q cc nL D ad cA A X ret)
    (hJ : ∀ pc st lo w, J pc st lo w = some X → zAt p l e R s m args below meth c cells slots Q nL D ad cA A pc st lo w) : ∀ (rs : List ZRow) (pc : Nat) (st : List ZV) (lo : Lo) (w : Wd), zdr cc nL pc rs = true → zrun cF cL cM ret J rs pc st lo w = some X → zAt p l e R s m args below meth c cells slots Q nL D ad cA A pc st lo w
  | [], pc, st, lo, w, _, h => hJ _ _ _ _ h
  | r :: rs, pc, st, lo, w, hz, h => by
    simp only [zdr, Bool.and_eq_true, decide_eq_true_eq] at hz
    exact zstp_sound hF hz.1.1 hz.1.2 hcF hcL hcM hR (fun st lo w h' => zrun_sound hF hcF hcL hcM hR hJ rs _ st lo w hz.2 h') hJ h
theorem zAt.mask {pc : Nat} {st : List ZV} {lo : Lo} {w : Wd} {ms : List Bool} (h : zAt p l e R s m args below meth c cells slots Q nL D ad cA A pc st (zmask ms lo) w) : zAt p l e R s m args below meth c cells slots Q nL D ad cA A pc st lo w :=
  fun hv hvl H locs ls hP hS hL => h hv (fun i v hz => hvl i v (zget_mask _ _ _ _ hz)) H locs ls hP hS (hL.mask ms)
theorem zex_sound {ρ : Type} {X : ρ} {cF : List (Nat × Nat × Nat)} {cL : List (Nat × Int64)} {cM : List (Nat × Nat × ZCall ρ)} {ret : Option ZV → Wd → Option ρ} {J : ZJ ρ} {bl : ZBl} (hF : zMF p s m args c cc nL own Ts D ad cA A) (hcF : zFl own cF) (hcL : zLl own cL) (hcM : zMl (zCk p l e R s m args below meth c cells slots Q cc nL D ad cA A X) cM) (hR : zRt p l e R s m args below meth c cells slots Q cc nL D ad cA A X ret) (hbl : zdb cc nL bl = true)
    (hJ : ∀ pc st lo w, J pc st lo w = some X → zAt p l e R s m args below meth c cells slots Q nL D ad cA A pc st lo w) : ∀ (k pc : Nat) (st : List ZV) (lo : Lo) (w : Wd), zex cF cL bl cM ret J k pc st lo w = some X → zAt p l e R s m args below meth c cells slots Q nL D ad cA A pc st lo w
  | 0, _, _, _, _, h => by cases h
  | k + 1, pc, st, lo, w, h => by
    obtain ⟨b, hb, h⟩ := oB_inv h
    refine zrun_sound hF hcF hcL hcM hR ?_ b.2 pc st lo w (List.all_eq_true.mp hbl _ (zop_mem hb)) h
    intro pc st lo w h
    obtain ⟨b', hb', h⟩ := oB_inv h
    split at h
    · exact (hJ _ _ _ _ h).mask
    · exact zex_sound hF hcF hcL hcM hR hbl hJ k pc st lo w h
theorem zeN_sound {ρ : Type} {X : ρ} {cF : List (Nat × Nat × Nat)} {cL : List (Nat × Int64)} {cM : List (Nat × Nat × ZCall ρ)} {ret : Option ZV → Wd → Option ρ} {bl : ZBl} (hF : zMF p s m args c cc nL own Ts D ad cA A) (hcF : zFl own cF) (hcL : zLl own cL) (hcM : zMl (zCk p l e R s m args below meth c cells slots Q cc nL D ad cA A X) cM) (hR : zRt p l e R s m args below meth c cells slots Q cc nL D ad cA A X ret) (hbl : zdb cc nL bl = true) : ∀ (n pc : Nat) (st : List ZV) (lo : Lo) (w : Wd), zeN cF cL bl cM ret n pc st lo w = some X → zAt p l e R s m args below meth c cells slots Q nL D ad cA A pc st lo w
  | 0, _, _, _, _, h => by cases h
  | n + 1, pc, st, lo, w, h => zex_sound hF hcF hcL hcM hR hbl (fun pc st lo w h' => zeN_sound hF hcF hcL hcM hR hbl n pc st lo w h') 60 pc st lo w h
theorem zev_sound {ρ : Type} {X : ρ} {cF : List (Nat × Nat × Nat)} {cL : List (Nat × Int64)} {cM : List (Nat × Nat × ZCall ρ)} {ret : Option ZV → Wd → Option ρ} {bl : ZBl} (hF : zMF p s m args c cc nL own Ts D ad cA A) (hcF : zFl own cF) (hcL : zLl own cL) (hcM : zMl (zCk p l e R s m args below meth c cells slots Q cc nL D ad cA A X) cM) (hR : zRt p l e R s m args below meth c cells slots Q cc nL D ad cA A X ret) (hbl : zdb cc nL bl = true) (hM : LfM cM) {pc : Nat} {st : List ZV} {lo : Lo} {w : Wd} (h : zev cF cL bl cM ret pc st lo w = some X) : zAt p l e R s m args below meth c cells slots Q nL D ad cA A pc st lo w := by
  obtain ⟨n, hn⟩ := (zev_some hM).mp h
  exact zeN_sound hF hcF hcL hcM hR hbl n pc st lo w hn
end RUN
end
section
/-! METHODS AND CALLS: a method's contract out of its run; a call out of a contract. -/
def zroom (fr lc : Nat) : Room := { frames := fr, cells := 0, slots := 0, locals := lc }
def zPc (D : va_G) (ad : Nat → Nat → Nat) (cA : Nat → ClassId) (as : List ZV) (w : Wd) : Array Value → State → Prop := fun a U => a = (as.map (zconc ad)).toArray ∧ zK D cA U ∧ zRep D ad cA w U U.heap
def zQc (D : va_G) (ad : Nat → Nat → Nat) (cA : Nat → ClassId) (v : Option ZV) (w' : Wd) : Array Value → State → Outcome → State → Prop := fun _ st oc t => oc = .returned (v.map (zconc ad)) ∧ zRep D ad cA w' t t.heap ∧ va_F (zA ad) st t
def zCt (l : Launch) (D : va_G) (ad : Nat → Nat → Nat) (cA : Nat → ClassId) (y : MethodName) (cc : ByteArray) (nL : Nat) (rt : Option FieldType) (fr lc : Nat) (as : List ZV) (w : Wd) (v : Option ZV) (w' : Wd) : Prop :=
  Met l y (zTs y cc nL rt) (zroom fr lc) (zPc D ad cA as w) (zQc D ad cA v w') 0 0 (zA ad)
def zvo : Option ZV → Prop
  | some v => zVal v
  | none => True
theorem zPc_blind {D : va_G} {ad : Nat → Nat → Nat} {cA : Nat → ClassId} {as : List ZV} {w : Wd} : FrameBlind (zPc D ad cA as w) := by
  intro a U g mk h
  obtain ⟨h1, h2, h3⟩ := h
  refine ⟨h1, ⟨va_K.moved (u := U) (U := U.calling g mk a) (Vm.Alike.refl U.vm) h2.1, fun w hw hn => ?_⟩, h3.moved (U := U.calling g mk a) (Vm.Alike.refl U.vm)⟩
  have h4 := h2.2 w hw hn
  cases w <;> first
    | (cases hn; done)
    | exact va_Nw.same rfl rfl h4
/-! typed answers -/
section TY
variable {ρ : Type}
def cI (g : List ZV → Wd → Option (Int32 × Wd)) : ZCall ρ := fun as w K => oB (g as w) fun q => K (some (zi q.1)) q.2
def cJ (g : List ZV → Wd → Option (Int64 × Wd)) : ZCall ρ := fun as w K => oB (g as w) fun q => K (some (zl q.1)) q.2
def cV (g : List ZV → Wd → Option Wd) : ZCall ρ := fun as w K => oB (g as w) fun q => K none q
def cR (g : List ZV → Wd → Option ((Nat × Nat) × Wd)) : ZCall ρ := fun as w K => oB (g as w) fun q => K (some (zr q.1.1 q.1.2)) q.2
theorem lfc_I (g : List ZV → Wd → Option (Int32 × Wd)) : LfC (cI (ρ := ρ) g) := fun as w K X h => by
  obtain ⟨q, h1, h2⟩ := oB_inv h
  exact ⟨_, _, h2, fun K' h' => by simp only [cI, h1, oB]; exact h'⟩
theorem lfc_J (g : List ZV → Wd → Option (Int64 × Wd)) : LfC (cJ (ρ := ρ) g) := fun as w K X h => by
  obtain ⟨q, h1, h2⟩ := oB_inv h
  exact ⟨_, _, h2, fun K' h' => by simp only [cJ, h1, oB]; exact h'⟩
theorem lfc_V (g : List ZV → Wd → Option Wd) : LfC (cV (ρ := ρ) g) := fun as w K X h => by
  obtain ⟨q, h1, h2⟩ := oB_inv h
  exact ⟨_, _, h2, fun K' h' => by simp only [cV, h1, oB]; exact h'⟩
theorem lfc_R (g : List ZV → Wd → Option ((Nat × Nat) × Wd)) : LfC (cR (ρ := ρ) g) := fun as w K X h => by
  obtain ⟨q, h1, h2⟩ := oB_inv h
  exact ⟨_, _, h2, fun K' h' => by simp only [cR, h1, oB]; exact h'⟩
theorem lfm_nil : LfM ([] : List (Nat × Nat × ZCall ρ)) := fun _ _ h => by cases h
theorem lfm_of {cM : List (Nat × Nat × ZCall ρ)} (h : ∀ q ∈ cM, LfC q.2.2) : LfM cM := fun _ _ hk => h _ (zop_mem hk)
end TY
def rI : Option ZV → Wd → Option (Int32 × Wd) := fun v w => match v with
  | some (Sum.inl x) => some (x, w)
  | _ => none
def rZ : Option ZV → Wd → Option (Int32 × Wd) := fun v w => match v with
  | some (Sum.inl x) => zb x (some (x, w))
  | _ => none
def rJ : Option ZV → Wd → Option (Int64 × Wd) := fun v w => match v with
  | some (Sum.inr (Sum.inl x)) => some (x, w)
  | _ => none
def rV : Option ZV → Wd → Option Wd := fun v w => match v with
  | none => some w
  | _ => none
def rR : Option ZV → Wd → Option ((Nat × Nat) × Wd) := fun v w => match v with
  | some (Sum.inr (Sum.inr q)) => some (q, w)
  | _ => none
def zentl : List ZV → Lo
  | [] => []
  | Sum.inr (Sum.inl x) :: r => some (zl x) :: none :: zentl r
  | v :: r => some v :: zentl r
def zent (nL : Nat) (as : List ZV) : Lo := zentl as ++ List.replicate (nL - (zentl as).length) none
theorem zget_app_none : ∀ (lo : Lo) (n i : Nat) (v : ZV), zget (lo ++ List.replicate n none) i = some v → zget lo i = some v
  | [], 0, _, _, h => by cases h
  | [], n + 1, 0, _, h => by cases h
  | [], n + 1, i + 1, v, h => zget_app_none [] n i v h
  | a :: l, n, 0, v, h => h
  | a :: l, n, i + 1, v, h => zget_app_none l n i v h
theorem zent_args (ad : Nat → Nat → Nat) : ∀ (as : List ZV) (j i : Nat) (v : ZV), zget (zentl as) i = some v → (j + i, zconc ad v) ∈ lv_args j (as.map (zconc ad)) ∧ v ∈ as
  | [], _, _, _, h => by cases h
  | Sum.inl x :: r, j, 0, v, h => by
    cases h
    exact ⟨List.mem_cons_self, List.mem_cons_self⟩
  | Sum.inl x :: r, j, i + 1, v, h => by
    obtain ⟨h1, h2⟩ := zent_args ad r (j + 1) i v h
    rw [show j + (i + 1) = j + 1 + i by omega]
    exact ⟨List.mem_cons_of_mem _ h1, List.mem_cons_of_mem _ h2⟩
  | Sum.inr (Sum.inr x) :: r, j, 0, v, h => by
    cases h
    exact ⟨List.mem_cons_self, List.mem_cons_self⟩
  | Sum.inr (Sum.inr x) :: r, j, i + 1, v, h => by
    obtain ⟨h1, h2⟩ := zent_args ad r (j + 1) i v h
    rw [show j + (i + 1) = j + 1 + i by omega]
    exact ⟨List.mem_cons_of_mem _ h1, List.mem_cons_of_mem _ h2⟩
  | Sum.inr (Sum.inl x) :: r, j, 0, v, h => by
    cases h
    exact ⟨List.mem_cons_self, List.mem_cons_self⟩
  | Sum.inr (Sum.inl x) :: r, j, 1, v, h => by cases h
  | Sum.inr (Sum.inl x) :: r, j, i + 2, v, h => by
    obtain ⟨h1, h2⟩ := zent_args ad r (j + 2) i v h
    rw [show j + (i + 2) = j + 2 + i by omega]
    exact ⟨List.mem_cons_of_mem _ h1, List.mem_cons_of_mem _ h2⟩
theorem zentl_len (ad : Nat → Nat → Nat) : ∀ (as : List ZV), (lg_sl (as.map (zconc ad))).length = (zentl as).length
  | [] => rfl
  | Sum.inl x :: r => by
    have := zentl_len ad r
    simp only [List.map_cons, lg_sl, List.flatMap_cons, List.length_append] at this ⊢
    rw [this]; simp [zconc, Value.category, zentl]; omega
  | Sum.inr (Sum.inr x) :: r => by
    have := zentl_len ad r
    simp only [List.map_cons, lg_sl, List.flatMap_cons, List.length_append] at this ⊢
    rw [this]; simp [zconc, Value.category, zentl]; omega
  | Sum.inr (Sum.inl x) :: r => by
    have := zentl_len ad r
    simp only [List.map_cons, lg_sl, List.flatMap_cons, List.length_append] at this ⊢
    rw [this]; simp [zconc, Value.category, zentl]; omega
section ME
variable {l : Launch} {D : va_G} {ad : Nat → Nat → Nat} {cA : Nat → ClassId} {y : MethodName} {cc : ByteArray} {nL : Nat} {rt : Option FieldType} {fr lc : Nat}
/-- a method out of a run of its code -/
theorem zmeth {ρ : Type} {X : ρ} {cF : List (Nat × Nat × Nat)} {cL : List (Nat × Int64)} {bl : ZBl} {cM : List (Nat × Nat × ZCall ρ)} {ret : Option ZV → Wd → Option ρ} {as : List ZV} {w : Wd} {v : Option ZV} {w' : Wd} (hI : zInj ad) (hy : plainName y.cls = true) (hcF : zFl y.cls cF) (hcL : zLl y.cls cL) (hM : LfM cM) (hbl : zdb cc nL bl = true) (hlen : (zentl as).length ≤ nL) (hv : ∀ u ∈ as, zVal u)
    (hcM : ∀ {p e s m args below meth c} {Q : State → Prop}, zMF p s m args c cc nL y.cls (zTs y cc nL rt) D ad cA (zA ad) → zMl (zCk p l e (zroom fr lc) s m args below meth c 0 0 Q cc nL D ad cA (zA ad) X) cM)
    (hRt : ∀ {p e s m args below meth c}, zMF p s m args c cc nL y.cls (zTs y cc nL rt) D ad cA (zA ad) → meth.sig.returnType = rt → meth.locks = false → zRt p l e (zroom fr lc) s m args below meth c 0 0 (MQ below (zQc D ad cA v w') args s 0 0 (zA ad)) cc nL D ad cA (zA ad) X ret)
    (h : zev cF cL bl cM ret 0 [] (zent nL as) w = some X) : zCt l D ad cA y cc nL rt fr lc as w v w' := by
  refine Met.ofW (cc := cc) (maxL := nL) (ret := rt) hy rfl ?_
  intro p e s m args below meth c s₁ B hml hpc
  obtain ⟨rfl, hK, hP⟩ := hpc
  have hF : zMF p s m (as.map (zconc ad)).toArray c cc nL y.cls (zTs y cc nL rt) D ad cA (zA ad) := ⟨B.exec, B.bytes, hml, findClass_of_methodNamed B.named, atoms_spec (ws := zTs y cc nL rt) B.pre, zTs_W0, hK, hI, fun t i h1 h2 => ⟨t, i, h1, h2, rfl⟩⟩
  have hz := zev_sound (e := e) (R := zroom fr lc) (Q := MQ below (zQc D ad cA v w') (as.map (zconc ad)).toArray s 0 0 (zA ad)) hF hcF hcL (hcM hF) (hRt hF B.returns B.notSynchronized) hbl hM h
  have hl := lv_entry (as.map (zconc ad)) (n := nL) (by rw [zentl_len]; exact hlen)
  rw [lg_entry_eq]
  refine hz (fun v hv => by cases hv) (fun i u hu => hv u (zent_args ad as 0 i u (zget_app_none _ _ _ _ hu)).2) s.heap [] _ hP va_S.rf ⟨_, hl, fun i u hu => ?_⟩
  have := (zent_args ad as 0 i u (zget_app_none _ _ _ _ hu)).1
  rwa [Nat.zero_add] at this
theorem zret_ok {s t : State} {w : Wd} {H : Heap} {locs : List Loc} {A : Nat → Prop} (hP : zRep D ad cA w s H) (hS : va_S A s.heap H locs) (ht : t.heap = H) (hW : s.WarmedH t.vm) : zRep D ad cA w t t.heap ∧ va_F A s t := by
  refine ⟨?_, hS.F ht⟩
  rw [ht]
  exact hP.moved hW.alike
section RT
variable {p : Program} {e : Env} {s : State} {m : MethodId} {args : Array Value} {below : List Frame} {meth : Method} {c : Code} {own : String} {Ts : List Cond} {R : Room} {A : Nat → Prop}
theorem zrt_I {X : Int32 × Wd} (hF : zMF p s m args c cc nL own Ts D ad cA (zA ad)) (hr : meth.sig.returnType = some .int) (hlk : meth.locks = false) : zRt p l e R s m args below meth c 0 0 (MQ below (zQc D ad cA (some (zi X.1)) X.2) args s 0 0 (zA ad)) cc nL D ad cA (zA ad) X rI := by
  refine ⟨fun pc x w lo hd h => ?_, fun pc x w lo hd h => by (cases h), fun pc t i w lo hd h => by (cases h), fun pc w lo hd h => by (cases h)⟩
  cases h
  intro hv hvl H locs ls hP hS hL
  exact W.iret hF.1 hF.2.1 hr (fun t ht hW => ⟨rfl, zret_ok hP hS ht hW⟩) hS.2.2 hd hlk
theorem zrt_Z {X : Int32 × Wd} (hF : zMF p s m args c cc nL own Ts D ad cA (zA ad)) (hr : meth.sig.returnType = some .boolean) (hlk : meth.locks = false) : zRt p l e R s m args below meth c 0 0 (MQ below (zQc D ad cA (some (zi X.1)) X.2) args s 0 0 (zA ad)) cc nL D ad cA (zA ad) X rZ := by
  refine ⟨fun pc x w lo hd h => ?_, fun pc x w lo hd h => by (cases h), fun pc t i w lo hd h => by (cases h), fun pc w lo hd h => by (cases h)⟩
  obtain ⟨h01, h⟩ := zb_inv h
  cases h
  intro hv hvl H locs ls hP hS hL
  exact W.zret hF.1 hF.2.1 hr (by rcases h01 with rfl | rfl <;> rfl) (fun t ht hW => ⟨rfl, zret_ok hP hS ht hW⟩) hS.2.2 hd hlk
theorem zrt_J {X : Int64 × Wd} (hF : zMF p s m args c cc nL own Ts D ad cA (zA ad)) (hr : meth.sig.returnType = some .long) (hlk : meth.locks = false) : zRt p l e R s m args below meth c 0 0 (MQ below (zQc D ad cA (some (zl X.1)) X.2) args s 0 0 (zA ad)) cc nL D ad cA (zA ad) X rJ := by
  refine ⟨fun pc x w lo hd h => by (cases h), fun pc x w lo hd h => ?_, fun pc t i w lo hd h => by (cases h), fun pc w lo hd h => by (cases h)⟩
  cases h
  intro hv hvl H locs ls hP hS hL
  exact W.lret hF.1 hF.2.1 hr (fun t ht hW => ⟨rfl, zret_ok hP hS ht hW⟩) hS.2.2 hd hlk
theorem zrt_V {X : Wd} (hF : zMF p s m args c cc nL own Ts D ad cA (zA ad)) (hr : meth.sig.returnType = none) (hlk : meth.locks = false) : zRt p l e R s m args below meth c 0 0 (MQ below (zQc D ad cA none X) args s 0 0 (zA ad)) cc nL D ad cA (zA ad) X rV := by
  refine ⟨fun pc x w lo hd h => by (cases h), fun pc x w lo hd h => by (cases h), fun pc t i w lo hd h => by (cases h), fun pc w lo hd h => ?_⟩
  cases h
  intro hv hvl H locs ls hP hS hL
  exact W.vret hF.1 hF.2.1 hr (fun t ht hW => ⟨rfl, zret_ok hP hS ht hW⟩) hS.2.2 hd hlk
theorem zrt_R {X : (Nat × Nat) × Wd} {nm : String} (hF : zMF p s m args c cc nL own Ts D ad cA (zA ad)) (hr : meth.sig.returnType = some (.object nm)) (hlk : meth.locks = false) : zRt p l e R s m args below meth c 0 0 (MQ below (zQc D ad cA (some (zr X.1.1 X.1.2)) X.2) args s 0 0 (zA ad)) cc nL D ad cA (zA ad) X rR := by
  refine ⟨fun pc x w lo hd h => by (cases h), fun pc x w lo hd h => by (cases h), fun pc t i w lo hd h => ?_, fun pc w lo hd h => by (cases h)⟩
  cases h
  intro hv hvl H locs ls hP hS hL
  exact W.aret hF.1 hF.2.1 hr (Or.inl ⟨_, rfl⟩) (Or.inr ⟨_, rfl⟩) (fun t ht hW => ⟨rfl, zret_ok hP hS ht hW⟩) hS.2.2 hd hlk
end RT
end ME
section CA
variable {p : Program} {l : Launch} {e : Env} {R : Room} {s : State} {m : MethodId} {args : Array Value} {below : List Frame} {meth : Method} {c : Code} {cells slots : Nat} {Q : State → Prop} {cc : ByteArray} {nL : Nat} {own : String} {Ts : List Cond} {D : va_G} {ad : Nat → Nat → Nat} {cA : Nat → ClassId} {A : Nat → Prop}
theorem zx_run {H : Heap} {locs : List Loc} {pc : Nat} {ls : Array Slot} {st0 rest : List Value} {v : Option ZV} {w' : Wd} {a : Array Value} (hF : zMF p s m args c cc nL own Ts D ad cA A)
    (hr : va_Run p l e R s m args below meth c H locs cells slots 0 0 (F0 m pc ls st0) rest (zQc D ad cA v w' a) (zA ad)) (hS : va_S A s.heap H locs)
    (kk : ∀ (H1 : Heap) (locs1 : List Loc), zRep D ad cA w' s H1 → va_S A s.heap H1 locs1 → W p l e R s m args below meth c H1 locs1 cells slots Q (F0 m (pc + 3) ls ((v.map (zconc ad)).toList ++ rest))) : W p l e R s m args below meth c H locs cells slots Q (F0 m pc ls st0) := by
  have hA : ∀ q, zA ad q → A q := by
    rintro q ⟨t, i, h1, h2, rfl⟩
    exact hF.2.2.2.2.2.2.2.2 t i h1 h2
  intro T hT X
  obtain ⟨v', st₀, t, T', L, h0, X', hL, e1, e2, ⟨hv, hrep, hz, hk⟩, st⟩ := hr T hT X
  cases hv
  rw [h0] at hz hk
  obtain ⟨t2, a1, b1⟩ := kk T'.heap (locs ++ L) (by
      rw [e1]
      exact hrep.moved (by rw [← e2]; exact X'.warmed.alike.symm))
    ⟨Nat.le_trans hS.1 (by rw [e1]; exact hz), fun q h1 h2 => by
        rw [e1, hk q (Nat.lt_of_lt_of_le h1 hS.1) (fun z => h2 (hA q z))]
        exact hS.2.1 q h1 h2, fun q hq => by
      rcases List.mem_append.mp hq with h | h
      · exact hS.2.2 q h
      · exact hA _ (hL q h)⟩ T' rfl X'
  exact ⟨t2, st t2 a1, b1⟩
theorem zcat_sum (ad : Nat → Nat → Nat) : ∀ r : List ZV, ((r.map (zconc ad)).map fun v => v.category).sum = zcat r
  | [] => rfl
  | Sum.inl x :: r => by simp only [List.map_cons, List.sum_cons, zcat_sum ad r]; rfl
  | Sum.inr (Sum.inl x) :: r => by simp only [List.map_cons, List.sum_cons, zcat_sum ad r]; rfl
  | Sum.inr (Sum.inr x) :: r => by simp only [List.map_cons, List.sum_cons, zcat_sum ad r]; rfl
theorem zmap_toList (ad : Nat → Nat → Nat) (v : Option ZV) (r : List ZV) : (v.map (zconc ad)).toList ++ r.map (zconc ad) = (v.toList ++ r).map (zconc ad) := by
  cases v <;> simp
/-- what a contract says of a table's function: it answers by a contract -/
def zAns {ρ : Type} (l : Launch) (D : va_G) (ad : Nat → Nat → Nat) (cA : Nat → ClassId) (y : MethodName) (cc : ByteArray) (nL : Nat) (rt : Option FieldType) (fr lc : Nat) (X : ρ) (P : List ZV → Prop) (F : ZCall ρ) : Prop :=
  ∀ as w Kf, (∀ u ∈ as, zVal u) → F as w Kf = some X → ∃ v w', P as ∧ Kf v w' = some X ∧ zvo v ∧ zCt l D ad cA y cc nL rt fr lc as w v w'
theorem zv_rev {as r : List ZV} (h : ∀ v ∈ as.reverse ++ r, zVal v) : (∀ v ∈ as, zVal v) ∧ ∀ v ∈ r, zVal v :=
  ⟨fun v hv => h v (List.mem_append_left _ (List.mem_reverse.mpr hv)), fun v hv => h v (List.mem_append_right _ hv)⟩
theorem zv_opt {v : Option ZV} {r : List ZV} (h1 : zvo v) (h2 : ∀ u ∈ r, zVal u) : ∀ u ∈ v.toList ++ r, zVal u := by
  cases v with
  | none => exact h2
  | some v => exact zv_cons h1 h2
theorem zck_V {ρ : Type} {X : ρ} {k n : Nat} {y : MethodName} {cc' : ByteArray} {nL' : Nat} {rt' : Option FieldType} {fr lc tg : Nat} {T : u_T} {N : Nat} {F : ZCall ρ} (hF : zMF p s m args c cc nL own Ts D ad cA A) (hcr : cells ≤ R.cells ∧ slots ≤ R.slots)
    (hl : Cond.methodLink own k y ∈ lw_tbl) (hi : Cond.instanceMethod y ∈ lw_tbl) (hse : Cond.selects y.cls y y ∈ lw_tbl) (hini : Cond.initialized y.cls ∈ lw_tbl) (hco : Cond.code y cc' nL' rt' ∈ lw_tbl)
    (hC : vwCl[tg]? = some (y.cls, T, N)) (hkd : zkd tg = 0) (hd : y.cls ≠ "java/lang/invoke/MethodHandle" ∧ y.cls ≠ "java/lang/invoke/VarHandle" ∧ (parseMethodDescriptor y.desc).map (fun d => d.parameters.length) = some n) (hR : fr + 1 ≤ R.frames ∧ 8 + (nL' + 11) + lc ≤ R.locals)
    (hct : zAns l D ad cA y cc' nL' rt' fr lc X (fun as => ∃ i as', as = zr tg i :: as') F) : zCk p l e R s m args below meth c cells slots Q cc nL D ad cA A X (.invokevirtual k) (n + 1, F) := by
  intro pc as r lo w Kf hdc hn h8 hX hK hv hvl H locs ls hP hS hL
  obtain ⟨va, vr⟩ := zv_rev hv
  obtain ⟨v, w', ⟨i, as', rfl⟩, hkf, hvv, hM⟩ := hct as w Kf va hX
  obtain ⟨hx, hb, hml, hown, hts, hT, hKs, hI, hA⟩ := id hF
  have W0 : ∀ w, w ∈ lw_tbl → goodWord w = true → w.before args s = true := fun w h g => hts w (hT w (zW0_mem h g))
  have hit : i < zcnt tg := va _ List.mem_cons_self
  have hn' : as'.length = n := by simpa using hn
  have cw : CallW R s args own y.cls k y cc' nL' rt' (zTs y cc' nL' rt') (zroom fr lc) 0 0 n := ⟨callB_of n hts (zGood hT hco) rfl rfl rfl (W0 _ hini rfl) (W0 _ hl rfl) hd hR, W0 _ hi rfl, W0 _ hse rfl⟩
  have hrecv := va_recv hKs.1 (zx_obj hP hit hkd) hC (q0 := 0) rfl
  obtain ⟨lv, hl1, -⟩ := id hL
  have run := va_runV (As := as'.map (zconc ad)) (rest := r.map (zconc ad)) (C := y.cls) (b := ad tg i) (g := F0 m pc ls ((as'.map (zconc ad)).reverse ++ .ref (ad tg i) :: r.map (zconc ad))) (locs := locs) (cells := cells) (slots := slots) (below := below) (meth := meth) (e := e) (H := H) ⟨hx, hb, hml, hown, hts⟩ hM cw
    ⟨zPc_blind, hrecv, fun U hU hW => ⟨rfl, hKs.moved hW, by rw [hU]; exact hP.moved hW.alike⟩⟩ rfl (by simpa using hn') hl1.1 rfl (by show 2 * 0 + _ ≤ 8; rw [zcat_sum]; omega) hdc ⟨hcr.1, hcr.2⟩
  have hst : (((zr tg i :: as').reverse ++ r).map (zconc ad)) = (as'.map (zconc ad)).reverse ++ .ref (ad tg i) :: r.map (zconc ad) := by simp [zconc]
  rw [hst]
  refine zx_run hF run hS fun H1 locs1 hP1 hS1 => ?_
  rw [zmap_toList]
  exact hK v w' hkf (zv_opt hvv vr) hvl H1 locs1 ls hP1 hS1 hL
theorem zck_S {ρ : Type} {X : ρ} {k n : Nat} {y : MethodName} {cc' : ByteArray} {nL' : Nat} {rt' : Option FieldType} {fr lc : Nat} {F : ZCall ρ} (hF : zMF p s m args c cc nL own Ts D ad cA A) (hcr : cells ≤ R.cells ∧ slots ≤ R.slots)
    (hl : Cond.methodLink own k y ∈ lw_tbl) (hi : Cond.static y ∈ lw_tbl) (hini : Cond.initialized y.cls ∈ lw_tbl) (hco : Cond.code y cc' nL' rt' ∈ lw_tbl)
    (hd : y.cls ≠ "java/lang/invoke/MethodHandle" ∧ y.cls ≠ "java/lang/invoke/VarHandle" ∧ (parseMethodDescriptor y.desc).map (fun d => d.parameters.length) = some n) (hR : fr + 1 ≤ R.frames ∧ 8 + (nL' + 11) + lc ≤ R.locals)
    (hct : zAns l D ad cA y cc' nL' rt' fr lc X (fun _ => True) F) : zCk p l e R s m args below meth c cells slots Q cc nL D ad cA A X (.invokestatic k) (n, F) := by
  intro pc as r lo w Kf hdc hn h8 hX hK hv hvl H locs ls hP hS hL
  obtain ⟨va, vr⟩ := zv_rev hv
  obtain ⟨v, w', -, hkf, hvv, hM⟩ := hct as w Kf va hX
  obtain ⟨hx, hb, hml, hown, hts, hT, hKs, hI, hA⟩ := id hF
  have W0 : ∀ w, w ∈ lw_tbl → goodWord w = true → w.before args s = true := fun w h g => hts w (hT w (zW0_mem h g))
  have cw : CallB R s args own k y cc' nL' rt' (zTs y cc' nL' rt') (zroom fr lc) 0 0 n ∧ (Cond.static y).before args s = true := ⟨callB_of n hts (zGood hT hco) rfl rfl rfl (W0 _ hini rfl) (W0 _ hl rfl) hd hR, W0 _ hi rfl⟩
  obtain ⟨lv, hl1, -⟩ := id hL
  have run := va_runS (As := as.map (zconc ad)) (rest := r.map (zconc ad)) (g := F0 m pc ls ((as.map (zconc ad)).reverse ++ r.map (zconc ad))) (locs := locs) (cells := cells) (slots := slots) (below := below) (meth := meth) (e := e) (H := H) ⟨hx, hb, hml, hown, hts⟩ hM cw
    ⟨zPc_blind, fun U hU hW => ⟨rfl, hKs.moved hW, by rw [hU]; exact hP.moved hW.alike⟩⟩ rfl (by simpa using hn) hl1.1 rfl (by show 2 * 0 + _ ≤ 8; rw [zcat_sum]; omega) hdc ⟨hcr.1, hcr.2⟩
  have hst : ((as.reverse ++ r).map (zconc ad)) = (as.map (zconc ad)).reverse ++ r.map (zconc ad) := by simp
  rw [hst]
  refine zx_run hF run hS fun H1 locs1 hP1 hS1 => ?_
  rw [zmap_toList]
  exact hK v w' hkf (zv_opt hvv vr) hvl H1 locs1 ls hP1 hS1 hL
theorem zck_SN {ρ : Type} {X : ρ} {k n : Nat} {y : MethodName} {host : String} {cc' : ByteArray} {nL' : Nat} {rt' : Option FieldType} {fr lc : Nat} {F : ZCall ρ} (hF : zMF p s m args c cc nL own Ts D ad cA A) (hcr : cells ≤ R.cells ∧ slots ≤ R.slots)
    (hl : Cond.methodLinkNest own k y host ∈ lw_tbl) (hi : Cond.static y ∈ lw_tbl) (hini : Cond.initialized y.cls ∈ lw_tbl) (hco : Cond.code y cc' nL' rt' ∈ lw_tbl)
    (hd : y.cls ≠ "java/lang/invoke/MethodHandle" ∧ y.cls ≠ "java/lang/invoke/VarHandle" ∧ (parseMethodDescriptor y.desc).map (fun d => d.parameters.length) = some n) (hR : fr + 1 ≤ R.frames ∧ 8 + (nL' + 11) + lc ≤ R.locals)
    (hct : zAns l D ad cA y cc' nL' rt' fr lc X (fun _ => True) F) : zCk p l e R s m args below meth c cells slots Q cc nL D ad cA A X (.invokestatic k) (n, F) := by
  intro pc as r lo w Kf hdc hn h8 hX hK hv hvl H locs ls hP hS hL
  obtain ⟨va, vr⟩ := zv_rev hv
  obtain ⟨v, w', -, hkf, hvv, hM⟩ := hct as w Kf va hX
  obtain ⟨hx, hb, hml, hown, hts, hT, hKs, hI, hA⟩ := id hF
  have W0 : ∀ w, w ∈ lw_tbl → goodWord w = true → w.before args s = true := fun w h g => hts w (hT w (zW0_mem h g))
  have cw := va_cnB (R := R) (args := args) (mc := 0) (ms := 0) n hts (zGood hT hco) rfl (show (zroom fr lc).cells = 0 from rfl) (show (zroom fr lc).slots = 0 from rfl) (hKs.2 _ hl rfl) (W0 _ hini rfl) hd hR
  obtain ⟨lv, hl1, -⟩ := id hL
  have run := va_runSN (As := as.map (zconc ad)) (rest := r.map (zconc ad)) (g := F0 m pc ls ((as.map (zconc ad)).reverse ++ r.map (zconc ad))) (locs := locs) (cells := cells) (slots := slots) (below := below) (meth := meth) (e := e) (H := H) ⟨hx, hb, hml, hown, hts⟩ hM ⟨cw, W0 _ hi rfl, trivial⟩
    ⟨zPc_blind, fun U hU hW => ⟨rfl, hKs.moved hW, by rw [hU]; exact hP.moved hW.alike⟩⟩ rfl (by simpa using hn) hl1.1 rfl (by show 2 * 0 + _ ≤ 8; rw [zcat_sum]; omega) hdc ⟨hcr.1, hcr.2⟩
  have hst : ((as.reverse ++ r).map (zconc ad)) = (as.map (zconc ad)).reverse ++ r.map (zconc ad) := by simp
  rw [hst]
  refine zx_run hF run hS fun H1 locs1 hP1 hS1 => ?_
  rw [zmap_toList]
  exact hK v w' hkf (zv_opt hvv vr) hvl H1 locs1 ls hP1 hS1 hL
def zCopy {ρ : Type} : ZCall ρ := fun as w K => pR as fun t0 i0 r => pI r fun sp r => pR r fun t1 i1 r => pI r fun dp r => pI r fun n r => pE r (zif (Nat.beq (zkd t0) 1 && Nat.beq (zkd t1) 1) (if sp < 0 ∨ dp < 0 ∨ n < 0 ∨ zlen t0 i0 w < sp.toNatClampNeg + n.toNatClampNeg ∨ zlen t1 i1 w < dp.toNatClampNeg + n.toNatClampNeg then none else K none (wC w t0 i0 sp.toNatClampNeg t1 i1 dp.toNatClampNeg n.toNatClampNeg)))
theorem lfc_copy {ρ : Type} : LfC (zCopy (ρ := ρ)) := fun as w K X h => by
  obtain ⟨t0, i0, r, rfl, h1⟩ := pR_inv h
  obtain ⟨sp, r, rfl, h2⟩ := pI_inv h1
  obtain ⟨t1, i1, r, rfl, h3⟩ := pR_inv h2
  obtain ⟨dp, r, rfl, h4⟩ := pI_inv h3
  obtain ⟨n, r, rfl, h5⟩ := pI_inv h4
  obtain ⟨rfl, h6⟩ := pE_inv h5
  obtain ⟨hk, h7⟩ := zif_inv h6
  split at h7
  · cases h7
  · rename_i hc
    refine ⟨_, _, h7, fun K' h' => ?_⟩
    simp only [zCopy, pR, pI, pE, zif, hk]
    rw [if_neg hc]
    exact h'
theorem zck_copy {ρ : Type} {X : ρ} {k : Nat} (hF : zMF p s m args c cc nL own Ts D ad cA A) (hl : Cond.methodLink own k arraycopyName ∈ lw_tbl) (hnat : Cond.native arraycopyName ∈ lw_tbl) (hstat : Cond.static arraycopyName ∈ lw_tbl) (hini : Cond.initialized "java/lang/System" ∈ lw_tbl) (hfr : 1 ≤ R.frames ∧ 26 ≤ R.locals) :
    zCk p l e R s m args below meth c cells slots Q cc nL D ad cA A X (.invokestatic k) (5, zCopy) := by
  intro pc as r lo w Kf hdc hn h8 hX hK hv hvl H locs ls hP hS hL
  obtain ⟨va, vr⟩ := zv_rev hv
  simp only [zCopy] at hX
  obtain ⟨t0, i0, r1, rfl, h1⟩ := pR_inv hX
  obtain ⟨sp, r1, rfl, h2⟩ := pI_inv h1
  obtain ⟨t1, i1, r1, rfl, h3⟩ := pR_inv h2
  obtain ⟨dp, r1, rfl, h4⟩ := pI_inv h3
  obtain ⟨n, r1, rfl, h5⟩ := pI_inv h4
  obtain ⟨rfl, h6⟩ := pE_inv h5
  obtain ⟨hk, h7⟩ := zif_inv h6
  split at h7
  · cases h7
  rename_i hc
  obtain ⟨hx, hb, hml, hown, hts, hT, hKs, hI, hA⟩ := id hF
  have W0 : ∀ w, w ∈ lw_tbl → goodWord w = true → w.before args s = true := fun w h g => hts w (hT w (zW0_mem h g))
  obtain ⟨k0, k1⟩ := Bool.and_eq_true_iff.mp hk
  have k0 := Nat.eq_of_beq_eq_true k0
  have k1 := Nat.eq_of_beq_eq_true k1
  have hi0 : i0 < zcnt t0 := va _ List.mem_cons_self
  have hi1 : i1 < zcnt t1 := va (zr t1 i1) (by simp)
  have n0 : t0 ≠ 50 := zkd_ne50 (by omega)
  have n1 : t1 ≠ 50 := zkd_ne50 (by omega)
  have hc0 := hP.arr hi0 n0 (zcell_1 k0)
  have hc1 := hP.arr hi1 n1 (zcell_1 k1)
  simp only at hc0 hc1
  simp only [not_or] at hc
  obtain ⟨g1, g2, g3, g4, g5⟩ := hc
  have nn : ∀ z : Int32, ¬ z < 0 → z.toInt = (z.toNatClampNeg : Int) := by
    intro z hz
    have hz0 : (0 : Int) ≤ z.toInt := by
      have := Int32.not_lt.mp hz
      simpa using Int32.le_iff_toInt_le.mp this
    show z.toInt = ((z.toInt.toNat : Nat) : Int)
    omega
  obtain ⟨lv, hl1, -⟩ := id hL
  have hst : (([zr t0 i0, zi sp, zr t1 i1, zi dp, zi n].reverse ++ r).map (zconc ad)) = .int n :: .int dp :: .ref (ad t1 i1) :: .int sp :: .ref (ad t0 i0) :: r.map (zconc ad) := by simp [zconc]
  rw [hst]
  intro T hT X'
  obtain ⟨-, kk0, hk0, cm0, hkk0⟩ := hKs.arr.1 (zlen t0 i0 w) (fun j => .int (w.1 t0 i0 j))
  obtain ⟨-, kk1, hk1, cm1, hkk1⟩ := hKs.arr.1 (zlen t1 i1 w) (fun j => .int (w.1 t1 i1 j))
  obtain ⟨vm', X2, step⟩ := X'.arraycopy hx hown (W0 _ hl rfl) (W0 _ hnat rfl) (W0 _ hstat rfl) (W0 _ hini rfl) (src := ad t0 i0) (dst := ad t1 i1) (cs := vp_cell (cA 1) (zlen t0 i0 w, .inl (w.1 t0 i0))) (cd := vp_cell (cA 1) (zlen t1 i1 w, .inl (w.1 t1 i1))) (srcPos := sp) (destPos := dp) (n := n) (by rw [hT]; exact hc0) (by rw [hT]; exact hc1)
    (fun _ h => by cases h) (fun _ h => by cases h) (fun h => by cases h) (fun h => by cases h) hk0 hk1 hkk0 hkk1 (by simp [refKind]) g1 g2 g3
    (by rw [nn sp g1, nn n g3]; show ¬ _ > ((arrV (cA 1) (zlen t0 i0 w) (fun j => .int (w.1 t0 i0 j))).slots.size : Int); rw [arrV_size]; omega)
    (by rw [nn dp g2, nn n g3]; show ¬ _ > ((arrV (cA 1) (zlen t1 i1 w) (fun j => .int (w.1 t1 i1 j))).slots.size : Int); rw [arrV_size]; omega)
    (fun vm₁ _ i hi => by
      have e : (vp_cell (cA 1) (zlen t0 i0 w, .inl (w.1 t0 i0))).slots.getD (sp.toNatClampNeg + i) .null = .int (w.1 t0 i0 (sp.toNatClampNeg + i)) := by
        show (arrV (cA 1) (zlen t0 i0 w) (fun j => .int (w.1 t0 i0 j))).slots.getD _ _ = _
        rw [Array.getD_eq_getD_getElem?, arrV_read _ _ (by omega)]
        rfl
      refine ⟨?_, ?_⟩
      · rw [e]; rfl
      · rw [e]; exact trivial)
    (g := F0 m pc ls (.int n :: .int dp :: .ref (ad t1 i1) :: .int sp :: .ref (ad t0 i0) :: r.map (zconc ad))) rfl (by rw [hml]; exact hl1.1) (rest := r.map (zconc ad)) rfl (by rw [hb]; exact hdc) hfr.1 (by
      show 2 * 0 + _ + _ ≤ _
      rw [zcat_sum]
      have e7 : nativeFrameWords "java/lang/System" "arraycopy" 5 = 7 := by decide +kernel
      omega)
  have e1 : copied (vp_cell (cA 1) (zlen t0 i0 w, .inl (w.1 t0 i0))) (vp_cell (cA 1) (zlen t1 i1 w, .inl (w.1 t1 i1))) sp dp n = vp_cell (cA 1) (zlen t1 i1 w, .inl (va_cpy (w.1 t0 i0) (w.1 t1 i1) sp.toNatClampNeg dp.toNatClampNeg n.toNatClampNeg)) := va_copied (fun z => .int z) (cA 1) (cA 1) (w.1 t0 i0) (w.1 t1 i1) (by omega)
  rw [e1] at X2 step
  have hll : ad t1 i1 < H.size := (Array.getElem?_eq_some_iff.mp hc1).1
  have hheap : ((T.setVm vm').setCell (ad t1 i1) (vp_cell (cA 1) (zlen t1 i1 w, .inl (va_cpy (w.1 t0 i0) (w.1 t1 i1) sp.toNatClampNeg dp.toNatClampNeg n.toNatClampNeg)))).heap = H.setIfInBounds (ad t1 i1) (vp_cell (cA 1) (zlen t1 i1 w, .inl (va_cpy (w.1 t0 i0) (w.1 t1 i1) sp.toNatClampNeg dp.toNatClampNeg n.toNatClampNeg))) := by rw [← hT]; rfl
  have oq : ∀ q : Nat, q ≠ ad t1 i1 → (H.setIfInBounds (ad t1 i1) (vp_cell (cA 1) (zlen t1 i1 w, .inl (va_cpy (w.1 t0 i0) (w.1 t1 i1) sp.toNatClampNeg dp.toNatClampNeg n.toNatClampNeg))))[q]? = H[q]? := fun q hq => by simp [Array.getElem?_setIfInBounds, Ne.symm hq]
  have h51 : (wC w t0 i0 sp.toNatClampNeg t1 i1 dp.toNatClampNeg n.toNatClampNeg).1 51 0 0 = w.1 51 0 0 := congrFun (wC_ne w t0 i0 _ t1 i1 _ _ 51 0 (by
    rintro ⟨rfl, -⟩
    have h0 : zcnt 51 = 0 := by decide
    rw [h0] at hi1
    exact Nat.not_lt_zero _ hi1)).1 0
  have hP1 : zRep D ad cA (wC w t0 i0 sp.toNatClampNeg t1 i1 dp.toNatClampNeg n.toNatClampNeg) s (H.setIfInBounds (ad t1 i1) (vp_cell (cA 1) (zlen t1 i1 w, .inl (va_cpy (w.1 t0 i0) (w.1 t1 i1) sp.toNatClampNeg dp.toNatClampNeg n.toNatClampNeg)))) := by
    refine hP.change hI n1 hi1 (wC_ne w t0 i0 _ t1 i1 _ _) ?_ oq
    unfold va_at
    simp only [zcell_1 (w := wC w t0 i0 sp.toNatClampNeg t1 i1 dp.toNatClampNeg n.toNatClampNeg) k1]
    rw [zlen_eq h51, wC_self]
    simp [Array.getElem?_setIfInBounds, hll]
  obtain ⟨t, a1, b1⟩ := hK none _ h7 vr hvl _ _ ls hP1 ⟨by simp; exact hS.1, fun q g1 g2 => by
      rw [oq q (fun e => g2 (by rw [e]; exact hA t1 i1 n1 hi1))]
      exact hS.2.1 q g1 g2, fun q hq => by
      rcases List.mem_append.mp hq with h | h
      · exact hS.2.2 q h
      · obtain ⟨z, -, hz⟩ := List.mem_map.mp h
        rw [← hz]
        exact hA t1 i1 n1 hi1⟩ hL _ hheap X2
  exact ⟨t, step t a1, b1⟩
end CA
end
