section
def lw_okq (q : MethodName × Nat) : Prop := (q.1.cls ≠ "java/lang/invoke/MethodHandle" ∧ q.1.cls ≠ "java/lang/invoke/VarHandle") ∧ Cond.instantiable q.1.cls q.2 ∈ tables_1 ∧ Cond.privateMethod q.1 ∈ tables_1 ∧ Cond.instanceMethod q.1 ∈ tables_1
theorem lw_p0 : lw_okq (⟨"CounterPlacer", "routineAt", "(I)LCounterPlacer$Routine;"⟩, 4) := ⟨⟨by decide +kernel, by decide +kernel⟩, List.mem_of_getElem? (i := 18) (by decide +kernel), List.mem_of_getElem? (i := 374) (by decide +kernel), List.mem_of_getElem? (i := 375) (by decide +kernel)⟩
theorem lw_p1 : lw_okq (⟨"CounterPlacer$Shape", "outsFitKinds", "()Z"⟩, 13) := ⟨⟨by decide +kernel, by decide +kernel⟩, List.mem_of_getElem? (i := 105) (by decide +kernel), List.mem_of_getElem? (i := 422) (by decide +kernel), List.mem_of_getElem? (i := 423) (by decide +kernel)⟩
theorem lw_p2 : lw_okq (⟨"CounterPlacer$Shape", "allReached", "()Z"⟩, 13) := ⟨⟨by decide +kernel, by decide +kernel⟩, List.mem_of_getElem? (i := 105) (by decide +kernel), List.mem_of_getElem? (i := 426) (by decide +kernel), List.mem_of_getElem? (i := 427) (by decide +kernel)⟩
theorem lw_p3 : lw_okq (⟨"CounterPlacer$Shape", "marksSpread", "([I[I)Z"⟩, 13) := ⟨⟨by decide +kernel, by decide +kernel⟩, List.mem_of_getElem? (i := 105) (by decide +kernel), List.mem_of_getElem? (i := 430) (by decide +kernel), List.mem_of_getElem? (i := 431) (by decide +kernel)⟩
theorem lw_p4 : lw_okq (⟨"CounterPlacer$Shape", "allCanEnd", "()Z"⟩, 13) := ⟨⟨by decide +kernel, by decide +kernel⟩, List.mem_of_getElem? (i := 105) (by decide +kernel), List.mem_of_getElem? (i := 434) (by decide +kernel), List.mem_of_getElem? (i := 435) (by decide +kernel)⟩
theorem lw_p5 : lw_okq (⟨"CounterPlacer$Ways", "countFromBlocks", "()Z"⟩, 11) := ⟨⟨by decide +kernel, by decide +kernel⟩, List.mem_of_getElem? (i := 180) (by decide +kernel), List.mem_of_getElem? (i := 442) (by decide +kernel), List.mem_of_getElem? (i := 443) (by decide +kernel)⟩
theorem lw_p6 : lw_okq (⟨"CounterPlacer$Ways", "countFrom", "(I)J"⟩, 11) := ⟨⟨by decide +kernel, by decide +kernel⟩, List.mem_of_getElem? (i := 180) (by decide +kernel), List.mem_of_getElem? (i := 446) (by decide +kernel), List.mem_of_getElem? (i := 447) (by decide +kernel)⟩
theorem lw_p7 : lw_okq (⟨"CounterPlacer$Ways", "countBeyond", "(I)J"⟩, 11) := ⟨⟨by decide +kernel, by decide +kernel⟩, List.mem_of_getElem? (i := 180) (by decide +kernel), List.mem_of_getElem? (i := 451) (by decide +kernel), List.mem_of_getElem? (i := 452) (by decide +kernel)⟩
theorem lw_p8 : lw_okq (⟨"CounterPlacer$Ways", "sumAdds", "()V"⟩, 11) := ⟨⟨by decide +kernel, by decide +kernel⟩, List.mem_of_getElem? (i := 180) (by decide +kernel), List.mem_of_getElem? (i := 455) (by decide +kernel), List.mem_of_getElem? (i := 456) (by decide +kernel)⟩
theorem lw_p9 : lw_okq (⟨"CounterPlacer$Ways", "setBases", "()V"⟩, 11) := ⟨⟨by decide +kernel, by decide +kernel⟩, List.mem_of_getElem? (i := 180) (by decide +kernel), List.mem_of_getElem? (i := 459) (by decide +kernel), List.mem_of_getElem? (i := 460) (by decide +kernel)⟩
theorem lw_p10 : lw_okq (⟨"CounterPlacer$Shape", "addLink", "(II)V"⟩, 13) := ⟨⟨by decide +kernel, by decide +kernel⟩, List.mem_of_getElem? (i := 105) (by decide +kernel), List.mem_of_getElem? (i := 469) (by decide +kernel), List.mem_of_getElem? (i := 470) (by decide +kernel)⟩
theorem lw_p11 : lw_okq (⟨"CounterPlacer$Tree", "sortByGuess", "()V"⟩, 12) := ⟨⟨by decide +kernel, by decide +kernel⟩, List.mem_of_getElem? (i := 228) (by decide +kernel), List.mem_of_getElem? (i := 481) (by decide +kernel), List.mem_of_getElem? (i := 482) (by decide +kernel)⟩
theorem lw_p12 : lw_okq (⟨"CounterPlacer$Tree", "takeLinks", "()V"⟩, 12) := ⟨⟨by decide +kernel, by decide +kernel⟩, List.mem_of_getElem? (i := 228) (by decide +kernel), List.mem_of_getElem? (i := 485) (by decide +kernel), List.mem_of_getElem? (i := 486) (by decide +kernel)⟩
theorem lw_p13 : lw_okq (⟨"CounterPlacer$Tree", "joinParts", "(I)Z"⟩, 12) := ⟨⟨by decide +kernel, by decide +kernel⟩, List.mem_of_getElem? (i := 228) (by decide +kernel), List.mem_of_getElem? (i := 489) (by decide +kernel), List.mem_of_getElem? (i := 490) (by decide +kernel)⟩
theorem lw_p14 : lw_okq (⟨"CounterPlacer$Tree", "lineUpFromEnd", "()V"⟩, 12) := ⟨⟨by decide +kernel, by decide +kernel⟩, List.mem_of_getElem? (i := 228) (by decide +kernel), List.mem_of_getElem? (i := 493) (by decide +kernel), List.mem_of_getElem? (i := 494) (by decide +kernel)⟩
theorem lw_p15 : lw_okq (⟨"CounterPlacer$Tree", "lineUp", "(II)V"⟩, 12) := ⟨⟨by decide +kernel, by decide +kernel⟩, List.mem_of_getElem? (i := 228) (by decide +kernel), List.mem_of_getElem? (i := 497) (by decide +kernel), List.mem_of_getElem? (i := 498) (by decide +kernel)⟩
def lw_privs_1 : List (MethodName × Nat) := [(⟨"CounterPlacer", "routineAt", "(I)LCounterPlacer$Routine;"⟩, 4), (⟨"CounterPlacer$Shape", "outsFitKinds", "()Z"⟩, 13), (⟨"CounterPlacer$Shape", "allReached", "()Z"⟩, 13), (⟨"CounterPlacer$Shape", "marksSpread", "([I[I)Z"⟩, 13), (⟨"CounterPlacer$Shape", "allCanEnd", "()Z"⟩, 13), (⟨"CounterPlacer$Ways", "countFromBlocks", "()Z"⟩, 11), (⟨"CounterPlacer$Ways", "countFrom", "(I)J"⟩, 11), (⟨"CounterPlacer$Ways", "countBeyond", "(I)J"⟩, 11), (⟨"CounterPlacer$Ways", "sumAdds", "()V"⟩, 11), (⟨"CounterPlacer$Ways", "setBases", "()V"⟩, 11), (⟨"CounterPlacer$Shape", "addLink", "(II)V"⟩, 13), (⟨"CounterPlacer$Tree", "sortByGuess", "()V"⟩, 12), (⟨"CounterPlacer$Tree", "takeLinks", "()V"⟩, 12), (⟨"CounterPlacer$Tree", "joinParts", "(I)Z"⟩, 12), (⟨"CounterPlacer$Tree", "lineUpFromEnd", "()V"⟩, 12), (⟨"CounterPlacer$Tree", "lineUp", "(II)V"⟩, 12)]
theorem lw_r1 : ∀ q ∈ lw_privs_1, lw_okq q := List.forall_mem_cons.mpr ⟨lw_p0, List.forall_mem_cons.mpr ⟨lw_p1, List.forall_mem_cons.mpr ⟨lw_p2, List.forall_mem_cons.mpr ⟨lw_p3, List.forall_mem_cons.mpr ⟨lw_p4, List.forall_mem_cons.mpr ⟨lw_p5, List.forall_mem_cons.mpr ⟨lw_p6, List.forall_mem_cons.mpr ⟨lw_p7, List.forall_mem_cons.mpr ⟨lw_p8, List.forall_mem_cons.mpr ⟨lw_p9, List.forall_mem_cons.mpr ⟨lw_p10, List.forall_mem_cons.mpr ⟨lw_p11, List.forall_mem_cons.mpr ⟨lw_p12, List.forall_mem_cons.mpr ⟨lw_p13, List.forall_mem_cons.mpr ⟨lw_p14, List.forall_mem_cons.mpr ⟨lw_p15, fun _ h => absurd h List.not_mem_nil⟩⟩⟩⟩⟩⟩⟩⟩⟩⟩⟩⟩⟩⟩⟩⟩
theorem lw_p16 : lw_okq (⟨"CounterPlacer$Tree", "otherEnd", "(II)I"⟩, 12) := ⟨⟨by decide +kernel, by decide +kernel⟩, List.mem_of_getElem? (i := 228) (by decide +kernel), List.mem_of_getElem? (i := 501) (by decide +kernel), List.mem_of_getElem? (i := 502) (by decide +kernel)⟩
theorem lw_p17 : lw_okq (⟨"CounterPlacer$Ways", "joinTrees", "(I)V"⟩, 11) := ⟨⟨by decide +kernel, by decide +kernel⟩, List.mem_of_getElem? (i := 180) (by decide +kernel), List.mem_of_getElem? (i := 509) (by decide +kernel), List.mem_of_getElem? (i := 510) (by decide +kernel)⟩
theorem lw_p18 : lw_okq (⟨"CounterPlacer", "finishedAt", "(I)LCounterPlacer$Routine;"⟩, 4) := ⟨⟨by decide +kernel, by decide +kernel⟩, List.mem_of_getElem? (i := 18) (by decide +kernel), List.mem_of_getElem? (i := 528) (by decide +kernel), List.mem_of_getElem? (i := 529) (by decide +kernel)⟩
theorem lw_p19 : lw_okq (⟨"CounterPlacer$Walk", "isOf", "(II)Z"⟩, 9) := ⟨⟨by decide +kernel, by decide +kernel⟩, List.mem_of_getElem? (i := 28) (by decide +kernel), List.mem_of_getElem? (i := 536) (by decide +kernel), List.mem_of_getElem? (i := 537) (by decide +kernel)⟩
theorem lw_p20 : lw_okq (⟨"CounterPlacer", "finishedWithEdge", "(II)LCounterPlacer$Routine;"⟩, 4) := ⟨⟨by decide +kernel, by decide +kernel⟩, List.mem_of_getElem? (i := 18) (by decide +kernel), List.mem_of_getElem? (i := 545) (by decide +kernel), List.mem_of_getElem? (i := 546) (by decide +kernel)⟩
theorem lw_p21 : lw_okq (⟨"CounterPlacer$Tree", "carry", "(IJ)V"⟩, 12) := ⟨⟨by decide +kernel, by decide +kernel⟩, List.mem_of_getElem? (i := 228) (by decide +kernel), List.mem_of_getElem? (i := 562) (by decide +kernel), List.mem_of_getElem? (i := 563) (by decide +kernel)⟩
theorem lw_p22 : lw_okq (⟨"CounterPlacer$Tree", "isBelow", "(II)Z"⟩, 12) := ⟨⟨by decide +kernel, by decide +kernel⟩, List.mem_of_getElem? (i := 228) (by decide +kernel), List.mem_of_getElem? (i := 579) (by decide +kernel), List.mem_of_getElem? (i := 580) (by decide +kernel)⟩
theorem lw_p23 : lw_okq (⟨"CounterPlacer$Walk", "dropFrames", "()V"⟩, 9) := ⟨⟨by decide +kernel, by decide +kernel⟩, List.mem_of_getElem? (i := 28) (by decide +kernel), List.mem_of_getElem? (i := 591) (by decide +kernel), List.mem_of_getElem? (i := 592) (by decide +kernel)⟩
theorem lw_p24 : lw_okq (⟨"CounterPlacer$Walk", "enter", "(LCounterPlacer$Routine;)V"⟩, 9) := ⟨⟨by decide +kernel, by decide +kernel⟩, List.mem_of_getElem? (i := 28) (by decide +kernel), List.mem_of_getElem? (i := 599) (by decide +kernel), List.mem_of_getElem? (i := 600) (by decide +kernel)⟩
theorem lw_p25 : lw_okq (⟨"CounterPlacer$Walk", "step", "([LCounterPlacer$Routine;)V"⟩, 9) := ⟨⟨by decide +kernel, by decide +kernel⟩, List.mem_of_getElem? (i := 28) (by decide +kernel), List.mem_of_getElem? (i := 615) (by decide +kernel), List.mem_of_getElem? (i := 616) (by decide +kernel)⟩
theorem lw_p26 : lw_okq (⟨"CounterPlacer$Walk", "topRoutine", "()LCounterPlacer$Routine;"⟩, 9) := ⟨⟨by decide +kernel, by decide +kernel⟩, List.mem_of_getElem? (i := 28) (by decide +kernel), List.mem_of_getElem? (i := 619) (by decide +kernel), List.mem_of_getElem? (i := 620) (by decide +kernel)⟩
theorem lw_p27 : lw_okq (⟨"CounterPlacer$Walk", "cross", "(LCounterPlacer$Routine;I)V"⟩, 9) := ⟨⟨by decide +kernel, by decide +kernel⟩, List.mem_of_getElem? (i := 28) (by decide +kernel), List.mem_of_getElem? (i := 627) (by decide +kernel), List.mem_of_getElem? (i := 628) (by decide +kernel)⟩
theorem lw_p28 : lw_okq (⟨"CounterPlacer$Walk", "choose", "(I)I"⟩, 9) := ⟨⟨by decide +kernel, by decide +kernel⟩, List.mem_of_getElem? (i := 28) (by decide +kernel), List.mem_of_getElem? (i := 639) (by decide +kernel), List.mem_of_getElem? (i := 640) (by decide +kernel)⟩
theorem lw_p29 : lw_okq (⟨"CounterPlacer$Walk", "enterCalled", "(I[LCounterPlacer$Routine;)V"⟩, 9) := ⟨⟨by decide +kernel, by decide +kernel⟩, List.mem_of_getElem? (i := 28) (by decide +kernel), List.mem_of_getElem? (i := 643) (by decide +kernel), List.mem_of_getElem? (i := 644) (by decide +kernel)⟩
theorem lw_p30 : lw_okq (⟨"CounterPlacer$Walk", "leave", "(LCounterPlacer$Routine;)V"⟩, 9) := ⟨⟨by decide +kernel, by decide +kernel⟩, List.mem_of_getElem? (i := 28) (by decide +kernel), List.mem_of_getElem? (i := 647) (by decide +kernel), List.mem_of_getElem? (i := 648) (by decide +kernel)⟩
theorem lw_p31 : lw_okq (⟨"CounterPlacer$Ways", "beginningOf", "(J)I"⟩, 11) := ⟨⟨by decide +kernel, by decide +kernel⟩, List.mem_of_getElem? (i := 180) (by decide +kernel), List.mem_of_getElem? (i := 667) (by decide +kernel), List.mem_of_getElem? (i := 668) (by decide +kernel)⟩
def lw_privs_2 : List (MethodName × Nat) := [(⟨"CounterPlacer$Tree", "otherEnd", "(II)I"⟩, 12), (⟨"CounterPlacer$Ways", "joinTrees", "(I)V"⟩, 11), (⟨"CounterPlacer", "finishedAt", "(I)LCounterPlacer$Routine;"⟩, 4), (⟨"CounterPlacer$Walk", "isOf", "(II)Z"⟩, 9), (⟨"CounterPlacer", "finishedWithEdge", "(II)LCounterPlacer$Routine;"⟩, 4), (⟨"CounterPlacer$Tree", "carry", "(IJ)V"⟩, 12), (⟨"CounterPlacer$Tree", "isBelow", "(II)Z"⟩, 12), (⟨"CounterPlacer$Walk", "dropFrames", "()V"⟩, 9), (⟨"CounterPlacer$Walk", "enter", "(LCounterPlacer$Routine;)V"⟩, 9), (⟨"CounterPlacer$Walk", "step", "([LCounterPlacer$Routine;)V"⟩, 9), (⟨"CounterPlacer$Walk", "topRoutine", "()LCounterPlacer$Routine;"⟩, 9), (⟨"CounterPlacer$Walk", "cross", "(LCounterPlacer$Routine;I)V"⟩, 9), (⟨"CounterPlacer$Walk", "choose", "(I)I"⟩, 9), (⟨"CounterPlacer$Walk", "enterCalled", "(I[LCounterPlacer$Routine;)V"⟩, 9), (⟨"CounterPlacer$Walk", "leave", "(LCounterPlacer$Routine;)V"⟩, 9), (⟨"CounterPlacer$Ways", "beginningOf", "(J)I"⟩, 11)]
theorem lw_r2 : ∀ q ∈ lw_privs_2, lw_okq q := List.forall_mem_cons.mpr ⟨lw_p16, List.forall_mem_cons.mpr ⟨lw_p17, List.forall_mem_cons.mpr ⟨lw_p18, List.forall_mem_cons.mpr ⟨lw_p19, List.forall_mem_cons.mpr ⟨lw_p20, List.forall_mem_cons.mpr ⟨lw_p21, List.forall_mem_cons.mpr ⟨lw_p22, List.forall_mem_cons.mpr ⟨lw_p23, List.forall_mem_cons.mpr ⟨lw_p24, List.forall_mem_cons.mpr ⟨lw_p25, List.forall_mem_cons.mpr ⟨lw_p26, List.forall_mem_cons.mpr ⟨lw_p27, List.forall_mem_cons.mpr ⟨lw_p28, List.forall_mem_cons.mpr ⟨lw_p29, List.forall_mem_cons.mpr ⟨lw_p30, List.forall_mem_cons.mpr ⟨lw_p31, fun _ h => absurd h List.not_mem_nil⟩⟩⟩⟩⟩⟩⟩⟩⟩⟩⟩⟩⟩⟩⟩⟩
theorem lw_p32 : lw_okq (⟨"CounterPlacer$Ways", "edgeFor", "(IJ)I"⟩, 11) := ⟨⟨by decide +kernel, by decide +kernel⟩, List.mem_of_getElem? (i := 180) (by decide +kernel), List.mem_of_getElem? (i := 671) (by decide +kernel), List.mem_of_getElem? (i := 672) (by decide +kernel)⟩
theorem lw_p33 : lw_okq (⟨"CounterPlacer$Mender", "takeCounts", "(LCounterPlacer$Shape;[I)V"⟩, 4) := ⟨⟨by decide +kernel, by decide +kernel⟩, List.mem_of_getElem? (i := 66) (by decide +kernel), List.mem_of_getElem? (i := 721) (by decide +kernel), List.mem_of_getElem? (i := 722) (by decide +kernel)⟩
theorem lw_p34 : lw_okq (⟨"CounterPlacer$Mender", "measure", "(LCounterPlacer$Shape;[I)V"⟩, 4) := ⟨⟨by decide +kernel, by decide +kernel⟩, List.mem_of_getElem? (i := 66) (by decide +kernel), List.mem_of_getElem? (i := 726) (by decide +kernel), List.mem_of_getElem? (i := 727) (by decide +kernel)⟩
theorem lw_p35 : lw_okq (⟨"CounterPlacer$Mender", "costOfMore", "(II)I"⟩, 4) := ⟨⟨by decide +kernel, by decide +kernel⟩, List.mem_of_getElem? (i := 66) (by decide +kernel), List.mem_of_getElem? (i := 731) (by decide +kernel), List.mem_of_getElem? (i := 732) (by decide +kernel)⟩
theorem lw_p36 : lw_okq (⟨"CounterPlacer$Mender", "comeNearer", "(IIII)Z"⟩, 4) := ⟨⟨by decide +kernel, by decide +kernel⟩, List.mem_of_getElem? (i := 66) (by decide +kernel), List.mem_of_getElem? (i := 735) (by decide +kernel), List.mem_of_getElem? (i := 736) (by decide +kernel)⟩
theorem lw_p37 : lw_okq (⟨"CounterPlacer$Mender", "costOfLess", "(II)I"⟩, 4) := ⟨⟨by decide +kernel, by decide +kernel⟩, List.mem_of_getElem? (i := 66) (by decide +kernel), List.mem_of_getElem? (i := 739) (by decide +kernel), List.mem_of_getElem? (i := 740) (by decide +kernel)⟩
theorem lw_p38 : lw_okq (⟨"CounterPlacer$Mender", "nearestLack", "(LCounterPlacer$Shape;)I"⟩, 4) := ⟨⟨by decide +kernel, by decide +kernel⟩, List.mem_of_getElem? (i := 66) (by decide +kernel), List.mem_of_getElem? (i := 743) (by decide +kernel), List.mem_of_getElem? (i := 744) (by decide +kernel)⟩
theorem lw_p39 : lw_okq (⟨"CounterPlacer$Mender", "carryTo", "(ILCounterPlacer$Shape;[I)V"⟩, 4) := ⟨⟨by decide +kernel, by decide +kernel⟩, List.mem_of_getElem? (i := 66) (by decide +kernel), List.mem_of_getElem? (i := 747) (by decide +kernel), List.mem_of_getElem? (i := 748) (by decide +kernel)⟩
theorem lw_p40 : lw_okq (⟨"CounterPlacer$Mender", "roomForMore", "(II)I"⟩, 4) := ⟨⟨by decide +kernel, by decide +kernel⟩, List.mem_of_getElem? (i := 66) (by decide +kernel), List.mem_of_getElem? (i := 751) (by decide +kernel), List.mem_of_getElem? (i := 752) (by decide +kernel)⟩
theorem lw_p41 : lw_okq (⟨"CounterPlacer$Mender", "roomForLess", "(II)I"⟩, 4) := ⟨⟨by decide +kernel, by decide +kernel⟩, List.mem_of_getElem? (i := 66) (by decide +kernel), List.mem_of_getElem? (i := 755) (by decide +kernel), List.mem_of_getElem? (i := 756) (by decide +kernel)⟩
theorem lw_p42 : lw_okq (⟨"java/lang/Throwable", "fillInStackTrace", "(I)Ljava/lang/Throwable;"⟩, 6) := ⟨⟨by decide +kernel, by decide +kernel⟩, List.mem_of_getElem? (i := 809) (by decide +kernel), List.mem_of_getElem? (i := 807) (by decide +kernel), List.mem_of_getElem? (i := 808) (by decide +kernel)⟩
theorem lw_p43 : lw_okq (⟨"CounterPlacerModel", "isRoutine", "(I)Z"⟩, 56) := ⟨⟨by decide +kernel, by decide +kernel⟩, List.mem_of_getElem? (i := 901) (by decide +kernel), List.mem_of_getElem? (i := 1088) (by decide +kernel), List.mem_of_getElem? (i := 1089) (by decide +kernel)⟩
theorem lw_p44 : lw_okq (⟨"CounterPlacerModel", "isBlock", "(II)Z"⟩, 56) := ⟨⟨by decide +kernel, by decide +kernel⟩, List.mem_of_getElem? (i := 901) (by decide +kernel), List.mem_of_getElem? (i := 1096) (by decide +kernel), List.mem_of_getElem? (i := 1097) (by decide +kernel)⟩
theorem lw_p45 : lw_okq (⟨"CounterPlacerModel", "outs", "(II)I"⟩, 56) := ⟨⟨by decide +kernel, by decide +kernel⟩, List.mem_of_getElem? (i := 901) (by decide +kernel), List.mem_of_getElem? (i := 1104) (by decide +kernel), List.mem_of_getElem? (i := 1105) (by decide +kernel)⟩
theorem lw_p46 : lw_okq (⟨"CounterPlacerModel", "isEdge", "(II)Z"⟩, 56) := ⟨⟨by decide +kernel, by decide +kernel⟩, List.mem_of_getElem? (i := 901) (by decide +kernel), List.mem_of_getElem? (i := 1112) (by decide +kernel), List.mem_of_getElem? (i := 1113) (by decide +kernel)⟩
theorem lw_p47 : lw_okq (⟨"CounterPlacerModel", "why", "(I)I"⟩, 56) := ⟨⟨by decide +kernel, by decide +kernel⟩, List.mem_of_getElem? (i := 901) (by decide +kernel), List.mem_of_getElem? (i := 1120) (by decide +kernel), List.mem_of_getElem? (i := 1121) (by decide +kernel)⟩
def lw_privs_3 : List (MethodName × Nat) := [(⟨"CounterPlacer$Ways", "edgeFor", "(IJ)I"⟩, 11), (⟨"CounterPlacer$Mender", "takeCounts", "(LCounterPlacer$Shape;[I)V"⟩, 4), (⟨"CounterPlacer$Mender", "measure", "(LCounterPlacer$Shape;[I)V"⟩, 4), (⟨"CounterPlacer$Mender", "costOfMore", "(II)I"⟩, 4), (⟨"CounterPlacer$Mender", "comeNearer", "(IIII)Z"⟩, 4), (⟨"CounterPlacer$Mender", "costOfLess", "(II)I"⟩, 4), (⟨"CounterPlacer$Mender", "nearestLack", "(LCounterPlacer$Shape;)I"⟩, 4), (⟨"CounterPlacer$Mender", "carryTo", "(ILCounterPlacer$Shape;[I)V"⟩, 4), (⟨"CounterPlacer$Mender", "roomForMore", "(II)I"⟩, 4), (⟨"CounterPlacer$Mender", "roomForLess", "(II)I"⟩, 4), (⟨"java/lang/Throwable", "fillInStackTrace", "(I)Ljava/lang/Throwable;"⟩, 6), (⟨"CounterPlacerModel", "isRoutine", "(I)Z"⟩, 56), (⟨"CounterPlacerModel", "isBlock", "(II)Z"⟩, 56), (⟨"CounterPlacerModel", "outs", "(II)I"⟩, 56), (⟨"CounterPlacerModel", "isEdge", "(II)Z"⟩, 56), (⟨"CounterPlacerModel", "why", "(I)I"⟩, 56)]
theorem lw_r3 : ∀ q ∈ lw_privs_3, lw_okq q := List.forall_mem_cons.mpr ⟨lw_p32, List.forall_mem_cons.mpr ⟨lw_p33, List.forall_mem_cons.mpr ⟨lw_p34, List.forall_mem_cons.mpr ⟨lw_p35, List.forall_mem_cons.mpr ⟨lw_p36, List.forall_mem_cons.mpr ⟨lw_p37, List.forall_mem_cons.mpr ⟨lw_p38, List.forall_mem_cons.mpr ⟨lw_p39, List.forall_mem_cons.mpr ⟨lw_p40, List.forall_mem_cons.mpr ⟨lw_p41, List.forall_mem_cons.mpr ⟨lw_p42, List.forall_mem_cons.mpr ⟨lw_p43, List.forall_mem_cons.mpr ⟨lw_p44, List.forall_mem_cons.mpr ⟨lw_p45, List.forall_mem_cons.mpr ⟨lw_p46, List.forall_mem_cons.mpr ⟨lw_p47, fun _ h => absurd h List.not_mem_nil⟩⟩⟩⟩⟩⟩⟩⟩⟩⟩⟩⟩⟩⟩⟩⟩
theorem lw_p48 : lw_okq (⟨"CounterPlacerModel", "reach", "(IZ)V"⟩, 56) := ⟨⟨by decide +kernel, by decide +kernel⟩, List.mem_of_getElem? (i := 901) (by decide +kernel), List.mem_of_getElem? (i := 1124) (by decide +kernel), List.mem_of_getElem? (i := 1125) (by decide +kernel)⟩
theorem lw_p49 : lw_okq (⟨"CounterPlacerModel", "all", "(I)Z"⟩, 56) := ⟨⟨by decide +kernel, by decide +kernel⟩, List.mem_of_getElem? (i := 901) (by decide +kernel), List.mem_of_getElem? (i := 1128) (by decide +kernel), List.mem_of_getElem? (i := 1129) (by decide +kernel)⟩
theorem lw_p50 : lw_okq (⟨"CounterPlacerModel", "count", "(I)Z"⟩, 56) := ⟨⟨by decide +kernel, by decide +kernel⟩, List.mem_of_getElem? (i := 901) (by decide +kernel), List.mem_of_getElem? (i := 1132) (by decide +kernel), List.mem_of_getElem? (i := 1133) (by decide +kernel)⟩
theorem lw_p51 : lw_okq (⟨"CounterPlacerModel", "makePlan", "(I)V"⟩, 56) := ⟨⟨by decide +kernel, by decide +kernel⟩, List.mem_of_getElem? (i := 901) (by decide +kernel), List.mem_of_getElem? (i := 1138) (by decide +kernel), List.mem_of_getElem? (i := 1139) (by decide +kernel)⟩
theorem lw_p52 : lw_okq (⟨"CounterPlacerModel", "join", "(II)V"⟩, 56) := ⟨⟨by decide +kernel, by decide +kernel⟩, List.mem_of_getElem? (i := 901) (by decide +kernel), List.mem_of_getElem? (i := 1142) (by decide +kernel), List.mem_of_getElem? (i := 1143) (by decide +kernel)⟩
theorem lw_p53 : lw_okq (⟨"CounterPlacerModel", "grow", "(IZ)V"⟩, 56) := ⟨⟨by decide +kernel, by decide +kernel⟩, List.mem_of_getElem? (i := 901) (by decide +kernel), List.mem_of_getElem? (i := 1146) (by decide +kernel), List.mem_of_getElem? (i := 1147) (by decide +kernel)⟩
theorem lw_p54 : lw_okq (⟨"CounterPlacerModel", "isDone", "(I)Z"⟩, 56) := ⟨⟨by decide +kernel, by decide +kernel⟩, List.mem_of_getElem? (i := 901) (by decide +kernel), List.mem_of_getElem? (i := 1154) (by decide +kernel), List.mem_of_getElem? (i := 1155) (by decide +kernel)⟩
theorem lw_p55 : lw_okq (⟨"CounterPlacerModel", "fails", "(I)J"⟩, 56) := ⟨⟨by decide +kernel, by decide +kernel⟩, List.mem_of_getElem? (i := 901) (by decide +kernel), List.mem_of_getElem? (i := 1162) (by decide +kernel), List.mem_of_getElem? (i := 1163) (by decide +kernel)⟩
theorem lw_p56 : lw_okq (⟨"CounterPlacerModel", "ins", "(II)I"⟩, 56) := ⟨⟨by decide +kernel, by decide +kernel⟩, List.mem_of_getElem? (i := 901) (by decide +kernel), List.mem_of_getElem? (i := 1170) (by decide +kernel), List.mem_of_getElem? (i := 1171) (by decide +kernel)⟩
theorem lw_p57 : lw_okq (⟨"CounterPlacerModel", "openOf", "(II)I"⟩, 56) := ⟨⟨by decide +kernel, by decide +kernel⟩, List.mem_of_getElem? (i := 901) (by decide +kernel), List.mem_of_getElem? (i := 1179) (by decide +kernel), List.mem_of_getElem? (i := 1180) (by decide +kernel)⟩
theorem lw_p58 : lw_okq (⟨"CounterPlacerModel", "lay", "(I)V"⟩, 56) := ⟨⟨by decide +kernel, by decide +kernel⟩, List.mem_of_getElem? (i := 901) (by decide +kernel), List.mem_of_getElem? (i := 1187) (by decide +kernel), List.mem_of_getElem? (i := 1188) (by decide +kernel)⟩
theorem lw_p59 : lw_okq (⟨"CounterPlacerModel", "arc", "(II)V"⟩, 56) := ⟨⟨by decide +kernel, by decide +kernel⟩, List.mem_of_getElem? (i := 901) (by decide +kernel), List.mem_of_getElem? (i := 1191) (by decide +kernel), List.mem_of_getElem? (i := 1192) (by decide +kernel)⟩
theorem lw_p60 : lw_okq (⟨"CounterPlacerModel", "allGo", "()V"⟩, 56) := ⟨⟨by decide +kernel, by decide +kernel⟩, List.mem_of_getElem? (i := 901) (by decide +kernel), List.mem_of_getElem? (i := 1203) (by decide +kernel), List.mem_of_getElem? (i := 1204) (by decide +kernel)⟩
theorem lw_p61 : lw_okq (⟨"CounterPlacerModel", "comes", "(I)V"⟩, 56) := ⟨⟨by decide +kernel, by decide +kernel⟩, List.mem_of_getElem? (i := 901) (by decide +kernel), List.mem_of_getElem? (i := 1207) (by decide +kernel), List.mem_of_getElem? (i := 1208) (by decide +kernel)⟩
theorem lw_p62 : lw_okq (⟨"CounterPlacerModel", "goes", "(I)V"⟩, 56) := ⟨⟨by decide +kernel, by decide +kernel⟩, List.mem_of_getElem? (i := 901) (by decide +kernel), List.mem_of_getElem? (i := 1215) (by decide +kernel), List.mem_of_getElem? (i := 1216) (by decide +kernel)⟩
theorem lw_p63 : lw_okq (⟨"CounterPlacerModel", "ends", "(IJ)V"⟩, 56) := ⟨⟨by decide +kernel, by decide +kernel⟩, List.mem_of_getElem? (i := 901) (by decide +kernel), List.mem_of_getElem? (i := 1219) (by decide +kernel), List.mem_of_getElem? (i := 1220) (by decide +kernel)⟩
def lw_privs_4 : List (MethodName × Nat) := [(⟨"CounterPlacerModel", "reach", "(IZ)V"⟩, 56), (⟨"CounterPlacerModel", "all", "(I)Z"⟩, 56), (⟨"CounterPlacerModel", "count", "(I)Z"⟩, 56), (⟨"CounterPlacerModel", "makePlan", "(I)V"⟩, 56), (⟨"CounterPlacerModel", "join", "(II)V"⟩, 56), (⟨"CounterPlacerModel", "grow", "(IZ)V"⟩, 56), (⟨"CounterPlacerModel", "isDone", "(I)Z"⟩, 56), (⟨"CounterPlacerModel", "fails", "(I)J"⟩, 56), (⟨"CounterPlacerModel", "ins", "(II)I"⟩, 56), (⟨"CounterPlacerModel", "openOf", "(II)I"⟩, 56), (⟨"CounterPlacerModel", "lay", "(I)V"⟩, 56), (⟨"CounterPlacerModel", "arc", "(II)V"⟩, 56), (⟨"CounterPlacerModel", "allGo", "()V"⟩, 56), (⟨"CounterPlacerModel", "comes", "(I)V"⟩, 56), (⟨"CounterPlacerModel", "goes", "(I)V"⟩, 56), (⟨"CounterPlacerModel", "ends", "(IJ)V"⟩, 56)]
theorem lw_r4 : ∀ q ∈ lw_privs_4, lw_okq q := List.forall_mem_cons.mpr ⟨lw_p48, List.forall_mem_cons.mpr ⟨lw_p49, List.forall_mem_cons.mpr ⟨lw_p50, List.forall_mem_cons.mpr ⟨lw_p51, List.forall_mem_cons.mpr ⟨lw_p52, List.forall_mem_cons.mpr ⟨lw_p53, List.forall_mem_cons.mpr ⟨lw_p54, List.forall_mem_cons.mpr ⟨lw_p55, List.forall_mem_cons.mpr ⟨lw_p56, List.forall_mem_cons.mpr ⟨lw_p57, List.forall_mem_cons.mpr ⟨lw_p58, List.forall_mem_cons.mpr ⟨lw_p59, List.forall_mem_cons.mpr ⟨lw_p60, List.forall_mem_cons.mpr ⟨lw_p61, List.forall_mem_cons.mpr ⟨lw_p62, List.forall_mem_cons.mpr ⟨lw_p63, fun _ h => absurd h List.not_mem_nil⟩⟩⟩⟩⟩⟩⟩⟩⟩⟩⟩⟩⟩⟩⟩⟩
theorem lw_p64 : lw_okq (⟨"CounterPlacerModel", "isWay", "(IJ)Z"⟩, 56) := ⟨⟨by decide +kernel, by decide +kernel⟩, List.mem_of_getElem? (i := 901) (by decide +kernel), List.mem_of_getElem? (i := 1231) (by decide +kernel), List.mem_of_getElem? (i := 1232) (by decide +kernel)⟩
theorem lw_p65 : lw_okq (⟨"CounterPlacerModel", "push", "(IIJI)V"⟩, 56) := ⟨⟨by decide +kernel, by decide +kernel⟩, List.mem_of_getElem? (i := 901) (by decide +kernel), List.mem_of_getElem? (i := 1256) (by decide +kernel), List.mem_of_getElem? (i := 1257) (by decide +kernel)⟩
def lw_privs_5 : List (MethodName × Nat) := [(⟨"CounterPlacerModel", "isWay", "(IJ)Z"⟩, 56), (⟨"CounterPlacerModel", "push", "(IIJI)V"⟩, 56)]
theorem lw_r5 : ∀ q ∈ lw_privs_5, lw_okq q := List.forall_mem_cons.mpr ⟨lw_p64, List.forall_mem_cons.mpr ⟨lw_p65, fun _ h => absurd h List.not_mem_nil⟩⟩
def lw_privs : List (MethodName × Nat) := lw_privs_1 ++ (lw_privs_2 ++ (lw_privs_3 ++ (lw_privs_4 ++ (lw_privs_5))))
def lw_tbl : List Cond := k2_sels lw_privs ++ tables_1
theorem lw_privs_ok : ∀ q ∈ lw_privs, lw_okq q := by
  show ∀ q ∈ lw_privs_1 ++ (lw_privs_2 ++ (lw_privs_3 ++ (lw_privs_4 ++ (lw_privs_5)))), lw_okq q
  exact List.forall_mem_append.mpr ⟨lw_r1, List.forall_mem_append.mpr ⟨lw_r2, List.forall_mem_append.mpr ⟨lw_r3, List.forall_mem_append.mpr ⟨lw_r4, lw_r5⟩⟩⟩⟩
def RX0 : String := "CounterPlacer$Log"
def TX0 : u_T := fun k => match k with
  | 0 => ("CounterPlacer$Log", "gone", "[J", true)
  | 1 => ("CounterPlacer$Log", "counted", "[J", true)
  | 2 => ("CounterPlacer$Log", "stopped", "[J", true)
  | 3 => ("CounterPlacer$Log", "entries", "J", false)
  | _ => ("CounterPlacer$Log", "stoppedInAll", "J", false)
def tyX0 : Nat → FieldType := fun k => match k with
  | 0 => .array .long
  | 1 => .array .long
  | 2 => .array .long
  | 3 => .long
  | _ => .long
abbrev wsX00 : List Cond := u_ws RX0 TX0 5
theorem nmX0 : ∀ a, a < 5 → ∀ b, b < 5 → a ≠ b → (TX0 a).2.1 ≠ (TX0 b).2.1 := by decide +kernel
theorem tyX0_ok : ∀ k, k < 5 → parseFieldDescriptor (TX0 k).2.2.1 = some (tyX0 k) := by decide +kernel
abbrev cX0_init : ByteArray := prog_2_method_1_code
def yX0_init : MethodName := ⟨RX0, "<init>", "()V"⟩
abbrev cX0_clear : ByteArray := prog_2_method_2_code
def yX0_clear : MethodName := ⟨RX0, "clear", "()V"⟩
def RX1 : String := "CounterPlacer$Mender"
def TX1 : u_T := fun k => match k with
  | 0 => ("CounterPlacer$Mender", "count", "[I", true)
  | 1 => ("CounterPlacer$Mender", "excess", "[I", true)
  | 2 => ("CounterPlacer$Mender", "far", "[I", true)
  | _ => ("CounterPlacer$Mender", "cameBy", "[I", true)
def tyX1 : Nat → FieldType := fun k => match k with
  | 0 => .array .int
  | 1 => .array .int
  | 2 => .array .int
  | _ => .array .int
abbrev wsX10 : List Cond := u_ws RX1 TX1 4
theorem nmX1 : ∀ a, a < 4 → ∀ b, b < 4 → a ≠ b → (TX1 a).2.1 ≠ (TX1 b).2.1 := by decide +kernel
theorem tyX1_ok : ∀ k, k < 4 → parseFieldDescriptor (TX1 k).2.2.1 = some (tyX1 k) := by decide +kernel
abbrev cX1_init : ByteArray := prog_3_method_1_code
def yX1_init : MethodName := ⟨RX1, "<init>", "()V"⟩
abbrev cX1_leastChange : ByteArray := prog_3_method_2_code
def yX1_leastChange : MethodName := ⟨RX1, "leastChange", "(LCounterPlacer$Shape;[I)J"⟩
abbrev cX1_takeCounts : ByteArray := prog_3_method_3_code
def yX1_takeCounts : MethodName := ⟨RX1, "takeCounts", "(LCounterPlacer$Shape;[I)V"⟩
abbrev cX1_measure : ByteArray := prog_3_method_4_code
def yX1_measure : MethodName := ⟨RX1, "measure", "(LCounterPlacer$Shape;[I)V"⟩
abbrev cX1_comeNearer : ByteArray := prog_3_method_5_code
def yX1_comeNearer : MethodName := ⟨RX1, "comeNearer", "(IIII)Z"⟩
abbrev cX1_costOfMore : ByteArray := prog_3_method_6_code
def yX1_costOfMore : MethodName := ⟨RX1, "costOfMore", "(II)I"⟩
abbrev cX1_costOfLess : ByteArray := prog_3_method_7_code
def yX1_costOfLess : MethodName := ⟨RX1, "costOfLess", "(II)I"⟩
abbrev cX1_nearestLack : ByteArray := prog_3_method_8_code
def yX1_nearestLack : MethodName := ⟨RX1, "nearestLack", "(LCounterPlacer$Shape;)I"⟩
abbrev cX1_carryTo : ByteArray := prog_3_method_9_code
def yX1_carryTo : MethodName := ⟨RX1, "carryTo", "(ILCounterPlacer$Shape;[I)V"⟩
abbrev cX1_roomForMore : ByteArray := prog_3_method_10_code
def yX1_roomForMore : MethodName := ⟨RX1, "roomForMore", "(II)I"⟩
abbrev cX1_roomForLess : ByteArray := prog_3_method_11_code
def yX1_roomForLess : MethodName := ⟨RX1, "roomForLess", "(II)I"⟩
def RX2 : String := "CounterPlacer$Routine"
def TX2 : u_T := fun k => match k with
  | 0 => ("CounterPlacer$Routine", "number", "I", true)
  | 1 => ("CounterPlacer$Routine", "shape", "LCounterPlacer$Shape;", true)
  | 2 => ("CounterPlacer$Routine", "ways", "LCounterPlacer$Ways;", true)
  | 3 => ("CounterPlacer$Routine", "tree", "LCounterPlacer$Tree;", true)
  | 4 => ("CounterPlacer$Routine", "log", "LCounterPlacer$Log;", true)
  | 5 => ("CounterPlacer$Routine", "table", "LCounterPlacer$Table;", true)
  | 6 => ("CounterPlacer$Routine", "blurred", "[I", true)
  | 7 => ("CounterPlacer$Routine", "lost", "[J", true)
  | _ => ("CounterPlacer$Routine", "finished", "Z", false)
def tyX2 : Nat → FieldType := fun k => match k with
  | 0 => .int
  | 1 => .object "CounterPlacer$Shape"
  | 2 => .object "CounterPlacer$Ways"
  | 3 => .object "CounterPlacer$Tree"
  | 4 => .object "CounterPlacer$Log"
  | 5 => .object "CounterPlacer$Table"
  | 6 => .array .int
  | 7 => .array .long
  | _ => .boolean
abbrev wsX20 : List Cond := u_ws RX2 TX2 9
theorem nmX2 : ∀ a, a < 9 → ∀ b, b < 9 → a ≠ b → (TX2 a).2.1 ≠ (TX2 b).2.1 := by decide +kernel
theorem tyX2_ok : ∀ k, k < 9 → parseFieldDescriptor (TX2 k).2.2.1 = some (tyX2 k) := by decide +kernel
abbrev cX2_init : ByteArray := prog_4_method_1_code
def yX2_init : MethodName := ⟨RX2, "<init>", "(ILCounterPlacer$Shape;LCounterPlacer$Ways;LCounterPlacer$Tree;)V"⟩
abbrev cX2_made : ByteArray := prog_4_method_2_code
def yX2_made : MethodName := ⟨RX2, "made", "(I)LCounterPlacer$Routine;"⟩
abbrev cX2_settle : ByteArray := prog_4_method_3_code
def yX2_settle : MethodName := ⟨RX2, "settle", "()I"⟩
abbrev cX2_planAnew : ByteArray := prog_4_method_4_code
def yX2_planAnew : MethodName := ⟨RX2, "planAnew", "()V"⟩
abbrev cX2_hasCounter : ByteArray := prog_4_method_5_code
def yX2_hasCounter : MethodName := ⟨RX2, "hasCounter", "(I)Z"⟩
abbrev cX2_ofItself : ByteArray := prog_4_method_6_code
def yX2_ofItself : MethodName := ⟨RX2, "ofItself", "(I)J"⟩
abbrev cX2_countOfEdge : ByteArray := prog_4_method_7_code
def yX2_countOfEdge : MethodName := ⟨RX2, "countOfEdge", "(II)J"⟩
abbrev cX2_countOfBlock : ByteArray := prog_4_method_8_code
def yX2_countOfBlock : MethodName := ⟨RX2, "countOfBlock", "(II)J"⟩
abbrev cX2_rebuiltCount : ByteArray := prog_4_method_9_code
def yX2_rebuiltCount : MethodName := ⟨RX2, "rebuiltCount", "(ILCounterPlacer$Walk;)J"⟩
abbrev cX2_toldCount : ByteArray := prog_4_method_10_code
def yX2_toldCount : MethodName := ⟨RX2, "toldCount", "(I)J"⟩
abbrev cX2_countEntry : ByteArray := prog_4_method_11_code
def yX2_countEntry : MethodName := ⟨RX2, "countEntry", "()V"⟩
abbrev cX2_countStopped : ByteArray := prog_4_method_12_code
def yX2_countStopped : MethodName := ⟨RX2, "countStopped", "(I)V"⟩
abbrev cX2_countGone : ByteArray := prog_4_method_13_code
def yX2_countGone : MethodName := ⟨RX2, "countGone", "(I)I"⟩
def RX3 : String := "CounterPlacer$Shape"
def TX3 : u_T := fun k => match k with
  | 0 => ("CounterPlacer$Shape", "kind", "[I", true)
  | 1 => ("CounterPlacer$Shape", "calls", "[I", true)
  | 2 => ("CounterPlacer$Shape", "outs", "[I", true)
  | 3 => ("CounterPlacer$Shape", "ins", "[I", true)
  | 4 => ("CounterPlacer$Shape", "out", "[I", true)
  | 5 => ("CounterPlacer$Shape", "from", "[I", true)
  | 6 => ("CounterPlacer$Shape", "to", "[I", true)
  | 7 => ("CounterPlacer$Shape", "guesses", "[I", true)
  | 8 => ("CounterPlacer$Shape", "back", "[Z", true)
  | 9 => ("CounterPlacer$Shape", "marked", "[Z", true)
  | 10 => ("CounterPlacer$Shape", "blocks", "I", false)
  | 11 => ("CounterPlacer$Shape", "edges", "I", false)
  | _ => ("CounterPlacer$Shape", "links", "I", false)
def tyX3 : Nat → FieldType := fun k => match k with
  | 0 => .array .int
  | 1 => .array .int
  | 2 => .array .int
  | 3 => .array .int
  | 4 => .array .int
  | 5 => .array .int
  | 6 => .array .int
  | 7 => .array .int
  | 8 => .array .boolean
  | 9 => .array .boolean
  | 10 => .int
  | 11 => .int
  | _ => .int
abbrev wsX30 : List Cond := u_ws RX3 TX3 13
theorem nmX3 : ∀ a, a < 13 → ∀ b, b < 13 → a ≠ b → (TX3 a).2.1 ≠ (TX3 b).2.1 := by decide +kernel
theorem tyX3_ok : ∀ k, k < 13 → parseFieldDescriptor (TX3 k).2.2.1 = some (tyX3 k) := by decide +kernel
abbrev cX3_init : ByteArray := prog_5_method_1_code
def yX3_init : MethodName := ⟨RX3, "<init>", "()V"⟩
abbrev cX3_hasBlock : ByteArray := prog_5_method_2_code
def yX3_hasBlock : MethodName := ⟨RX3, "hasBlock", "(I)Z"⟩
abbrev cX3_hasEdge : ByteArray := prog_5_method_3_code
def yX3_hasEdge : MethodName := ⟨RX3, "hasEdge", "(I)Z"⟩
abbrev cX3_endsIn : ByteArray := prog_5_method_4_code
def yX3_endsIn : MethodName := ⟨RX3, "endsIn", "(I)Z"⟩
abbrev cX3_addBlock : ByteArray := prog_5_method_5_code
def yX3_addBlock : MethodName := ⟨RX3, "addBlock", "(II)I"⟩
abbrev cX3_addEdge : ByteArray := prog_5_method_6_code
def yX3_addEdge : MethodName := ⟨RX3, "addEdge", "(IIIZ)I"⟩
abbrev cX3_outOf : ByteArray := prog_5_method_7_code
def yX3_outOf : MethodName := ⟨RX3, "outOf", "(II)I"⟩
abbrev cX3_firstFault : ByteArray := prog_5_method_8_code
def yX3_firstFault : MethodName := ⟨RX3, "firstFault", "()I"⟩
abbrev cX3_outsFitKinds : ByteArray := prog_5_method_9_code
def yX3_outsFitKinds : MethodName := ⟨RX3, "outsFitKinds", "()Z"⟩
abbrev cX3_allReached : ByteArray := prog_5_method_10_code
def yX3_allReached : MethodName := ⟨RX3, "allReached", "()Z"⟩
abbrev cX3_allCanEnd : ByteArray := prog_5_method_11_code
def yX3_allCanEnd : MethodName := ⟨RX3, "allCanEnd", "()Z"⟩
abbrev cX3_marksSpread : ByteArray := prog_5_method_12_code
def yX3_marksSpread : MethodName := ⟨RX3, "marksSpread", "([I[I)Z"⟩
abbrev cX3_linkEnd : ByteArray := prog_5_method_13_code
def yX3_linkEnd : MethodName := ⟨RX3, "linkEnd", "()V"⟩
abbrev cX3_addLink : ByteArray := prog_5_method_14_code
def yX3_addLink : MethodName := ⟨RX3, "addLink", "(II)V"⟩
abbrev cX3_standOf : ByteArray := prog_5_method_15_code
def yX3_standOf : MethodName := ⟨RX3, "standOf", "(I)I"⟩
abbrev cX3_shapeOfEdge : ByteArray := prog_5_method_16_code
def yX3_shapeOfEdge : MethodName := ⟨RX3, "shapeOfEdge", "(II)J"⟩
abbrev cX3_shapeOfBlock : ByteArray := prog_5_method_17_code
def yX3_shapeOfBlock : MethodName := ⟨RX3, "shapeOfBlock", "(II)J"⟩
def RX4 : String := "CounterPlacer$Table"
def TX4 : u_T := fun k => match k with
  | 0 => ("CounterPlacer$Table", "way", "[J", true)
  | 1 => ("CounterPlacer$Table", "times", "[J", true)
  | 2 => ("CounterPlacer$Table", "rows", "I", false)
  | _ => ("CounterPlacer$Table", "fellOut", "J", false)
def tyX4 : Nat → FieldType := fun k => match k with
  | 0 => .array .long
  | 1 => .array .long
  | 2 => .int
  | _ => .long
abbrev wsX40 : List Cond := u_ws RX4 TX4 4
theorem nmX4 : ∀ a, a < 4 → ∀ b, b < 4 → a ≠ b → (TX4 a).2.1 ≠ (TX4 b).2.1 := by decide +kernel
theorem tyX4_ok : ∀ k, k < 4 → parseFieldDescriptor (TX4 k).2.2.1 = some (tyX4 k) := by decide +kernel
abbrev cX4_init : ByteArray := prog_6_method_1_code
def yX4_init : MethodName := ⟨RX4, "<init>", "()V"⟩
abbrev cX4_clear : ByteArray := prog_6_method_2_code
def yX4_clear : MethodName := ⟨RX4, "clear", "()V"⟩
abbrev cX4_count : ByteArray := prog_6_method_3_code
def yX4_count : MethodName := ⟨RX4, "count", "(J)V"⟩
abbrev cX4_inRow : ByteArray := prog_6_method_4_code
def yX4_inRow : MethodName := ⟨RX4, "inRow", "(II)J"⟩
def RX5 : String := "CounterPlacer$Tree"
def TX5 : u_T := fun k => match k with
  | 0 => ("CounterPlacer$Tree", "shape", "LCounterPlacer$Shape;", true)
  | 1 => ("CounterPlacer$Tree", "order", "[I", true)
  | 2 => ("CounterPlacer$Tree", "within", "[Z", true)
  | 3 => ("CounterPlacer$Tree", "part", "[I", true)
  | 4 => ("CounterPlacer$Tree", "up", "[I", true)
  | 5 => ("CounterPlacer$Tree", "line", "[I", true)
  | 6 => ("CounterPlacer$Tree", "lined", "[Z", true)
  | 7 => ("CounterPlacer$Tree", "surplus", "[J", true)
  | 8 => ("CounterPlacer$Tree", "rebuilt", "[J", true)
  | 9 => ("CounterPlacer$Tree", "lineLength", "I", false)
  | 10 => ("CounterPlacer$Tree", "counters", "I", false)
  | _ => ("CounterPlacer$Tree", "guessed", "J", false)
def tyX5 : Nat → FieldType := fun k => match k with
  | 0 => .object "CounterPlacer$Shape"
  | 1 => .array .int
  | 2 => .array .boolean
  | 3 => .array .int
  | 4 => .array .int
  | 5 => .array .int
  | 6 => .array .boolean
  | 7 => .array .long
  | 8 => .array .long
  | 9 => .int
  | 10 => .int
  | _ => .long
abbrev wsX50 : List Cond := u_ws RX5 TX5 12
theorem nmX5 : ∀ a, a < 12 → ∀ b, b < 12 → a ≠ b → (TX5 a).2.1 ≠ (TX5 b).2.1 := by decide +kernel
theorem tyX5_ok : ∀ k, k < 12 → parseFieldDescriptor (TX5 k).2.2.1 = some (tyX5 k) := by decide +kernel
abbrev cX5_init : ByteArray := prog_7_method_1_code
def yX5_init : MethodName := ⟨RX5, "<init>", "(LCounterPlacer$Shape;)V"⟩
abbrev cX5_grow : ByteArray := prog_7_method_2_code
def yX5_grow : MethodName := ⟨RX5, "grow", "()V"⟩
abbrev cX5_sortByGuess : ByteArray := prog_7_method_3_code
def yX5_sortByGuess : MethodName := ⟨RX5, "sortByGuess", "()V"⟩
abbrev cX5_takeLinks : ByteArray := prog_7_method_4_code
def yX5_takeLinks : MethodName := ⟨RX5, "takeLinks", "()V"⟩
abbrev cX5_joinParts : ByteArray := prog_7_method_5_code
def yX5_joinParts : MethodName := ⟨RX5, "joinParts", "(I)Z"⟩
abbrev cX5_lineUpFromEnd : ByteArray := prog_7_method_6_code
def yX5_lineUpFromEnd : MethodName := ⟨RX5, "lineUpFromEnd", "()V"⟩
abbrev cX5_lineUp : ByteArray := prog_7_method_7_code
def yX5_lineUp : MethodName := ⟨RX5, "lineUp", "(II)V"⟩
abbrev cX5_otherEnd : ByteArray := prog_7_method_8_code
def yX5_otherEnd : MethodName := ⟨RX5, "otherEnd", "(II)I"⟩
abbrev cX5_placeInRing : ByteArray := prog_7_method_9_code
def yX5_placeInRing : MethodName := ⟨RX5, "placeInRing", "(II)I"⟩
abbrev cX5_isBelow : ByteArray := prog_7_method_10_code
def yX5_isBelow : MethodName := ⟨RX5, "isBelow", "(II)Z"⟩
abbrev cX5_rebuild : ByteArray := prog_7_method_11_code
def yX5_rebuild : MethodName := ⟨RX5, "rebuild", "([J[J)V"⟩
abbrev cX5_carry : ByteArray := prog_7_method_12_code
def yX5_carry : MethodName := ⟨RX5, "carry", "(IJ)V"⟩
def RX6 : String := "CounterPlacer$Walk"
def TX6 : u_T := fun k => match k with
  | 0 => ("CounterPlacer$Walk", "routineOf", "[LCounterPlacer$Routine;", true)
  | 1 => ("CounterPlacer$Walk", "blockOf", "[I", true)
  | 2 => ("CounterPlacer$Walk", "sumOf", "[J", true)
  | 3 => ("CounterPlacer$Walk", "frames", "I", false)
  | 4 => ("CounterPlacer$Walk", "state", "I", false)
  | 5 => ("CounterPlacer$Walk", "steps", "I", false)
  | 6 => ("CounterPlacer$Walk", "price", "I", false)
  | 7 => ("CounterPlacer$Walk", "forks", "I", false)
  | _ => ("CounterPlacer$Walk", "choices", "I", false)
def tyX6 : Nat → FieldType := fun k => match k with
  | 0 => .array (.object "CounterPlacer$Routine")
  | 1 => .array .int
  | 2 => .array .long
  | 3 => .int
  | 4 => .int
  | 5 => .int
  | 6 => .int
  | 7 => .int
  | _ => .int
abbrev wsX60 : List Cond := u_ws RX6 TX6 9
theorem nmX6 : ∀ a, a < 9 → ∀ b, b < 9 → a ≠ b → (TX6 a).2.1 ≠ (TX6 b).2.1 := by decide +kernel
theorem tyX6_ok : ∀ k, k < 9 → parseFieldDescriptor (TX6 k).2.2.1 = some (tyX6 k) := by decide +kernel
abbrev cX6_init : ByteArray := prog_8_method_1_code
def yX6_init : MethodName := ⟨RX6, "<init>", "()V"⟩
abbrev cX6_startIn : ByteArray := prog_8_method_2_code
def yX6_startIn : MethodName := ⟨RX6, "startIn", "(LCounterPlacer$Routine;)V"⟩
abbrev cX6_stepOn : ByteArray := prog_8_method_3_code
def yX6_stepOn : MethodName := ⟨RX6, "stepOn", "(II[LCounterPlacer$Routine;)I"⟩
abbrev cX6_step : ByteArray := prog_8_method_4_code
def yX6_step : MethodName := ⟨RX6, "step", "([LCounterPlacer$Routine;)V"⟩
abbrev cX6_choose : ByteArray := prog_8_method_5_code
def yX6_choose : MethodName := ⟨RX6, "choose", "(I)I"⟩
abbrev cX6_enterCalled : ByteArray := prog_8_method_6_code
def yX6_enterCalled : MethodName := ⟨RX6, "enterCalled", "(I[LCounterPlacer$Routine;)V"⟩
abbrev cX6_enter : ByteArray := prog_8_method_7_code
def yX6_enter : MethodName := ⟨RX6, "enter", "(LCounterPlacer$Routine;)V"⟩
abbrev cX6_leave : ByteArray := prog_8_method_8_code
def yX6_leave : MethodName := ⟨RX6, "leave", "(LCounterPlacer$Routine;)V"⟩
abbrev cX6_cross : ByteArray := prog_8_method_9_code
def yX6_cross : MethodName := ⟨RX6, "cross", "(LCounterPlacer$Routine;I)V"⟩
abbrev cX6_dropFrames : ByteArray := prog_8_method_10_code
def yX6_dropFrames : MethodName := ⟨RX6, "dropFrames", "()V"⟩
abbrev cX6_topRoutine : ByteArray := prog_8_method_11_code
def yX6_topRoutine : MethodName := ⟨RX6, "topRoutine", "()LCounterPlacer$Routine;"⟩
abbrev cX6_hasFrameOf : ByteArray := prog_8_method_12_code
def yX6_hasFrameOf : MethodName := ⟨RX6, "hasFrameOf", "(I)Z"⟩
abbrev cX6_openAt : ByteArray := prog_8_method_13_code
def yX6_openAt : MethodName := ⟨RX6, "openAt", "(II)I"⟩
abbrev cX6_isOf : ByteArray := prog_8_method_14_code
def yX6_isOf : MethodName := ⟨RX6, "isOf", "(II)Z"⟩
abbrev cX6_ofRun : ByteArray := prog_8_method_15_code
def yX6_ofRun : MethodName := ⟨RX6, "ofRun", "(I)I"⟩
def RX7 : String := "CounterPlacer$Ways"
def TX7 : u_T := fun k => match k with
  | 0 => ("CounterPlacer$Ways", "shape", "LCounterPlacer$Shape;", true)
  | 1 => ("CounterPlacer$Ways", "from", "[J", true)
  | 2 => ("CounterPlacer$Ways", "base", "[J", true)
  | 3 => ("CounterPlacer$Ways", "potential", "[J", true)
  | 4 => ("CounterPlacer$Ways", "add", "[J", true)
  | 5 => ("CounterPlacer$Ways", "light", "[J", true)
  | 6 => ("CounterPlacer$Ways", "least", "[I", true)
  | 7 => ("CounterPlacer$Ways", "passedBlocks", "[I", true)
  | 8 => ("CounterPlacer$Ways", "passedEdges", "[I", true)
  | 9 => ("CounterPlacer$Ways", "passed", "I", false)
  | _ => ("CounterPlacer$Ways", "total", "J", false)
def tyX7 : Nat → FieldType := fun k => match k with
  | 0 => .object "CounterPlacer$Shape"
  | 1 => .array .long
  | 2 => .array .long
  | 3 => .array .long
  | 4 => .array .long
  | 5 => .array .long
  | 6 => .array .int
  | 7 => .array .int
  | 8 => .array .int
  | 9 => .int
  | _ => .long
abbrev wsX70 : List Cond := u_ws RX7 TX7 11
theorem nmX7 : ∀ a, a < 11 → ∀ b, b < 11 → a ≠ b → (TX7 a).2.1 ≠ (TX7 b).2.1 := by decide +kernel
theorem tyX7_ok : ∀ k, k < 11 → parseFieldDescriptor (TX7 k).2.2.1 = some (tyX7 k) := by decide +kernel
abbrev cX7_init : ByteArray := prog_9_method_1_code
def yX7_init : MethodName := ⟨RX7, "<init>", "(LCounterPlacer$Shape;)V"⟩
abbrev cX7_firstFault : ByteArray := prog_9_method_2_code
def yX7_firstFault : MethodName := ⟨RX7, "firstFault", "()I"⟩
abbrev cX7_countFromBlocks : ByteArray := prog_9_method_3_code
def yX7_countFromBlocks : MethodName := ⟨RX7, "countFromBlocks", "()Z"⟩
abbrev cX7_countFrom : ByteArray := prog_9_method_4_code
def yX7_countFrom : MethodName := ⟨RX7, "countFrom", "(I)J"⟩
abbrev cX7_countBeyond : ByteArray := prog_9_method_5_code
def yX7_countBeyond : MethodName := ⟨RX7, "countBeyond", "(I)J"⟩
abbrev cX7_sumAdds : ByteArray := prog_9_method_6_code
def yX7_sumAdds : MethodName := ⟨RX7, "sumAdds", "()V"⟩
abbrev cX7_setBases : ByteArray := prog_9_method_7_code
def yX7_setBases : MethodName := ⟨RX7, "setBases", "()V"⟩
abbrev cX7_lighten : ByteArray := prog_9_method_8_code
def yX7_lighten : MethodName := ⟨RX7, "lighten", "([I)V"⟩
abbrev cX7_joinTrees : ByteArray := prog_9_method_9_code
def yX7_joinTrees : MethodName := ⟨RX7, "joinTrees", "(I)V"⟩
abbrev cX7_unfold : ByteArray := prog_9_method_10_code
def yX7_unfold : MethodName := ⟨RX7, "unfold", "(J)Z"⟩
abbrev cX7_beginningOf : ByteArray := prog_9_method_11_code
def yX7_beginningOf : MethodName := ⟨RX7, "beginningOf", "(J)I"⟩
abbrev cX7_edgeFor : ByteArray := prog_9_method_12_code
def yX7_edgeFor : MethodName := ⟨RX7, "edgeFor", "(IJ)I"⟩
abbrev cX7_unfoldedBlock : ByteArray := prog_9_method_13_code
def yX7_unfoldedBlock : MethodName := ⟨RX7, "unfoldedBlock", "(I)I"⟩
abbrev cX7_unfoldedEdge : ByteArray := prog_9_method_14_code
def yX7_unfoldedEdge : MethodName := ⟨RX7, "unfoldedEdge", "(I)I"⟩
abbrev cX7_unfoldedHas : ByteArray := prog_9_method_15_code
def yX7_unfoldedHas : MethodName := ⟨RX7, "unfoldedHas", "(I)Z"⟩
def RX8 : String := "CounterPlacer"
def TX8 : u_T := fun k => match k with
  | 0 => ("CounterPlacer", "routines", "[LCounterPlacer$Routine;", true)
  | 1 => ("CounterPlacer", "walk", "LCounterPlacer$Walk;", true)
  | 2 => ("CounterPlacer", "mender", "LCounterPlacer$Mender;", true)
  | _ => ("CounterPlacer", "routineCount", "I", false)
def tyX8 : Nat → FieldType := fun k => match k with
  | 0 => .array (.object "CounterPlacer$Routine")
  | 1 => .object "CounterPlacer$Walk"
  | 2 => .object "CounterPlacer$Mender"
  | _ => .int
abbrev wsX80 : List Cond := u_ws RX8 TX8 4
theorem nmX8 : ∀ a, a < 4 → ∀ b, b < 4 → a ≠ b → (TX8 a).2.1 ≠ (TX8 b).2.1 := by decide +kernel
theorem tyX8_ok : ∀ k, k < 4 → parseFieldDescriptor (TX8 k).2.2.1 = some (tyX8 k) := by decide +kernel
abbrev cX8_init : ByteArray := prog_1_method_1_code
def yX8_init : MethodName := ⟨RX8, "<init>", "()V"⟩
abbrev cX8_routine : ByteArray := prog_1_method_2_code
def yX8_routine : MethodName := ⟨RX8, "routine", "()I"⟩
abbrev cX8_block : ByteArray := prog_1_method_3_code
def yX8_block : MethodName := ⟨RX8, "block", "(III)I"⟩
abbrev cX8_edge : ByteArray := prog_1_method_4_code
def yX8_edge : MethodName := ⟨RX8, "edge", "(IIIIZ)I"⟩
abbrev cX8_guess : ByteArray := prog_1_method_5_code
def yX8_guess : MethodName := ⟨RX8, "guess", "(III)Z"⟩
abbrev cX8_finish : ByteArray := prog_1_method_6_code
def yX8_finish : MethodName := ⟨RX8, "finish", "(I)I"⟩
abbrev cX8_plan : ByteArray := prog_1_method_7_code
def yX8_plan : MethodName := ⟨RX8, "plan", "(I)I"⟩
abbrev cX8_look : ByteArray := prog_1_method_8_code
def yX8_look : MethodName := ⟨RX8, "look", "(II)J"⟩
abbrev cX8_ofEdge : ByteArray := prog_1_method_9_code
def yX8_ofEdge : MethodName := ⟨RX8, "ofEdge", "(III)J"⟩
abbrev cX8_ofBlock : ByteArray := prog_1_method_10_code
def yX8_ofBlock : MethodName := ⟨RX8, "ofBlock", "(III)J"⟩
abbrev cX8_solve : ByteArray := prog_1_method_11_code
def yX8_solve : MethodName := ⟨RX8, "solve", "(II)J"⟩
abbrev cX8_ring : ByteArray := prog_1_method_12_code
def yX8_ring : MethodName := ⟨RX8, "ring", "(III)I"⟩
abbrev cX8_begin : ByteArray := prog_1_method_13_code
def yX8_begin : MethodName := ⟨RX8, "begin", "(I)Z"⟩
abbrev cX8_go : ByteArray := prog_1_method_14_code
def yX8_go : MethodName := ⟨RX8, "go", "(II)I"⟩
abbrev cX8_run : ByteArray := prog_1_method_15_code
def yX8_run : MethodName := ⟨RX8, "run", "(I)I"⟩
abbrev cX8_way : ByteArray := prog_1_method_16_code
def yX8_way : MethodName := ⟨RX8, "way", "(IJI)I"⟩
abbrev cX8_along : ByteArray := prog_1_method_17_code
def yX8_along : MethodName := ⟨RX8, "along", "(IJI)I"⟩
abbrev cX8_table : ByteArray := prog_1_method_18_code
def yX8_table : MethodName := ⟨RX8, "table", "(III)J"⟩
abbrev cX8_told : ByteArray := prog_1_method_19_code
def yX8_told : MethodName := ⟨RX8, "told", "(II)J"⟩
abbrev cX8_blur : ByteArray := prog_1_method_20_code
def yX8_blur : MethodName := ⟨RX8, "blur", "(III)Z"⟩
abbrev cX8_mend : ByteArray := prog_1_method_21_code
def yX8_mend : MethodName := ⟨RX8, "mend", "(I)J"⟩
abbrev cX8_isCount : ByteArray := prog_1_method_22_code
def yX8_isCount : MethodName := ⟨RX8, "isCount", "(I)Z"⟩
abbrev cX8_routineAt : ByteArray := prog_1_method_23_code
def yX8_routineAt : MethodName := ⟨RX8, "routineAt", "(I)LCounterPlacer$Routine;"⟩
abbrev cX8_finishedAt : ByteArray := prog_1_method_24_code
def yX8_finishedAt : MethodName := ⟨RX8, "finishedAt", "(I)LCounterPlacer$Routine;"⟩
abbrev cX8_finishedWithEdge : ByteArray := prog_1_method_25_code
def yX8_finishedWithEdge : MethodName := ⟨RX8, "finishedWithEdge", "(II)LCounterPlacer$Routine;"⟩
def RX9 : String := "CounterPlacerModel"
def TX9 : u_T := fun k => match k with
  | 0 => ("CounterPlacerModel", "routines", "I", false)
  | 1 => ("CounterPlacerModel", "blocks", "[I", true)
  | 2 => ("CounterPlacerModel", "edges", "[I", true)
  | 3 => ("CounterPlacerModel", "finished", "[Z", true)
  | 4 => ("CounterPlacerModel", "kind", "[I", true)
  | 5 => ("CounterPlacerModel", "calls", "[I", true)
  | 6 => ("CounterPlacerModel", "from", "[I", true)
  | 7 => ("CounterPlacerModel", "to", "[I", true)
  | 8 => ("CounterPlacerModel", "guesses", "[I", true)
  | 9 => ("CounterPlacerModel", "back", "[Z", true)
  | 10 => ("CounterPlacerModel", "blurred", "[I", true)
  | 11 => ("CounterPlacerModel", "counted", "[Z", true)
  | 12 => ("CounterPlacerModel", "planSum", "[J", true)
  | 13 => ("CounterPlacerModel", "planMany", "[I", true)
  | 14 => ("CounterPlacerModel", "ways", "[J", true)
  | 15 => ("CounterPlacerModel", "n", "[J", true)
  | 16 => ("CounterPlacerModel", "base", "[J", true)
  | 17 => ("CounterPlacerModel", "add", "[J", true)
  | 18 => ("CounterPlacerModel", "p", "[J", true)
  | 19 => ("CounterPlacerModel", "entries", "[J", true)
  | 20 => ("CounterPlacerModel", "fell", "[J", true)
  | 21 => ("CounterPlacerModel", "stopped", "[J", true)
  | 22 => ("CounterPlacerModel", "truth", "[J", true)
  | 23 => ("CounterPlacerModel", "counter", "[J", true)
  | 24 => ("CounterPlacerModel", "rows", "[I", true)
  | 25 => ("CounterPlacerModel", "rowWay", "[J", true)
  | 26 => ("CounterPlacerModel", "rowMany", "[J", true)
  | 27 => ("CounterPlacerModel", "state", "I", false)
  | 28 => ("CounterPlacerModel", "frames", "I", false)
  | 29 => ("CounterPlacerModel", "steps", "I", false)
  | 30 => ("CounterPlacerModel", "price", "I", false)
  | 31 => ("CounterPlacerModel", "fRoutine", "[I", true)
  | 32 => ("CounterPlacerModel", "fBlock", "[I", true)
  | 33 => ("CounterPlacerModel", "fWay", "[J", true)
  | 34 => ("CounterPlacerModel", "thrown", "I", false)
  | 35 => ("CounterPlacerModel", "seen", "[Z", true)
  | 36 => ("CounterPlacerModel", "set", "[I", true)
  | 37 => ("CounterPlacerModel", "inTree", "[Z", true)
  | 38 => ("CounterPlacerModel", "isTried", "[Z", true)
  | 39 => ("CounterPlacerModel", "arcFrom", "[I", true)
  | 40 => ("CounterPlacerModel", "arcTo", "[I", true)
  | 41 => ("CounterPlacerModel", "arcCount", "[J", true)
  | 42 => ("CounterPlacerModel", "known", "[Z", true)
  | 43 => ("CounterPlacerModel", "arcs", "I", false)
  | 44 => ("CounterPlacerModel", "cameBy", "[I", true)
  | 45 => ("CounterPlacerModel", "wayBlock", "[I", true)
  | 46 => ("CounterPlacerModel", "wayEdge", "[I", true)
  | 47 => ("CounterPlacerModel", "wayMany", "I", false)
  | 48 => ("CounterPlacerModel", "pFrom", "[I", true)
  | 49 => ("CounterPlacerModel", "pTo", "[I", true)
  | 50 => ("CounterPlacerModel", "pRoom", "[J", true)
  | 51 => ("CounterPlacerModel", "pCost", "[I", true)
  | 52 => ("CounterPlacerModel", "pushes", "I", false)
  | 53 => ("CounterPlacerModel", "over", "[J", true)
  | 54 => ("CounterPlacerModel", "far", "[I", true)
  | _ => ("CounterPlacerModel", "by", "[I", true)
def tyX9 : Nat → FieldType := fun k => match k with
  | 0 => .int
  | 1 => .array .int
  | 2 => .array .int
  | 3 => .array .boolean
  | 4 => .array .int
  | 5 => .array .int
  | 6 => .array .int
  | 7 => .array .int
  | 8 => .array .int
  | 9 => .array .boolean
  | 10 => .array .int
  | 11 => .array .boolean
  | 12 => .array .long
  | 13 => .array .int
  | 14 => .array .long
  | 15 => .array .long
  | 16 => .array .long
  | 17 => .array .long
  | 18 => .array .long
  | 19 => .array .long
  | 20 => .array .long
  | 21 => .array .long
  | 22 => .array .long
  | 23 => .array .long
  | 24 => .array .int
  | 25 => .array .long
  | 26 => .array .long
  | 27 => .int
  | 28 => .int
  | 29 => .int
  | 30 => .int
  | 31 => .array .int
  | 32 => .array .int
  | 33 => .array .long
  | 34 => .int
  | 35 => .array .boolean
  | 36 => .array .int
  | 37 => .array .boolean
  | 38 => .array .boolean
  | 39 => .array .int
  | 40 => .array .int
  | 41 => .array .long
  | 42 => .array .boolean
  | 43 => .int
  | 44 => .array .int
  | 45 => .array .int
  | 46 => .array .int
  | 47 => .int
  | 48 => .array .int
  | 49 => .array .int
  | 50 => .array .long
  | 51 => .array .int
  | 52 => .int
  | 53 => .array .long
  | 54 => .array .int
  | _ => .array .int
abbrev wsX90 : List Cond := u_ws RX9 TX9 56
theorem nmX9 : ∀ a, a < 56 → ∀ b, b < 56 → a ≠ b → (TX9 a).2.1 ≠ (TX9 b).2.1 := by decide +kernel
theorem tyX9_ok : ∀ k, k < 56 → parseFieldDescriptor (TX9 k).2.2.1 = some (tyX9 k) := by decide +kernel
abbrev cX9_init : ByteArray := prog_11_method_1_code
def yX9_init : MethodName := ⟨RX9, "<init>", "()V"⟩
abbrev cX9_thrown : ByteArray := prog_11_method_2_code
def yX9_thrown : MethodName := ⟨RX9, "thrown", "()I"⟩
abbrev cX9_isRoutine : ByteArray := prog_11_method_3_code
def yX9_isRoutine : MethodName := ⟨RX9, "isRoutine", "(I)Z"⟩
abbrev cX9_isDone : ByteArray := prog_11_method_4_code
def yX9_isDone : MethodName := ⟨RX9, "isDone", "(I)Z"⟩
abbrev cX9_isEdge : ByteArray := prog_11_method_5_code
def yX9_isEdge : MethodName := ⟨RX9, "isEdge", "(II)Z"⟩
abbrev cX9_isBlock : ByteArray := prog_11_method_6_code
def yX9_isBlock : MethodName := ⟨RX9, "isBlock", "(II)Z"⟩
abbrev cX9_routine : ByteArray := prog_11_method_7_code
def yX9_routine : MethodName := ⟨RX9, "routine", "()I"⟩
abbrev cX9_block : ByteArray := prog_11_method_8_code
def yX9_block : MethodName := ⟨RX9, "block", "(III)I"⟩
abbrev cX9_outs : ByteArray := prog_11_method_9_code
def yX9_outs : MethodName := ⟨RX9, "outs", "(II)I"⟩
abbrev cX9_ins : ByteArray := prog_11_method_10_code
def yX9_ins : MethodName := ⟨RX9, "ins", "(II)I"⟩
abbrev cX9_isGuess : ByteArray := prog_11_method_11_code
def yX9_isGuess : MethodName := ⟨RX9, "isGuess", "(I)Z"⟩
abbrev cX9_edge : ByteArray := prog_11_method_12_code
def yX9_edge : MethodName := ⟨RX9, "edge", "(IIIIZ)I"⟩
abbrev cX9_guess : ByteArray := prog_11_method_13_code
def yX9_guess : MethodName := ⟨RX9, "guess", "(III)Z"⟩
abbrev cX9_reach : ByteArray := prog_11_method_14_code
def yX9_reach : MethodName := ⟨RX9, "reach", "(IZ)V"⟩
abbrev cX9_all : ByteArray := prog_11_method_15_code
def yX9_all : MethodName := ⟨RX9, "all", "(I)Z"⟩
abbrev cX9_count : ByteArray := prog_11_method_16_code
def yX9_count : MethodName := ⟨RX9, "count", "(I)Z"⟩
abbrev cX9_why : ByteArray := prog_11_method_17_code
def yX9_why : MethodName := ⟨RX9, "why", "(I)I"⟩
abbrev cX9_join : ByteArray := prog_11_method_18_code
def yX9_join : MethodName := ⟨RX9, "join", "(II)V"⟩
abbrev cX9_grow : ByteArray := prog_11_method_19_code
def yX9_grow : MethodName := ⟨RX9, "grow", "(IZ)V"⟩
abbrev cX9_makePlan : ByteArray := prog_11_method_20_code
def yX9_makePlan : MethodName := ⟨RX9, "makePlan", "(I)V"⟩
abbrev cX9_finish : ByteArray := prog_11_method_21_code
def yX9_finish : MethodName := ⟨RX9, "finish", "(I)I"⟩
abbrev cX9_plan : ByteArray := prog_11_method_22_code
def yX9_plan : MethodName := ⟨RX9, "plan", "(I)I"⟩
abbrev cX9_fails : ByteArray := prog_11_method_23_code
def yX9_fails : MethodName := ⟨RX9, "fails", "(I)J"⟩
abbrev cX9_look : ByteArray := prog_11_method_24_code
def yX9_look : MethodName := ⟨RX9, "look", "(II)J"⟩
abbrev cX9_ofEdge : ByteArray := prog_11_method_25_code
def yX9_ofEdge : MethodName := ⟨RX9, "ofEdge", "(III)J"⟩
abbrev cX9_openOf : ByteArray := prog_11_method_26_code
def yX9_openOf : MethodName := ⟨RX9, "openOf", "(II)I"⟩
abbrev cX9_ofBlock : ByteArray := prog_11_method_27_code
def yX9_ofBlock : MethodName := ⟨RX9, "ofBlock", "(III)J"⟩
abbrev cX9_lay : ByteArray := prog_11_method_28_code
def yX9_lay : MethodName := ⟨RX9, "lay", "(I)V"⟩
abbrev cX9_arc : ByteArray := prog_11_method_29_code
def yX9_arc : MethodName := ⟨RX9, "arc", "(II)V"⟩
abbrev cX9_solve : ByteArray := prog_11_method_30_code
def yX9_solve : MethodName := ⟨RX9, "solve", "(II)J"⟩
abbrev cX9_ring : ByteArray := prog_11_method_31_code
def yX9_ring : MethodName := ⟨RX9, "ring", "(III)I"⟩
abbrev cX9_ends : ByteArray := prog_11_method_32_code
def yX9_ends : MethodName := ⟨RX9, "ends", "(IJ)V"⟩
abbrev cX9_comes : ByteArray := prog_11_method_33_code
def yX9_comes : MethodName := ⟨RX9, "comes", "(I)V"⟩
abbrev cX9_allGo : ByteArray := prog_11_method_34_code
def yX9_allGo : MethodName := ⟨RX9, "allGo", "()V"⟩
abbrev cX9_begin : ByteArray := prog_11_method_35_code
def yX9_begin : MethodName := ⟨RX9, "begin", "(I)Z"⟩
abbrev cX9_goes : ByteArray := prog_11_method_36_code
def yX9_goes : MethodName := ⟨RX9, "goes", "(I)V"⟩
abbrev cX9_go : ByteArray := prog_11_method_37_code
def yX9_go : MethodName := ⟨RX9, "go", "(II)I"⟩
abbrev cX9_run : ByteArray := prog_11_method_38_code
def yX9_run : MethodName := ⟨RX9, "run", "(I)I"⟩
abbrev cX9_isWay : ByteArray := prog_11_method_39_code
def yX9_isWay : MethodName := ⟨RX9, "isWay", "(IJ)Z"⟩
abbrev cX9_way : ByteArray := prog_11_method_40_code
def yX9_way : MethodName := ⟨RX9, "way", "(IJI)I"⟩
abbrev cX9_along : ByteArray := prog_11_method_41_code
def yX9_along : MethodName := ⟨RX9, "along", "(IJI)I"⟩
abbrev cX9_table : ByteArray := prog_11_method_42_code
def yX9_table : MethodName := ⟨RX9, "table", "(III)J"⟩
abbrev cX9_told : ByteArray := prog_11_method_43_code
def yX9_told : MethodName := ⟨RX9, "told", "(II)J"⟩
abbrev cX9_blur : ByteArray := prog_11_method_44_code
def yX9_blur : MethodName := ⟨RX9, "blur", "(III)Z"⟩
abbrev cX9_push : ByteArray := prog_11_method_45_code
def yX9_push : MethodName := ⟨RX9, "push", "(IIJI)V"⟩
abbrev cX9_mend : ByteArray := prog_11_method_46_code
def yX9_mend : MethodName := ⟨RX9, "mend", "(I)J"⟩
def RL : String := "CounterPlacerLaw"
abbrev cL_look : ByteArray := method_3_code
def yL_look : MethodName := ⟨RL, "look", "(LCounterPlacer;II[J)I"⟩
abbrev cL_ofEdge : ByteArray := method_4_code
def yL_ofEdge : MethodName := ⟨RL, "ofEdge", "(LCounterPlacer;III[J)I"⟩
abbrev cL_ofBlock : ByteArray := method_5_code
def yL_ofBlock : MethodName := ⟨RL, "ofBlock", "(LCounterPlacer;III[J)I"⟩
abbrev cL_law : ByteArray := code
def yL_law : MethodName := ⟨RL, "law", "([I)Z"⟩
abbrev vwCl : List vw_C := [(RX0, TX0, 5), (RX1, TX1, 4), (RX2, TX2, 9), (RX3, TX3, 13), (RX4, TX4, 4), (RX5, TX5, 12), (RX6, TX6, 9), (RX7, TX7, 11), (RX8, TX8, 4), (RX9, TX9, 56)]
/-- the words that every method has -/
def GW : List Cond := lw_tbl.filter goodWord
/-- the words between nest mates -/
def isNW : Cond → Bool
  | .fieldLinkNest _ _ _ _ _ _ => true
  | .methodLinkNest _ _ _ _ => true
  | _ => false
def NW : List Cond := lw_tbl.filter isNW
theorem gwm {w : Cond} (i : Nat) (h : lw_tbl[i]? = some w) (hg : goodWord w = true) : w ∈ GW := List.mem_filter.mpr ⟨List.mem_of_getElem? h, hg⟩
theorem nwm {w : Cond} (i : Nat) (h : lw_tbl[i]? = some w) (hg : isNW w = true) : w ∈ NW := List.mem_filter.mpr ⟨List.mem_of_getElem? h, hg⟩
end
section
def kd0 : Nat → Nat × Nat := fun k => match k with
  | 0 => (13, 0)
  | 1 => (0, 8)
  | 2 => (0, 8)
  | 3 => (2, 8)
  | 4 => (0, 160)
  | 5 => (0, 160)
  | 6 => (0, 320)
  | 7 => (0, 320)
  | 8 => (0, 320)
  | 9 => (2, 320)
  | 10 => (0, 320)
  | 11 => (2, 320)
  | 12 => (1, 8)
  | 13 => (0, 8)
  | 14 => (1, 8)
  | 15 => (1, 160)
  | 16 => (1, 160)
  | 17 => (1, 320)
  | 18 => (1, 160)
  | 19 => (1, 8)
  | 20 => (1, 8)
  | 21 => (1, 160)
  | 22 => (1, 320)
  | 23 => (1, 320)
  | 24 => (0, 8)
  | 25 => (1, 128)
  | 26 => (1, 128)
  | 31 => (0, 30)
  | 32 => (0, 30)
  | 33 => (1, 30)
  | 35 => (2, 21)
  | 36 => (0, 21)
  | 37 => (2, 40)
  | 38 => (2, 40)
  | 39 => (0, 61)
  | 40 => (0, 61)
  | 41 => (1, 61)
  | 42 => (2, 61)
  | 44 => (0, 21)
  | 45 => (0, 21)
  | 46 => (0, 21)
  | 48 => (0, 320)
  | 49 => (0, 320)
  | 50 => (1, 320)
  | 51 => (0, 320)
  | 53 => (1, 21)
  | 54 => (0, 21)
  | 55 => (0, 21)
  | _ => (0, 0)
def kd1 : Nat → Nat × Nat := fun k => match k with
  | 0 => (12, 0)
  | 1 => (3, 8)
  | 2 => (10, 0)
  | 3 => (5, 0)
  | 4 => (3, 30)
  | 5 => (0, 30)
  | 6 => (1, 30)
  | 7 => (0, 61)
  | 8 => (0, 21)
  | 9 => (0, 21)
  | 10 => (0, 21)
  | 11 => (1, 1)
  | _ => (0, 0)
def kd2 : Nat → Nat × Nat := fun k => match k with
  | 0 => (6, 0)
  | 1 => (7, 0)
  | 2 => (11, 0)
  | 3 => (9, 0)
  | 4 => (4, 0)
  | 5 => (8, 0)
  | 6 => (0, 40)
  | 7 => (1, 20)
  | 8 => (0, 20)
  | 9 => (0, 20)
  | 10 => (0, 20)
  | 11 => (0, 20)
  | 12 => (0, 80)
  | 13 => (0, 61)
  | 14 => (0, 61)
  | 15 => (0, 40)
  | 16 => (2, 40)
  | 17 => (2, 20)
  | 18 => (1, 20)
  | 19 => (1, 20)
  | 20 => (1, 20)
  | 21 => (1, 40)
  | 22 => (1, 40)
  | 23 => (0, 20)
  | 24 => (0, 20)
  | 25 => (0, 20)
  | 26 => (0, 40)
  | 27 => (2, 61)
  | 28 => (0, 21)
  | 29 => (0, 21)
  | 30 => (0, 21)
  | 31 => (2, 21)
  | 32 => (1, 21)
  | 33 => (1, 61)
  | 34 => (1, 40)
  | 35 => (1, 40)
  | 36 => (1, 20)
  | 37 => (1, 16)
  | 38 => (1, 16)
  | _ => (0, 0)
def kd (g k : Nat) : Nat × Nat := match g with
  | 0 => kd0 k
  | 1 => kd1 k
  | _ + 2 => kd2 k
def nmg0 : List Nat := [0, 1, 2, 3, 4, 5, 6, 7, 8, 9, 10, 11, 12, 13, 14, 15, 16, 17, 18, 19, 20, 21, 22, 23, 24, 25, 26, 31, 32, 33, 35, 36, 37, 38, 39, 40, 41, 42, 44, 45, 46, 48, 49, 50, 51, 53, 54, 55]
def nmg1 : List Nat := [0, 1, 2, 3, 4, 5, 6, 7, 8, 9, 10, 11]
def nmg2 : List Nat := [0, 1, 2, 3, 4, 5, 6, 7, 8, 9, 10, 11, 12, 13, 14, 15, 16, 17, 18, 19, 20, 21, 22, 23, 24, 25, 26, 27, 28, 29, 30, 31, 32, 33, 34, 35, 36, 37, 38]
def nms (nr : Nat) : List (Nat × Nat) := nmg0.map (fun k => (0, k)) ++ (nmg1.map (fun k => (1, k)) ++ (List.range nr).flatMap (fun r => nmg2.map (fun k => (r + 2, k))))
def okn (nr g k : Nat) : Bool := match g with
  | 0 => nmg0.contains k
  | 1 => nmg1.contains k
  | r + 2 => decide (r < nr) && nmg2.contains k
def rf1 (k j : Nat) : Nat := match k with
  | 0 => j + 1
  | 2 => j + 4
  | _ => j + 7
def rf2 (k j : Nat) : Nat := match k with
  | 0 => j
  | 1 => j + 8
  | 2 => if j = 0 then 1 else j + 17
  | 3 => if j = 0 then 1 else j + 25
  | 4 => j + 34
  | _ => j + 37
def rfn (g k j : Nat) : Nat × Nat := match g with
  | 0 => (0, j)
  | 1 => (1, rf1 k j)
  | r + 2 => (r + 2, rf2 k j)
def nf (ci : Nat) : Nat := match ci with
  | 0 => 5
  | 1 => 4
  | 2 => 9
  | 3 => 13
  | 4 => 4
  | 5 => 12
  | 6 => 9
  | 7 => 11
  | 8 => 4
  | _ => 56
def ftl (ci : Nat) : List Nat := match ci with
  | 0 => [2, 2, 2, 1, 1]
  | 1 => [2, 2, 2, 2]
  | 2 => [0, 2, 2, 2, 2, 2, 2, 2, 0]
  | 3 => [2, 2, 2, 2, 2, 2, 2, 2, 2, 2, 0, 0, 0]
  | 4 => [2, 2, 0, 1]
  | 5 => [2, 2, 2, 2, 2, 2, 2, 2, 2, 0, 0, 1]
  | 6 => [2, 2, 2, 0, 0, 0, 0, 0, 0]
  | 7 => [2, 2, 2, 2, 2, 2, 2, 2, 2, 0, 1]
  | 8 => [2, 2, 2, 0]
  | _ => [0, 2, 2, 2, 2, 2, 2, 2, 2, 2, 2, 2, 2, 2, 2, 2, 2, 2, 2, 2, 2, 2, 2, 2, 2, 2, 2, 0, 0, 0, 0, 2, 2, 2, 0, 2, 2, 2, 2, 2, 2, 2, 2, 0, 2, 2, 2, 0, 2, 2, 2, 2, 0, 2, 2, 2]
def fty (ci j : Nat) : Nat := (ftl ci).getD j 0
abbrev Hp : Type := (Nat → Nat → Nat → Int32) × (Nat → Nat → Nat → Int64) × (Nat → Nat → Nat → Option Nat)
def gI (H : Hp) (g k i : Nat) : Int32 := H.1 g k i
def gJ (H : Hp) (g k i : Nat) : Int64 := H.2.1 g k i
def gR (H : Hp) (g k i : Nat) : Option Nat := H.2.2 g k i
def sI (H : Hp) (g k i : Nat) (v : Int32) : Hp := (fun a b j => if a = g ∧ b = k ∧ j = i then v else H.1 a b j, H.2)
def sJ (H : Hp) (g k i : Nat) (v : Int64) : Hp := (H.1, (fun a b j => if a = g ∧ b = k ∧ j = i then v else H.2.1 a b j), H.2.2)
def sR (H : Hp) (g k i : Nat) (v : Option Nat) : Hp := (H.1, H.2.1, (fun a b j => if a = g ∧ b = k ∧ j = i then v else H.2.2 a b j))
abbrev kQ : Type := ClassId × ClassId × ClassId × ClassId
abbrev vr (ad : Nat → Nat → Nat) (o : Option Nat) : Value := va_rf (o.map (fun r => ad (r + 2) 0))
def fv (ad : Nat → Nat → Nat) (H : Hp) (g k ci j : Nat) : Value := match fty ci j with
  | 0 => .int (H.1 g k j)
  | 1 => .long (H.2.1 g k j)
  | _ => .ref (ad (rfn g k j).1 (rfn g k j).2)
def fls (ad : Nat → Nat → Nat) (H : Hp) (g k ci : Nat) : List Value := (List.range (nf ci)).map (fun j => fv ad H g k ci j)
def cel (K4 : kQ) (ad : Nat → Nat → Nat) (H : Hp) (g k : Nat) : va_E := match (kd g k).1 with
  | 0 => .inl (K4.1, (kd g k).2, .inl (H.1 g k))
  | 1 => .inl (K4.2.1, (kd g k).2, .inr (.inl (H.2.1 g k)))
  | 2 => .inl (K4.2.2.1, (kd g k).2, .inl (H.1 g k))
  | 3 => .inl (K4.2.2.2, (kd g k).2, .inr (.inr (.inr (.inr (fun i => (H.2.2 g k i).map (fun r => ad (r + 2) 0))))))
  | ci + 4 => .inr (ci, fls ad H g k ci)
def wl (K4 : kQ) (ad : Nat → Nat → Nat) (nr : Nat) (H : Hp) : va_W := (nms nr).map (fun n => (ad n.1 n.2, cel K4 ad H n.1 n.2))
theorem okn_mem {nr g k : Nat} (h : okn nr g k = true) : (g, k) ∈ nms nr := by
  unfold okn at h
  unfold nms
  match g, h with
  | 0, h => exact List.mem_append_left _ (List.mem_map.mpr ⟨k, List.contains_iff_mem.mp h, rfl⟩)
  | 1, h => exact List.mem_append_right _ (List.mem_append_left _ (List.mem_map.mpr ⟨k, List.contains_iff_mem.mp h, rfl⟩))
  | r + 2, h =>
    rw [Bool.and_eq_true] at h
    exact List.mem_append_right _ (List.mem_append_right _ (List.mem_flatMap.mpr ⟨r, List.mem_range.mpr (of_decide_eq_true h.1), List.mem_map.mpr ⟨k, List.contains_iff_mem.mp h.2, rfl⟩⟩))
theorem okR {nr r k : Nat} (hr : r < nr) (hk : nmg2.contains k = true) : okn nr (r + 2) k = true := by
  show (decide (r < nr) && nmg2.contains k) = true
  rw [decide_eq_true hr, hk]; rfl
theorem wl_get {K4 : kQ} {ad : Nat → Nat → Nat} {H : Hp} {nr g k : Nat} (h : okn nr g k = true) : ∃ q0 : Nat, (wl K4 ad nr H)[q0]? = some (ad g k, cel K4 ad H g k) ∧ (nms nr)[q0]? = some (g, k) := by
  obtain ⟨q, hq⟩ := List.getElem?_of_mem (okn_mem h)
  refine ⟨q, ?_, hq⟩
  unfold wl
  rw [List.getElem?_map, hq]
  rfl
theorem wl_set {K4 : kQ} {ad : Nat → Nat → Nat} {H H' : Hp} {nr g k q0 : Nat} {A : Nat → Prop} {c' : va_E} (hD : va_D A (wl K4 ad nr H)) (hq : (nms nr)[q0]? = some (g, k)) (hs : ∀ g' k', (g', k') ≠ (g, k) → cel K4 ad H' g' k' = cel K4 ad H g' k') (hn : cel K4 ad H' g k = c') : (wl K4 ad nr H).set q0 (ad g k, c') = wl K4 ad nr H' := by
  apply List.ext_getElem?
  intro i
  by_cases hi : q0 = i
  · subst hi
    have hlt : q0 < (wl K4 ad nr H).length := by
      unfold wl
      rw [List.length_map]
      exact (List.getElem?_eq_some_iff.mp hq).1
    rw [List.getElem?_set_self hlt]
    unfold wl
    rw [List.getElem?_map, hq]
    show _ = some (ad g k, cel K4 ad H' g k)
    rw [hn]
  · rw [List.getElem?_set_ne hi]
    unfold wl
    rw [List.getElem?_map, List.getElem?_map]
    cases hj : (nms nr)[i]? with
    | none => rfl
    | some n =>
      obtain ⟨g', k'⟩ := n
      show some (ad g' k', cel K4 ad H g' k') = some (ad g' k', cel K4 ad H' g' k')
      by_cases hc : (g', k') = (g, k)
      · exfalso
        apply hi
        refine hD.1 q0 i (ad g k, cel K4 ad H g k) (ad g k, cel K4 ad H g k) ?_ ?_ rfl
        · unfold wl; rw [List.getElem?_map, hq]; rfl
        · unfold wl; rw [List.getElem?_map, hj, hc]; rfl
      · rw [hs g' k' hc]
theorem cel_sI {K4 : kQ} {ad : Nat → Nat → Nat} {H : Hp} {g k i : Nat} {v : Int32} : ∀ g' k', (g', k') ≠ (g, k) → cel K4 ad (sI H g k i v) g' k' = cel K4 ad H g' k' := by
  intro g' k' h
  have h1 : (sI H g k i v).1 g' k' = H.1 g' k' := by
    funext j
    show (if g' = g ∧ k' = k ∧ j = i then v else H.1 g' k' j) = _
    rw [if_neg]
    intro q
    exact h (by rw [q.1, q.2.1])
  unfold cel fls fv
  rw [h1]
  rfl
theorem cel_sJ {K4 : kQ} {ad : Nat → Nat → Nat} {H : Hp} {g k i : Nat} {v : Int64} : ∀ g' k', (g', k') ≠ (g, k) → cel K4 ad (sJ H g k i v) g' k' = cel K4 ad H g' k' := by
  intro g' k' h
  have h1 : (sJ H g k i v).2.1 g' k' = H.2.1 g' k' := by
    funext j
    show (if g' = g ∧ k' = k ∧ j = i then v else H.2.1 g' k' j) = _
    rw [if_neg]
    intro q
    exact h (by rw [q.1, q.2.1])
  unfold cel fls fv
  rw [h1]
  rfl
theorem cel_sR {K4 : kQ} {ad : Nat → Nat → Nat} {H : Hp} {g k i : Nat} {v : Option Nat} : ∀ g' k', (g', k') ≠ (g, k) → cel K4 ad (sR H g k i v) g' k' = cel K4 ad H g' k' := by
  intro g' k' h
  have h1 : (sR H g k i v).2.2 g' k' = H.2.2 g' k' := by
    funext j
    show (if g' = g ∧ k' = k ∧ j = i then v else H.2.2 g' k' j) = _
    rw [if_neg]
    intro q
    exact h (by rw [q.1, q.2.1])
  unfold cel fls fv
  rw [h1]
  rfl
theorem sI_row (H : Hp) (g k i : Nat) (v : Int32) : (sI H g k i v).1 g k = upd (H.1 g k) i v := by
  funext j
  show (if g = g ∧ k = k ∧ j = i then v else H.1 g k j) = if j = i then v else H.1 g k j
  simp
theorem sJ_row (H : Hp) (g k i : Nat) (v : Int64) : (sJ H g k i v).2.1 g k = vp_updL (H.2.1 g k) i v := by
  funext j
  show (if g = g ∧ k = k ∧ j = i then v else H.2.1 g k j) = if j = i then v else H.2.1 g k j
  simp
theorem rng_set (n : Nat) (F F' : Nat → Value) (j : Nat) (v : Value) (h1 : F' j = v) (h2 : ∀ i, i ≠ j → F' i = F i) : ((List.range n).map F).set j v = (List.range n).map F' := by
  apply List.ext_getElem?
  intro i
  by_cases hi : j = i
  · subst hi
    by_cases hl : j < n
    · rw [List.getElem?_set_self (by simpa using hl), List.getElem?_map, List.getElem?_range hl]
      show some v = some (F' j)
      rw [h1]
    · rw [List.getElem?_eq_none (by simp; omega), List.getElem?_eq_none (by simp; omega)]
  · rw [List.getElem?_set_ne hi, List.getElem?_map, List.getElem?_map]
    cases hj : (List.range n)[i]? with
    | none => rfl
    | some q =>
      have hq : q = i := by
        have := List.getElem?_eq_some_iff.mp hj
        obtain ⟨h3, h4⟩ := this
        rw [List.getElem_range] at h4
        exact h4.symm
      subst hq
      show some (F q) = some (F' q)
      rw [h2 q (fun h => hi h.symm)]
abbrev tys4 (K4 : kQ) : List (ClassId × FieldType) := [(K4.1, .int), (K4.2.1, .long), (K4.2.2.1, .boolean), (K4.2.2.2, .object "CounterPlacer$Routine")]
def Cx (p : Program) (s : State) (m : MethodId) (args : Array Value) (c : Code) (A : Nat → Prop) (H0 : Heap) (D : va_G) (K4 : kQ) (nL : Nat) (own : String) (cc : ByteArray) : Prop :=
  p.tables.exec = Jvm.exec ∧ c.code = cc ∧ c.maxLocals = nL ∧ s.vm.findClass own = some m.cls ∧ (∀ w ∈ GW, w.before args s = true) ∧ va_K D vwCl (tys4 K4) s ∧ (∀ w ∈ NW, va_Nw w s) ∧ (∀ q, H0.size ≤ q → A q)
def V (p : Program) (l : Launch) (e : Env) (R : Room) (s : State) (m : MethodId) (args : Array Value) (below : List Frame) (meth : Method) (c : Code) (A : Nat → Prop) (H0 : Heap) (Q : State → Prop) (D : va_G) (K4 : kQ) (ad : Nat → Nat → Nat) (nr nL : Nat) (pc : Nat) (lv : List (Nat × Value)) (st : List Value) (H : Hp) : Prop :=
  ∀ (Hh : Heap) (locs : List Loc) (ls : Array Slot), va_P D vwCl (wl K4 ad nr H) Hh → va_D A (wl K4 ad nr H) → va_S A H0 Hh locs → lv_has ls nL lv → W p l e R s m args below meth c Hh locs 0 0 Q (F0 m pc ls st)
/-- a field's link: class number, slot -/
def FL (own : String) (idx ci j : Nat) : Prop := ∃ (C : String) (T : u_T) (N : Nat), vwCl[ci]? = some (C, T, N) ∧ j < N ∧ j < nf ci ∧ (∀ w ∈ u_ws C T N, w ∈ GW) ∧ (Cond.fieldLink own idx (T j).1 (T j).2.1 (T j).2.2.1 ∈ GW ∨ ∃ host, Cond.fieldLinkNest own idx (T j).1 (T j).2.1 (T j).2.2.1 host ∈ NW)
/-- .. of one that is written -/
def FW (own : String) (idx ci j : Nat) (ty : FieldType) : Prop := ∃ (C : String) (T : u_T) (N : Nat) (ty0 : Nat → FieldType), vwCl[ci]? = some (C, T, N) ∧ j < N ∧ j < nf ci ∧ (∀ w ∈ u_ws C T N, w ∈ GW) ∧ (Cond.fieldLink own idx (T j).1 (T j).2.1 (T j).2.2.1 ∈ GW ∨ ∃ host, Cond.fieldLinkNest own idx (T j).1 (T j).2.1 (T j).2.2.1 host ∈ NW) ∧ (∀ k, k < N → parseFieldDescriptor (T k).2.2.1 = some (ty0 k)) ∧ (∀ a, a < N → ∀ b, b < N → a ≠ b → (T a).2.1 ≠ (T b).2.1) ∧ (T j).2.2.2 = false ∧ parseFieldDescriptor (T j).2.2.1 = some ty
/-- the parts of a method's function -/
def gd {α : Type} (i : Int32) (n : Nat) (k : Option α) : Option α := if ¬ i < 0 ∧ i.toNatClampNeg < n then k else none
theorem gd_some {α : Type} {i : Int32} {n : Nat} {k : Option α} {r : α} (h : gd i n k = some r) : vp_in i n ∧ k = some r := by
  unfold gd at h
  split at h
  · rename_i q
    exact ⟨fun u => u.elim q.1 (fun v => absurd q.2 (Nat.not_lt.mpr v)), h⟩
  · cases h
def gb {α : Type} (b : Bool) (k : Option α) : Option α := if b = true then k else none
theorem gb_some {α : Type} {b : Bool} {k : Option α} {r : α} (h : gb b k = some r) : b = true ∧ k = some r := by
  unfold gb at h
  split at h
  · exact ⟨by assumption, h⟩
  · cases h
def bnd {α β : Type} (o : Option (α × Hp)) (f : α → Hp → Option β) : Option β := match o with
  | none => none
  | some (a, h) => f a h
theorem bnd_some {α β : Type} {o : Option (α × Hp)} {f : α → Hp → Option β} {r : β} (h : bnd o f = some r) : ∃ a h', o = some (a, h') ∧ f a h' = some r := by
  unfold bnd at h
  split at h
  · cases h
  · exact ⟨_, _, rfl, h⟩
def nn {β : Type} (nr : Nat) (o : Option Nat) (f : Nat → Option β) : Option β := match o with
  | none => none
  | some r => gb (decide (r < nr)) (f r)
theorem nn_some {β : Type} {nr : Nat} {o : Option Nat} {f : Nat → Option β} {x : β} (h : nn nr o f = some x) : ∃ r, o = some r ∧ r < nr ∧ f r = some x := by
  unfold nn at h
  split at h
  · cases h
  · obtain ⟨a, b⟩ := gb_some h
    exact ⟨_, rfl, of_decide_eq_true a, b⟩
def nz {β : Type} (nr : Nat) (o : Option Nat) (k0 : Option β) (f : Nat → Option β) : Option β := match o with
  | none => k0
  | some r => gb (decide (r < nr)) (f r)
def FU : Nat := 1000000000

section
variable {p : Program} {l : Launch} {e : Env} {R : Room} {s : State} {m : MethodId} {args : Array Value} {below : List Frame} {meth : Method} {c : Code} {A : Nat → Prop} {H0 : Heap} {Q : State → Prop} {D : va_G} {K4 : kQ} {ad : Nat → Nat → Nat} {nr nL : Nat} {own : String} {cc : ByteArray} {pc : Nat} {lv lv' : List (Nat × Value)} {st : List Value} {H : Hp}
theorem V_iconst (hC : Cx p s m args c A H0 D K4 nL own cc) {n : Int} {v : Int32} (hdg : decode cc pc = .ok (.iconst n, 1)) (hv : Int32.ofInt n = v) (kk : V p l e R s m args below meth c A H0 Q D K4 ad nr nL (pc + 1) lv (.int v :: st) H) : V p l e R s m args below meth c A H0 Q D K4 ad nr nL pc lv (st) H :=
  fun Hh locs ls hP hD hS hl => lv_iconst hC.1 hC.2.1 hdg hv (kk Hh locs ls hP hD hS hl)
theorem V_bipush (hC : Cx p s m args c A H0 D K4 nL own cc) {n : Int} {v : Int32} (hdg : decode cc pc = .ok (.bipush n, 2)) (hv : (Int8.ofInt n).toInt32 = v) (kk : V p l e R s m args below meth c A H0 Q D K4 ad nr nL (pc + 2) lv (.int v :: st) H) : V p l e R s m args below meth c A H0 Q D K4 ad nr nL pc lv (st) H :=
  fun Hh locs ls hP hD hS hl => lv_bipush hC.1 hC.2.1 hdg hv (kk Hh locs ls hP hD hS hl)
theorem V_sipush (hC : Cx p s m args c A H0 D K4 nL own cc) {n : Int} {v : Int32} (hdg : decode cc pc = .ok (.sipush n, 3)) (hv : (Int16.ofInt n).toInt32 = v) (kk : V p l e R s m args below meth c A H0 Q D K4 ad nr nL (pc + 3) lv (.int v :: st) H) : V p l e R s m args below meth c A H0 Q D K4 ad nr nL pc lv (st) H :=
  fun Hh locs ls hP hD hS hl => lv_sipush hC.1 hC.2.1 hdg hv (kk Hh locs ls hP hD hS hl)
theorem V_lconst (hC : Cx p s m args c A H0 D K4 nL own cc) {n : Fin 2} {v : Int64} (hdg : decode cc pc = .ok (.lconst n, 1)) (hv : Int64.ofNat (n : Nat) = v) (kk : V p l e R s m args below meth c A H0 Q D K4 ad nr nL (pc + 1) lv (.long v :: st) H) : V p l e R s m args below meth c A H0 Q D K4 ad nr nL pc lv (st) H :=
  fun Hh locs ls hP hD hS hl => lv_lconst hC.1 hC.2.1 hdg hv (kk Hh locs ls hP hD hS hl)
theorem V_ldc (hC : Cx p s m args c A H0 D K4 nL own cc) {n : Nat} {v : Int32} (hdg : decode cc pc = .ok (.ldc n, 2)) (hw : Cond.constant own n v ∈ GW) (kk : V p l e R s m args below meth c A H0 Q D K4 ad nr nL (pc + 2) lv (.int v :: st) H) : V p l e R s m args below meth c A H0 Q D K4 ad nr nL pc lv (st) H :=
  fun Hh locs ls hP hD hS hl => lv_ldc hC.1 hC.2.1 hC.2.2.2.1 (hC.2.2.2.2.1 _ hw) hdg (kk Hh locs ls hP hD hS hl)
theorem V_ldc2 (hC : Cx p s m args c A H0 D K4 nL own cc) {n : Nat} {v : Int64} (hdg : decode cc pc = .ok (.ldc2_w n, 3)) (hw : Cond.constantLong own n v ∈ GW) (kk : V p l e R s m args below meth c A H0 Q D K4 ad nr nL (pc + 3) lv (.long v :: st) H) : V p l e R s m args below meth c A H0 Q D K4 ad nr nL pc lv (st) H :=
  fun Hh locs ls hP hD hS hl => lv_ldc2 hC.1 hC.2.1 hC.2.2.2.1 (hC.2.2.2.2.1 _ hw) hdg (kk Hh locs ls hP hD hS hl)
theorem V_iload_n (hC : Cx p s m args c A H0 D K4 nL own cc) {i : Fin 4} {x : Int32} (k : Nat) (hdg : decode cc pc = .ok (.iload_n i, 1)) (hv : lv[k]? = some ((i : Nat), .int x)) (kk : V p l e R s m args below meth c A H0 Q D K4 ad nr nL (pc + 1) lv (.int x :: st) H) : V p l e R s m args below meth c A H0 Q D K4 ad nr nL pc lv (st) H :=
  fun Hh locs ls hP hD hS hl => lv_iload_n hC.1 hC.2.1 hdg rfl (lv_at hl k hv) (kk Hh locs ls hP hD hS hl)
theorem V_iload (hC : Cx p s m args c A H0 D K4 nL own cc) {i : Nat} {x : Int32} (k : Nat) (hdg : decode cc pc = .ok (.iload i, 2)) (hv : lv[k]? = some (i, .int x)) (kk : V p l e R s m args below meth c A H0 Q D K4 ad nr nL (pc + 2) lv (.int x :: st) H) : V p l e R s m args below meth c A H0 Q D K4 ad nr nL pc lv (st) H :=
  fun Hh locs ls hP hD hS hl => lv_iload hC.1 hC.2.1 hdg (lv_at hl k hv) (kk Hh locs ls hP hD hS hl)
theorem V_istore_n (hC : Cx p s m args c A H0 D K4 nL own cc) {i : Fin 4} {x : Int32} (hdg : decode cc pc = .ok (.istore_n i, 1)) (hn : (i : Nat) < nL) (hl' : ((i : Nat), Value.int x) :: lv.filter (fun q => !(q.1 == (i : Nat)) && !(q.1 + 1 == (i : Nat) && q.2.category == 2)) = lv') (kk : V p l e R s m args below meth c A H0 Q D K4 ad nr nL (pc + 1) lv' st H) : V p l e R s m args below meth c A H0 Q D K4 ad nr nL pc lv (.int x :: st) H :=
  fun Hh locs ls hP hD hS hl => lv_istore_n hC.1 hC.2.1 hdg rfl hl hn hl' (fun ls' hl2 => kk Hh locs ls' hP hD hS hl2)
theorem V_istore (hC : Cx p s m args c A H0 D K4 nL own cc) {i : Nat} {x : Int32} (hdg : decode cc pc = .ok (.istore i, 2)) (hn : (i : Nat) < nL) (hl' : ((i : Nat), Value.int x) :: lv.filter (fun q => !(q.1 == (i : Nat)) && !(q.1 + 1 == (i : Nat) && q.2.category == 2)) = lv') (kk : V p l e R s m args below meth c A H0 Q D K4 ad nr nL (pc + 2) lv' st H) : V p l e R s m args below meth c A H0 Q D K4 ad nr nL pc lv (.int x :: st) H :=
  fun Hh locs ls hP hD hS hl => lv_istore hC.1 hC.2.1 hdg hl hn hl' (fun ls' hl2 => kk Hh locs ls' hP hD hS hl2)
theorem V_lload_n (hC : Cx p s m args c A H0 D K4 nL own cc) {i : Fin 4} {x : Int64} (k : Nat) (hdg : decode cc pc = .ok (.lload_n i, 1)) (hv : lv[k]? = some ((i : Nat), .long x)) (kk : V p l e R s m args below meth c A H0 Q D K4 ad nr nL (pc + 1) lv (.long x :: st) H) : V p l e R s m args below meth c A H0 Q D K4 ad nr nL pc lv (st) H :=
  fun Hh locs ls hP hD hS hl => lv_lload_n hC.1 hC.2.1 hdg rfl (lv_at hl k hv) (kk Hh locs ls hP hD hS hl)
theorem V_lload (hC : Cx p s m args c A H0 D K4 nL own cc) {i : Nat} {x : Int64} (k : Nat) (hdg : decode cc pc = .ok (.lload i, 2)) (hv : lv[k]? = some (i, .long x)) (kk : V p l e R s m args below meth c A H0 Q D K4 ad nr nL (pc + 2) lv (.long x :: st) H) : V p l e R s m args below meth c A H0 Q D K4 ad nr nL pc lv (st) H :=
  fun Hh locs ls hP hD hS hl => lv_lload hC.1 hC.2.1 hdg (lv_at hl k hv) (kk Hh locs ls hP hD hS hl)
theorem V_lstore_n (hC : Cx p s m args c A H0 D K4 nL own cc) {i : Fin 4} {x : Int64} (hdg : decode cc pc = .ok (.lstore_n i, 1)) (hn : (i : Nat) + 1 < nL) (hl' : ((i : Nat), Value.long x) :: lv.filter (fun q => !(q.1 == (i : Nat)) && (!(q.1 == (i : Nat) + 1) && !(q.1 + 1 == (i : Nat) && q.2.category == 2))) = lv') (kk : V p l e R s m args below meth c A H0 Q D K4 ad nr nL (pc + 1) lv' st H) : V p l e R s m args below meth c A H0 Q D K4 ad nr nL pc lv (.long x :: st) H :=
  fun Hh locs ls hP hD hS hl => lv_lstore_n hC.1 hC.2.1 hdg rfl hl hn hl' (fun ls' hl2 => kk Hh locs ls' hP hD hS hl2)
theorem V_lstore (hC : Cx p s m args c A H0 D K4 nL own cc) {i : Nat} {x : Int64} (hdg : decode cc pc = .ok (.lstore i, 2)) (hn : (i : Nat) + 1 < nL) (hl' : ((i : Nat), Value.long x) :: lv.filter (fun q => !(q.1 == (i : Nat)) && (!(q.1 == (i : Nat) + 1) && !(q.1 + 1 == (i : Nat) && q.2.category == 2))) = lv') (kk : V p l e R s m args below meth c A H0 Q D K4 ad nr nL (pc + 2) lv' st H) : V p l e R s m args below meth c A H0 Q D K4 ad nr nL pc lv (.long x :: st) H :=
  fun Hh locs ls hP hD hS hl => lv_lstore hC.1 hC.2.1 hdg hl hn hl' (fun ls' hl2 => kk Hh locs ls' hP hD hS hl2)
theorem V_aload_n (hC : Cx p s m args c A H0 D K4 nL own cc) {i : Fin 4} {x : Nat} (k : Nat) (hdg : decode cc pc = .ok (.aload_n i, 1)) (hv : lv[k]? = some ((i : Nat), .ref x)) (kk : V p l e R s m args below meth c A H0 Q D K4 ad nr nL (pc + 1) lv (.ref x :: st) H) : V p l e R s m args below meth c A H0 Q D K4 ad nr nL pc lv (st) H :=
  fun Hh locs ls hP hD hS hl => lv_aload_n hC.1 hC.2.1 hdg rfl (lv_at hl k hv) (kk Hh locs ls hP hD hS hl)
theorem V_aload (hC : Cx p s m args c A H0 D K4 nL own cc) {i : Nat} {x : Nat} (k : Nat) (hdg : decode cc pc = .ok (.aload i, 2)) (hv : lv[k]? = some (i, .ref x)) (kk : V p l e R s m args below meth c A H0 Q D K4 ad nr nL (pc + 2) lv (.ref x :: st) H) : V p l e R s m args below meth c A H0 Q D K4 ad nr nL pc lv (st) H :=
  fun Hh locs ls hP hD hS hl => lv_aload hC.1 hC.2.1 hdg (lv_at hl k hv) (kk Hh locs ls hP hD hS hl)
theorem V_astore_n (hC : Cx p s m args c A H0 D K4 nL own cc) {i : Fin 4} {x : Nat} (hdg : decode cc pc = .ok (.astore_n i, 1)) (hn : (i : Nat) < nL) (hl' : ((i : Nat), Value.ref x) :: lv.filter (fun q => !(q.1 == (i : Nat)) && !(q.1 + 1 == (i : Nat) && q.2.category == 2)) = lv') (kk : V p l e R s m args below meth c A H0 Q D K4 ad nr nL (pc + 1) lv' st H) : V p l e R s m args below meth c A H0 Q D K4 ad nr nL pc lv (.ref x :: st) H :=
  fun Hh locs ls hP hD hS hl => lv_astore_n hC.1 hC.2.1 hdg rfl hl hn hl' (fun ls' hl2 => kk Hh locs ls' hP hD hS hl2)
theorem V_astore (hC : Cx p s m args c A H0 D K4 nL own cc) {i : Nat} {x : Nat} (hdg : decode cc pc = .ok (.astore i, 2)) (hn : (i : Nat) < nL) (hl' : ((i : Nat), Value.ref x) :: lv.filter (fun q => !(q.1 == (i : Nat)) && !(q.1 + 1 == (i : Nat) && q.2.category == 2)) = lv') (kk : V p l e R s m args below meth c A H0 Q D K4 ad nr nL (pc + 2) lv' st H) : V p l e R s m args below meth c A H0 Q D K4 ad nr nL pc lv (.ref x :: st) H :=
  fun Hh locs ls hP hD hS hl => lv_astore hC.1 hC.2.1 hdg hl hn hl' (fun ls' hl2 => kk Hh locs ls' hP hD hS hl2)
theorem V_iinc (hC : Cx p s m args c A H0 D K4 nL own cc) {i : Nat} {n : Int} {x v : Int32} (k : Nat) (hdg : decode cc pc = .ok (.iinc i n, 3)) (hv : lv[k]? = some (i, .int x)) (hx : x + Int32.ofInt n = v) (hn : i < nL) (hl' : (i, Value.int v) :: lv.filter (fun q => !(q.1 == i) && !(q.1 + 1 == i && q.2.category == 2)) = lv') (kk : V p l e R s m args below meth c A H0 Q D K4 ad nr nL (pc + 3) lv' st H) : V p l e R s m args below meth c A H0 Q D K4 ad nr nL pc lv st H :=
  fun Hh locs ls hP hD hS hl => lv_iinc hC.1 hC.2.1 hdg hl hv hx hn hl' (fun ls' hl2 => kk Hh locs ls' hP hD hS hl2)
theorem V_iadd (hC : Cx p s m args c A H0 D K4 nL own cc) {x y : Int32} (hdg : decode cc pc = .ok (.iadd, 1)) (kk : V p l e R s m args below meth c A H0 Q D K4 ad nr nL (pc + 1) lv (.int (x + y) :: st) H) : V p l e R s m args below meth c A H0 Q D K4 ad nr nL pc lv (.int y :: .int x :: st) H :=
  fun Hh locs ls hP hD hS hl => lv_iadd hC.1 hC.2.1 hdg (kk Hh locs ls hP hD hS hl)
theorem V_isub (hC : Cx p s m args c A H0 D K4 nL own cc) {x y : Int32} (hdg : decode cc pc = .ok (.isub, 1)) (kk : V p l e R s m args below meth c A H0 Q D K4 ad nr nL (pc + 1) lv (.int (x - y) :: st) H) : V p l e R s m args below meth c A H0 Q D K4 ad nr nL pc lv (.int y :: .int x :: st) H :=
  fun Hh locs ls hP hD hS hl => lv_isub hC.1 hC.2.1 hdg (kk Hh locs ls hP hD hS hl)
theorem V_imul (hC : Cx p s m args c A H0 D K4 nL own cc) {x y : Int32} (hdg : decode cc pc = .ok (.imul, 1)) (kk : V p l e R s m args below meth c A H0 Q D K4 ad nr nL (pc + 1) lv (.int (x * y) :: st) H) : V p l e R s m args below meth c A H0 Q D K4 ad nr nL pc lv (.int y :: .int x :: st) H :=
  fun Hh locs ls hP hD hS hl => lv_imul hC.1 hC.2.1 hdg (kk Hh locs ls hP hD hS hl)
theorem V_iand (hC : Cx p s m args c A H0 D K4 nL own cc) {x y : Int32} (hdg : decode cc pc = .ok (.iand, 1)) (kk : V p l e R s m args below meth c A H0 Q D K4 ad nr nL (pc + 1) lv (.int (x &&& y) :: st) H) : V p l e R s m args below meth c A H0 Q D K4 ad nr nL pc lv (.int y :: .int x :: st) H :=
  fun Hh locs ls hP hD hS hl => lv_iand hC.1 hC.2.1 hdg (kk Hh locs ls hP hD hS hl)
theorem V_ior (hC : Cx p s m args c A H0 D K4 nL own cc) {x y : Int32} (hdg : decode cc pc = .ok (.ior, 1)) (kk : V p l e R s m args below meth c A H0 Q D K4 ad nr nL (pc + 1) lv (.int (x ||| y) :: st) H) : V p l e R s m args below meth c A H0 Q D K4 ad nr nL pc lv (.int y :: .int x :: st) H :=
  fun Hh locs ls hP hD hS hl => lv_ior hC.1 hC.2.1 hdg (kk Hh locs ls hP hD hS hl)
theorem V_ishr (hC : Cx p s m args c A H0 D K4 nL own cc) {x y : Int32} (hdg : decode cc pc = .ok (.ishr, 1)) (kk : V p l e R s m args below meth c A H0 Q D K4 ad nr nL (pc + 1) lv (.int (x >>> (y &&& 31)) :: st) H) : V p l e R s m args below meth c A H0 Q D K4 ad nr nL pc lv (.int y :: .int x :: st) H :=
  fun Hh locs ls hP hD hS hl => lv_ishr hC.1 hC.2.1 hdg (kk Hh locs ls hP hD hS hl)
theorem V_irem (hC : Cx p s m args c A H0 D K4 nL own cc) {x y : Int32} (hdg : decode cc pc = .ok (.irem, 1)) (hz : ¬ y = 0) (kk : V p l e R s m args below meth c A H0 Q D K4 ad nr nL (pc + 1) lv (.int (x - x / y * y) :: st) H) : V p l e R s m args below meth c A H0 Q D K4 ad nr nL pc lv (.int y :: .int x :: st) H :=
  fun Hh locs ls hP hD hS hl => lv_irem hC.1 hC.2.1 hdg hz (kk Hh locs ls hP hD hS hl)
theorem V_ineg (hC : Cx p s m args c A H0 D K4 nL own cc) {x : Int32} (hdg : decode cc pc = .ok (.ineg, 1)) (kk : V p l e R s m args below meth c A H0 Q D K4 ad nr nL (pc + 1) lv (.int (-x) :: st) H) : V p l e R s m args below meth c A H0 Q D K4 ad nr nL pc lv (.int x :: st) H :=
  fun Hh locs ls hP hD hS hl => lv_ineg hC.1 hC.2.1 hdg (kk Hh locs ls hP hD hS hl)
theorem V_ladd (hC : Cx p s m args c A H0 D K4 nL own cc) {x y : Int64} (hdg : decode cc pc = .ok (.ladd, 1)) (kk : V p l e R s m args below meth c A H0 Q D K4 ad nr nL (pc + 1) lv (.long (x + y) :: st) H) : V p l e R s m args below meth c A H0 Q D K4 ad nr nL pc lv (.long y :: .long x :: st) H :=
  fun Hh locs ls hP hD hS hl => lv_ladd hC.1 hC.2.1 hdg (kk Hh locs ls hP hD hS hl)
theorem V_lsub (hC : Cx p s m args c A H0 D K4 nL own cc) {x y : Int64} (hdg : decode cc pc = .ok (.lsub, 1)) (kk : V p l e R s m args below meth c A H0 Q D K4 ad nr nL (pc + 1) lv (.long (x - y) :: st) H) : V p l e R s m args below meth c A H0 Q D K4 ad nr nL pc lv (.long y :: .long x :: st) H :=
  fun Hh locs ls hP hD hS hl => lv_lsub hC.1 hC.2.1 hdg (kk Hh locs ls hP hD hS hl)
theorem V_lmul (hC : Cx p s m args c A H0 D K4 nL own cc) {x y : Int64} (hdg : decode cc pc = .ok (.lmul, 1)) (kk : V p l e R s m args below meth c A H0 Q D K4 ad nr nL (pc + 1) lv (.long (x * y) :: st) H) : V p l e R s m args below meth c A H0 Q D K4 ad nr nL pc lv (.long y :: .long x :: st) H :=
  fun Hh locs ls hP hD hS hl => lv_lmul hC.1 hC.2.1 hdg (kk Hh locs ls hP hD hS hl)
theorem V_land (hC : Cx p s m args c A H0 D K4 nL own cc) {x y : Int64} (hdg : decode cc pc = .ok (.land, 1)) (kk : V p l e R s m args below meth c A H0 Q D K4 ad nr nL (pc + 1) lv (.long (x &&& y) :: st) H) : V p l e R s m args below meth c A H0 Q D K4 ad nr nL pc lv (.long y :: .long x :: st) H :=
  fun Hh locs ls hP hD hS hl => lv_land hC.1 hC.2.1 hdg (kk Hh locs ls hP hD hS hl)
theorem V_lor (hC : Cx p s m args c A H0 D K4 nL own cc) {x y : Int64} (hdg : decode cc pc = .ok (.lor, 1)) (kk : V p l e R s m args below meth c A H0 Q D K4 ad nr nL (pc + 1) lv (.long (x ||| y) :: st) H) : V p l e R s m args below meth c A H0 Q D K4 ad nr nL pc lv (.long y :: .long x :: st) H :=
  fun Hh locs ls hP hD hS hl => lv_lor hC.1 hC.2.1 hdg (kk Hh locs ls hP hD hS hl)
theorem V_lneg (hC : Cx p s m args c A H0 D K4 nL own cc) {x : Int64} (hdg : decode cc pc = .ok (.lneg, 1)) (kk : V p l e R s m args below meth c A H0 Q D K4 ad nr nL (pc + 1) lv (.long (-x) :: st) H) : V p l e R s m args below meth c A H0 Q D K4 ad nr nL pc lv (.long x :: st) H :=
  fun Hh locs ls hP hD hS hl => lv_lneg hC.1 hC.2.1 hdg (kk Hh locs ls hP hD hS hl)
theorem V_i2l (hC : Cx p s m args c A H0 D K4 nL own cc) {x : Int32} (hdg : decode cc pc = .ok (.i2l, 1)) (kk : V p l e R s m args below meth c A H0 Q D K4 ad nr nL (pc + 1) lv (.long x.toInt64 :: st) H) : V p l e R s m args below meth c A H0 Q D K4 ad nr nL pc lv (.int x :: st) H :=
  fun Hh locs ls hP hD hS hl => lv_i2l hC.1 hC.2.1 hdg rfl (kk Hh locs ls hP hD hS hl)
theorem V_lcmp (hC : Cx p s m args c A H0 D K4 nL own cc) {x y : Int64} (hdg : decode cc pc = .ok (.lcmp, 1)) (kk : V p l e R s m args below meth c A H0 Q D K4 ad nr nL (pc + 1) lv (.int (lg_cmp x y) :: st) H) : V p l e R s m args below meth c A H0 Q D K4 ad nr nL pc lv (.long y :: .long x :: st) H :=
  fun Hh locs ls hP hD hS hl => W.lcmp hC.1 hC.2.1 hdg (kk Hh locs ls hP hD hS hl)
theorem V_dup (hC : Cx p s m args c A H0 D K4 nL own cc) {v : Value} (hdg : decode cc pc = .ok (.dup, 1)) (hc : v.category = 1) (kk : V p l e R s m args below meth c A H0 Q D K4 ad nr nL (pc + 1) lv (v :: v :: st) H) : V p l e R s m args below meth c A H0 Q D K4 ad nr nL pc lv (v :: st) H :=
  fun Hh locs ls hP hD hS hl => lv_dup hC.1 hC.2.1 hdg hc (kk Hh locs ls hP hD hS hl)
theorem V_pop (hC : Cx p s m args c A H0 D K4 nL own cc) {v : Value} (hdg : decode cc pc = .ok (.pop, 1)) (hc : v.category = 1) (kk : V p l e R s m args below meth c A H0 Q D K4 ad nr nL (pc + 1) lv (st) H) : V p l e R s m args below meth c A H0 Q D K4 ad nr nL pc lv (v :: st) H :=
  fun Hh locs ls hP hD hS hl => lv_pop hC.1 hC.2.1 hdg hc (kk Hh locs ls hP hD hS hl)
theorem V_dup2 (hC : Cx p s m args c A H0 D K4 nL own cc) {u v : Value} (hdg : decode cc pc = .ok (.dup2, 1)) (hu : u.category = 1) (hv : v.category = 1) (kk : V p l e R s m args below meth c A H0 Q D K4 ad nr nL (pc + 1) lv (u :: v :: u :: v :: st) H) : V p l e R s m args below meth c A H0 Q D K4 ad nr nL pc lv (u :: v :: st) H :=
  fun Hh locs ls hP hD hS hl => lv_dup2_11 hC.1 hC.2.1 hdg hu hv (kk Hh locs ls hP hD hS hl)
theorem V_if_eq (hC : Cx p s m args c A H0 D K4 nL own cc) {x : Int32} {off : Int} {tgt : Nat} (hdg : decode cc pc = .ok (.ifCond .eq off, 3)) (ht : (pc : Int) + off = (tgt : Int)) (kt : x = 0 → V p l e R s m args below meth c A H0 Q D K4 ad nr nL tgt lv st H) (kf : ¬ (x = 0) → V p l e R s m args below meth c A H0 Q D K4 ad nr nL (pc + 3) lv st H) : V p l e R s m args below meth c A H0 Q D K4 ad nr nL pc lv (.int x :: st) H :=
  fun Hh locs ls hP hD hS hl => lv_if_eq hC.1 hC.2.1 hdg ht (fun h => kt h Hh locs ls hP hD hS hl) (fun h => kf h Hh locs ls hP hD hS hl)
theorem V_icmp_eq (hC : Cx p s m args c A H0 D K4 nL own cc) {x y : Int32} {off : Int} {tgt : Nat} (hdg : decode cc pc = .ok (.if_icmp .eq off, 3)) (ht : (pc : Int) + off = (tgt : Int)) (kt : x = y → V p l e R s m args below meth c A H0 Q D K4 ad nr nL tgt lv st H) (kf : ¬ (x = y) → V p l e R s m args below meth c A H0 Q D K4 ad nr nL (pc + 3) lv st H) : V p l e R s m args below meth c A H0 Q D K4 ad nr nL pc lv (.int y :: .int x :: st) H :=
  fun Hh locs ls hP hD hS hl => lv_icmp_eq hC.1 hC.2.1 hdg ht (fun h => kt h Hh locs ls hP hD hS hl) (fun h => kf h Hh locs ls hP hD hS hl)
theorem V_if_ne (hC : Cx p s m args c A H0 D K4 nL own cc) {x : Int32} {off : Int} {tgt : Nat} (hdg : decode cc pc = .ok (.ifCond .ne off, 3)) (ht : (pc : Int) + off = (tgt : Int)) (kt : ¬ x = 0 → V p l e R s m args below meth c A H0 Q D K4 ad nr nL tgt lv st H) (kf : x = 0 → V p l e R s m args below meth c A H0 Q D K4 ad nr nL (pc + 3) lv st H) : V p l e R s m args below meth c A H0 Q D K4 ad nr nL pc lv (.int x :: st) H :=
  fun Hh locs ls hP hD hS hl => lv_if_ne hC.1 hC.2.1 hdg ht (fun h => kt h Hh locs ls hP hD hS hl) (fun h => kf h Hh locs ls hP hD hS hl)
theorem V_icmp_ne (hC : Cx p s m args c A H0 D K4 nL own cc) {x y : Int32} {off : Int} {tgt : Nat} (hdg : decode cc pc = .ok (.if_icmp .ne off, 3)) (ht : (pc : Int) + off = (tgt : Int)) (kt : ¬ x = y → V p l e R s m args below meth c A H0 Q D K4 ad nr nL tgt lv st H) (kf : x = y → V p l e R s m args below meth c A H0 Q D K4 ad nr nL (pc + 3) lv st H) : V p l e R s m args below meth c A H0 Q D K4 ad nr nL pc lv (.int y :: .int x :: st) H :=
  fun Hh locs ls hP hD hS hl => lv_icmp_ne hC.1 hC.2.1 hdg ht (fun h => kt h Hh locs ls hP hD hS hl) (fun h => kf h Hh locs ls hP hD hS hl)
theorem V_if_lt (hC : Cx p s m args c A H0 D K4 nL own cc) {x : Int32} {off : Int} {tgt : Nat} (hdg : decode cc pc = .ok (.ifCond .lt off, 3)) (ht : (pc : Int) + off = (tgt : Int)) (kt : x < 0 → V p l e R s m args below meth c A H0 Q D K4 ad nr nL tgt lv st H) (kf : ¬ (x < 0) → V p l e R s m args below meth c A H0 Q D K4 ad nr nL (pc + 3) lv st H) : V p l e R s m args below meth c A H0 Q D K4 ad nr nL pc lv (.int x :: st) H :=
  fun Hh locs ls hP hD hS hl => lv_if_lt hC.1 hC.2.1 hdg ht (fun h => kt h Hh locs ls hP hD hS hl) (fun h => kf h Hh locs ls hP hD hS hl)
theorem V_icmp_lt (hC : Cx p s m args c A H0 D K4 nL own cc) {x y : Int32} {off : Int} {tgt : Nat} (hdg : decode cc pc = .ok (.if_icmp .lt off, 3)) (ht : (pc : Int) + off = (tgt : Int)) (kt : x < y → V p l e R s m args below meth c A H0 Q D K4 ad nr nL tgt lv st H) (kf : ¬ (x < y) → V p l e R s m args below meth c A H0 Q D K4 ad nr nL (pc + 3) lv st H) : V p l e R s m args below meth c A H0 Q D K4 ad nr nL pc lv (.int y :: .int x :: st) H :=
  fun Hh locs ls hP hD hS hl => lv_icmp_lt hC.1 hC.2.1 hdg ht (fun h => kt h Hh locs ls hP hD hS hl) (fun h => kf h Hh locs ls hP hD hS hl)
theorem V_if_ge (hC : Cx p s m args c A H0 D K4 nL own cc) {x : Int32} {off : Int} {tgt : Nat} (hdg : decode cc pc = .ok (.ifCond .ge off, 3)) (ht : (pc : Int) + off = (tgt : Int)) (kt : 0 ≤ x → V p l e R s m args below meth c A H0 Q D K4 ad nr nL tgt lv st H) (kf : ¬ (0 ≤ x) → V p l e R s m args below meth c A H0 Q D K4 ad nr nL (pc + 3) lv st H) : V p l e R s m args below meth c A H0 Q D K4 ad nr nL pc lv (.int x :: st) H :=
  fun Hh locs ls hP hD hS hl => lv_if_ge hC.1 hC.2.1 hdg ht (fun h => kt h Hh locs ls hP hD hS hl) (fun h => kf h Hh locs ls hP hD hS hl)
theorem V_icmp_ge (hC : Cx p s m args c A H0 D K4 nL own cc) {x y : Int32} {off : Int} {tgt : Nat} (hdg : decode cc pc = .ok (.if_icmp .ge off, 3)) (ht : (pc : Int) + off = (tgt : Int)) (kt : y ≤ x → V p l e R s m args below meth c A H0 Q D K4 ad nr nL tgt lv st H) (kf : ¬ (y ≤ x) → V p l e R s m args below meth c A H0 Q D K4 ad nr nL (pc + 3) lv st H) : V p l e R s m args below meth c A H0 Q D K4 ad nr nL pc lv (.int y :: .int x :: st) H :=
  fun Hh locs ls hP hD hS hl => lv_icmp_ge hC.1 hC.2.1 hdg ht (fun h => kt h Hh locs ls hP hD hS hl) (fun h => kf h Hh locs ls hP hD hS hl)
theorem V_if_gt (hC : Cx p s m args c A H0 D K4 nL own cc) {x : Int32} {off : Int} {tgt : Nat} (hdg : decode cc pc = .ok (.ifCond .gt off, 3)) (ht : (pc : Int) + off = (tgt : Int)) (kt : 0 < x → V p l e R s m args below meth c A H0 Q D K4 ad nr nL tgt lv st H) (kf : ¬ (0 < x) → V p l e R s m args below meth c A H0 Q D K4 ad nr nL (pc + 3) lv st H) : V p l e R s m args below meth c A H0 Q D K4 ad nr nL pc lv (.int x :: st) H :=
  fun Hh locs ls hP hD hS hl => lv_if_gt hC.1 hC.2.1 hdg ht (fun h => kt h Hh locs ls hP hD hS hl) (fun h => kf h Hh locs ls hP hD hS hl)
theorem V_icmp_gt (hC : Cx p s m args c A H0 D K4 nL own cc) {x y : Int32} {off : Int} {tgt : Nat} (hdg : decode cc pc = .ok (.if_icmp .gt off, 3)) (ht : (pc : Int) + off = (tgt : Int)) (kt : y < x → V p l e R s m args below meth c A H0 Q D K4 ad nr nL tgt lv st H) (kf : ¬ (y < x) → V p l e R s m args below meth c A H0 Q D K4 ad nr nL (pc + 3) lv st H) : V p l e R s m args below meth c A H0 Q D K4 ad nr nL pc lv (.int y :: .int x :: st) H :=
  fun Hh locs ls hP hD hS hl => lv_icmp_gt hC.1 hC.2.1 hdg ht (fun h => kt h Hh locs ls hP hD hS hl) (fun h => kf h Hh locs ls hP hD hS hl)
theorem V_if_le (hC : Cx p s m args c A H0 D K4 nL own cc) {x : Int32} {off : Int} {tgt : Nat} (hdg : decode cc pc = .ok (.ifCond .le off, 3)) (ht : (pc : Int) + off = (tgt : Int)) (kt : x ≤ 0 → V p l e R s m args below meth c A H0 Q D K4 ad nr nL tgt lv st H) (kf : ¬ (x ≤ 0) → V p l e R s m args below meth c A H0 Q D K4 ad nr nL (pc + 3) lv st H) : V p l e R s m args below meth c A H0 Q D K4 ad nr nL pc lv (.int x :: st) H :=
  fun Hh locs ls hP hD hS hl => lv_if_le hC.1 hC.2.1 hdg ht (fun h => kt h Hh locs ls hP hD hS hl) (fun h => kf h Hh locs ls hP hD hS hl)
theorem V_icmp_le (hC : Cx p s m args c A H0 D K4 nL own cc) {x y : Int32} {off : Int} {tgt : Nat} (hdg : decode cc pc = .ok (.if_icmp .le off, 3)) (ht : (pc : Int) + off = (tgt : Int)) (kt : x ≤ y → V p l e R s m args below meth c A H0 Q D K4 ad nr nL tgt lv st H) (kf : ¬ (x ≤ y) → V p l e R s m args below meth c A H0 Q D K4 ad nr nL (pc + 3) lv st H) : V p l e R s m args below meth c A H0 Q D K4 ad nr nL pc lv (.int y :: .int x :: st) H :=
  fun Hh locs ls hP hD hS hl => lv_icmp_le hC.1 hC.2.1 hdg ht (fun h => kt h Hh locs ls hP hD hS hl) (fun h => kf h Hh locs ls hP hD hS hl)
theorem V_goto (hC : Cx p s m args c A H0 D K4 nL own cc) {off : Int} {tgt : Nat} (hdg : decode cc pc = .ok (.goto off, 3)) (ht : (pc : Int) + off = (tgt : Int)) (kk : V p l e R s m args below meth c A H0 Q D K4 ad nr nL tgt lv st H) : V p l e R s m args below meth c A H0 Q D K4 ad nr nL pc lv st H :=
  fun Hh locs ls hP hD hS hl => lv_goto hC.1 hC.2.1 hdg ht (kk Hh locs ls hP hD hS hl)
theorem V_lv (ks : List Nat) (h : lv_pick lv ks = lv') (kk : V p l e R s m args below meth c A H0 Q D K4 ad nr nL pc lv' st H) : V p l e R s m args below meth c A H0 Q D K4 ad nr nL pc lv st H :=
  fun Hh locs ls hP hD hS hl => kk Hh locs ls hP hD hS (lv_sub hl ks h)
theorem V_get (hC : Cx p s m args c A H0 D K4 nL own cc) {g k idx ci j : Nat} {v : Value} (hF : FL own idx ci j) (hok : okn nr g k = true) (hk : (kd g k).1 = ci + 4) (hv : fv ad H g k ci j = v) (hdg : decode cc pc = .ok (.getfield idx, 3)) (kk : V p l e R s m args below meth c A H0 Q D K4 ad nr nL (pc + 3) lv (v :: st) H) : V p l e R s m args below meth c A H0 Q D K4 ad nr nL pc lv (.ref (ad g k) :: st) H := by
  intro Hh locs ls hP hD hS hl
  obtain ⟨q0, hq, -⟩ := wl_get (K4 := K4) (ad := ad) (H := H) hok
  have hc : cel K4 ad H g k = .inr (ci, fls ad H g k ci) := by unfold cel; rw [hk]
  rw [hc] at hq
  obtain ⟨C, T, N, h1, h2, h2', h3, h4⟩ := hF
  have hv' : (fls ad H g k ci)[j]? = some v := by
    unfold fls
    rw [List.getElem?_map, List.getElem?_range h2']
    exact congrArg some hv
  rcases h4 with h4 | ⟨host, h4⟩
  · exact va_get hC.1 hC.2.1 hC.2.2.2.2.1 h3 hC.2.2.2.1 hC.2.2.2.2.2.1 hP q0 hq h1 j h2 (hC.2.2.2.2.1 _ h4) (fun x h => h) hv' hdg (kk Hh locs ls hP hD hS hl)
  · exact va_getN hC.1 hC.2.1 hC.2.2.2.2.1 h3 hC.2.2.2.1 hC.2.2.2.2.2.1 hP q0 hq h1 j h2 (va_Nw.use (A := args) rfl (hC.2.2.2.2.2.2.1 _ h4)) (fun x h => h) hv' hdg (kk Hh locs ls hP hD hS hl)
theorem V_getI (hC : Cx p s m args c A H0 D K4 nL own cc) {g k idx : Nat} (ci j : Nat) (hF : FL own idx ci j) (hok : okn nr g k = true) (hk : (kd g k).1 = ci + 4) (ht : fty ci j = 0) (hdg : decode cc pc = .ok (.getfield idx, 3)) (kk : V p l e R s m args below meth c A H0 Q D K4 ad nr nL (pc + 3) lv (.int (gI H g k j) :: st) H) : V p l e R s m args below meth c A H0 Q D K4 ad nr nL pc lv (.ref (ad g k) :: st) H :=
  V_get hC hF hok hk (by unfold fv; rw [ht]; rfl) hdg kk
theorem V_getJ (hC : Cx p s m args c A H0 D K4 nL own cc) {g k idx : Nat} (ci j : Nat) (hF : FL own idx ci j) (hok : okn nr g k = true) (hk : (kd g k).1 = ci + 4) (ht : fty ci j = 1) (hdg : decode cc pc = .ok (.getfield idx, 3)) (kk : V p l e R s m args below meth c A H0 Q D K4 ad nr nL (pc + 3) lv (.long (gJ H g k j) :: st) H) : V p l e R s m args below meth c A H0 Q D K4 ad nr nL pc lv (.ref (ad g k) :: st) H :=
  V_get hC hF hok hk (by unfold fv; rw [ht]; rfl) hdg kk
theorem V_getR (hC : Cx p s m args c A H0 D K4 nL own cc) {g k idx : Nat} (ci j : Nat) {g' k' : Nat} (hF : FL own idx ci j) (hok : okn nr g k = true) (hk : (kd g k).1 = ci + 4) (ht : fty ci j = 2) (hr : rfn g k j = (g', k')) (hdg : decode cc pc = .ok (.getfield idx, 3)) (kk : V p l e R s m args below meth c A H0 Q D K4 ad nr nL (pc + 3) lv (.ref (ad g' k') :: st) H) : V p l e R s m args below meth c A H0 Q D K4 ad nr nL pc lv (.ref (ad g k) :: st) H :=
  V_get hC hF hok hk (by unfold fv; rw [ht, hr]; rfl) hdg kk
theorem V_put (hC : Cx p s m args c A H0 D K4 nL own cc) {g k idx ci j : Nat} {v : Value} {ty : FieldType} {H' : Hp} (hF : FW own idx ci j ty) (hok : okn nr g k = true) (hk : (kd g k).1 = ci + 4) (hs : ∀ g' k', (g', k') ≠ (g, k) → cel K4 ad H' g' k' = cel K4 ad H g' k') (hv : fv ad H' g k ci j = v) (ho : ∀ i, i ≠ j → fv ad H' g k ci i = fv ad H g k ci i) (hn : narrow ty v = v) (hfit : fits ty v = true) (hdg : decode cc pc = .ok (.putfield idx, 3)) (kk : V p l e R s m args below meth c A H0 Q D K4 ad nr nL (pc + 3) lv st H') : V p l e R s m args below meth c A H0 Q D K4 ad nr nL pc lv (v :: .ref (ad g k) :: st) H := by
  intro Hh locs ls hP hD hS hl
  obtain ⟨q0, hq, hq2⟩ := wl_get (K4 := K4) (ad := ad) (H := H) hok
  have hc : cel K4 ad H g k = .inr (ci, fls ad H g k ci) := by unfold cel; rw [hk]
  have hc' : cel K4 ad H' g k = .inr (ci, (fls ad H g k ci).set j v) := by
    have h0 : (fls ad H g k ci).set j v = fls ad H' g k ci := rng_set _ _ _ j v hv ho
    rw [h0]; unfold cel; rw [hk]
  rw [hc] at hq
  obtain ⟨C, T, N, ty0, h1, h2, h2', h3, h4, h5, h6, h7, h8⟩ := hF
  have hlen : j < (fls ad H g k ci).length := by unfold fls; rw [List.length_map, List.length_range]; exact h2'
  have hw := wl_set hD hq2 hs hc'
  rcases h4 with h4 | ⟨host, h4⟩
  · refine va_put hC.1 hC.2.1 hC.2.2.2.2.1 h3 ty0 h5 h6 hC.2.2.2.1 hC.2.2.2.2.2.1 hP hD hS q0 hq h1 j h2 (hC.2.2.2.2.1 _ h4) (fun x h => h) h7 h8 hn hfit hlen hdg (fun H1 locs1 a1 a2 a3 => ?_)
    rw [hw] at a1 a2
    exact kk H1 locs1 ls a1 a2 a3 hl
  · refine va_putN hC.1 hC.2.1 hC.2.2.2.2.1 h3 ty0 h5 h6 hC.2.2.2.1 hC.2.2.2.2.2.1 hP hD hS q0 hq h1 j h2 (va_Nw.use (A := args) rfl (hC.2.2.2.2.2.2.1 _ h4)) (fun x h => h) h7 h8 hn hfit hlen hdg (fun H1 locs1 a1 a2 a3 => ?_)
    rw [hw] at a1 a2
    exact kk H1 locs1 ls a1 a2 a3 hl
theorem V_putI (hC : Cx p s m args c A H0 D K4 nL own cc) {g k idx : Nat} (ci j : Nat) {x : Int32} (ty : FieldType) (hF : FW own idx ci j ty) (hok : okn nr g k = true) (hk : (kd g k).1 = ci + 4) (ht : fty ci j = 0) (hn : narrow ty (.int x) = .int x) (hfit : fits ty (.int x) = true) (hdg : decode cc pc = .ok (.putfield idx, 3)) (kk : V p l e R s m args below meth c A H0 Q D K4 ad nr nL (pc + 3) lv st (sI H g k j x)) : V p l e R s m args below meth c A H0 Q D K4 ad nr nL pc lv (.int x :: .ref (ad g k) :: st) H := by
  refine V_put hC hF hok hk cel_sI ?_ ?_ hn hfit hdg kk
  · unfold fv; rw [ht, sI_row]; show Value.int (upd (H.1 g k) j x j) = _; unfold upd; rw [if_pos rfl]
  · intro i hi
    unfold fv; rw [sI_row]; unfold upd; rw [if_neg hi]; rfl
theorem V_putJ (hC : Cx p s m args c A H0 D K4 nL own cc) {g k idx : Nat} (ci j : Nat) {x : Int64} (ty : FieldType) (hF : FW own idx ci j ty) (hok : okn nr g k = true) (hk : (kd g k).1 = ci + 4) (ht : fty ci j = 1) (hn : narrow ty (.long x) = .long x) (hfit : fits ty (.long x) = true) (hdg : decode cc pc = .ok (.putfield idx, 3)) (kk : V p l e R s m args below meth c A H0 Q D K4 ad nr nL (pc + 3) lv st (sJ H g k j x)) : V p l e R s m args below meth c A H0 Q D K4 ad nr nL pc lv (.long x :: .ref (ad g k) :: st) H := by
  refine V_put hC hF hok hk cel_sJ ?_ ?_ hn hfit hdg kk
  · unfold fv; rw [ht, sJ_row]; show Value.long (vp_updL (H.2.1 g k) j x j) = _; unfold vp_updL; rw [if_pos rfl]
  · intro i hi
    unfold fv; rw [sJ_row]; unfold vp_updL; rw [if_neg hi]; rfl
theorem V_iald (hC : Cx p s m args c A H0 D K4 nL own cc) {g k n : Nat} {i : Int32} (hok : okn nr g k = true) (hk : kd g k = (0, n)) (hin : vp_in i n) (hdg : decode cc pc = .ok (.iaload, 1)) (kk : V p l e R s m args below meth c A H0 Q D K4 ad nr nL (pc + 1) lv (.int (gI H g k i.toNatClampNeg) :: st) H) : V p l e R s m args below meth c A H0 Q D K4 ad nr nL pc lv (.int i :: .ref (ad g k) :: st) H := by
  intro Hh locs ls hP hD hS hl
  obtain ⟨q0, hq, -⟩ := wl_get (K4 := K4) (ad := ad) (H := H) hok
  have hc : cel K4 ad H g k = .inl (K4.1, n, .inl (H.1 g k)) := by unfold cel; rw [hk]
  rw [hc] at hq
  exact va_iald hC.1 hC.2.1 hC.2.2.2.2.2.1 hP q0 0 hq rfl hin hdg (kk Hh locs ls hP hD hS hl)
theorem V_zald (hC : Cx p s m args c A H0 D K4 nL own cc) {g k n : Nat} {i : Int32} (hok : okn nr g k = true) (hk : kd g k = (2, n)) (hin : vp_in i n) (hdg : decode cc pc = .ok (.baload, 1)) (kk : V p l e R s m args below meth c A H0 Q D K4 ad nr nL (pc + 1) lv (.int (gI H g k i.toNatClampNeg) :: st) H) : V p l e R s m args below meth c A H0 Q D K4 ad nr nL pc lv (.int i :: .ref (ad g k) :: st) H := by
  intro Hh locs ls hP hD hS hl
  obtain ⟨q0, hq, -⟩ := wl_get (K4 := K4) (ad := ad) (H := H) hok
  have hc : cel K4 ad H g k = .inl (K4.2.2.1, n, .inl (H.1 g k)) := by unfold cel; rw [hk]
  rw [hc] at hq
  exact va_zald hC.1 hC.2.1 hC.2.2.2.2.2.1 hP q0 2 hq rfl hin hdg (kk Hh locs ls hP hD hS hl)
theorem V_lald (hC : Cx p s m args c A H0 D K4 nL own cc) {g k n : Nat} {i : Int32} (hok : okn nr g k = true) (hk : kd g k = (1, n)) (hin : vp_in i n) (hdg : decode cc pc = .ok (.laload, 1)) (kk : V p l e R s m args below meth c A H0 Q D K4 ad nr nL (pc + 1) lv (.long (gJ H g k i.toNatClampNeg) :: st) H) : V p l e R s m args below meth c A H0 Q D K4 ad nr nL pc lv (.int i :: .ref (ad g k) :: st) H := by
  intro Hh locs ls hP hD hS hl
  obtain ⟨q0, hq, -⟩ := wl_get (K4 := K4) (ad := ad) (H := H) hok
  have hc : cel K4 ad H g k = .inl (K4.2.1, n, .inr (.inl (H.2.1 g k))) := by unfold cel; rw [hk]
  rw [hc] at hq
  exact va_lald hC.1 hC.2.1 hC.2.2.2.2.2.1 hP q0 1 hq rfl hin hdg (kk Hh locs ls hP hD hS hl)
theorem V_aald (hC : Cx p s m args c A H0 D K4 nL own cc) {g k n : Nat} {i : Int32} (hok : okn nr g k = true) (hk : kd g k = (3, n)) (hin : vp_in i n) (hdg : decode cc pc = .ok (.aaload, 1)) (kk : V p l e R s m args below meth c A H0 Q D K4 ad nr nL (pc + 1) lv (vr ad (gR H g k i.toNatClampNeg) :: st) H) : V p l e R s m args below meth c A H0 Q D K4 ad nr nL pc lv (.int i :: .ref (ad g k) :: st) H := by
  intro Hh locs ls hP hD hS hl
  obtain ⟨q0, hq, -⟩ := wl_get (K4 := K4) (ad := ad) (H := H) hok
  have hc : cel K4 ad H g k = .inl (K4.2.2.2, n, .inr (.inr (.inr (.inr (fun i => (H.2.2 g k i).map (fun r => ad (r + 2) 0)))))) := by unfold cel; rw [hk]
  rw [hc] at hq
  exact va_aldq hC.1 hC.2.1 hC.2.2.2.2.2.1 hP q0 3 hq rfl hin hdg (kk Hh locs ls hP hD hS hl)
theorem V_iast (hC : Cx p s m args c A H0 D K4 nL own cc) {g k n : Nat} {i x : Int32} (hok : okn nr g k = true) (hk : kd g k = (0, n)) (hin : vp_in i n) (hdg : decode cc pc = .ok (.iastore, 1)) (kk : V p l e R s m args below meth c A H0 Q D K4 ad nr nL (pc + 1) lv st (sI H g k i.toNatClampNeg x)) : V p l e R s m args below meth c A H0 Q D K4 ad nr nL pc lv (.int x :: .int i :: .ref (ad g k) :: st) H := by
  intro Hh locs ls hP hD hS hl
  obtain ⟨q0, hq, hq2⟩ := wl_get (K4 := K4) (ad := ad) (H := H) hok
  have hc : cel K4 ad H g k = .inl (K4.1, n, .inl (H.1 g k)) := by unfold cel; rw [hk]
  have hc' : cel K4 ad (sI H g k i.toNatClampNeg x) g k = .inl (K4.1, n, .inl (upd (H.1 g k) i.toNatClampNeg x)) := by unfold cel; rw [hk, sI_row]
  rw [hc] at hq
  have hw := wl_set hD hq2 cel_sI hc'
  refine va_iast hC.1 hC.2.1 hC.2.2.2.2.2.1 hP hD hS q0 0 hq rfl hin hdg (fun H1 locs1 a1 a2 a3 => ?_)
  rw [hw] at a1 a2
  exact kk H1 locs1 ls a1 a2 a3 hl
theorem V_zast (hC : Cx p s m args c A H0 D K4 nL own cc) {g k n : Nat} {i x : Int32} (hok : okn nr g k = true) (hk : kd g k = (2, n)) (hin : vp_in i n) (hdg : decode cc pc = .ok (.bastore, 1)) (kk : V p l e R s m args below meth c A H0 Q D K4 ad nr nL (pc + 1) lv st (sI H g k i.toNatClampNeg (vp_nar .boolean x))) : V p l e R s m args below meth c A H0 Q D K4 ad nr nL pc lv (.int x :: .int i :: .ref (ad g k) :: st) H := by
  intro Hh locs ls hP hD hS hl
  obtain ⟨q0, hq, hq2⟩ := wl_get (K4 := K4) (ad := ad) (H := H) hok
  have hc : cel K4 ad H g k = .inl (K4.2.2.1, n, .inl (H.1 g k)) := by unfold cel; rw [hk]
  have hc' : cel K4 ad (sI H g k i.toNatClampNeg (vp_nar .boolean x)) g k = .inl (K4.2.2.1, n, .inl (upd (H.1 g k) i.toNatClampNeg (vp_nar .boolean x))) := by unfold cel; rw [hk, sI_row]
  rw [hc] at hq
  have hw := wl_set hD hq2 cel_sI hc'
  refine va_zast hC.1 hC.2.1 hC.2.2.2.2.2.1 hP hD hS q0 2 hq rfl hin hdg (fun H1 locs1 a1 a2 a3 => ?_)
  rw [hw] at a1 a2
  exact kk H1 locs1 ls a1 a2 a3 hl
theorem V_last (hC : Cx p s m args c A H0 D K4 nL own cc) {g k n : Nat} {i : Int32} {x : Int64} (hok : okn nr g k = true) (hk : kd g k = (1, n)) (hin : vp_in i n) (hdg : decode cc pc = .ok (.lastore, 1)) (kk : V p l e R s m args below meth c A H0 Q D K4 ad nr nL (pc + 1) lv st (sJ H g k i.toNatClampNeg x)) : V p l e R s m args below meth c A H0 Q D K4 ad nr nL pc lv (.long x :: .int i :: .ref (ad g k) :: st) H := by
  intro Hh locs ls hP hD hS hl
  obtain ⟨q0, hq, hq2⟩ := wl_get (K4 := K4) (ad := ad) (H := H) hok
  have hc : cel K4 ad H g k = .inl (K4.2.1, n, .inr (.inl (H.2.1 g k))) := by unfold cel; rw [hk]
  have hc' : cel K4 ad (sJ H g k i.toNatClampNeg x) g k = .inl (K4.2.1, n, .inr (.inl (vp_updL (H.2.1 g k) i.toNatClampNeg x))) := by unfold cel; rw [hk, sJ_row]
  rw [hc] at hq
  have hw := wl_set hD hq2 cel_sJ hc'
  refine va_last hC.1 hC.2.1 hC.2.2.2.2.2.1 hP hD hS q0 1 hq rfl hin hdg (fun H1 locs1 a1 a2 a3 => ?_)
  rw [hw] at a1 a2
  exact kk H1 locs1 ls a1 a2 a3 hl
theorem V_aast (hC : Cx p s m args c A H0 D K4 nL own cc) {g k n r : Nat} {i : Int32} (hok : okn nr g k = true) (hk : kd g k = (3, n)) (hr : r < nr) (hin : vp_in i n) (hdg : decode cc pc = .ok (.aastore, 1)) (kk : V p l e R s m args below meth c A H0 Q D K4 ad nr nL (pc + 1) lv st (sR H g k i.toNatClampNeg (some r))) : V p l e R s m args below meth c A H0 Q D K4 ad nr nL pc lv (.ref (ad (r + 2) 0) :: .int i :: .ref (ad g k) :: st) H := by
  intro Hh locs ls hP hD hS hl
  obtain ⟨q0, hq, hq2⟩ := wl_get (K4 := K4) (ad := ad) (H := H) hok
  obtain ⟨q1, hq1, -⟩ := wl_get (K4 := K4) (ad := ad) (H := H) (okR (k := 0) hr rfl)
  have hc : cel K4 ad H g k = .inl (K4.2.2.2, n, .inr (.inr (.inr (.inr (fun i => (H.2.2 g k i).map (fun r => ad (r + 2) 0)))))) := by unfold cel; rw [hk]
  have hc' : cel K4 ad (sR H g k i.toNatClampNeg (some r)) g k = .inl (K4.2.2.2, n, .inr (.inr (.inr (.inr (va_up (fun i => (H.2.2 g k i).map (fun r => ad (r + 2) 0)) i.toNatClampNeg (some (ad (r + 2) 0))))))) := by
    unfold cel; rw [hk]
    have h0 : (fun j => ((sR H g k i.toNatClampNeg (some r)).2.2 g k j).map (fun r => ad (r + 2) 0)) = va_up (fun i => (H.2.2 g k i).map (fun r => ad (r + 2) 0)) i.toNatClampNeg (some (ad (r + 2) 0)) := by
      funext j
      show Option.map _ (if g = g ∧ k = k ∧ j = i.toNatClampNeg then some r else H.2.2 g k j) = if j = i.toNatClampNeg then _ else _
      by_cases hj : j = i.toNatClampNeg
      · rw [if_pos ⟨rfl, rfl, hj⟩, if_pos hj]; rfl
      · rw [if_neg (fun q => hj q.2.2), if_neg hj]
    show Sum.inl _ = _
    rw [h0]
  rw [hc] at hq
  have hw := wl_set hD hq2 cel_sR hc'
  refine va_astq hC.1 hC.2.1 hC.2.2.2.2.2.1 hP hD hS q0 3 q1 2 (r := (RX2, TX2, 9)) hq rfl hq1 rfl hin hdg (fun H1 locs1 a1 a2 a3 => ?_)
  rw [hw] at a1 a2
  exact kk H1 locs1 ls a1 a2 a3 hl
theorem V_alen (hC : Cx p s m args c A H0 D K4 nL own cc) {g k t n : Nat} {v : Int32} (hok : okn nr g k = true) (hk : kd g k = (t, n)) (ht : t < 4) (hv : Int32.ofNat n = v) (hdg : decode cc pc = .ok (.arraylength, 1)) (kk : V p l e R s m args below meth c A H0 Q D K4 ad nr nL (pc + 1) lv (.int v :: st) H) : V p l e R s m args below meth c A H0 Q D K4 ad nr nL pc lv (.ref (ad g k) :: st) H := by
  intro Hh locs ls hP hD hS hl
  obtain ⟨q0, hq, -⟩ := wl_get (K4 := K4) (ad := ad) (H := H) hok
  rcases (show t = 0 ∨ t = 1 ∨ t = 2 ∨ t = 3 by omega) with rfl | rfl | rfl | rfl
  · have hc : cel K4 ad H g k = .inl (K4.1, n, .inl (H.1 g k)) := by unfold cel; rw [hk]
    rw [hc] at hq
    exact va_alen hC.1 hC.2.1 hC.2.2.2.2.2.1 hP q0 0 hq rfl hv hdg (kk Hh locs ls hP hD hS hl)
  · have hc : cel K4 ad H g k = .inl (K4.2.1, n, .inr (.inl (H.2.1 g k))) := by unfold cel; rw [hk]
    rw [hc] at hq
    exact va_alen hC.1 hC.2.1 hC.2.2.2.2.2.1 hP q0 1 hq rfl hv hdg (kk Hh locs ls hP hD hS hl)
  · have hc : cel K4 ad H g k = .inl (K4.2.2.1, n, .inl (H.1 g k)) := by unfold cel; rw [hk]
    rw [hc] at hq
    exact va_alen hC.1 hC.2.1 hC.2.2.2.2.2.1 hP q0 2 hq rfl hv hdg (kk Hh locs ls hP hD hS hl)
  · have hc : cel K4 ad H g k = .inl (K4.2.2.2, n, .inr (.inr (.inr (.inr (fun i => (H.2.2 g k i).map (fun r => ad (r + 2) 0)))))) := by unfold cel; rw [hk]
    rw [hc] at hq
    exact va_alen hC.1 hC.2.1 hC.2.2.2.2.2.1 hP q0 3 hq rfl hv hdg (kk Hh locs ls hP hD hS hl)
theorem V_aloadq_n (hC : Cx p s m args c A H0 D K4 nL own cc) {i : Fin 4} {o : Option Nat} (k : Nat) (hdg : decode cc pc = .ok (.aload_n i, 1)) (hv : lv[k]? = some ((i : Nat), vr ad o)) (kk : V p l e R s m args below meth c A H0 Q D K4 ad nr nL (pc + 1) lv (vr ad o :: st) H) : V p l e R s m args below meth c A H0 Q D K4 ad nr nL pc lv st H := by
  intro Hh locs ls hP hD hS hl
  cases o with
  | none => exact lv_aload_nN hC.1 hC.2.1 hdg rfl (lv_at hl k hv) (kk Hh locs ls hP hD hS hl)
  | some r => exact lv_aload_n hC.1 hC.2.1 hdg rfl (lv_at hl k hv) (kk Hh locs ls hP hD hS hl)
theorem V_aloadq (hC : Cx p s m args c A H0 D K4 nL own cc) {i : Nat} {o : Option Nat} (k : Nat) (hdg : decode cc pc = .ok (.aload i, 2)) (hv : lv[k]? = some (i, vr ad o)) (kk : V p l e R s m args below meth c A H0 Q D K4 ad nr nL (pc + 2) lv (vr ad o :: st) H) : V p l e R s m args below meth c A H0 Q D K4 ad nr nL pc lv st H := by
  intro Hh locs ls hP hD hS hl
  cases o with
  | none => exact lv_aloadN hC.1 hC.2.1 hdg (lv_at hl k hv) (kk Hh locs ls hP hD hS hl)
  | some r => exact lv_aload hC.1 hC.2.1 hdg (lv_at hl k hv) (kk Hh locs ls hP hD hS hl)
theorem V_astoreq_n (hC : Cx p s m args c A H0 D K4 nL own cc) {i : Fin 4} {o : Option Nat} (hdg : decode cc pc = .ok (.astore_n i, 1)) (hn : (i : Nat) < nL) (hl' : ((i : Nat), vr ad o) :: lv.filter (fun q => !(q.1 == (i : Nat)) && !(q.1 + 1 == (i : Nat) && q.2.category == 2)) = lv') (kk : V p l e R s m args below meth c A H0 Q D K4 ad nr nL (pc + 1) lv' st H) : V p l e R s m args below meth c A H0 Q D K4 ad nr nL pc lv (vr ad o :: st) H := by
  intro Hh locs ls hP hD hS hl
  cases o with
  | none => exact lv_astore_nN hC.1 hC.2.1 hdg rfl hl hn hl' (fun ls' hl2 => kk Hh locs ls' hP hD hS hl2)
  | some r => exact lv_astore_n hC.1 hC.2.1 hdg rfl hl hn hl' (fun ls' hl2 => kk Hh locs ls' hP hD hS hl2)
theorem V_astoreq (hC : Cx p s m args c A H0 D K4 nL own cc) {i : Nat} {o : Option Nat} (hdg : decode cc pc = .ok (.astore i, 2)) (hn : i < nL) (hl' : (i, vr ad o) :: lv.filter (fun q => !(q.1 == i) && !(q.1 + 1 == i && q.2.category == 2)) = lv') (kk : V p l e R s m args below meth c A H0 Q D K4 ad nr nL (pc + 2) lv' st H) : V p l e R s m args below meth c A H0 Q D K4 ad nr nL pc lv (vr ad o :: st) H := by
  intro Hh locs ls hP hD hS hl
  cases o with
  | none => exact lv_astoreN hC.1 hC.2.1 hdg hl hn hl' (fun ls' hl2 => kk Hh locs ls' hP hD hS hl2)
  | some r => exact lv_astore hC.1 hC.2.1 hdg hl hn hl' (fun ls' hl2 => kk Hh locs ls' hP hD hS hl2)
theorem V_null (hC : Cx p s m args c A H0 D K4 nL own cc) (hdg : decode cc pc = .ok (.aconst_null, 1)) (kk : V p l e R s m args below meth c A H0 Q D K4 ad nr nL (pc + 1) lv (vr ad none :: st) H) : V p l e R s m args below meth c A H0 Q D K4 ad nr nL pc lv st H :=
  fun Hh locs ls hP hD hS hl => lv_null hC.1 hC.2.1 hdg (kk Hh locs ls hP hD hS hl)
theorem V_ifnullN (hC : Cx p s m args c A H0 D K4 nL own cc) {off : Int} {tgt : Nat} (hdg : decode cc pc = .ok (.ifnull off, 3)) (ht : (pc : Int) + off = (tgt : Int)) (kk : V p l e R s m args below meth c A H0 Q D K4 ad nr nL tgt lv st H) : V p l e R s m args below meth c A H0 Q D K4 ad nr nL pc lv (vr ad none :: st) H :=
  fun Hh locs ls hP hD hS hl => lv_ifnullN hC.1 hC.2.1 hdg ht (kk Hh locs ls hP hD hS hl)
theorem V_ifnullS (hC : Cx p s m args c A H0 D K4 nL own cc) {off : Int} {r : Nat} (hdg : decode cc pc = .ok (.ifnull off, 3)) (kk : V p l e R s m args below meth c A H0 Q D K4 ad nr nL (pc + 3) lv st H) : V p l e R s m args below meth c A H0 Q D K4 ad nr nL pc lv (vr ad (some r) :: st) H :=
  fun Hh locs ls hP hD hS hl => lv_ifnull hC.1 hC.2.1 hdg (kk Hh locs ls hP hD hS hl)
theorem V_ifnonnullN (hC : Cx p s m args c A H0 D K4 nL own cc) {off : Int} (hdg : decode cc pc = .ok (.ifnonnull off, 3)) (kk : V p l e R s m args below meth c A H0 Q D K4 ad nr nL (pc + 3) lv st H) : V p l e R s m args below meth c A H0 Q D K4 ad nr nL pc lv (vr ad none :: st) H :=
  fun Hh locs ls hP hD hS hl => lv_ifnonnullN hC.1 hC.2.1 hdg (kk Hh locs ls hP hD hS hl)
theorem V_ifnonnullS (hC : Cx p s m args c A H0 D K4 nL own cc) {off : Int} {tgt r : Nat} (hdg : decode cc pc = .ok (.ifnonnull off, 3)) (ht : (pc : Int) + off = (tgt : Int)) (kk : V p l e R s m args below meth c A H0 Q D K4 ad nr nL tgt lv st H) : V p l e R s m args below meth c A H0 Q D K4 ad nr nL pc lv (vr ad (some r) :: st) H :=
  fun Hh locs ls hP hD hS hl => lv_ifnonnull hC.1 hC.2.1 hdg ht (kk Hh locs ls hP hD hS hl)
theorem V_tabIn (hC : Cx p s m args c A H0 D K4 nL own cc) {dflt lo hi : Int} {offs : Array Int} {len : Nat} {x : Int32} {off : Int} {tgt : Nat} (hdg : decode cc pc = .ok (.tableswitch dflt lo hi offs, len)) (h1 : ¬ x.toInt < lo) (h2 : ¬ hi < x.toInt) (ho : offs[(x.toInt - lo).toNat]? = some off) (ht : (pc : Int) + off = (tgt : Int)) (kk : V p l e R s m args below meth c A H0 Q D K4 ad nr nL tgt lv st H) : V p l e R s m args below meth c A H0 Q D K4 ad nr nL pc lv (.int x :: st) H :=
  fun Hh locs ls hP hD hS hl => lv_tableIn hC.1 hC.2.1 hdg h1 h2 ho ht (kk Hh locs ls hP hD hS hl)
theorem V_tabOut (hC : Cx p s m args c A H0 D K4 nL own cc) {dflt lo hi : Int} {offs : Array Int} {len : Nat} {x : Int32} {tgt : Nat} (hdg : decode cc pc = .ok (.tableswitch dflt lo hi offs, len)) (h : x.toInt < lo ∨ hi < x.toInt) (ht : (pc : Int) + dflt = (tgt : Int)) (kk : V p l e R s m args below meth c A H0 Q D K4 ad nr nL tgt lv st H) : V p l e R s m args below meth c A H0 Q D K4 ad nr nL pc lv (.int x :: st) H :=
  fun Hh locs ls hP hD hS hl => lv_tableOut hC.1 hC.2.1 hdg h ht (kk Hh locs ls hP hD hS hl)
theorem V_mmin (hC : Cx p s m args c A H0 D K4 nL own cc) {idx : Nat} {x y : Int32} (hw : ∀ w ∈ ([Cond.methodLink own idx Lib.Math.min.name, Cond.static Lib.Math.min.name, Cond.initialized "java/lang/Math", Cond.code Lib.Math.min.name Lib.Math.min.code 2 (some .int)] : List Cond), w ∈ GW) (hR : 1 ≤ R.frames ∧ (st.map fun v => v.category).sum + 13 ≤ R.locals) (hdg : decode cc pc = .ok (.invokestatic idx, 3)) (kk : V p l e R s m args below meth c A H0 Q D K4 ad nr nL (pc + 3) lv (.int (if y < x then y else x) :: st) H) : V p l e R s m args below meth c A H0 Q D K4 ad nr nL pc lv (.int y :: .int x :: st) H :=
  fun Hh locs ls hP hD hS hl => va_mmin hC.1 hC.2.1 (hC.2.2.1.trans hl.1.symm) hC.2.2.2.1 (hC.2.2.2.2.1 _ (hw _ (by simp))) (hC.2.2.2.2.1 _ (hw _ (by simp))) (hC.2.2.2.2.1 _ (hw _ (by simp))) (hC.2.2.2.2.1 _ (hw _ (by simp))) hR.1 hR.2 (Nat.zero_le _) (Nat.zero_le _) hdg (kk Hh locs ls hP hD hS hl)
theorem V_mabs (hC : Cx p s m args c A H0 D K4 nL own cc) {idx : Nat} {x : Int32} (hw : ∀ w ∈ ([Cond.methodLink own idx Lib.Math.abs.name, Cond.static Lib.Math.abs.name, Cond.initialized "java/lang/Math", Cond.code Lib.Math.abs.name Lib.Math.abs.code 1 (some .int)] : List Cond), w ∈ GW) (hR : 1 ≤ R.frames ∧ (st.map fun v => v.category).sum + 13 ≤ R.locals) (hdg : decode cc pc = .ok (.invokestatic idx, 3)) (kk : V p l e R s m args below meth c A H0 Q D K4 ad nr nL (pc + 3) lv (.int (if 0 ≤ x then x else 0 - x) :: st) H) : V p l e R s m args below meth c A H0 Q D K4 ad nr nL pc lv (.int x :: st) H :=
  fun Hh locs ls hP hD hS hl => va_mabs hC.1 hC.2.1 (hC.2.2.1.trans hl.1.symm) hC.2.2.2.1 (hC.2.2.2.2.1 _ (hw _ (by simp))) (hC.2.2.2.2.1 _ (hw _ (by simp))) (hC.2.2.2.2.1 _ (hw _ (by simp))) (hC.2.2.2.2.1 _ (hw _ (by simp))) hR.1 hR.2 (Nat.zero_le _) (Nat.zero_le _) hdg (kk Hh locs ls hP hD hS hl)
/-- contracts -/
theorem nw_on {w : Cond} (h : w ∈ NW) : w.onTables = true := by
  have h2 := (List.mem_filter.mp h).2
  unfold isNW at h2
  split at h2
  · rfl
  · rfl
  · cases h2
theorem nw_warm {w : Cond} (h : w ∈ NW) {s U : State} (hW : s.WarmedH U.vm) (hz : va_Nw w s) : va_Nw w U := by
  have h2 := (List.mem_filter.mp h).2
  unfold isNW at h2
  split at h2
  · exact va_Nw.warmF hW hz
  · exact va_Nw.warmM hW hz
  · cases h2
def PcB (D : va_G) (K4 : kQ) (ad : Nat → Nat → Nat) (nr : Nat) (H : Hp) (sz : Nat) (U : State) : Prop := U.heap.size = sz ∧ va_P D vwCl (wl K4 ad nr H) U.heap ∧ va_K D vwCl (tys4 K4) U ∧ (∀ w ∈ NW, va_Nw w U) ∧ va_D (fun _ => True) (wl K4 ad nr H)
def Bw (D : va_G) (K4 : kQ) (ad : Nat → Nat → Nat) (nr : Nat) (A : Nat → Prop) (u : Hp) (t : State) : Prop := va_P D vwCl (wl K4 ad nr u) t.heap ∧ va_D A (wl K4 ad nr u)
def PcW (D : va_G) (K4 : kQ) (ad : Nat → Nat → Nat) (nr : Nat) (H : Hp) (sz : Nat) (as : List Value) : Array Value → State → Prop := va_Pc as (PcB D K4 ad nr H sz)
theorem PcW_blind (D : va_G) (K4 : kQ) (ad : Nat → Nat → Nat) (nr : Nat) (H : Hp) (sz : Nat) (as : List Value) : FrameBlind (PcW D K4 ad nr H sz as) := by
  intro a U g mk q
  obtain ⟨q0, q1, qP, qK, qN, qD⟩ := q
  exact ⟨q0, q1, qP, va_K.moved (u := U) (U := U.calling g mk a) (Vm.Alike.refl U.vm) qK, fun w hw => va_Nw.same (u := U) (nw_on hw) rfl (qN w hw), qD⟩
def CI (l : Launch) (nr : Nat) (y : MethodName) (cy : ByteArray) (ny : Nat) (rt : Option FieldType) (fr lc : Nat) (as : (Nat → Nat → Nat) → List Value) (H : Hp) (r : Int32) (H' : Hp) : Prop :=
  ∀ (D : va_G) (K4 : kQ) (ad : Nat → Nat → Nat) (sz : Nat), Met l y (.code y cy ny rt :: GW) ({ frames := fr, cells := 0, slots := 0, locals := lc }) (PcW D K4 ad nr H sz (as ad)) (va_Qi (fun q u => q = r ∧ u = H') (Bw D K4 ad nr (va_A (wl K4 ad nr H) sz)) (va_A (wl K4 ad nr H) sz)) 0 0 (va_A (wl K4 ad nr H) sz)
def CJ (l : Launch) (nr : Nat) (y : MethodName) (cy : ByteArray) (ny : Nat) (rt : Option FieldType) (fr lc : Nat) (as : (Nat → Nat → Nat) → List Value) (H : Hp) (r : Int64) (H' : Hp) : Prop :=
  ∀ (D : va_G) (K4 : kQ) (ad : Nat → Nat → Nat) (sz : Nat), Met l y (.code y cy ny rt :: GW) ({ frames := fr, cells := 0, slots := 0, locals := lc }) (PcW D K4 ad nr H sz (as ad)) (va_Ql (fun q u => q = r ∧ u = H') (Bw D K4 ad nr (va_A (wl K4 ad nr H) sz)) (va_A (wl K4 ad nr H) sz)) 0 0 (va_A (wl K4 ad nr H) sz)
def CU (l : Launch) (nr : Nat) (y : MethodName) (cy : ByteArray) (ny : Nat) (rt : Option FieldType) (fr lc : Nat) (as : (Nat → Nat → Nat) → List Value) (H : Hp) (_ : Unit) (H' : Hp) : Prop :=
  ∀ (D : va_G) (K4 : kQ) (ad : Nat → Nat → Nat) (sz : Nat), Met l y (.code y cy ny rt :: GW) ({ frames := fr, cells := 0, slots := 0, locals := lc }) (PcW D K4 ad nr H sz (as ad)) (va_Qv (fun u => u = H') (Bw D K4 ad nr (va_A (wl K4 ad nr H) sz)) (va_A (wl K4 ad nr H) sz)) 0 0 (va_A (wl K4 ad nr H) sz)
def CQ (l : Launch) (nr : Nat) (y : MethodName) (cy : ByteArray) (ny : Nat) (rt : Option FieldType) (fr lc : Nat) (as : (Nat → Nat → Nat) → List Value) (H : Hp) (r : Option Nat) (H' : Hp) : Prop :=
  ∀ (D : va_G) (K4 : kQ) (ad : Nat → Nat → Nat) (sz : Nat), Met l y (.code y cy ny rt :: GW) ({ frames := fr, cells := 0, slots := 0, locals := lc }) (PcW D K4 ad nr H sz (as ad)) (va_Qq (fun q u => q = r.map (fun r => ad (r + 2) 0) ∧ u = H') (Bw D K4 ad nr (va_A (wl K4 ad nr H) sz)) (va_A (wl K4 ad nr H) sz)) 0 0 (va_A (wl K4 ad nr H) sz)
/-- a link to a method of class number ci, with n parameters -/
def ML (own : String) (idx : Nat) (y : MethodName) (cy : ByteArray) (ny : Nat) (rt : Option FieldType) (ci n : Nat) : Prop := (∃ T N, vwCl[ci]? = some (y.cls, T, N)) ∧ (∀ w ∈ ([.methodLink own idx y, .instanceMethod y, .selects y.cls y y, .initialized y.cls, .code y cy ny rt] : List Cond), w ∈ GW) ∧ (y.cls ≠ "java/lang/invoke/MethodHandle" ∧ y.cls ≠ "java/lang/invoke/VarHandle" ∧ (parseMethodDescriptor y.desc).map (fun d => d.parameters.length) = some n)
def MS (own : String) (idx : Nat) (y : MethodName) (cy : ByteArray) (ny : Nat) (rt : Option FieldType) (n : Nat) : Prop := (∀ w ∈ ([.methodLink own idx y, .static y, .initialized own, .code y cy ny rt] : List Cond), w ∈ GW) ∧ (y.cls = own ∧ y.cls ≠ "java/lang/invoke/MethodHandle" ∧ y.cls ≠ "java/lang/invoke/VarHandle" ∧ (parseMethodDescriptor y.desc).map (fun d => d.parameters.length) = some n)
theorem gsub {ws : List Cond} (h : ∀ w ∈ ws, w ∈ GW) : GoodIn GW ws := fun w hw => ⟨h w hw, good_of_word (List.mem_filter.mp (h w hw)).2⟩
theorem ML.cw {R : Room} {s : State} {args : Array Value} {own : String} {idx : Nat} {y : MethodName} {cy : ByteArray} {ny : Nat} {rt : Option FieldType} {ci n fr lc : Nat} (h : ML own idx y cy ny rt ci n) (ht : ∀ w ∈ GW, w.before args s = true) (hR : fr + 1 ≤ R.frames ∧ 8 + (ny + 11) + lc ≤ R.locals) : CallW R s args own y.cls idx y cy ny rt (.code y cy ny rt :: GW) ({ frames := fr, cells := 0, slots := 0, locals := lc }) 0 0 n := by
  refine cwV n ht (gsub ?_) rfl rfl rfl ⟨rfl, h.2.2⟩ hR
  intro w hw
  rcases List.mem_append.mp hw with q | q
  · exact h.2.1 w (by simp only [List.mem_cons, List.not_mem_nil, or_false] at q ⊢; rcases q with q | q | q | q <;> simp [q])
  · rcases List.mem_cons.mp q with q | q
    · exact h.2.1 w (by simp [q])
    · exact q
theorem MS.cw {R : Room} {s : State} {args : Array Value} {own : String} {idx : Nat} {y : MethodName} {cy : ByteArray} {ny : Nat} {rt : Option FieldType} {n fr lc : Nat} (h : MS own idx y cy ny rt n) (ht : ∀ w ∈ GW, w.before args s = true) (hR : fr + 1 ≤ R.frames ∧ 8 + (ny + 11) + lc ≤ R.locals) : CallB R s args own idx y cy ny rt (.code y cy ny rt :: GW) ({ frames := fr, cells := 0, slots := 0, locals := lc }) 0 0 n ∧ (Cond.static y).before args s = true := by
  refine cwS n ht (gsub ?_) rfl rfl rfl h.2 hR
  intro w hw
  rcases List.mem_append.mp hw with q | q
  · exact h.1 w (by simp only [List.mem_cons, List.not_mem_nil, or_false] at q ⊢; rcases q with q | q | q <;> simp [q])
  · rcases List.mem_cons.mp q with q | q
    · exact h.1 w (by simp [q])
    · exact q
theorem V_free (hC : Cx p s m args c A H0 D K4 nL own cc) {Hh : Heap} {locs : List Loc} (hD : va_D A (wl K4 ad nr H)) (hS : va_S A H0 Hh locs) : ∀ q, va_A (wl K4 ad nr H) Hh.size q → A q := by
  intro q h
  rcases h with ⟨k, e, hk⟩ | h
  · exact hD.2 k (q, e) hk
  · exact hC.2.2.2.2.2.2.2 q (Nat.le_trans hS.1 h)
theorem V_pre (hC : Cx p s m args c A H0 D K4 nL own cc) {Hh : Heap} (hP : va_P D vwCl (wl K4 ad nr H) Hh) (hD : va_D A (wl K4 ad nr H)) : ∀ U : State, U.heap = Hh → s.WarmedH U.vm → PcB D K4 ad nr H Hh.size U := fun U hU hW => ⟨by rw [hU], by rw [hU]; exact hP, va_K.moved hW.alike hC.2.2.2.2.2.1, fun w hw => nw_warm hw hW (hC.2.2.2.2.2.2.1 w hw), hD.weaken (fun _ _ _ _ => trivial)⟩
theorem V_run (hC : Cx p s m args c A H0 D K4 nL own cc) {idx : Nat} {y : MethodName} {cy : ByteArray} {ny : Nat} {rt : Option FieldType} {ci n fr lc g k : Nat} {As : List Value} {Qc : Array Value → State → Outcome → State → Prop} (hL : ML own idx y cy ny rt ci n) (hR : fr + 1 ≤ R.frames ∧ 8 + (ny + 11) + lc ≤ R.locals) (hok : okn nr g k = true) (hk : (kd g k).1 = ci + 4) (hn : As.length = n) {Hh : Heap} {locs : List Loc} {ls : Array Slot} (hP : va_P D vwCl (wl K4 ad nr H) Hh) (hD : va_D A (wl K4 ad nr H)) (hl : lv_has ls nL lv) (hM : Met l y (.code y cy ny rt :: GW) ({ frames := fr, cells := 0, slots := 0, locals := lc }) (PcW D K4 ad nr H Hh.size (.ref (ad g k) :: As)) Qc 0 0 (va_A (wl K4 ad nr H) Hh.size)) (hW : (st.map fun v => v.category).sum ≤ 8) (hdg : decode cc pc = .ok (.invokevirtual idx, 3)) : va_Run p l e R s m args below meth c Hh locs 0 0 0 0 (F0 m pc ls (As.reverse ++ .ref (ad g k) :: st)) st (Qc (Value.ref (ad g k) :: As).toArray) (va_A (wl K4 ad nr H) Hh.size) := by
  obtain ⟨q0, hq, -⟩ := wl_get (K4 := K4) (ad := ad) (H := H) hok
  have hc : cel K4 ad H g k = .inr (ci, fls ad H g k ci) := by unfold cel; rw [hk]
  rw [hc] at hq
  obtain ⟨T, N, hcl⟩ := hL.1
  exact va_runV (As := As) (rest := st) ⟨hC.1, hC.2.1, hC.2.2.1, hC.2.2.2.1, hC.2.2.2.2.1⟩ hM (hL.cw hC.2.2.2.2.1 hR) ⟨PcW_blind _ _ _ _ _ _ _, va_recv hC.2.2.2.2.2.1 hP (ci := ci) (q0 := q0) hcl hq, fun U hU hW2 => ⟨rfl, V_pre hC hP hD U hU hW2⟩⟩ rfl hn hl.1 rfl (lv_room hW) hdg ⟨Nat.zero_le _, Nat.zero_le _⟩
theorem V_runS (hC : Cx p s m args c A H0 D K4 nL own cc) {idx : Nat} {y : MethodName} {cy : ByteArray} {ny : Nat} {rt : Option FieldType} {n fr lc : Nat} {As : List Value} {Qc : Array Value → State → Outcome → State → Prop} (hL : MS own idx y cy ny rt n) (hR : fr + 1 ≤ R.frames ∧ 8 + (ny + 11) + lc ≤ R.locals) (hn : As.length = n) {Hh : Heap} {locs : List Loc} {ls : Array Slot} (hP : va_P D vwCl (wl K4 ad nr H) Hh) (hD : va_D A (wl K4 ad nr H)) (hl : lv_has ls nL lv) (hM : Met l y (.code y cy ny rt :: GW) ({ frames := fr, cells := 0, slots := 0, locals := lc }) (PcW D K4 ad nr H Hh.size As) Qc 0 0 (va_A (wl K4 ad nr H) Hh.size)) (hW : (st.map fun v => v.category).sum ≤ 8) (hdg : decode cc pc = .ok (.invokestatic idx, 3)) : va_Run p l e R s m args below meth c Hh locs 0 0 0 0 (F0 m pc ls (As.reverse ++ st)) st (Qc As.toArray) (va_A (wl K4 ad nr H) Hh.size) :=
  va_runS (As := As) (rest := st) ⟨hC.1, hC.2.1, hC.2.2.1, hC.2.2.2.1, hC.2.2.2.2.1⟩ hM (hL.cw hC.2.2.2.2.1 hR) ⟨PcW_blind _ _ _ _ _ _ _, fun U hU hW2 => ⟨rfl, V_pre hC hP hD U hU hW2⟩⟩ rfl hn hl.1 rfl (lv_room hW) hdg ⟨Nat.zero_le _, Nat.zero_le _⟩
theorem V_calli (hC : Cx p s m args c A H0 D K4 nL own cc) {idx : Nat} {y : MethodName} {cy : ByteArray} {ny : Nat} {rt : Option FieldType} {ci n fr lc g k : Nat} {As : List Value} {as : (Nat → Nat → Nat) → List Value} {r : Int32} {H' : Hp} (hM : CI l nr y cy ny rt fr lc as H r H') (has : as ad = .ref (ad g k) :: As) (hL : ML own idx y cy ny rt ci n) (hR : fr + 1 ≤ R.frames ∧ 8 + (ny + 11) + lc ≤ R.locals) (hok : okn nr g k = true) (hk : (kd g k).1 = ci + 4) (hn : As.length = n) (hW : (st.map fun v => v.category).sum ≤ 8) (hdg : decode cc pc = .ok (.invokevirtual idx, 3)) (kk : V p l e R s m args below meth c A H0 Q D K4 ad nr nL (pc + 3) lv (.int r :: st) H') : V p l e R s m args below meth c A H0 Q D K4 ad nr nL pc lv (As.reverse ++ .ref (ad g k) :: st) H := by
  intro Hh locs ls hP hD hS hl
  have hM := hM D K4 ad Hh.size
  rw [has] at hM
  have hf := V_free (ad := ad) (nr := nr) (H := H) hC hD hS
  refine va_calli (V_run hC hL hR hok hk hn hP hD hl hM hW hdg) hS (fun q _ h => hf q h) hf (fun r1 u t H1 locs1 ht hvm hw hB hz1 hk1 hS1 => ?_)
  obtain ⟨rfl, rfl⟩ := hw
  obtain ⟨hP1, hD1⟩ := hB
  rw [ht] at hP1
  exact kk H1 locs1 ls hP1 (hD1.weaken (fun _ q _ h => hf q.1 h)) hS1 hl
theorem V_calll (hC : Cx p s m args c A H0 D K4 nL own cc) {idx : Nat} {y : MethodName} {cy : ByteArray} {ny : Nat} {rt : Option FieldType} {ci n fr lc g k : Nat} {As : List Value} {as : (Nat → Nat → Nat) → List Value} {r : Int64} {H' : Hp} (hM : CJ l nr y cy ny rt fr lc as H r H') (has : as ad = .ref (ad g k) :: As) (hL : ML own idx y cy ny rt ci n) (hR : fr + 1 ≤ R.frames ∧ 8 + (ny + 11) + lc ≤ R.locals) (hok : okn nr g k = true) (hk : (kd g k).1 = ci + 4) (hn : As.length = n) (hW : (st.map fun v => v.category).sum ≤ 8) (hdg : decode cc pc = .ok (.invokevirtual idx, 3)) (kk : V p l e R s m args below meth c A H0 Q D K4 ad nr nL (pc + 3) lv (.long r :: st) H') : V p l e R s m args below meth c A H0 Q D K4 ad nr nL pc lv (As.reverse ++ .ref (ad g k) :: st) H := by
  intro Hh locs ls hP hD hS hl
  have hM := hM D K4 ad Hh.size
  rw [has] at hM
  have hf := V_free (ad := ad) (nr := nr) (H := H) hC hD hS
  refine va_calll (V_run hC hL hR hok hk hn hP hD hl hM hW hdg) hS (fun q _ h => hf q h) hf (fun r1 u t H1 locs1 ht hvm hw hB hz1 hk1 hS1 => ?_)
  obtain ⟨rfl, rfl⟩ := hw
  obtain ⟨hP1, hD1⟩ := hB
  rw [ht] at hP1
  exact kk H1 locs1 ls hP1 (hD1.weaken (fun _ q _ h => hf q.1 h)) hS1 hl
theorem V_callu (hC : Cx p s m args c A H0 D K4 nL own cc) {idx : Nat} {y : MethodName} {cy : ByteArray} {ny : Nat} {rt : Option FieldType} {ci n fr lc g k : Nat} {As : List Value} {as : (Nat → Nat → Nat) → List Value} {r : Unit} {H' : Hp} (hM : CU l nr y cy ny rt fr lc as H r H') (has : as ad = .ref (ad g k) :: As) (hL : ML own idx y cy ny rt ci n) (hR : fr + 1 ≤ R.frames ∧ 8 + (ny + 11) + lc ≤ R.locals) (hok : okn nr g k = true) (hk : (kd g k).1 = ci + 4) (hn : As.length = n) (hW : (st.map fun v => v.category).sum ≤ 8) (hdg : decode cc pc = .ok (.invokevirtual idx, 3)) (kk : V p l e R s m args below meth c A H0 Q D K4 ad nr nL (pc + 3) lv st H') : V p l e R s m args below meth c A H0 Q D K4 ad nr nL pc lv (As.reverse ++ .ref (ad g k) :: st) H := by
  intro Hh locs ls hP hD hS hl
  have hM := hM D K4 ad Hh.size
  rw [has] at hM
  have hf := V_free (ad := ad) (nr := nr) (H := H) hC hD hS
  refine va_callv (V_run hC hL hR hok hk hn hP hD hl hM hW hdg) hS (fun q _ h => hf q h) hf (fun u t H1 locs1 ht hvm hw hB hz1 hk1 hS1 => ?_)
  obtain rfl := hw
  obtain ⟨hP1, hD1⟩ := hB
  rw [ht] at hP1
  exact kk H1 locs1 ls hP1 (hD1.weaken (fun _ q _ h => hf q.1 h)) hS1 hl
theorem V_callq (hC : Cx p s m args c A H0 D K4 nL own cc) {idx : Nat} {y : MethodName} {cy : ByteArray} {ny : Nat} {rt : Option FieldType} {ci n fr lc g k : Nat} {As : List Value} {as : (Nat → Nat → Nat) → List Value} {r : Option Nat} {H' : Hp} (hM : CQ l nr y cy ny rt fr lc as H r H') (has : as ad = .ref (ad g k) :: As) (hL : ML own idx y cy ny rt ci n) (hR : fr + 1 ≤ R.frames ∧ 8 + (ny + 11) + lc ≤ R.locals) (hok : okn nr g k = true) (hk : (kd g k).1 = ci + 4) (hn : As.length = n) (hW : (st.map fun v => v.category).sum ≤ 8) (hdg : decode cc pc = .ok (.invokevirtual idx, 3)) (kk : V p l e R s m args below meth c A H0 Q D K4 ad nr nL (pc + 3) lv (vr ad r :: st) H') : V p l e R s m args below meth c A H0 Q D K4 ad nr nL pc lv (As.reverse ++ .ref (ad g k) :: st) H := by
  intro Hh locs ls hP hD hS hl
  have hM := hM D K4 ad Hh.size
  rw [has] at hM
  have hf := V_free (ad := ad) (nr := nr) (H := H) hC hD hS
  refine va_callq (V_run hC hL hR hok hk hn hP hD hl hM hW hdg) hS (fun q _ h => hf q h) hf (fun r1 u t H1 locs1 ht hvm hw hB hz1 hk1 hS1 => ?_)
  obtain ⟨rfl, rfl⟩ := hw
  obtain ⟨hP1, hD1⟩ := hB
  rw [ht] at hP1
  exact kk H1 locs1 ls hP1 (hD1.weaken (fun _ q _ h => hf q.1 h)) hS1 hl
theorem V_callsi (hC : Cx p s m args c A H0 D K4 nL own cc) {idx : Nat} {y : MethodName} {cy : ByteArray} {ny : Nat} {rt : Option FieldType} {n fr lc : Nat} {As : List Value} {as : (Nat → Nat → Nat) → List Value} {r : Int32} {H' : Hp} (hM : CI l nr y cy ny rt fr lc as H r H') (has : as ad = As) (hL : MS own idx y cy ny rt n) (hR : fr + 1 ≤ R.frames ∧ 8 + (ny + 11) + lc ≤ R.locals) (hn : As.length = n) (hW : (st.map fun v => v.category).sum ≤ 8) (hdg : decode cc pc = .ok (.invokestatic idx, 3)) (kk : V p l e R s m args below meth c A H0 Q D K4 ad nr nL (pc + 3) lv (.int r :: st) H') : V p l e R s m args below meth c A H0 Q D K4 ad nr nL pc lv (As.reverse ++ st) H := by
  intro Hh locs ls hP hD hS hl
  have hM := hM D K4 ad Hh.size
  rw [has] at hM
  have hf := V_free (ad := ad) (nr := nr) (H := H) hC hD hS
  refine va_calli (V_runS hC hL hR hn hP hD hl hM hW hdg) hS (fun q _ h => hf q h) hf (fun r1 u t H1 locs1 ht hvm hw hB hz1 hk1 hS1 => ?_)
  obtain ⟨rfl, rfl⟩ := hw
  obtain ⟨hP1, hD1⟩ := hB
  rw [ht] at hP1
  exact kk H1 locs1 ls hP1 (hD1.weaken (fun _ q _ h => hf q.1 h)) hS1 hl
/-- the ends -/
def QI (below : List Frame) (args : Array Value) (s : State) (A : Nat → Prop) (D : va_G) (K4 : kQ) (ad : Nat → Nat → Nat) (nr : Nat) (res : Int32 × Hp) : State → Prop := MQ below (va_Qi (fun q u => q = res.1 ∧ u = res.2) (Bw D K4 ad nr A) A) args s 0 0 A
def QJ (below : List Frame) (args : Array Value) (s : State) (A : Nat → Prop) (D : va_G) (K4 : kQ) (ad : Nat → Nat → Nat) (nr : Nat) (res : Int64 × Hp) : State → Prop := MQ below (va_Ql (fun q u => q = res.1 ∧ u = res.2) (Bw D K4 ad nr A) A) args s 0 0 A
def QU (below : List Frame) (args : Array Value) (s : State) (A : Nat → Prop) (D : va_G) (K4 : kQ) (ad : Nat → Nat → Nat) (nr : Nat) (res : Unit × Hp) : State → Prop := MQ below (va_Qv (fun u => u = res.2) (Bw D K4 ad nr A) A) args s 0 0 A
def QQ (below : List Frame) (args : Array Value) (s : State) (A : Nat → Prop) (D : va_G) (K4 : kQ) (ad : Nat → Nat → Nat) (nr : Nat) (res : Option Nat × Hp) : State → Prop := MQ below (va_Qq (fun q u => q = res.1.map (fun r => ad (r + 2) 0) ∧ u = res.2) (Bw D K4 ad nr A) A) args s 0 0 A
theorem V_iret (hC : Cx p s m args c A s.heap D K4 nL own cc) {v : Int32} {res : Int32 × Hp} (hr : meth.sig.returnType = some .int ∧ meth.locks = false) (hdg : decode cc pc = .ok (.ireturn, 1)) (h : some (v, H) = some res) : V p l e R s m args below meth c A s.heap (QI below args s A D K4 ad nr res) D K4 ad nr nL pc lv [.int v] H := by
  intro Hh locs ls hP hD hS hl
  have hlocks := hr.2
  cases h
  exact W.iret hC.1 hC.2.1 hr.1 (fun t ht _ => ⟨⟨v, H, rfl, ⟨rfl, rfl⟩, by rw [ht]; exact hP, hD⟩, hS.F ht⟩) hS.2.2 hdg
theorem V_zret (hC : Cx p s m args c A s.heap D K4 nL own cc) {v : Int32} {res : Int32 × Hp} (hr : meth.sig.returnType = some .boolean ∧ meth.locks = false) (hn : narrow .boolean (.int v) = .int v) (hdg : decode cc pc = .ok (.ireturn, 1)) (h : some (v, H) = some res) : V p l e R s m args below meth c A s.heap (QI below args s A D K4 ad nr res) D K4 ad nr nL pc lv [.int v] H := by
  intro Hh locs ls hP hD hS hl
  have hlocks := hr.2
  cases h
  exact W.zret hC.1 hC.2.1 hr.1 hn (fun t ht _ => ⟨⟨v, H, rfl, ⟨rfl, rfl⟩, by rw [ht]; exact hP, hD⟩, hS.F ht⟩) hS.2.2 hdg
theorem V_lret (hC : Cx p s m args c A s.heap D K4 nL own cc) {v : Int64} {res : Int64 × Hp} (hr : meth.sig.returnType = some .long ∧ meth.locks = false) (hdg : decode cc pc = .ok (.lreturn, 1)) (h : some (v, H) = some res) : V p l e R s m args below meth c A s.heap (QJ below args s A D K4 ad nr res) D K4 ad nr nL pc lv [.long v] H := by
  intro Hh locs ls hP hD hS hl
  have hlocks := hr.2
  cases h
  exact W.lret hC.1 hC.2.1 hr.1 (fun t ht _ => ⟨⟨v, H, rfl, ⟨rfl, rfl⟩, by rw [ht]; exact hP, hD⟩, hS.F ht⟩) hS.2.2 hdg
theorem V_vret (hC : Cx p s m args c A s.heap D K4 nL own cc) {res : Unit × Hp} (hr : meth.sig.returnType = none ∧ meth.locks = false) (hdg : decode cc pc = .ok (.return_, 1)) (h : some ((), H) = some res) : V p l e R s m args below meth c A s.heap (QU below args s A D K4 ad nr res) D K4 ad nr nL pc lv [] H := by
  intro Hh locs ls hP hD hS hl
  have hlocks := hr.2
  cases h
  exact W.vret hC.1 hC.2.1 hr.1 (fun t ht _ => ⟨⟨H, rfl, rfl, by rw [ht]; exact hP, hD⟩, hS.F ht⟩) hS.2.2 hdg
theorem V_qret (hC : Cx p s m args c A s.heap D K4 nL own cc) {o : Option Nat} {C : String} {res : Option Nat × Hp} (hr : meth.sig.returnType = some (.object C) ∧ meth.locks = false) (hdg : decode cc pc = .ok (.areturn, 1)) (h : some (o, H) = some res) : V p l e R s m args below meth c A s.heap (QQ below args s A D K4 ad nr res) D K4 ad nr nL pc lv [vr ad o] H := by
  intro Hh locs ls hP hD hS hl
  have hlocks := hr.2
  cases h
  exact W.aret hC.1 hC.2.1 hr.1 (Or.inl ⟨_, rfl⟩) (by cases o with | none => exact Or.inl rfl | some r => exact Or.inr ⟨_, rfl⟩) (fun t ht _ => ⟨⟨o.map (fun r => ad (r + 2) 0), H, rfl, ⟨rfl, rfl⟩, by rw [ht]; exact hP, hD⟩, hS.F ht⟩) hS.2.2 hdg
/-- a contract out of the walk from entry on -/
theorem Met.ofV {y : MethodName} {cy : ByteArray} {ny : Nat} {rt : Option FieldType} {fr lc sz : Nat} {as : List Value} {Qc : Array Value → State → Outcome → State → Prop} (hy : plainName y.cls = true) (hlen : (lg_sl as).length ≤ ny)
    (body : ∀ (p : Program) (e : Env) (s : State) (m : MethodId) (args : Array Value) (below : List Frame) (meth : Method) (c : Code), Cx p s m args c (va_A (wl K4 ad nr H) s.heap.size) s.heap D K4 ny y.cls cy → meth.sig.returnType = rt ∧ meth.locks = false → s.heap.size = sz → V p l e ({ frames := fr, cells := 0, slots := 0, locals := lc }) s m args below meth c (va_A (wl K4 ad nr H) s.heap.size) s.heap (MQ below Qc args s 0 0 (va_A (wl K4 ad nr H) sz)) D K4 ad nr ny 0 (lv_args 0 as) [] H) :
    Met l y (.code y cy ny rt :: GW) ({ frames := fr, cells := 0, slots := 0, locals := lc }) (PcW D K4 ad nr H sz as) Qc 0 0 (va_A (wl K4 ad nr H) sz) := by
  refine Met.ofW (cc := cy) (maxL := ny) (ret := rt) hy rfl ?_
  intro p e s m args below meth c s₁ B hml hv
  obtain ⟨rfl, hsz, hP, hK, hN, hD⟩ := hv
  have hts := atoms_spec (ws := (.code y cy ny rt :: GW)) B.pre
  have hown : s.vm.findClass y.cls = some m.cls := findClass_of_methodNamed B.named
  have hl := lv_entry as (n := ny) hlen
  rw [lg_entry_eq]
  exact body p e s m _ below meth c ⟨B.exec, B.bytes, hml, hown, fun w hw => hts w (List.mem_cons_of_mem _ hw), hK, hN, fun q h => Or.inr h⟩ ⟨B.returns, B.notSynchronized⟩ hsz s.heap [] _ hP hD.self va_S.rf hl

end
end
section
theorem it_pos {c : Prop} {i : Decidable c} {α : Type} {a b : Option α} {r : α} (hc : c) (h : @ite _ c i a b = some r) : a = some r := by rwa [if_pos hc] at h
theorem it_neg {c : Prop} {i : Decidable c} {α : Type} {a b : Option α} {r : α} (hc : ¬ c) (h : @ite _ c i a b = some r) : b = some r := by rwa [if_neg hc] at h
def vl {α β : Type} (x : α) (f : α → β) : β := f x
def hl {β : Type} (x : Hp) (f : Hp → β) : β := f x
def jn {α β : Type} (b : α) (f : α → β) : β := f b
theorem nz_some {β : Type} {nr : Nat} {o : Option Nat} {k0 : Option β} {f : Nat → Option β} {x : β} (h : nz nr o k0 f = some x) : (o = none ∧ k0 = some x) ∨ ∃ r, o = some r ∧ r < nr ∧ f r = some x := by
  unfold nz at h
  split at h
  · exact Or.inl ⟨rfl, h⟩
  · obtain ⟨a, b⟩ := gb_some h
    exact Or.inr ⟨_, rfl, of_decide_eq_true a, b⟩
theorem nar01 {v : Int32} (h : v = 0 ∨ v = 1) : narrow .boolean (.int v) = .int v := by rcases h with rfl | rfl <;> decide
theorem i32ne {x y : Int32} {n : Int} (h : ¬ x = y) (hn : y.toInt = n := by decide) : x.toInt ≠ n := fun q => h (Int32.toInt_inj.mp (q.trans hn.symm))
theorem gall {ws : List Cond} (h1 : ∀ w ∈ ws, w ∈ lw_tbl) (h2 : ∀ w ∈ ws, goodWord w = true) : ∀ w ∈ ws, w ∈ GW := fun w hw => List.mem_filter.mpr ⟨h1 w hw, h2 w hw⟩
section
variable {p : Program} {l : Launch} {e : Env} {R : Room} {s : State} {m : MethodId} {args : Array Value} {below : List Frame} {meth : Method} {c : Code} {A : Nat → Prop} {H0 : Heap} {Q : State → Prop} {D : va_G} {K4 : kQ} {ad : Nat → Nat → Nat} {nr nL : Nat} {own : String} {cc : ByteArray} {pc : Nat} {lv lv' : List (Nat × Value)} {st : List Value} {H : Hp}
theorem V_vlI {ρ : Type} {res : ρ} {F : Int32 → Option ρ} {x : Int32} (h : vl x F = some res) (kk : ∀ y, F y = some res → V p l e R s m args below meth c A H0 Q D K4 ad nr nL pc lv (.int y :: st) H) : V p l e R s m args below meth c A H0 Q D K4 ad nr nL pc lv (.int x :: st) H := kk x h
theorem V_vlJ {ρ : Type} {res : ρ} {F : Int64 → Option ρ} {x : Int64} (h : vl x F = some res) (kk : ∀ y, F y = some res → V p l e R s m args below meth c A H0 Q D K4 ad nr nL pc lv (.long y :: st) H) : V p l e R s m args below meth c A H0 Q D K4 ad nr nL pc lv (.long x :: st) H := kk x h
theorem V_vlQ {ρ : Type} {res : ρ} {F : Option Nat → Option ρ} {x : Option Nat} (h : vl x F = some res) (kk : ∀ y, F y = some res → V p l e R s m args below meth c A H0 Q D K4 ad nr nL pc lv (vr ad y :: st) H) : V p l e R s m args below meth c A H0 Q D K4 ad nr nL pc lv (vr ad x :: st) H := kk x h
theorem V_vi {ρ : Type} {res : ρ} {F : Int32 → Option ρ} {x : Int32} (h : vl x F = some res) (kk : ∀ y, y = x → F y = some res → V p l e R s m args below meth c A H0 Q D K4 ad nr nL pc lv st H) : V p l e R s m args below meth c A H0 Q D K4 ad nr nL pc lv st H := kk x rfl h
theorem V_hl {ρ : Type} {res : ρ} {F : Hp → Option ρ} (h : hl H F = some res) (kk : ∀ H1, F H1 = some res → V p l e R s m args below meth c A H0 Q D K4 ad nr nL pc lv st H1) : V p l e R s m args below meth c A H0 Q D K4 ad nr nL pc lv st H := kk H h
theorem V_jn0 {ρ : Type} {res : ρ} (pj : Nat) (lj : List (Nat × Value)) (sj : List Value) {F : Hp → Option ρ} {G : (Hp → Option ρ) → Option ρ} (h : jn F G = some res) (kj : ∀ H1, F H1 = some res → V p l e R s m args below meth c A H0 Q D K4 ad nr nL pj lj sj H1) (kk : (∀ H1, F H1 = some res → V p l e R s m args below meth c A H0 Q D K4 ad nr nL pj lj sj H1) → G F = some res → V p l e R s m args below meth c A H0 Q D K4 ad nr nL pc lv st H) : V p l e R s m args below meth c A H0 Q D K4 ad nr nL pc lv st H := kk kj h
theorem V_jn1 {Y1 ρ : Type} {res : ρ} (pj : Nat) (lj : Y1 → List (Nat × Value)) (sj : Y1 → List Value) {F : Y1 → Hp → Option ρ} {G : (Y1 → Hp → Option ρ) → Option ρ} (h : jn F G = some res) (kj : ∀ y H1, F y H1 = some res → V p l e R s m args below meth c A H0 Q D K4 ad nr nL pj (lj y) (sj y) H1) (kk : (∀ y H1, F y H1 = some res → V p l e R s m args below meth c A H0 Q D K4 ad nr nL pj (lj y) (sj y) H1) → G F = some res → V p l e R s m args below meth c A H0 Q D K4 ad nr nL pc lv st H) : V p l e R s m args below meth c A H0 Q D K4 ad nr nL pc lv st H := kk kj h
theorem V_jn2 {Y1 Y2 ρ : Type} {res : ρ} (pj : Nat) (lj : Y1 → Y2 → List (Nat × Value)) (sj : Y1 → Y2 → List Value) {F : Y1 → Y2 → Hp → Option ρ} {G : (Y1 → Y2 → Hp → Option ρ) → Option ρ} (h : jn F G = some res) (kj : ∀ y z H1, F y z H1 = some res → V p l e R s m args below meth c A H0 Q D K4 ad nr nL pj (lj y z) (sj y z) H1) (kk : (∀ y z H1, F y z H1 = some res → V p l e R s m args below meth c A H0 Q D K4 ad nr nL pj (lj y z) (sj y z) H1) → G F = some res → V p l e R s m args below meth c A H0 Q D K4 ad nr nL pc lv st H) : V p l e R s m args below meth c A H0 Q D K4 ad nr nL pc lv st H := kk kj h
theorem V_jn3 {Y1 Y2 Y3 ρ : Type} {res : ρ} (pj : Nat) (lj : Y1 → Y2 → Y3 → List (Nat × Value)) (sj : Y1 → Y2 → Y3 → List Value) {F : Y1 → Y2 → Y3 → Hp → Option ρ} {G : (Y1 → Y2 → Y3 → Hp → Option ρ) → Option ρ} (h : jn F G = some res) (kj : ∀ y z t H1, F y z t H1 = some res → V p l e R s m args below meth c A H0 Q D K4 ad nr nL pj (lj y z t) (sj y z t) H1) (kk : (∀ y z t H1, F y z t H1 = some res → V p l e R s m args below meth c A H0 Q D K4 ad nr nL pj (lj y z t) (sj y z t) H1) → G F = some res → V p l e R s m args below meth c A H0 Q D K4 ad nr nL pc lv st H) : V p l e R s m args below meth c A H0 Q D K4 ad nr nL pc lv st H := kk kj h
theorem V_jn4 {Y1 Y2 Y3 Y4 ρ : Type} {res : ρ} (pj : Nat) (lj : Y1 → Y2 → Y3 → Y4 → List (Nat × Value)) (sj : Y1 → Y2 → Y3 → Y4 → List Value) {F : Y1 → Y2 → Y3 → Y4 → Hp → Option ρ} {G : (Y1 → Y2 → Y3 → Y4 → Hp → Option ρ) → Option ρ} (h : jn F G = some res) (kj : ∀ y z t u H1, F y z t u H1 = some res → V p l e R s m args below meth c A H0 Q D K4 ad nr nL pj (lj y z t u) (sj y z t u) H1) (kk : (∀ y z t u H1, F y z t u H1 = some res → V p l e R s m args below meth c A H0 Q D K4 ad nr nL pj (lj y z t u) (sj y z t u) H1) → G F = some res → V p l e R s m args below meth c A H0 Q D K4 ad nr nL pc lv st H) : V p l e R s m args below meth c A H0 Q D K4 ad nr nL pc lv st H := kk kj h
end

theorem uw0 : ∀ w ∈ u_ws RX0 TX0 5, w ∈ GW := gall (by decide +kernel) (by decide +kernel)
theorem uw1 : ∀ w ∈ u_ws RX1 TX1 4, w ∈ GW := gall (by decide +kernel) (by decide +kernel)
theorem uw2 : ∀ w ∈ u_ws RX2 TX2 9, w ∈ GW := gall (by decide +kernel) (by decide +kernel)
theorem uw3 : ∀ w ∈ u_ws RX3 TX3 13, w ∈ GW := gall (by decide +kernel) (by decide +kernel)
theorem uw4 : ∀ w ∈ u_ws RX4 TX4 4, w ∈ GW := gall (by decide +kernel) (by decide +kernel)
theorem uw5 : ∀ w ∈ u_ws RX5 TX5 12, w ∈ GW := gall (by decide +kernel) (by decide +kernel)
theorem uw6 : ∀ w ∈ u_ws RX6 TX6 9, w ∈ GW := gall (by decide +kernel) (by decide +kernel)
theorem uw7 : ∀ w ∈ u_ws RX7 TX7 11, w ∈ GW := gall (by decide +kernel) (by decide +kernel)
theorem uw8 : ∀ w ∈ u_ws RX8 TX8 4, w ∈ GW := gall (by decide +kernel) (by decide +kernel)
theorem uw9 : ∀ w ∈ u_ws RX9 TX9 56, w ∈ GW := gall (by decide +kernel) (by decide +kernel)
theorem cl_X1_28 : Cond.constant RX1 28 (1000000) ∈ GW := (gwm 790 (by decide +kernel) (by decide +kernel))
theorem cl_X1_64 : Cond.constant RX1 64 (1000000000) ∈ GW := (gwm 795 (by decide +kernel) (by decide +kernel))
theorem cl_X2_135 : Cond.constantLong RX2 135 (-1) ∈ GW := (gwm 946 (by decide +kernel) (by decide +kernel))
theorem cl_X4_26 : Cond.constantLong RX4 26 (-1) ∈ GW := (gwm 760 (by decide +kernel) (by decide +kernel))
theorem cl_X7_55 : Cond.constantLong RX7 55 (1000000000000) ∈ GW := (gwm 529 (by decide +kernel) (by decide +kernel))
theorem cl_X7_87 : Cond.constantLong RX7 87 (-1) ∈ GW := (gwm 528 (by decide +kernel) (by decide +kernel))
theorem cl_X8_138 : Cond.constantLong RX8 138 (-1) ∈ GW := (gwm 614 (by decide +kernel) (by decide +kernel))
theorem cl_X8_200 : Cond.constant RX8 200 (1000000) ∈ GW := (gwm 454 (by decide +kernel) (by decide +kernel))
theorem cl_X9_164 : Cond.constant RX9 164 (1000000) ∈ GW := (gwm 1168 (by decide +kernel) (by decide +kernel))
theorem cl_X9_189 : Cond.constantLong RX9 189 (-1) ∈ GW := (gwm 1201 (by decide +kernel) (by decide +kernel))
theorem cl_X9_191 : Cond.constantLong RX9 191 (1000000000000) ∈ GW := (gwm 1202 (by decide +kernel) (by decide +kernel))
theorem cl_X9_221 : Cond.constantLong RX9 221 (2) ∈ GW := (gwm 1239 (by decide +kernel) (by decide +kernel))
theorem cl_X9_267 : Cond.constantLong RX9 267 (1000000000000000) ∈ GW := (gwm 1320 (by decide +kernel) (by decide +kernel))
theorem fl_X0_15 : FL RX0 15 0 1 := ⟨RX0, TX0, 5, rfl, by decide, by decide, uw0, Or.inl (gwm 354 (by decide +kernel) (by decide +kernel))⟩
theorem fl_X0_18 : FL RX0 18 0 2 := ⟨RX0, TX0, 5, rfl, by decide, by decide, uw0, Or.inl (gwm 356 (by decide +kernel) (by decide +kernel))⟩
theorem fl_X0_9 : FL RX0 9 0 0 := ⟨RX0, TX0, 5, rfl, by decide, by decide, uw0, Or.inl (gwm 352 (by decide +kernel) (by decide +kernel))⟩
theorem fl_X1_15 : FL RX1 15 1 1 := ⟨RX1, TX1, 4, rfl, by decide, by decide, uw1, Or.inl (gwm 138 (by decide +kernel) (by decide +kernel))⟩
theorem fl_X1_18 : FL RX1 18 1 2 := ⟨RX1, TX1, 4, rfl, by decide, by decide, uw1, Or.inl (gwm 139 (by decide +kernel) (by decide +kernel))⟩
theorem fl_X1_21 : FL RX1 21 1 3 := ⟨RX1, TX1, 4, rfl, by decide, by decide, uw1, Or.inl (gwm 140 (by decide +kernel) (by decide +kernel))⟩
theorem fl_X1_40 : FL RX1 40 3 11 := ⟨RX3, TX3, 13, rfl, by decide, by decide, uw3, Or.inr ⟨"CounterPlacer", nwm 207 (by decide +kernel) (by decide +kernel)⟩⟩
theorem fl_X1_52 : FL RX1 52 3 10 := ⟨RX3, TX3, 13, rfl, by decide, by decide, uw3, Or.inr ⟨"CounterPlacer", nwm 203 (by decide +kernel) (by decide +kernel)⟩⟩
theorem fl_X1_55 : FL RX1 55 3 12 := ⟨RX3, TX3, 13, rfl, by decide, by decide, uw3, Or.inr ⟨"CounterPlacer", nwm 212 (by decide +kernel) (by decide +kernel)⟩⟩
theorem fl_X1_58 : FL RX1 58 3 5 := ⟨RX3, TX3, 13, rfl, by decide, by decide, uw3, Or.inr ⟨"CounterPlacer", nwm 187 (by decide +kernel) (by decide +kernel)⟩⟩
theorem fl_X1_61 : FL RX1 61 3 6 := ⟨RX3, TX3, 13, rfl, by decide, by decide, uw3, Or.inr ⟨"CounterPlacer", nwm 191 (by decide +kernel) (by decide +kernel)⟩⟩
theorem fl_X1_9 : FL RX1 9 1 0 := ⟨RX1, TX1, 4, rfl, by decide, by decide, uw1, Or.inl (gwm 137 (by decide +kernel) (by decide +kernel))⟩
theorem fl_X2_100 : FL RX2 100 3 10 := ⟨RX3, TX3, 13, rfl, by decide, by decide, uw3, Or.inr ⟨"CounterPlacer", nwm 206 (by decide +kernel) (by decide +kernel)⟩⟩
theorem fl_X2_103 : FL RX2 103 3 11 := ⟨RX3, TX3, 13, rfl, by decide, by decide, uw3, Or.inr ⟨"CounterPlacer", nwm 210 (by decide +kernel) (by decide +kernel)⟩⟩
theorem fl_X2_106 : FL RX2 106 5 10 := ⟨RX5, TX5, 12, rfl, by decide, by decide, uw5, Or.inr ⟨"CounterPlacer", nwm 313 (by decide +kernel) (by decide +kernel)⟩⟩
theorem fl_X2_109 : FL RX2 109 5 11 := ⟨RX5, TX5, 12, rfl, by decide, by decide, uw5, Or.inr ⟨"CounterPlacer", nwm 316 (by decide +kernel) (by decide +kernel)⟩⟩
theorem fl_X2_113 : FL RX2 113 7 10 := ⟨RX7, TX7, 11, rfl, by decide, by decide, uw7, Or.inr ⟨"CounterPlacer", nwm 269 (by decide +kernel) (by decide +kernel)⟩⟩
theorem fl_X2_116 : FL RX2 116 0 3 := ⟨RX0, TX0, 5, rfl, by decide, by decide, uw0, Or.inr ⟨"CounterPlacer", nwm 359 (by decide +kernel) (by decide +kernel)⟩⟩
theorem fl_X2_119 : FL RX2 119 4 3 := ⟨RX4, TX4, 4, rfl, by decide, by decide, uw4, Or.inr ⟨"CounterPlacer", nwm 386 (by decide +kernel) (by decide +kernel)⟩⟩
theorem fl_X2_122 : FL RX2 122 4 2 := ⟨RX4, TX4, 4, rfl, by decide, by decide, uw4, Or.inr ⟨"CounterPlacer", nwm 384 (by decide +kernel) (by decide +kernel)⟩⟩
theorem fl_X2_125 : FL RX2 125 0 4 := ⟨RX0, TX0, 5, rfl, by decide, by decide, uw0, Or.inr ⟨"CounterPlacer", nwm 361 (by decide +kernel) (by decide +kernel)⟩⟩
theorem fl_X2_137 : FL RX2 137 0 0 := ⟨RX0, TX0, 5, rfl, by decide, by decide, uw0, Or.inr ⟨"CounterPlacer", nwm 353 (by decide +kernel) (by decide +kernel)⟩⟩
theorem fl_X2_140 : FL RX2 140 0 1 := ⟨RX0, TX0, 5, rfl, by decide, by decide, uw0, Or.inr ⟨"CounterPlacer", nwm 355 (by decide +kernel) (by decide +kernel)⟩⟩
theorem fl_X2_143 : FL RX2 143 7 4 := ⟨RX7, TX7, 11, rfl, by decide, by decide, uw7, Or.inr ⟨"CounterPlacer", nwm 260 (by decide +kernel) (by decide +kernel)⟩⟩
theorem fl_X2_146 : FL RX2 146 7 5 := ⟨RX7, TX7, 11, rfl, by decide, by decide, uw7, Or.inr ⟨"CounterPlacer", nwm 263 (by decide +kernel) (by decide +kernel)⟩⟩
theorem fl_X2_149 : FL RX2 149 7 1 := ⟨RX7, TX7, 11, rfl, by decide, by decide, uw7, Or.inr ⟨"CounterPlacer", nwm 253 (by decide +kernel) (by decide +kernel)⟩⟩
theorem fl_X2_15 : FL RX2 15 2 7 := ⟨RX2, TX2, 9, rfl, by decide, by decide, uw2, Or.inl (gwm 412 (by decide +kernel) (by decide +kernel))⟩
theorem fl_X2_152 : FL RX2 152 7 2 := ⟨RX7, TX7, 11, rfl, by decide, by decide, uw7, Or.inr ⟨"CounterPlacer", nwm 255 (by decide +kernel) (by decide +kernel)⟩⟩
theorem fl_X2_155 : FL RX2 155 7 3 := ⟨RX7, TX7, 11, rfl, by decide, by decide, uw7, Or.inr ⟨"CounterPlacer", nwm 258 (by decide +kernel) (by decide +kernel)⟩⟩
theorem fl_X2_158 : FL RX2 158 0 2 := ⟨RX0, TX0, 5, rfl, by decide, by decide, uw0, Or.inr ⟨"CounterPlacer", nwm 357 (by decide +kernel) (by decide +kernel)⟩⟩
theorem fl_X2_171 : FL RX2 171 5 8 := ⟨RX5, TX5, 12, rfl, by decide, by decide, uw5, Or.inr ⟨"CounterPlacer", nwm 310 (by decide +kernel) (by decide +kernel)⟩⟩
theorem fl_X2_174 : FL RX2 174 4 0 := ⟨RX4, TX4, 4, rfl, by decide, by decide, uw4, Or.inr ⟨"CounterPlacer", nwm 380 (by decide +kernel) (by decide +kernel)⟩⟩
theorem fl_X2_184 : FL RX2 184 4 1 := ⟨RX4, TX4, 4, rfl, by decide, by decide, uw4, Or.inr ⟨"CounterPlacer", nwm 382 (by decide +kernel) (by decide +kernel)⟩⟩
theorem fl_X2_19 : FL RX2 19 2 0 := ⟨RX2, TX2, 9, rfl, by decide, by decide, uw2, Or.inl (gwm 396 (by decide +kernel) (by decide +kernel))⟩
theorem fl_X2_23 : FL RX2 23 2 1 := ⟨RX2, TX2, 9, rfl, by decide, by decide, uw2, Or.inl (gwm 398 (by decide +kernel) (by decide +kernel))⟩
theorem fl_X2_27 : FL RX2 27 2 2 := ⟨RX2, TX2, 9, rfl, by decide, by decide, uw2, Or.inl (gwm 401 (by decide +kernel) (by decide +kernel))⟩
theorem fl_X2_31 : FL RX2 31 2 3 := ⟨RX2, TX2, 9, rfl, by decide, by decide, uw2, Or.inl (gwm 404 (by decide +kernel) (by decide +kernel))⟩
theorem fl_X2_38 : FL RX2 38 2 4 := ⟨RX2, TX2, 9, rfl, by decide, by decide, uw2, Or.inl (gwm 406 (by decide +kernel) (by decide +kernel))⟩
theorem fl_X2_45 : FL RX2 45 2 5 := ⟨RX2, TX2, 9, rfl, by decide, by decide, uw2, Or.inl (gwm 407 (by decide +kernel) (by decide +kernel))⟩
theorem fl_X2_63 : FL RX2 63 2 8 := ⟨RX2, TX2, 9, rfl, by decide, by decide, uw2, Or.inl (gwm 413 (by decide +kernel) (by decide +kernel))⟩
theorem fl_X2_81 : FL RX2 81 5 1 := ⟨RX5, TX5, 12, rfl, by decide, by decide, uw5, Or.inr ⟨"CounterPlacer", nwm 301 (by decide +kernel) (by decide +kernel)⟩⟩
theorem fl_X2_96 : FL RX2 96 5 2 := ⟨RX5, TX5, 12, rfl, by decide, by decide, uw5, Or.inr ⟨"CounterPlacer", nwm 303 (by decide +kernel) (by decide +kernel)⟩⟩
theorem fl_X3_15 : FL RX3 15 3 1 := ⟨RX3, TX3, 13, rfl, by decide, by decide, uw3, Or.inl (gwm 178 (by decide +kernel) (by decide +kernel))⟩
theorem fl_X3_18 : FL RX3 18 3 2 := ⟨RX3, TX3, 13, rfl, by decide, by decide, uw3, Or.inl (gwm 180 (by decide +kernel) (by decide +kernel))⟩
theorem fl_X3_21 : FL RX3 21 3 3 := ⟨RX3, TX3, 13, rfl, by decide, by decide, uw3, Or.inl (gwm 183 (by decide +kernel) (by decide +kernel))⟩
theorem fl_X3_24 : FL RX3 24 3 4 := ⟨RX3, TX3, 13, rfl, by decide, by decide, uw3, Or.inl (gwm 184 (by decide +kernel) (by decide +kernel))⟩
theorem fl_X3_27 : FL RX3 27 3 5 := ⟨RX3, TX3, 13, rfl, by decide, by decide, uw3, Or.inl (gwm 186 (by decide +kernel) (by decide +kernel))⟩
theorem fl_X3_30 : FL RX3 30 3 6 := ⟨RX3, TX3, 13, rfl, by decide, by decide, uw3, Or.inl (gwm 190 (by decide +kernel) (by decide +kernel))⟩
theorem fl_X3_33 : FL RX3 33 3 7 := ⟨RX3, TX3, 13, rfl, by decide, by decide, uw3, Or.inl (gwm 195 (by decide +kernel) (by decide +kernel))⟩
theorem fl_X3_36 : FL RX3 36 3 8 := ⟨RX3, TX3, 13, rfl, by decide, by decide, uw3, Or.inl (gwm 198 (by decide +kernel) (by decide +kernel))⟩
theorem fl_X3_40 : FL RX3 40 3 9 := ⟨RX3, TX3, 13, rfl, by decide, by decide, uw3, Or.inl (gwm 201 (by decide +kernel) (by decide +kernel))⟩
theorem fl_X3_43 : FL RX3 43 3 10 := ⟨RX3, TX3, 13, rfl, by decide, by decide, uw3, Or.inl (gwm 202 (by decide +kernel) (by decide +kernel))⟩
theorem fl_X3_47 : FL RX3 47 3 11 := ⟨RX3, TX3, 13, rfl, by decide, by decide, uw3, Or.inl (gwm 208 (by decide +kernel) (by decide +kernel))⟩
theorem fl_X3_71 : FL RX3 71 3 12 := ⟨RX3, TX3, 13, rfl, by decide, by decide, uw3, Or.inl (gwm 214 (by decide +kernel) (by decide +kernel))⟩
theorem fl_X3_9 : FL RX3 9 3 0 := ⟨RX3, TX3, 13, rfl, by decide, by decide, uw3, Or.inl (gwm 176 (by decide +kernel) (by decide +kernel))⟩
theorem fl_X4_15 : FL RX4 15 4 1 := ⟨RX4, TX4, 4, rfl, by decide, by decide, uw4, Or.inl (gwm 381 (by decide +kernel) (by decide +kernel))⟩
theorem fl_X4_18 : FL RX4 18 4 2 := ⟨RX4, TX4, 4, rfl, by decide, by decide, uw4, Or.inl (gwm 383 (by decide +kernel) (by decide +kernel))⟩
theorem fl_X4_22 : FL RX4 22 4 3 := ⟨RX4, TX4, 4, rfl, by decide, by decide, uw4, Or.inl (gwm 385 (by decide +kernel) (by decide +kernel))⟩
theorem fl_X4_9 : FL RX4 9 4 0 := ⟨RX4, TX4, 4, rfl, by decide, by decide, uw4, Or.inl (gwm 379 (by decide +kernel) (by decide +kernel))⟩
theorem fl_X5_15 : FL RX5 15 5 2 := ⟨RX5, TX5, 12, rfl, by decide, by decide, uw5, Or.inl (gwm 302 (by decide +kernel) (by decide +kernel))⟩
theorem fl_X5_19 : FL RX5 19 5 3 := ⟨RX5, TX5, 12, rfl, by decide, by decide, uw5, Or.inl (gwm 304 (by decide +kernel) (by decide +kernel))⟩
theorem fl_X5_22 : FL RX5 22 5 4 := ⟨RX5, TX5, 12, rfl, by decide, by decide, uw5, Or.inl (gwm 305 (by decide +kernel) (by decide +kernel))⟩
theorem fl_X5_25 : FL RX5 25 5 5 := ⟨RX5, TX5, 12, rfl, by decide, by decide, uw5, Or.inl (gwm 306 (by decide +kernel) (by decide +kernel))⟩
theorem fl_X5_28 : FL RX5 28 5 6 := ⟨RX5, TX5, 12, rfl, by decide, by decide, uw5, Or.inl (gwm 307 (by decide +kernel) (by decide +kernel))⟩
theorem fl_X5_31 : FL RX5 31 5 7 := ⟨RX5, TX5, 12, rfl, by decide, by decide, uw5, Or.inl (gwm 308 (by decide +kernel) (by decide +kernel))⟩
theorem fl_X5_35 : FL RX5 35 5 8 := ⟨RX5, TX5, 12, rfl, by decide, by decide, uw5, Or.inl (gwm 309 (by decide +kernel) (by decide +kernel))⟩
theorem fl_X5_38 : FL RX5 38 5 0 := ⟨RX5, TX5, 12, rfl, by decide, by decide, uw5, Or.inl (gwm 299 (by decide +kernel) (by decide +kernel))⟩
theorem fl_X5_51 : FL RX5 51 3 11 := ⟨RX3, TX3, 13, rfl, by decide, by decide, uw3, Or.inr ⟨"CounterPlacer", nwm 209 (by decide +kernel) (by decide +kernel)⟩⟩
theorem fl_X5_57 : FL RX5 57 3 7 := ⟨RX3, TX3, 13, rfl, by decide, by decide, uw3, Or.inr ⟨"CounterPlacer", nwm 196 (by decide +kernel) (by decide +kernel)⟩⟩
theorem fl_X5_60 : FL RX5 60 3 10 := ⟨RX3, TX3, 13, rfl, by decide, by decide, uw3, Or.inr ⟨"CounterPlacer", nwm 205 (by decide +kernel) (by decide +kernel)⟩⟩
theorem fl_X5_63 : FL RX5 63 3 12 := ⟨RX3, TX3, 13, rfl, by decide, by decide, uw3, Or.inr ⟨"CounterPlacer", nwm 213 (by decide +kernel) (by decide +kernel)⟩⟩
theorem fl_X5_70 : FL RX5 70 5 10 := ⟨RX5, TX5, 12, rfl, by decide, by decide, uw5, Or.inl (gwm 312 (by decide +kernel) (by decide +kernel))⟩
theorem fl_X5_73 : FL RX5 73 5 11 := ⟨RX5, TX5, 12, rfl, by decide, by decide, uw5, Or.inl (gwm 315 (by decide +kernel) (by decide +kernel))⟩
theorem fl_X5_77 : FL RX5 77 3 5 := ⟨RX3, TX3, 13, rfl, by decide, by decide, uw3, Or.inr ⟨"CounterPlacer", nwm 188 (by decide +kernel) (by decide +kernel)⟩⟩
theorem fl_X5_80 : FL RX5 80 3 6 := ⟨RX3, TX3, 13, rfl, by decide, by decide, uw3, Or.inr ⟨"CounterPlacer", nwm 192 (by decide +kernel) (by decide +kernel)⟩⟩
theorem fl_X5_83 : FL RX5 83 5 9 := ⟨RX5, TX5, 12, rfl, by decide, by decide, uw5, Or.inl (gwm 311 (by decide +kernel) (by decide +kernel))⟩
theorem fl_X5_9 : FL RX5 9 5 1 := ⟨RX5, TX5, 12, rfl, by decide, by decide, uw5, Or.inl (gwm 300 (by decide +kernel) (by decide +kernel))⟩
theorem fl_X6_103 : FL RX6 103 2 8 := ⟨RX2, TX2, 9, rfl, by decide, by decide, uw2, Or.inr ⟨"CounterPlacer", nwm 415 (by decide +kernel) (by decide +kernel)⟩⟩
theorem fl_X6_11 : FL RX6 11 6 0 := ⟨RX6, TX6, 9, rfl, by decide, by decide, uw6, Or.inl (gwm 100 (by decide +kernel) (by decide +kernel))⟩
theorem fl_X6_110 : FL RX6 110 3 6 := ⟨RX3, TX3, 13, rfl, by decide, by decide, uw3, Or.inr ⟨"CounterPlacer", nwm 194 (by decide +kernel) (by decide +kernel)⟩⟩
theorem fl_X6_116 : FL RX6 116 2 2 := ⟨RX2, TX2, 9, rfl, by decide, by decide, uw2, Or.inr ⟨"CounterPlacer", nwm 402 (by decide +kernel) (by decide +kernel)⟩⟩
theorem fl_X6_120 : FL RX6 120 7 4 := ⟨RX7, TX7, 11, rfl, by decide, by decide, uw7, Or.inr ⟨"CounterPlacer", nwm 261 (by decide +kernel) (by decide +kernel)⟩⟩
theorem fl_X6_125 : FL RX6 125 3 8 := ⟨RX3, TX3, 13, rfl, by decide, by decide, uw3, Or.inr ⟨"CounterPlacer", nwm 200 (by decide +kernel) (by decide +kernel)⟩⟩
theorem fl_X6_129 : FL RX6 129 7 2 := ⟨RX7, TX7, 11, rfl, by decide, by decide, uw7, Or.inr ⟨"CounterPlacer", nwm 256 (by decide +kernel) (by decide +kernel)⟩⟩
theorem fl_X6_140 : FL RX6 140 2 0 := ⟨RX2, TX2, 9, rfl, by decide, by decide, uw2, Or.inr ⟨"CounterPlacer", nwm 397 (by decide +kernel) (by decide +kernel)⟩⟩
theorem fl_X6_17 : FL RX6 17 6 1 := ⟨RX6, TX6, 9, rfl, by decide, by decide, uw6, Or.inl (gwm 101 (by decide +kernel) (by decide +kernel))⟩
theorem fl_X6_21 : FL RX6 21 6 2 := ⟨RX6, TX6, 9, rfl, by decide, by decide, uw6, Or.inl (gwm 102 (by decide +kernel) (by decide +kernel))⟩
theorem fl_X6_25 : FL RX6 25 6 4 := ⟨RX6, TX6, 9, rfl, by decide, by decide, uw6, Or.inl (gwm 104 (by decide +kernel) (by decide +kernel))⟩
theorem fl_X6_32 : FL RX6 32 6 5 := ⟨RX6, TX6, 9, rfl, by decide, by decide, uw6, Or.inl (gwm 106 (by decide +kernel) (by decide +kernel))⟩
theorem fl_X6_35 : FL RX6 35 6 6 := ⟨RX6, TX6, 9, rfl, by decide, by decide, uw6, Or.inl (gwm 107 (by decide +kernel) (by decide +kernel))⟩
theorem fl_X6_42 : FL RX6 42 6 8 := ⟨RX6, TX6, 9, rfl, by decide, by decide, uw6, Or.inl (gwm 109 (by decide +kernel) (by decide +kernel))⟩
theorem fl_X6_45 : FL RX6 45 6 7 := ⟨RX6, TX6, 9, rfl, by decide, by decide, uw6, Or.inl (gwm 108 (by decide +kernel) (by decide +kernel))⟩
theorem fl_X6_56 : FL RX6 56 6 3 := ⟨RX6, TX6, 9, rfl, by decide, by decide, uw6, Or.inl (gwm 103 (by decide +kernel) (by decide +kernel))⟩
theorem fl_X6_59 : FL RX6 59 2 1 := ⟨RX2, TX2, 9, rfl, by decide, by decide, uw2, Or.inr ⟨"CounterPlacer", nwm 400 (by decide +kernel) (by decide +kernel)⟩⟩
theorem fl_X6_63 : FL RX6 63 3 0 := ⟨RX3, TX3, 13, rfl, by decide, by decide, uw3, Or.inr ⟨"CounterPlacer", nwm 177 (by decide +kernel) (by decide +kernel)⟩⟩
theorem fl_X6_76 : FL RX6 76 3 2 := ⟨RX3, TX3, 13, rfl, by decide, by decide, uw3, Or.inr ⟨"CounterPlacer", nwm 182 (by decide +kernel) (by decide +kernel)⟩⟩
theorem fl_X6_83 : FL RX6 83 3 1 := ⟨RX3, TX3, 13, rfl, by decide, by decide, uw3, Or.inr ⟨"CounterPlacer", nwm 179 (by decide +kernel) (by decide +kernel)⟩⟩
theorem fl_X6_93 : FL RX6 93 2 5 := ⟨RX2, TX2, 9, rfl, by decide, by decide, uw2, Or.inr ⟨"CounterPlacer", nwm 408 (by decide +kernel) (by decide +kernel)⟩⟩
theorem fl_X7_104 : FL RX7 104 7 9 := ⟨RX7, TX7, 11, rfl, by decide, by decide, uw7, Or.inl (gwm 267 (by decide +kernel) (by decide +kernel))⟩
theorem fl_X7_15 : FL RX7 15 7 2 := ⟨RX7, TX7, 11, rfl, by decide, by decide, uw7, Or.inl (gwm 254 (by decide +kernel) (by decide +kernel))⟩
theorem fl_X7_18 : FL RX7 18 7 3 := ⟨RX7, TX7, 11, rfl, by decide, by decide, uw7, Or.inl (gwm 257 (by decide +kernel) (by decide +kernel))⟩
theorem fl_X7_21 : FL RX7 21 7 4 := ⟨RX7, TX7, 11, rfl, by decide, by decide, uw7, Or.inl (gwm 259 (by decide +kernel) (by decide +kernel))⟩
theorem fl_X7_24 : FL RX7 24 7 5 := ⟨RX7, TX7, 11, rfl, by decide, by decide, uw7, Or.inl (gwm 262 (by decide +kernel) (by decide +kernel))⟩
theorem fl_X7_27 : FL RX7 27 7 6 := ⟨RX7, TX7, 11, rfl, by decide, by decide, uw7, Or.inl (gwm 264 (by decide +kernel) (by decide +kernel))⟩
theorem fl_X7_31 : FL RX7 31 7 7 := ⟨RX7, TX7, 11, rfl, by decide, by decide, uw7, Or.inl (gwm 265 (by decide +kernel) (by decide +kernel))⟩
theorem fl_X7_34 : FL RX7 34 7 8 := ⟨RX7, TX7, 11, rfl, by decide, by decide, uw7, Or.inl (gwm 266 (by decide +kernel) (by decide +kernel))⟩
theorem fl_X7_37 : FL RX7 37 7 0 := ⟨RX7, TX7, 11, rfl, by decide, by decide, uw7, Or.inl (gwm 251 (by decide +kernel) (by decide +kernel))⟩
theorem fl_X7_51 : FL RX7 51 7 10 := ⟨RX7, TX7, 11, rfl, by decide, by decide, uw7, Or.inl (gwm 268 (by decide +kernel) (by decide +kernel))⟩
theorem fl_X7_57 : FL RX7 57 3 10 := ⟨RX3, TX3, 13, rfl, by decide, by decide, uw3, Or.inr ⟨"CounterPlacer", nwm 204 (by decide +kernel) (by decide +kernel)⟩⟩
theorem fl_X7_71 : FL RX7 71 3 2 := ⟨RX3, TX3, 13, rfl, by decide, by decide, uw3, Or.inr ⟨"CounterPlacer", nwm 181 (by decide +kernel) (by decide +kernel)⟩⟩
theorem fl_X7_74 : FL RX7 74 3 4 := ⟨RX3, TX3, 13, rfl, by decide, by decide, uw3, Or.inr ⟨"CounterPlacer", nwm 185 (by decide +kernel) (by decide +kernel)⟩⟩
theorem fl_X7_80 : FL RX7 80 3 8 := ⟨RX3, TX3, 13, rfl, by decide, by decide, uw3, Or.inr ⟨"CounterPlacer", nwm 199 (by decide +kernel) (by decide +kernel)⟩⟩
theorem fl_X7_84 : FL RX7 84 3 6 := ⟨RX3, TX3, 13, rfl, by decide, by decide, uw3, Or.inr ⟨"CounterPlacer", nwm 193 (by decide +kernel) (by decide +kernel)⟩⟩
theorem fl_X7_89 : FL RX7 89 3 11 := ⟨RX3, TX3, 13, rfl, by decide, by decide, uw3, Or.inr ⟨"CounterPlacer", nwm 211 (by decide +kernel) (by decide +kernel)⟩⟩
theorem fl_X7_9 : FL RX7 9 7 1 := ⟨RX7, TX7, 11, rfl, by decide, by decide, uw7, Or.inl (gwm 252 (by decide +kernel) (by decide +kernel))⟩
theorem fl_X7_96 : FL RX7 96 3 5 := ⟨RX3, TX3, 13, rfl, by decide, by decide, uw3, Or.inr ⟨"CounterPlacer", nwm 189 (by decide +kernel) (by decide +kernel)⟩⟩
theorem fl_X8_11 : FL RX8 11 8 0 := ⟨RX8, TX8, 4, rfl, by decide, by decide, uw8, Or.inl (gwm 150 (by decide +kernel) (by decide +kernel))⟩
theorem fl_X8_154 : FL RX8 154 6 4 := ⟨RX6, TX6, 9, rfl, by decide, by decide, uw6, Or.inr ⟨"CounterPlacer", nwm 105 (by decide +kernel) (by decide +kernel)⟩⟩
theorem fl_X8_165 : FL RX8 165 2 2 := ⟨RX2, TX2, 9, rfl, by decide, by decide, uw2, Or.inr ⟨"CounterPlacer", nwm 403 (by decide +kernel) (by decide +kernel)⟩⟩
theorem fl_X8_18 : FL RX8 18 8 1 := ⟨RX8, TX8, 4, rfl, by decide, by decide, uw8, Or.inl (gwm 151 (by decide +kernel) (by decide +kernel))⟩
theorem fl_X8_181 : FL RX8 181 2 5 := ⟨RX2, TX2, 9, rfl, by decide, by decide, uw2, Or.inr ⟨"CounterPlacer", nwm 409 (by decide +kernel) (by decide +kernel)⟩⟩
theorem fl_X8_193 : FL RX8 193 2 6 := ⟨RX2, TX2, 9, rfl, by decide, by decide, uw2, Or.inr ⟨"CounterPlacer", nwm 411 (by decide +kernel) (by decide +kernel)⟩⟩
theorem fl_X8_25 : FL RX8 25 8 2 := ⟨RX8, TX8, 4, rfl, by decide, by decide, uw8, Or.inl (gwm 152 (by decide +kernel) (by decide +kernel))⟩
theorem fl_X8_40 : FL RX8 40 2 8 := ⟨RX2, TX2, 9, rfl, by decide, by decide, uw2, Or.inr ⟨"CounterPlacer", nwm 414 (by decide +kernel) (by decide +kernel)⟩⟩
theorem fl_X8_44 : FL RX8 44 2 1 := ⟨RX2, TX2, 9, rfl, by decide, by decide, uw2, Or.inr ⟨"CounterPlacer", nwm 399 (by decide +kernel) (by decide +kernel)⟩⟩
theorem fl_X8_65 : FL RX8 65 3 7 := ⟨RX3, TX3, 13, rfl, by decide, by decide, uw3, Or.inr ⟨"CounterPlacer", nwm 197 (by decide +kernel) (by decide +kernel)⟩⟩
theorem fl_X8_82 : FL RX8 82 2 3 := ⟨RX2, TX2, 9, rfl, by decide, by decide, uw2, Or.inr ⟨"CounterPlacer", nwm 405 (by decide +kernel) (by decide +kernel)⟩⟩
theorem fl_X8_86 : FL RX8 86 5 10 := ⟨RX5, TX5, 12, rfl, by decide, by decide, uw5, Or.inr ⟨"CounterPlacer", nwm 314 (by decide +kernel) (by decide +kernel)⟩⟩
theorem fl_X9_102 : FL RX9 102 9 36 := ⟨RX9, TX9, 56, rfl, by decide, by decide, uw9, Or.inl (gwm 1008 (by decide +kernel) (by decide +kernel))⟩
theorem fl_X9_105 : FL RX9 105 9 37 := ⟨RX9, TX9, 56, rfl, by decide, by decide, uw9, Or.inl (gwm 1009 (by decide +kernel) (by decide +kernel))⟩
theorem fl_X9_108 : FL RX9 108 9 38 := ⟨RX9, TX9, 56, rfl, by decide, by decide, uw9, Or.inl (gwm 1010 (by decide +kernel) (by decide +kernel))⟩
theorem fl_X9_111 : FL RX9 111 9 39 := ⟨RX9, TX9, 56, rfl, by decide, by decide, uw9, Or.inl (gwm 1011 (by decide +kernel) (by decide +kernel))⟩
theorem fl_X9_114 : FL RX9 114 9 40 := ⟨RX9, TX9, 56, rfl, by decide, by decide, uw9, Or.inl (gwm 1012 (by decide +kernel) (by decide +kernel))⟩
theorem fl_X9_117 : FL RX9 117 9 41 := ⟨RX9, TX9, 56, rfl, by decide, by decide, uw9, Or.inl (gwm 1013 (by decide +kernel) (by decide +kernel))⟩
theorem fl_X9_120 : FL RX9 120 9 42 := ⟨RX9, TX9, 56, rfl, by decide, by decide, uw9, Or.inl (gwm 1014 (by decide +kernel) (by decide +kernel))⟩
theorem fl_X9_123 : FL RX9 123 9 44 := ⟨RX9, TX9, 56, rfl, by decide, by decide, uw9, Or.inl (gwm 1016 (by decide +kernel) (by decide +kernel))⟩
theorem fl_X9_126 : FL RX9 126 9 45 := ⟨RX9, TX9, 56, rfl, by decide, by decide, uw9, Or.inl (gwm 1017 (by decide +kernel) (by decide +kernel))⟩
theorem fl_X9_129 : FL RX9 129 9 46 := ⟨RX9, TX9, 56, rfl, by decide, by decide, uw9, Or.inl (gwm 1018 (by decide +kernel) (by decide +kernel))⟩
theorem fl_X9_13 : FL RX9 13 9 2 := ⟨RX9, TX9, 56, rfl, by decide, by decide, uw9, Or.inl (gwm 974 (by decide +kernel) (by decide +kernel))⟩
theorem fl_X9_132 : FL RX9 132 9 48 := ⟨RX9, TX9, 56, rfl, by decide, by decide, uw9, Or.inl (gwm 1020 (by decide +kernel) (by decide +kernel))⟩
theorem fl_X9_135 : FL RX9 135 9 49 := ⟨RX9, TX9, 56, rfl, by decide, by decide, uw9, Or.inl (gwm 1021 (by decide +kernel) (by decide +kernel))⟩
theorem fl_X9_138 : FL RX9 138 9 50 := ⟨RX9, TX9, 56, rfl, by decide, by decide, uw9, Or.inl (gwm 1022 (by decide +kernel) (by decide +kernel))⟩
theorem fl_X9_141 : FL RX9 141 9 51 := ⟨RX9, TX9, 56, rfl, by decide, by decide, uw9, Or.inl (gwm 1023 (by decide +kernel) (by decide +kernel))⟩
theorem fl_X9_144 : FL RX9 144 9 53 := ⟨RX9, TX9, 56, rfl, by decide, by decide, uw9, Or.inl (gwm 1025 (by decide +kernel) (by decide +kernel))⟩
theorem fl_X9_147 : FL RX9 147 9 54 := ⟨RX9, TX9, 56, rfl, by decide, by decide, uw9, Or.inl (gwm 1026 (by decide +kernel) (by decide +kernel))⟩
theorem fl_X9_150 : FL RX9 150 9 55 := ⟨RX9, TX9, 56, rfl, by decide, by decide, uw9, Or.inl (gwm 1027 (by decide +kernel) (by decide +kernel))⟩
theorem fl_X9_153 : FL RX9 153 9 34 := ⟨RX9, TX9, 56, rfl, by decide, by decide, uw9, Or.inl (gwm 1006 (by decide +kernel) (by decide +kernel))⟩
theorem fl_X9_157 : FL RX9 157 9 0 := ⟨RX9, TX9, 56, rfl, by decide, by decide, uw9, Or.inl (gwm 972 (by decide +kernel) (by decide +kernel))⟩
theorem fl_X9_16 : FL RX9 16 9 3 := ⟨RX9, TX9, 56, rfl, by decide, by decide, uw9, Or.inl (gwm 975 (by decide +kernel) (by decide +kernel))⟩
theorem fl_X9_20 : FL RX9 20 9 4 := ⟨RX9, TX9, 56, rfl, by decide, by decide, uw9, Or.inl (gwm 976 (by decide +kernel) (by decide +kernel))⟩
theorem fl_X9_211 : FL RX9 211 9 28 := ⟨RX9, TX9, 56, rfl, by decide, by decide, uw9, Or.inl (gwm 1000 (by decide +kernel) (by decide +kernel))⟩
theorem fl_X9_226 : FL RX9 226 9 43 := ⟨RX9, TX9, 56, rfl, by decide, by decide, uw9, Or.inl (gwm 1015 (by decide +kernel) (by decide +kernel))⟩
theorem fl_X9_23 : FL RX9 23 9 5 := ⟨RX9, TX9, 56, rfl, by decide, by decide, uw9, Or.inl (gwm 977 (by decide +kernel) (by decide +kernel))⟩
theorem fl_X9_238 : FL RX9 238 9 27 := ⟨RX9, TX9, 56, rfl, by decide, by decide, uw9, Or.inl (gwm 999 (by decide +kernel) (by decide +kernel))⟩
theorem fl_X9_241 : FL RX9 241 9 29 := ⟨RX9, TX9, 56, rfl, by decide, by decide, uw9, Or.inl (gwm 1001 (by decide +kernel) (by decide +kernel))⟩
theorem fl_X9_244 : FL RX9 244 9 30 := ⟨RX9, TX9, 56, rfl, by decide, by decide, uw9, Or.inl (gwm 1002 (by decide +kernel) (by decide +kernel))⟩
theorem fl_X9_257 : FL RX9 257 9 47 := ⟨RX9, TX9, 56, rfl, by decide, by decide, uw9, Or.inl (gwm 1019 (by decide +kernel) (by decide +kernel))⟩
theorem fl_X9_26 : FL RX9 26 9 6 := ⟨RX9, TX9, 56, rfl, by decide, by decide, uw9, Or.inl (gwm 978 (by decide +kernel) (by decide +kernel))⟩
theorem fl_X9_264 : FL RX9 264 9 52 := ⟨RX9, TX9, 56, rfl, by decide, by decide, uw9, Or.inl (gwm 1024 (by decide +kernel) (by decide +kernel))⟩
theorem fl_X9_29 : FL RX9 29 9 7 := ⟨RX9, TX9, 56, rfl, by decide, by decide, uw9, Or.inl (gwm 979 (by decide +kernel) (by decide +kernel))⟩
theorem fl_X9_32 : FL RX9 32 9 8 := ⟨RX9, TX9, 56, rfl, by decide, by decide, uw9, Or.inl (gwm 980 (by decide +kernel) (by decide +kernel))⟩
theorem fl_X9_35 : FL RX9 35 9 9 := ⟨RX9, TX9, 56, rfl, by decide, by decide, uw9, Or.inl (gwm 981 (by decide +kernel) (by decide +kernel))⟩
theorem fl_X9_38 : FL RX9 38 9 10 := ⟨RX9, TX9, 56, rfl, by decide, by decide, uw9, Or.inl (gwm 982 (by decide +kernel) (by decide +kernel))⟩
theorem fl_X9_41 : FL RX9 41 9 11 := ⟨RX9, TX9, 56, rfl, by decide, by decide, uw9, Or.inl (gwm 983 (by decide +kernel) (by decide +kernel))⟩
theorem fl_X9_44 : FL RX9 44 9 12 := ⟨RX9, TX9, 56, rfl, by decide, by decide, uw9, Or.inl (gwm 984 (by decide +kernel) (by decide +kernel))⟩
theorem fl_X9_48 : FL RX9 48 9 13 := ⟨RX9, TX9, 56, rfl, by decide, by decide, uw9, Or.inl (gwm 985 (by decide +kernel) (by decide +kernel))⟩
theorem fl_X9_51 : FL RX9 51 9 14 := ⟨RX9, TX9, 56, rfl, by decide, by decide, uw9, Or.inl (gwm 986 (by decide +kernel) (by decide +kernel))⟩
theorem fl_X9_54 : FL RX9 54 9 15 := ⟨RX9, TX9, 56, rfl, by decide, by decide, uw9, Or.inl (gwm 987 (by decide +kernel) (by decide +kernel))⟩
theorem fl_X9_57 : FL RX9 57 9 16 := ⟨RX9, TX9, 56, rfl, by decide, by decide, uw9, Or.inl (gwm 988 (by decide +kernel) (by decide +kernel))⟩
theorem fl_X9_60 : FL RX9 60 9 17 := ⟨RX9, TX9, 56, rfl, by decide, by decide, uw9, Or.inl (gwm 989 (by decide +kernel) (by decide +kernel))⟩
theorem fl_X9_63 : FL RX9 63 9 18 := ⟨RX9, TX9, 56, rfl, by decide, by decide, uw9, Or.inl (gwm 990 (by decide +kernel) (by decide +kernel))⟩
theorem fl_X9_66 : FL RX9 66 9 19 := ⟨RX9, TX9, 56, rfl, by decide, by decide, uw9, Or.inl (gwm 991 (by decide +kernel) (by decide +kernel))⟩
theorem fl_X9_69 : FL RX9 69 9 20 := ⟨RX9, TX9, 56, rfl, by decide, by decide, uw9, Or.inl (gwm 992 (by decide +kernel) (by decide +kernel))⟩
theorem fl_X9_7 : FL RX9 7 9 1 := ⟨RX9, TX9, 56, rfl, by decide, by decide, uw9, Or.inl (gwm 973 (by decide +kernel) (by decide +kernel))⟩
theorem fl_X9_72 : FL RX9 72 9 21 := ⟨RX9, TX9, 56, rfl, by decide, by decide, uw9, Or.inl (gwm 993 (by decide +kernel) (by decide +kernel))⟩
theorem fl_X9_75 : FL RX9 75 9 22 := ⟨RX9, TX9, 56, rfl, by decide, by decide, uw9, Or.inl (gwm 994 (by decide +kernel) (by decide +kernel))⟩
theorem fl_X9_78 : FL RX9 78 9 23 := ⟨RX9, TX9, 56, rfl, by decide, by decide, uw9, Or.inl (gwm 995 (by decide +kernel) (by decide +kernel))⟩
theorem fl_X9_81 : FL RX9 81 9 24 := ⟨RX9, TX9, 56, rfl, by decide, by decide, uw9, Or.inl (gwm 996 (by decide +kernel) (by decide +kernel))⟩
theorem fl_X9_84 : FL RX9 84 9 25 := ⟨RX9, TX9, 56, rfl, by decide, by decide, uw9, Or.inl (gwm 997 (by decide +kernel) (by decide +kernel))⟩
theorem fl_X9_87 : FL RX9 87 9 26 := ⟨RX9, TX9, 56, rfl, by decide, by decide, uw9, Or.inl (gwm 998 (by decide +kernel) (by decide +kernel))⟩
theorem fl_X9_90 : FL RX9 90 9 31 := ⟨RX9, TX9, 56, rfl, by decide, by decide, uw9, Or.inl (gwm 1003 (by decide +kernel) (by decide +kernel))⟩
theorem fl_X9_93 : FL RX9 93 9 32 := ⟨RX9, TX9, 56, rfl, by decide, by decide, uw9, Or.inl (gwm 1004 (by decide +kernel) (by decide +kernel))⟩
theorem fl_X9_96 : FL RX9 96 9 33 := ⟨RX9, TX9, 56, rfl, by decide, by decide, uw9, Or.inl (gwm 1005 (by decide +kernel) (by decide +kernel))⟩
theorem fl_X9_99 : FL RX9 99 9 35 := ⟨RX9, TX9, 56, rfl, by decide, by decide, uw9, Or.inl (gwm 1007 (by decide +kernel) (by decide +kernel))⟩
theorem fw_X0_21 : FW RX0 21 0 3 .long := ⟨RX0, TX0, 5, tyX0, rfl, by decide, by decide, uw0, Or.inl (gwm 358 (by decide +kernel) (by decide +kernel)), tyX0_ok, nmX0, rfl, by decide +kernel⟩
theorem fw_X0_25 : FW RX0 25 0 4 .long := ⟨RX0, TX0, 5, tyX0, rfl, by decide, by decide, uw0, Or.inl (gwm 360 (by decide +kernel) (by decide +kernel)), tyX0_ok, nmX0, rfl, by decide +kernel⟩
theorem fw_X2_116 : FW RX2 116 0 3 .long := ⟨RX0, TX0, 5, tyX0, rfl, by decide, by decide, uw0, Or.inr ⟨"CounterPlacer", nwm 359 (by decide +kernel) (by decide +kernel)⟩, tyX0_ok, nmX0, rfl, by decide +kernel⟩
theorem fw_X2_125 : FW RX2 125 0 4 .long := ⟨RX0, TX0, 5, tyX0, rfl, by decide, by decide, uw0, Or.inr ⟨"CounterPlacer", nwm 361 (by decide +kernel) (by decide +kernel)⟩, tyX0_ok, nmX0, rfl, by decide +kernel⟩
theorem fw_X2_63 : FW RX2 63 2 8 .boolean := ⟨RX2, TX2, 9, tyX2, rfl, by decide, by decide, uw2, Or.inl (gwm 413 (by decide +kernel) (by decide +kernel)), tyX2_ok, nmX2, rfl, by decide +kernel⟩
theorem fw_X3_43 : FW RX3 43 3 10 .int := ⟨RX3, TX3, 13, tyX3, rfl, by decide, by decide, uw3, Or.inl (gwm 202 (by decide +kernel) (by decide +kernel)), tyX3_ok, nmX3, rfl, by decide +kernel⟩
theorem fw_X3_47 : FW RX3 47 3 11 .int := ⟨RX3, TX3, 13, tyX3, rfl, by decide, by decide, uw3, Or.inl (gwm 208 (by decide +kernel) (by decide +kernel)), tyX3_ok, nmX3, rfl, by decide +kernel⟩
theorem fw_X3_71 : FW RX3 71 3 12 .int := ⟨RX3, TX3, 13, tyX3, rfl, by decide, by decide, uw3, Or.inl (gwm 214 (by decide +kernel) (by decide +kernel)), tyX3_ok, nmX3, rfl, by decide +kernel⟩
theorem fw_X4_18 : FW RX4 18 4 2 .int := ⟨RX4, TX4, 4, tyX4, rfl, by decide, by decide, uw4, Or.inl (gwm 383 (by decide +kernel) (by decide +kernel)), tyX4_ok, nmX4, rfl, by decide +kernel⟩
theorem fw_X4_22 : FW RX4 22 4 3 .long := ⟨RX4, TX4, 4, tyX4, rfl, by decide, by decide, uw4, Or.inl (gwm 385 (by decide +kernel) (by decide +kernel)), tyX4_ok, nmX4, rfl, by decide +kernel⟩
theorem fw_X5_70 : FW RX5 70 5 10 .int := ⟨RX5, TX5, 12, tyX5, rfl, by decide, by decide, uw5, Or.inl (gwm 312 (by decide +kernel) (by decide +kernel)), tyX5_ok, nmX5, rfl, by decide +kernel⟩
theorem fw_X5_73 : FW RX5 73 5 11 .long := ⟨RX5, TX5, 12, tyX5, rfl, by decide, by decide, uw5, Or.inl (gwm 315 (by decide +kernel) (by decide +kernel)), tyX5_ok, nmX5, rfl, by decide +kernel⟩
theorem fw_X5_83 : FW RX5 83 5 9 .int := ⟨RX5, TX5, 12, tyX5, rfl, by decide, by decide, uw5, Or.inl (gwm 311 (by decide +kernel) (by decide +kernel)), tyX5_ok, nmX5, rfl, by decide +kernel⟩
theorem fw_X6_25 : FW RX6 25 6 4 .int := ⟨RX6, TX6, 9, tyX6, rfl, by decide, by decide, uw6, Or.inl (gwm 104 (by decide +kernel) (by decide +kernel)), tyX6_ok, nmX6, rfl, by decide +kernel⟩
theorem fw_X6_32 : FW RX6 32 6 5 .int := ⟨RX6, TX6, 9, tyX6, rfl, by decide, by decide, uw6, Or.inl (gwm 106 (by decide +kernel) (by decide +kernel)), tyX6_ok, nmX6, rfl, by decide +kernel⟩
theorem fw_X6_35 : FW RX6 35 6 6 .int := ⟨RX6, TX6, 9, tyX6, rfl, by decide, by decide, uw6, Or.inl (gwm 107 (by decide +kernel) (by decide +kernel)), tyX6_ok, nmX6, rfl, by decide +kernel⟩
theorem fw_X6_42 : FW RX6 42 6 8 .int := ⟨RX6, TX6, 9, tyX6, rfl, by decide, by decide, uw6, Or.inl (gwm 109 (by decide +kernel) (by decide +kernel)), tyX6_ok, nmX6, rfl, by decide +kernel⟩
theorem fw_X6_45 : FW RX6 45 6 7 .int := ⟨RX6, TX6, 9, tyX6, rfl, by decide, by decide, uw6, Or.inl (gwm 108 (by decide +kernel) (by decide +kernel)), tyX6_ok, nmX6, rfl, by decide +kernel⟩
theorem fw_X6_56 : FW RX6 56 6 3 .int := ⟨RX6, TX6, 9, tyX6, rfl, by decide, by decide, uw6, Or.inl (gwm 103 (by decide +kernel) (by decide +kernel)), tyX6_ok, nmX6, rfl, by decide +kernel⟩
theorem fw_X7_104 : FW RX7 104 7 9 .int := ⟨RX7, TX7, 11, tyX7, rfl, by decide, by decide, uw7, Or.inl (gwm 267 (by decide +kernel) (by decide +kernel)), tyX7_ok, nmX7, rfl, by decide +kernel⟩
theorem fw_X7_51 : FW RX7 51 7 10 .long := ⟨RX7, TX7, 11, tyX7, rfl, by decide, by decide, uw7, Or.inl (gwm 268 (by decide +kernel) (by decide +kernel)), tyX7_ok, nmX7, rfl, by decide +kernel⟩
theorem fw_X9_153 : FW RX9 153 9 34 .int := ⟨RX9, TX9, 56, tyX9, rfl, by decide, by decide, uw9, Or.inl (gwm 1006 (by decide +kernel) (by decide +kernel)), tyX9_ok, nmX9, rfl, by decide +kernel⟩
theorem fw_X9_211 : FW RX9 211 9 28 .int := ⟨RX9, TX9, 56, tyX9, rfl, by decide, by decide, uw9, Or.inl (gwm 1000 (by decide +kernel) (by decide +kernel)), tyX9_ok, nmX9, rfl, by decide +kernel⟩
theorem fw_X9_226 : FW RX9 226 9 43 .int := ⟨RX9, TX9, 56, tyX9, rfl, by decide, by decide, uw9, Or.inl (gwm 1015 (by decide +kernel) (by decide +kernel)), tyX9_ok, nmX9, rfl, by decide +kernel⟩
theorem fw_X9_238 : FW RX9 238 9 27 .int := ⟨RX9, TX9, 56, tyX9, rfl, by decide, by decide, uw9, Or.inl (gwm 999 (by decide +kernel) (by decide +kernel)), tyX9_ok, nmX9, rfl, by decide +kernel⟩
theorem fw_X9_241 : FW RX9 241 9 29 .int := ⟨RX9, TX9, 56, tyX9, rfl, by decide, by decide, uw9, Or.inl (gwm 1001 (by decide +kernel) (by decide +kernel)), tyX9_ok, nmX9, rfl, by decide +kernel⟩
theorem fw_X9_244 : FW RX9 244 9 30 .int := ⟨RX9, TX9, 56, tyX9, rfl, by decide, by decide, uw9, Or.inl (gwm 1002 (by decide +kernel) (by decide +kernel)), tyX9_ok, nmX9, rfl, by decide +kernel⟩
theorem fw_X9_257 : FW RX9 257 9 47 .int := ⟨RX9, TX9, 56, tyX9, rfl, by decide, by decide, uw9, Or.inl (gwm 1019 (by decide +kernel) (by decide +kernel)), tyX9_ok, nmX9, rfl, by decide +kernel⟩
theorem fw_X9_264 : FW RX9 264 9 52 .int := ⟨RX9, TX9, 56, tyX9, rfl, by decide, by decide, uw9, Or.inl (gwm 1024 (by decide +kernel) (by decide +kernel)), tyX9_ok, nmX9, rfl, by decide +kernel⟩
theorem ml_X1_24 : ML RX1 24 yX1_takeCounts cX1_takeCounts 4 none 1 2 := ⟨⟨TX1, 4, rfl⟩, gall (by decide +kernel) (by decide +kernel), by decide +kernel, by decide +kernel, by decide +kernel⟩
theorem ml_X1_29 : ML RX1 29 yX1_measure cX1_measure 7 none 1 2 := ⟨⟨TX1, 4, rfl⟩, gall (by decide +kernel) (by decide +kernel), by decide +kernel, by decide +kernel, by decide +kernel⟩
theorem ml_X1_32 : ML RX1 32 yX1_nearestLack cX1_nearestLack 4 (some .int) 1 1 := ⟨⟨TX1, 4, rfl⟩, gall (by decide +kernel) (by decide +kernel), by decide +kernel, by decide +kernel, by decide +kernel⟩
theorem ml_X1_36 : ML RX1 36 yX1_carryTo cX1_carryTo 10 none 1 3 := ⟨⟨TX1, 4, rfl⟩, gall (by decide +kernel) (by decide +kernel), by decide +kernel, by decide +kernel, by decide +kernel⟩
theorem ml_X1_65 : ML RX1 65 yX1_costOfMore cX1_costOfMore 3 (some .int) 1 2 := ⟨⟨TX1, 4, rfl⟩, gall (by decide +kernel) (by decide +kernel), by decide +kernel, by decide +kernel, by decide +kernel⟩
theorem ml_X1_69 : ML RX1 69 yX1_comeNearer cX1_comeNearer 5 (some .boolean) 1 4 := ⟨⟨TX1, 4, rfl⟩, gall (by decide +kernel) (by decide +kernel), by decide +kernel, by decide +kernel, by decide +kernel⟩
theorem ml_X1_73 : ML RX1 73 yX1_costOfLess cX1_costOfLess 3 (some .int) 1 2 := ⟨⟨TX1, 4, rfl⟩, gall (by decide +kernel) (by decide +kernel), by decide +kernel, by decide +kernel, by decide +kernel⟩
theorem ml_X1_76 : ML RX1 76 yX1_roomForMore cX1_roomForMore 3 (some .int) 1 2 := ⟨⟨TX1, 4, rfl⟩, gall (by decide +kernel) (by decide +kernel), by decide +kernel, by decide +kernel, by decide +kernel⟩
theorem ml_X1_79 : ML RX1 79 yX1_roomForLess cX1_roomForLess 3 (some .int) 1 2 := ⟨⟨TX1, 4, rfl⟩, gall (by decide +kernel) (by decide +kernel), by decide +kernel, by decide +kernel, by decide +kernel⟩
theorem ml_X2_128 : ML RX2 128 yX2_hasCounter cX2_hasCounter 2 (some .boolean) 2 1 := ⟨⟨TX2, 9, rfl⟩, gall (by decide +kernel) (by decide +kernel), by decide +kernel, by decide +kernel, by decide +kernel⟩
theorem ml_X2_131 : ML RX2 131 yX3_standOf cX3_standOf 3 (some .int) 3 1 := ⟨⟨TX3, 13, rfl⟩, gall (by decide +kernel) (by decide +kernel), by decide +kernel, by decide +kernel, by decide +kernel⟩
theorem ml_X2_161 : ML RX2 161 yX6_openAt cX6_openAt 5 (some .int) 6 2 := ⟨⟨TX6, 9, rfl⟩, gall (by decide +kernel) (by decide +kernel), by decide +kernel, by decide +kernel, by decide +kernel⟩
theorem ml_X2_167 : ML RX2 167 yX5_rebuild cX5_rebuild 6 none 5 2 := ⟨⟨TX5, 12, rfl⟩, gall (by decide +kernel) (by decide +kernel), by decide +kernel, by decide +kernel, by decide +kernel⟩
theorem ml_X2_177 : ML RX2 177 yX7_unfold cX7_unfold 7 (some .boolean) 7 1 := ⟨⟨TX7, 11, rfl⟩, gall (by decide +kernel) (by decide +kernel), by decide +kernel, by decide +kernel, by decide +kernel⟩
theorem ml_X2_181 : ML RX2 181 yX7_unfoldedHas cX7_unfoldedHas 3 (some .boolean) 7 1 := ⟨⟨TX7, 11, rfl⟩, gall (by decide +kernel) (by decide +kernel), by decide +kernel, by decide +kernel, by decide +kernel⟩
theorem ml_X2_67 : ML RX2 67 yX3_firstFault cX3_firstFault 1 (some .int) 3 0 := ⟨⟨TX3, 13, rfl⟩, gall (by decide +kernel) (by decide +kernel), by decide +kernel, by decide +kernel, by decide +kernel⟩
theorem ml_X2_71 : ML RX2 71 yX7_firstFault cX7_firstFault 1 (some .int) 7 0 := ⟨⟨TX7, 11, rfl⟩, gall (by decide +kernel) (by decide +kernel), by decide +kernel, by decide +kernel, by decide +kernel⟩
theorem ml_X2_72 : ML RX2 72 yX3_linkEnd cX3_linkEnd 2 none 3 0 := ⟨⟨TX3, 13, rfl⟩, gall (by decide +kernel) (by decide +kernel), by decide +kernel, by decide +kernel, by decide +kernel⟩
theorem ml_X2_75 : ML RX2 75 yX2_planAnew cX2_planAnew 1 none 2 0 := ⟨⟨TX2, 9, rfl⟩, gall (by decide +kernel) (by decide +kernel), by decide +kernel, by decide +kernel, by decide +kernel⟩
theorem ml_X2_78 : ML RX2 78 yX5_grow cX5_grow 1 none 5 0 := ⟨⟨TX5, 12, rfl⟩, gall (by decide +kernel) (by decide +kernel), by decide +kernel, by decide +kernel, by decide +kernel⟩
theorem ml_X2_84 : ML RX2 84 yX7_lighten cX7_lighten 3 none 7 1 := ⟨⟨TX7, 11, rfl⟩, gall (by decide +kernel) (by decide +kernel), by decide +kernel, by decide +kernel, by decide +kernel⟩
theorem ml_X2_88 : ML RX2 88 yX0_clear cX0_clear 2 none 0 0 := ⟨⟨TX0, 5, rfl⟩, gall (by decide +kernel) (by decide +kernel), by decide +kernel, by decide +kernel, by decide +kernel⟩
theorem ml_X2_91 : ML RX2 91 yX4_clear cX4_clear 1 none 4 0 := ⟨⟨TX4, 4, rfl⟩, gall (by decide +kernel) (by decide +kernel), by decide +kernel, by decide +kernel, by decide +kernel⟩
theorem ml_X2_92 : ML RX2 92 yX3_hasEdge cX3_hasEdge 2 (some .boolean) 3 1 := ⟨⟨TX3, 13, rfl⟩, gall (by decide +kernel) (by decide +kernel), by decide +kernel, by decide +kernel, by decide +kernel⟩
theorem ml_X3_50 : ML RX3 50 yX3_hasBlock cX3_hasBlock 2 (some .boolean) 3 1 := ⟨⟨TX3, 13, rfl⟩, gall (by decide +kernel) (by decide +kernel), by decide +kernel, by decide +kernel, by decide +kernel⟩
theorem ml_X3_54 : ML RX3 54 yX3_endsIn cX3_endsIn 2 (some .boolean) 3 1 := ⟨⟨TX3, 13, rfl⟩, gall (by decide +kernel) (by decide +kernel), by decide +kernel, by decide +kernel, by decide +kernel⟩
theorem ml_X3_57 : ML RX3 57 yX3_outsFitKinds cX3_outsFitKinds 4 (some .boolean) 3 0 := ⟨⟨TX3, 13, rfl⟩, gall (by decide +kernel) (by decide +kernel), by decide +kernel, by decide +kernel, by decide +kernel⟩
theorem ml_X3_61 : ML RX3 61 yX3_allReached cX3_allReached 2 (some .boolean) 3 0 := ⟨⟨TX3, 13, rfl⟩, gall (by decide +kernel) (by decide +kernel), by decide +kernel, by decide +kernel, by decide +kernel⟩
theorem ml_X3_64 : ML RX3 64 yX3_allCanEnd cX3_allCanEnd 2 (some .boolean) 3 0 := ⟨⟨TX3, 13, rfl⟩, gall (by decide +kernel) (by decide +kernel), by decide +kernel, by decide +kernel, by decide +kernel⟩
theorem ml_X3_67 : ML RX3 67 yX3_marksSpread cX3_marksSpread 5 (some .boolean) 3 2 := ⟨⟨TX3, 13, rfl⟩, gall (by decide +kernel) (by decide +kernel), by decide +kernel, by decide +kernel, by decide +kernel⟩
theorem ml_X3_74 : ML RX3 74 yX3_addLink cX3_addLink 3 none 3 2 := ⟨⟨TX3, 13, rfl⟩, gall (by decide +kernel) (by decide +kernel), by decide +kernel, by decide +kernel, by decide +kernel⟩
theorem ml_X5_42 : ML RX5 42 yX5_sortByGuess cX5_sortByGuess 3 none 5 0 := ⟨⟨TX5, 12, rfl⟩, gall (by decide +kernel) (by decide +kernel), by decide +kernel, by decide +kernel, by decide +kernel⟩
theorem ml_X5_45 : ML RX5 45 yX5_takeLinks cX5_takeLinks 3 none 5 0 := ⟨⟨TX5, 12, rfl⟩, gall (by decide +kernel) (by decide +kernel), by decide +kernel, by decide +kernel, by decide +kernel⟩
theorem ml_X5_48 : ML RX5 48 yX5_lineUpFromEnd cX5_lineUpFromEnd 4 none 5 0 := ⟨⟨TX5, 12, rfl⟩, gall (by decide +kernel) (by decide +kernel), by decide +kernel, by decide +kernel, by decide +kernel⟩
theorem ml_X5_66 : ML RX5 66 yX5_joinParts cX5_joinParts 5 (some .boolean) 5 1 := ⟨⟨TX5, 12, rfl⟩, gall (by decide +kernel) (by decide +kernel), by decide +kernel, by decide +kernel, by decide +kernel⟩
theorem ml_X5_86 : ML RX5 86 yX5_lineUp cX5_lineUp 3 none 5 2 := ⟨⟨TX5, 12, rfl⟩, gall (by decide +kernel) (by decide +kernel), by decide +kernel, by decide +kernel, by decide +kernel⟩
theorem ml_X5_90 : ML RX5 90 yX5_otherEnd cX5_otherEnd 3 (some .int) 5 2 := ⟨⟨TX5, 12, rfl⟩, gall (by decide +kernel) (by decide +kernel), by decide +kernel, by decide +kernel, by decide +kernel⟩
theorem ml_X5_94 : ML RX5 94 yX5_isBelow cX5_isBelow 5 (some .boolean) 5 2 := ⟨⟨TX5, 12, rfl⟩, gall (by decide +kernel) (by decide +kernel), by decide +kernel, by decide +kernel, by decide +kernel⟩
theorem ml_X5_98 : ML RX5 98 yX5_carry cX5_carry 4 none 5 2 := ⟨⟨TX5, 12, rfl⟩, gall (by decide +kernel) (by decide +kernel), by decide +kernel, by decide +kernel, by decide +kernel⟩
theorem ml_X6_107 : ML RX6 107 yX2_countEntry cX2_countEntry 1 none 2 0 := ⟨⟨TX2, 9, rfl⟩, gall (by decide +kernel) (by decide +kernel), by decide +kernel, by decide +kernel, by decide +kernel⟩
theorem ml_X6_113 : ML RX6 113 yX2_countGone cX2_countGone 2 (some .int) 2 1 := ⟨⟨TX2, 9, rfl⟩, gall (by decide +kernel) (by decide +kernel), by decide +kernel, by decide +kernel, by decide +kernel⟩
theorem ml_X6_132 : ML RX6 132 yX2_countStopped cX2_countStopped 2 none 2 1 := ⟨⟨TX2, 9, rfl⟩, gall (by decide +kernel) (by decide +kernel), by decide +kernel, by decide +kernel, by decide +kernel⟩
theorem ml_X6_136 : ML RX6 136 yX6_isOf cX6_isOf 3 (some .boolean) 6 2 := ⟨⟨TX6, 9, rfl⟩, gall (by decide +kernel) (by decide +kernel), by decide +kernel, by decide +kernel, by decide +kernel⟩
theorem ml_X6_29 : ML RX6 29 yX6_dropFrames cX6_dropFrames 2 none 6 0 := ⟨⟨TX6, 9, rfl⟩, gall (by decide +kernel) (by decide +kernel), by decide +kernel, by decide +kernel, by decide +kernel⟩
theorem ml_X6_38 : ML RX6 38 yX6_enter cX6_enter 2 none 6 1 := ⟨⟨TX6, 9, rfl⟩, gall (by decide +kernel) (by decide +kernel), by decide +kernel, by decide +kernel, by decide +kernel⟩
theorem ml_X6_48 : ML RX6 48 yX6_step cX6_step 4 none 6 1 := ⟨⟨TX6, 9, rfl⟩, gall (by decide +kernel) (by decide +kernel), by decide +kernel, by decide +kernel, by decide +kernel⟩
theorem ml_X6_52 : ML RX6 52 yX6_topRoutine cX6_topRoutine 1 (some (.object "CounterPlacer$Routine")) 6 0 := ⟨⟨TX6, 9, rfl⟩, gall (by decide +kernel) (by decide +kernel), by decide +kernel, by decide +kernel, by decide +kernel⟩
theorem ml_X6_68 : ML RX6 68 yX3_outOf cX3_outOf 3 (some .int) 3 2 := ⟨⟨TX3, 13, rfl⟩, gall (by decide +kernel) (by decide +kernel), by decide +kernel, by decide +kernel, by decide +kernel⟩
theorem ml_X6_72 : ML RX6 72 yX6_cross cX6_cross 5 none 6 2 := ⟨⟨TX6, 9, rfl⟩, gall (by decide +kernel) (by decide +kernel), by decide +kernel, by decide +kernel, by decide +kernel⟩
theorem ml_X6_79 : ML RX6 79 yX6_choose cX6_choose 3 (some .int) 6 1 := ⟨⟨TX6, 9, rfl⟩, gall (by decide +kernel) (by decide +kernel), by decide +kernel, by decide +kernel, by decide +kernel⟩
theorem ml_X6_86 : ML RX6 86 yX6_enterCalled cX6_enterCalled 4 none 6 2 := ⟨⟨TX6, 9, rfl⟩, gall (by decide +kernel) (by decide +kernel), by decide +kernel, by decide +kernel, by decide +kernel⟩
theorem ml_X6_90 : ML RX6 90 yX6_leave cX6_leave 3 none 6 1 := ⟨⟨TX6, 9, rfl⟩, gall (by decide +kernel) (by decide +kernel), by decide +kernel, by decide +kernel, by decide +kernel⟩
theorem ml_X6_97 : ML RX6 97 yX4_count cX4_count 4 none 4 1 := ⟨⟨TX4, 4, rfl⟩, gall (by decide +kernel) (by decide +kernel), by decide +kernel, by decide +kernel, by decide +kernel⟩
theorem ml_X7_107 : ML RX7 107 yX7_beginningOf cX7_beginningOf 5 (some .int) 7 1 := ⟨⟨TX7, 11, rfl⟩, gall (by decide +kernel) (by decide +kernel), by decide +kernel, by decide +kernel, by decide +kernel⟩
theorem ml_X7_111 : ML RX7 111 yX7_edgeFor cX7_edgeFor 7 (some .int) 7 2 := ⟨⟨TX7, 11, rfl⟩, gall (by decide +kernel) (by decide +kernel), by decide +kernel, by decide +kernel, by decide +kernel⟩
theorem ml_X7_41 : ML RX7 41 yX7_countFromBlocks cX7_countFromBlocks 3 (some .boolean) 7 0 := ⟨⟨TX7, 11, rfl⟩, gall (by decide +kernel) (by decide +kernel), by decide +kernel, by decide +kernel, by decide +kernel⟩
theorem ml_X7_45 : ML RX7 45 yX7_sumAdds cX7_sumAdds 6 none 7 0 := ⟨⟨TX7, 11, rfl⟩, gall (by decide +kernel) (by decide +kernel), by decide +kernel, by decide +kernel, by decide +kernel⟩
theorem ml_X7_48 : ML RX7 48 yX7_setBases cX7_setBases 2 none 7 0 := ⟨⟨TX7, 11, rfl⟩, gall (by decide +kernel) (by decide +kernel), by decide +kernel, by decide +kernel, by decide +kernel⟩
theorem ml_X7_63 : ML RX7 63 yX7_countFrom cX7_countFrom 7 (some .long) 7 1 := ⟨⟨TX7, 11, rfl⟩, gall (by decide +kernel) (by decide +kernel), by decide +kernel, by decide +kernel, by decide +kernel⟩
theorem ml_X7_67 : ML RX7 67 yX3_endsIn cX3_endsIn 2 (some .boolean) 3 1 := ⟨⟨TX3, 13, rfl⟩, gall (by decide +kernel) (by decide +kernel), by decide +kernel, by decide +kernel, by decide +kernel⟩
theorem ml_X7_77 : ML RX7 77 yX7_countBeyond cX7_countBeyond 2 (some .long) 7 1 := ⟨⟨TX7, 11, rfl⟩, gall (by decide +kernel) (by decide +kernel), by decide +kernel, by decide +kernel, by decide +kernel⟩
theorem ml_X7_92 : ML RX7 92 yX7_joinTrees cX7_joinTrees 7 none 7 1 := ⟨⟨TX7, 11, rfl⟩, gall (by decide +kernel) (by decide +kernel), by decide +kernel, by decide +kernel, by decide +kernel⟩
theorem ml_X8_134 : ML RX8 134 yX8_finishedWithEdge cX8_finishedWithEdge 4 (some (.object "CounterPlacer$Routine")) 8 2 := ⟨⟨TX8, 4, rfl⟩, gall (by decide +kernel) (by decide +kernel), by decide +kernel, by decide +kernel, by decide +kernel⟩
theorem ml_X8_140 : ML RX8 140 yX2_rebuiltCount cX2_rebuiltCount 4 (some .long) 2 2 := ⟨⟨TX2, 9, rfl⟩, gall (by decide +kernel) (by decide +kernel), by decide +kernel, by decide +kernel, by decide +kernel⟩
theorem ml_X8_144 : ML RX8 144 yX2_hasCounter cX2_hasCounter 2 (some .boolean) 2 1 := ⟨⟨TX2, 9, rfl⟩, gall (by decide +kernel) (by decide +kernel), by decide +kernel, by decide +kernel, by decide +kernel⟩
theorem ml_X8_147 : ML RX8 147 yX5_placeInRing cX5_placeInRing 5 (some .int) 5 2 := ⟨⟨TX5, 12, rfl⟩, gall (by decide +kernel) (by decide +kernel), by decide +kernel, by decide +kernel, by decide +kernel⟩
theorem ml_X8_150 : ML RX8 150 yX6_startIn cX6_startIn 2 none 6 1 := ⟨⟨TX6, 9, rfl⟩, gall (by decide +kernel) (by decide +kernel), by decide +kernel, by decide +kernel, by decide +kernel⟩
theorem ml_X8_157 : ML RX8 157 yX6_stepOn cX6_stepOn 5 (some .int) 6 3 := ⟨⟨TX6, 9, rfl⟩, gall (by decide +kernel) (by decide +kernel), by decide +kernel, by decide +kernel, by decide +kernel⟩
theorem ml_X8_161 : ML RX8 161 yX6_ofRun cX6_ofRun 3 (some .int) 6 1 := ⟨⟨TX6, 9, rfl⟩, gall (by decide +kernel) (by decide +kernel), by decide +kernel, by decide +kernel, by decide +kernel⟩
theorem ml_X8_169 : ML RX8 169 yX7_unfold cX7_unfold 7 (some .boolean) 7 1 := ⟨⟨TX7, 11, rfl⟩, gall (by decide +kernel) (by decide +kernel), by decide +kernel, by decide +kernel, by decide +kernel⟩
theorem ml_X8_175 : ML RX8 175 yX7_unfoldedBlock cX7_unfoldedBlock 2 (some .int) 7 1 := ⟨⟨TX7, 11, rfl⟩, gall (by decide +kernel) (by decide +kernel), by decide +kernel, by decide +kernel, by decide +kernel⟩
theorem ml_X8_178 : ML RX8 178 yX7_unfoldedEdge cX7_unfoldedEdge 2 (some .int) 7 1 := ⟨⟨TX7, 11, rfl⟩, gall (by decide +kernel) (by decide +kernel), by decide +kernel, by decide +kernel, by decide +kernel⟩
theorem ml_X8_185 : ML RX8 185 yX4_inRow cX4_inRow 3 (some .long) 4 2 := ⟨⟨TX4, 4, rfl⟩, gall (by decide +kernel) (by decide +kernel), by decide +kernel, by decide +kernel, by decide +kernel⟩
theorem ml_X8_190 : ML RX8 190 yX2_toldCount cX2_toldCount 5 (some .long) 2 1 := ⟨⟨TX2, 9, rfl⟩, gall (by decide +kernel) (by decide +kernel), by decide +kernel, by decide +kernel, by decide +kernel⟩
theorem ml_X8_196 : ML RX8 196 yX1_leastChange cX1_leastChange 6 (some .long) 1 2 := ⟨⟨TX1, 4, rfl⟩, gall (by decide +kernel) (by decide +kernel), by decide +kernel, by decide +kernel, by decide +kernel⟩
theorem ml_X8_37 : ML RX8 37 yX8_routineAt cX8_routineAt 2 (some (.object "CounterPlacer$Routine")) 8 1 := ⟨⟨TX8, 4, rfl⟩, gall (by decide +kernel) (by decide +kernel), by decide +kernel, by decide +kernel, by decide +kernel⟩
theorem ml_X8_48 : ML RX8 48 yX3_addBlock cX3_addBlock 3 (some .int) 3 2 := ⟨⟨TX3, 13, rfl⟩, gall (by decide +kernel) (by decide +kernel), by decide +kernel, by decide +kernel, by decide +kernel⟩
theorem ml_X8_54 : MS RX8 54 yX8_isCount cX8_isCount 1 (some .boolean) 1 := ⟨gall (by decide +kernel) (by decide +kernel), rfl, by decide +kernel, by decide +kernel, by decide +kernel⟩
theorem ml_X8_58 : ML RX8 58 yX3_addEdge cX3_addEdge 5 (some .int) 3 4 := ⟨⟨TX3, 13, rfl⟩, gall (by decide +kernel) (by decide +kernel), by decide +kernel, by decide +kernel, by decide +kernel⟩
theorem ml_X8_62 : ML RX8 62 yX3_hasEdge cX3_hasEdge 2 (some .boolean) 3 1 := ⟨⟨TX3, 13, rfl⟩, gall (by decide +kernel) (by decide +kernel), by decide +kernel, by decide +kernel, by decide +kernel⟩
theorem ml_X8_69 : ML RX8 69 yX2_settle cX2_settle 2 (some .int) 2 0 := ⟨⟨TX2, 9, rfl⟩, gall (by decide +kernel) (by decide +kernel), by decide +kernel, by decide +kernel, by decide +kernel⟩
theorem ml_X8_73 : ML RX8 73 yX8_finishedAt cX8_finishedAt 3 (some (.object "CounterPlacer$Routine")) 8 1 := ⟨⟨TX8, 4, rfl⟩, gall (by decide +kernel) (by decide +kernel), by decide +kernel, by decide +kernel, by decide +kernel⟩
theorem ml_X8_76 : ML RX8 76 yX6_hasFrameOf cX6_hasFrameOf 3 (some .boolean) 6 1 := ⟨⟨TX6, 9, rfl⟩, gall (by decide +kernel) (by decide +kernel), by decide +kernel, by decide +kernel, by decide +kernel⟩
theorem ml_X8_79 : ML RX8 79 yX2_planAnew cX2_planAnew 1 none 2 0 := ⟨⟨TX2, 9, rfl⟩, gall (by decide +kernel) (by decide +kernel), by decide +kernel, by decide +kernel, by decide +kernel⟩
theorem ml_X9_160 : ML RX9 160 yX9_isRoutine cX9_isRoutine 2 (some .boolean) 9 1 := ⟨⟨TX9, 56, rfl⟩, gall (by decide +kernel) (by decide +kernel), by decide +kernel, by decide +kernel, by decide +kernel⟩
theorem ml_X9_165 : ML RX9 165 yX9_isBlock cX9_isBlock 3 (some .boolean) 9 2 := ⟨⟨TX9, 56, rfl⟩, gall (by decide +kernel) (by decide +kernel), by decide +kernel, by decide +kernel, by decide +kernel⟩
theorem ml_X9_169 : MS RX9 169 yX9_isGuess cX9_isGuess 1 (some .boolean) 1 := ⟨gall (by decide +kernel) (by decide +kernel), rfl, by decide +kernel, by decide +kernel, by decide +kernel⟩
theorem ml_X9_172 : ML RX9 172 yX9_outs cX9_outs 5 (some .int) 9 2 := ⟨⟨TX9, 56, rfl⟩, gall (by decide +kernel) (by decide +kernel), by decide +kernel, by decide +kernel, by decide +kernel⟩
theorem ml_X9_176 : ML RX9 176 yX9_isEdge cX9_isEdge 3 (some .boolean) 9 2 := ⟨⟨TX9, 56, rfl⟩, gall (by decide +kernel) (by decide +kernel), by decide +kernel, by decide +kernel, by decide +kernel⟩
theorem ml_X9_179 : ML RX9 179 yX9_reach cX9_reach 7 none 9 2 := ⟨⟨TX9, 56, rfl⟩, gall (by decide +kernel) (by decide +kernel), by decide +kernel, by decide +kernel, by decide +kernel⟩
theorem ml_X9_183 : ML RX9 183 yX9_all cX9_all 4 (some .boolean) 9 1 := ⟨⟨TX9, 56, rfl⟩, gall (by decide +kernel) (by decide +kernel), by decide +kernel, by decide +kernel, by decide +kernel⟩
theorem ml_X9_186 : ML RX9 186 yX9_count cX9_count 9 (some .boolean) 9 1 := ⟨⟨TX9, 56, rfl⟩, gall (by decide +kernel) (by decide +kernel), by decide +kernel, by decide +kernel, by decide +kernel⟩
theorem ml_X9_193 : ML RX9 193 yX9_join cX9_join 6 none 9 2 := ⟨⟨TX9, 56, rfl⟩, gall (by decide +kernel) (by decide +kernel), by decide +kernel, by decide +kernel, by decide +kernel⟩
theorem ml_X9_197 : ML RX9 197 yX9_grow cX9_grow 8 none 9 2 := ⟨⟨TX9, 56, rfl⟩, gall (by decide +kernel) (by decide +kernel), by decide +kernel, by decide +kernel, by decide +kernel⟩
theorem ml_X9_200 : ML RX9 200 yX9_why cX9_why 6 (some .int) 9 1 := ⟨⟨TX9, 56, rfl⟩, gall (by decide +kernel) (by decide +kernel), by decide +kernel, by decide +kernel, by decide +kernel⟩
theorem ml_X9_204 : ML RX9 204 yX9_makePlan cX9_makePlan 7 none 9 1 := ⟨⟨TX9, 56, rfl⟩, gall (by decide +kernel) (by decide +kernel), by decide +kernel, by decide +kernel, by decide +kernel⟩
theorem ml_X9_208 : ML RX9 208 yX9_isDone cX9_isDone 2 (some .boolean) 9 1 := ⟨⟨TX9, 56, rfl⟩, gall (by decide +kernel) (by decide +kernel), by decide +kernel, by decide +kernel, by decide +kernel⟩
theorem ml_X9_214 : ML RX9 214 yX9_fails cX9_fails 2 (some .long) 9 1 := ⟨⟨TX9, 56, rfl⟩, gall (by decide +kernel) (by decide +kernel), by decide +kernel, by decide +kernel, by decide +kernel⟩
theorem ml_X9_218 : ML RX9 218 yX9_ins cX9_ins 5 (some .int) 9 2 := ⟨⟨TX9, 56, rfl⟩, gall (by decide +kernel) (by decide +kernel), by decide +kernel, by decide +kernel, by decide +kernel⟩
theorem ml_X9_223 : ML RX9 223 yX9_openOf cX9_openOf 5 (some .int) 9 2 := ⟨⟨TX9, 56, rfl⟩, gall (by decide +kernel) (by decide +kernel), by decide +kernel, by decide +kernel, by decide +kernel⟩
theorem ml_X9_229 : ML RX9 229 yX9_arc cX9_arc 3 none 9 2 := ⟨⟨TX9, 56, rfl⟩, gall (by decide +kernel) (by decide +kernel), by decide +kernel, by decide +kernel, by decide +kernel⟩
theorem ml_X9_232 : ML RX9 232 yX9_lay cX9_lay 3 none 9 1 := ⟨⟨TX9, 56, rfl⟩, gall (by decide +kernel) (by decide +kernel), by decide +kernel, by decide +kernel, by decide +kernel⟩
theorem ml_X9_235 : ML RX9 235 yX9_allGo cX9_allGo 2 none 9 0 := ⟨⟨TX9, 56, rfl⟩, gall (by decide +kernel) (by decide +kernel), by decide +kernel, by decide +kernel, by decide +kernel⟩
theorem ml_X9_247 : ML RX9 247 yX9_comes cX9_comes 2 none 9 1 := ⟨⟨TX9, 56, rfl⟩, gall (by decide +kernel) (by decide +kernel), by decide +kernel, by decide +kernel, by decide +kernel⟩
theorem ml_X9_250 : ML RX9 250 yX9_ends cX9_ends 5 none 9 2 := ⟨⟨TX9, 56, rfl⟩, gall (by decide +kernel) (by decide +kernel), by decide +kernel, by decide +kernel, by decide +kernel⟩
theorem ml_X9_254 : ML RX9 254 yX9_goes cX9_goes 6 none 9 1 := ⟨⟨TX9, 56, rfl⟩, gall (by decide +kernel) (by decide +kernel), by decide +kernel, by decide +kernel, by decide +kernel⟩
theorem ml_X9_260 : ML RX9 260 yX9_isWay cX9_isWay 10 (some .boolean) 9 2 := ⟨⟨TX9, 56, rfl⟩, gall (by decide +kernel) (by decide +kernel), by decide +kernel, by decide +kernel, by decide +kernel⟩
theorem ml_X9_269 : ML RX9 269 yX9_push cX9_push 6 none 9 4 := ⟨⟨TX9, 56, rfl⟩, gall (by decide +kernel) (by decide +kernel), by decide +kernel, by decide +kernel, by decide +kernel⟩
theorem mm_X1_46 : ∀ w ∈ ([Cond.methodLink RX1 46 Lib.Math.abs.name, Cond.static Lib.Math.abs.name, Cond.initialized "java/lang/Math", Cond.code Lib.Math.abs.name Lib.Math.abs.code 1 (some .int)] : List Cond), w ∈ GW := gall (by decide +kernel) (by decide +kernel)
theorem mm_X1_82 : ∀ w ∈ ([Cond.methodLink RX1 82 Lib.Math.min.name, Cond.static Lib.Math.min.name, Cond.initialized "java/lang/Math", Cond.code Lib.Math.min.name Lib.Math.min.code 2 (some .int)] : List Cond), w ∈ GW := gall (by decide +kernel) (by decide +kernel)
theorem mm_X7_98 : ∀ w ∈ ([Cond.methodLink RX7 98 Lib.Math.min.name, Cond.static Lib.Math.min.name, Cond.initialized "java/lang/Math", Cond.code Lib.Math.min.name Lib.Math.min.code 2 (some .int)] : List Cond), w ∈ GW := gall (by decide +kernel) (by decide +kernel)
end
section
theorem dX9_thrown_0 : decode cX9_thrown 0 = .ok (.aload_n 0, 1) := by decide +kernel
theorem dX9_thrown_1 : decode cX9_thrown 1 = .ok (.getfield 153, 3) := by decide +kernel
theorem dX9_thrown_4 : decode cX9_thrown 4 = .ok (.ireturn, 1) := by decide +kernel
def f_X9_thrown (H : Hp) : Option (Int32 × Hp) := some ((gI H 0 0 34), H)
set_option maxRecDepth 100000 in
set_option maxHeartbeats 4000000 in
theorem s_X9_thrown {p : Program} {l : Launch} {e : Env} {s : State} {m : MethodId} {args : Array Value} {below : List Frame} {meth : Method} {c : Code} {A : Nat → Prop} {D : va_G} {K4 : kQ} {ad : Nat → Nat → Nat} {nr : Nat} {H : Hp} {res : Int32 × Hp} (hC : Cx p s m args c A s.heap D K4 1 RX9 cX9_thrown) (hret : meth.sig.returnType = (some .int) ∧ meth.locks = false) (h : f_X9_thrown H = some res) : V p l e ({ frames := 0, cells := 0, slots := 0, locals := 0 }) s m args below meth c A s.heap (QI below args s A D K4 ad nr res) D K4 ad nr 1 0 [(0, .ref (ad 0 0))] [] H := by
  unfold f_X9_thrown at h
  refine V_aload_n hC 0 dX9_thrown_0 rfl ?_
  refine V_getI (g := 0) (k := 0) hC 9 34 fl_X9_153 rfl rfl rfl dX9_thrown_1 ?_
  exact V_iret hC hret dX9_thrown_4 h
theorem c_X9_thrown (l : Launch) {nr : Nat} {H : Hp} {x : Int32} {H' : Hp} (h : f_X9_thrown H = some (x, H')) : CI l nr yX9_thrown cX9_thrown 1 (some .int) 0 0 (fun ad => [.ref (ad 0 0)]) H x H' := by
  intro D K4 ad sz
  refine Met.ofV (by decide) (Nat.le_of_ble_eq_true rfl) ?_
  intro p e s m args below meth c hC hret hsz
  subst hsz
  exact s_X9_thrown hC hret h
theorem dX9_isRoutine_0 : decode cX9_isRoutine 0 = .ok (.iload_n 1, 1) := by decide +kernel
theorem dX9_isRoutine_1 : decode cX9_isRoutine 1 = .ok (.ifCond .lt 15, 3) := by decide +kernel
theorem dX9_isRoutine_4 : decode cX9_isRoutine 4 = .ok (.iload_n 1, 1) := by decide +kernel
theorem dX9_isRoutine_5 : decode cX9_isRoutine 5 = .ok (.aload_n 0, 1) := by decide +kernel
theorem dX9_isRoutine_6 : decode cX9_isRoutine 6 = .ok (.getfield 157, 3) := by decide +kernel
theorem dX9_isRoutine_9 : decode cX9_isRoutine 9 = .ok (.if_icmp .ge 7, 3) := by decide +kernel
theorem dX9_isRoutine_12 : decode cX9_isRoutine 12 = .ok (.iconst 1, 1) := by decide +kernel
theorem dX9_isRoutine_13 : decode cX9_isRoutine 13 = .ok (.goto 4, 3) := by decide +kernel
theorem dX9_isRoutine_16 : decode cX9_isRoutine 16 = .ok (.iconst 0, 1) := by decide +kernel
theorem dX9_isRoutine_17 : decode cX9_isRoutine 17 = .ok (.ireturn, 1) := by decide +kernel
def f_X9_isRoutine (a1 : Int32) (H : Hp) : Option (Int32 × Hp) := if a1 < 0 then some (0, H) else if (gI H 0 0 0) ≤ a1 then some (0, H) else some (1, H)
set_option maxRecDepth 100000 in
set_option maxHeartbeats 4000000 in
theorem s_X9_isRoutine {p : Program} {l : Launch} {e : Env} {s : State} {m : MethodId} {args : Array Value} {below : List Frame} {meth : Method} {c : Code} {A : Nat → Prop} {D : va_G} {K4 : kQ} {ad : Nat → Nat → Nat} {nr : Nat} {a1 : Int32} {H : Hp} {res : Int32 × Hp} (hC : Cx p s m args c A s.heap D K4 2 RX9 cX9_isRoutine) (hret : meth.sig.returnType = (some .boolean) ∧ meth.locks = false) (h : f_X9_isRoutine a1 H = some res) : V p l e ({ frames := 0, cells := 0, slots := 0, locals := 0 }) s m args below meth c A s.heap (QI below args s A D K4 ad nr res) D K4 ad nr 2 0 [(0, .ref (ad 0 0)), (1, .int a1)] [] H := by
  unfold f_X9_isRoutine at h
  refine V_iload_n hC 1 dX9_isRoutine_0 rfl ?_
  refine V_if_lt (tgt := 16) hC dX9_isRoutine_1 (by decide) (fun c1 => ?_) (fun c1 => ?_)
  · have h := it_pos c1 h
    refine V_iconst (v := 0) hC dX9_isRoutine_16 (by decide) ?_
    exact V_zret hC hret (by decide) dX9_isRoutine_17 h
  · have h := it_neg c1 h
    refine V_iload_n hC 1 dX9_isRoutine_4 rfl ?_
    refine V_aload_n hC 0 dX9_isRoutine_5 rfl ?_
    refine V_getI (g := 0) (k := 0) hC 9 0 fl_X9_157 rfl rfl rfl dX9_isRoutine_6 ?_
    refine V_icmp_ge (tgt := 16) hC dX9_isRoutine_9 (by decide) (fun c2 => ?_) (fun c2 => ?_)
    · have h := it_pos c2 h
      refine V_iconst (v := 0) hC dX9_isRoutine_16 (by decide) ?_
      exact V_zret hC hret (by decide) dX9_isRoutine_17 h
    · have h := it_neg c2 h
      refine V_iconst (v := 1) hC dX9_isRoutine_12 (by decide) ?_
      refine V_goto (tgt := 17) hC dX9_isRoutine_13 (by decide) ?_
      exact V_zret hC hret (by decide) dX9_isRoutine_17 h
theorem c_X9_isRoutine (l : Launch) {nr : Nat} {a1 : Int32} {H : Hp} {x : Int32} {H' : Hp} (h : f_X9_isRoutine a1 H = some (x, H')) : CI l nr yX9_isRoutine cX9_isRoutine 2 (some .boolean) 0 0 (fun ad => [.ref (ad 0 0), .int a1]) H x H' := by
  intro D K4 ad sz
  refine Met.ofV (by decide) (Nat.le_of_ble_eq_true rfl) ?_
  intro p e s m args below meth c hC hret hsz
  subst hsz
  exact s_X9_isRoutine hC hret h
theorem dX9_isDone_0 : decode cX9_isDone 0 = .ok (.aload_n 0, 1) := by decide +kernel
theorem dX9_isDone_1 : decode cX9_isDone 1 = .ok (.iload_n 1, 1) := by decide +kernel
theorem dX9_isDone_2 : decode cX9_isDone 2 = .ok (.invokevirtual 160, 3) := by decide +kernel
theorem dX9_isDone_5 : decode cX9_isDone 5 = .ok (.ifCond .eq 16, 3) := by decide +kernel
theorem dX9_isDone_8 : decode cX9_isDone 8 = .ok (.aload_n 0, 1) := by decide +kernel
theorem dX9_isDone_9 : decode cX9_isDone 9 = .ok (.getfield 16, 3) := by decide +kernel
theorem dX9_isDone_12 : decode cX9_isDone 12 = .ok (.iload_n 1, 1) := by decide +kernel
theorem dX9_isDone_13 : decode cX9_isDone 13 = .ok (.baload, 1) := by decide +kernel
theorem dX9_isDone_14 : decode cX9_isDone 14 = .ok (.ifCond .eq 7, 3) := by decide +kernel
theorem dX9_isDone_17 : decode cX9_isDone 17 = .ok (.iconst 1, 1) := by decide +kernel
theorem dX9_isDone_18 : decode cX9_isDone 18 = .ok (.goto 4, 3) := by decide +kernel
theorem dX9_isDone_21 : decode cX9_isDone 21 = .ok (.iconst 0, 1) := by decide +kernel
theorem dX9_isDone_22 : decode cX9_isDone 22 = .ok (.ireturn, 1) := by decide +kernel
def f_X9_isDone (a1 : Int32) (H : Hp) : Option (Int32 × Hp) := bnd (f_X9_isRoutine a1 H) (fun w2 H1 => if w2 = 0 then some (0, H1) else gd a1 8 (if (gI H1 0 3 (Int32.toNatClampNeg a1)) = 0 then some (0, H1) else some (1, H1)))
set_option maxRecDepth 100000 in
set_option maxHeartbeats 4000000 in
theorem s_X9_isDone {p : Program} {l : Launch} {e : Env} {s : State} {m : MethodId} {args : Array Value} {below : List Frame} {meth : Method} {c : Code} {A : Nat → Prop} {D : va_G} {K4 : kQ} {ad : Nat → Nat → Nat} {nr : Nat} {a1 : Int32} {H : Hp} {res : Int32 × Hp} (hC : Cx p s m args c A s.heap D K4 2 RX9 cX9_isDone) (hret : meth.sig.returnType = (some .boolean) ∧ meth.locks = false) (h : f_X9_isDone a1 H = some res) : V p l e ({ frames := 1, cells := 0, slots := 0, locals := 21 }) s m args below meth c A s.heap (QI below args s A D K4 ad nr res) D K4 ad nr 2 0 [(0, .ref (ad 0 0)), (1, .int a1)] [] H := by
  unfold f_X9_isDone at h
  refine V_aload_n hC 0 dX9_isDone_0 rfl ?_
  refine V_iload_n hC 1 dX9_isDone_1 rfl ?_
  obtain ⟨w2, H1, hc, h⟩ := bnd_some h
  refine V_calli (g := 0) (k := 0) (As := [.int a1]) (st := []) hC (c_X9_isRoutine l hc) rfl ml_X9_160 ⟨Nat.le_of_ble_eq_true rfl, Nat.le_of_ble_eq_true rfl⟩ rfl rfl rfl (Nat.le_of_ble_eq_true rfl) dX9_isDone_2 ?_
  refine V_if_eq (tgt := 21) hC dX9_isDone_5 (by decide) (fun c3 => ?_) (fun c3 => ?_)
  · have h := it_pos c3 h
    refine V_iconst (v := 0) hC dX9_isDone_21 (by decide) ?_
    exact V_zret hC hret (by decide) dX9_isDone_22 h
  · have h := it_neg c3 h
    refine V_aload_n hC 0 dX9_isDone_8 rfl ?_
    refine V_getR (g := 0) (k := 0) (g' := 0) (k' := 3) hC 9 3 fl_X9_16 rfl rfl rfl rfl dX9_isDone_9 ?_
    refine V_iload_n hC 1 dX9_isDone_12 rfl ?_
    obtain ⟨hi, h⟩ := gd_some h
    refine V_zald (g := 0) (k := 3) hC rfl rfl hi dX9_isDone_13 ?_
    refine V_if_eq (tgt := 21) hC dX9_isDone_14 (by decide) (fun c4 => ?_) (fun c4 => ?_)
    · have h := it_pos c4 h
      refine V_iconst (v := 0) hC dX9_isDone_21 (by decide) ?_
      exact V_zret hC hret (by decide) dX9_isDone_22 h
    · have h := it_neg c4 h
      refine V_iconst (v := 1) hC dX9_isDone_17 (by decide) ?_
      refine V_goto (tgt := 22) hC dX9_isDone_18 (by decide) ?_
      exact V_zret hC hret (by decide) dX9_isDone_22 h
theorem c_X9_isDone (l : Launch) {nr : Nat} {a1 : Int32} {H : Hp} {x : Int32} {H' : Hp} (h : f_X9_isDone a1 H = some (x, H')) : CI l nr yX9_isDone cX9_isDone 2 (some .boolean) 1 21 (fun ad => [.ref (ad 0 0), .int a1]) H x H' := by
  intro D K4 ad sz
  refine Met.ofV (by decide) (Nat.le_of_ble_eq_true rfl) ?_
  intro p e s m args below meth c hC hret hsz
  subst hsz
  exact s_X9_isDone hC hret h
theorem dX9_isEdge_0 : decode cX9_isEdge 0 = .ok (.aload_n 0, 1) := by decide +kernel
theorem dX9_isEdge_1 : decode cX9_isEdge 1 = .ok (.iload_n 1, 1) := by decide +kernel
theorem dX9_isEdge_2 : decode cX9_isEdge 2 = .ok (.invokevirtual 160, 3) := by decide +kernel
theorem dX9_isEdge_5 : decode cX9_isEdge 5 = .ok (.ifCond .eq 21, 3) := by decide +kernel
theorem dX9_isEdge_8 : decode cX9_isEdge 8 = .ok (.iload_n 2, 1) := by decide +kernel
theorem dX9_isEdge_9 : decode cX9_isEdge 9 = .ok (.ifCond .lt 17, 3) := by decide +kernel
theorem dX9_isEdge_12 : decode cX9_isEdge 12 = .ok (.iload_n 2, 1) := by decide +kernel
theorem dX9_isEdge_13 : decode cX9_isEdge 13 = .ok (.aload_n 0, 1) := by decide +kernel
theorem dX9_isEdge_14 : decode cX9_isEdge 14 = .ok (.getfield 13, 3) := by decide +kernel
theorem dX9_isEdge_17 : decode cX9_isEdge 17 = .ok (.iload_n 1, 1) := by decide +kernel
theorem dX9_isEdge_18 : decode cX9_isEdge 18 = .ok (.iaload, 1) := by decide +kernel
theorem dX9_isEdge_19 : decode cX9_isEdge 19 = .ok (.if_icmp .ge 7, 3) := by decide +kernel
theorem dX9_isEdge_22 : decode cX9_isEdge 22 = .ok (.iconst 1, 1) := by decide +kernel
theorem dX9_isEdge_23 : decode cX9_isEdge 23 = .ok (.goto 4, 3) := by decide +kernel
theorem dX9_isEdge_26 : decode cX9_isEdge 26 = .ok (.iconst 0, 1) := by decide +kernel
theorem dX9_isEdge_27 : decode cX9_isEdge 27 = .ok (.ireturn, 1) := by decide +kernel
def f_X9_isEdge (a1 : Int32) (a2 : Int32) (H : Hp) : Option (Int32 × Hp) := bnd (f_X9_isRoutine a1 H) (fun w2 H1 => if w2 = 0 then some (0, H1) else if a2 < 0 then some (0, H1) else gd a1 8 (if (gI H1 0 2 (Int32.toNatClampNeg a1)) ≤ a2 then some (0, H1) else some (1, H1)))
set_option maxRecDepth 100000 in
set_option maxHeartbeats 4000000 in
theorem s_X9_isEdge {p : Program} {l : Launch} {e : Env} {s : State} {m : MethodId} {args : Array Value} {below : List Frame} {meth : Method} {c : Code} {A : Nat → Prop} {D : va_G} {K4 : kQ} {ad : Nat → Nat → Nat} {nr : Nat} {a1 : Int32} {a2 : Int32} {H : Hp} {res : Int32 × Hp} (hC : Cx p s m args c A s.heap D K4 3 RX9 cX9_isEdge) (hret : meth.sig.returnType = (some .boolean) ∧ meth.locks = false) (h : f_X9_isEdge a1 a2 H = some res) : V p l e ({ frames := 1, cells := 0, slots := 0, locals := 21 }) s m args below meth c A s.heap (QI below args s A D K4 ad nr res) D K4 ad nr 3 0 [(0, .ref (ad 0 0)), (1, .int a1), (2, .int a2)] [] H := by
  unfold f_X9_isEdge at h
  refine V_aload_n hC 0 dX9_isEdge_0 rfl ?_
  refine V_iload_n hC 1 dX9_isEdge_1 rfl ?_
  obtain ⟨w2, H1, hc, h⟩ := bnd_some h
  refine V_calli (g := 0) (k := 0) (As := [.int a1]) (st := []) hC (c_X9_isRoutine l hc) rfl ml_X9_160 ⟨Nat.le_of_ble_eq_true rfl, Nat.le_of_ble_eq_true rfl⟩ rfl rfl rfl (Nat.le_of_ble_eq_true rfl) dX9_isEdge_2 ?_
  refine V_if_eq (tgt := 26) hC dX9_isEdge_5 (by decide) (fun c3 => ?_) (fun c3 => ?_)
  · have h := it_pos c3 h
    refine V_iconst (v := 0) hC dX9_isEdge_26 (by decide) ?_
    exact V_zret hC hret (by decide) dX9_isEdge_27 h
  · have h := it_neg c3 h
    refine V_iload_n hC 2 dX9_isEdge_8 rfl ?_
    refine V_if_lt (tgt := 26) hC dX9_isEdge_9 (by decide) (fun c4 => ?_) (fun c4 => ?_)
    · have h := it_pos c4 h
      refine V_iconst (v := 0) hC dX9_isEdge_26 (by decide) ?_
      exact V_zret hC hret (by decide) dX9_isEdge_27 h
    · have h := it_neg c4 h
      refine V_iload_n hC 2 dX9_isEdge_12 rfl ?_
      refine V_aload_n hC 0 dX9_isEdge_13 rfl ?_
      refine V_getR (g := 0) (k := 0) (g' := 0) (k' := 2) hC 9 2 fl_X9_13 rfl rfl rfl rfl dX9_isEdge_14 ?_
      refine V_iload_n hC 1 dX9_isEdge_17 rfl ?_
      obtain ⟨hi, h⟩ := gd_some h
      refine V_iald (g := 0) (k := 2) hC rfl rfl hi dX9_isEdge_18 ?_
      refine V_icmp_ge (tgt := 26) hC dX9_isEdge_19 (by decide) (fun c5 => ?_) (fun c5 => ?_)
      · have h := it_pos c5 h
        refine V_iconst (v := 0) hC dX9_isEdge_26 (by decide) ?_
        exact V_zret hC hret (by decide) dX9_isEdge_27 h
      · have h := it_neg c5 h
        refine V_iconst (v := 1) hC dX9_isEdge_22 (by decide) ?_
        refine V_goto (tgt := 27) hC dX9_isEdge_23 (by decide) ?_
        exact V_zret hC hret (by decide) dX9_isEdge_27 h
theorem c_X9_isEdge (l : Launch) {nr : Nat} {a1 : Int32} {a2 : Int32} {H : Hp} {x : Int32} {H' : Hp} (h : f_X9_isEdge a1 a2 H = some (x, H')) : CI l nr yX9_isEdge cX9_isEdge 3 (some .boolean) 1 21 (fun ad => [.ref (ad 0 0), .int a1, .int a2]) H x H' := by
  intro D K4 ad sz
  refine Met.ofV (by decide) (Nat.le_of_ble_eq_true rfl) ?_
  intro p e s m args below meth c hC hret hsz
  subst hsz
  exact s_X9_isEdge hC hret h
theorem dX9_isBlock_0 : decode cX9_isBlock 0 = .ok (.aload_n 0, 1) := by decide +kernel
theorem dX9_isBlock_1 : decode cX9_isBlock 1 = .ok (.iload_n 1, 1) := by decide +kernel
theorem dX9_isBlock_2 : decode cX9_isBlock 2 = .ok (.invokevirtual 160, 3) := by decide +kernel
theorem dX9_isBlock_5 : decode cX9_isBlock 5 = .ok (.ifCond .eq 21, 3) := by decide +kernel
theorem dX9_isBlock_8 : decode cX9_isBlock 8 = .ok (.iload_n 2, 1) := by decide +kernel
theorem dX9_isBlock_9 : decode cX9_isBlock 9 = .ok (.ifCond .lt 17, 3) := by decide +kernel
theorem dX9_isBlock_12 : decode cX9_isBlock 12 = .ok (.iload_n 2, 1) := by decide +kernel
theorem dX9_isBlock_13 : decode cX9_isBlock 13 = .ok (.aload_n 0, 1) := by decide +kernel
theorem dX9_isBlock_14 : decode cX9_isBlock 14 = .ok (.getfield 7, 3) := by decide +kernel
theorem dX9_isBlock_17 : decode cX9_isBlock 17 = .ok (.iload_n 1, 1) := by decide +kernel
theorem dX9_isBlock_18 : decode cX9_isBlock 18 = .ok (.iaload, 1) := by decide +kernel
theorem dX9_isBlock_19 : decode cX9_isBlock 19 = .ok (.if_icmp .ge 7, 3) := by decide +kernel
theorem dX9_isBlock_22 : decode cX9_isBlock 22 = .ok (.iconst 1, 1) := by decide +kernel
theorem dX9_isBlock_23 : decode cX9_isBlock 23 = .ok (.goto 4, 3) := by decide +kernel
theorem dX9_isBlock_26 : decode cX9_isBlock 26 = .ok (.iconst 0, 1) := by decide +kernel
theorem dX9_isBlock_27 : decode cX9_isBlock 27 = .ok (.ireturn, 1) := by decide +kernel
def f_X9_isBlock (a1 : Int32) (a2 : Int32) (H : Hp) : Option (Int32 × Hp) := bnd (f_X9_isRoutine a1 H) (fun w2 H1 => if w2 = 0 then some (0, H1) else if a2 < 0 then some (0, H1) else gd a1 8 (if (gI H1 0 1 (Int32.toNatClampNeg a1)) ≤ a2 then some (0, H1) else some (1, H1)))
set_option maxRecDepth 100000 in
set_option maxHeartbeats 4000000 in
theorem s_X9_isBlock {p : Program} {l : Launch} {e : Env} {s : State} {m : MethodId} {args : Array Value} {below : List Frame} {meth : Method} {c : Code} {A : Nat → Prop} {D : va_G} {K4 : kQ} {ad : Nat → Nat → Nat} {nr : Nat} {a1 : Int32} {a2 : Int32} {H : Hp} {res : Int32 × Hp} (hC : Cx p s m args c A s.heap D K4 3 RX9 cX9_isBlock) (hret : meth.sig.returnType = (some .boolean) ∧ meth.locks = false) (h : f_X9_isBlock a1 a2 H = some res) : V p l e ({ frames := 1, cells := 0, slots := 0, locals := 21 }) s m args below meth c A s.heap (QI below args s A D K4 ad nr res) D K4 ad nr 3 0 [(0, .ref (ad 0 0)), (1, .int a1), (2, .int a2)] [] H := by
  unfold f_X9_isBlock at h
  refine V_aload_n hC 0 dX9_isBlock_0 rfl ?_
  refine V_iload_n hC 1 dX9_isBlock_1 rfl ?_
  obtain ⟨w2, H1, hc, h⟩ := bnd_some h
  refine V_calli (g := 0) (k := 0) (As := [.int a1]) (st := []) hC (c_X9_isRoutine l hc) rfl ml_X9_160 ⟨Nat.le_of_ble_eq_true rfl, Nat.le_of_ble_eq_true rfl⟩ rfl rfl rfl (Nat.le_of_ble_eq_true rfl) dX9_isBlock_2 ?_
  refine V_if_eq (tgt := 26) hC dX9_isBlock_5 (by decide) (fun c3 => ?_) (fun c3 => ?_)
  · have h := it_pos c3 h
    refine V_iconst (v := 0) hC dX9_isBlock_26 (by decide) ?_
    exact V_zret hC hret (by decide) dX9_isBlock_27 h
  · have h := it_neg c3 h
    refine V_iload_n hC 2 dX9_isBlock_8 rfl ?_
    refine V_if_lt (tgt := 26) hC dX9_isBlock_9 (by decide) (fun c4 => ?_) (fun c4 => ?_)
    · have h := it_pos c4 h
      refine V_iconst (v := 0) hC dX9_isBlock_26 (by decide) ?_
      exact V_zret hC hret (by decide) dX9_isBlock_27 h
    · have h := it_neg c4 h
      refine V_iload_n hC 2 dX9_isBlock_12 rfl ?_
      refine V_aload_n hC 0 dX9_isBlock_13 rfl ?_
      refine V_getR (g := 0) (k := 0) (g' := 0) (k' := 1) hC 9 1 fl_X9_7 rfl rfl rfl rfl dX9_isBlock_14 ?_
      refine V_iload_n hC 1 dX9_isBlock_17 rfl ?_
      obtain ⟨hi, h⟩ := gd_some h
      refine V_iald (g := 0) (k := 1) hC rfl rfl hi dX9_isBlock_18 ?_
      refine V_icmp_ge (tgt := 26) hC dX9_isBlock_19 (by decide) (fun c5 => ?_) (fun c5 => ?_)
      · have h := it_pos c5 h
        refine V_iconst (v := 0) hC dX9_isBlock_26 (by decide) ?_
        exact V_zret hC hret (by decide) dX9_isBlock_27 h
      · have h := it_neg c5 h
        refine V_iconst (v := 1) hC dX9_isBlock_22 (by decide) ?_
        refine V_goto (tgt := 27) hC dX9_isBlock_23 (by decide) ?_
        exact V_zret hC hret (by decide) dX9_isBlock_27 h
theorem c_X9_isBlock (l : Launch) {nr : Nat} {a1 : Int32} {a2 : Int32} {H : Hp} {x : Int32} {H' : Hp} (h : f_X9_isBlock a1 a2 H = some (x, H')) : CI l nr yX9_isBlock cX9_isBlock 3 (some .boolean) 1 21 (fun ad => [.ref (ad 0 0), .int a1, .int a2]) H x H' := by
  intro D K4 ad sz
  refine Met.ofV (by decide) (Nat.le_of_ble_eq_true rfl) ?_
  intro p e s m args below meth c hC hret hsz
  subst hsz
  exact s_X9_isBlock hC hret h
theorem dX9_block_0 : decode cX9_block 0 = .ok (.aload_n 0, 1) := by decide +kernel
theorem dX9_block_1 : decode cX9_block 1 = .ok (.iconst 0, 1) := by decide +kernel
theorem dX9_block_2 : decode cX9_block 2 = .ok (.putfield 153, 3) := by decide +kernel
theorem dX9_block_5 : decode cX9_block 5 = .ok (.aload_n 0, 1) := by decide +kernel
theorem dX9_block_6 : decode cX9_block 6 = .ok (.iload_n 1, 1) := by decide +kernel
theorem dX9_block_7 : decode cX9_block 7 = .ok (.invokevirtual 160, 3) := by decide +kernel
theorem dX9_block_10 : decode cX9_block 10 = .ok (.ifCond .eq 47, 3) := by decide +kernel
theorem dX9_block_13 : decode cX9_block 13 = .ok (.aload_n 0, 1) := by decide +kernel
theorem dX9_block_14 : decode cX9_block 14 = .ok (.getfield 16, 3) := by decide +kernel
theorem dX9_block_17 : decode cX9_block 17 = .ok (.iload_n 1, 1) := by decide +kernel
theorem dX9_block_18 : decode cX9_block 18 = .ok (.baload, 1) := by decide +kernel
theorem dX9_block_19 : decode cX9_block 19 = .ok (.ifCond .ne 38, 3) := by decide +kernel
theorem dX9_block_22 : decode cX9_block 22 = .ok (.aload_n 0, 1) := by decide +kernel
theorem dX9_block_23 : decode cX9_block 23 = .ok (.getfield 7, 3) := by decide +kernel
theorem dX9_block_26 : decode cX9_block 26 = .ok (.iload_n 1, 1) := by decide +kernel
theorem dX9_block_27 : decode cX9_block 27 = .ok (.iaload, 1) := by decide +kernel
theorem dX9_block_28 : decode cX9_block 28 = .ok (.bipush 20, 2) := by decide +kernel
theorem dX9_block_30 : decode cX9_block 30 = .ok (.if_icmp .eq 27, 3) := by decide +kernel
theorem dX9_block_33 : decode cX9_block 33 = .ok (.iload_n 2, 1) := by decide +kernel
theorem dX9_block_34 : decode cX9_block 34 = .ok (.ifCond .lt 23, 3) := by decide +kernel
theorem dX9_block_37 : decode cX9_block 37 = .ok (.iload_n 2, 1) := by decide +kernel
theorem dX9_block_38 : decode cX9_block 38 = .ok (.iconst 4, 1) := by decide +kernel
theorem dX9_block_39 : decode cX9_block 39 = .ok (.if_icmp .gt 18, 3) := by decide +kernel
theorem dX9_block_42 : decode cX9_block 42 = .ok (.iload_n 2, 1) := by decide +kernel
theorem dX9_block_43 : decode cX9_block 43 = .ok (.iconst 2, 1) := by decide +kernel
theorem dX9_block_44 : decode cX9_block 44 = .ok (.if_icmp .ne 15, 3) := by decide +kernel
theorem dX9_block_47 : decode cX9_block 47 = .ok (.iload_n 3, 1) := by decide +kernel
theorem dX9_block_48 : decode cX9_block 48 = .ok (.ifCond .lt 9, 3) := by decide +kernel
theorem dX9_block_51 : decode cX9_block 51 = .ok (.iload_n 3, 1) := by decide +kernel
theorem dX9_block_52 : decode cX9_block 52 = .ok (.bipush 7, 2) := by decide +kernel
theorem dX9_block_54 : decode cX9_block 54 = .ok (.if_icmp .le 5, 3) := by decide +kernel
theorem dX9_block_57 : decode cX9_block 57 = .ok (.iconst (-1), 1) := by decide +kernel
theorem dX9_block_58 : decode cX9_block 58 = .ok (.ireturn, 1) := by decide +kernel
theorem dX9_block_59 : decode cX9_block 59 = .ok (.aload_n 0, 1) := by decide +kernel
theorem dX9_block_60 : decode cX9_block 60 = .ok (.getfield 20, 3) := by decide +kernel
theorem dX9_block_63 : decode cX9_block 63 = .ok (.bipush 20, 2) := by decide +kernel
theorem dX9_block_65 : decode cX9_block 65 = .ok (.iload_n 1, 1) := by decide +kernel
theorem dX9_block_66 : decode cX9_block 66 = .ok (.imul, 1) := by decide +kernel
theorem dX9_block_67 : decode cX9_block 67 = .ok (.aload_n 0, 1) := by decide +kernel
theorem dX9_block_68 : decode cX9_block 68 = .ok (.getfield 7, 3) := by decide +kernel
theorem dX9_block_71 : decode cX9_block 71 = .ok (.iload_n 1, 1) := by decide +kernel
theorem dX9_block_72 : decode cX9_block 72 = .ok (.iaload, 1) := by decide +kernel
theorem dX9_block_73 : decode cX9_block 73 = .ok (.iadd, 1) := by decide +kernel
theorem dX9_block_74 : decode cX9_block 74 = .ok (.iload_n 2, 1) := by decide +kernel
theorem dX9_block_75 : decode cX9_block 75 = .ok (.iastore, 1) := by decide +kernel
theorem dX9_block_76 : decode cX9_block 76 = .ok (.aload_n 0, 1) := by decide +kernel
theorem dX9_block_77 : decode cX9_block 77 = .ok (.getfield 23, 3) := by decide +kernel
theorem dX9_block_80 : decode cX9_block 80 = .ok (.bipush 20, 2) := by decide +kernel
theorem dX9_block_82 : decode cX9_block 82 = .ok (.iload_n 1, 1) := by decide +kernel
theorem dX9_block_83 : decode cX9_block 83 = .ok (.imul, 1) := by decide +kernel
theorem dX9_block_84 : decode cX9_block 84 = .ok (.aload_n 0, 1) := by decide +kernel
theorem dX9_block_85 : decode cX9_block 85 = .ok (.getfield 7, 3) := by decide +kernel
theorem dX9_block_88 : decode cX9_block 88 = .ok (.iload_n 1, 1) := by decide +kernel
theorem dX9_block_89 : decode cX9_block 89 = .ok (.iaload, 1) := by decide +kernel
theorem dX9_block_90 : decode cX9_block 90 = .ok (.iadd, 1) := by decide +kernel
theorem dX9_block_91 : decode cX9_block 91 = .ok (.iload_n 2, 1) := by decide +kernel
theorem dX9_block_92 : decode cX9_block 92 = .ok (.iconst 2, 1) := by decide +kernel
theorem dX9_block_93 : decode cX9_block 93 = .ok (.if_icmp .ne 7, 3) := by decide +kernel
theorem dX9_block_96 : decode cX9_block 96 = .ok (.iload_n 3, 1) := by decide +kernel
theorem dX9_block_97 : decode cX9_block 97 = .ok (.goto 4, 3) := by decide +kernel
theorem dX9_block_100 : decode cX9_block 100 = .ok (.iconst (-1), 1) := by decide +kernel
theorem dX9_block_101 : decode cX9_block 101 = .ok (.iastore, 1) := by decide +kernel
theorem dX9_block_102 : decode cX9_block 102 = .ok (.aload_n 0, 1) := by decide +kernel
theorem dX9_block_103 : decode cX9_block 103 = .ok (.getfield 7, 3) := by decide +kernel
theorem dX9_block_106 : decode cX9_block 106 = .ok (.iload_n 1, 1) := by decide +kernel
theorem dX9_block_107 : decode cX9_block 107 = .ok (.dup2, 1) := by decide +kernel
theorem dX9_block_108 : decode cX9_block 108 = .ok (.iaload, 1) := by decide +kernel
theorem dX9_block_109 : decode cX9_block 109 = .ok (.iconst 1, 1) := by decide +kernel
theorem dX9_block_110 : decode cX9_block 110 = .ok (.iadd, 1) := by decide +kernel
theorem dX9_block_111 : decode cX9_block 111 = .ok (.iastore, 1) := by decide +kernel
theorem dX9_block_112 : decode cX9_block 112 = .ok (.aload_n 0, 1) := by decide +kernel
theorem dX9_block_113 : decode cX9_block 113 = .ok (.getfield 7, 3) := by decide +kernel
theorem dX9_block_116 : decode cX9_block 116 = .ok (.iload_n 1, 1) := by decide +kernel
theorem dX9_block_117 : decode cX9_block 117 = .ok (.iaload, 1) := by decide +kernel
theorem dX9_block_118 : decode cX9_block 118 = .ok (.iconst 1, 1) := by decide +kernel
theorem dX9_block_119 : decode cX9_block 119 = .ok (.isub, 1) := by decide +kernel
theorem dX9_block_120 : decode cX9_block 120 = .ok (.ireturn, 1) := by decide +kernel
def f_X9_block (a1 : Int32) (a2 : Int32) (a3 : Int32) (H : Hp) : Option (Int32 × Hp) := hl (sI H 0 0 34 0) (fun (H1 : Hp) => bnd (f_X9_isRoutine a1 H1) (fun w3 H2 => if w3 = 0 then some ((-1), H2) else gd a1 8 (if (gI H2 0 3 (Int32.toNatClampNeg a1)) = 0 then gd a1 8 (if (gI H2 0 1 (Int32.toNatClampNeg a1)) = 20 then some ((-1), H2) else if a2 < 0 then some ((-1), H2) else if 4 < a2 then some ((-1), H2) else jn (fun (H10 : Hp) => gd a1 8 (gd ((20 * a1) + (gI H10 0 1 (Int32.toNatClampNeg a1))) 160 (hl (sI H10 0 4 (Int32.toNatClampNeg ((20 * a1) + (gI H10 0 1 (Int32.toNatClampNeg a1)))) a2) (fun (H11 : Hp) => gd a1 8 (jn (fun (y13 : Int32) (H14 : Hp) => gd ((20 * a1) + (gI H11 0 1 (Int32.toNatClampNeg a1))) 160 (hl (sI H14 0 5 (Int32.toNatClampNeg ((20 * a1) + (gI H11 0 1 (Int32.toNatClampNeg a1)))) y13) (fun (H15 : Hp) => gd a1 8 (gd a1 8 (hl (sI H15 0 1 (Int32.toNatClampNeg a1) ((gI H15 0 1 (Int32.toNatClampNeg a1)) + 1)) (fun (H16 : Hp) => gd a1 8 (some (((gI H16 0 1 (Int32.toNatClampNeg a1)) - 1), H16)))))))) (fun j12 => if a2 = 2 then j12 a3 H11 else j12 (-1) H11)))))) (fun j9 => if a2 = 2 then if a3 < 0 then some ((-1), H2) else if a3 ≤ 7 then j9 H2 else some ((-1), H2) else j9 H2)) else some ((-1), H2))))
set_option maxRecDepth 100000 in
set_option maxHeartbeats 4000000 in
theorem s_X9_block {p : Program} {l : Launch} {e : Env} {s : State} {m : MethodId} {args : Array Value} {below : List Frame} {meth : Method} {c : Code} {A : Nat → Prop} {D : va_G} {K4 : kQ} {ad : Nat → Nat → Nat} {nr : Nat} {a1 : Int32} {a2 : Int32} {a3 : Int32} {H : Hp} {res : Int32 × Hp} (hC : Cx p s m args c A s.heap D K4 4 RX9 cX9_block) (hret : meth.sig.returnType = (some .int) ∧ meth.locks = false) (h : f_X9_block a1 a2 a3 H = some res) : V p l e ({ frames := 1, cells := 0, slots := 0, locals := 21 }) s m args below meth c A s.heap (QI below args s A D K4 ad nr res) D K4 ad nr 4 0 [(0, .ref (ad 0 0)), (1, .int a1), (2, .int a2), (3, .int a3)] [] H := by
  unfold f_X9_block at h
  refine V_aload_n hC 0 dX9_block_0 rfl ?_
  refine V_iconst (v := 0) hC dX9_block_1 (by decide) ?_
  refine V_putI (g := 0) (k := 0) hC 9 34 .int fw_X9_153 rfl rfl rfl rfl rfl dX9_block_2 ?_
  refine V_hl h (fun H1 h => ?_)
  refine V_aload_n hC 0 dX9_block_5 rfl ?_
  refine V_iload_n hC 1 dX9_block_6 rfl ?_
  obtain ⟨w3, H2, hc, h⟩ := bnd_some h
  refine V_calli (g := 0) (k := 0) (As := [.int a1]) (st := []) hC (c_X9_isRoutine l hc) rfl ml_X9_160 ⟨Nat.le_of_ble_eq_true rfl, Nat.le_of_ble_eq_true rfl⟩ rfl rfl rfl (Nat.le_of_ble_eq_true rfl) dX9_block_7 ?_
  refine V_if_eq (tgt := 57) hC dX9_block_10 (by decide) (fun c4 => ?_) (fun c4 => ?_)
  · have h := it_pos c4 h
    refine V_iconst (v := -1) hC dX9_block_57 (by decide) ?_
    exact V_iret hC hret dX9_block_58 h
  · have h := it_neg c4 h
    refine V_aload_n hC 0 dX9_block_13 rfl ?_
    refine V_getR (g := 0) (k := 0) (g' := 0) (k' := 3) hC 9 3 fl_X9_16 rfl rfl rfl rfl dX9_block_14 ?_
    refine V_iload_n hC 1 dX9_block_17 rfl ?_
    obtain ⟨hi, h⟩ := gd_some h
    refine V_zald (g := 0) (k := 3) hC rfl rfl hi dX9_block_18 ?_
    refine V_if_ne (tgt := 57) hC dX9_block_19 (by decide) (fun c5 => ?_) (fun c5 => ?_)
    · have h := it_neg c5 h
      refine V_iconst (v := -1) hC dX9_block_57 (by decide) ?_
      exact V_iret hC hret dX9_block_58 h
    · have h := it_pos c5 h
      refine V_aload_n hC 0 dX9_block_22 rfl ?_
      refine V_getR (g := 0) (k := 0) (g' := 0) (k' := 1) hC 9 1 fl_X9_7 rfl rfl rfl rfl dX9_block_23 ?_
      refine V_iload_n hC 1 dX9_block_26 rfl ?_
      obtain ⟨hi, h⟩ := gd_some h
      refine V_iald (g := 0) (k := 1) hC rfl rfl hi dX9_block_27 ?_
      refine V_bipush (v := 20) hC dX9_block_28 (by decide) ?_
      refine V_icmp_eq (tgt := 57) hC dX9_block_30 (by decide) (fun c6 => ?_) (fun c6 => ?_)
      · have h := it_pos c6 h
        refine V_iconst (v := -1) hC dX9_block_57 (by decide) ?_
        exact V_iret hC hret dX9_block_58 h
      · have h := it_neg c6 h
        refine V_iload_n hC 2 dX9_block_33 rfl ?_
        refine V_if_lt (tgt := 57) hC dX9_block_34 (by decide) (fun c7 => ?_) (fun c7 => ?_)
        · have h := it_pos c7 h
          refine V_iconst (v := -1) hC dX9_block_57 (by decide) ?_
          exact V_iret hC hret dX9_block_58 h
        · have h := it_neg c7 h
          refine V_iload_n hC 2 dX9_block_37 rfl ?_
          refine V_iconst (v := 4) hC dX9_block_38 (by decide) ?_
          refine V_icmp_gt (tgt := 57) hC dX9_block_39 (by decide) (fun c8 => ?_) (fun c8 => ?_)
          · have h := it_pos c8 h
            refine V_iconst (v := -1) hC dX9_block_57 (by decide) ?_
            exact V_iret hC hret dX9_block_58 h
          · have h := it_neg c8 h
            refine V_iload_n hC 2 dX9_block_42 rfl ?_
            refine V_iconst (v := 2) hC dX9_block_43 (by decide) ?_
            refine V_jn0 (pj := 59) (lj := [(0, .ref (ad 0 0)), (1, .int a1), (2, .int a2), (3, .int a3)]) (sj := []) h (fun H10 h => ?_) (fun hj9 h => ?_)
            · refine V_aload_n hC 0 dX9_block_59 rfl ?_
              refine V_getR (g := 0) (k := 0) (g' := 0) (k' := 4) hC 9 4 fl_X9_20 rfl rfl rfl rfl dX9_block_60 ?_
              refine V_bipush (v := 20) hC dX9_block_63 (by decide) ?_
              refine V_iload_n hC 1 dX9_block_65 rfl ?_
              refine V_imul hC dX9_block_66 ?_
              refine V_aload_n hC 0 dX9_block_67 rfl ?_
              refine V_getR (g := 0) (k := 0) (g' := 0) (k' := 1) hC 9 1 fl_X9_7 rfl rfl rfl rfl dX9_block_68 ?_
              refine V_iload_n hC 1 dX9_block_71 rfl ?_
              obtain ⟨hi, h⟩ := gd_some h
              refine V_iald (g := 0) (k := 1) hC rfl rfl hi dX9_block_72 ?_
              refine V_iadd hC dX9_block_73 ?_
              refine V_iload_n hC 2 dX9_block_74 rfl ?_
              obtain ⟨hi, h⟩ := gd_some h
              refine V_iast (g := 0) (k := 4) hC rfl rfl hi dX9_block_75 ?_
              refine V_hl h (fun H11 h => ?_)
              refine V_aload_n hC 0 dX9_block_76 rfl ?_
              refine V_getR (g := 0) (k := 0) (g' := 0) (k' := 5) hC 9 5 fl_X9_23 rfl rfl rfl rfl dX9_block_77 ?_
              refine V_bipush (v := 20) hC dX9_block_80 (by decide) ?_
              refine V_iload_n hC 1 dX9_block_82 rfl ?_
              refine V_imul hC dX9_block_83 ?_
              refine V_aload_n hC 0 dX9_block_84 rfl ?_
              refine V_getR (g := 0) (k := 0) (g' := 0) (k' := 1) hC 9 1 fl_X9_7 rfl rfl rfl rfl dX9_block_85 ?_
              refine V_iload_n hC 1 dX9_block_88 rfl ?_
              obtain ⟨hi, h⟩ := gd_some h
              refine V_iald (g := 0) (k := 1) hC rfl rfl hi dX9_block_89 ?_
              refine V_iadd hC dX9_block_90 ?_
              refine V_iload_n hC 2 dX9_block_91 rfl ?_
              refine V_iconst (v := 2) hC dX9_block_92 (by decide) ?_
              refine V_jn1 (pj := 101) (lj := fun y13 => [(0, .ref (ad 0 0)), (1, .int a1)]) (sj := fun y13 => [.int y13, .int ((20 * a1) + (gI H11 0 1 (Int32.toNatClampNeg a1))), .ref (ad 0 5)]) h (fun y13 H14 h => ?_) (fun hj12 h => ?_)
              · obtain ⟨hi, h⟩ := gd_some h
                refine V_iast (g := 0) (k := 5) hC rfl rfl hi dX9_block_101 ?_
                refine V_hl h (fun H15 h => ?_)
                refine V_aload_n hC 0 dX9_block_102 rfl ?_
                refine V_getR (g := 0) (k := 0) (g' := 0) (k' := 1) hC 9 1 fl_X9_7 rfl rfl rfl rfl dX9_block_103 ?_
                refine V_iload_n hC 1 dX9_block_106 rfl ?_
                refine V_dup2 hC dX9_block_107 rfl rfl ?_
                obtain ⟨hi, h⟩ := gd_some h
                refine V_iald (g := 0) (k := 1) hC rfl rfl hi dX9_block_108 ?_
                refine V_iconst (v := 1) hC dX9_block_109 (by decide) ?_
                refine V_iadd hC dX9_block_110 ?_
                obtain ⟨hi, h⟩ := gd_some h
                refine V_iast (g := 0) (k := 1) hC rfl rfl hi dX9_block_111 ?_
                refine V_hl h (fun H16 h => ?_)
                refine V_aload_n hC 0 dX9_block_112 rfl ?_
                refine V_getR (g := 0) (k := 0) (g' := 0) (k' := 1) hC 9 1 fl_X9_7 rfl rfl rfl rfl dX9_block_113 ?_
                refine V_iload_n hC 1 dX9_block_116 rfl ?_
                obtain ⟨hi, h⟩ := gd_some h
                refine V_iald (g := 0) (k := 1) hC rfl rfl hi dX9_block_117 ?_
                refine V_iconst (v := 1) hC dX9_block_118 (by decide) ?_
                refine V_isub hC dX9_block_119 ?_
                exact V_iret hC hret dX9_block_120 h
              · refine V_icmp_ne (tgt := 100) hC dX9_block_93 (by decide) (fun c17 => ?_) (fun c17 => ?_)
                · have h := it_neg c17 h
                  refine V_iconst (v := -1) hC dX9_block_100 (by decide) ?_
                  refine V_lv (lv' := [(0, .ref (ad 0 0)), (1, .int a1)]) [0, 1] rfl ?_
                  exact hj12 (-1) H11 h
                · have h := it_pos c17 h
                  refine V_iload_n hC 3 dX9_block_96 rfl ?_
                  refine V_goto (tgt := 101) hC dX9_block_97 (by decide) ?_
                  refine V_lv (lv' := [(0, .ref (ad 0 0)), (1, .int a1)]) [0, 1] rfl ?_
                  exact hj12 a3 H11 h
            · refine V_icmp_ne (tgt := 59) hC dX9_block_44 (by decide) (fun c18 => ?_) (fun c18 => ?_)
              · have h := it_neg c18 h
                refine V_lv (lv' := [(0, .ref (ad 0 0)), (1, .int a1), (2, .int a2), (3, .int a3)]) [0, 1, 2, 3] rfl ?_
                exact hj9 H2 h
              · have h := it_pos c18 h
                refine V_iload_n hC 3 dX9_block_47 rfl ?_
                refine V_if_lt (tgt := 57) hC dX9_block_48 (by decide) (fun c19 => ?_) (fun c19 => ?_)
                · have h := it_pos c19 h
                  refine V_iconst (v := -1) hC dX9_block_57 (by decide) ?_
                  exact V_iret hC hret dX9_block_58 h
                · have h := it_neg c19 h
                  refine V_iload_n hC 3 dX9_block_51 rfl ?_
                  refine V_bipush (v := 7) hC dX9_block_52 (by decide) ?_
                  refine V_icmp_le (tgt := 59) hC dX9_block_54 (by decide) (fun c20 => ?_) (fun c20 => ?_)
                  · have h := it_pos c20 h
                    refine V_lv (lv' := [(0, .ref (ad 0 0)), (1, .int a1), (2, .int a2), (3, .int a3)]) [0, 1, 2, 3] rfl ?_
                    exact hj9 H2 h
                  · have h := it_neg c20 h
                    refine V_iconst (v := -1) hC dX9_block_57 (by decide) ?_
                    exact V_iret hC hret dX9_block_58 h
theorem c_X9_block (l : Launch) {nr : Nat} {a1 : Int32} {a2 : Int32} {a3 : Int32} {H : Hp} {x : Int32} {H' : Hp} (h : f_X9_block a1 a2 a3 H = some (x, H')) : CI l nr yX9_block cX9_block 4 (some .int) 1 21 (fun ad => [.ref (ad 0 0), .int a1, .int a2, .int a3]) H x H' := by
  intro D K4 ad sz
  refine Met.ofV (by decide) (Nat.le_of_ble_eq_true rfl) ?_
  intro p e s m args below meth c hC hret hsz
  subst hsz
  exact s_X9_block hC hret h
theorem dX9_outs_0 : decode cX9_outs 0 = .ok (.iconst 0, 1) := by decide +kernel
theorem dX9_outs_1 : decode cX9_outs 1 = .ok (.istore_n 3, 1) := by decide +kernel
theorem dX9_outs_2 : decode cX9_outs 2 = .ok (.bipush 40, 2) := by decide +kernel
theorem dX9_outs_4 : decode cX9_outs 4 = .ok (.iload_n 1, 1) := by decide +kernel
theorem dX9_outs_5 : decode cX9_outs 5 = .ok (.imul, 1) := by decide +kernel
theorem dX9_outs_6 : decode cX9_outs 6 = .ok (.istore 4, 2) := by decide +kernel
theorem dX9_outs_8 : decode cX9_outs 8 = .ok (.iload 4, 2) := by decide +kernel
theorem dX9_outs_10 : decode cX9_outs 10 = .ok (.bipush 40, 2) := by decide +kernel
theorem dX9_outs_12 : decode cX9_outs 12 = .ok (.iload_n 1, 1) := by decide +kernel
theorem dX9_outs_13 : decode cX9_outs 13 = .ok (.imul, 1) := by decide +kernel
theorem dX9_outs_14 : decode cX9_outs 14 = .ok (.aload_n 0, 1) := by decide +kernel
theorem dX9_outs_15 : decode cX9_outs 15 = .ok (.getfield 13, 3) := by decide +kernel
theorem dX9_outs_18 : decode cX9_outs 18 = .ok (.iload_n 1, 1) := by decide +kernel
theorem dX9_outs_19 : decode cX9_outs 19 = .ok (.iaload, 1) := by decide +kernel
theorem dX9_outs_20 : decode cX9_outs 20 = .ok (.iadd, 1) := by decide +kernel
theorem dX9_outs_21 : decode cX9_outs 21 = .ok (.if_icmp .ge 28, 3) := by decide +kernel
theorem dX9_outs_24 : decode cX9_outs 24 = .ok (.iload_n 3, 1) := by decide +kernel
theorem dX9_outs_25 : decode cX9_outs 25 = .ok (.aload_n 0, 1) := by decide +kernel
theorem dX9_outs_26 : decode cX9_outs 26 = .ok (.getfield 26, 3) := by decide +kernel
theorem dX9_outs_29 : decode cX9_outs 29 = .ok (.iload 4, 2) := by decide +kernel
theorem dX9_outs_31 : decode cX9_outs 31 = .ok (.iaload, 1) := by decide +kernel
theorem dX9_outs_32 : decode cX9_outs 32 = .ok (.iload_n 2, 1) := by decide +kernel
theorem dX9_outs_33 : decode cX9_outs 33 = .ok (.if_icmp .ne 7, 3) := by decide +kernel
theorem dX9_outs_36 : decode cX9_outs 36 = .ok (.iconst 1, 1) := by decide +kernel
theorem dX9_outs_37 : decode cX9_outs 37 = .ok (.goto 4, 3) := by decide +kernel
theorem dX9_outs_40 : decode cX9_outs 40 = .ok (.iconst 0, 1) := by decide +kernel
theorem dX9_outs_41 : decode cX9_outs 41 = .ok (.iadd, 1) := by decide +kernel
theorem dX9_outs_42 : decode cX9_outs 42 = .ok (.istore_n 3, 1) := by decide +kernel
theorem dX9_outs_43 : decode cX9_outs 43 = .ok (.iinc 4 1, 3) := by decide +kernel
theorem dX9_outs_46 : decode cX9_outs 46 = .ok (.goto (-38), 3) := by decide +kernel
theorem dX9_outs_49 : decode cX9_outs 49 = .ok (.iload_n 3, 1) := by decide +kernel
theorem dX9_outs_50 : decode cX9_outs 50 = .ok (.ireturn, 1) := by decide +kernel
def L_X9_outs_8 (b1 : Int32) (b2 : Int32) (k : Int32 → Hp → Option (Int32 × Hp)) : Nat → Int32 → Int32 → Hp → Option (Int32 × Hp)
  | 0, _, _, _ => none
  | n + 1, x3, x4, H => gd b1 8 (if ((40 * b1) + (gI H 0 2 (Int32.toNatClampNeg b1))) ≤ x4 then k x3 H else gd x4 320 (if (gI H 0 6 (Int32.toNatClampNeg x4)) = b2 then vl ((x3 + 1)) (fun (v6 : Int32) => vl (x4 + (1 : Int32)) (fun (v7 : Int32) => L_X9_outs_8 b1 b2 k n v6 v7 H)) else vl ((x3 + 0)) (fun (v4 : Int32) => vl (x4 + (1 : Int32)) (fun (v5 : Int32) => L_X9_outs_8 b1 b2 k n v4 v5 H))))
set_option maxRecDepth 100000 in
set_option maxHeartbeats 4000000 in
theorem sL_X9_outs_8 {p : Program} {l : Launch} {e : Env} {s : State} {m : MethodId} {args : Array Value} {below : List Frame} {meth : Method} {c : Code} {A : Nat → Prop} {D : va_G} {K4 : kQ} {ad : Nat → Nat → Nat} {nr : Nat} {b1 : Int32} {b2 : Int32} {k : Int32 → Hp → Option (Int32 × Hp)} {res : Int32 × Hp} (hC : Cx p s m args c A s.heap D K4 5 RX9 cX9_outs) (hret : meth.sig.returnType = (some .int) ∧ meth.locks = false) (hk : ∀ (z3 : Int32) (H : Hp), k z3 H = some res → V p l e ({ frames := 0, cells := 0, slots := 0, locals := 0 }) s m args below meth c A s.heap (QI below args s A D K4 ad nr res) D K4 ad nr 5 49 [(3, .int z3)] [] H) : ∀ (n : Nat) (x3 : Int32) (x4 : Int32) (H : Hp), L_X9_outs_8 b1 b2 k n x3 x4 H = some res → V p l e ({ frames := 0, cells := 0, slots := 0, locals := 0 }) s m args below meth c A s.heap (QI below args s A D K4 ad nr res) D K4 ad nr 5 8 [(0, .ref (ad 0 0)), (1, .int b1), (2, .int b2), (3, .int x3), (4, .int x4)] [] H := by
  intro n
  induction n with
  | zero => intro x3 x4 H h; exact nomatch (show (none : Option (Int32 × Hp)) = some res from h)
  | succ n ih =>
    intro x3 x4 H h
    rw [L_X9_outs_8] at h
    refine V_iload hC 4 dX9_outs_8 rfl ?_
    refine V_bipush (v := 40) hC dX9_outs_10 (by decide) ?_
    refine V_iload_n hC 1 dX9_outs_12 rfl ?_
    refine V_imul hC dX9_outs_13 ?_
    refine V_aload_n hC 0 dX9_outs_14 rfl ?_
    refine V_getR (g := 0) (k := 0) (g' := 0) (k' := 2) hC 9 2 fl_X9_13 rfl rfl rfl rfl dX9_outs_15 ?_
    refine V_iload_n hC 1 dX9_outs_18 rfl ?_
    obtain ⟨hi, h⟩ := gd_some h
    refine V_iald (g := 0) (k := 2) hC rfl rfl hi dX9_outs_19 ?_
    refine V_iadd hC dX9_outs_20 ?_
    refine V_icmp_ge (tgt := 49) hC dX9_outs_21 (by decide) (fun c2 => ?_) (fun c2 => ?_)
    · have h := it_pos c2 h
      refine V_lv (lv' := [(3, .int x3)]) [3] rfl ?_
      exact hk x3 H h
    · have h := it_neg c2 h
      refine V_iload_n hC 3 dX9_outs_24 rfl ?_
      refine V_aload_n hC 0 dX9_outs_25 rfl ?_
      refine V_getR (g := 0) (k := 0) (g' := 0) (k' := 6) hC 9 6 fl_X9_26 rfl rfl rfl rfl dX9_outs_26 ?_
      refine V_iload hC 4 dX9_outs_29 rfl ?_
      obtain ⟨hi, h⟩ := gd_some h
      refine V_iald (g := 0) (k := 6) hC rfl rfl hi dX9_outs_31 ?_
      refine V_iload_n hC 2 dX9_outs_32 rfl ?_
      refine V_icmp_ne (tgt := 40) hC dX9_outs_33 (by decide) (fun c3 => ?_) (fun c3 => ?_)
      · have h := it_neg c3 h
        refine V_iconst (v := 0) hC dX9_outs_40 (by decide) ?_
        refine V_iadd hC dX9_outs_41 ?_
        refine V_vlI h (fun v4 h => ?_)
        refine V_istore_n (lv' := [(3, .int v4), (0, .ref (ad 0 0)), (1, .int b1), (2, .int b2), (4, .int x4)]) hC dX9_outs_42 (Nat.le_of_ble_eq_true rfl) rfl ?_
        refine V_vi h (fun v5 hvv5 h => ?_)
        refine V_iinc (v := v5) (lv' := [(4, .int v5), (3, .int v4), (0, .ref (ad 0 0)), (1, .int b1), (2, .int b2)]) hC 4 dX9_outs_43 rfl hvv5.symm (Nat.le_of_ble_eq_true rfl) rfl ?_
        refine V_goto (tgt := 8) hC dX9_outs_46 (by decide) ?_
        refine V_lv (lv' := [(0, .ref (ad 0 0)), (1, .int b1), (2, .int b2), (3, .int v4), (4, .int v5)]) [2, 3, 4, 1, 0] rfl ?_
        exact ih v4 v5 H h
      · have h := it_pos c3 h
        refine V_iconst (v := 1) hC dX9_outs_36 (by decide) ?_
        refine V_goto (tgt := 41) hC dX9_outs_37 (by decide) ?_
        refine V_iadd hC dX9_outs_41 ?_
        refine V_vlI h (fun v6 h => ?_)
        refine V_istore_n (lv' := [(3, .int v6), (0, .ref (ad 0 0)), (1, .int b1), (2, .int b2), (4, .int x4)]) hC dX9_outs_42 (Nat.le_of_ble_eq_true rfl) rfl ?_
        refine V_vi h (fun v7 hvv7 h => ?_)
        refine V_iinc (v := v7) (lv' := [(4, .int v7), (3, .int v6), (0, .ref (ad 0 0)), (1, .int b1), (2, .int b2)]) hC 4 dX9_outs_43 rfl hvv7.symm (Nat.le_of_ble_eq_true rfl) rfl ?_
        refine V_goto (tgt := 8) hC dX9_outs_46 (by decide) ?_
        refine V_lv (lv' := [(0, .ref (ad 0 0)), (1, .int b1), (2, .int b2), (3, .int v6), (4, .int v7)]) [2, 3, 4, 1, 0] rfl ?_
        exact ih v6 v7 H h
def f_X9_outs (a1 : Int32) (a2 : Int32) (H : Hp) : Option (Int32 × Hp) := vl ((40 * a1)) (fun (v1 : Int32) => L_X9_outs_8 a1 a2 (fun (z8 : Int32) (H9 : Hp) => some (z8, H9)) FU 0 v1 H)
set_option maxRecDepth 100000 in
set_option maxHeartbeats 4000000 in
theorem s_X9_outs {p : Program} {l : Launch} {e : Env} {s : State} {m : MethodId} {args : Array Value} {below : List Frame} {meth : Method} {c : Code} {A : Nat → Prop} {D : va_G} {K4 : kQ} {ad : Nat → Nat → Nat} {nr : Nat} {a1 : Int32} {a2 : Int32} {H : Hp} {res : Int32 × Hp} (hC : Cx p s m args c A s.heap D K4 5 RX9 cX9_outs) (hret : meth.sig.returnType = (some .int) ∧ meth.locks = false) (h : f_X9_outs a1 a2 H = some res) : V p l e ({ frames := 0, cells := 0, slots := 0, locals := 0 }) s m args below meth c A s.heap (QI below args s A D K4 ad nr res) D K4 ad nr 5 0 [(0, .ref (ad 0 0)), (1, .int a1), (2, .int a2)] [] H := by
  unfold f_X9_outs at h
  refine V_iconst (v := 0) hC dX9_outs_0 (by decide) ?_
  refine V_istore_n (lv' := [(3, .int 0), (0, .ref (ad 0 0)), (1, .int a1), (2, .int a2)]) hC dX9_outs_1 (Nat.le_of_ble_eq_true rfl) rfl ?_
  refine V_bipush (v := 40) hC dX9_outs_2 (by decide) ?_
  refine V_iload_n hC 2 dX9_outs_4 rfl ?_
  refine V_imul hC dX9_outs_5 ?_
  refine V_vlI h (fun v1 h => ?_)
  refine V_istore (lv' := [(4, .int v1), (3, .int 0), (0, .ref (ad 0 0)), (1, .int a1), (2, .int a2)]) hC dX9_outs_6 (Nat.le_of_ble_eq_true rfl) rfl ?_
  refine V_lv (lv' := [(0, .ref (ad 0 0)), (1, .int a1), (2, .int a2), (3, .int 0), (4, .int v1)]) [2, 3, 4, 1, 0] rfl ?_
  refine sL_X9_outs_8 hC hret (fun z8 H9 h => ?_) _ 0 v1 H h
  refine V_iload_n hC 0 dX9_outs_49 rfl ?_
  exact V_iret hC hret dX9_outs_50 h
theorem c_X9_outs (l : Launch) {nr : Nat} {a1 : Int32} {a2 : Int32} {H : Hp} {x : Int32} {H' : Hp} (h : f_X9_outs a1 a2 H = some (x, H')) : CI l nr yX9_outs cX9_outs 5 (some .int) 0 0 (fun ad => [.ref (ad 0 0), .int a1, .int a2]) H x H' := by
  intro D K4 ad sz
  refine Met.ofV (by decide) (Nat.le_of_ble_eq_true rfl) ?_
  intro p e s m args below meth c hC hret hsz
  subst hsz
  exact s_X9_outs hC hret h
theorem dX9_ins_0 : decode cX9_ins 0 = .ok (.iconst 0, 1) := by decide +kernel
theorem dX9_ins_1 : decode cX9_ins 1 = .ok (.istore_n 3, 1) := by decide +kernel
theorem dX9_ins_2 : decode cX9_ins 2 = .ok (.bipush 40, 2) := by decide +kernel
theorem dX9_ins_4 : decode cX9_ins 4 = .ok (.iload_n 1, 1) := by decide +kernel
theorem dX9_ins_5 : decode cX9_ins 5 = .ok (.imul, 1) := by decide +kernel
theorem dX9_ins_6 : decode cX9_ins 6 = .ok (.istore 4, 2) := by decide +kernel
theorem dX9_ins_8 : decode cX9_ins 8 = .ok (.iload 4, 2) := by decide +kernel
theorem dX9_ins_10 : decode cX9_ins 10 = .ok (.bipush 40, 2) := by decide +kernel
theorem dX9_ins_12 : decode cX9_ins 12 = .ok (.iload_n 1, 1) := by decide +kernel
theorem dX9_ins_13 : decode cX9_ins 13 = .ok (.imul, 1) := by decide +kernel
theorem dX9_ins_14 : decode cX9_ins 14 = .ok (.aload_n 0, 1) := by decide +kernel
theorem dX9_ins_15 : decode cX9_ins 15 = .ok (.getfield 13, 3) := by decide +kernel
theorem dX9_ins_18 : decode cX9_ins 18 = .ok (.iload_n 1, 1) := by decide +kernel
theorem dX9_ins_19 : decode cX9_ins 19 = .ok (.iaload, 1) := by decide +kernel
theorem dX9_ins_20 : decode cX9_ins 20 = .ok (.iadd, 1) := by decide +kernel
theorem dX9_ins_21 : decode cX9_ins 21 = .ok (.if_icmp .ge 28, 3) := by decide +kernel
theorem dX9_ins_24 : decode cX9_ins 24 = .ok (.iload_n 3, 1) := by decide +kernel
theorem dX9_ins_25 : decode cX9_ins 25 = .ok (.aload_n 0, 1) := by decide +kernel
theorem dX9_ins_26 : decode cX9_ins 26 = .ok (.getfield 29, 3) := by decide +kernel
theorem dX9_ins_29 : decode cX9_ins 29 = .ok (.iload 4, 2) := by decide +kernel
theorem dX9_ins_31 : decode cX9_ins 31 = .ok (.iaload, 1) := by decide +kernel
theorem dX9_ins_32 : decode cX9_ins 32 = .ok (.iload_n 2, 1) := by decide +kernel
theorem dX9_ins_33 : decode cX9_ins 33 = .ok (.if_icmp .ne 7, 3) := by decide +kernel
theorem dX9_ins_36 : decode cX9_ins 36 = .ok (.iconst 1, 1) := by decide +kernel
theorem dX9_ins_37 : decode cX9_ins 37 = .ok (.goto 4, 3) := by decide +kernel
theorem dX9_ins_40 : decode cX9_ins 40 = .ok (.iconst 0, 1) := by decide +kernel
theorem dX9_ins_41 : decode cX9_ins 41 = .ok (.iadd, 1) := by decide +kernel
theorem dX9_ins_42 : decode cX9_ins 42 = .ok (.istore_n 3, 1) := by decide +kernel
theorem dX9_ins_43 : decode cX9_ins 43 = .ok (.iinc 4 1, 3) := by decide +kernel
theorem dX9_ins_46 : decode cX9_ins 46 = .ok (.goto (-38), 3) := by decide +kernel
theorem dX9_ins_49 : decode cX9_ins 49 = .ok (.iload_n 3, 1) := by decide +kernel
theorem dX9_ins_50 : decode cX9_ins 50 = .ok (.ireturn, 1) := by decide +kernel
def L_X9_ins_8 (b1 : Int32) (b2 : Int32) (k : Int32 → Hp → Option (Int32 × Hp)) : Nat → Int32 → Int32 → Hp → Option (Int32 × Hp)
  | 0, _, _, _ => none
  | n + 1, x3, x4, H => gd b1 8 (if ((40 * b1) + (gI H 0 2 (Int32.toNatClampNeg b1))) ≤ x4 then k x3 H else gd x4 320 (if (gI H 0 7 (Int32.toNatClampNeg x4)) = b2 then vl ((x3 + 1)) (fun (v6 : Int32) => vl (x4 + (1 : Int32)) (fun (v7 : Int32) => L_X9_ins_8 b1 b2 k n v6 v7 H)) else vl ((x3 + 0)) (fun (v4 : Int32) => vl (x4 + (1 : Int32)) (fun (v5 : Int32) => L_X9_ins_8 b1 b2 k n v4 v5 H))))
set_option maxRecDepth 100000 in
set_option maxHeartbeats 4000000 in
theorem sL_X9_ins_8 {p : Program} {l : Launch} {e : Env} {s : State} {m : MethodId} {args : Array Value} {below : List Frame} {meth : Method} {c : Code} {A : Nat → Prop} {D : va_G} {K4 : kQ} {ad : Nat → Nat → Nat} {nr : Nat} {b1 : Int32} {b2 : Int32} {k : Int32 → Hp → Option (Int32 × Hp)} {res : Int32 × Hp} (hC : Cx p s m args c A s.heap D K4 5 RX9 cX9_ins) (hret : meth.sig.returnType = (some .int) ∧ meth.locks = false) (hk : ∀ (z3 : Int32) (H : Hp), k z3 H = some res → V p l e ({ frames := 0, cells := 0, slots := 0, locals := 0 }) s m args below meth c A s.heap (QI below args s A D K4 ad nr res) D K4 ad nr 5 49 [(3, .int z3)] [] H) : ∀ (n : Nat) (x3 : Int32) (x4 : Int32) (H : Hp), L_X9_ins_8 b1 b2 k n x3 x4 H = some res → V p l e ({ frames := 0, cells := 0, slots := 0, locals := 0 }) s m args below meth c A s.heap (QI below args s A D K4 ad nr res) D K4 ad nr 5 8 [(0, .ref (ad 0 0)), (1, .int b1), (2, .int b2), (3, .int x3), (4, .int x4)] [] H := by
  intro n
  induction n with
  | zero => intro x3 x4 H h; exact nomatch (show (none : Option (Int32 × Hp)) = some res from h)
  | succ n ih =>
    intro x3 x4 H h
    rw [L_X9_ins_8] at h
    refine V_iload hC 4 dX9_ins_8 rfl ?_
    refine V_bipush (v := 40) hC dX9_ins_10 (by decide) ?_
    refine V_iload_n hC 1 dX9_ins_12 rfl ?_
    refine V_imul hC dX9_ins_13 ?_
    refine V_aload_n hC 0 dX9_ins_14 rfl ?_
    refine V_getR (g := 0) (k := 0) (g' := 0) (k' := 2) hC 9 2 fl_X9_13 rfl rfl rfl rfl dX9_ins_15 ?_
    refine V_iload_n hC 1 dX9_ins_18 rfl ?_
    obtain ⟨hi, h⟩ := gd_some h
    refine V_iald (g := 0) (k := 2) hC rfl rfl hi dX9_ins_19 ?_
    refine V_iadd hC dX9_ins_20 ?_
    refine V_icmp_ge (tgt := 49) hC dX9_ins_21 (by decide) (fun c2 => ?_) (fun c2 => ?_)
    · have h := it_pos c2 h
      refine V_lv (lv' := [(3, .int x3)]) [3] rfl ?_
      exact hk x3 H h
    · have h := it_neg c2 h
      refine V_iload_n hC 3 dX9_ins_24 rfl ?_
      refine V_aload_n hC 0 dX9_ins_25 rfl ?_
      refine V_getR (g := 0) (k := 0) (g' := 0) (k' := 7) hC 9 7 fl_X9_29 rfl rfl rfl rfl dX9_ins_26 ?_
      refine V_iload hC 4 dX9_ins_29 rfl ?_
      obtain ⟨hi, h⟩ := gd_some h
      refine V_iald (g := 0) (k := 7) hC rfl rfl hi dX9_ins_31 ?_
      refine V_iload_n hC 2 dX9_ins_32 rfl ?_
      refine V_icmp_ne (tgt := 40) hC dX9_ins_33 (by decide) (fun c3 => ?_) (fun c3 => ?_)
      · have h := it_neg c3 h
        refine V_iconst (v := 0) hC dX9_ins_40 (by decide) ?_
        refine V_iadd hC dX9_ins_41 ?_
        refine V_vlI h (fun v4 h => ?_)
        refine V_istore_n (lv' := [(3, .int v4), (0, .ref (ad 0 0)), (1, .int b1), (2, .int b2), (4, .int x4)]) hC dX9_ins_42 (Nat.le_of_ble_eq_true rfl) rfl ?_
        refine V_vi h (fun v5 hvv5 h => ?_)
        refine V_iinc (v := v5) (lv' := [(4, .int v5), (3, .int v4), (0, .ref (ad 0 0)), (1, .int b1), (2, .int b2)]) hC 4 dX9_ins_43 rfl hvv5.symm (Nat.le_of_ble_eq_true rfl) rfl ?_
        refine V_goto (tgt := 8) hC dX9_ins_46 (by decide) ?_
        refine V_lv (lv' := [(0, .ref (ad 0 0)), (1, .int b1), (2, .int b2), (3, .int v4), (4, .int v5)]) [2, 3, 4, 1, 0] rfl ?_
        exact ih v4 v5 H h
      · have h := it_pos c3 h
        refine V_iconst (v := 1) hC dX9_ins_36 (by decide) ?_
        refine V_goto (tgt := 41) hC dX9_ins_37 (by decide) ?_
        refine V_iadd hC dX9_ins_41 ?_
        refine V_vlI h (fun v6 h => ?_)
        refine V_istore_n (lv' := [(3, .int v6), (0, .ref (ad 0 0)), (1, .int b1), (2, .int b2), (4, .int x4)]) hC dX9_ins_42 (Nat.le_of_ble_eq_true rfl) rfl ?_
        refine V_vi h (fun v7 hvv7 h => ?_)
        refine V_iinc (v := v7) (lv' := [(4, .int v7), (3, .int v6), (0, .ref (ad 0 0)), (1, .int b1), (2, .int b2)]) hC 4 dX9_ins_43 rfl hvv7.symm (Nat.le_of_ble_eq_true rfl) rfl ?_
        refine V_goto (tgt := 8) hC dX9_ins_46 (by decide) ?_
        refine V_lv (lv' := [(0, .ref (ad 0 0)), (1, .int b1), (2, .int b2), (3, .int v6), (4, .int v7)]) [2, 3, 4, 1, 0] rfl ?_
        exact ih v6 v7 H h
def f_X9_ins (a1 : Int32) (a2 : Int32) (H : Hp) : Option (Int32 × Hp) := vl ((40 * a1)) (fun (v1 : Int32) => L_X9_ins_8 a1 a2 (fun (z8 : Int32) (H9 : Hp) => some (z8, H9)) FU 0 v1 H)
set_option maxRecDepth 100000 in
set_option maxHeartbeats 4000000 in
theorem s_X9_ins {p : Program} {l : Launch} {e : Env} {s : State} {m : MethodId} {args : Array Value} {below : List Frame} {meth : Method} {c : Code} {A : Nat → Prop} {D : va_G} {K4 : kQ} {ad : Nat → Nat → Nat} {nr : Nat} {a1 : Int32} {a2 : Int32} {H : Hp} {res : Int32 × Hp} (hC : Cx p s m args c A s.heap D K4 5 RX9 cX9_ins) (hret : meth.sig.returnType = (some .int) ∧ meth.locks = false) (h : f_X9_ins a1 a2 H = some res) : V p l e ({ frames := 0, cells := 0, slots := 0, locals := 0 }) s m args below meth c A s.heap (QI below args s A D K4 ad nr res) D K4 ad nr 5 0 [(0, .ref (ad 0 0)), (1, .int a1), (2, .int a2)] [] H := by
  unfold f_X9_ins at h
  refine V_iconst (v := 0) hC dX9_ins_0 (by decide) ?_
  refine V_istore_n (lv' := [(3, .int 0), (0, .ref (ad 0 0)), (1, .int a1), (2, .int a2)]) hC dX9_ins_1 (Nat.le_of_ble_eq_true rfl) rfl ?_
  refine V_bipush (v := 40) hC dX9_ins_2 (by decide) ?_
  refine V_iload_n hC 2 dX9_ins_4 rfl ?_
  refine V_imul hC dX9_ins_5 ?_
  refine V_vlI h (fun v1 h => ?_)
  refine V_istore (lv' := [(4, .int v1), (3, .int 0), (0, .ref (ad 0 0)), (1, .int a1), (2, .int a2)]) hC dX9_ins_6 (Nat.le_of_ble_eq_true rfl) rfl ?_
  refine V_lv (lv' := [(0, .ref (ad 0 0)), (1, .int a1), (2, .int a2), (3, .int 0), (4, .int v1)]) [2, 3, 4, 1, 0] rfl ?_
  refine sL_X9_ins_8 hC hret (fun z8 H9 h => ?_) _ 0 v1 H h
  refine V_iload_n hC 0 dX9_ins_49 rfl ?_
  exact V_iret hC hret dX9_ins_50 h
theorem c_X9_ins (l : Launch) {nr : Nat} {a1 : Int32} {a2 : Int32} {H : Hp} {x : Int32} {H' : Hp} (h : f_X9_ins a1 a2 H = some (x, H')) : CI l nr yX9_ins cX9_ins 5 (some .int) 0 0 (fun ad => [.ref (ad 0 0), .int a1, .int a2]) H x H' := by
  intro D K4 ad sz
  refine Met.ofV (by decide) (Nat.le_of_ble_eq_true rfl) ?_
  intro p e s m args below meth c hC hret hsz
  subst hsz
  exact s_X9_ins hC hret h
theorem dX9_isGuess_0 : decode cX9_isGuess 0 = .ok (.iload_n 0, 1) := by decide +kernel
theorem dX9_isGuess_1 : decode cX9_isGuess 1 = .ok (.ifCond .lt 13, 3) := by decide +kernel
theorem dX9_isGuess_4 : decode cX9_isGuess 4 = .ok (.iload_n 0, 1) := by decide +kernel
theorem dX9_isGuess_5 : decode cX9_isGuess 5 = .ok (.ldc 164, 2) := by decide +kernel
theorem dX9_isGuess_7 : decode cX9_isGuess 7 = .ok (.if_icmp .gt 7, 3) := by decide +kernel
theorem dX9_isGuess_10 : decode cX9_isGuess 10 = .ok (.iconst 1, 1) := by decide +kernel
theorem dX9_isGuess_11 : decode cX9_isGuess 11 = .ok (.goto 4, 3) := by decide +kernel
theorem dX9_isGuess_14 : decode cX9_isGuess 14 = .ok (.iconst 0, 1) := by decide +kernel
theorem dX9_isGuess_15 : decode cX9_isGuess 15 = .ok (.ireturn, 1) := by decide +kernel
def f_X9_isGuess (a1 : Int32) (H : Hp) : Option (Int32 × Hp) := if a1 < 0 then some (0, H) else if 1000000 < a1 then some (0, H) else some (1, H)
set_option maxRecDepth 100000 in
set_option maxHeartbeats 4000000 in
theorem s_X9_isGuess {p : Program} {l : Launch} {e : Env} {s : State} {m : MethodId} {args : Array Value} {below : List Frame} {meth : Method} {c : Code} {A : Nat → Prop} {D : va_G} {K4 : kQ} {ad : Nat → Nat → Nat} {nr : Nat} {a1 : Int32} {H : Hp} {res : Int32 × Hp} (hC : Cx p s m args c A s.heap D K4 1 RX9 cX9_isGuess) (hret : meth.sig.returnType = (some .boolean) ∧ meth.locks = false) (h : f_X9_isGuess a1 H = some res) : V p l e ({ frames := 0, cells := 0, slots := 0, locals := 0 }) s m args below meth c A s.heap (QI below args s A D K4 ad nr res) D K4 ad nr 1 0 [(0, .int a1)] [] H := by
  unfold f_X9_isGuess at h
  refine V_iload_n hC 0 dX9_isGuess_0 rfl ?_
  refine V_if_lt (tgt := 14) hC dX9_isGuess_1 (by decide) (fun c1 => ?_) (fun c1 => ?_)
  · have h := it_pos c1 h
    refine V_iconst (v := 0) hC dX9_isGuess_14 (by decide) ?_
    exact V_zret hC hret (by decide) dX9_isGuess_15 h
  · have h := it_neg c1 h
    refine V_iload_n hC 0 dX9_isGuess_4 rfl ?_
    refine V_ldc hC dX9_isGuess_5 cl_X9_164 ?_
    refine V_icmp_gt (tgt := 14) hC dX9_isGuess_7 (by decide) (fun c2 => ?_) (fun c2 => ?_)
    · have h := it_pos c2 h
      refine V_iconst (v := 0) hC dX9_isGuess_14 (by decide) ?_
      exact V_zret hC hret (by decide) dX9_isGuess_15 h
    · have h := it_neg c2 h
      refine V_iconst (v := 1) hC dX9_isGuess_10 (by decide) ?_
      refine V_goto (tgt := 15) hC dX9_isGuess_11 (by decide) ?_
      exact V_zret hC hret (by decide) dX9_isGuess_15 h
theorem c_X9_isGuess (l : Launch) {nr : Nat} {a1 : Int32} {H : Hp} {x : Int32} {H' : Hp} (h : f_X9_isGuess a1 H = some (x, H')) : CI l nr yX9_isGuess cX9_isGuess 1 (some .boolean) 0 0 (fun ad => [.int a1]) H x H' := by
  intro D K4 ad sz
  refine Met.ofV (by decide) (Nat.le_of_ble_eq_true rfl) ?_
  intro p e s m args below meth c hC hret hsz
  subst hsz
  exact s_X9_isGuess hC hret h
theorem dX9_edge_0 : decode cX9_edge 0 = .ok (.aload_n 0, 1) := by decide +kernel
theorem dX9_edge_1 : decode cX9_edge 1 = .ok (.iconst 0, 1) := by decide +kernel
theorem dX9_edge_2 : decode cX9_edge 2 = .ok (.putfield 153, 3) := by decide +kernel
theorem dX9_edge_5 : decode cX9_edge 5 = .ok (.aload_n 0, 1) := by decide +kernel
theorem dX9_edge_6 : decode cX9_edge 6 = .ok (.iload_n 1, 1) := by decide +kernel
theorem dX9_edge_7 : decode cX9_edge 7 = .ok (.invokevirtual 160, 3) := by decide +kernel
theorem dX9_edge_10 : decode cX9_edge 10 = .ok (.ifCond .eq 49, 3) := by decide +kernel
theorem dX9_edge_13 : decode cX9_edge 13 = .ok (.aload_n 0, 1) := by decide +kernel
theorem dX9_edge_14 : decode cX9_edge 14 = .ok (.getfield 16, 3) := by decide +kernel
theorem dX9_edge_17 : decode cX9_edge 17 = .ok (.iload_n 1, 1) := by decide +kernel
theorem dX9_edge_18 : decode cX9_edge 18 = .ok (.baload, 1) := by decide +kernel
theorem dX9_edge_19 : decode cX9_edge 19 = .ok (.ifCond .ne 40, 3) := by decide +kernel
theorem dX9_edge_22 : decode cX9_edge 22 = .ok (.aload_n 0, 1) := by decide +kernel
theorem dX9_edge_23 : decode cX9_edge 23 = .ok (.getfield 13, 3) := by decide +kernel
theorem dX9_edge_26 : decode cX9_edge 26 = .ok (.iload_n 1, 1) := by decide +kernel
theorem dX9_edge_27 : decode cX9_edge 27 = .ok (.iaload, 1) := by decide +kernel
theorem dX9_edge_28 : decode cX9_edge 28 = .ok (.bipush 40, 2) := by decide +kernel
theorem dX9_edge_30 : decode cX9_edge 30 = .ok (.if_icmp .eq 29, 3) := by decide +kernel
theorem dX9_edge_33 : decode cX9_edge 33 = .ok (.aload_n 0, 1) := by decide +kernel
theorem dX9_edge_34 : decode cX9_edge 34 = .ok (.iload_n 1, 1) := by decide +kernel
theorem dX9_edge_35 : decode cX9_edge 35 = .ok (.iload_n 2, 1) := by decide +kernel
theorem dX9_edge_36 : decode cX9_edge 36 = .ok (.invokevirtual 165, 3) := by decide +kernel
theorem dX9_edge_39 : decode cX9_edge 39 = .ok (.ifCond .eq 20, 3) := by decide +kernel
theorem dX9_edge_42 : decode cX9_edge 42 = .ok (.aload_n 0, 1) := by decide +kernel
theorem dX9_edge_43 : decode cX9_edge 43 = .ok (.iload_n 1, 1) := by decide +kernel
theorem dX9_edge_44 : decode cX9_edge 44 = .ok (.iload_n 3, 1) := by decide +kernel
theorem dX9_edge_45 : decode cX9_edge 45 = .ok (.invokevirtual 165, 3) := by decide +kernel
theorem dX9_edge_48 : decode cX9_edge 48 = .ok (.ifCond .eq 11, 3) := by decide +kernel
theorem dX9_edge_51 : decode cX9_edge 51 = .ok (.iload 4, 2) := by decide +kernel
theorem dX9_edge_53 : decode cX9_edge 53 = .ok (.invokestatic 169, 3) := by decide +kernel
theorem dX9_edge_56 : decode cX9_edge 56 = .ok (.ifCond .ne 5, 3) := by decide +kernel
theorem dX9_edge_59 : decode cX9_edge 59 = .ok (.iconst (-1), 1) := by decide +kernel
theorem dX9_edge_60 : decode cX9_edge 60 = .ok (.ireturn, 1) := by decide +kernel
theorem dX9_edge_61 : decode cX9_edge 61 = .ok (.aload_n 0, 1) := by decide +kernel
theorem dX9_edge_62 : decode cX9_edge 62 = .ok (.getfield 20, 3) := by decide +kernel
theorem dX9_edge_65 : decode cX9_edge 65 = .ok (.bipush 20, 2) := by decide +kernel
theorem dX9_edge_67 : decode cX9_edge 67 = .ok (.iload_n 1, 1) := by decide +kernel
theorem dX9_edge_68 : decode cX9_edge 68 = .ok (.imul, 1) := by decide +kernel
theorem dX9_edge_69 : decode cX9_edge 69 = .ok (.iload_n 2, 1) := by decide +kernel
theorem dX9_edge_70 : decode cX9_edge 70 = .ok (.iadd, 1) := by decide +kernel
theorem dX9_edge_71 : decode cX9_edge 71 = .ok (.iaload, 1) := by decide +kernel
theorem dX9_edge_72 : decode cX9_edge 72 = .ok (.istore 6, 2) := by decide +kernel
theorem dX9_edge_74 : decode cX9_edge 74 = .ok (.iload 6, 2) := by decide +kernel
theorem dX9_edge_76 : decode cX9_edge 76 = .ok (.iconst 3, 1) := by decide +kernel
theorem dX9_edge_77 : decode cX9_edge 77 = .ok (.if_icmp .eq 19, 3) := by decide +kernel
theorem dX9_edge_80 : decode cX9_edge 80 = .ok (.iload 6, 2) := by decide +kernel
theorem dX9_edge_82 : decode cX9_edge 82 = .ok (.iconst 4, 1) := by decide +kernel
theorem dX9_edge_83 : decode cX9_edge 83 = .ok (.if_icmp .eq 13, 3) := by decide +kernel
theorem dX9_edge_86 : decode cX9_edge 86 = .ok (.aload_n 0, 1) := by decide +kernel
theorem dX9_edge_87 : decode cX9_edge 87 = .ok (.iload_n 1, 1) := by decide +kernel
theorem dX9_edge_88 : decode cX9_edge 88 = .ok (.iload_n 2, 1) := by decide +kernel
theorem dX9_edge_89 : decode cX9_edge 89 = .ok (.invokevirtual 172, 3) := by decide +kernel
theorem dX9_edge_92 : decode cX9_edge 92 = .ok (.iconst 4, 1) := by decide +kernel
theorem dX9_edge_93 : decode cX9_edge 93 = .ok (.if_icmp .ne 5, 3) := by decide +kernel
theorem dX9_edge_96 : decode cX9_edge 96 = .ok (.iconst (-1), 1) := by decide +kernel
theorem dX9_edge_97 : decode cX9_edge 97 = .ok (.ireturn, 1) := by decide +kernel
theorem dX9_edge_98 : decode cX9_edge 98 = .ok (.bipush 40, 2) := by decide +kernel
theorem dX9_edge_100 : decode cX9_edge 100 = .ok (.iload_n 1, 1) := by decide +kernel
theorem dX9_edge_101 : decode cX9_edge 101 = .ok (.imul, 1) := by decide +kernel
theorem dX9_edge_102 : decode cX9_edge 102 = .ok (.aload_n 0, 1) := by decide +kernel
theorem dX9_edge_103 : decode cX9_edge 103 = .ok (.getfield 13, 3) := by decide +kernel
theorem dX9_edge_106 : decode cX9_edge 106 = .ok (.iload_n 1, 1) := by decide +kernel
theorem dX9_edge_107 : decode cX9_edge 107 = .ok (.iaload, 1) := by decide +kernel
theorem dX9_edge_108 : decode cX9_edge 108 = .ok (.iadd, 1) := by decide +kernel
theorem dX9_edge_109 : decode cX9_edge 109 = .ok (.istore 7, 2) := by decide +kernel
theorem dX9_edge_111 : decode cX9_edge 111 = .ok (.aload_n 0, 1) := by decide +kernel
theorem dX9_edge_112 : decode cX9_edge 112 = .ok (.getfield 26, 3) := by decide +kernel
theorem dX9_edge_115 : decode cX9_edge 115 = .ok (.iload 7, 2) := by decide +kernel
theorem dX9_edge_117 : decode cX9_edge 117 = .ok (.iload_n 2, 1) := by decide +kernel
theorem dX9_edge_118 : decode cX9_edge 118 = .ok (.iastore, 1) := by decide +kernel
theorem dX9_edge_119 : decode cX9_edge 119 = .ok (.aload_n 0, 1) := by decide +kernel
theorem dX9_edge_120 : decode cX9_edge 120 = .ok (.getfield 29, 3) := by decide +kernel
theorem dX9_edge_123 : decode cX9_edge 123 = .ok (.iload 7, 2) := by decide +kernel
theorem dX9_edge_125 : decode cX9_edge 125 = .ok (.iload_n 3, 1) := by decide +kernel
theorem dX9_edge_126 : decode cX9_edge 126 = .ok (.iastore, 1) := by decide +kernel
theorem dX9_edge_127 : decode cX9_edge 127 = .ok (.aload_n 0, 1) := by decide +kernel
theorem dX9_edge_128 : decode cX9_edge 128 = .ok (.getfield 32, 3) := by decide +kernel
theorem dX9_edge_131 : decode cX9_edge 131 = .ok (.iload 7, 2) := by decide +kernel
theorem dX9_edge_133 : decode cX9_edge 133 = .ok (.iload 4, 2) := by decide +kernel
theorem dX9_edge_135 : decode cX9_edge 135 = .ok (.iastore, 1) := by decide +kernel
theorem dX9_edge_136 : decode cX9_edge 136 = .ok (.aload_n 0, 1) := by decide +kernel
theorem dX9_edge_137 : decode cX9_edge 137 = .ok (.getfield 35, 3) := by decide +kernel
theorem dX9_edge_140 : decode cX9_edge 140 = .ok (.iload 7, 2) := by decide +kernel
theorem dX9_edge_142 : decode cX9_edge 142 = .ok (.iload 5, 2) := by decide +kernel
theorem dX9_edge_144 : decode cX9_edge 144 = .ok (.bastore, 1) := by decide +kernel
theorem dX9_edge_145 : decode cX9_edge 145 = .ok (.aload_n 0, 1) := by decide +kernel
theorem dX9_edge_146 : decode cX9_edge 146 = .ok (.getfield 38, 3) := by decide +kernel
theorem dX9_edge_149 : decode cX9_edge 149 = .ok (.iload 7, 2) := by decide +kernel
theorem dX9_edge_151 : decode cX9_edge 151 = .ok (.iconst 0, 1) := by decide +kernel
theorem dX9_edge_152 : decode cX9_edge 152 = .ok (.iastore, 1) := by decide +kernel
theorem dX9_edge_153 : decode cX9_edge 153 = .ok (.aload_n 0, 1) := by decide +kernel
theorem dX9_edge_154 : decode cX9_edge 154 = .ok (.getfield 13, 3) := by decide +kernel
theorem dX9_edge_157 : decode cX9_edge 157 = .ok (.iload_n 1, 1) := by decide +kernel
theorem dX9_edge_158 : decode cX9_edge 158 = .ok (.dup2, 1) := by decide +kernel
theorem dX9_edge_159 : decode cX9_edge 159 = .ok (.iaload, 1) := by decide +kernel
theorem dX9_edge_160 : decode cX9_edge 160 = .ok (.iconst 1, 1) := by decide +kernel
theorem dX9_edge_161 : decode cX9_edge 161 = .ok (.iadd, 1) := by decide +kernel
theorem dX9_edge_162 : decode cX9_edge 162 = .ok (.iastore, 1) := by decide +kernel
theorem dX9_edge_163 : decode cX9_edge 163 = .ok (.aload_n 0, 1) := by decide +kernel
theorem dX9_edge_164 : decode cX9_edge 164 = .ok (.getfield 13, 3) := by decide +kernel
theorem dX9_edge_167 : decode cX9_edge 167 = .ok (.iload_n 1, 1) := by decide +kernel
theorem dX9_edge_168 : decode cX9_edge 168 = .ok (.iaload, 1) := by decide +kernel
theorem dX9_edge_169 : decode cX9_edge 169 = .ok (.iconst 1, 1) := by decide +kernel
theorem dX9_edge_170 : decode cX9_edge 170 = .ok (.isub, 1) := by decide +kernel
theorem dX9_edge_171 : decode cX9_edge 171 = .ok (.ireturn, 1) := by decide +kernel
def f_X9_edge (a1 : Int32) (a2 : Int32) (a3 : Int32) (a4 : Int32) (a5 : Int32) (H : Hp) : Option (Int32 × Hp) := hl (sI H 0 0 34 0) (fun (H1 : Hp) => bnd (f_X9_isRoutine a1 H1) (fun w3 H2 => if w3 = 0 then some ((-1), H2) else gd a1 8 (if (gI H2 0 3 (Int32.toNatClampNeg a1)) = 0 then gd a1 8 (if (gI H2 0 2 (Int32.toNatClampNeg a1)) = 40 then some ((-1), H2) else bnd (f_X9_isBlock a1 a2 H2) (fun w8 H7 => if w8 = 0 then some ((-1), H7) else bnd (f_X9_isBlock a1 a3 H7) (fun w11 H10 => if w11 = 0 then some ((-1), H10) else bnd (f_X9_isGuess a4 H10) (fun w14 H13 => if w14 = 0 then some ((-1), H13) else gd ((20 * a1) + a2) 160 (vl ((gI H13 0 4 (Int32.toNatClampNeg ((20 * a1) + a2)))) (fun (v16 : Int32) => if v16 = 3 then some ((-1), H13) else if v16 = 4 then some ((-1), H13) else bnd (f_X9_outs a1 a2 H13) (fun w20 H19 => if w20 = 4 then some ((-1), H19) else gd a1 8 (vl (((40 * a1) + (gI H19 0 2 (Int32.toNatClampNeg a1)))) (fun (v22 : Int32) => gd v22 320 (hl (sI H19 0 6 (Int32.toNatClampNeg v22) a2) (fun (H23 : Hp) => gd v22 320 (hl (sI H23 0 7 (Int32.toNatClampNeg v22) a3) (fun (H24 : Hp) => gd v22 320 (hl (sI H24 0 8 (Int32.toNatClampNeg v22) a4) (fun (H25 : Hp) => gd v22 320 (hl (sI H25 0 9 (Int32.toNatClampNeg v22) (vp_nar .boolean a5)) (fun (H26 : Hp) => gd v22 320 (hl (sI H26 0 10 (Int32.toNatClampNeg v22) 0) (fun (H27 : Hp) => gd a1 8 (gd a1 8 (hl (sI H27 0 2 (Int32.toNatClampNeg a1) ((gI H27 0 2 (Int32.toNatClampNeg a1)) + 1)) (fun (H28 : Hp) => gd a1 8 (some (((gI H28 0 2 (Int32.toNatClampNeg a1)) - 1), H28)))))))))))))))))))))))) else some ((-1), H2))))
set_option maxRecDepth 100000 in
set_option maxHeartbeats 4000000 in
theorem s_X9_edge {p : Program} {l : Launch} {e : Env} {s : State} {m : MethodId} {args : Array Value} {below : List Frame} {meth : Method} {c : Code} {A : Nat → Prop} {D : va_G} {K4 : kQ} {ad : Nat → Nat → Nat} {nr : Nat} {a1 : Int32} {a2 : Int32} {a3 : Int32} {a4 : Int32} {a5 : Int32} {H : Hp} {res : Int32 × Hp} (hC : Cx p s m args c A s.heap D K4 8 RX9 cX9_edge) (hret : meth.sig.returnType = (some .int) ∧ meth.locks = false) (h : f_X9_edge a1 a2 a3 a4 a5 H = some res) : V p l e ({ frames := 2, cells := 0, slots := 0, locals := 43 }) s m args below meth c A s.heap (QI below args s A D K4 ad nr res) D K4 ad nr 8 0 [(0, .ref (ad 0 0)), (1, .int a1), (2, .int a2), (3, .int a3), (4, .int a4), (5, .int a5)] [] H := by
  unfold f_X9_edge at h
  refine V_aload_n hC 0 dX9_edge_0 rfl ?_
  refine V_iconst (v := 0) hC dX9_edge_1 (by decide) ?_
  refine V_putI (g := 0) (k := 0) hC 9 34 .int fw_X9_153 rfl rfl rfl rfl rfl dX9_edge_2 ?_
  refine V_hl h (fun H1 h => ?_)
  refine V_aload_n hC 0 dX9_edge_5 rfl ?_
  refine V_iload_n hC 1 dX9_edge_6 rfl ?_
  obtain ⟨w3, H2, hc, h⟩ := bnd_some h
  refine V_calli (g := 0) (k := 0) (As := [.int a1]) (st := []) hC (c_X9_isRoutine l hc) rfl ml_X9_160 ⟨Nat.le_of_ble_eq_true rfl, Nat.le_of_ble_eq_true rfl⟩ rfl rfl rfl (Nat.le_of_ble_eq_true rfl) dX9_edge_7 ?_
  refine V_if_eq (tgt := 59) hC dX9_edge_10 (by decide) (fun c4 => ?_) (fun c4 => ?_)
  · have h := it_pos c4 h
    refine V_iconst (v := -1) hC dX9_edge_59 (by decide) ?_
    exact V_iret hC hret dX9_edge_60 h
  · have h := it_neg c4 h
    refine V_aload_n hC 0 dX9_edge_13 rfl ?_
    refine V_getR (g := 0) (k := 0) (g' := 0) (k' := 3) hC 9 3 fl_X9_16 rfl rfl rfl rfl dX9_edge_14 ?_
    refine V_iload_n hC 1 dX9_edge_17 rfl ?_
    obtain ⟨hi, h⟩ := gd_some h
    refine V_zald (g := 0) (k := 3) hC rfl rfl hi dX9_edge_18 ?_
    refine V_if_ne (tgt := 59) hC dX9_edge_19 (by decide) (fun c5 => ?_) (fun c5 => ?_)
    · have h := it_neg c5 h
      refine V_iconst (v := -1) hC dX9_edge_59 (by decide) ?_
      exact V_iret hC hret dX9_edge_60 h
    · have h := it_pos c5 h
      refine V_aload_n hC 0 dX9_edge_22 rfl ?_
      refine V_getR (g := 0) (k := 0) (g' := 0) (k' := 2) hC 9 2 fl_X9_13 rfl rfl rfl rfl dX9_edge_23 ?_
      refine V_iload_n hC 1 dX9_edge_26 rfl ?_
      obtain ⟨hi, h⟩ := gd_some h
      refine V_iald (g := 0) (k := 2) hC rfl rfl hi dX9_edge_27 ?_
      refine V_bipush (v := 40) hC dX9_edge_28 (by decide) ?_
      refine V_icmp_eq (tgt := 59) hC dX9_edge_30 (by decide) (fun c6 => ?_) (fun c6 => ?_)
      · have h := it_pos c6 h
        refine V_iconst (v := -1) hC dX9_edge_59 (by decide) ?_
        exact V_iret hC hret dX9_edge_60 h
      · have h := it_neg c6 h
        refine V_aload_n hC 0 dX9_edge_33 rfl ?_
        refine V_iload_n hC 1 dX9_edge_34 rfl ?_
        refine V_iload_n hC 2 dX9_edge_35 rfl ?_
        obtain ⟨w8, H7, hc, h⟩ := bnd_some h
        refine V_calli (g := 0) (k := 0) (As := [.int a1, .int a2]) (st := []) hC (c_X9_isBlock l hc) rfl ml_X9_165 ⟨Nat.le_of_ble_eq_true rfl, Nat.le_of_ble_eq_true rfl⟩ rfl rfl rfl (Nat.le_of_ble_eq_true rfl) dX9_edge_36 ?_
        refine V_if_eq (tgt := 59) hC dX9_edge_39 (by decide) (fun c9 => ?_) (fun c9 => ?_)
        · have h := it_pos c9 h
          refine V_iconst (v := -1) hC dX9_edge_59 (by decide) ?_
          exact V_iret hC hret dX9_edge_60 h
        · have h := it_neg c9 h
          refine V_aload_n hC 0 dX9_edge_42 rfl ?_
          refine V_iload_n hC 1 dX9_edge_43 rfl ?_
          refine V_iload_n hC 3 dX9_edge_44 rfl ?_
          obtain ⟨w11, H10, hc, h⟩ := bnd_some h
          refine V_calli (g := 0) (k := 0) (As := [.int a1, .int a3]) (st := []) hC (c_X9_isBlock l hc) rfl ml_X9_165 ⟨Nat.le_of_ble_eq_true rfl, Nat.le_of_ble_eq_true rfl⟩ rfl rfl rfl (Nat.le_of_ble_eq_true rfl) dX9_edge_45 ?_
          refine V_if_eq (tgt := 59) hC dX9_edge_48 (by decide) (fun c12 => ?_) (fun c12 => ?_)
          · have h := it_pos c12 h
            refine V_iconst (v := -1) hC dX9_edge_59 (by decide) ?_
            exact V_iret hC hret dX9_edge_60 h
          · have h := it_neg c12 h
            refine V_iload hC 4 dX9_edge_51 rfl ?_
            obtain ⟨w14, H13, hc, h⟩ := bnd_some h
            refine V_callsi (As := [.int a4]) (st := []) hC (c_X9_isGuess l hc) rfl ml_X9_169 ⟨Nat.le_of_ble_eq_true rfl, Nat.le_of_ble_eq_true rfl⟩ rfl (Nat.le_of_ble_eq_true rfl) dX9_edge_53 ?_
            refine V_if_ne (tgt := 61) hC dX9_edge_56 (by decide) (fun c15 => ?_) (fun c15 => ?_)
            · have h := it_neg c15 h
              refine V_aload_n hC 0 dX9_edge_61 rfl ?_
              refine V_getR (g := 0) (k := 0) (g' := 0) (k' := 4) hC 9 4 fl_X9_20 rfl rfl rfl rfl dX9_edge_62 ?_
              refine V_bipush (v := 20) hC dX9_edge_65 (by decide) ?_
              refine V_iload_n hC 1 dX9_edge_67 rfl ?_
              refine V_imul hC dX9_edge_68 ?_
              refine V_iload_n hC 2 dX9_edge_69 rfl ?_
              refine V_iadd hC dX9_edge_70 ?_
              obtain ⟨hi, h⟩ := gd_some h
              refine V_iald (g := 0) (k := 4) hC rfl rfl hi dX9_edge_71 ?_
              refine V_vlI h (fun v16 h => ?_)
              refine V_istore (lv' := [(6, .int v16), (0, .ref (ad 0 0)), (1, .int a1), (2, .int a2), (3, .int a3), (4, .int a4), (5, .int a5)]) hC dX9_edge_72 (Nat.le_of_ble_eq_true rfl) rfl ?_
              refine V_iload hC 0 dX9_edge_74 rfl ?_
              refine V_iconst (v := 3) hC dX9_edge_76 (by decide) ?_
              refine V_icmp_eq (tgt := 96) hC dX9_edge_77 (by decide) (fun c17 => ?_) (fun c17 => ?_)
              · have h := it_pos c17 h
                refine V_iconst (v := -1) hC dX9_edge_96 (by decide) ?_
                exact V_iret hC hret dX9_edge_97 h
              · have h := it_neg c17 h
                refine V_iload hC 0 dX9_edge_80 rfl ?_
                refine V_iconst (v := 4) hC dX9_edge_82 (by decide) ?_
                refine V_icmp_eq (tgt := 96) hC dX9_edge_83 (by decide) (fun c18 => ?_) (fun c18 => ?_)
                · have h := it_pos c18 h
                  refine V_iconst (v := -1) hC dX9_edge_96 (by decide) ?_
                  exact V_iret hC hret dX9_edge_97 h
                · have h := it_neg c18 h
                  refine V_aload_n hC 1 dX9_edge_86 rfl ?_
                  refine V_iload_n hC 2 dX9_edge_87 rfl ?_
                  refine V_iload_n hC 3 dX9_edge_88 rfl ?_
                  obtain ⟨w20, H19, hc, h⟩ := bnd_some h
                  refine V_calli (g := 0) (k := 0) (As := [.int a1, .int a2]) (st := []) hC (c_X9_outs l hc) rfl ml_X9_172 ⟨Nat.le_of_ble_eq_true rfl, Nat.le_of_ble_eq_true rfl⟩ rfl rfl rfl (Nat.le_of_ble_eq_true rfl) dX9_edge_89 ?_
                  refine V_iconst (v := 4) hC dX9_edge_92 (by decide) ?_
                  refine V_icmp_ne (tgt := 98) hC dX9_edge_93 (by decide) (fun c21 => ?_) (fun c21 => ?_)
                  · have h := it_neg c21 h
                    refine V_bipush (v := 40) hC dX9_edge_98 (by decide) ?_
                    refine V_iload_n hC 2 dX9_edge_100 rfl ?_
                    refine V_imul hC dX9_edge_101 ?_
                    refine V_aload_n hC 1 dX9_edge_102 rfl ?_
                    refine V_getR (g := 0) (k := 0) (g' := 0) (k' := 2) hC 9 2 fl_X9_13 rfl rfl rfl rfl dX9_edge_103 ?_
                    refine V_iload_n hC 2 dX9_edge_106 rfl ?_
                    obtain ⟨hi, h⟩ := gd_some h
                    refine V_iald (g := 0) (k := 2) hC rfl rfl hi dX9_edge_107 ?_
                    refine V_iadd hC dX9_edge_108 ?_
                    refine V_vlI h (fun v22 h => ?_)
                    refine V_istore (lv' := [(7, .int v22), (6, .int v16), (0, .ref (ad 0 0)), (1, .int a1), (2, .int a2), (3, .int a3), (4, .int a4), (5, .int a5)]) hC dX9_edge_109 (Nat.le_of_ble_eq_true rfl) rfl ?_
                    refine V_aload_n hC 2 dX9_edge_111 rfl ?_
                    refine V_getR (g := 0) (k := 0) (g' := 0) (k' := 6) hC 9 6 fl_X9_26 rfl rfl rfl rfl dX9_edge_112 ?_
                    refine V_iload hC 0 dX9_edge_115 rfl ?_
                    refine V_iload_n hC 4 dX9_edge_117 rfl ?_
                    obtain ⟨hi, h⟩ := gd_some h
                    refine V_iast (g := 0) (k := 6) hC rfl rfl hi dX9_edge_118 ?_
                    refine V_hl h (fun H23 h => ?_)
                    refine V_aload_n hC 2 dX9_edge_119 rfl ?_
                    refine V_getR (g := 0) (k := 0) (g' := 0) (k' := 7) hC 9 7 fl_X9_29 rfl rfl rfl rfl dX9_edge_120 ?_
                    refine V_iload hC 0 dX9_edge_123 rfl ?_
                    refine V_iload_n hC 5 dX9_edge_125 rfl ?_
                    obtain ⟨hi, h⟩ := gd_some h
                    refine V_iast (g := 0) (k := 7) hC rfl rfl hi dX9_edge_126 ?_
                    refine V_hl h (fun H24 h => ?_)
                    refine V_aload_n hC 2 dX9_edge_127 rfl ?_
                    refine V_getR (g := 0) (k := 0) (g' := 0) (k' := 8) hC 9 8 fl_X9_32 rfl rfl rfl rfl dX9_edge_128 ?_
                    refine V_iload hC 0 dX9_edge_131 rfl ?_
                    refine V_iload hC 6 dX9_edge_133 rfl ?_
                    obtain ⟨hi, h⟩ := gd_some h
                    refine V_iast (g := 0) (k := 8) hC rfl rfl hi dX9_edge_135 ?_
                    refine V_hl h (fun H25 h => ?_)
                    refine V_aload_n hC 2 dX9_edge_136 rfl ?_
                    refine V_getR (g := 0) (k := 0) (g' := 0) (k' := 9) hC 9 9 fl_X9_35 rfl rfl rfl rfl dX9_edge_137 ?_
                    refine V_iload hC 0 dX9_edge_140 rfl ?_
                    refine V_iload hC 7 dX9_edge_142 rfl ?_
                    obtain ⟨hi, h⟩ := gd_some h
                    refine V_zast (g := 0) (k := 9) hC rfl rfl hi dX9_edge_144 ?_
                    refine V_hl h (fun H26 h => ?_)
                    refine V_aload_n hC 2 dX9_edge_145 rfl ?_
                    refine V_getR (g := 0) (k := 0) (g' := 0) (k' := 10) hC 9 10 fl_X9_38 rfl rfl rfl rfl dX9_edge_146 ?_
                    refine V_iload hC 0 dX9_edge_149 rfl ?_
                    refine V_iconst (v := 0) hC dX9_edge_151 (by decide) ?_
                    obtain ⟨hi, h⟩ := gd_some h
                    refine V_iast (g := 0) (k := 10) hC rfl rfl hi dX9_edge_152 ?_
                    refine V_hl h (fun H27 h => ?_)
                    refine V_aload_n hC 2 dX9_edge_153 rfl ?_
                    refine V_getR (g := 0) (k := 0) (g' := 0) (k' := 2) hC 9 2 fl_X9_13 rfl rfl rfl rfl dX9_edge_154 ?_
                    refine V_iload_n hC 3 dX9_edge_157 rfl ?_
                    refine V_dup2 hC dX9_edge_158 rfl rfl ?_
                    obtain ⟨hi, h⟩ := gd_some h
                    refine V_iald (g := 0) (k := 2) hC rfl rfl hi dX9_edge_159 ?_
                    refine V_iconst (v := 1) hC dX9_edge_160 (by decide) ?_
                    refine V_iadd hC dX9_edge_161 ?_
                    obtain ⟨hi, h⟩ := gd_some h
                    refine V_iast (g := 0) (k := 2) hC rfl rfl hi dX9_edge_162 ?_
                    refine V_hl h (fun H28 h => ?_)
                    refine V_aload_n hC 2 dX9_edge_163 rfl ?_
                    refine V_getR (g := 0) (k := 0) (g' := 0) (k' := 2) hC 9 2 fl_X9_13 rfl rfl rfl rfl dX9_edge_164 ?_
                    refine V_iload_n hC 3 dX9_edge_167 rfl ?_
                    obtain ⟨hi, h⟩ := gd_some h
                    refine V_iald (g := 0) (k := 2) hC rfl rfl hi dX9_edge_168 ?_
                    refine V_iconst (v := 1) hC dX9_edge_169 (by decide) ?_
                    refine V_isub hC dX9_edge_170 ?_
                    exact V_iret hC hret dX9_edge_171 h
                  · have h := it_pos c21 h
                    refine V_iconst (v := -1) hC dX9_edge_96 (by decide) ?_
                    exact V_iret hC hret dX9_edge_97 h
            · have h := it_pos c15 h
              refine V_iconst (v := -1) hC dX9_edge_59 (by decide) ?_
              exact V_iret hC hret dX9_edge_60 h
theorem c_X9_edge (l : Launch) {nr : Nat} {a1 : Int32} {a2 : Int32} {a3 : Int32} {a4 : Int32} {a5 : Int32} {H : Hp} {x : Int32} {H' : Hp} (h : f_X9_edge a1 a2 a3 a4 a5 H = some (x, H')) : CI l nr yX9_edge cX9_edge 8 (some .int) 2 43 (fun ad => [.ref (ad 0 0), .int a1, .int a2, .int a3, .int a4, .int a5]) H x H' := by
  intro D K4 ad sz
  refine Met.ofV (by decide) (Nat.le_of_ble_eq_true rfl) ?_
  intro p e s m args below meth c hC hret hsz
  subst hsz
  exact s_X9_edge hC hret h
theorem dX9_guess_0 : decode cX9_guess 0 = .ok (.aload_n 0, 1) := by decide +kernel
theorem dX9_guess_1 : decode cX9_guess 1 = .ok (.iconst 0, 1) := by decide +kernel
theorem dX9_guess_2 : decode cX9_guess 2 = .ok (.putfield 153, 3) := by decide +kernel
theorem dX9_guess_5 : decode cX9_guess 5 = .ok (.aload_n 0, 1) := by decide +kernel
theorem dX9_guess_6 : decode cX9_guess 6 = .ok (.iload_n 1, 1) := by decide +kernel
theorem dX9_guess_7 : decode cX9_guess 7 = .ok (.iload_n 2, 1) := by decide +kernel
theorem dX9_guess_8 : decode cX9_guess 8 = .ok (.invokevirtual 176, 3) := by decide +kernel
theorem dX9_guess_11 : decode cX9_guess 11 = .ok (.ifCond .eq 10, 3) := by decide +kernel
theorem dX9_guess_14 : decode cX9_guess 14 = .ok (.iload_n 3, 1) := by decide +kernel
theorem dX9_guess_15 : decode cX9_guess 15 = .ok (.invokestatic 169, 3) := by decide +kernel
theorem dX9_guess_18 : decode cX9_guess 18 = .ok (.ifCond .ne 5, 3) := by decide +kernel
theorem dX9_guess_21 : decode cX9_guess 21 = .ok (.iconst 0, 1) := by decide +kernel
theorem dX9_guess_22 : decode cX9_guess 22 = .ok (.ireturn, 1) := by decide +kernel
theorem dX9_guess_23 : decode cX9_guess 23 = .ok (.aload_n 0, 1) := by decide +kernel
theorem dX9_guess_24 : decode cX9_guess 24 = .ok (.getfield 32, 3) := by decide +kernel
theorem dX9_guess_27 : decode cX9_guess 27 = .ok (.bipush 40, 2) := by decide +kernel
theorem dX9_guess_29 : decode cX9_guess 29 = .ok (.iload_n 1, 1) := by decide +kernel
theorem dX9_guess_30 : decode cX9_guess 30 = .ok (.imul, 1) := by decide +kernel
theorem dX9_guess_31 : decode cX9_guess 31 = .ok (.iload_n 2, 1) := by decide +kernel
theorem dX9_guess_32 : decode cX9_guess 32 = .ok (.iadd, 1) := by decide +kernel
theorem dX9_guess_33 : decode cX9_guess 33 = .ok (.iload_n 3, 1) := by decide +kernel
theorem dX9_guess_34 : decode cX9_guess 34 = .ok (.iastore, 1) := by decide +kernel
theorem dX9_guess_35 : decode cX9_guess 35 = .ok (.iconst 1, 1) := by decide +kernel
theorem dX9_guess_36 : decode cX9_guess 36 = .ok (.ireturn, 1) := by decide +kernel
def f_X9_guess (a1 : Int32) (a2 : Int32) (a3 : Int32) (H : Hp) : Option (Int32 × Hp) := hl (sI H 0 0 34 0) (fun (H1 : Hp) => bnd (f_X9_isEdge a1 a2 H1) (fun w3 H2 => if w3 = 0 then some (0, H2) else bnd (f_X9_isGuess a3 H2) (fun w6 H5 => if w6 = 0 then some (0, H5) else gd ((40 * a1) + a2) 320 (hl (sI H5 0 8 (Int32.toNatClampNeg ((40 * a1) + a2)) a3) (fun (H8 : Hp) => some (1, H8))))))
set_option maxRecDepth 100000 in
set_option maxHeartbeats 4000000 in
theorem s_X9_guess {p : Program} {l : Launch} {e : Env} {s : State} {m : MethodId} {args : Array Value} {below : List Frame} {meth : Method} {c : Code} {A : Nat → Prop} {D : va_G} {K4 : kQ} {ad : Nat → Nat → Nat} {nr : Nat} {a1 : Int32} {a2 : Int32} {a3 : Int32} {H : Hp} {res : Int32 × Hp} (hC : Cx p s m args c A s.heap D K4 4 RX9 cX9_guess) (hret : meth.sig.returnType = (some .boolean) ∧ meth.locks = false) (h : f_X9_guess a1 a2 a3 H = some res) : V p l e ({ frames := 2, cells := 0, slots := 0, locals := 43 }) s m args below meth c A s.heap (QI below args s A D K4 ad nr res) D K4 ad nr 4 0 [(0, .ref (ad 0 0)), (1, .int a1), (2, .int a2), (3, .int a3)] [] H := by
  unfold f_X9_guess at h
  refine V_aload_n hC 0 dX9_guess_0 rfl ?_
  refine V_iconst (v := 0) hC dX9_guess_1 (by decide) ?_
  refine V_putI (g := 0) (k := 0) hC 9 34 .int fw_X9_153 rfl rfl rfl rfl rfl dX9_guess_2 ?_
  refine V_hl h (fun H1 h => ?_)
  refine V_aload_n hC 0 dX9_guess_5 rfl ?_
  refine V_iload_n hC 1 dX9_guess_6 rfl ?_
  refine V_iload_n hC 2 dX9_guess_7 rfl ?_
  obtain ⟨w3, H2, hc, h⟩ := bnd_some h
  refine V_calli (g := 0) (k := 0) (As := [.int a1, .int a2]) (st := []) hC (c_X9_isEdge l hc) rfl ml_X9_176 ⟨Nat.le_of_ble_eq_true rfl, Nat.le_of_ble_eq_true rfl⟩ rfl rfl rfl (Nat.le_of_ble_eq_true rfl) dX9_guess_8 ?_
  refine V_if_eq (tgt := 21) hC dX9_guess_11 (by decide) (fun c4 => ?_) (fun c4 => ?_)
  · have h := it_pos c4 h
    refine V_iconst (v := 0) hC dX9_guess_21 (by decide) ?_
    exact V_zret hC hret (by decide) dX9_guess_22 h
  · have h := it_neg c4 h
    refine V_iload_n hC 3 dX9_guess_14 rfl ?_
    obtain ⟨w6, H5, hc, h⟩ := bnd_some h
    refine V_callsi (As := [.int a3]) (st := []) hC (c_X9_isGuess l hc) rfl ml_X9_169 ⟨Nat.le_of_ble_eq_true rfl, Nat.le_of_ble_eq_true rfl⟩ rfl (Nat.le_of_ble_eq_true rfl) dX9_guess_15 ?_
    refine V_if_ne (tgt := 23) hC dX9_guess_18 (by decide) (fun c7 => ?_) (fun c7 => ?_)
    · have h := it_neg c7 h
      refine V_aload_n hC 0 dX9_guess_23 rfl ?_
      refine V_getR (g := 0) (k := 0) (g' := 0) (k' := 8) hC 9 8 fl_X9_32 rfl rfl rfl rfl dX9_guess_24 ?_
      refine V_bipush (v := 40) hC dX9_guess_27 (by decide) ?_
      refine V_iload_n hC 1 dX9_guess_29 rfl ?_
      refine V_imul hC dX9_guess_30 ?_
      refine V_iload_n hC 2 dX9_guess_31 rfl ?_
      refine V_iadd hC dX9_guess_32 ?_
      refine V_iload_n hC 3 dX9_guess_33 rfl ?_
      obtain ⟨hi, h⟩ := gd_some h
      refine V_iast (g := 0) (k := 8) hC rfl rfl hi dX9_guess_34 ?_
      refine V_hl h (fun H8 h => ?_)
      refine V_iconst (v := 1) hC dX9_guess_35 (by decide) ?_
      exact V_zret hC hret (by decide) dX9_guess_36 h
    · have h := it_pos c7 h
      refine V_iconst (v := 0) hC dX9_guess_21 (by decide) ?_
      exact V_zret hC hret (by decide) dX9_guess_22 h
theorem c_X9_guess (l : Launch) {nr : Nat} {a1 : Int32} {a2 : Int32} {a3 : Int32} {H : Hp} {x : Int32} {H' : Hp} (h : f_X9_guess a1 a2 a3 H = some (x, H')) : CI l nr yX9_guess cX9_guess 4 (some .boolean) 2 43 (fun ad => [.ref (ad 0 0), .int a1, .int a2, .int a3]) H x H' := by
  intro D K4 ad sz
  refine Met.ofV (by decide) (Nat.le_of_ble_eq_true rfl) ?_
  intro p e s m args below meth c hC hret hsz
  subst hsz
  exact s_X9_guess hC hret h
theorem dX9_reach_0 : decode cX9_reach 0 = .ok (.iconst 1, 1) := by decide +kernel
theorem dX9_reach_1 : decode cX9_reach 1 = .ok (.istore_n 3, 1) := by decide +kernel
theorem dX9_reach_2 : decode cX9_reach 2 = .ok (.iload_n 3, 1) := by decide +kernel
theorem dX9_reach_3 : decode cX9_reach 3 = .ok (.ifCond .eq 112, 3) := by decide +kernel
theorem dX9_reach_6 : decode cX9_reach 6 = .ok (.iconst 0, 1) := by decide +kernel
theorem dX9_reach_7 : decode cX9_reach 7 = .ok (.istore_n 3, 1) := by decide +kernel
theorem dX9_reach_8 : decode cX9_reach 8 = .ok (.bipush 40, 2) := by decide +kernel
theorem dX9_reach_10 : decode cX9_reach 10 = .ok (.iload_n 1, 1) := by decide +kernel
theorem dX9_reach_11 : decode cX9_reach 11 = .ok (.imul, 1) := by decide +kernel
theorem dX9_reach_12 : decode cX9_reach 12 = .ok (.istore 4, 2) := by decide +kernel
theorem dX9_reach_14 : decode cX9_reach 14 = .ok (.iload 4, 2) := by decide +kernel
theorem dX9_reach_16 : decode cX9_reach 16 = .ok (.bipush 40, 2) := by decide +kernel
theorem dX9_reach_18 : decode cX9_reach 18 = .ok (.iload_n 1, 1) := by decide +kernel
theorem dX9_reach_19 : decode cX9_reach 19 = .ok (.imul, 1) := by decide +kernel
theorem dX9_reach_20 : decode cX9_reach 20 = .ok (.aload_n 0, 1) := by decide +kernel
theorem dX9_reach_21 : decode cX9_reach 21 = .ok (.getfield 13, 3) := by decide +kernel
theorem dX9_reach_24 : decode cX9_reach 24 = .ok (.iload_n 1, 1) := by decide +kernel
theorem dX9_reach_25 : decode cX9_reach 25 = .ok (.iaload, 1) := by decide +kernel
theorem dX9_reach_26 : decode cX9_reach 26 = .ok (.iadd, 1) := by decide +kernel
theorem dX9_reach_27 : decode cX9_reach 27 = .ok (.if_icmp .ge 85, 3) := by decide +kernel
theorem dX9_reach_30 : decode cX9_reach 30 = .ok (.iload_n 2, 1) := by decide +kernel
theorem dX9_reach_31 : decode cX9_reach 31 = .ok (.ifCond .eq 13, 3) := by decide +kernel
theorem dX9_reach_34 : decode cX9_reach 34 = .ok (.aload_n 0, 1) := by decide +kernel
theorem dX9_reach_35 : decode cX9_reach 35 = .ok (.getfield 26, 3) := by decide +kernel
theorem dX9_reach_38 : decode cX9_reach 38 = .ok (.iload 4, 2) := by decide +kernel
theorem dX9_reach_40 : decode cX9_reach 40 = .ok (.iaload, 1) := by decide +kernel
theorem dX9_reach_41 : decode cX9_reach 41 = .ok (.goto 10, 3) := by decide +kernel
theorem dX9_reach_44 : decode cX9_reach 44 = .ok (.aload_n 0, 1) := by decide +kernel
theorem dX9_reach_45 : decode cX9_reach 45 = .ok (.getfield 29, 3) := by decide +kernel
theorem dX9_reach_48 : decode cX9_reach 48 = .ok (.iload 4, 2) := by decide +kernel
theorem dX9_reach_50 : decode cX9_reach 50 = .ok (.iaload, 1) := by decide +kernel
theorem dX9_reach_51 : decode cX9_reach 51 = .ok (.istore 5, 2) := by decide +kernel
theorem dX9_reach_53 : decode cX9_reach 53 = .ok (.iload_n 2, 1) := by decide +kernel
theorem dX9_reach_54 : decode cX9_reach 54 = .ok (.ifCond .eq 13, 3) := by decide +kernel
theorem dX9_reach_57 : decode cX9_reach 57 = .ok (.aload_n 0, 1) := by decide +kernel
theorem dX9_reach_58 : decode cX9_reach 58 = .ok (.getfield 29, 3) := by decide +kernel
theorem dX9_reach_61 : decode cX9_reach 61 = .ok (.iload 4, 2) := by decide +kernel
theorem dX9_reach_63 : decode cX9_reach 63 = .ok (.iaload, 1) := by decide +kernel
theorem dX9_reach_64 : decode cX9_reach 64 = .ok (.goto 10, 3) := by decide +kernel
theorem dX9_reach_67 : decode cX9_reach 67 = .ok (.aload_n 0, 1) := by decide +kernel
theorem dX9_reach_68 : decode cX9_reach 68 = .ok (.getfield 26, 3) := by decide +kernel
theorem dX9_reach_71 : decode cX9_reach 71 = .ok (.iload 4, 2) := by decide +kernel
theorem dX9_reach_73 : decode cX9_reach 73 = .ok (.iaload, 1) := by decide +kernel
theorem dX9_reach_74 : decode cX9_reach 74 = .ok (.istore 6, 2) := by decide +kernel
theorem dX9_reach_76 : decode cX9_reach 76 = .ok (.aload_n 0, 1) := by decide +kernel
theorem dX9_reach_77 : decode cX9_reach 77 = .ok (.getfield 99, 3) := by decide +kernel
theorem dX9_reach_80 : decode cX9_reach 80 = .ok (.iload 5, 2) := by decide +kernel
theorem dX9_reach_82 : decode cX9_reach 82 = .ok (.baload, 1) := by decide +kernel
theorem dX9_reach_83 : decode cX9_reach 83 = .ok (.ifCond .eq 23, 3) := by decide +kernel
theorem dX9_reach_86 : decode cX9_reach 86 = .ok (.aload_n 0, 1) := by decide +kernel
theorem dX9_reach_87 : decode cX9_reach 87 = .ok (.getfield 99, 3) := by decide +kernel
theorem dX9_reach_90 : decode cX9_reach 90 = .ok (.iload 6, 2) := by decide +kernel
theorem dX9_reach_92 : decode cX9_reach 92 = .ok (.baload, 1) := by decide +kernel
theorem dX9_reach_93 : decode cX9_reach 93 = .ok (.ifCond .ne 13, 3) := by decide +kernel
theorem dX9_reach_96 : decode cX9_reach 96 = .ok (.aload_n 0, 1) := by decide +kernel
theorem dX9_reach_97 : decode cX9_reach 97 = .ok (.getfield 99, 3) := by decide +kernel
theorem dX9_reach_100 : decode cX9_reach 100 = .ok (.iload 6, 2) := by decide +kernel
theorem dX9_reach_102 : decode cX9_reach 102 = .ok (.iconst 1, 1) := by decide +kernel
theorem dX9_reach_103 : decode cX9_reach 103 = .ok (.bastore, 1) := by decide +kernel
theorem dX9_reach_104 : decode cX9_reach 104 = .ok (.iconst 1, 1) := by decide +kernel
theorem dX9_reach_105 : decode cX9_reach 105 = .ok (.istore_n 3, 1) := by decide +kernel
theorem dX9_reach_106 : decode cX9_reach 106 = .ok (.iinc 4 1, 3) := by decide +kernel
theorem dX9_reach_109 : decode cX9_reach 109 = .ok (.goto (-95), 3) := by decide +kernel
theorem dX9_reach_112 : decode cX9_reach 112 = .ok (.goto (-110), 3) := by decide +kernel
theorem dX9_reach_115 : decode cX9_reach 115 = .ok (.return_, 1) := by decide +kernel
def L_X9_reach_14 (b1 : Int32) (b2 : Int32) (k : Int32 → Hp → Option (Unit × Hp)) : Nat → Int32 → Int32 → Hp → Option (Unit × Hp)
  | 0, _, _, _ => none
  | n + 1, x3, x4, H => gd b1 8 (if ((40 * b1) + (gI H 0 2 (Int32.toNatClampNeg b1))) ≤ x4 then k x3 H else jn (fun (y5 : Int32) (H6 : Hp) => jn (fun (y8 : Int32) (H9 : Hp) => gd y5 21 (if (gI H9 0 35 (Int32.toNatClampNeg y5)) = 0 then vl (x4 + (1 : Int32)) (fun (v11 : Int32) => L_X9_reach_14 b1 b2 k n x3 v11 H9) else gd y8 21 (if (gI H9 0 35 (Int32.toNatClampNeg y8)) = 0 then gd y8 21 (hl (sI H9 0 35 (Int32.toNatClampNeg y8) (vp_nar .boolean 1)) (fun (H14 : Hp) => vl (x4 + (1 : Int32)) (fun (v15 : Int32) => L_X9_reach_14 b1 b2 k n 1 v15 H14))) else vl (x4 + (1 : Int32)) (fun (v13 : Int32) => L_X9_reach_14 b1 b2 k n x3 v13 H9)))) (fun j7 => if b2 = 0 then gd x4 320 (j7 ((gI H6 0 6 (Int32.toNatClampNeg x4))) H6) else gd x4 320 (j7 ((gI H6 0 7 (Int32.toNatClampNeg x4))) H6))) (fun j4 => if b2 = 0 then gd x4 320 (j4 ((gI H 0 7 (Int32.toNatClampNeg x4))) H) else gd x4 320 (j4 ((gI H 0 6 (Int32.toNatClampNeg x4))) H)))
set_option maxRecDepth 100000 in
set_option maxHeartbeats 4000000 in
theorem sL_X9_reach_14 {p : Program} {l : Launch} {e : Env} {s : State} {m : MethodId} {args : Array Value} {below : List Frame} {meth : Method} {c : Code} {A : Nat → Prop} {D : va_G} {K4 : kQ} {ad : Nat → Nat → Nat} {nr : Nat} {b1 : Int32} {b2 : Int32} {k : Int32 → Hp → Option (Unit × Hp)} {res : Unit × Hp} (hC : Cx p s m args c A s.heap D K4 7 RX9 cX9_reach) (hret : meth.sig.returnType = none ∧ meth.locks = false) (hk : ∀ (z3 : Int32) (H : Hp), k z3 H = some res → V p l e ({ frames := 0, cells := 0, slots := 0, locals := 0 }) s m args below meth c A s.heap (QU below args s A D K4 ad nr res) D K4 ad nr 7 112 [(0, .ref (ad 0 0)), (1, .int b1), (2, .int b2), (3, .int z3)] [] H) : ∀ (n : Nat) (x3 : Int32) (x4 : Int32) (H : Hp), L_X9_reach_14 b1 b2 k n x3 x4 H = some res → V p l e ({ frames := 0, cells := 0, slots := 0, locals := 0 }) s m args below meth c A s.heap (QU below args s A D K4 ad nr res) D K4 ad nr 7 14 [(0, .ref (ad 0 0)), (1, .int b1), (2, .int b2), (3, .int x3), (4, .int x4)] [] H := by
  intro n
  induction n with
  | zero => intro x3 x4 H h; exact nomatch (show (none : Option (Unit × Hp)) = some res from h)
  | succ n ih =>
    intro x3 x4 H h
    rw [L_X9_reach_14] at h
    refine V_iload hC 4 dX9_reach_14 rfl ?_
    refine V_bipush (v := 40) hC dX9_reach_16 (by decide) ?_
    refine V_iload_n hC 1 dX9_reach_18 rfl ?_
    refine V_imul hC dX9_reach_19 ?_
    refine V_aload_n hC 0 dX9_reach_20 rfl ?_
    refine V_getR (g := 0) (k := 0) (g' := 0) (k' := 2) hC 9 2 fl_X9_13 rfl rfl rfl rfl dX9_reach_21 ?_
    refine V_iload_n hC 1 dX9_reach_24 rfl ?_
    obtain ⟨hi, h⟩ := gd_some h
    refine V_iald (g := 0) (k := 2) hC rfl rfl hi dX9_reach_25 ?_
    refine V_iadd hC dX9_reach_26 ?_
    refine V_icmp_ge (tgt := 112) hC dX9_reach_27 (by decide) (fun c3 => ?_) (fun c3 => ?_)
    · have h := it_pos c3 h
      refine V_lv (lv' := [(0, .ref (ad 0 0)), (1, .int b1), (2, .int b2), (3, .int x3)]) [0, 1, 2, 3] rfl ?_
      exact hk x3 H h
    · have h := it_neg c3 h
      refine V_iload_n hC 2 dX9_reach_30 rfl ?_
      refine V_jn1 (pj := 51) (lj := fun y5 => [(0, .ref (ad 0 0)), (1, .int b1), (2, .int b2), (3, .int x3), (4, .int x4)]) (sj := fun y5 => [.int y5]) h (fun y5 H6 h => ?_) (fun hj4 h => ?_)
      · refine V_istore (lv' := [(5, .int y5), (0, .ref (ad 0 0)), (1, .int b1), (2, .int b2), (3, .int x3), (4, .int x4)]) hC dX9_reach_51 (Nat.le_of_ble_eq_true rfl) rfl ?_
        refine V_iload_n hC 3 dX9_reach_53 rfl ?_
        refine V_jn1 (pj := 74) (lj := fun y8 => [(0, .ref (ad 0 0)), (1, .int b1), (2, .int b2), (3, .int x3), (4, .int x4), (5, .int y5)]) (sj := fun y8 => [.int y8]) h (fun y8 H9 h => ?_) (fun hj7 h => ?_)
        · refine V_istore (lv' := [(6, .int y8), (0, .ref (ad 0 0)), (1, .int b1), (2, .int b2), (3, .int x3), (4, .int x4), (5, .int y5)]) hC dX9_reach_74 (Nat.le_of_ble_eq_true rfl) rfl ?_
          refine V_aload_n hC 1 dX9_reach_76 rfl ?_
          refine V_getR (g := 0) (k := 0) (g' := 0) (k' := 35) hC 9 35 fl_X9_99 rfl rfl rfl rfl dX9_reach_77 ?_
          refine V_iload hC 6 dX9_reach_80 rfl ?_
          obtain ⟨hi, h⟩ := gd_some h
          refine V_zald (g := 0) (k := 35) hC rfl rfl hi dX9_reach_82 ?_
          refine V_if_eq (tgt := 106) hC dX9_reach_83 (by decide) (fun c10 => ?_) (fun c10 => ?_)
          · have h := it_pos c10 h
            refine V_vi h (fun v11 hvv11 h => ?_)
            refine V_iinc (v := v11) (lv' := [(4, .int v11), (6, .int y8), (0, .ref (ad 0 0)), (1, .int b1), (2, .int b2), (3, .int x3), (5, .int y5)]) hC 5 dX9_reach_106 rfl hvv11.symm (Nat.le_of_ble_eq_true rfl) rfl ?_
            refine V_goto (tgt := 14) hC dX9_reach_109 (by decide) ?_
            refine V_lv (lv' := [(0, .ref (ad 0 0)), (1, .int b1), (2, .int b2), (3, .int x3), (4, .int v11)]) [2, 3, 4, 5, 0] rfl ?_
            exact ih x3 v11 H9 h
          · have h := it_neg c10 h
            refine V_aload_n hC 1 dX9_reach_86 rfl ?_
            refine V_getR (g := 0) (k := 0) (g' := 0) (k' := 35) hC 9 35 fl_X9_99 rfl rfl rfl rfl dX9_reach_87 ?_
            refine V_iload hC 0 dX9_reach_90 rfl ?_
            obtain ⟨hi, h⟩ := gd_some h
            refine V_zald (g := 0) (k := 35) hC rfl rfl hi dX9_reach_92 ?_
            refine V_if_ne (tgt := 106) hC dX9_reach_93 (by decide) (fun c12 => ?_) (fun c12 => ?_)
            · have h := it_neg c12 h
              refine V_vi h (fun v13 hvv13 h => ?_)
              refine V_iinc (v := v13) (lv' := [(4, .int v13), (6, .int y8), (0, .ref (ad 0 0)), (1, .int b1), (2, .int b2), (3, .int x3), (5, .int y5)]) hC 5 dX9_reach_106 rfl hvv13.symm (Nat.le_of_ble_eq_true rfl) rfl ?_
              refine V_goto (tgt := 14) hC dX9_reach_109 (by decide) ?_
              refine V_lv (lv' := [(0, .ref (ad 0 0)), (1, .int b1), (2, .int b2), (3, .int x3), (4, .int v13)]) [2, 3, 4, 5, 0] rfl ?_
              exact ih x3 v13 H9 h
            · have h := it_pos c12 h
              refine V_aload_n hC 1 dX9_reach_96 rfl ?_
              refine V_getR (g := 0) (k := 0) (g' := 0) (k' := 35) hC 9 35 fl_X9_99 rfl rfl rfl rfl dX9_reach_97 ?_
              refine V_iload hC 0 dX9_reach_100 rfl ?_
              refine V_iconst (v := 1) hC dX9_reach_102 (by decide) ?_
              obtain ⟨hi, h⟩ := gd_some h
              refine V_zast (g := 0) (k := 35) hC rfl rfl hi dX9_reach_103 ?_
              refine V_hl h (fun H14 h => ?_)
              refine V_iconst (v := 1) hC dX9_reach_104 (by decide) ?_
              refine V_istore_n (lv' := [(3, .int 1), (6, .int y8), (0, .ref (ad 0 0)), (1, .int b1), (2, .int b2), (4, .int x4), (5, .int y5)]) hC dX9_reach_105 (Nat.le_of_ble_eq_true rfl) rfl ?_
              refine V_vi h (fun v15 hvv15 h => ?_)
              refine V_iinc (v := v15) (lv' := [(4, .int v15), (3, .int 1), (6, .int y8), (0, .ref (ad 0 0)), (1, .int b1), (2, .int b2), (5, .int y5)]) hC 5 dX9_reach_106 rfl hvv15.symm (Nat.le_of_ble_eq_true rfl) rfl ?_
              refine V_goto (tgt := 14) hC dX9_reach_109 (by decide) ?_
              refine V_lv (lv' := [(0, .ref (ad 0 0)), (1, .int b1), (2, .int b2), (3, .int 1), (4, .int v15)]) [3, 4, 5, 1, 0] rfl ?_
              exact ih 1 v15 H14 h
        · refine V_if_eq (tgt := 67) hC dX9_reach_54 (by decide) (fun c16 => ?_) (fun c16 => ?_)
          · have h := it_pos c16 h
            refine V_aload_n hC 1 dX9_reach_67 rfl ?_
            refine V_getR (g := 0) (k := 0) (g' := 0) (k' := 6) hC 9 6 fl_X9_26 rfl rfl rfl rfl dX9_reach_68 ?_
            refine V_iload hC 5 dX9_reach_71 rfl ?_
            obtain ⟨hi, h⟩ := gd_some h
            refine V_iald (g := 0) (k := 6) hC rfl rfl hi dX9_reach_73 ?_
            refine V_lv (lv' := [(0, .ref (ad 0 0)), (1, .int b1), (2, .int b2), (3, .int x3), (4, .int x4), (5, .int y5)]) [1, 2, 3, 4, 5, 0] rfl ?_
            exact hj7 ((gI H6 0 6 (Int32.toNatClampNeg x4))) H6 h
          · have h := it_neg c16 h
            refine V_aload_n hC 1 dX9_reach_57 rfl ?_
            refine V_getR (g := 0) (k := 0) (g' := 0) (k' := 7) hC 9 7 fl_X9_29 rfl rfl rfl rfl dX9_reach_58 ?_
            refine V_iload hC 5 dX9_reach_61 rfl ?_
            obtain ⟨hi, h⟩ := gd_some h
            refine V_iald (g := 0) (k := 7) hC rfl rfl hi dX9_reach_63 ?_
            refine V_goto (tgt := 74) hC dX9_reach_64 (by decide) ?_
            refine V_lv (lv' := [(0, .ref (ad 0 0)), (1, .int b1), (2, .int b2), (3, .int x3), (4, .int x4), (5, .int y5)]) [1, 2, 3, 4, 5, 0] rfl ?_
            exact hj7 ((gI H6 0 7 (Int32.toNatClampNeg x4))) H6 h
      · refine V_if_eq (tgt := 44) hC dX9_reach_31 (by decide) (fun c17 => ?_) (fun c17 => ?_)
        · have h := it_pos c17 h
          refine V_aload_n hC 0 dX9_reach_44 rfl ?_
          refine V_getR (g := 0) (k := 0) (g' := 0) (k' := 7) hC 9 7 fl_X9_29 rfl rfl rfl rfl dX9_reach_45 ?_
          refine V_iload hC 4 dX9_reach_48 rfl ?_
          obtain ⟨hi, h⟩ := gd_some h
          refine V_iald (g := 0) (k := 7) hC rfl rfl hi dX9_reach_50 ?_
          refine V_lv (lv' := [(0, .ref (ad 0 0)), (1, .int b1), (2, .int b2), (3, .int x3), (4, .int x4)]) [0, 1, 2, 3, 4] rfl ?_
          exact hj4 ((gI H 0 7 (Int32.toNatClampNeg x4))) H h
        · have h := it_neg c17 h
          refine V_aload_n hC 0 dX9_reach_34 rfl ?_
          refine V_getR (g := 0) (k := 0) (g' := 0) (k' := 6) hC 9 6 fl_X9_26 rfl rfl rfl rfl dX9_reach_35 ?_
          refine V_iload hC 4 dX9_reach_38 rfl ?_
          obtain ⟨hi, h⟩ := gd_some h
          refine V_iald (g := 0) (k := 6) hC rfl rfl hi dX9_reach_40 ?_
          refine V_goto (tgt := 51) hC dX9_reach_41 (by decide) ?_
          refine V_lv (lv' := [(0, .ref (ad 0 0)), (1, .int b1), (2, .int b2), (3, .int x3), (4, .int x4)]) [0, 1, 2, 3, 4] rfl ?_
          exact hj4 ((gI H 0 6 (Int32.toNatClampNeg x4))) H h
def L_X9_reach_2 (b1 : Int32) (b2 : Int32) (k : Hp → Option (Unit × Hp)) : Nat → Int32 → Hp → Option (Unit × Hp)
  | 0, _, _ => none
  | n + 1, x3, H => if x3 = 0 then k H else vl ((40 * b1)) (fun (v2 : Int32) => L_X9_reach_14 b1 b2 (fun (z18 : Int32) (H19 : Hp) => L_X9_reach_2 b1 b2 k n z18 H19) FU 0 v2 H)
set_option maxRecDepth 100000 in
set_option maxHeartbeats 4000000 in
theorem sL_X9_reach_2 {p : Program} {l : Launch} {e : Env} {s : State} {m : MethodId} {args : Array Value} {below : List Frame} {meth : Method} {c : Code} {A : Nat → Prop} {D : va_G} {K4 : kQ} {ad : Nat → Nat → Nat} {nr : Nat} {b1 : Int32} {b2 : Int32} {k : Hp → Option (Unit × Hp)} {res : Unit × Hp} (hC : Cx p s m args c A s.heap D K4 7 RX9 cX9_reach) (hret : meth.sig.returnType = none ∧ meth.locks = false) (hk : ∀ (H : Hp), k H = some res → V p l e ({ frames := 0, cells := 0, slots := 0, locals := 0 }) s m args below meth c A s.heap (QU below args s A D K4 ad nr res) D K4 ad nr 7 115 [] [] H) : ∀ (n : Nat) (x3 : Int32) (H : Hp), L_X9_reach_2 b1 b2 k n x3 H = some res → V p l e ({ frames := 0, cells := 0, slots := 0, locals := 0 }) s m args below meth c A s.heap (QU below args s A D K4 ad nr res) D K4 ad nr 7 2 [(0, .ref (ad 0 0)), (1, .int b1), (2, .int b2), (3, .int x3)] [] H := by
  intro n
  induction n with
  | zero => intro x3 H h; exact nomatch (show (none : Option (Unit × Hp)) = some res from h)
  | succ n ih =>
    intro x3 H h
    rw [L_X9_reach_2] at h
    refine V_iload_n hC 3 dX9_reach_2 rfl ?_
    refine V_if_eq (tgt := 115) hC dX9_reach_3 (by decide) (fun c1 => ?_) (fun c1 => ?_)
    · have h := it_pos c1 h
      refine V_lv (lv' := []) [] rfl ?_
      exact hk H h
    · have h := it_neg c1 h
      refine V_iconst (v := 0) hC dX9_reach_6 (by decide) ?_
      refine V_istore_n (lv' := [(3, .int 0), (0, .ref (ad 0 0)), (1, .int b1), (2, .int b2)]) hC dX9_reach_7 (Nat.le_of_ble_eq_true rfl) rfl ?_
      refine V_bipush (v := 40) hC dX9_reach_8 (by decide) ?_
      refine V_iload_n hC 2 dX9_reach_10 rfl ?_
      refine V_imul hC dX9_reach_11 ?_
      refine V_vlI h (fun v2 h => ?_)
      refine V_istore (lv' := [(4, .int v2), (3, .int 0), (0, .ref (ad 0 0)), (1, .int b1), (2, .int b2)]) hC dX9_reach_12 (Nat.le_of_ble_eq_true rfl) rfl ?_
      refine V_lv (lv' := [(0, .ref (ad 0 0)), (1, .int b1), (2, .int b2), (3, .int 0), (4, .int v2)]) [2, 3, 4, 1, 0] rfl ?_
      refine sL_X9_reach_14 hC hret (fun z18 H19 h => ?_) _ 0 v2 H h
      refine V_goto (tgt := 2) hC dX9_reach_112 (by decide) ?_
      refine V_lv (lv' := [(0, .ref (ad 0 0)), (1, .int b1), (2, .int b2), (3, .int z18)]) [0, 1, 2, 3] rfl ?_
      exact ih z18 H19 h
def f_X9_reach (a1 : Int32) (a2 : Int32) (H : Hp) : Option (Unit × Hp) := L_X9_reach_2 a1 a2 (fun (H20 : Hp) => some ((), H20)) FU 1 H
set_option maxRecDepth 100000 in
set_option maxHeartbeats 4000000 in
theorem s_X9_reach {p : Program} {l : Launch} {e : Env} {s : State} {m : MethodId} {args : Array Value} {below : List Frame} {meth : Method} {c : Code} {A : Nat → Prop} {D : va_G} {K4 : kQ} {ad : Nat → Nat → Nat} {nr : Nat} {a1 : Int32} {a2 : Int32} {H : Hp} {res : Unit × Hp} (hC : Cx p s m args c A s.heap D K4 7 RX9 cX9_reach) (hret : meth.sig.returnType = none ∧ meth.locks = false) (h : f_X9_reach a1 a2 H = some res) : V p l e ({ frames := 0, cells := 0, slots := 0, locals := 0 }) s m args below meth c A s.heap (QU below args s A D K4 ad nr res) D K4 ad nr 7 0 [(0, .ref (ad 0 0)), (1, .int a1), (2, .int a2)] [] H := by
  unfold f_X9_reach at h
  refine V_iconst (v := 1) hC dX9_reach_0 (by decide) ?_
  refine V_istore_n (lv' := [(3, .int 1), (0, .ref (ad 0 0)), (1, .int a1), (2, .int a2)]) hC dX9_reach_1 (Nat.le_of_ble_eq_true rfl) rfl ?_
  refine V_lv (lv' := [(0, .ref (ad 0 0)), (1, .int a1), (2, .int a2), (3, .int 1)]) [1, 2, 3, 0] rfl ?_
  refine sL_X9_reach_2 hC hret (fun H20 h => ?_) _ 1 H h
  exact V_vret hC hret dX9_reach_115 h
theorem c_X9_reach (l : Launch) {nr : Nat} {a1 : Int32} {a2 : Int32} {H : Hp} {x : Unit} {H' : Hp} (h : f_X9_reach a1 a2 H = some (x, H')) : CU l nr yX9_reach cX9_reach 7 none 0 0 (fun ad => [.ref (ad 0 0), .int a1, .int a2]) H x H' := by
  intro D K4 ad sz
  refine Met.ofV (by decide) (Nat.le_of_ble_eq_true rfl) ?_
  intro p e s m args below meth c hC hret hsz
  subst hsz
  exact s_X9_reach hC hret h
theorem dX9_all_0 : decode cX9_all 0 = .ok (.iconst 1, 1) := by decide +kernel
theorem dX9_all_1 : decode cX9_all 1 = .ok (.istore_n 2, 1) := by decide +kernel
theorem dX9_all_2 : decode cX9_all 2 = .ok (.iconst 0, 1) := by decide +kernel
theorem dX9_all_3 : decode cX9_all 3 = .ok (.istore_n 3, 1) := by decide +kernel
theorem dX9_all_4 : decode cX9_all 4 = .ok (.iload_n 3, 1) := by decide +kernel
theorem dX9_all_5 : decode cX9_all 5 = .ok (.aload_n 0, 1) := by decide +kernel
theorem dX9_all_6 : decode cX9_all 6 = .ok (.getfield 7, 3) := by decide +kernel
theorem dX9_all_9 : decode cX9_all 9 = .ok (.iload_n 1, 1) := by decide +kernel
theorem dX9_all_10 : decode cX9_all 10 = .ok (.iaload, 1) := by decide +kernel
theorem dX9_all_11 : decode cX9_all 11 = .ok (.if_icmp .ge 28, 3) := by decide +kernel
theorem dX9_all_14 : decode cX9_all 14 = .ok (.iload_n 2, 1) := by decide +kernel
theorem dX9_all_15 : decode cX9_all 15 = .ok (.ifCond .eq 16, 3) := by decide +kernel
theorem dX9_all_18 : decode cX9_all 18 = .ok (.aload_n 0, 1) := by decide +kernel
theorem dX9_all_19 : decode cX9_all 19 = .ok (.getfield 99, 3) := by decide +kernel
theorem dX9_all_22 : decode cX9_all 22 = .ok (.iload_n 3, 1) := by decide +kernel
theorem dX9_all_23 : decode cX9_all 23 = .ok (.baload, 1) := by decide +kernel
theorem dX9_all_24 : decode cX9_all 24 = .ok (.ifCond .eq 7, 3) := by decide +kernel
theorem dX9_all_27 : decode cX9_all 27 = .ok (.iconst 1, 1) := by decide +kernel
theorem dX9_all_28 : decode cX9_all 28 = .ok (.goto 4, 3) := by decide +kernel
theorem dX9_all_31 : decode cX9_all 31 = .ok (.iconst 0, 1) := by decide +kernel
theorem dX9_all_32 : decode cX9_all 32 = .ok (.istore_n 2, 1) := by decide +kernel
theorem dX9_all_33 : decode cX9_all 33 = .ok (.iinc 3 1, 3) := by decide +kernel
theorem dX9_all_36 : decode cX9_all 36 = .ok (.goto (-32), 3) := by decide +kernel
theorem dX9_all_39 : decode cX9_all 39 = .ok (.iload_n 2, 1) := by decide +kernel
theorem dX9_all_40 : decode cX9_all 40 = .ok (.ireturn, 1) := by decide +kernel
def L_X9_all_4 (b1 : Int32) (k : Int32 → Hp → Option (Int32 × Hp)) : Nat → Int32 → Int32 → Hp → Option (Int32 × Hp)
  | 0, _, _, _ => none
  | n + 1, x2, x3, H => gd b1 8 (if (gI H 0 1 (Int32.toNatClampNeg b1)) ≤ x3 then k x2 H else if x2 = 0 then vl (x3 + (1 : Int32)) (fun (v3 : Int32) => L_X9_all_4 b1 k n 0 v3 H) else gd x3 21 (if (gI H 0 35 (Int32.toNatClampNeg x3)) = 0 then vl (x3 + (1 : Int32)) (fun (v5 : Int32) => L_X9_all_4 b1 k n 0 v5 H) else vl (x3 + (1 : Int32)) (fun (v6 : Int32) => L_X9_all_4 b1 k n 1 v6 H)))
set_option maxRecDepth 100000 in
set_option maxHeartbeats 4000000 in
theorem sL_X9_all_4 {p : Program} {l : Launch} {e : Env} {s : State} {m : MethodId} {args : Array Value} {below : List Frame} {meth : Method} {c : Code} {A : Nat → Prop} {D : va_G} {K4 : kQ} {ad : Nat → Nat → Nat} {nr : Nat} {b1 : Int32} {k : Int32 → Hp → Option (Int32 × Hp)} {res : Int32 × Hp} (hC : Cx p s m args c A s.heap D K4 4 RX9 cX9_all) (hret : meth.sig.returnType = (some .boolean) ∧ meth.locks = false) (hk : ∀ (z2 : Int32) (H : Hp), k z2 H = some res → V p l e ({ frames := 0, cells := 0, slots := 0, locals := 0 }) s m args below meth c A s.heap (QI below args s A D K4 ad nr res) D K4 ad nr 4 39 [(2, .int z2)] [] H) : ∀ (n : Nat) (x2 : Int32) (x3 : Int32) (H : Hp), L_X9_all_4 b1 k n x2 x3 H = some res → V p l e ({ frames := 0, cells := 0, slots := 0, locals := 0 }) s m args below meth c A s.heap (QI below args s A D K4 ad nr res) D K4 ad nr 4 4 [(0, .ref (ad 0 0)), (1, .int b1), (2, .int x2), (3, .int x3)] [] H := by
  intro n
  induction n with
  | zero => intro x2 x3 H h; exact nomatch (show (none : Option (Int32 × Hp)) = some res from h)
  | succ n ih =>
    intro x2 x3 H h
    rw [L_X9_all_4] at h
    refine V_iload_n hC 3 dX9_all_4 rfl ?_
    refine V_aload_n hC 0 dX9_all_5 rfl ?_
    refine V_getR (g := 0) (k := 0) (g' := 0) (k' := 1) hC 9 1 fl_X9_7 rfl rfl rfl rfl dX9_all_6 ?_
    refine V_iload_n hC 1 dX9_all_9 rfl ?_
    obtain ⟨hi, h⟩ := gd_some h
    refine V_iald (g := 0) (k := 1) hC rfl rfl hi dX9_all_10 ?_
    refine V_icmp_ge (tgt := 39) hC dX9_all_11 (by decide) (fun c1 => ?_) (fun c1 => ?_)
    · have h := it_pos c1 h
      refine V_lv (lv' := [(2, .int x2)]) [2] rfl ?_
      exact hk x2 H h
    · have h := it_neg c1 h
      refine V_iload_n hC 2 dX9_all_14 rfl ?_
      refine V_if_eq (tgt := 31) hC dX9_all_15 (by decide) (fun c2 => ?_) (fun c2 => ?_)
      · have h := it_pos c2 h
        refine V_iconst (v := 0) hC dX9_all_31 (by decide) ?_
        refine V_istore_n (lv' := [(2, .int 0), (0, .ref (ad 0 0)), (1, .int b1), (3, .int x3)]) hC dX9_all_32 (Nat.le_of_ble_eq_true rfl) rfl ?_
        refine V_vi h (fun v3 hvv3 h => ?_)
        refine V_iinc (v := v3) (lv' := [(3, .int v3), (2, .int 0), (0, .ref (ad 0 0)), (1, .int b1)]) hC 3 dX9_all_33 rfl hvv3.symm (Nat.le_of_ble_eq_true rfl) rfl ?_
        refine V_goto (tgt := 4) hC dX9_all_36 (by decide) ?_
        refine V_lv (lv' := [(0, .ref (ad 0 0)), (1, .int b1), (2, .int 0), (3, .int v3)]) [2, 3, 1, 0] rfl ?_
        exact ih 0 v3 H h
      · have h := it_neg c2 h
        refine V_aload_n hC 0 dX9_all_18 rfl ?_
        refine V_getR (g := 0) (k := 0) (g' := 0) (k' := 35) hC 9 35 fl_X9_99 rfl rfl rfl rfl dX9_all_19 ?_
        refine V_iload_n hC 3 dX9_all_22 rfl ?_
        obtain ⟨hi, h⟩ := gd_some h
        refine V_zald (g := 0) (k := 35) hC rfl rfl hi dX9_all_23 ?_
        refine V_if_eq (tgt := 31) hC dX9_all_24 (by decide) (fun c4 => ?_) (fun c4 => ?_)
        · have h := it_pos c4 h
          refine V_iconst (v := 0) hC dX9_all_31 (by decide) ?_
          refine V_istore_n (lv' := [(2, .int 0), (0, .ref (ad 0 0)), (1, .int b1), (3, .int x3)]) hC dX9_all_32 (Nat.le_of_ble_eq_true rfl) rfl ?_
          refine V_vi h (fun v5 hvv5 h => ?_)
          refine V_iinc (v := v5) (lv' := [(3, .int v5), (2, .int 0), (0, .ref (ad 0 0)), (1, .int b1)]) hC 3 dX9_all_33 rfl hvv5.symm (Nat.le_of_ble_eq_true rfl) rfl ?_
          refine V_goto (tgt := 4) hC dX9_all_36 (by decide) ?_
          refine V_lv (lv' := [(0, .ref (ad 0 0)), (1, .int b1), (2, .int 0), (3, .int v5)]) [2, 3, 1, 0] rfl ?_
          exact ih 0 v5 H h
        · have h := it_neg c4 h
          refine V_iconst (v := 1) hC dX9_all_27 (by decide) ?_
          refine V_goto (tgt := 32) hC dX9_all_28 (by decide) ?_
          refine V_istore_n (lv' := [(2, .int 1), (0, .ref (ad 0 0)), (1, .int b1), (3, .int x3)]) hC dX9_all_32 (Nat.le_of_ble_eq_true rfl) rfl ?_
          refine V_vi h (fun v6 hvv6 h => ?_)
          refine V_iinc (v := v6) (lv' := [(3, .int v6), (2, .int 1), (0, .ref (ad 0 0)), (1, .int b1)]) hC 3 dX9_all_33 rfl hvv6.symm (Nat.le_of_ble_eq_true rfl) rfl ?_
          refine V_goto (tgt := 4) hC dX9_all_36 (by decide) ?_
          refine V_lv (lv' := [(0, .ref (ad 0 0)), (1, .int b1), (2, .int 1), (3, .int v6)]) [2, 3, 1, 0] rfl ?_
          exact ih 1 v6 H h
def f_X9_all (a1 : Int32) (H : Hp) : Option (Int32 × Hp) := L_X9_all_4 a1 (fun (z7 : Int32) (H8 : Hp) => gb (decide (z7 = (0 : Int32) ∨ z7 = 1)) (some (z7, H8))) FU 1 0 H
set_option maxRecDepth 100000 in
set_option maxHeartbeats 4000000 in
theorem s_X9_all {p : Program} {l : Launch} {e : Env} {s : State} {m : MethodId} {args : Array Value} {below : List Frame} {meth : Method} {c : Code} {A : Nat → Prop} {D : va_G} {K4 : kQ} {ad : Nat → Nat → Nat} {nr : Nat} {a1 : Int32} {H : Hp} {res : Int32 × Hp} (hC : Cx p s m args c A s.heap D K4 4 RX9 cX9_all) (hret : meth.sig.returnType = (some .boolean) ∧ meth.locks = false) (h : f_X9_all a1 H = some res) : V p l e ({ frames := 0, cells := 0, slots := 0, locals := 0 }) s m args below meth c A s.heap (QI below args s A D K4 ad nr res) D K4 ad nr 4 0 [(0, .ref (ad 0 0)), (1, .int a1)] [] H := by
  unfold f_X9_all at h
  refine V_iconst (v := 1) hC dX9_all_0 (by decide) ?_
  refine V_istore_n (lv' := [(2, .int 1), (0, .ref (ad 0 0)), (1, .int a1)]) hC dX9_all_1 (Nat.le_of_ble_eq_true rfl) rfl ?_
  refine V_iconst (v := 0) hC dX9_all_2 (by decide) ?_
  refine V_istore_n (lv' := [(3, .int 0), (2, .int 1), (0, .ref (ad 0 0)), (1, .int a1)]) hC dX9_all_3 (Nat.le_of_ble_eq_true rfl) rfl ?_
  refine V_lv (lv' := [(0, .ref (ad 0 0)), (1, .int a1), (2, .int 1), (3, .int 0)]) [2, 3, 1, 0] rfl ?_
  refine sL_X9_all_4 hC hret (fun z7 H8 h => ?_) _ 1 0 H h
  refine V_iload_n hC 0 dX9_all_39 rfl ?_
  obtain ⟨hz, h⟩ := gb_some h
  exact V_zret hC hret (nar01 (of_decide_eq_true hz)) dX9_all_40 h
theorem c_X9_all (l : Launch) {nr : Nat} {a1 : Int32} {H : Hp} {x : Int32} {H' : Hp} (h : f_X9_all a1 H = some (x, H')) : CI l nr yX9_all cX9_all 4 (some .boolean) 0 0 (fun ad => [.ref (ad 0 0), .int a1]) H x H' := by
  intro D K4 ad sz
  refine Met.ofV (by decide) (Nat.le_of_ble_eq_true rfl) ?_
  intro p e s m args below meth c hC hret hsz
  subst hsz
  exact s_X9_all hC hret h
theorem dX9_fails_0 : decode cX9_fails 0 = .ok (.aload_n 0, 1) := by decide +kernel
theorem dX9_fails_1 : decode cX9_fails 1 = .ok (.iload_n 1, 1) := by decide +kernel
theorem dX9_fails_2 : decode cX9_fails 2 = .ok (.putfield 153, 3) := by decide +kernel
theorem dX9_fails_5 : decode cX9_fails 5 = .ok (.lconst 0, 1) := by decide +kernel
theorem dX9_fails_6 : decode cX9_fails 6 = .ok (.lreturn, 1) := by decide +kernel
def f_X9_fails (a1 : Int32) (H : Hp) : Option (Int64 × Hp) := hl (sI H 0 0 34 a1) (fun (H1 : Hp) => some (0, H1))
set_option maxRecDepth 100000 in
set_option maxHeartbeats 4000000 in
theorem s_X9_fails {p : Program} {l : Launch} {e : Env} {s : State} {m : MethodId} {args : Array Value} {below : List Frame} {meth : Method} {c : Code} {A : Nat → Prop} {D : va_G} {K4 : kQ} {ad : Nat → Nat → Nat} {nr : Nat} {a1 : Int32} {H : Hp} {res : Int64 × Hp} (hC : Cx p s m args c A s.heap D K4 2 RX9 cX9_fails) (hret : meth.sig.returnType = (some .long) ∧ meth.locks = false) (h : f_X9_fails a1 H = some res) : V p l e ({ frames := 0, cells := 0, slots := 0, locals := 0 }) s m args below meth c A s.heap (QJ below args s A D K4 ad nr res) D K4 ad nr 2 0 [(0, .ref (ad 0 0)), (1, .int a1)] [] H := by
  unfold f_X9_fails at h
  refine V_aload_n hC 0 dX9_fails_0 rfl ?_
  refine V_iload_n hC 1 dX9_fails_1 rfl ?_
  refine V_putI (g := 0) (k := 0) hC 9 34 .int fw_X9_153 rfl rfl rfl rfl rfl dX9_fails_2 ?_
  refine V_hl h (fun H1 h => ?_)
  refine V_lconst (v := 0) hC dX9_fails_5 (by decide) ?_
  exact V_lret hC hret dX9_fails_6 h
theorem c_X9_fails (l : Launch) {nr : Nat} {a1 : Int32} {H : Hp} {x : Int64} {H' : Hp} (h : f_X9_fails a1 H = some (x, H')) : CJ l nr yX9_fails cX9_fails 2 (some .long) 0 0 (fun ad => [.ref (ad 0 0), .int a1]) H x H' := by
  intro D K4 ad sz
  refine Met.ofV (by decide) (Nat.le_of_ble_eq_true rfl) ?_
  intro p e s m args below meth c hC hret hsz
  subst hsz
  exact s_X9_fails hC hret h
end
