def lw_okq (q : MethodName × Nat) : Prop := (q.1.cls ≠ "java/lang/invoke/MethodHandle" ∧ q.1.cls ≠ "java/lang/invoke/VarHandle") ∧ Cond.instantiable q.1.cls q.2 ∈ tables_1 ∧ Cond.privateMethod q.1 ∈ tables_1 ∧ Cond.instanceMethod q.1 ∈ tables_1
theorem lw_p0 : lw_okq (⟨"CounterPlacer", "routineAt", "(I)LCounterPlacer$Routine;"⟩, 4) := ⟨⟨by decide +kernel, by decide +kernel⟩, List.mem_of_getElem? (i := 18) (by decide +kernel), List.mem_of_getElem? (i := 374) (by decide +kernel), List.mem_of_getElem? (i := 375) (by decide +kernel)⟩
theorem lw_p1 : lw_okq (⟨"CounterPlacer$Shape", "outsFitKinds", "()Z"⟩, 13) := ⟨⟨by decide +kernel, by decide +kernel⟩, List.mem_of_getElem? (i := 105) (by decide +kernel), List.mem_of_getElem? (i := 422) (by decide +kernel), List.mem_of_getElem? (i := 423) (by decide +kernel)⟩
theorem lw_p2 : lw_okq (⟨"CounterPlacer$Shape", "allReached", "()Z"⟩, 13) := ⟨⟨by decide +kernel, by decide +kernel⟩, List.mem_of_getElem? (i := 105) (by decide +kernel), List.mem_of_getElem? (i := 426) (by decide +kernel), List.mem_of_getElem? (i := 427) (by decide +kernel)⟩
theorem lw_p3 : lw_okq (⟨"CounterPlacer$Shape", "marksSpread", "([I[I)Z"⟩, 13) := ⟨⟨by decide +kernel, by decide +kernel⟩, List.mem_of_getElem? (i := 105) (by decide +kernel), List.mem_of_getElem? (i := 430) (by decide +kernel), List.mem_of_getElem? (i := 431) (by decide +kernel)⟩
theorem lw_p4 : lw_okq (⟨"CounterPlacer$Shape", "allCanEnd", "()Z"⟩, 13) := ⟨⟨by decide +kernel, by decide +kernel⟩, List.mem_of_getElem? (i := 105) (by decide +kernel), List.mem_of_getElem? (i := 434) (by decide +kernel), List.mem_of_getElem? (i := 435) (by decide +kernel)⟩
theorem lw_p5 : lw_okq (⟨"CounterPlacer$Ways", "countFromBlocks", "()Z"⟩, 11) := ⟨⟨by decide +kernel, by decide +kernel⟩, List.mem_of_getElem? (i := 180) (by decide +kernel), List.mem_of_getElem? (i := 442) (by decide +kernel), List.mem_of_getElem? (i := 443) (by decide +kernel)⟩
theorem lw_p6 : lw_okq (⟨"CounterPlacer$Ways", "countFrom", "(I)J"⟩, 11) := ⟨⟨by decide +kernel, by decide +kernel⟩, List.mem_of_getElem? (i := 180) (by decide +kernel), List.mem_of_getElem? (i := 446) (by decide +kernel), List.mem_of_getElem? (i := 447) (by decide +kernel)⟩
theorem lw_p7 : lw_okq (⟨"CounterPlacer$Ways", "countBeyond", "(I)J"⟩, 11) := ⟨⟨by decide +kernel, by decide +kernel⟩, List.mem_of_getElem? (i := 180) (by decide +kernel), List.mem_of_getElem? (i := 451) (by decide +kernel), List.mem_of_getElem? (i := 452) (by decide +kernel)⟩
theorem lw_p8 : lw_okq (⟨"CounterPlacer$Ways", "sumAdds", "()V"⟩, 11) := ⟨⟨by decide +kernel, by decide +kernel⟩, List.mem_of_getElem? (i := 180) (by decide +kernel), List.mem_of_getElem? (i := 455) (by decide +kernel), List.mem_of_getElem? (i := 456) (by decide +kernel)⟩
theorem lw_p9 : lw_okq (⟨"CounterPlacer$Ways", "setBases", "()V"⟩, 11) := ⟨⟨by decide +kernel, by decide +kernel⟩, List.mem_of_getElem? (i := 180) (by decide +kernel), List.mem_of_getElem? (i := 459) (by decide +kernel), List.mem_of_getElem? (i := 460) (by decide +kernel)⟩
theorem lw_p10 : lw_okq (⟨"CounterPlacer$Shape", "addLink", "(II)V"⟩, 13) := ⟨⟨by decide +kernel, by decide +kernel⟩, List.mem_of_getElem? (i := 105) (by decide +kernel), List.mem_of_getElem? (i := 469) (by decide +kernel), List.mem_of_getElem? (i := 470) (by decide +kernel)⟩
theorem lw_p11 : lw_okq (⟨"CounterPlacer$Tree", "sortByGuess", "()V"⟩, 12) := ⟨⟨by decide +kernel, by decide +kernel⟩, List.mem_of_getElem? (i := 228) (by decide +kernel), List.mem_of_getElem? (i := 481) (by decide +kernel), List.mem_of_getElem? (i := 482) (by decide +kernel)⟩
theorem lw_p12 : lw_okq (⟨"CounterPlacer$Tree", "takeLinks", "()V"⟩, 12) := ⟨⟨by decide +kernel, by decide +kernel⟩, List.mem_of_getElem? (i := 228) (by decide +kernel), List.mem_of_getElem? (i := 485) (by decide +kernel), List.mem_of_getElem? (i := 486) (by decide +kernel)⟩
theorem lw_p13 : lw_okq (⟨"CounterPlacer$Tree", "joinParts", "(I)Z"⟩, 12) := ⟨⟨by decide +kernel, by decide +kernel⟩, List.mem_of_getElem? (i := 228) (by decide +kernel), List.mem_of_getElem? (i := 489) (by decide +kernel), List.mem_of_getElem? (i := 490) (by decide +kernel)⟩
theorem lw_p14 : lw_okq (⟨"CounterPlacer$Tree", "lineUpFromEnd", "()V"⟩, 12) := ⟨⟨by decide +kernel, by decide +kernel⟩, List.mem_of_getElem? (i := 228) (by decide +kernel), List.mem_of_getElem? (i := 493) (by decide +kernel), List.mem_of_getElem? (i := 494) (by decide +kernel)⟩
theorem lw_p15 : lw_okq (⟨"CounterPlacer$Tree", "lineUp", "(II)V"⟩, 12) := ⟨⟨by decide +kernel, by decide +kernel⟩, List.mem_of_getElem? (i := 228) (by decide +kernel), List.mem_of_getElem? (i := 497) (by decide +kernel), List.mem_of_getElem? (i := 498) (by decide +kernel)⟩
def lw_privs_1 : List (MethodName × Nat) := [(⟨"CounterPlacer", "routineAt", "(I)LCounterPlacer$Routine;"⟩, 4), (⟨"CounterPlacer$Shape", "outsFitKinds", "()Z"⟩, 13), (⟨"CounterPlacer$Shape", "allReached", "()Z"⟩, 13), (⟨"CounterPlacer$Shape", "marksSpread", "([I[I)Z"⟩, 13), (⟨"CounterPlacer$Shape", "allCanEnd", "()Z"⟩, 13), (⟨"CounterPlacer$Ways", "countFromBlocks", "()Z"⟩, 11), (⟨"CounterPlacer$Ways", "countFrom", "(I)J"⟩, 11), (⟨"CounterPlacer$Ways", "countBeyond", "(I)J"⟩, 11), (⟨"CounterPlacer$Ways", "sumAdds", "()V"⟩, 11), (⟨"CounterPlacer$Ways", "setBases", "()V"⟩, 11), (⟨"CounterPlacer$Shape", "addLink", "(II)V"⟩, 13), (⟨"CounterPlacer$Tree", "sortByGuess", "()V"⟩, 12), (⟨"CounterPlacer$Tree", "takeLinks", "()V"⟩, 12), (⟨"CounterPlacer$Tree", "joinParts", "(I)Z"⟩, 12), (⟨"CounterPlacer$Tree", "lineUpFromEnd", "()V"⟩, 12), (⟨"CounterPlacer$Tree", "lineUp", "(II)V"⟩, 12)]
theorem lw_r1 : ∀ q ∈ lw_privs_1, lw_okq q := List.forall_mem_cons.mpr ⟨lw_p0, List.forall_mem_cons.mpr ⟨lw_p1, List.forall_mem_cons.mpr ⟨lw_p2, List.forall_mem_cons.mpr ⟨lw_p3, List.forall_mem_cons.mpr ⟨lw_p4, List.forall_mem_cons.mpr ⟨lw_p5, List.forall_mem_cons.mpr ⟨lw_p6, List.forall_mem_cons.mpr ⟨lw_p7, List.forall_mem_cons.mpr ⟨lw_p8, List.forall_mem_cons.mpr ⟨lw_p9, List.forall_mem_cons.mpr ⟨lw_p10, List.forall_mem_cons.mpr ⟨lw_p11, List.forall_mem_cons.mpr ⟨lw_p12, List.forall_mem_cons.mpr ⟨lw_p13, List.forall_mem_cons.mpr ⟨lw_p14, List.forall_mem_cons.mpr ⟨lw_p15, fun _ h => absurd h List.not_mem_nil⟩⟩⟩⟩⟩⟩⟩⟩⟩⟩⟩⟩⟩⟩⟩⟩
theorem lw_p16 : lw_okq (⟨"CounterPlacer$Tree", "otherEnd", "(II)I"⟩, 12) := ⟨⟨by decide +kernel, by decide +kernel⟩, List.mem_of_getElem? (i := 228) (by decide +kernel), List.mem_of_getElem? (i := 501) (by decide +kernel), List.mem_of_getElem? (i := 502) (by decide +kernel)⟩
theorem lw_p17 : lw_okq (⟨"CounterPlacer$Ways", "joinTrees", "(I)V"⟩, 11) := ⟨⟨by decide +kernel, by decide +kernel⟩, List.mem_of_getElem? (i := 180) (by decide +kernel), List.mem_of_getElem? (i := 509) (by decide +kernel), List.mem_of_getElem? (i := 510) (by decide +kernel)⟩
theorem lw_p18 : lw_okq (⟨"CounterPlacer", "finishedAt", "(I)LCounterPlacer$Routine;"⟩, 4) := ⟨⟨by decide +kernel, by decide +kernel⟩, List.mem_of_getElem? (i := 18) (by decide +kernel), List.mem_of_getElem? (i := 528) (by decide +kernel), List.mem_of_getElem? (i := 529) (by decide +kernel)⟩
theorem lw_p19 : lw_okq (⟨"CounterPlacer$Walk", "isOf", "(II)Z"⟩, 9) := ⟨⟨by decide +kernel, by decide +kernel⟩, List.mem_of_getElem? (i := 28) (by decide +kernel), List.mem_of_getElem? (i := 536) (by decide +kernel), List.mem_of_getElem? (i := 537) (by decide +kernel)⟩
theorem lw_p20 : lw_okq (⟨"CounterPlacer", "finishedWithEdge", "(II)LCounterPlacer$Routine;"⟩, 4) := ⟨⟨by decide +kernel, by decide +kernel⟩, List.mem_of_getElem? (i := 18) (by decide +kernel), List.mem_of_getElem? (i := 545) (by decide +kernel), List.mem_of_getElem? (i := 546) (by decide +kernel)⟩
theorem lw_p21 : lw_okq (⟨"CounterPlacer$Tree", "carry", "(IJ)V"⟩, 12) := ⟨⟨by decide +kernel, by decide +kernel⟩, List.mem_of_getElem? (i := 228) (by decide +kernel), List.mem_of_getElem? (i := 562) (by decide +kernel), List.mem_of_getElem? (i := 563) (by decide +kernel)⟩
theorem lw_p22 : lw_okq (⟨"CounterPlacer$Tree", "isBelow", "(II)Z"⟩, 12) := ⟨⟨by decide +kernel, by decide +kernel⟩, List.mem_of_getElem? (i := 228) (by decide +kernel), List.mem_of_getElem? (i := 579) (by decide +kernel), List.mem_of_getElem? (i := 580) (by decide +kernel)⟩
theorem lw_p23 : lw_okq (⟨"CounterPlacer$Walk", "dropFrames", "()V"⟩, 9) := ⟨⟨by decide +kernel, by decide +kernel⟩, List.mem_of_getElem? (i := 28) (by decide +kernel), List.mem_of_getElem? (i := 591) (by decide +kernel), List.mem_of_getElem? (i := 592) (by decide +kernel)⟩
theorem lw_p24 : lw_okq (⟨"CounterPlacer$Walk", "enter", "(LCounterPlacer$Routine;)V"⟩, 9) := ⟨⟨by decide +kernel, by decide +kernel⟩, List.mem_of_getElem? (i := 28) (by decide +kernel), List.mem_of_getElem? (i := 599) (by decide +kernel), List.mem_of_getElem? (i := 600) (by decide +kernel)⟩
theorem lw_p25 : lw_okq (⟨"CounterPlacer$Walk", "step", "([LCounterPlacer$Routine;)V"⟩, 9) := ⟨⟨by decide +kernel, by decide +kernel⟩, List.mem_of_getElem? (i := 28) (by decide +kernel), List.mem_of_getElem? (i := 615) (by decide +kernel), List.mem_of_getElem? (i := 616) (by decide +kernel)⟩
theorem lw_p26 : lw_okq (⟨"CounterPlacer$Walk", "topRoutine", "()LCounterPlacer$Routine;"⟩, 9) := ⟨⟨by decide +kernel, by decide +kernel⟩, List.mem_of_getElem? (i := 28) (by decide +kernel), List.mem_of_getElem? (i := 619) (by decide +kernel), List.mem_of_getElem? (i := 620) (by decide +kernel)⟩
theorem lw_p27 : lw_okq (⟨"CounterPlacer$Walk", "cross", "(LCounterPlacer$Routine;I)V"⟩, 9) := ⟨⟨by decide +kernel, by decide +kernel⟩, List.mem_of_getElem? (i := 28) (by decide +kernel), List.mem_of_getElem? (i := 627) (by decide +kernel), List.mem_of_getElem? (i := 628) (by decide +kernel)⟩
theorem lw_p28 : lw_okq (⟨"CounterPlacer$Walk", "choose", "(I)I"⟩, 9) := ⟨⟨by decide +kernel, by decide +kernel⟩, List.mem_of_getElem? (i := 28) (by decide +kernel), List.mem_of_getElem? (i := 639) (by decide +kernel), List.mem_of_getElem? (i := 640) (by decide +kernel)⟩
theorem lw_p29 : lw_okq (⟨"CounterPlacer$Walk", "enterCalled", "(I[LCounterPlacer$Routine;)V"⟩, 9) := ⟨⟨by decide +kernel, by decide +kernel⟩, List.mem_of_getElem? (i := 28) (by decide +kernel), List.mem_of_getElem? (i := 643) (by decide +kernel), List.mem_of_getElem? (i := 644) (by decide +kernel)⟩
theorem lw_p30 : lw_okq (⟨"CounterPlacer$Walk", "leave", "(LCounterPlacer$Routine;)V"⟩, 9) := ⟨⟨by decide +kernel, by decide +kernel⟩, List.mem_of_getElem? (i := 28) (by decide +kernel), List.mem_of_getElem? (i := 647) (by decide +kernel), List.mem_of_getElem? (i := 648) (by decide +kernel)⟩
theorem lw_p31 : lw_okq (⟨"CounterPlacer$Ways", "beginningOf", "(J)I"⟩, 11) := ⟨⟨by decide +kernel, by decide +kernel⟩, List.mem_of_getElem? (i := 180) (by decide +kernel), List.mem_of_getElem? (i := 667) (by decide +kernel), List.mem_of_getElem? (i := 668) (by decide +kernel)⟩
def lw_privs_2 : List (MethodName × Nat) := [(⟨"CounterPlacer$Tree", "otherEnd", "(II)I"⟩, 12), (⟨"CounterPlacer$Ways", "joinTrees", "(I)V"⟩, 11), (⟨"CounterPlacer", "finishedAt", "(I)LCounterPlacer$Routine;"⟩, 4), (⟨"CounterPlacer$Walk", "isOf", "(II)Z"⟩, 9), (⟨"CounterPlacer", "finishedWithEdge", "(II)LCounterPlacer$Routine;"⟩, 4), (⟨"CounterPlacer$Tree", "carry", "(IJ)V"⟩, 12), (⟨"CounterPlacer$Tree", "isBelow", "(II)Z"⟩, 12), (⟨"CounterPlacer$Walk", "dropFrames", "()V"⟩, 9), (⟨"CounterPlacer$Walk", "enter", "(LCounterPlacer$Routine;)V"⟩, 9), (⟨"CounterPlacer$Walk", "step", "([LCounterPlacer$Routine;)V"⟩, 9), (⟨"CounterPlacer$Walk", "topRoutine", "()LCounterPlacer$Routine;"⟩, 9), (⟨"CounterPlacer$Walk", "cross", "(LCounterPlacer$Routine;I)V"⟩, 9), (⟨"CounterPlacer$Walk", "choose", "(I)I"⟩, 9), (⟨"CounterPlacer$Walk", "enterCalled", "(I[LCounterPlacer$Routine;)V"⟩, 9), (⟨"CounterPlacer$Walk", "leave", "(LCounterPlacer$Routine;)V"⟩, 9), (⟨"CounterPlacer$Ways", "beginningOf", "(J)I"⟩, 11)]
theorem lw_r2 : ∀ q ∈ lw_privs_2, lw_okq q := List.forall_mem_cons.mpr ⟨lw_p16, List.forall_mem_cons.mpr ⟨lw_p17, List.forall_mem_cons.mpr ⟨lw_p18, List.forall_mem_cons.mpr ⟨lw_p19, List.forall_mem_cons.mpr ⟨lw_p20, List.forall_mem_cons.mpr ⟨lw_p21, List.forall_mem_cons.mpr ⟨lw_p22, List.forall_mem_cons.mpr ⟨lw_p23, List.forall_mem_cons.mpr ⟨lw_p24, List.forall_mem_cons.mpr ⟨lw_p25, List.forall_mem_cons.mpr ⟨lw_p26, List.forall_mem_cons.mpr ⟨lw_p27, List.forall_mem_cons.mpr ⟨lw_p28, List.forall_mem_cons.mpr ⟨lw_p29, List.forall_mem_cons.mpr ⟨lw_p30, List.forall_mem_cons.mpr ⟨lw_p31, fun _ h => absurd h List.not_mem_nil⟩⟩⟩⟩⟩⟩⟩⟩⟩⟩⟩⟩⟩⟩⟩⟩
theorem lw_p32 : lw_okq (⟨"CounterPlacer$Ways", "edgeFor", "(IJ)I"⟩, 11) := ⟨⟨by decide +kernel, by decide +kernel⟩, List.mem_of_getElem? (i := 180) (by decide +kernel), List.mem_of_getElem? (i := 671) (by decide +kernel), List.mem_of_getElem? (i := 672) (by decide +kernel)⟩
theorem lw_p33 : lw_okq (⟨"CounterPlacer$Mender", "takeCounts", "(LCounterPlacer$Shape;[I)V"⟩, 4) := ⟨⟨by decide +kernel, by decide +kernel⟩, List.mem_of_getElem? (i := 66) (by decide +kernel), List.mem_of_getElem? (i := 721) (by decide +kernel), List.mem_of_getElem? (i := 722) (by decide +kernel)⟩
theorem lw_p34 : lw_okq (⟨"CounterPlacer$Mender", "measure", "(LCounterPlacer$Shape;[I)V"⟩, 4) := ⟨⟨by decide +kernel, by decide +kernel⟩, List.mem_of_getElem? (i := 66) (by decide +kernel), List.mem_of_getElem? (i := 726) (by decide +kernel), List.mem_of_getElem? (i := 727) (by decide +kernel)⟩
theorem lw_p35 : lw_okq (⟨"CounterPlacer$Mender", "costOfMore", "(II)I"⟩, 4) := ⟨⟨by decide +kernel, by decide +kernel⟩, List.mem_of_getElem? (i := 66) (by decide +kernel), List.mem_of_getElem? (i := 731) (by decide +kernel), List.mem_of_getElem? (i := 732) (by decide +kernel)⟩
theorem lw_p36 : lw_okq (⟨"CounterPlacer$Mender", "comeNearer", "(IIII)Z"⟩, 4) := ⟨⟨by decide +kernel, by decide +kernel⟩, List.mem_of_getElem? (i := 66) (by decide +kernel), List.mem_of_getElem? (i := 735) (by decide +kernel), List.mem_of_getElem? (i := 736) (by decide +kernel)⟩
theorem lw_p37 : lw_okq (⟨"CounterPlacer$Mender", "costOfLess", "(II)I"⟩, 4) := ⟨⟨by decide +kernel, by decide +kernel⟩, List.mem_of_getElem? (i := 66) (by decide +kernel), List.mem_of_getElem? (i := 739) (by decide +kernel), List.mem_of_getElem? (i := 740) (by decide +kernel)⟩
theorem lw_p38 : lw_okq (⟨"CounterPlacer$Mender", "nearestLack", "(LCounterPlacer$Shape;)I"⟩, 4) := ⟨⟨by decide +kernel, by decide +kernel⟩, List.mem_of_getElem? (i := 66) (by decide +kernel), List.mem_of_getElem? (i := 743) (by decide +kernel), List.mem_of_getElem? (i := 744) (by decide +kernel)⟩
theorem lw_p39 : lw_okq (⟨"CounterPlacer$Mender", "carryTo", "(ILCounterPlacer$Shape;[I)V"⟩, 4) := ⟨⟨by decide +kernel, by decide +kernel⟩, List.mem_of_getElem? (i := 66) (by decide +kernel), List.mem_of_getElem? (i := 747) (by decide +kernel), List.mem_of_getElem? (i := 748) (by decide +kernel)⟩
theorem lw_p40 : lw_okq (⟨"CounterPlacer$Mender", "roomForMore", "(II)I"⟩, 4) := ⟨⟨by decide +kernel, by decide +kernel⟩, List.mem_of_getElem? (i := 66) (by decide +kernel), List.mem_of_getElem? (i := 751) (by decide +kernel), List.mem_of_getElem? (i := 752) (by decide +kernel)⟩
theorem lw_p41 : lw_okq (⟨"CounterPlacer$Mender", "roomForLess", "(II)I"⟩, 4) := ⟨⟨by decide +kernel, by decide +kernel⟩, List.mem_of_getElem? (i := 66) (by decide +kernel), List.mem_of_getElem? (i := 755) (by decide +kernel), List.mem_of_getElem? (i := 756) (by decide +kernel)⟩
theorem lw_p42 : lw_okq (⟨"java/lang/Throwable", "fillInStackTrace", "(I)Ljava/lang/Throwable;"⟩, 6) := ⟨⟨by decide +kernel, by decide +kernel⟩, List.mem_of_getElem? (i := 809) (by decide +kernel), List.mem_of_getElem? (i := 807) (by decide +kernel), List.mem_of_getElem? (i := 808) (by decide +kernel)⟩
theorem lw_p43 : lw_okq (⟨"CounterPlacerModel", "isRoutine", "(I)Z"⟩, 56) := ⟨⟨by decide +kernel, by decide +kernel⟩, List.mem_of_getElem? (i := 901) (by decide +kernel), List.mem_of_getElem? (i := 1088) (by decide +kernel), List.mem_of_getElem? (i := 1089) (by decide +kernel)⟩
theorem lw_p44 : lw_okq (⟨"CounterPlacerModel", "isBlock", "(II)Z"⟩, 56) := ⟨⟨by decide +kernel, by decide +kernel⟩, List.mem_of_getElem? (i := 901) (by decide +kernel), List.mem_of_getElem? (i := 1096) (by decide +kernel), List.mem_of_getElem? (i := 1097) (by decide +kernel)⟩
theorem lw_p45 : lw_okq (⟨"CounterPlacerModel", "outs", "(II)I"⟩, 56) := ⟨⟨by decide +kernel, by decide +kernel⟩, List.mem_of_getElem? (i := 901) (by decide +kernel), List.mem_of_getElem? (i := 1104) (by decide +kernel), List.mem_of_getElem? (i := 1105) (by decide +kernel)⟩
theorem lw_p46 : lw_okq (⟨"CounterPlacerModel", "isEdge", "(II)Z"⟩, 56) := ⟨⟨by decide +kernel, by decide +kernel⟩, List.mem_of_getElem? (i := 901) (by decide +kernel), List.mem_of_getElem? (i := 1112) (by decide +kernel), List.mem_of_getElem? (i := 1113) (by decide +kernel)⟩
theorem lw_p47 : lw_okq (⟨"CounterPlacerModel", "why", "(I)I"⟩, 56) := ⟨⟨by decide +kernel, by decide +kernel⟩, List.mem_of_getElem? (i := 901) (by decide +kernel), List.mem_of_getElem? (i := 1120) (by decide +kernel), List.mem_of_getElem? (i := 1121) (by decide +kernel)⟩
def lw_privs_3 : List (MethodName × Nat) := [(⟨"CounterPlacer$Ways", "edgeFor", "(IJ)I"⟩, 11), (⟨"CounterPlacer$Mender", "takeCounts", "(LCounterPlacer$Shape;[I)V"⟩, 4), (⟨"CounterPlacer$Mender", "measure", "(LCounterPlacer$Shape;[I)V"⟩, 4), (⟨"CounterPlacer$Mender", "costOfMore", "(II)I"⟩, 4), (⟨"CounterPlacer$Mender", "comeNearer", "(IIII)Z"⟩, 4), (⟨"CounterPlacer$Mender", "costOfLess", "(II)I"⟩, 4), (⟨"CounterPlacer$Mender", "nearestLack", "(LCounterPlacer$Shape;)I"⟩, 4), (⟨"CounterPlacer$Mender", "carryTo", "(ILCounterPlacer$Shape;[I)V"⟩, 4), (⟨"CounterPlacer$Mender", "roomForMore", "(II)I"⟩, 4), (⟨"CounterPlacer$Mender", "roomForLess", "(II)I"⟩, 4), (⟨"java/lang/Throwable", "fillInStackTrace", "(I)Ljava/lang/Throwable;"⟩, 6), (⟨"CounterPlacerModel", "isRoutine", "(I)Z"⟩, 56), (⟨"CounterPlacerModel", "isBlock", "(II)Z"⟩, 56), (⟨"CounterPlacerModel", "outs", "(II)I"⟩, 56), (⟨"CounterPlacerModel", "isEdge", "(II)Z"⟩, 56), (⟨"CounterPlacerModel", "why", "(I)I"⟩, 56)]
theorem lw_r3 : ∀ q ∈ lw_privs_3, lw_okq q := List.forall_mem_cons.mpr ⟨lw_p32, List.forall_mem_cons.mpr ⟨lw_p33, List.forall_mem_cons.mpr ⟨lw_p34, List.forall_mem_cons.mpr ⟨lw_p35, List.forall_mem_cons.mpr ⟨lw_p36, List.forall_mem_cons.mpr ⟨lw_p37, List.forall_mem_cons.mpr ⟨lw_p38, List.forall_mem_cons.mpr ⟨lw_p39, List.forall_mem_cons.mpr ⟨lw_p40, List.forall_mem_cons.mpr ⟨lw_p41, List.forall_mem_cons.mpr ⟨lw_p42, List.forall_mem_cons.mpr ⟨lw_p43, List.forall_mem_cons.mpr ⟨lw_p44, List.forall_mem_cons.mpr ⟨lw_p45, List.forall_mem_cons.mpr ⟨lw_p46, List.forall_mem_cons.mpr ⟨lw_p47, fun _ h => absurd h List.not_mem_nil⟩⟩⟩⟩⟩⟩⟩⟩⟩⟩⟩⟩⟩⟩⟩⟩
theorem lw_p48 : lw_okq (⟨"CounterPlacerModel", "reach", "(IZ)V"⟩, 56) := ⟨⟨by decide +kernel, by decide +kernel⟩, List.mem_of_getElem? (i := 901) (by decide +kernel), List.mem_of_getElem? (i := 1124) (by decide +kernel), List.mem_of_getElem? (i := 1125) (by decide +kernel)⟩
theorem lw_p49 : lw_okq (⟨"CounterPlacerModel", "all", "(I)Z"⟩, 56) := ⟨⟨by decide +kernel, by decide +kernel⟩, List.mem_of_getElem? (i := 901) (by decide +kernel), List.mem_of_getElem? (i := 1128) (by decide +kernel), List.mem_of_getElem? (i := 1129) (by decide +kernel)⟩
theorem lw_p50 : lw_okq (⟨"CounterPlacerModel", "count", "(I)Z"⟩, 56) := ⟨⟨by decide +kernel, by decide +kernel⟩, List.mem_of_getElem? (i := 901) (by decide +kernel), List.mem_of_getElem? (i := 1132) (by decide +kernel), List.mem_of_getElem? (i := 1133) (by decide +kernel)⟩
theorem lw_p51 : lw_okq (⟨"CounterPlacerModel", "makePlan", "(I)V"⟩, 56) := ⟨⟨by decide +kernel, by decide +kernel⟩, List.mem_of_getElem? (i := 901) (by decide +kernel), List.mem_of_getElem? (i := 1138) (by decide +kernel), List.mem_of_getElem? (i := 1139) (by decide +kernel)⟩
theorem lw_p52 : lw_okq (⟨"CounterPlacerModel", "join", "(II)V"⟩, 56) := ⟨⟨by decide +kernel, by decide +kernel⟩, List.mem_of_getElem? (i := 901) (by decide +kernel), List.mem_of_getElem? (i := 1142) (by decide +kernel), List.mem_of_getElem? (i := 1143) (by decide +kernel)⟩
theorem lw_p53 : lw_okq (⟨"CounterPlacerModel", "grow", "(IZ)V"⟩, 56) := ⟨⟨by decide +kernel, by decide +kernel⟩, List.mem_of_getElem? (i := 901) (by decide +kernel), List.mem_of_getElem? (i := 1146) (by decide +kernel), List.mem_of_getElem? (i := 1147) (by decide +kernel)⟩
theorem lw_p54 : lw_okq (⟨"CounterPlacerModel", "isDone", "(I)Z"⟩, 56) := ⟨⟨by decide +kernel, by decide +kernel⟩, List.mem_of_getElem? (i := 901) (by decide +kernel), List.mem_of_getElem? (i := 1154) (by decide +kernel), List.mem_of_getElem? (i := 1155) (by decide +kernel)⟩
theorem lw_p55 : lw_okq (⟨"CounterPlacerModel", "fails", "(I)J"⟩, 56) := ⟨⟨by decide +kernel, by decide +kernel⟩, List.mem_of_getElem? (i := 901) (by decide +kernel), List.mem_of_getElem? (i := 1162) (by decide +kernel), List.mem_of_getElem? (i := 1163) (by decide +kernel)⟩
theorem lw_p56 : lw_okq (⟨"CounterPlacerModel", "ins", "(II)I"⟩, 56) := ⟨⟨by decide +kernel, by decide +kernel⟩, List.mem_of_getElem? (i := 901) (by decide +kernel), List.mem_of_getElem? (i := 1170) (by decide +kernel), List.mem_of_getElem? (i := 1171) (by decide +kernel)⟩
theorem lw_p57 : lw_okq (⟨"CounterPlacerModel", "openOf", "(II)I"⟩, 56) := ⟨⟨by decide +kernel, by decide +kernel⟩, List.mem_of_getElem? (i := 901) (by decide +kernel), List.mem_of_getElem? (i := 1179) (by decide +kernel), List.mem_of_getElem? (i := 1180) (by decide +kernel)⟩
theorem lw_p58 : lw_okq (⟨"CounterPlacerModel", "lay", "(I)V"⟩, 56) := ⟨⟨by decide +kernel, by decide +kernel⟩, List.mem_of_getElem? (i := 901) (by decide +kernel), List.mem_of_getElem? (i := 1187) (by decide +kernel), List.mem_of_getElem? (i := 1188) (by decide +kernel)⟩
theorem lw_p59 : lw_okq (⟨"CounterPlacerModel", "arc", "(II)V"⟩, 56) := ⟨⟨by decide +kernel, by decide +kernel⟩, List.mem_of_getElem? (i := 901) (by decide +kernel), List.mem_of_getElem? (i := 1191) (by decide +kernel), List.mem_of_getElem? (i := 1192) (by decide +kernel)⟩
theorem lw_p60 : lw_okq (⟨"CounterPlacerModel", "allGo", "()V"⟩, 56) := ⟨⟨by decide +kernel, by decide +kernel⟩, List.mem_of_getElem? (i := 901) (by decide +kernel), List.mem_of_getElem? (i := 1203) (by decide +kernel), List.mem_of_getElem? (i := 1204) (by decide +kernel)⟩
theorem lw_p61 : lw_okq (⟨"CounterPlacerModel", "comes", "(I)V"⟩, 56) := ⟨⟨by decide +kernel, by decide +kernel⟩, List.mem_of_getElem? (i := 901) (by decide +kernel), List.mem_of_getElem? (i := 1207) (by decide +kernel), List.mem_of_getElem? (i := 1208) (by decide +kernel)⟩
theorem lw_p62 : lw_okq (⟨"CounterPlacerModel", "goes", "(I)V"⟩, 56) := ⟨⟨by decide +kernel, by decide +kernel⟩, List.mem_of_getElem? (i := 901) (by decide +kernel), List.mem_of_getElem? (i := 1215) (by decide +kernel), List.mem_of_getElem? (i := 1216) (by decide +kernel)⟩
theorem lw_p63 : lw_okq (⟨"CounterPlacerModel", "ends", "(IJ)V"⟩, 56) := ⟨⟨by decide +kernel, by decide +kernel⟩, List.mem_of_getElem? (i := 901) (by decide +kernel), List.mem_of_getElem? (i := 1219) (by decide +kernel), List.mem_of_getElem? (i := 1220) (by decide +kernel)⟩
def lw_privs_4 : List (MethodName × Nat) := [(⟨"CounterPlacerModel", "reach", "(IZ)V"⟩, 56), (⟨"CounterPlacerModel", "all", "(I)Z"⟩, 56), (⟨"CounterPlacerModel", "count", "(I)Z"⟩, 56), (⟨"CounterPlacerModel", "makePlan", "(I)V"⟩, 56), (⟨"CounterPlacerModel", "join", "(II)V"⟩, 56), (⟨"CounterPlacerModel", "grow", "(IZ)V"⟩, 56), (⟨"CounterPlacerModel", "isDone", "(I)Z"⟩, 56), (⟨"CounterPlacerModel", "fails", "(I)J"⟩, 56), (⟨"CounterPlacerModel", "ins", "(II)I"⟩, 56), (⟨"CounterPlacerModel", "openOf", "(II)I"⟩, 56), (⟨"CounterPlacerModel", "lay", "(I)V"⟩, 56), (⟨"CounterPlacerModel", "arc", "(II)V"⟩, 56), (⟨"CounterPlacerModel", "allGo", "()V"⟩, 56), (⟨"CounterPlacerModel", "comes", "(I)V"⟩, 56), (⟨"CounterPlacerModel", "goes", "(I)V"⟩, 56), (⟨"CounterPlacerModel", "ends", "(IJ)V"⟩, 56)]
theorem lw_r4 : ∀ q ∈ lw_privs_4, lw_okq q := List.forall_mem_cons.mpr ⟨lw_p48, List.forall_mem_cons.mpr ⟨lw_p49, List.forall_mem_cons.mpr ⟨lw_p50, List.forall_mem_cons.mpr ⟨lw_p51, List.forall_mem_cons.mpr ⟨lw_p52, List.forall_mem_cons.mpr ⟨lw_p53, List.forall_mem_cons.mpr ⟨lw_p54, List.forall_mem_cons.mpr ⟨lw_p55, List.forall_mem_cons.mpr ⟨lw_p56, List.forall_mem_cons.mpr ⟨lw_p57, List.forall_mem_cons.mpr ⟨lw_p58, List.forall_mem_cons.mpr ⟨lw_p59, List.forall_mem_cons.mpr ⟨lw_p60, List.forall_mem_cons.mpr ⟨lw_p61, List.forall_mem_cons.mpr ⟨lw_p62, List.forall_mem_cons.mpr ⟨lw_p63, fun _ h => absurd h List.not_mem_nil⟩⟩⟩⟩⟩⟩⟩⟩⟩⟩⟩⟩⟩⟩⟩⟩
theorem lw_p64 : lw_okq (⟨"CounterPlacerModel", "isWay", "(IJ)Z"⟩, 56) := ⟨⟨by decide +kernel, by decide +kernel⟩, List.mem_of_getElem? (i := 901) (by decide +kernel), List.mem_of_getElem? (i := 1231) (by decide +kernel), List.mem_of_getElem? (i := 1232) (by decide +kernel)⟩
theorem lw_p65 : lw_okq (⟨"CounterPlacerModel", "push", "(IIJI)V"⟩, 56) := ⟨⟨by decide +kernel, by decide +kernel⟩, List.mem_of_getElem? (i := 901) (by decide +kernel), List.mem_of_getElem? (i := 1256) (by decide +kernel), List.mem_of_getElem? (i := 1257) (by decide +kernel)⟩
def lw_privs_5 : List (MethodName × Nat) := [(⟨"CounterPlacerModel", "isWay", "(IJ)Z"⟩, 56), (⟨"CounterPlacerModel", "push", "(IIJI)V"⟩, 56)]
theorem lw_r5 : ∀ q ∈ lw_privs_5, lw_okq q := List.forall_mem_cons.mpr ⟨lw_p64, List.forall_mem_cons.mpr ⟨lw_p65, fun _ h => absurd h List.not_mem_nil⟩⟩
def lw_privs : List (MethodName × Nat) := lw_privs_1 ++ (lw_privs_2 ++ (lw_privs_3 ++ (lw_privs_4 ++ (lw_privs_5))))
def lw_tbl : List Cond := k2_sels lw_privs ++ tables_1
theorem lw_privs_ok : ∀ q ∈ lw_privs, lw_okq q := by
  show ∀ q ∈ lw_privs_1 ++ (lw_privs_2 ++ (lw_privs_3 ++ (lw_privs_4 ++ (lw_privs_5)))), lw_okq q
  exact List.forall_mem_append.mpr ⟨lw_r1, List.forall_mem_append.mpr ⟨lw_r2, List.forall_mem_append.mpr ⟨lw_r3, List.forall_mem_append.mpr ⟨lw_r4, lw_r5⟩⟩⟩⟩
def RX0 : String := "CounterPlacer$Log"
def TX0 : u_T := fun k => match k with
  | 0 => ("CounterPlacer$Log", "gone", "[J", true)
  | 1 => ("CounterPlacer$Log", "counted", "[J", true)
  | 2 => ("CounterPlacer$Log", "stopped", "[J", true)
  | 3 => ("CounterPlacer$Log", "entries", "J", false)
  | _ => ("CounterPlacer$Log", "stoppedInAll", "J", false)
def tyX0 : Nat → FieldType := fun k => match k with
  | 0 => .array .long
  | 1 => .array .long
  | 2 => .array .long
  | 3 => .long
  | _ => .long
abbrev wsX00 : List Cond := u_ws RX0 TX0 5
theorem nmX0 : ∀ a, a < 5 → ∀ b, b < 5 → a ≠ b → (TX0 a).2.1 ≠ (TX0 b).2.1 := by decide +kernel
theorem tyX0_ok : ∀ k, k < 5 → parseFieldDescriptor (TX0 k).2.2.1 = some (tyX0 k) := by decide +kernel
abbrev cX0_init : ByteArray := prog_2_method_1_code
def yX0_init : MethodName := ⟨RX0, "<init>", "()V"⟩
abbrev cX0_clear : ByteArray := prog_2_method_2_code
def yX0_clear : MethodName := ⟨RX0, "clear", "()V"⟩
def RX1 : String := "CounterPlacer$Mender"
def TX1 : u_T := fun k => match k with
  | 0 => ("CounterPlacer$Mender", "count", "[I", true)
  | 1 => ("CounterPlacer$Mender", "excess", "[I", true)
  | 2 => ("CounterPlacer$Mender", "far", "[I", true)
  | _ => ("CounterPlacer$Mender", "cameBy", "[I", true)
def tyX1 : Nat → FieldType := fun k => match k with
  | 0 => .array .int
  | 1 => .array .int
  | 2 => .array .int
  | _ => .array .int
abbrev wsX10 : List Cond := u_ws RX1 TX1 4
theorem nmX1 : ∀ a, a < 4 → ∀ b, b < 4 → a ≠ b → (TX1 a).2.1 ≠ (TX1 b).2.1 := by decide +kernel
theorem tyX1_ok : ∀ k, k < 4 → parseFieldDescriptor (TX1 k).2.2.1 = some (tyX1 k) := by decide +kernel
abbrev cX1_init : ByteArray := prog_3_method_1_code
def yX1_init : MethodName := ⟨RX1, "<init>", "()V"⟩
abbrev cX1_leastChange : ByteArray := prog_3_method_2_code
def yX1_leastChange : MethodName := ⟨RX1, "leastChange", "(LCounterPlacer$Shape;[I)J"⟩
abbrev cX1_takeCounts : ByteArray := prog_3_method_3_code
def yX1_takeCounts : MethodName := ⟨RX1, "takeCounts", "(LCounterPlacer$Shape;[I)V"⟩
abbrev cX1_measure : ByteArray := prog_3_method_4_code
def yX1_measure : MethodName := ⟨RX1, "measure", "(LCounterPlacer$Shape;[I)V"⟩
abbrev cX1_comeNearer : ByteArray := prog_3_method_5_code
def yX1_comeNearer : MethodName := ⟨RX1, "comeNearer", "(IIII)Z"⟩
abbrev cX1_costOfMore : ByteArray := prog_3_method_6_code
def yX1_costOfMore : MethodName := ⟨RX1, "costOfMore", "(II)I"⟩
abbrev cX1_costOfLess : ByteArray := prog_3_method_7_code
def yX1_costOfLess : MethodName := ⟨RX1, "costOfLess", "(II)I"⟩
abbrev cX1_nearestLack : ByteArray := prog_3_method_8_code
def yX1_nearestLack : MethodName := ⟨RX1, "nearestLack", "(LCounterPlacer$Shape;)I"⟩
abbrev cX1_carryTo : ByteArray := prog_3_method_9_code
def yX1_carryTo : MethodName := ⟨RX1, "carryTo", "(ILCounterPlacer$Shape;[I)V"⟩
abbrev cX1_roomForMore : ByteArray := prog_3_method_10_code
def yX1_roomForMore : MethodName := ⟨RX1, "roomForMore", "(II)I"⟩
abbrev cX1_roomForLess : ByteArray := prog_3_method_11_code
def yX1_roomForLess : MethodName := ⟨RX1, "roomForLess", "(II)I"⟩
def RX2 : String := "CounterPlacer$Routine"
def TX2 : u_T := fun k => match k with
  | 0 => ("CounterPlacer$Routine", "number", "I", true)
  | 1 => ("CounterPlacer$Routine", "shape", "LCounterPlacer$Shape;", true)
  | 2 => ("CounterPlacer$Routine", "ways", "LCounterPlacer$Ways;", true)
  | 3 => ("CounterPlacer$Routine", "tree", "LCounterPlacer$Tree;", true)
  | 4 => ("CounterPlacer$Routine", "log", "LCounterPlacer$Log;", true)
  | 5 => ("CounterPlacer$Routine", "table", "LCounterPlacer$Table;", true)
  | 6 => ("CounterPlacer$Routine", "blurred", "[I", true)
  | 7 => ("CounterPlacer$Routine", "lost", "[J", true)
  | _ => ("CounterPlacer$Routine", "finished", "Z", false)
def tyX2 : Nat → FieldType := fun k => match k with
  | 0 => .int
  | 1 => .object "CounterPlacer$Shape"
  | 2 => .object "CounterPlacer$Ways"
  | 3 => .object "CounterPlacer$Tree"
  | 4 => .object "CounterPlacer$Log"
  | 5 => .object "CounterPlacer$Table"
  | 6 => .array .int
  | 7 => .array .long
  | _ => .boolean
abbrev wsX20 : List Cond := u_ws RX2 TX2 9
theorem nmX2 : ∀ a, a < 9 → ∀ b, b < 9 → a ≠ b → (TX2 a).2.1 ≠ (TX2 b).2.1 := by decide +kernel
theorem tyX2_ok : ∀ k, k < 9 → parseFieldDescriptor (TX2 k).2.2.1 = some (tyX2 k) := by decide +kernel
abbrev cX2_init : ByteArray := prog_4_method_1_code
def yX2_init : MethodName := ⟨RX2, "<init>", "(ILCounterPlacer$Shape;LCounterPlacer$Ways;LCounterPlacer$Tree;)V"⟩
abbrev cX2_made : ByteArray := prog_4_method_2_code
def yX2_made : MethodName := ⟨RX2, "made", "(I)LCounterPlacer$Routine;"⟩
abbrev cX2_settle : ByteArray := prog_4_method_3_code
def yX2_settle : MethodName := ⟨RX2, "settle", "()I"⟩
abbrev cX2_planAnew : ByteArray := prog_4_method_4_code
def yX2_planAnew : MethodName := ⟨RX2, "planAnew", "()V"⟩
abbrev cX2_hasCounter : ByteArray := prog_4_method_5_code
def yX2_hasCounter : MethodName := ⟨RX2, "hasCounter", "(I)Z"⟩
abbrev cX2_ofItself : ByteArray := prog_4_method_6_code
def yX2_ofItself : MethodName := ⟨RX2, "ofItself", "(I)J"⟩
abbrev cX2_countOfEdge : ByteArray := prog_4_method_7_code
def yX2_countOfEdge : MethodName := ⟨RX2, "countOfEdge", "(II)J"⟩
abbrev cX2_countOfBlock : ByteArray := prog_4_method_8_code
def yX2_countOfBlock : MethodName := ⟨RX2, "countOfBlock", "(II)J"⟩
abbrev cX2_rebuiltCount : ByteArray := prog_4_method_9_code
def yX2_rebuiltCount : MethodName := ⟨RX2, "rebuiltCount", "(ILCounterPlacer$Walk;)J"⟩
abbrev cX2_toldCount : ByteArray := prog_4_method_10_code
def yX2_toldCount : MethodName := ⟨RX2, "toldCount", "(I)J"⟩
abbrev cX2_countEntry : ByteArray := prog_4_method_11_code
def yX2_countEntry : MethodName := ⟨RX2, "countEntry", "()V"⟩
abbrev cX2_countStopped : ByteArray := prog_4_method_12_code
def yX2_countStopped : MethodName := ⟨RX2, "countStopped", "(I)V"⟩
abbrev cX2_countGone : ByteArray := prog_4_method_13_code
def yX2_countGone : MethodName := ⟨RX2, "countGone", "(I)I"⟩
def RX3 : String := "CounterPlacer$Shape"
def TX3 : u_T := fun k => match k with
  | 0 => ("CounterPlacer$Shape", "kind", "[I", true)
  | 1 => ("CounterPlacer$Shape", "calls", "[I", true)
  | 2 => ("CounterPlacer$Shape", "outs", "[I", true)
  | 3 => ("CounterPlacer$Shape", "ins", "[I", true)
  | 4 => ("CounterPlacer$Shape", "out", "[I", true)
  | 5 => ("CounterPlacer$Shape", "from", "[I", true)
  | 6 => ("CounterPlacer$Shape", "to", "[I", true)
  | 7 => ("CounterPlacer$Shape", "guesses", "[I", true)
  | 8 => ("CounterPlacer$Shape", "back", "[Z", true)
  | 9 => ("CounterPlacer$Shape", "marked", "[Z", true)
  | 10 => ("CounterPlacer$Shape", "blocks", "I", false)
  | 11 => ("CounterPlacer$Shape", "edges", "I", false)
  | _ => ("CounterPlacer$Shape", "links", "I", false)
def tyX3 : Nat → FieldType := fun k => match k with
  | 0 => .array .int
  | 1 => .array .int
  | 2 => .array .int
  | 3 => .array .int
  | 4 => .array .int
  | 5 => .array .int
  | 6 => .array .int
  | 7 => .array .int
  | 8 => .array .boolean
  | 9 => .array .boolean
  | 10 => .int
  | 11 => .int
  | _ => .int
abbrev wsX30 : List Cond := u_ws RX3 TX3 13
theorem nmX3 : ∀ a, a < 13 → ∀ b, b < 13 → a ≠ b → (TX3 a).2.1 ≠ (TX3 b).2.1 := by decide +kernel
theorem tyX3_ok : ∀ k, k < 13 → parseFieldDescriptor (TX3 k).2.2.1 = some (tyX3 k) := by decide +kernel
abbrev cX3_init : ByteArray := prog_5_method_1_code
def yX3_init : MethodName := ⟨RX3, "<init>", "()V"⟩
abbrev cX3_hasBlock : ByteArray := prog_5_method_2_code
def yX3_hasBlock : MethodName := ⟨RX3, "hasBlock", "(I)Z"⟩
abbrev cX3_hasEdge : ByteArray := prog_5_method_3_code
def yX3_hasEdge : MethodName := ⟨RX3, "hasEdge", "(I)Z"⟩
abbrev cX3_endsIn : ByteArray := prog_5_method_4_code
def yX3_endsIn : MethodName := ⟨RX3, "endsIn", "(I)Z"⟩
abbrev cX3_addBlock : ByteArray := prog_5_method_5_code
def yX3_addBlock : MethodName := ⟨RX3, "addBlock", "(II)I"⟩
abbrev cX3_addEdge : ByteArray := prog_5_method_6_code
def yX3_addEdge : MethodName := ⟨RX3, "addEdge", "(IIIZ)I"⟩
abbrev cX3_outOf : ByteArray := prog_5_method_7_code
def yX3_outOf : MethodName := ⟨RX3, "outOf", "(II)I"⟩
abbrev cX3_firstFault : ByteArray := prog_5_method_8_code
def yX3_firstFault : MethodName := ⟨RX3, "firstFault", "()I"⟩
abbrev cX3_outsFitKinds : ByteArray := prog_5_method_9_code
def yX3_outsFitKinds : MethodName := ⟨RX3, "outsFitKinds", "()Z"⟩
abbrev cX3_allReached : ByteArray := prog_5_method_10_code
def yX3_allReached : MethodName := ⟨RX3, "allReached", "()Z"⟩
abbrev cX3_allCanEnd : ByteArray := prog_5_method_11_code
def yX3_allCanEnd : MethodName := ⟨RX3, "allCanEnd", "()Z"⟩
abbrev cX3_marksSpread : ByteArray := prog_5_method_12_code
def yX3_marksSpread : MethodName := ⟨RX3, "marksSpread", "([I[I)Z"⟩
abbrev cX3_linkEnd : ByteArray := prog_5_method_13_code
def yX3_linkEnd : MethodName := ⟨RX3, "linkEnd", "()V"⟩
abbrev cX3_addLink : ByteArray := prog_5_method_14_code
def yX3_addLink : MethodName := ⟨RX3, "addLink", "(II)V"⟩
abbrev cX3_standOf : ByteArray := prog_5_method_15_code
def yX3_standOf : MethodName := ⟨RX3, "standOf", "(I)I"⟩
abbrev cX3_shapeOfEdge : ByteArray := prog_5_method_16_code
def yX3_shapeOfEdge : MethodName := ⟨RX3, "shapeOfEdge", "(II)J"⟩
abbrev cX3_shapeOfBlock : ByteArray := prog_5_method_17_code
def yX3_shapeOfBlock : MethodName := ⟨RX3, "shapeOfBlock", "(II)J"⟩
def RX4 : String := "CounterPlacer$Table"
def TX4 : u_T := fun k => match k with
  | 0 => ("CounterPlacer$Table", "way", "[J", true)
  | 1 => ("CounterPlacer$Table", "times", "[J", true)
  | 2 => ("CounterPlacer$Table", "rows", "I", false)
  | _ => ("CounterPlacer$Table", "fellOut", "J", false)
def tyX4 : Nat → FieldType := fun k => match k with
  | 0 => .array .long
  | 1 => .array .long
  | 2 => .int
  | _ => .long
abbrev wsX40 : List Cond := u_ws RX4 TX4 4
theorem nmX4 : ∀ a, a < 4 → ∀ b, b < 4 → a ≠ b → (TX4 a).2.1 ≠ (TX4 b).2.1 := by decide +kernel
theorem tyX4_ok : ∀ k, k < 4 → parseFieldDescriptor (TX4 k).2.2.1 = some (tyX4 k) := by decide +kernel
abbrev cX4_init : ByteArray := prog_6_method_1_code
def yX4_init : MethodName := ⟨RX4, "<init>", "()V"⟩
abbrev cX4_clear : ByteArray := prog_6_method_2_code
def yX4_clear : MethodName := ⟨RX4, "clear", "()V"⟩
abbrev cX4_count : ByteArray := prog_6_method_3_code
def yX4_count : MethodName := ⟨RX4, "count", "(J)V"⟩
abbrev cX4_inRow : ByteArray := prog_6_method_4_code
def yX4_inRow : MethodName := ⟨RX4, "inRow", "(II)J"⟩
def RX5 : String := "CounterPlacer$Tree"
def TX5 : u_T := fun k => match k with
  | 0 => ("CounterPlacer$Tree", "shape", "LCounterPlacer$Shape;", true)
  | 1 => ("CounterPlacer$Tree", "order", "[I", true)
  | 2 => ("CounterPlacer$Tree", "within", "[Z", true)
  | 3 => ("CounterPlacer$Tree", "part", "[I", true)
  | 4 => ("CounterPlacer$Tree", "up", "[I", true)
  | 5 => ("CounterPlacer$Tree", "line", "[I", true)
  | 6 => ("CounterPlacer$Tree", "lined", "[Z", true)
  | 7 => ("CounterPlacer$Tree", "surplus", "[J", true)
  | 8 => ("CounterPlacer$Tree", "rebuilt", "[J", true)
  | 9 => ("CounterPlacer$Tree", "lineLength", "I", false)
  | 10 => ("CounterPlacer$Tree", "counters", "I", false)
  | _ => ("CounterPlacer$Tree", "guessed", "J", false)
def tyX5 : Nat → FieldType := fun k => match k with
  | 0 => .object "CounterPlacer$Shape"
  | 1 => .array .int
  | 2 => .array .boolean
  | 3 => .array .int
  | 4 => .array .int
  | 5 => .array .int
  | 6 => .array .boolean
  | 7 => .array .long
  | 8 => .array .long
  | 9 => .int
  | 10 => .int
  | _ => .long
abbrev wsX50 : List Cond := u_ws RX5 TX5 12
theorem nmX5 : ∀ a, a < 12 → ∀ b, b < 12 → a ≠ b → (TX5 a).2.1 ≠ (TX5 b).2.1 := by decide +kernel
theorem tyX5_ok : ∀ k, k < 12 → parseFieldDescriptor (TX5 k).2.2.1 = some (tyX5 k) := by decide +kernel
abbrev cX5_init : ByteArray := prog_7_method_1_code
def yX5_init : MethodName := ⟨RX5, "<init>", "(LCounterPlacer$Shape;)V"⟩
abbrev cX5_grow : ByteArray := prog_7_method_2_code
def yX5_grow : MethodName := ⟨RX5, "grow", "()V"⟩
abbrev cX5_sortByGuess : ByteArray := prog_7_method_3_code
def yX5_sortByGuess : MethodName := ⟨RX5, "sortByGuess", "()V"⟩
abbrev cX5_takeLinks : ByteArray := prog_7_method_4_code
def yX5_takeLinks : MethodName := ⟨RX5, "takeLinks", "()V"⟩
abbrev cX5_joinParts : ByteArray := prog_7_method_5_code
def yX5_joinParts : MethodName := ⟨RX5, "joinParts", "(I)Z"⟩
abbrev cX5_lineUpFromEnd : ByteArray := prog_7_method_6_code
def yX5_lineUpFromEnd : MethodName := ⟨RX5, "lineUpFromEnd", "()V"⟩
abbrev cX5_lineUp : ByteArray := prog_7_method_7_code
def yX5_lineUp : MethodName := ⟨RX5, "lineUp", "(II)V"⟩
abbrev cX5_otherEnd : ByteArray := prog_7_method_8_code
def yX5_otherEnd : MethodName := ⟨RX5, "otherEnd", "(II)I"⟩
abbrev cX5_placeInRing : ByteArray := prog_7_method_9_code
def yX5_placeInRing : MethodName := ⟨RX5, "placeInRing", "(II)I"⟩
abbrev cX5_isBelow : ByteArray := prog_7_method_10_code
def yX5_isBelow : MethodName := ⟨RX5, "isBelow", "(II)Z"⟩
abbrev cX5_rebuild : ByteArray := prog_7_method_11_code
def yX5_rebuild : MethodName := ⟨RX5, "rebuild", "([J[J)V"⟩
abbrev cX5_carry : ByteArray := prog_7_method_12_code
def yX5_carry : MethodName := ⟨RX5, "carry", "(IJ)V"⟩
def RX6 : String := "CounterPlacer$Walk"
def TX6 : u_T := fun k => match k with
  | 0 => ("CounterPlacer$Walk", "routineOf", "[LCounterPlacer$Routine;", true)
  | 1 => ("CounterPlacer$Walk", "blockOf", "[I", true)
  | 2 => ("CounterPlacer$Walk", "sumOf", "[J", true)
  | 3 => ("CounterPlacer$Walk", "frames", "I", false)
  | 4 => ("CounterPlacer$Walk", "state", "I", false)
  | 5 => ("CounterPlacer$Walk", "steps", "I", false)
  | 6 => ("CounterPlacer$Walk", "price", "I", false)
  | 7 => ("CounterPlacer$Walk", "forks", "I", false)
  | _ => ("CounterPlacer$Walk", "choices", "I", false)
def tyX6 : Nat → FieldType := fun k => match k with
  | 0 => .array (.object "CounterPlacer$Routine")
  | 1 => .array .int
  | 2 => .array .long
  | 3 => .int
  | 4 => .int
  | 5 => .int
  | 6 => .int
  | 7 => .int
  | _ => .int
abbrev wsX60 : List Cond := u_ws RX6 TX6 9
theorem nmX6 : ∀ a, a < 9 → ∀ b, b < 9 → a ≠ b → (TX6 a).2.1 ≠ (TX6 b).2.1 := by decide +kernel
theorem tyX6_ok : ∀ k, k < 9 → parseFieldDescriptor (TX6 k).2.2.1 = some (tyX6 k) := by decide +kernel
abbrev cX6_init : ByteArray := prog_8_method_1_code
def yX6_init : MethodName := ⟨RX6, "<init>", "()V"⟩
abbrev cX6_startIn : ByteArray := prog_8_method_2_code
def yX6_startIn : MethodName := ⟨RX6, "startIn", "(LCounterPlacer$Routine;)V"⟩
abbrev cX6_stepOn : ByteArray := prog_8_method_3_code
def yX6_stepOn : MethodName := ⟨RX6, "stepOn", "(II[LCounterPlacer$Routine;)I"⟩
abbrev cX6_step : ByteArray := prog_8_method_4_code
def yX6_step : MethodName := ⟨RX6, "step", "([LCounterPlacer$Routine;)V"⟩
abbrev cX6_choose : ByteArray := prog_8_method_5_code
def yX6_choose : MethodName := ⟨RX6, "choose", "(I)I"⟩
abbrev cX6_enterCalled : ByteArray := prog_8_method_6_code
def yX6_enterCalled : MethodName := ⟨RX6, "enterCalled", "(I[LCounterPlacer$Routine;)V"⟩
abbrev cX6_enter : ByteArray := prog_8_method_7_code
def yX6_enter : MethodName := ⟨RX6, "enter", "(LCounterPlacer$Routine;)V"⟩
abbrev cX6_leave : ByteArray := prog_8_method_8_code
def yX6_leave : MethodName := ⟨RX6, "leave", "(LCounterPlacer$Routine;)V"⟩
abbrev cX6_cross : ByteArray := prog_8_method_9_code
def yX6_cross : MethodName := ⟨RX6, "cross", "(LCounterPlacer$Routine;I)V"⟩
abbrev cX6_dropFrames : ByteArray := prog_8_method_10_code
def yX6_dropFrames : MethodName := ⟨RX6, "dropFrames", "()V"⟩
abbrev cX6_topRoutine : ByteArray := prog_8_method_11_code
def yX6_topRoutine : MethodName := ⟨RX6, "topRoutine", "()LCounterPlacer$Routine;"⟩
abbrev cX6_hasFrameOf : ByteArray := prog_8_method_12_code
def yX6_hasFrameOf : MethodName := ⟨RX6, "hasFrameOf", "(I)Z"⟩
abbrev cX6_openAt : ByteArray := prog_8_method_13_code
def yX6_openAt : MethodName := ⟨RX6, "openAt", "(II)I"⟩
abbrev cX6_isOf : ByteArray := prog_8_method_14_code
def yX6_isOf : MethodName := ⟨RX6, "isOf", "(II)Z"⟩
abbrev cX6_ofRun : ByteArray := prog_8_method_15_code
def yX6_ofRun : MethodName := ⟨RX6, "ofRun", "(I)I"⟩
def RX7 : String := "CounterPlacer$Ways"
def TX7 : u_T := fun k => match k with
  | 0 => ("CounterPlacer$Ways", "shape", "LCounterPlacer$Shape;", true)
  | 1 => ("CounterPlacer$Ways", "from", "[J", true)
  | 2 => ("CounterPlacer$Ways", "base", "[J", true)
  | 3 => ("CounterPlacer$Ways", "potential", "[J", true)
  | 4 => ("CounterPlacer$Ways", "add", "[J", true)
  | 5 => ("CounterPlacer$Ways", "light", "[J", true)
  | 6 => ("CounterPlacer$Ways", "least", "[I", true)
  | 7 => ("CounterPlacer$Ways", "passedBlocks", "[I", true)
  | 8 => ("CounterPlacer$Ways", "passedEdges", "[I", true)
  | 9 => ("CounterPlacer$Ways", "passed", "I", false)
  | _ => ("CounterPlacer$Ways", "total", "J", false)
def tyX7 : Nat → FieldType := fun k => match k with
  | 0 => .object "CounterPlacer$Shape"
  | 1 => .array .long
  | 2 => .array .long
  | 3 => .array .long
  | 4 => .array .long
  | 5 => .array .long
  | 6 => .array .int
  | 7 => .array .int
  | 8 => .array .int
  | 9 => .int
  | _ => .long
abbrev wsX70 : List Cond := u_ws RX7 TX7 11
theorem nmX7 : ∀ a, a < 11 → ∀ b, b < 11 → a ≠ b → (TX7 a).2.1 ≠ (TX7 b).2.1 := by decide +kernel
theorem tyX7_ok : ∀ k, k < 11 → parseFieldDescriptor (TX7 k).2.2.1 = some (tyX7 k) := by decide +kernel
abbrev cX7_init : ByteArray := prog_9_method_1_code
def yX7_init : MethodName := ⟨RX7, "<init>", "(LCounterPlacer$Shape;)V"⟩
abbrev cX7_firstFault : ByteArray := prog_9_method_2_code
def yX7_firstFault : MethodName := ⟨RX7, "firstFault", "()I"⟩
abbrev cX7_countFromBlocks : ByteArray := prog_9_method_3_code
def yX7_countFromBlocks : MethodName := ⟨RX7, "countFromBlocks", "()Z"⟩
abbrev cX7_countFrom : ByteArray := prog_9_method_4_code
def yX7_countFrom : MethodName := ⟨RX7, "countFrom", "(I)J"⟩
abbrev cX7_countBeyond : ByteArray := prog_9_method_5_code
def yX7_countBeyond : MethodName := ⟨RX7, "countBeyond", "(I)J"⟩
abbrev cX7_sumAdds : ByteArray := prog_9_method_6_code
def yX7_sumAdds : MethodName := ⟨RX7, "sumAdds", "()V"⟩
abbrev cX7_setBases : ByteArray := prog_9_method_7_code
def yX7_setBases : MethodName := ⟨RX7, "setBases", "()V"⟩
abbrev cX7_lighten : ByteArray := prog_9_method_8_code
def yX7_lighten : MethodName := ⟨RX7, "lighten", "([I)V"⟩
abbrev cX7_joinTrees : ByteArray := prog_9_method_9_code
def yX7_joinTrees : MethodName := ⟨RX7, "joinTrees", "(I)V"⟩
abbrev cX7_unfold : ByteArray := prog_9_method_10_code
def yX7_unfold : MethodName := ⟨RX7, "unfold", "(J)Z"⟩
abbrev cX7_beginningOf : ByteArray := prog_9_method_11_code
def yX7_beginningOf : MethodName := ⟨RX7, "beginningOf", "(J)I"⟩
abbrev cX7_edgeFor : ByteArray := prog_9_method_12_code
def yX7_edgeFor : MethodName := ⟨RX7, "edgeFor", "(IJ)I"⟩
abbrev cX7_unfoldedBlock : ByteArray := prog_9_method_13_code
def yX7_unfoldedBlock : MethodName := ⟨RX7, "unfoldedBlock", "(I)I"⟩
abbrev cX7_unfoldedEdge : ByteArray := prog_9_method_14_code
def yX7_unfoldedEdge : MethodName := ⟨RX7, "unfoldedEdge", "(I)I"⟩
abbrev cX7_unfoldedHas : ByteArray := prog_9_method_15_code
def yX7_unfoldedHas : MethodName := ⟨RX7, "unfoldedHas", "(I)Z"⟩
def RX8 : String := "CounterPlacer"
def TX8 : u_T := fun k => match k with
  | 0 => ("CounterPlacer", "routines", "[LCounterPlacer$Routine;", true)
  | 1 => ("CounterPlacer", "walk", "LCounterPlacer$Walk;", true)
  | 2 => ("CounterPlacer", "mender", "LCounterPlacer$Mender;", true)
  | _ => ("CounterPlacer", "routineCount", "I", false)
def tyX8 : Nat → FieldType := fun k => match k with
  | 0 => .array (.object "CounterPlacer$Routine")
  | 1 => .object "CounterPlacer$Walk"
  | 2 => .object "CounterPlacer$Mender"
  | _ => .int
abbrev wsX80 : List Cond := u_ws RX8 TX8 4
theorem nmX8 : ∀ a, a < 4 → ∀ b, b < 4 → a ≠ b → (TX8 a).2.1 ≠ (TX8 b).2.1 := by decide +kernel
theorem tyX8_ok : ∀ k, k < 4 → parseFieldDescriptor (TX8 k).2.2.1 = some (tyX8 k) := by decide +kernel
abbrev cX8_init : ByteArray := prog_1_method_1_code
def yX8_init : MethodName := ⟨RX8, "<init>", "()V"⟩
abbrev cX8_routine : ByteArray := prog_1_method_2_code
def yX8_routine : MethodName := ⟨RX8, "routine", "()I"⟩
abbrev cX8_block : ByteArray := prog_1_method_3_code
def yX8_block : MethodName := ⟨RX8, "block", "(III)I"⟩
abbrev cX8_edge : ByteArray := prog_1_method_4_code
def yX8_edge : MethodName := ⟨RX8, "edge", "(IIIIZ)I"⟩
abbrev cX8_guess : ByteArray := prog_1_method_5_code
def yX8_guess : MethodName := ⟨RX8, "guess", "(III)Z"⟩
abbrev cX8_finish : ByteArray := prog_1_method_6_code
def yX8_finish : MethodName := ⟨RX8, "finish", "(I)I"⟩
abbrev cX8_plan : ByteArray := prog_1_method_7_code
def yX8_plan : MethodName := ⟨RX8, "plan", "(I)I"⟩
abbrev cX8_look : ByteArray := prog_1_method_8_code
def yX8_look : MethodName := ⟨RX8, "look", "(II)J"⟩
abbrev cX8_ofEdge : ByteArray := prog_1_method_9_code
def yX8_ofEdge : MethodName := ⟨RX8, "ofEdge", "(III)J"⟩
abbrev cX8_ofBlock : ByteArray := prog_1_method_10_code
def yX8_ofBlock : MethodName := ⟨RX8, "ofBlock", "(III)J"⟩
abbrev cX8_solve : ByteArray := prog_1_method_11_code
def yX8_solve : MethodName := ⟨RX8, "solve", "(II)J"⟩
abbrev cX8_ring : ByteArray := prog_1_method_12_code
def yX8_ring : MethodName := ⟨RX8, "ring", "(III)I"⟩
abbrev cX8_begin : ByteArray := prog_1_method_13_code
def yX8_begin : MethodName := ⟨RX8, "begin", "(I)Z"⟩
abbrev cX8_go : ByteArray := prog_1_method_14_code
def yX8_go : MethodName := ⟨RX8, "go", "(II)I"⟩
abbrev cX8_run : ByteArray := prog_1_method_15_code
def yX8_run : MethodName := ⟨RX8, "run", "(I)I"⟩
abbrev cX8_way : ByteArray := prog_1_method_16_code
def yX8_way : MethodName := ⟨RX8, "way", "(IJI)I"⟩
abbrev cX8_along : ByteArray := prog_1_method_17_code
def yX8_along : MethodName := ⟨RX8, "along", "(IJI)I"⟩
abbrev cX8_table : ByteArray := prog_1_method_18_code
def yX8_table : MethodName := ⟨RX8, "table", "(III)J"⟩
abbrev cX8_told : ByteArray := prog_1_method_19_code
def yX8_told : MethodName := ⟨RX8, "told", "(II)J"⟩
abbrev cX8_blur : ByteArray := prog_1_method_20_code
def yX8_blur : MethodName := ⟨RX8, "blur", "(III)Z"⟩
abbrev cX8_mend : ByteArray := prog_1_method_21_code
def yX8_mend : MethodName := ⟨RX8, "mend", "(I)J"⟩
abbrev cX8_isCount : ByteArray := prog_1_method_22_code
def yX8_isCount : MethodName := ⟨RX8, "isCount", "(I)Z"⟩
abbrev cX8_routineAt : ByteArray := prog_1_method_23_code
def yX8_routineAt : MethodName := ⟨RX8, "routineAt", "(I)LCounterPlacer$Routine;"⟩
abbrev cX8_finishedAt : ByteArray := prog_1_method_24_code
def yX8_finishedAt : MethodName := ⟨RX8, "finishedAt", "(I)LCounterPlacer$Routine;"⟩
abbrev cX8_finishedWithEdge : ByteArray := prog_1_method_25_code
def yX8_finishedWithEdge : MethodName := ⟨RX8, "finishedWithEdge", "(II)LCounterPlacer$Routine;"⟩
def RX9 : String := "CounterPlacerModel"
def TX9 : u_T := fun k => match k with
  | 0 => ("CounterPlacerModel", "routines", "I", false)
  | 1 => ("CounterPlacerModel", "blocks", "[I", true)
  | 2 => ("CounterPlacerModel", "edges", "[I", true)
  | 3 => ("CounterPlacerModel", "finished", "[Z", true)
  | 4 => ("CounterPlacerModel", "kind", "[I", true)
  | 5 => ("CounterPlacerModel", "calls", "[I", true)
  | 6 => ("CounterPlacerModel", "from", "[I", true)
  | 7 => ("CounterPlacerModel", "to", "[I", true)
  | 8 => ("CounterPlacerModel", "guesses", "[I", true)
  | 9 => ("CounterPlacerModel", "back", "[Z", true)
  | 10 => ("CounterPlacerModel", "blurred", "[I", true)
  | 11 => ("CounterPlacerModel", "counted", "[Z", true)
  | 12 => ("CounterPlacerModel", "planSum", "[J", true)
  | 13 => ("CounterPlacerModel", "planMany", "[I", true)
  | 14 => ("CounterPlacerModel", "ways", "[J", true)
  | 15 => ("CounterPlacerModel", "n", "[J", true)
  | 16 => ("CounterPlacerModel", "base", "[J", true)
  | 17 => ("CounterPlacerModel", "add", "[J", true)
  | 18 => ("CounterPlacerModel", "p", "[J", true)
  | 19 => ("CounterPlacerModel", "entries", "[J", true)
  | 20 => ("CounterPlacerModel", "fell", "[J", true)
  | 21 => ("CounterPlacerModel", "stopped", "[J", true)
  | 22 => ("CounterPlacerModel", "truth", "[J", true)
  | 23 => ("CounterPlacerModel", "counter", "[J", true)
  | 24 => ("CounterPlacerModel", "rows", "[I", true)
  | 25 => ("CounterPlacerModel", "rowWay", "[J", true)
  | 26 => ("CounterPlacerModel", "rowMany", "[J", true)
  | 27 => ("CounterPlacerModel", "state", "I", false)
  | 28 => ("CounterPlacerModel", "frames", "I", false)
  | 29 => ("CounterPlacerModel", "steps", "I", false)
  | 30 => ("CounterPlacerModel", "price", "I", false)
  | 31 => ("CounterPlacerModel", "fRoutine", "[I", true)
  | 32 => ("CounterPlacerModel", "fBlock", "[I", true)
  | 33 => ("CounterPlacerModel", "fWay", "[J", true)
  | 34 => ("CounterPlacerModel", "thrown", "I", false)
  | 35 => ("CounterPlacerModel", "seen", "[Z", true)
  | 36 => ("CounterPlacerModel", "set", "[I", true)
  | 37 => ("CounterPlacerModel", "inTree", "[Z", true)
  | 38 => ("CounterPlacerModel", "isTried", "[Z", true)
  | 39 => ("CounterPlacerModel", "arcFrom", "[I", true)
  | 40 => ("CounterPlacerModel", "arcTo", "[I", true)
  | 41 => ("CounterPlacerModel", "arcCount", "[J", true)
  | 42 => ("CounterPlacerModel", "known", "[Z", true)
  | 43 => ("CounterPlacerModel", "arcs", "I", false)
  | 44 => ("CounterPlacerModel", "cameBy", "[I", true)
  | 45 => ("CounterPlacerModel", "wayBlock", "[I", true)
  | 46 => ("CounterPlacerModel", "wayEdge", "[I", true)
  | 47 => ("CounterPlacerModel", "wayMany", "I", false)
  | 48 => ("CounterPlacerModel", "pFrom", "[I", true)
  | 49 => ("CounterPlacerModel", "pTo", "[I", true)
  | 50 => ("CounterPlacerModel", "pRoom", "[J", true)
  | 51 => ("CounterPlacerModel", "pCost", "[I", true)
  | 52 => ("CounterPlacerModel", "pushes", "I", false)
  | 53 => ("CounterPlacerModel", "over", "[J", true)
  | 54 => ("CounterPlacerModel", "far", "[I", true)
  | _ => ("CounterPlacerModel", "by", "[I", true)
def tyX9 : Nat → FieldType := fun k => match k with
  | 0 => .int
  | 1 => .array .int
  | 2 => .array .int
  | 3 => .array .boolean
  | 4 => .array .int
  | 5 => .array .int
  | 6 => .array .int
  | 7 => .array .int
  | 8 => .array .int
  | 9 => .array .boolean
  | 10 => .array .int
  | 11 => .array .boolean
  | 12 => .array .long
  | 13 => .array .int
  | 14 => .array .long
  | 15 => .array .long
  | 16 => .array .long
  | 17 => .array .long
  | 18 => .array .long
  | 19 => .array .long
  | 20 => .array .long
  | 21 => .array .long
  | 22 => .array .long
  | 23 => .array .long
  | 24 => .array .int
  | 25 => .array .long
  | 26 => .array .long
  | 27 => .int
  | 28 => .int
  | 29 => .int
  | 30 => .int
  | 31 => .array .int
  | 32 => .array .int
  | 33 => .array .long
  | 34 => .int
  | 35 => .array .boolean
  | 36 => .array .int
  | 37 => .array .boolean
  | 38 => .array .boolean
  | 39 => .array .int
  | 40 => .array .int
  | 41 => .array .long
  | 42 => .array .boolean
  | 43 => .int
  | 44 => .array .int
  | 45 => .array .int
  | 46 => .array .int
  | 47 => .int
  | 48 => .array .int
  | 49 => .array .int
  | 50 => .array .long
  | 51 => .array .int
  | 52 => .int
  | 53 => .array .long
  | 54 => .array .int
  | _ => .array .int
abbrev wsX90 : List Cond := u_ws RX9 TX9 56
theorem nmX9 : ∀ a, a < 56 → ∀ b, b < 56 → a ≠ b → (TX9 a).2.1 ≠ (TX9 b).2.1 := by decide +kernel
theorem tyX9_ok : ∀ k, k < 56 → parseFieldDescriptor (TX9 k).2.2.1 = some (tyX9 k) := by decide +kernel
abbrev cX9_init : ByteArray := prog_11_method_1_code
def yX9_init : MethodName := ⟨RX9, "<init>", "()V"⟩
abbrev cX9_thrown : ByteArray := prog_11_method_2_code
def yX9_thrown : MethodName := ⟨RX9, "thrown", "()I"⟩
abbrev cX9_isRoutine : ByteArray := prog_11_method_3_code
def yX9_isRoutine : MethodName := ⟨RX9, "isRoutine", "(I)Z"⟩
abbrev cX9_isDone : ByteArray := prog_11_method_4_code
def yX9_isDone : MethodName := ⟨RX9, "isDone", "(I)Z"⟩
abbrev cX9_isEdge : ByteArray := prog_11_method_5_code
def yX9_isEdge : MethodName := ⟨RX9, "isEdge", "(II)Z"⟩
abbrev cX9_isBlock : ByteArray := prog_11_method_6_code
def yX9_isBlock : MethodName := ⟨RX9, "isBlock", "(II)Z"⟩
abbrev cX9_routine : ByteArray := prog_11_method_7_code
def yX9_routine : MethodName := ⟨RX9, "routine", "()I"⟩
abbrev cX9_block : ByteArray := prog_11_method_8_code
def yX9_block : MethodName := ⟨RX9, "block", "(III)I"⟩
abbrev cX9_outs : ByteArray := prog_11_method_9_code
def yX9_outs : MethodName := ⟨RX9, "outs", "(II)I"⟩
abbrev cX9_ins : ByteArray := prog_11_method_10_code
def yX9_ins : MethodName := ⟨RX9, "ins", "(II)I"⟩
abbrev cX9_isGuess : ByteArray := prog_11_method_11_code
def yX9_isGuess : MethodName := ⟨RX9, "isGuess", "(I)Z"⟩
abbrev cX9_edge : ByteArray := prog_11_method_12_code
def yX9_edge : MethodName := ⟨RX9, "edge", "(IIIIZ)I"⟩
abbrev cX9_guess : ByteArray := prog_11_method_13_code
def yX9_guess : MethodName := ⟨RX9, "guess", "(III)Z"⟩
abbrev cX9_reach : ByteArray := prog_11_method_14_code
def yX9_reach : MethodName := ⟨RX9, "reach", "(IZ)V"⟩
abbrev cX9_all : ByteArray := prog_11_method_15_code
def yX9_all : MethodName := ⟨RX9, "all", "(I)Z"⟩
abbrev cX9_count : ByteArray := prog_11_method_16_code
def yX9_count : MethodName := ⟨RX9, "count", "(I)Z"⟩
abbrev cX9_why : ByteArray := prog_11_method_17_code
def yX9_why : MethodName := ⟨RX9, "why", "(I)I"⟩
abbrev cX9_join : ByteArray := prog_11_method_18_code
def yX9_join : MethodName := ⟨RX9, "join", "(II)V"⟩
abbrev cX9_grow : ByteArray := prog_11_method_19_code
def yX9_grow : MethodName := ⟨RX9, "grow", "(IZ)V"⟩
abbrev cX9_makePlan : ByteArray := prog_11_method_20_code
def yX9_makePlan : MethodName := ⟨RX9, "makePlan", "(I)V"⟩
abbrev cX9_finish : ByteArray := prog_11_method_21_code
def yX9_finish : MethodName := ⟨RX9, "finish", "(I)I"⟩
abbrev cX9_plan : ByteArray := prog_11_method_22_code
def yX9_plan : MethodName := ⟨RX9, "plan", "(I)I"⟩
abbrev cX9_fails : ByteArray := prog_11_method_23_code
def yX9_fails : MethodName := ⟨RX9, "fails", "(I)J"⟩
abbrev cX9_look : ByteArray := prog_11_method_24_code
def yX9_look : MethodName := ⟨RX9, "look", "(II)J"⟩
abbrev cX9_ofEdge : ByteArray := prog_11_method_25_code
def yX9_ofEdge : MethodName := ⟨RX9, "ofEdge", "(III)J"⟩
abbrev cX9_openOf : ByteArray := prog_11_method_26_code
def yX9_openOf : MethodName := ⟨RX9, "openOf", "(II)I"⟩
abbrev cX9_ofBlock : ByteArray := prog_11_method_27_code
def yX9_ofBlock : MethodName := ⟨RX9, "ofBlock", "(III)J"⟩
abbrev cX9_lay : ByteArray := prog_11_method_28_code
def yX9_lay : MethodName := ⟨RX9, "lay", "(I)V"⟩
abbrev cX9_arc : ByteArray := prog_11_method_29_code
def yX9_arc : MethodName := ⟨RX9, "arc", "(II)V"⟩
abbrev cX9_solve : ByteArray := prog_11_method_30_code
def yX9_solve : MethodName := ⟨RX9, "solve", "(II)J"⟩
abbrev cX9_ring : ByteArray := prog_11_method_31_code
def yX9_ring : MethodName := ⟨RX9, "ring", "(III)I"⟩
abbrev cX9_ends : ByteArray := prog_11_method_32_code
def yX9_ends : MethodName := ⟨RX9, "ends", "(IJ)V"⟩
abbrev cX9_comes : ByteArray := prog_11_method_33_code
def yX9_comes : MethodName := ⟨RX9, "comes", "(I)V"⟩
abbrev cX9_allGo : ByteArray := prog_11_method_34_code
def yX9_allGo : MethodName := ⟨RX9, "allGo", "()V"⟩
abbrev cX9_begin : ByteArray := prog_11_method_35_code
def yX9_begin : MethodName := ⟨RX9, "begin", "(I)Z"⟩
abbrev cX9_goes : ByteArray := prog_11_method_36_code
def yX9_goes : MethodName := ⟨RX9, "goes", "(I)V"⟩
abbrev cX9_go : ByteArray := prog_11_method_37_code
def yX9_go : MethodName := ⟨RX9, "go", "(II)I"⟩
abbrev cX9_run : ByteArray := prog_11_method_38_code
def yX9_run : MethodName := ⟨RX9, "run", "(I)I"⟩
abbrev cX9_isWay : ByteArray := prog_11_method_39_code
def yX9_isWay : MethodName := ⟨RX9, "isWay", "(IJ)Z"⟩
abbrev cX9_way : ByteArray := prog_11_method_40_code
def yX9_way : MethodName := ⟨RX9, "way", "(IJI)I"⟩
abbrev cX9_along : ByteArray := prog_11_method_41_code
def yX9_along : MethodName := ⟨RX9, "along", "(IJI)I"⟩
abbrev cX9_table : ByteArray := prog_11_method_42_code
def yX9_table : MethodName := ⟨RX9, "table", "(III)J"⟩
abbrev cX9_told : ByteArray := prog_11_method_43_code
def yX9_told : MethodName := ⟨RX9, "told", "(II)J"⟩
abbrev cX9_blur : ByteArray := prog_11_method_44_code
def yX9_blur : MethodName := ⟨RX9, "blur", "(III)Z"⟩
abbrev cX9_push : ByteArray := prog_11_method_45_code
def yX9_push : MethodName := ⟨RX9, "push", "(IIJI)V"⟩
abbrev cX9_mend : ByteArray := prog_11_method_46_code
def yX9_mend : MethodName := ⟨RX9, "mend", "(I)J"⟩
def RL : String := "CounterPlacerLaw"
abbrev cL_look : ByteArray := method_3_code
def yL_look : MethodName := ⟨RL, "look", "(LCounterPlacer;II[J)I"⟩
abbrev cL_ofEdge : ByteArray := method_4_code
def yL_ofEdge : MethodName := ⟨RL, "ofEdge", "(LCounterPlacer;III[J)I"⟩
abbrev cL_ofBlock : ByteArray := method_5_code
def yL_ofBlock : MethodName := ⟨RL, "ofBlock", "(LCounterPlacer;III[J)I"⟩
abbrev cL_law : ByteArray := code
def yL_law : MethodName := ⟨RL, "law", "([I)Z"⟩
abbrev vwCl : List vw_C := [(RX0, TX0, 5), (RX1, TX1, 4), (RX2, TX2, 9), (RX3, TX3, 13), (RX4, TX4, 4), (RX5, TX5, 12), (RX6, TX6, 9), (RX7, TX7, 11), (RX8, TX8, 4), (RX9, TX9, 56)]
/-- the words that every method has -/
def GW : List Cond := lw_tbl.filter goodWord
/-- the words between nest mates -/
def isNW : Cond → Bool
  | .fieldLinkNest _ _ _ _ _ _ => true
  | .methodLinkNest _ _ _ _ => true
  | _ => false
def NW : List Cond := lw_tbl.filter isNW
theorem gwm {w : Cond} (i : Nat) (h : lw_tbl[i]? = some w) (hg : goodWord w = true) : w ∈ GW := List.mem_filter.mpr ⟨List.mem_of_getElem? h, hg⟩
theorem nwm {w : Cond} (i : Nat) (h : lw_tbl[i]? = some w) (hg : isNW w = true) : w ∈ NW := List.mem_filter.mpr ⟨List.mem_of_getElem? h, hg⟩
