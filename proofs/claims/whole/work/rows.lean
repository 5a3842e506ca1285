section
-- ===== PART A: goes FIRST, ahead of the names: the tables' words, and 'selects' of the private methods out of them =====
/-- a private method of a class that the tables say can be made, by its rows of tables_1 -/
def lw_okq (q : MethodName × Nat) : Prop := (q.1.cls ≠ "java/lang/invoke/MethodHandle" ∧ q.1.cls ≠ "java/lang/invoke/VarHandle") ∧ Cond.instantiable q.1.cls q.2 ∈ tables_1 ∧ Cond.privateMethod q.1 ∈ tables_1 ∧ Cond.instanceMethod q.1 ∈ tables_1
theorem lw_p0 : lw_okq (⟨"NameChart", "redraw", "()V"⟩, 10) := ⟨⟨by decide +kernel, by decide +kernel⟩, List.mem_of_getElem? (i := 15) (by decide +kernel), List.mem_of_getElem? (i := 307) (by decide +kernel), List.mem_of_getElem? (i := 308) (by decide +kernel)⟩
theorem lw_p1 : lw_okq (⟨"NameChart", "forgetDrawing", "()V"⟩, 10) := ⟨⟨by decide +kernel, by decide +kernel⟩, List.mem_of_getElem? (i := 15) (by decide +kernel), List.mem_of_getElem? (i := 325) (by decide +kernel), List.mem_of_getElem? (i := 326) (by decide +kernel)⟩
theorem lw_p2 : lw_okq (⟨"NameChart", "openWays", "(I)I"⟩, 10) := ⟨⟨by decide +kernel, by decide +kernel⟩, List.mem_of_getElem? (i := 15) (by decide +kernel), List.mem_of_getElem? (i := 365) (by decide +kernel), List.mem_of_getElem? (i := 366) (by decide +kernel)⟩
theorem lw_p3 : lw_okq (⟨"NameChart", "layOut", "()V"⟩, 10) := ⟨⟨by decide +kernel, by decide +kernel⟩, List.mem_of_getElem? (i := 15) (by decide +kernel), List.mem_of_getElem? (i := 369) (by decide +kernel), List.mem_of_getElem? (i := 370) (by decide +kernel)⟩
theorem lw_p4 : lw_okq (⟨"NameChart$Box", "coversAny", "([I[III)Z"⟩, 9) := ⟨⟨by decide +kernel, by decide +kernel⟩, List.mem_of_getElem? (i := 114) (by decide +kernel), List.mem_of_getElem? (i := 397) (by decide +kernel), List.mem_of_getElem? (i := 398) (by decide +kernel)⟩
theorem lw_p5 : lw_okq (⟨"NameChart", "partOf", "(I)I"⟩, 10) := ⟨⟨by decide +kernel, by decide +kernel⟩, List.mem_of_getElem? (i := 15) (by decide +kernel), List.mem_of_getElem? (i := 411) (by decide +kernel), List.mem_of_getElem? (i := 412) (by decide +kernel)⟩
theorem lw_p6 : lw_okq (⟨"NameChart", "splitUp", "()V"⟩, 10) := ⟨⟨by decide +kernel, by decide +kernel⟩, List.mem_of_getElem? (i := 15) (by decide +kernel), List.mem_of_getElem? (i := 415) (by decide +kernel), List.mem_of_getElem? (i := 416) (by decide +kernel)⟩
theorem lw_p7 : lw_okq (⟨"NameChart$Parts", "joinBack", "(LNameChart$Chart;LNameChart$Layout;I)V"⟩, 5) := ⟨⟨by decide +kernel, by decide +kernel⟩, List.mem_of_getElem? (i := 165) (by decide +kernel), List.mem_of_getElem? (i := 423) (by decide +kernel), List.mem_of_getElem? (i := 424) (by decide +kernel)⟩
theorem lw_p8 : lw_okq (⟨"NameChart$Chart", "reachAcross", "(I)I"⟩, 11) := ⟨⟨by decide +kernel, by decide +kernel⟩, List.mem_of_getElem? (i := 23) (by decide +kernel), List.mem_of_getElem? (i := 434) (by decide +kernel), List.mem_of_getElem? (i := 435) (by decide +kernel)⟩
theorem lw_p9 : lw_okq (⟨"NameChart$Chart", "reachDown", "(I)I"⟩, 11) := ⟨⟨by decide +kernel, by decide +kernel⟩, List.mem_of_getElem? (i := 23) (by decide +kernel), List.mem_of_getElem? (i := 442) (by decide +kernel), List.mem_of_getElem? (i := 443) (by decide +kernel)⟩
theorem lw_p10 : lw_okq (⟨"NameChart$Box", "lineEnters", "(LNameChart$Box;)Z"⟩, 9) := ⟨⟨by decide +kernel, by decide +kernel⟩, List.mem_of_getElem? (i := 114) (by decide +kernel), List.mem_of_getElem? (i := 462) (by decide +kernel), List.mem_of_getElem? (i := 463) (by decide +kernel)⟩
theorem lw_p11 : lw_okq (⟨"NameChart$Box", "sideOf", "(II)I"⟩, 9) := ⟨⟨by decide +kernel, by decide +kernel⟩, List.mem_of_getElem? (i := 114) (by decide +kernel), List.mem_of_getElem? (i := 470) (by decide +kernel), List.mem_of_getElem? (i := 471) (by decide +kernel)⟩
theorem lw_p12 : lw_okq (⟨"NameChart$Box", "linesMeet", "(LNameChart$Box;)Z"⟩, 9) := ⟨⟨by decide +kernel, by decide +kernel⟩, List.mem_of_getElem? (i := 114) (by decide +kernel), List.mem_of_getElem? (i := 474) (by decide +kernel), List.mem_of_getElem? (i := 475) (by decide +kernel)⟩
theorem lw_p13 : lw_okq (⟨"NameChart$Parts", "join", "(III)V"⟩, 5) := ⟨⟨by decide +kernel, by decide +kernel⟩, List.mem_of_getElem? (i := 165) (by decide +kernel), List.mem_of_getElem? (i := 480) (by decide +kernel), List.mem_of_getElem? (i := 481) (by decide +kernel)⟩
theorem lw_p14 : lw_okq (⟨"NameChart$Parts", "giveNumbers", "(I)V"⟩, 5) := ⟨⟨by decide +kernel, by decide +kernel⟩, List.mem_of_getElem? (i := 165) (by decide +kernel), List.mem_of_getElem? (i := 484) (by decide +kernel), List.mem_of_getElem? (i := 485) (by decide +kernel)⟩
theorem lw_p15 : lw_okq (⟨"NameChart", "firstShut", "()I"⟩, 10) := ⟨⟨by decide +kernel, by decide +kernel⟩, List.mem_of_getElem? (i := 15) (by decide +kernel), List.mem_of_getElem? (i := 548) (by decide +kernel), List.mem_of_getElem? (i := 549) (by decide +kernel)⟩
def lw_privs_1 : List (MethodName × Nat) := [(⟨"NameChart", "redraw", "()V"⟩, 10), (⟨"NameChart", "forgetDrawing", "()V"⟩, 10), (⟨"NameChart", "openWays", "(I)I"⟩, 10), (⟨"NameChart", "layOut", "()V"⟩, 10), (⟨"NameChart$Box", "coversAny", "([I[III)Z"⟩, 9), (⟨"NameChart", "partOf", "(I)I"⟩, 10), (⟨"NameChart", "splitUp", "()V"⟩, 10), (⟨"NameChart$Parts", "joinBack", "(LNameChart$Chart;LNameChart$Layout;I)V"⟩, 5), (⟨"NameChart$Chart", "reachAcross", "(I)I"⟩, 11), (⟨"NameChart$Chart", "reachDown", "(I)I"⟩, 11), (⟨"NameChart$Box", "lineEnters", "(LNameChart$Box;)Z"⟩, 9), (⟨"NameChart$Box", "sideOf", "(II)I"⟩, 9), (⟨"NameChart$Box", "linesMeet", "(LNameChart$Box;)Z"⟩, 9), (⟨"NameChart$Parts", "join", "(III)V"⟩, 5), (⟨"NameChart$Parts", "giveNumbers", "(I)V"⟩, 5), (⟨"NameChart", "firstShut", "()I"⟩, 10)]
theorem lw_r1 : ∀ q ∈ lw_privs_1, lw_okq q := List.forall_mem_cons.mpr ⟨lw_p0, List.forall_mem_cons.mpr ⟨lw_p1, List.forall_mem_cons.mpr ⟨lw_p2, List.forall_mem_cons.mpr ⟨lw_p3, List.forall_mem_cons.mpr ⟨lw_p4, List.forall_mem_cons.mpr ⟨lw_p5, List.forall_mem_cons.mpr ⟨lw_p6, List.forall_mem_cons.mpr ⟨lw_p7, List.forall_mem_cons.mpr ⟨lw_p8, List.forall_mem_cons.mpr ⟨lw_p9, List.forall_mem_cons.mpr ⟨lw_p10, List.forall_mem_cons.mpr ⟨lw_p11, List.forall_mem_cons.mpr ⟨lw_p12, List.forall_mem_cons.mpr ⟨lw_p13, List.forall_mem_cons.mpr ⟨lw_p14, List.forall_mem_cons.mpr ⟨lw_p15, fun _ h => absurd h List.not_mem_nil⟩⟩⟩⟩⟩⟩⟩⟩⟩⟩⟩⟩⟩⟩⟩⟩
theorem lw_p16 : lw_okq (⟨"NameChart", "firstClashing", "()I"⟩, 10) := ⟨⟨by decide +kernel, by decide +kernel⟩, List.mem_of_getElem? (i := 15) (by decide +kernel), List.mem_of_getElem? (i := 553) (by decide +kernel), List.mem_of_getElem? (i := 554) (by decide +kernel)⟩
theorem lw_p17 : lw_okq (⟨"NameChart", "firstHit", "(II[I)I"⟩, 10) := ⟨⟨by decide +kernel, by decide +kernel⟩, List.mem_of_getElem? (i := 15) (by decide +kernel), List.mem_of_getElem? (i := 557) (by decide +kernel), List.mem_of_getElem? (i := 558) (by decide +kernel)⟩
theorem lw_p18 : lw_okq (⟨"NameChart", "firstMissing", "()I"⟩, 10) := ⟨⟨by decide +kernel, by decide +kernel⟩, List.mem_of_getElem? (i := 15) (by decide +kernel), List.mem_of_getElem? (i := 562) (by decide +kernel), List.mem_of_getElem? (i := 563) (by decide +kernel)⟩
theorem lw_p19 : lw_okq (⟨"NameChart$Chart", "isServedAhead", "(II)Z"⟩, 11) := ⟨⟨by decide +kernel, by decide +kernel⟩, List.mem_of_getElem? (i := 23) (by decide +kernel), List.mem_of_getElem? (i := 583) (by decide +kernel), List.mem_of_getElem? (i := 584) (by decide +kernel)⟩
theorem lw_p20 : lw_okq (⟨"NameChart$Search", "gatherOptions", "(LNameChart$Chart;LNameChart$Layout;I)V"⟩, 10) := ⟨⟨by decide +kernel, by decide +kernel⟩, List.mem_of_getElem? (i := 192) (by decide +kernel), List.mem_of_getElem? (i := 591) (by decide +kernel), List.mem_of_getElem? (i := 592) (by decide +kernel)⟩
theorem lw_p21 : lw_okq (⟨"NameChart$Search", "gatherBans", "(LNameChart$Chart;LNameChart$Layout;III)V"⟩, 10) := ⟨⟨by decide +kernel, by decide +kernel⟩, List.mem_of_getElem? (i := 192) (by decide +kernel), List.mem_of_getElem? (i := 618) (by decide +kernel), List.mem_of_getElem? (i := 619) (by decide +kernel)⟩
theorem lw_p22 : lw_okq (⟨"NameChart$Search", "descend", "(IJJI)V"⟩, 10) := ⟨⟨by decide +kernel, by decide +kernel⟩, List.mem_of_getElem? (i := 192) (by decide +kernel), List.mem_of_getElem? (i := 629) (by decide +kernel), List.mem_of_getElem? (i := 630) (by decide +kernel)⟩
theorem lw_p23 : lw_okq (⟨"NameChart$Search", "hope", "(IJJ)I"⟩, 10) := ⟨⟨by decide +kernel, by decide +kernel⟩, List.mem_of_getElem? (i := 192) (by decide +kernel), List.mem_of_getElem? (i := 634) (by decide +kernel), List.mem_of_getElem? (i := 635) (by decide +kernel)⟩
theorem lw_p24 : lw_okq (⟨"NameChart$Search", "isBeaten", "(IIIJJ)Z"⟩, 10) := ⟨⟨by decide +kernel, by decide +kernel⟩, List.mem_of_getElem? (i := 192) (by decide +kernel), List.mem_of_getElem? (i := 647) (by decide +kernel), List.mem_of_getElem? (i := 648) (by decide +kernel)⟩
theorem lw_p25 : lw_okq (⟨"NameChart$Search", "firstReaching", "(LNameChart$Chart;II)I"⟩, 10) := ⟨⟨by decide +kernel, by decide +kernel⟩, List.mem_of_getElem? (i := 192) (by decide +kernel), List.mem_of_getElem? (i := 656) (by decide +kernel), List.mem_of_getElem? (i := 657) (by decide +kernel)⟩
theorem lw_p26 : lw_okq (⟨"NameChart$Search", "fixIfReaching", "(III)Z"⟩, 10) := ⟨⟨by decide +kernel, by decide +kernel⟩, List.mem_of_getElem? (i := 192) (by decide +kernel), List.mem_of_getElem? (i := 660) (by decide +kernel), List.mem_of_getElem? (i := 661) (by decide +kernel)⟩
theorem lw_p27 : lw_okq (⟨"NameChart", "takeInHand", "()V"⟩, 10) := ⟨⟨by decide +kernel, by decide +kernel⟩, List.mem_of_getElem? (i := 15) (by decide +kernel), List.mem_of_getElem? (i := 664) (by decide +kernel), List.mem_of_getElem? (i := 665) (by decide +kernel)⟩
theorem lw_p28 : lw_okq (⟨"NameChart", "cheapestWay", "(I[I)I"⟩, 10) := ⟨⟨by decide +kernel, by decide +kernel⟩, List.mem_of_getElem? (i := 15) (by decide +kernel), List.mem_of_getElem? (i := 676) (by decide +kernel), List.mem_of_getElem? (i := 677) (by decide +kernel)⟩
theorem lw_p29 : lw_okq (⟨"NameChart", "leftInHand", "()I"⟩, 10) := ⟨⟨by decide +kernel, by decide +kernel⟩, List.mem_of_getElem? (i := 15) (by decide +kernel), List.mem_of_getElem? (i := 681) (by decide +kernel), List.mem_of_getElem? (i := 682) (by decide +kernel)⟩
theorem lw_p30 : lw_okq (⟨"NameChart$Plan", "settle", "(LNameChart$Chart;I)V"⟩, 6) := ⟨⟨by decide +kernel, by decide +kernel⟩, List.mem_of_getElem? (i := 231) (by decide +kernel), List.mem_of_getElem? (i := 703) (by decide +kernel), List.mem_of_getElem? (i := 704) (by decide +kernel)⟩
theorem lw_p31 : lw_okq (⟨"NameChart$Plan", "fits", "(LNameChart$Chart;III)Z"⟩, 6) := ⟨⟨by decide +kernel, by decide +kernel⟩, List.mem_of_getElem? (i := 231) (by decide +kernel), List.mem_of_getElem? (i := 708) (by decide +kernel), List.mem_of_getElem? (i := 709) (by decide +kernel)⟩
def lw_privs_2 : List (MethodName × Nat) := [(⟨"NameChart", "firstClashing", "()I"⟩, 10), (⟨"NameChart", "firstHit", "(II[I)I"⟩, 10), (⟨"NameChart", "firstMissing", "()I"⟩, 10), (⟨"NameChart$Chart", "isServedAhead", "(II)Z"⟩, 11), (⟨"NameChart$Search", "gatherOptions", "(LNameChart$Chart;LNameChart$Layout;I)V"⟩, 10), (⟨"NameChart$Search", "gatherBans", "(LNameChart$Chart;LNameChart$Layout;III)V"⟩, 10), (⟨"NameChart$Search", "descend", "(IJJI)V"⟩, 10), (⟨"NameChart$Search", "hope", "(IJJ)I"⟩, 10), (⟨"NameChart$Search", "isBeaten", "(IIIJJ)Z"⟩, 10), (⟨"NameChart$Search", "firstReaching", "(LNameChart$Chart;II)I"⟩, 10), (⟨"NameChart$Search", "fixIfReaching", "(III)Z"⟩, 10), (⟨"NameChart", "takeInHand", "()V"⟩, 10), (⟨"NameChart", "cheapestWay", "(I[I)I"⟩, 10), (⟨"NameChart", "leftInHand", "()I"⟩, 10), (⟨"NameChart$Plan", "settle", "(LNameChart$Chart;I)V"⟩, 6), (⟨"NameChart$Plan", "fits", "(LNameChart$Chart;III)Z"⟩, 6)]
theorem lw_r2 : ∀ q ∈ lw_privs_2, lw_okq q := List.forall_mem_cons.mpr ⟨lw_p16, List.forall_mem_cons.mpr ⟨lw_p17, List.forall_mem_cons.mpr ⟨lw_p18, List.forall_mem_cons.mpr ⟨lw_p19, List.forall_mem_cons.mpr ⟨lw_p20, List.forall_mem_cons.mpr ⟨lw_p21, List.forall_mem_cons.mpr ⟨lw_p22, List.forall_mem_cons.mpr ⟨lw_p23, List.forall_mem_cons.mpr ⟨lw_p24, List.forall_mem_cons.mpr ⟨lw_p25, List.forall_mem_cons.mpr ⟨lw_p26, List.forall_mem_cons.mpr ⟨lw_p27, List.forall_mem_cons.mpr ⟨lw_p28, List.forall_mem_cons.mpr ⟨lw_p29, List.forall_mem_cons.mpr ⟨lw_p30, List.forall_mem_cons.mpr ⟨lw_p31, fun _ h => absurd h List.not_mem_nil⟩⟩⟩⟩⟩⟩⟩⟩⟩⟩⟩⟩⟩⟩⟩⟩
theorem lw_p32 : lw_okq (⟨"NameChart", "musts", "()I"⟩, 10) := ⟨⟨by decide +kernel, by decide +kernel⟩, List.mem_of_getElem? (i := 15) (by decide +kernel), List.mem_of_getElem? (i := 746) (by decide +kernel), List.mem_of_getElem? (i := 747) (by decide +kernel)⟩
theorem lw_p33 : lw_okq (⟨"NameChart", "greatestPart", "()I"⟩, 10) := ⟨⟨by decide +kernel, by decide +kernel⟩, List.mem_of_getElem? (i := 15) (by decide +kernel), List.mem_of_getElem? (i := 750) (by decide +kernel), List.mem_of_getElem? (i := 751) (by decide +kernel)⟩
theorem lw_p34 : lw_okq (⟨"NameChartModel", "read", "([II)V"⟩, 38) := ⟨⟨by decide +kernel, by decide +kernel⟩, List.mem_of_getElem? (i := 754) (by decide +kernel), List.mem_of_getElem? (i := 879) (by decide +kernel), List.mem_of_getElem? (i := 880) (by decide +kernel)⟩
theorem lw_p35 : lw_okq (⟨"NameChartModel", "keep", "()V"⟩, 38) := ⟨⟨by decide +kernel, by decide +kernel⟩, List.mem_of_getElem? (i := 754) (by decide +kernel), List.mem_of_getElem? (i := 893) (by decide +kernel), List.mem_of_getElem? (i := 894) (by decide +kernel)⟩
theorem lw_p36 : lw_okq (⟨"NameChartModel", "write", "([II)V"⟩, 38) := ⟨⟨by decide +kernel, by decide +kernel⟩, List.mem_of_getElem? (i := 754) (by decide +kernel), List.mem_of_getElem? (i := 897) (by decide +kernel), List.mem_of_getElem? (i := 898) (by decide +kernel)⟩
theorem lw_p37 : lw_okq (⟨"NameChartModel", "isName", "(I)Z"⟩, 38) := ⟨⟨by decide +kernel, by decide +kernel⟩, List.mem_of_getElem? (i := 754) (by decide +kernel), List.mem_of_getElem? (i := 909) (by decide +kernel), List.mem_of_getElem? (i := 910) (by decide +kernel)⟩
theorem lw_p38 : lw_okq (⟨"NameChartModel", "isWay", "(II)Z"⟩, 38) := ⟨⟨by decide +kernel, by decide +kernel⟩, List.mem_of_getElem? (i := 754) (by decide +kernel), List.mem_of_getElem? (i := 925) (by decide +kernel), List.mem_of_getElem? (i := 926) (by decide +kernel)⟩
theorem lw_p39 : lw_okq (⟨"NameChartModel", "ways", "(I)I"⟩, 38) := ⟨⟨by decide +kernel, by decide +kernel⟩, List.mem_of_getElem? (i := 754) (by decide +kernel), List.mem_of_getElem? (i := 929) (by decide +kernel), List.mem_of_getElem? (i := 930) (by decide +kernel)⟩
theorem lw_p40 : lw_okq (⟨"NameChartModel", "box", "(III)V"⟩, 38) := ⟨⟨by decide +kernel, by decide +kernel⟩, List.mem_of_getElem? (i := 754) (by decide +kernel), List.mem_of_getElem? (i := 933) (by decide +kernel), List.mem_of_getElem? (i := 934) (by decide +kernel)⟩
theorem lw_p41 : lw_okq (⟨"NameChartModel", "isLed", "(II)Z"⟩, 38) := ⟨⟨by decide +kernel, by decide +kernel⟩, List.mem_of_getElem? (i := 754) (by decide +kernel), List.mem_of_getElem? (i := 937) (by decide +kernel), List.mem_of_getElem? (i := 938) (by decide +kernel)⟩
theorem lw_p42 : lw_okq (⟨"NameChartModel", "priceOf", "(II)I"⟩, 38) := ⟨⟨by decide +kernel, by decide +kernel⟩, List.mem_of_getElem? (i := 754) (by decide +kernel), List.mem_of_getElem? (i := 941) (by decide +kernel), List.mem_of_getElem? (i := 942) (by decide +kernel)⟩
theorem lw_p43 : lw_okq (⟨"NameChartModel", "isOpen", "(III)Z"⟩, 38) := ⟨⟨by decide +kernel, by decide +kernel⟩, List.mem_of_getElem? (i := 754) (by decide +kernel), List.mem_of_getElem? (i := 945) (by decide +kernel), List.mem_of_getElem? (i := 946) (by decide +kernel)⟩
theorem lw_p44 : lw_okq (⟨"NameChartModel", "covers", "(II)Z"⟩, 38) := ⟨⟨by decide +kernel, by decide +kernel⟩, List.mem_of_getElem? (i := 754) (by decide +kernel), List.mem_of_getElem? (i := 949) (by decide +kernel), List.mem_of_getElem? (i := 950) (by decide +kernel)⟩
theorem lw_p45 : lw_okq (⟨"NameChartModel", "doClash", "(IIIII)Z"⟩, 38) := ⟨⟨by decide +kernel, by decide +kernel⟩, List.mem_of_getElem? (i := 754) (by decide +kernel), List.mem_of_getElem? (i := 957) (by decide +kernel), List.mem_of_getElem? (i := 958) (by decide +kernel)⟩
theorem lw_p46 : lw_okq (⟨"NameChartModel", "take", "([JIII)V"⟩, 38) := ⟨⟨by decide +kernel, by decide +kernel⟩, List.mem_of_getElem? (i := 754) (by decide +kernel), List.mem_of_getElem? (i := 961) (by decide +kernel), List.mem_of_getElem? (i := 962) (by decide +kernel)⟩
theorem lw_p47 : lw_okq (⟨"NameChartModel", "linesMeet", "()Z"⟩, 38) := ⟨⟨by decide +kernel, by decide +kernel⟩, List.mem_of_getElem? (i := 754) (by decide +kernel), List.mem_of_getElem? (i := 966) (by decide +kernel), List.mem_of_getElem? (i := 967) (by decide +kernel)⟩
def lw_privs_3 : List (MethodName × Nat) := [(⟨"NameChart", "musts", "()I"⟩, 10), (⟨"NameChart", "greatestPart", "()I"⟩, 10), (⟨"NameChartModel", "read", "([II)V"⟩, 38), (⟨"NameChartModel", "keep", "()V"⟩, 38), (⟨"NameChartModel", "write", "([II)V"⟩, 38), (⟨"NameChartModel", "isName", "(I)Z"⟩, 38), (⟨"NameChartModel", "isWay", "(II)Z"⟩, 38), (⟨"NameChartModel", "ways", "(I)I"⟩, 38), (⟨"NameChartModel", "box", "(III)V"⟩, 38), (⟨"NameChartModel", "isLed", "(II)Z"⟩, 38), (⟨"NameChartModel", "priceOf", "(II)I"⟩, 38), (⟨"NameChartModel", "isOpen", "(III)Z"⟩, 38), (⟨"NameChartModel", "covers", "(II)Z"⟩, 38), (⟨"NameChartModel", "doClash", "(IIIII)Z"⟩, 38), (⟨"NameChartModel", "take", "([JIII)V"⟩, 38), (⟨"NameChartModel", "linesMeet", "()Z"⟩, 38)]
theorem lw_r3 : ∀ q ∈ lw_privs_3, lw_okq q := List.forall_mem_cons.mpr ⟨lw_p32, List.forall_mem_cons.mpr ⟨lw_p33, List.forall_mem_cons.mpr ⟨lw_p34, List.forall_mem_cons.mpr ⟨lw_p35, List.forall_mem_cons.mpr ⟨lw_p36, List.forall_mem_cons.mpr ⟨lw_p37, List.forall_mem_cons.mpr ⟨lw_p38, List.forall_mem_cons.mpr ⟨lw_p39, List.forall_mem_cons.mpr ⟨lw_p40, List.forall_mem_cons.mpr ⟨lw_p41, List.forall_mem_cons.mpr ⟨lw_p42, List.forall_mem_cons.mpr ⟨lw_p43, List.forall_mem_cons.mpr ⟨lw_p44, List.forall_mem_cons.mpr ⟨lw_p45, List.forall_mem_cons.mpr ⟨lw_p46, List.forall_mem_cons.mpr ⟨lw_p47, fun _ h => absurd h List.not_mem_nil⟩⟩⟩⟩⟩⟩⟩⟩⟩⟩⟩⟩⟩⟩⟩⟩
theorem lw_p48 : lw_okq (⟨"NameChartModel", "crosses", "([J[J)Z"⟩, 38) := ⟨⟨by decide +kernel, by decide +kernel⟩, List.mem_of_getElem? (i := 754) (by decide +kernel), List.mem_of_getElem? (i := 982) (by decide +kernel), List.mem_of_getElem? (i := 983) (by decide +kernel)⟩
theorem lw_p49 : lw_okq (⟨"NameChartModel", "cut", "(JJJJ)Z"⟩, 38) := ⟨⟨by decide +kernel, by decide +kernel⟩, List.mem_of_getElem? (i := 754) (by decide +kernel), List.mem_of_getElem? (i := 987) (by decide +kernel), List.mem_of_getElem? (i := 988) (by decide +kernel)⟩
theorem lw_p50 : lw_okq (⟨"NameChartModel", "findParts", "()I"⟩, 38) := ⟨⟨by decide +kernel, by decide +kernel⟩, List.mem_of_getElem? (i := 754) (by decide +kernel), List.mem_of_getElem? (i := 999) (by decide +kernel), List.mem_of_getElem? (i := 1000) (by decide +kernel)⟩
theorem lw_p51 : lw_okq (⟨"NameChartModel", "findOpen", "()V"⟩, 38) := ⟨⟨by decide +kernel, by decide +kernel⟩, List.mem_of_getElem? (i := 754) (by decide +kernel), List.mem_of_getElem? (i := 1003) (by decide +kernel), List.mem_of_getElem? (i := 1004) (by decide +kernel)⟩
theorem lw_p52 : lw_okq (⟨"NameChartModel", "touch", "(II)Z"⟩, 38) := ⟨⟨by decide +kernel, by decide +kernel⟩, List.mem_of_getElem? (i := 754) (by decide +kernel), List.mem_of_getElem? (i := 1007) (by decide +kernel), List.mem_of_getElem? (i := 1008) (by decide +kernel)⟩
theorem lw_p53 : lw_okq (⟨"NameChartModel", "clashInHand", "(II)I"⟩, 38) := ⟨⟨by decide +kernel, by decide +kernel⟩, List.mem_of_getElem? (i := 754) (by decide +kernel), List.mem_of_getElem? (i := 1035) (by decide +kernel), List.mem_of_getElem? (i := 1036) (by decide +kernel)⟩
theorem lw_p54 : lw_okq (⟨"NameChartModel", "worthInHand", "()I"⟩, 38) := ⟨⟨by decide +kernel, by decide +kernel⟩, List.mem_of_getElem? (i := 754) (by decide +kernel), List.mem_of_getElem? (i := 1043) (by decide +kernel), List.mem_of_getElem? (i := 1044) (by decide +kernel)⟩
theorem lw_p55 : lw_okq (⟨"NameChartModel", "worthOf", "(II)I"⟩, 38) := ⟨⟨by decide +kernel, by decide +kernel⟩, List.mem_of_getElem? (i := 754) (by decide +kernel), List.mem_of_getElem? (i := 1047) (by decide +kernel), List.mem_of_getElem? (i := 1048) (by decide +kernel)⟩
theorem lw_p56 : lw_okq (⟨"NameChartModel", "most", "()I"⟩, 38) := ⟨⟨by decide +kernel, by decide +kernel⟩, List.mem_of_getElem? (i := 754) (by decide +kernel), List.mem_of_getElem? (i := 1055) (by decide +kernel), List.mem_of_getElem? (i := 1056) (by decide +kernel)⟩
theorem lw_p57 : lw_okq (⟨"NameChartModel", "bestOf", "(I)Z"⟩, 38) := ⟨⟨by decide +kernel, by decide +kernel⟩, List.mem_of_getElem? (i := 754) (by decide +kernel), List.mem_of_getElem? (i := 1059) (by decide +kernel), List.mem_of_getElem? (i := 1060) (by decide +kernel)⟩
theorem lw_p58 : lw_okq (⟨"NameChartModel", "tryFrom", "(II)V"⟩, 38) := ⟨⟨by decide +kernel, by decide +kernel⟩, List.mem_of_getElem? (i := 754) (by decide +kernel), List.mem_of_getElem? (i := 1063) (by decide +kernel), List.mem_of_getElem? (i := 1064) (by decide +kernel)⟩
theorem lw_p59 : lw_okq (⟨"NameChartModel", "fits", "(II)Z"⟩, 38) := ⟨⟨by decide +kernel, by decide +kernel⟩, List.mem_of_getElem? (i := 754) (by decide +kernel), List.mem_of_getElem? (i := 1067) (by decide +kernel), List.mem_of_getElem? (i := 1068) (by decide +kernel)⟩
theorem lw_p60 : lw_okq (⟨"NameChartModel", "findOrder", "()V"⟩, 38) := ⟨⟨by decide +kernel, by decide +kernel⟩, List.mem_of_getElem? (i := 754) (by decide +kernel), List.mem_of_getElem? (i := 1075) (by decide +kernel), List.mem_of_getElem? (i := 1076) (by decide +kernel)⟩
theorem lw_p61 : lw_okq (⟨"NameChartModel", "isAhead", "(II)Z"⟩, 38) := ⟨⟨by decide +kernel, by decide +kernel⟩, List.mem_of_getElem? (i := 754) (by decide +kernel), List.mem_of_getElem? (i := 1079) (by decide +kernel), List.mem_of_getElem? (i := 1080) (by decide +kernel)⟩
theorem lw_p62 : lw_okq (⟨"NameChartModel", "findSteady", "()V"⟩, 38) := ⟨⟨by decide +kernel, by decide +kernel⟩, List.mem_of_getElem? (i := 754) (by decide +kernel), List.mem_of_getElem? (i := 1095) (by decide +kernel), List.mem_of_getElem? (i := 1096) (by decide +kernel)⟩
theorem lw_p63 : lw_okq (⟨"NameChartModel", "isSteady", "(III)Z"⟩, 38) := ⟨⟨by decide +kernel, by decide +kernel⟩, List.mem_of_getElem? (i := 754) (by decide +kernel), List.mem_of_getElem? (i := 1099) (by decide +kernel), List.mem_of_getElem? (i := 1100) (by decide +kernel)⟩
def lw_privs_4 : List (MethodName × Nat) := [(⟨"NameChartModel", "crosses", "([J[J)Z"⟩, 38), (⟨"NameChartModel", "cut", "(JJJJ)Z"⟩, 38), (⟨"NameChartModel", "findParts", "()I"⟩, 38), (⟨"NameChartModel", "findOpen", "()V"⟩, 38), (⟨"NameChartModel", "touch", "(II)Z"⟩, 38), (⟨"NameChartModel", "clashInHand", "(II)I"⟩, 38), (⟨"NameChartModel", "worthInHand", "()I"⟩, 38), (⟨"NameChartModel", "worthOf", "(II)I"⟩, 38), (⟨"NameChartModel", "most", "()I"⟩, 38), (⟨"NameChartModel", "bestOf", "(I)Z"⟩, 38), (⟨"NameChartModel", "tryFrom", "(II)V"⟩, 38), (⟨"NameChartModel", "fits", "(II)Z"⟩, 38), (⟨"NameChartModel", "findOrder", "()V"⟩, 38), (⟨"NameChartModel", "isAhead", "(II)Z"⟩, 38), (⟨"NameChartModel", "findSteady", "()V"⟩, 38), (⟨"NameChartModel", "isSteady", "(III)Z"⟩, 38)]
theorem lw_r4 : ∀ q ∈ lw_privs_4, lw_okq q := List.forall_mem_cons.mpr ⟨lw_p48, List.forall_mem_cons.mpr ⟨lw_p49, List.forall_mem_cons.mpr ⟨lw_p50, List.forall_mem_cons.mpr ⟨lw_p51, List.forall_mem_cons.mpr ⟨lw_p52, List.forall_mem_cons.mpr ⟨lw_p53, List.forall_mem_cons.mpr ⟨lw_p54, List.forall_mem_cons.mpr ⟨lw_p55, List.forall_mem_cons.mpr ⟨lw_p56, List.forall_mem_cons.mpr ⟨lw_p57, List.forall_mem_cons.mpr ⟨lw_p58, List.forall_mem_cons.mpr ⟨lw_p59, List.forall_mem_cons.mpr ⟨lw_p60, List.forall_mem_cons.mpr ⟨lw_p61, List.forall_mem_cons.mpr ⟨lw_p62, List.forall_mem_cons.mpr ⟨lw_p63, fun _ h => absurd h List.not_mem_nil⟩⟩⟩⟩⟩⟩⟩⟩⟩⟩⟩⟩⟩⟩⟩⟩
def lw_privs : List (MethodName × Nat) := lw_privs_1 ++ (lw_privs_2 ++ (lw_privs_3 ++ (lw_privs_4)))
def lw_tbl : List Cond := k2_sels lw_privs ++ tables_1
theorem lw_privs_ok : ∀ q ∈ lw_privs, lw_okq q := by
  show ∀ q ∈ lw_privs_1 ++ (lw_privs_2 ++ (lw_privs_3 ++ (lw_privs_4))), lw_okq q
  exact List.forall_mem_append.mpr ⟨lw_r1, List.forall_mem_append.mpr ⟨lw_r2, List.forall_mem_append.mpr ⟨lw_r3, lw_r4⟩⟩⟩

def RX0 : String := "NameChart$Box"
def TX0 : u_T := fun k => match k with
  | 0 => ("NameChart$Box", "left", "I", false)
  | 1 => ("NameChart$Box", "top", "I", false)
  | 2 => ("NameChart$Box", "right", "I", false)
  | 3 => ("NameChart$Box", "bottom", "I", false)
  | 4 => ("NameChart$Box", "led", "Z", false)
  | 5 => ("NameChart$Box", "fromX", "I", false)
  | 6 => ("NameChart$Box", "fromY", "I", false)
  | 7 => ("NameChart$Box", "toX", "I", false)
  | _ => ("NameChart$Box", "toY", "I", false)
def tyX0 : Nat → FieldType := fun k => match k with
  | 0 => .int
  | 1 => .int
  | 2 => .int
  | 3 => .int
  | 4 => .boolean
  | 5 => .int
  | 6 => .int
  | 7 => .int
  | _ => .int
abbrev wsX00 : List Cond := u_ws RX0 TX0 9
theorem nmX0 : ∀ a, a < 9 → ∀ b, b < 9 → a ≠ b → (TX0 a).2.1 ≠ (TX0 b).2.1 := by decide +kernel
theorem tyX0_ok : ∀ k, k < 9 → parseFieldDescriptor (TX0 k).2.2.1 = some (tyX0 k) := by decide +kernel
abbrev cX0_init : ByteArray := prog_2_method_1_code
def yX0_init : MethodName := ⟨RX0, "<init>", "()V"⟩
abbrev cX0_lay : ByteArray := prog_2_method_2_code
def yX0_lay : MethodName := ⟨RX0, "lay", "(LNameChart$Chart;III)V"⟩
abbrev cX0_start : ByteArray := prog_2_method_3_code
def yX0_start : MethodName := ⟨RX0, "start", "(IIII)I"⟩
abbrev cX0_covers : ByteArray := prog_2_method_4_code
def yX0_covers : MethodName := ⟨RX0, "covers", "(II)Z"⟩
abbrev cX0_overlaps : ByteArray := prog_2_method_5_code
def yX0_overlaps : MethodName := ⟨RX0, "overlaps", "(IIII)Z"⟩
abbrev cX0_isOpen : ByteArray := prog_2_method_6_code
def yX0_isOpen : MethodName := ⟨RX0, "isOpen", "(LNameChart$Chart;I)Z"⟩
abbrev cX0_coversAny : ByteArray := prog_2_method_7_code
def yX0_coversAny : MethodName := ⟨RX0, "coversAny", "([I[III)Z"⟩
abbrev cX0_hits : ByteArray := prog_2_method_8_code
def yX0_hits : MethodName := ⟨RX0, "hits", "(LNameChart$Box;)Z"⟩
abbrev cX0_lineEnters : ByteArray := prog_2_method_9_code
def yX0_lineEnters : MethodName := ⟨RX0, "lineEnters", "(LNameChart$Box;)Z"⟩
abbrev cX0_linesMeet : ByteArray := prog_2_method_10_code
def yX0_linesMeet : MethodName := ⟨RX0, "linesMeet", "(LNameChart$Box;)Z"⟩
abbrev cX0_sideOf : ByteArray := prog_2_method_11_code
def yX0_sideOf : MethodName := ⟨RX0, "sideOf", "(II)I"⟩
def RX1 : String := "NameChart$Chart"
def TX1 : u_T := fun k => match k with
  | 0 => ("NameChart$Chart", "names", "I", false)
  | 1 => ("NameChart$Chart", "dots", "I", false)
  | 2 => ("NameChart$Chart", "kind", "[I", true)
  | 3 => ("NameChart$Chart", "x", "[I", true)
  | 4 => ("NameChart$Chart", "y", "[I", true)
  | 5 => ("NameChart$Chart", "wide", "[I", true)
  | 6 => ("NameChart$Chart", "high", "[I", true)
  | 7 => ("NameChart$Chart", "weight", "[I", true)
  | 8 => ("NameChart$Chart", "hand", "[I", true)
  | 9 => ("NameChart$Chart", "dotX", "[I", true)
  | _ => ("NameChart$Chart", "dotY", "[I", true)
def tyX1 : Nat → FieldType := fun k => match k with
  | 0 => .int
  | 1 => .int
  | 2 => .array .int
  | 3 => .array .int
  | 4 => .array .int
  | 5 => .array .int
  | 6 => .array .int
  | 7 => .array .int
  | 8 => .array .int
  | 9 => .array .int
  | _ => .array .int
abbrev wsX10 : List Cond := u_ws RX1 TX1 11
theorem nmX1 : ∀ a, a < 11 → ∀ b, b < 11 → a ≠ b → (TX1 a).2.1 ≠ (TX1 b).2.1 := by decide +kernel
theorem tyX1_ok : ∀ k, k < 11 → parseFieldDescriptor (TX1 k).2.2.1 = some (tyX1 k) := by decide +kernel
abbrev cX1_init : ByteArray := prog_3_method_1_code
def yX1_init : MethodName := ⟨RX1, "<init>", "()V"⟩
abbrev cX1_copyFrom : ByteArray := prog_3_method_2_code
def yX1_copyFrom : MethodName := ⟨RX1, "copyFrom", "(LNameChart$Chart;)V"⟩
abbrev cX1_addName : ByteArray := prog_3_method_3_code
def yX1_addName : MethodName := ⟨RX1, "addName", "(III)I"⟩
abbrev cX1_addDot : ByteArray := prog_3_method_4_code
def yX1_addDot : MethodName := ⟨RX1, "addDot", "(II)I"⟩
abbrev cX1_has : ByteArray := prog_3_method_5_code
def yX1_has : MethodName := ⟨RX1, "has", "(I)Z"⟩
abbrev cX1_hasWay : ByteArray := prog_3_method_6_code
def yX1_hasWay : MethodName := ⟨RX1, "hasWay", "(II)Z"⟩
abbrev cX1_waysOf : ByteArray := prog_3_method_7_code
def yX1_waysOf : MethodName := ⟨RX1, "waysOf", "(I)I"⟩
abbrev cX1_isOfKind : ByteArray := prog_3_method_8_code
def yX1_isOfKind : MethodName := ⟨RX1, "isOfKind", "(II)Z"⟩
abbrev cX1_priceOf : ByteArray := prog_3_method_9_code
def yX1_priceOf : MethodName := ⟨RX1, "priceOf", "(II)I"⟩
abbrev cX1_wayByPrice : ByteArray := prog_3_method_10_code
def yX1_wayByPrice : MethodName := ⟨RX1, "wayByPrice", "(II)I"⟩
abbrev cX1_rankOf : ByteArray := prog_3_method_11_code
def yX1_rankOf : MethodName := ⟨RX1, "rankOf", "(II)I"⟩
abbrev cX1_gainOf : ByteArray := prog_3_method_12_code
def yX1_gainOf : MethodName := ⟨RX1, "gainOf", "(II)I"⟩
abbrev cX1_areNear : ByteArray := prog_3_method_13_code
def yX1_areNear : MethodName := ⟨RX1, "areNear", "(II)Z"⟩
abbrev cX1_reachAcross : ByteArray := prog_3_method_14_code
def yX1_reachAcross : MethodName := ⟨RX1, "reachAcross", "(I)I"⟩
abbrev cX1_reachDown : ByteArray := prog_3_method_15_code
def yX1_reachDown : MethodName := ⟨RX1, "reachDown", "(I)I"⟩
abbrev cX1_queue : ByteArray := prog_3_method_16_code
def yX1_queue : MethodName := ⟨RX1, "queue", "([I)V"⟩
abbrev cX1_isServedAhead : ByteArray := prog_3_method_17_code
def yX1_isServedAhead : MethodName := ⟨RX1, "isServedAhead", "(II)Z"⟩
def RX2 : String := "NameChart$History"
def TX2 : u_T := fun k => match k with
  | 0 => ("NameChart$History", "ring", "[LNameChart$Chart;", true)
  | 1 => ("NameChart$History", "next", "I", false)
  | _ => ("NameChart$History", "held", "I", false)
def tyX2 : Nat → FieldType := fun k => match k with
  | 0 => .array (.object "NameChart$Chart")
  | 1 => .int
  | _ => .int
abbrev wsX20 : List Cond := u_ws RX2 TX2 3
theorem nmX2 : ∀ a, a < 3 → ∀ b, b < 3 → a ≠ b → (TX2 a).2.1 ≠ (TX2 b).2.1 := by decide +kernel
theorem tyX2_ok : ∀ k, k < 3 → parseFieldDescriptor (TX2 k).2.2.1 = some (tyX2 k) := by decide +kernel
abbrev cX2_init : ByteArray := prog_4_method_1_code
def yX2_init : MethodName := ⟨RX2, "<init>", "()V"⟩
abbrev cX2_keep : ByteArray := prog_4_method_2_code
def yX2_keep : MethodName := ⟨RX2, "keep", "(LNameChart$Chart;)V"⟩
abbrev cX2_takeBack : ByteArray := prog_4_method_3_code
def yX2_takeBack : MethodName := ⟨RX2, "takeBack", "(LNameChart$Chart;)V"⟩
def RX3 : String := "NameChart$Layout"
def TX3 : u_T := fun k => match k with
  | 0 => ("NameChart$Layout", "boxes", "[LNameChart$Box;", true)
  | 1 => ("NameChart$Layout", "open", "[I", true)
  | _ => ("NameChart$Layout", "fresh", "Z", false)
def tyX3 : Nat → FieldType := fun k => match k with
  | 0 => .array (.object "NameChart$Box")
  | 1 => .array .int
  | _ => .boolean
abbrev wsX30 : List Cond := u_ws RX3 TX3 3
theorem nmX3 : ∀ a, a < 3 → ∀ b, b < 3 → a ≠ b → (TX3 a).2.1 ≠ (TX3 b).2.1 := by decide +kernel
theorem tyX3_ok : ∀ k, k < 3 → parseFieldDescriptor (TX3 k).2.2.1 = some (tyX3 k) := by decide +kernel
abbrev cX3_init : ByteArray := prog_5_method_1_code
def yX3_init : MethodName := ⟨RX3, "<init>", "()V"⟩
abbrev cX3_refresh : ByteArray := prog_5_method_2_code
def yX3_refresh : MethodName := ⟨RX3, "refresh", "(LNameChart$Chart;)V"⟩
abbrev cX3_boxOf : ByteArray := prog_5_method_3_code
def yX3_boxOf : MethodName := ⟨RX3, "boxOf", "(II)LNameChart$Box;"⟩
abbrev cX3_isOpen : ByteArray := prog_5_method_4_code
def yX3_isOpen : MethodName := ⟨RX3, "isOpen", "(II)Z"⟩
abbrev cX3_openHits : ByteArray := prog_5_method_5_code
def yX3_openHits : MethodName := ⟨RX3, "openHits", "(III)I"⟩
abbrev cX3_openWaysClash : ByteArray := prog_5_method_6_code
def yX3_openWaysClash : MethodName := ⟨RX3, "openWaysClash", "(II)Z"⟩
def RX4 : String := "NameChart$Parts"
def TX4 : u_T := fun k => match k with
  | 0 => ("NameChart$Parts", "of", "[I", true)
  | 1 => ("NameChart$Parts", "members", "[I", true)
  | 2 => ("NameChart$Parts", "found", "I", false)
  | 3 => ("NameChart$Parts", "greatest", "I", false)
  | _ => ("NameChart$Parts", "fresh", "Z", false)
def tyX4 : Nat → FieldType := fun k => match k with
  | 0 => .array .int
  | 1 => .array .int
  | 2 => .int
  | 3 => .int
  | _ => .boolean
abbrev wsX40 : List Cond := u_ws RX4 TX4 5
theorem nmX4 : ∀ a, a < 5 → ∀ b, b < 5 → a ≠ b → (TX4 a).2.1 ≠ (TX4 b).2.1 := by decide +kernel
theorem tyX4_ok : ∀ k, k < 5 → parseFieldDescriptor (TX4 k).2.2.1 = some (tyX4 k) := by decide +kernel
abbrev cX4_init : ByteArray := prog_6_method_1_code
def yX4_init : MethodName := ⟨RX4, "<init>", "()V"⟩
abbrev cX4_refresh : ByteArray := prog_6_method_2_code
def yX4_refresh : MethodName := ⟨RX4, "refresh", "(LNameChart$Chart;LNameChart$Layout;)V"⟩
abbrev cX4_joinBack : ByteArray := prog_6_method_3_code
def yX4_joinBack : MethodName := ⟨RX4, "joinBack", "(LNameChart$Chart;LNameChart$Layout;I)V"⟩
abbrev cX4_join : ByteArray := prog_6_method_4_code
def yX4_join : MethodName := ⟨RX4, "join", "(III)V"⟩
abbrev cX4_giveNumbers : ByteArray := prog_6_method_5_code
def yX4_giveNumbers : MethodName := ⟨RX4, "giveNumbers", "(I)V"⟩
def RX5 : String := "NameChart$Plan"
def TX5 : u_T := fun k => match k with
  | 0 => ("NameChart$Plan", "from", "[I", true)
  | 1 => ("NameChart$Plan", "by", "[I", true)
  | 2 => ("NameChart$Plan", "order", "[I", true)
  | 3 => ("NameChart$Plan", "box", "LNameChart$Box;", true)
  | 4 => ("NameChart$Plan", "second", "LNameChart$Box;", true)
  | _ => ("NameChart$Plan", "fresh", "Z", false)
def tyX5 : Nat → FieldType := fun k => match k with
  | 0 => .array .int
  | 1 => .array .int
  | 2 => .array .int
  | 3 => .object "NameChart$Box"
  | 4 => .object "NameChart$Box"
  | _ => .boolean
abbrev wsX50 : List Cond := u_ws RX5 TX5 6
theorem nmX5 : ∀ a, a < 6 → ∀ b, b < 6 → a ≠ b → (TX5 a).2.1 ≠ (TX5 b).2.1 := by decide +kernel
theorem tyX5_ok : ∀ k, k < 6 → parseFieldDescriptor (TX5 k).2.2.1 = some (tyX5 k) := by decide +kernel
abbrev cX5_init : ByteArray := prog_7_method_1_code
def yX5_init : MethodName := ⟨RX5, "<init>", "()V"⟩
abbrev cX5_refresh : ByteArray := prog_7_method_2_code
def yX5_refresh : MethodName := ⟨RX5, "refresh", "(LNameChart$Chart;)V"⟩
abbrev cX5_isThere : ByteArray := prog_7_method_3_code
def yX5_isThere : MethodName := ⟨RX5, "isThere", "(II)Z"⟩
abbrev cX5_settle : ByteArray := prog_7_method_4_code
def yX5_settle : MethodName := ⟨RX5, "settle", "(LNameChart$Chart;I)V"⟩
abbrev cX5_fits : ByteArray := prog_7_method_5_code
def yX5_fits : MethodName := ⟨RX5, "fits", "(LNameChart$Chart;III)Z"⟩
def RX6 : String := "NameChart$Search"
def TX6 : u_T := fun k => match k with
  | 0 => ("NameChart$Search", "member", "[I", true)
  | 1 => ("NameChart$Search", "must", "[Z", true)
  | 2 => ("NameChart$Search", "gain", "[I", true)
  | 3 => ("NameChart$Search", "banFront", "[J", true)
  | 4 => ("NameChart$Search", "banBack", "[J", true)
  | 5 => ("NameChart$Search", "members", "I", false)
  | 6 => ("NameChart$Search", "openFront", "J", false)
  | 7 => ("NameChart$Search", "openBack", "J", false)
  | 8 => ("NameChart$Search", "most", "I", false)
  | _ => ("NameChart$Search", "goal", "I", false)
def tyX6 : Nat → FieldType := fun k => match k with
  | 0 => .array .int
  | 1 => .array .boolean
  | 2 => .array .int
  | 3 => .array .long
  | 4 => .array .long
  | 5 => .int
  | 6 => .long
  | 7 => .long
  | 8 => .int
  | _ => .int
abbrev wsX60 : List Cond := u_ws RX6 TX6 10
theorem nmX6 : ∀ a, a < 10 → ∀ b, b < 10 → a ≠ b → (TX6 a).2.1 ≠ (TX6 b).2.1 := by decide +kernel
theorem tyX6_ok : ∀ k, k < 10 → parseFieldDescriptor (TX6 k).2.2.1 = some (tyX6 k) := by decide +kernel
abbrev cX6_init : ByteArray := prog_8_method_1_code
def yX6_init : MethodName := ⟨RX6, "<init>", "()V"⟩
abbrev cX6_seat : ByteArray := prog_8_method_2_code
def yX6_seat : MethodName := ⟨RX6, "seat", "(LNameChart$Chart;LNameChart$Layout;LNameChart$Parts;I[I)V"⟩
abbrev cX6_mostWorth : ByteArray := prog_8_method_3_code
def yX6_mostWorth : MethodName := ⟨RX6, "mostWorth", "()I"⟩
abbrev cX6_pickFirst : ByteArray := prog_8_method_4_code
def yX6_pickFirst : MethodName := ⟨RX6, "pickFirst", "(LNameChart$Chart;I[I)V"⟩
abbrev cX6_firstReaching : ByteArray := prog_8_method_5_code
def yX6_firstReaching : MethodName := ⟨RX6, "firstReaching", "(LNameChart$Chart;II)I"⟩
abbrev cX6_fixIfReaching : ByteArray := prog_8_method_6_code
def yX6_fixIfReaching : MethodName := ⟨RX6, "fixIfReaching", "(III)Z"⟩
abbrev cX6_gatherOptions : ByteArray := prog_8_method_7_code
def yX6_gatherOptions : MethodName := ⟨RX6, "gatherOptions", "(LNameChart$Chart;LNameChart$Layout;I)V"⟩
abbrev cX6_gatherBans : ByteArray := prog_8_method_8_code
def yX6_gatherBans : MethodName := ⟨RX6, "gatherBans", "(LNameChart$Chart;LNameChart$Layout;III)V"⟩
abbrev cX6_byRank : ByteArray := prog_8_method_9_code
def yX6_byRank : MethodName := ⟨RX6, "byRank", "(LNameChart$Chart;II)I"⟩
abbrev cX6_inFront : ByteArray := prog_8_method_10_code
def yX6_inFront : MethodName := ⟨RX6, "inFront", "(II)J"⟩
abbrev cX6_inBack : ByteArray := prog_8_method_11_code
def yX6_inBack : MethodName := ⟨RX6, "inBack", "(II)J"⟩
abbrev cX6_bitsOf : ByteArray := prog_8_method_12_code
def yX6_bitsOf : MethodName := ⟨RX6, "bitsOf", "(IJJ)I"⟩
abbrev cX6_descend : ByteArray := prog_8_method_13_code
def yX6_descend : MethodName := ⟨RX6, "descend", "(IJJI)V"⟩
abbrev cX6_hope : ByteArray := prog_8_method_14_code
def yX6_hope : MethodName := ⟨RX6, "hope", "(IJJ)I"⟩
abbrev cX6_isBeaten : ByteArray := prog_8_method_15_code
def yX6_isBeaten : MethodName := ⟨RX6, "isBeaten", "(IIIJJ)Z"⟩
def RX7 : String := "NameChart"
def TX7 : u_T := fun k => match k with
  | 0 => ("NameChart", "chart", "LNameChart$Chart;", true)
  | 1 => ("NameChart", "history", "LNameChart$History;", true)
  | 2 => ("NameChart", "layout", "LNameChart$Layout;", true)
  | 3 => ("NameChart", "split", "LNameChart$Parts;", true)
  | 4 => ("NameChart", "search", "LNameChart$Search;", true)
  | 5 => ("NameChart", "plan", "LNameChart$Plan;", true)
  | 6 => ("NameChart", "box", "LNameChart$Box;", true)
  | 7 => ("NameChart", "second", "LNameChart$Box;", true)
  | 8 => ("NameChart", "given", "[I", true)
  | _ => ("NameChart", "order", "[I", true)
def tyX7 : Nat → FieldType := fun k => match k with
  | 0 => .object "NameChart$Chart"
  | 1 => .object "NameChart$History"
  | 2 => .object "NameChart$Layout"
  | 3 => .object "NameChart$Parts"
  | 4 => .object "NameChart$Search"
  | 5 => .object "NameChart$Plan"
  | 6 => .object "NameChart$Box"
  | 7 => .object "NameChart$Box"
  | 8 => .array .int
  | _ => .array .int
abbrev wsX70 : List Cond := u_ws RX7 TX7 10
theorem nmX7 : ∀ a, a < 10 → ∀ b, b < 10 → a ≠ b → (TX7 a).2.1 ≠ (TX7 b).2.1 := by decide +kernel
theorem tyX7_ok : ∀ k, k < 10 → parseFieldDescriptor (TX7 k).2.2.1 = some (tyX7 k) := by decide +kernel
abbrev cX7_init : ByteArray := prog_1_method_1_code
def yX7_init : MethodName := ⟨RX7, "<init>", "()V"⟩
abbrev cX7_name : ByteArray := prog_1_method_2_code
def yX7_name : MethodName := ⟨RX7, "name", "(III)I"⟩
abbrev cX7_dot : ByteArray := prog_1_method_3_code
def yX7_dot : MethodName := ⟨RX7, "dot", "(II)I"⟩
abbrev cX7_move : ByteArray := prog_1_method_4_code
def yX7_move : MethodName := ⟨RX7, "move", "(III)I"⟩
abbrev cX7_weigh : ByteArray := prog_1_method_5_code
def yX7_weigh : MethodName := ⟨RX7, "weigh", "(II)I"⟩
abbrev cX7_size : ByteArray := prog_1_method_6_code
def yX7_size : MethodName := ⟨RX7, "size", "(III)I"⟩
abbrev cX7_about : ByteArray := prog_1_method_7_code
def yX7_about : MethodName := ⟨RX7, "about", "(II)I"⟩
abbrev cX7_isOf : ByteArray := prog_1_method_8_code
def yX7_isOf : MethodName := ⟨RX7, "isOf", "(II)I"⟩
abbrev cX7_way : ByteArray := prog_1_method_9_code
def yX7_way : MethodName := ⟨RX7, "way", "(IIII)I"⟩
abbrev cX7_clash : ByteArray := prog_1_method_10_code
def yX7_clash : MethodName := ⟨RX7, "clash", "(IIIII)I"⟩
abbrev cX7_clashes : ByteArray := prog_1_method_11_code
def yX7_clashes : MethodName := ⟨RX7, "clashes", "(II)I"⟩
abbrev cX7_parts : ByteArray := prog_1_method_12_code
def yX7_parts : MethodName := ⟨RX7, "parts", "()I"⟩
abbrev cX7_set : ByteArray := prog_1_method_13_code
def yX7_set : MethodName := ⟨RX7, "set", "(II)I"⟩
abbrev cX7_free : ByteArray := prog_1_method_14_code
def yX7_free : MethodName := ⟨RX7, "free", "(I)I"⟩
abbrev cX7_chosen : ByteArray := prog_1_method_15_code
def yX7_chosen : MethodName := ⟨RX7, "chosen", "(I)I"⟩
abbrev cX7_check : ByteArray := prog_1_method_16_code
def yX7_check : MethodName := ⟨RX7, "check", "()I"⟩
abbrev cX7_worth : ByteArray := prog_1_method_17_code
def yX7_worth : MethodName := ⟨RX7, "worth", "()I"⟩
abbrev cX7_best : ByteArray := prog_1_method_18_code
def yX7_best : MethodName := ⟨RX7, "best", "()I"⟩
abbrev cX7_quick : ByteArray := prog_1_method_19_code
def yX7_quick : MethodName := ⟨RX7, "quick", "()I"⟩
abbrev cX7_why : ByteArray := prog_1_method_20_code
def yX7_why : MethodName := ⟨RX7, "why", "(II)I"⟩
abbrev cX7_slack : ByteArray := prog_1_method_21_code
def yX7_slack : MethodName := ⟨RX7, "slack", "()I"⟩
abbrev cX7_steady : ByteArray := prog_1_method_22_code
def yX7_steady : MethodName := ⟨RX7, "steady", "(II)I"⟩
abbrev cX7_there : ByteArray := prog_1_method_23_code
def yX7_there : MethodName := ⟨RX7, "there", "(I)I"⟩
abbrev cX7_at : ByteArray := prog_1_method_24_code
def yX7_at : MethodName := ⟨RX7, "at", "(II)I"⟩
abbrev cX7_find : ByteArray := prog_1_method_25_code
def yX7_find : MethodName := ⟨RX7, "find", "(IIIII)I"⟩
abbrev cX7_undo : ByteArray := prog_1_method_26_code
def yX7_undo : MethodName := ⟨RX7, "undo", "()I"⟩
abbrev cX7_count : ByteArray := prog_1_method_27_code
def yX7_count : MethodName := ⟨RX7, "count", "(I)I"⟩
abbrev cX7_within : ByteArray := prog_1_method_28_code
def yX7_within : MethodName := ⟨RX7, "within", "(III)Z"⟩
abbrev cX7_isPlace : ByteArray := prog_1_method_29_code
def yX7_isPlace : MethodName := ⟨RX7, "isPlace", "(II)Z"⟩
abbrev cX7_isKind : ByteArray := prog_1_method_30_code
def yX7_isKind : MethodName := ⟨RX7, "isKind", "(I)Z"⟩
abbrev cX7_isZoom : ByteArray := prog_1_method_31_code
def yX7_isZoom : MethodName := ⟨RX7, "isZoom", "(I)Z"⟩
abbrev cX7_yes : ByteArray := prog_1_method_32_code
def yX7_yes : MethodName := ⟨RX7, "yes", "(Z)I"⟩
abbrev cX7_redraw : ByteArray := prog_1_method_33_code
def yX7_redraw : MethodName := ⟨RX7, "redraw", "()V"⟩
abbrev cX7_forgetDrawing : ByteArray := prog_1_method_34_code
def yX7_forgetDrawing : MethodName := ⟨RX7, "forgetDrawing", "()V"⟩
abbrev cX7_layOut : ByteArray := prog_1_method_35_code
def yX7_layOut : MethodName := ⟨RX7, "layOut", "()V"⟩
abbrev cX7_splitUp : ByteArray := prog_1_method_36_code
def yX7_splitUp : MethodName := ⟨RX7, "splitUp", "()V"⟩
abbrev cX7_openWays : ByteArray := prog_1_method_37_code
def yX7_openWays : MethodName := ⟨RX7, "openWays", "(I)I"⟩
abbrev cX7_partOf : ByteArray := prog_1_method_38_code
def yX7_partOf : MethodName := ⟨RX7, "partOf", "(I)I"⟩
abbrev cX7_greatestPart : ByteArray := prog_1_method_39_code
def yX7_greatestPart : MethodName := ⟨RX7, "greatestPart", "()I"⟩
abbrev cX7_musts : ByteArray := prog_1_method_40_code
def yX7_musts : MethodName := ⟨RX7, "musts", "()I"⟩
abbrev cX7_leftInHand : ByteArray := prog_1_method_41_code
def yX7_leftInHand : MethodName := ⟨RX7, "leftInHand", "()I"⟩
abbrev cX7_takeInHand : ByteArray := prog_1_method_42_code
def yX7_takeInHand : MethodName := ⟨RX7, "takeInHand", "()V"⟩
abbrev cX7_firstShut : ByteArray := prog_1_method_43_code
def yX7_firstShut : MethodName := ⟨RX7, "firstShut", "()I"⟩
abbrev cX7_firstClashing : ByteArray := prog_1_method_44_code
def yX7_firstClashing : MethodName := ⟨RX7, "firstClashing", "()I"⟩
abbrev cX7_firstMissing : ByteArray := prog_1_method_45_code
def yX7_firstMissing : MethodName := ⟨RX7, "firstMissing", "()I"⟩
abbrev cX7_firstHit : ByteArray := prog_1_method_46_code
def yX7_firstHit : MethodName := ⟨RX7, "firstHit", "(II[I)I"⟩
abbrev cX7_cheapestWay : ByteArray := prog_1_method_47_code
def yX7_cheapestWay : MethodName := ⟨RX7, "cheapestWay", "(I[I)I"⟩
def RX8 : String := "NameChartModel"
def TX8 : u_T := fun k => match k with
  | 0 => ("NameChartModel", "thrown", "I", false)
  | 1 => ("NameChartModel", "names", "I", false)
  | 2 => ("NameChartModel", "dots", "I", false)
  | 3 => ("NameChartModel", "kind", "[I", true)
  | 4 => ("NameChartModel", "px", "[I", true)
  | 5 => ("NameChartModel", "py", "[I", true)
  | 6 => ("NameChartModel", "wide", "[I", true)
  | 7 => ("NameChartModel", "high", "[I", true)
  | 8 => ("NameChartModel", "weight", "[I", true)
  | 9 => ("NameChartModel", "chosen", "[I", true)
  | 10 => ("NameChartModel", "dotX", "[I", true)
  | 11 => ("NameChartModel", "dotY", "[I", true)
  | 12 => ("NameChartModel", "old", "[I", true)
  | 13 => ("NameChartModel", "keptEnd", "I", false)
  | 14 => ("NameChartModel", "kept", "I", false)
  | 15 => ("NameChartModel", "pen", "I", false)
  | 16 => ("NameChartModel", "left", "I", false)
  | 17 => ("NameChartModel", "top", "I", false)
  | 18 => ("NameChartModel", "boxWide", "I", false)
  | 19 => ("NameChartModel", "boxHigh", "I", false)
  | 20 => ("NameChartModel", "one", "[J", true)
  | 21 => ("NameChartModel", "two", "[J", true)
  | 22 => ("NameChartModel", "fromUp", "J", false)
  | 23 => ("NameChartModel", "fromDown", "J", false)
  | 24 => ("NameChartModel", "toUp", "J", false)
  | 25 => ("NameChartModel", "toDown", "J", false)
  | 26 => ("NameChartModel", "part", "[I", true)
  | 27 => ("NameChartModel", "open", "[Z", true)
  | 28 => ("NameChartModel", "member", "[I", true)
  | 29 => ("NameChartModel", "members", "I", false)
  | 30 => ("NameChartModel", "tried", "[I", true)
  | 31 => ("NameChartModel", "best", "[I", true)
  | 32 => ("NameChartModel", "bestWorth", "I", false)
  | 33 => ("NameChartModel", "canBe", "[I", true)
  | 34 => ("NameChartModel", "all", "[I", true)
  | 35 => ("NameChartModel", "order", "[I", true)
  | 36 => ("NameChartModel", "zooms", "[I", true)
  | _ => ("NameChartModel", "zoomWays", "[I", true)
def tyX8 : Nat → FieldType := fun k => match k with
  | 0 => .int
  | 1 => .int
  | 2 => .int
  | 3 => .array .int
  | 4 => .array .int
  | 5 => .array .int
  | 6 => .array .int
  | 7 => .array .int
  | 8 => .array .int
  | 9 => .array .int
  | 10 => .array .int
  | 11 => .array .int
  | 12 => .array .int
  | 13 => .int
  | 14 => .int
  | 15 => .int
  | 16 => .int
  | 17 => .int
  | 18 => .int
  | 19 => .int
  | 20 => .array .long
  | 21 => .array .long
  | 22 => .long
  | 23 => .long
  | 24 => .long
  | 25 => .long
  | 26 => .array .int
  | 27 => .array .boolean
  | 28 => .array .int
  | 29 => .int
  | 30 => .array .int
  | 31 => .array .int
  | 32 => .int
  | 33 => .array .int
  | 34 => .array .int
  | 35 => .array .int
  | 36 => .array .int
  | _ => .array .int
abbrev wsX80 : List Cond := u_ws RX8 TX8 38
theorem nmX8 : ∀ a, a < 38 → ∀ b, b < 38 → a ≠ b → (TX8 a).2.1 ≠ (TX8 b).2.1 := by decide +kernel
theorem tyX8_ok : ∀ k, k < 38 → parseFieldDescriptor (TX8 k).2.2.1 = some (tyX8 k) := by decide +kernel
abbrev cX8_init : ByteArray := prog_10_method_1_code
def yX8_init : MethodName := ⟨RX8, "<init>", "()V"⟩
abbrev cX8_in : ByteArray := prog_10_method_3_code
def yX8_in : MethodName := ⟨RX8, "in", "(III)Z"⟩
abbrev cX8_write : ByteArray := prog_10_method_4_code
def yX8_write : MethodName := ⟨RX8, "write", "([II)V"⟩
abbrev cX8_read : ByteArray := prog_10_method_5_code
def yX8_read : MethodName := ⟨RX8, "read", "([II)V"⟩
abbrev cX8_keep : ByteArray := prog_10_method_6_code
def yX8_keep : MethodName := ⟨RX8, "keep", "()V"⟩
abbrev cX8_undo : ByteArray := prog_10_method_7_code
def yX8_undo : MethodName := ⟨RX8, "undo", "()I"⟩
abbrev cX8_isPlace : ByteArray := prog_10_method_8_code
def yX8_isPlace : MethodName := ⟨RX8, "isPlace", "(II)Z"⟩
abbrev cX8_isName : ByteArray := prog_10_method_9_code
def yX8_isName : MethodName := ⟨RX8, "isName", "(I)Z"⟩
abbrev cX8_name : ByteArray := prog_10_method_10_code
def yX8_name : MethodName := ⟨RX8, "name", "(III)I"⟩
abbrev cX8_dot : ByteArray := prog_10_method_11_code
def yX8_dot : MethodName := ⟨RX8, "dot", "(II)I"⟩
abbrev cX8_move : ByteArray := prog_10_method_12_code
def yX8_move : MethodName := ⟨RX8, "move", "(III)I"⟩
abbrev cX8_weigh : ByteArray := prog_10_method_13_code
def yX8_weigh : MethodName := ⟨RX8, "weigh", "(II)I"⟩
abbrev cX8_size : ByteArray := prog_10_method_14_code
def yX8_size : MethodName := ⟨RX8, "size", "(III)I"⟩
abbrev cX8_ways : ByteArray := prog_10_method_15_code
def yX8_ways : MethodName := ⟨RX8, "ways", "(I)I"⟩
abbrev cX8_isLed : ByteArray := prog_10_method_16_code
def yX8_isLed : MethodName := ⟨RX8, "isLed", "(II)Z"⟩
abbrev cX8_box : ByteArray := prog_10_method_17_code
def yX8_box : MethodName := ⟨RX8, "box", "(III)V"⟩
abbrev cX8_priceOf : ByteArray := prog_10_method_18_code
def yX8_priceOf : MethodName := ⟨RX8, "priceOf", "(II)I"⟩
abbrev cX8_covers : ByteArray := prog_10_method_19_code
def yX8_covers : MethodName := ⟨RX8, "covers", "(II)Z"⟩
abbrev cX8_isOpen : ByteArray := prog_10_method_20_code
def yX8_isOpen : MethodName := ⟨RX8, "isOpen", "(III)Z"⟩
abbrev cX8_take : ByteArray := prog_10_method_21_code
def yX8_take : MethodName := ⟨RX8, "take", "([JIII)V"⟩
abbrev cX8_signOf : ByteArray := prog_10_method_22_code
def yX8_signOf : MethodName := ⟨RX8, "signOf", "(J)I"⟩
abbrev cX8_side : ByteArray := prog_10_method_23_code
def yX8_side : MethodName := ⟨RX8, "side", "([JII[JI)I"⟩
abbrev cX8_isBetween : ByteArray := prog_10_method_24_code
def yX8_isBetween : MethodName := ⟨RX8, "isBetween", "(JJJ)Z"⟩
abbrev cX8_isOn : ByteArray := prog_10_method_25_code
def yX8_isOn : MethodName := ⟨RX8, "isOn", "([J[JI)Z"⟩
abbrev cX8_linesMeet : ByteArray := prog_10_method_26_code
def yX8_linesMeet : MethodName := ⟨RX8, "linesMeet", "()Z"⟩
abbrev cX8_cut : ByteArray := prog_10_method_27_code
def yX8_cut : MethodName := ⟨RX8, "cut", "(JJJJ)Z"⟩
abbrev cX8_crosses : ByteArray := prog_10_method_28_code
def yX8_crosses : MethodName := ⟨RX8, "crosses", "([J[J)Z"⟩
abbrev cX8_doClash : ByteArray := prog_10_method_29_code
def yX8_doClash : MethodName := ⟨RX8, "doClash", "(IIIII)Z"⟩
abbrev cX8_isWay : ByteArray := prog_10_method_30_code
def yX8_isWay : MethodName := ⟨RX8, "isWay", "(II)Z"⟩
abbrev cX8_way : ByteArray := prog_10_method_31_code
def yX8_way : MethodName := ⟨RX8, "way", "(IIII)I"⟩
abbrev cX8_clash : ByteArray := prog_10_method_32_code
def yX8_clash : MethodName := ⟨RX8, "clash", "(IIIII)I"⟩
abbrev cX8_clashes : ByteArray := prog_10_method_33_code
def yX8_clashes : MethodName := ⟨RX8, "clashes", "(II)I"⟩
abbrev cX8_findOpen : ByteArray := prog_10_method_34_code
def yX8_findOpen : MethodName := ⟨RX8, "findOpen", "()V"⟩
abbrev cX8_touch : ByteArray := prog_10_method_35_code
def yX8_touch : MethodName := ⟨RX8, "touch", "(II)Z"⟩
abbrev cX8_findParts : ByteArray := prog_10_method_36_code
def yX8_findParts : MethodName := ⟨RX8, "findParts", "()I"⟩
abbrev cX8_parts : ByteArray := prog_10_method_37_code
def yX8_parts : MethodName := ⟨RX8, "parts", "()I"⟩
abbrev cX8_most : ByteArray := prog_10_method_38_code
def yX8_most : MethodName := ⟨RX8, "most", "()I"⟩
abbrev cX8_about : ByteArray := prog_10_method_39_code
def yX8_about : MethodName := ⟨RX8, "about", "(II)I"⟩
abbrev cX8_isOf : ByteArray := prog_10_method_40_code
def yX8_isOf : MethodName := ⟨RX8, "isOf", "(II)I"⟩
abbrev cX8_set : ByteArray := prog_10_method_41_code
def yX8_set : MethodName := ⟨RX8, "set", "(II)I"⟩
abbrev cX8_free : ByteArray := prog_10_method_42_code
def yX8_free : MethodName := ⟨RX8, "free", "(I)I"⟩
abbrev cX8_chosen : ByteArray := prog_10_method_43_code
def yX8_chosen : MethodName := ⟨RX8, "chosen", "(I)I"⟩
abbrev cX8_clashInHand : ByteArray := prog_10_method_44_code
def yX8_clashInHand : MethodName := ⟨RX8, "clashInHand", "(II)I"⟩
abbrev cX8_check : ByteArray := prog_10_method_45_code
def yX8_check : MethodName := ⟨RX8, "check", "()I"⟩
abbrev cX8_worthOf : ByteArray := prog_10_method_46_code
def yX8_worthOf : MethodName := ⟨RX8, "worthOf", "(II)I"⟩
abbrev cX8_worthInHand : ByteArray := prog_10_method_47_code
def yX8_worthInHand : MethodName := ⟨RX8, "worthInHand", "()I"⟩
abbrev cX8_worth : ByteArray := prog_10_method_48_code
def yX8_worth : MethodName := ⟨RX8, "worth", "()I"⟩
abbrev cX8_fits : ByteArray := prog_10_method_49_code
def yX8_fits : MethodName := ⟨RX8, "fits", "(II)Z"⟩
abbrev cX8_tryFrom : ByteArray := prog_10_method_50_code
def yX8_tryFrom : MethodName := ⟨RX8, "tryFrom", "(II)V"⟩
abbrev cX8_bestOf : ByteArray := prog_10_method_51_code
def yX8_bestOf : MethodName := ⟨RX8, "bestOf", "(I)Z"⟩
abbrev cX8_best : ByteArray := prog_10_method_52_code
def yX8_best : MethodName := ⟨RX8, "best", "()I"⟩
abbrev cX8_isAhead : ByteArray := prog_10_method_53_code
def yX8_isAhead : MethodName := ⟨RX8, "isAhead", "(II)Z"⟩
abbrev cX8_findOrder : ByteArray := prog_10_method_54_code
def yX8_findOrder : MethodName := ⟨RX8, "findOrder", "()V"⟩
abbrev cX8_quick : ByteArray := prog_10_method_55_code
def yX8_quick : MethodName := ⟨RX8, "quick", "()I"⟩
abbrev cX8_why : ByteArray := prog_10_method_56_code
def yX8_why : MethodName := ⟨RX8, "why", "(II)I"⟩
abbrev cX8_slack : ByteArray := prog_10_method_57_code
def yX8_slack : MethodName := ⟨RX8, "slack", "()I"⟩
abbrev cX8_isSteady : ByteArray := prog_10_method_58_code
def yX8_isSteady : MethodName := ⟨RX8, "isSteady", "(III)Z"⟩
abbrev cX8_findSteady : ByteArray := prog_10_method_59_code
def yX8_findSteady : MethodName := ⟨RX8, "findSteady", "()V"⟩
abbrev cX8_steady : ByteArray := prog_10_method_60_code
def yX8_steady : MethodName := ⟨RX8, "steady", "(II)I"⟩
abbrev cX8_there : ByteArray := prog_10_method_61_code
def yX8_there : MethodName := ⟨RX8, "there", "(I)I"⟩
abbrev cX8_at : ByteArray := prog_10_method_62_code
def yX8_at : MethodName := ⟨RX8, "at", "(II)I"⟩
abbrev cX8_find : ByteArray := prog_10_method_63_code
def yX8_find : MethodName := ⟨RX8, "find", "(IIIII)I"⟩
abbrev cX8_count : ByteArray := prog_10_method_64_code
def yX8_count : MethodName := ⟨RX8, "count", "(I)I"⟩
def RJ6 : String := "java/lang/Integer"
abbrev cJ6_numberOfTrailingZeros_0f7a4 : ByteArray := prog_11_method_48_code
def yJ6_numberOfTrailingZeros_0f7a4 : MethodName := ⟨RJ6, "numberOfTrailingZeros", "(I)I"⟩
abbrev cJ6_bitCount_0f7a4 : ByteArray := prog_11_method_49_code
def yJ6_bitCount_0f7a4 : MethodName := ⟨RJ6, "bitCount", "(I)I"⟩
def RJ9 : String := "java/lang/Math"
abbrev cJ9_abs_0f7a4 : ByteArray := prog_12_method_59_code
def yJ9_abs_0f7a4 : MethodName := ⟨RJ9, "abs", "(I)I"⟩
abbrev cJ9_max_7cf53 : ByteArray := prog_12_method_65_code
def yJ9_max_7cf53 : MethodName := ⟨RJ9, "max", "(II)I"⟩
abbrev cJ9_min_7cf53 : ByteArray := prog_12_method_69_code
def yJ9_min_7cf53 : MethodName := ⟨RJ9, "min", "(II)I"⟩
def RJ10 : String := "java/lang/System"
def RJ7 : String := "java/util/Arrays"
abbrev cJ7_fill_53178 : ByteArray := prog_14_method_103_code
def yJ7_fill_53178 : MethodName := ⟨RJ7, "fill", "([II)V"⟩
def RL : String := "NameChartLaw"
abbrev cL_law : ByteArray := code
def yL_law : MethodName := ⟨RL, "law", "([I)Z"⟩
abbrev vwCl : List vw_C := [(RX0, TX0, 9), (RX1, TX1, 11), (RX2, TX2, 3), (RX3, TX3, 3), (RX4, TX4, 5), (RX5, TX5, 6), (RX6, TX6, 10), (RX7, TX7, 10), (RX8, TX8, 38)]
end
section
theorem dX0_init_0 : decode cX0_init 0 = .ok (.aload_n 0, 1) := by decide +kernel
theorem dX0_init_1 : decode cX0_init 1 = .ok (.invokespecial 3, 3) := by decide +kernel
theorem dX0_init_4 : decode cX0_init 4 = .ok (.return_, 1) := by decide +kernel
theorem dX0_lay_0 : decode cX0_lay 0 = .ok (.iload_n 3, 1) := by decide +kernel
theorem dX0_lay_1 : decode cX0_lay 1 = .ok (.bipush 8, 2) := by decide +kernel
theorem dX0_lay_3 : decode cX0_lay 3 = .ok (.if_icmp .lt 7, 3) := by decide +kernel
theorem dX0_lay_6 : decode cX0_lay 6 = .ok (.iconst 1, 1) := by decide +kernel
theorem dX0_lay_7 : decode cX0_lay 7 = .ok (.goto 4, 3) := by decide +kernel
theorem dX0_lay_10 : decode cX0_lay 10 = .ok (.iconst 0, 1) := by decide +kernel
theorem dX0_lay_11 : decode cX0_lay 11 = .ok (.istore 5, 2) := by decide +kernel
theorem dX0_lay_13 : decode cX0_lay 13 = .ok (.iload 5, 2) := by decide +kernel
theorem dX0_lay_15 : decode cX0_lay 15 = .ok (.ifCond .eq 17, 3) := by decide +kernel
theorem dX0_lay_18 : decode cX0_lay 18 = .ok (.aload_n 1, 1) := by decide +kernel
theorem dX0_lay_19 : decode cX0_lay 19 = .ok (.getfield 9, 3) := by decide +kernel
theorem dX0_lay_22 : decode cX0_lay 22 = .ok (.iload_n 2, 1) := by decide +kernel
theorem dX0_lay_23 : decode cX0_lay 23 = .ok (.iaload, 1) := by decide +kernel
theorem dX0_lay_24 : decode cX0_lay 24 = .ok (.iconst 1, 1) := by decide +kernel
theorem dX0_lay_25 : decode cX0_lay 25 = .ok (.if_icmp .ne 7, 3) := by decide +kernel
theorem dX0_lay_28 : decode cX0_lay 28 = .ok (.iconst 1, 1) := by decide +kernel
theorem dX0_lay_29 : decode cX0_lay 29 = .ok (.goto 4, 3) := by decide +kernel
theorem dX0_lay_32 : decode cX0_lay 32 = .ok (.iconst 0, 1) := by decide +kernel
theorem dX0_lay_33 : decode cX0_lay 33 = .ok (.istore 6, 2) := by decide +kernel
theorem dX0_lay_35 : decode cX0_lay 35 = .ok (.aload_n 0, 1) := by decide +kernel
theorem dX0_lay_36 : decode cX0_lay 36 = .ok (.iload 5, 2) := by decide +kernel
theorem dX0_lay_38 : decode cX0_lay 38 = .ok (.ifCond .eq 12, 3) := by decide +kernel
theorem dX0_lay_41 : decode cX0_lay 41 = .ok (.iload 6, 2) := by decide +kernel
theorem dX0_lay_43 : decode cX0_lay 43 = .ok (.ifCond .ne 7, 3) := by decide +kernel
theorem dX0_lay_46 : decode cX0_lay 46 = .ok (.iconst 1, 1) := by decide +kernel
theorem dX0_lay_47 : decode cX0_lay 47 = .ok (.goto 4, 3) := by decide +kernel
theorem dX0_lay_50 : decode cX0_lay 50 = .ok (.iconst 0, 1) := by decide +kernel
theorem dX0_lay_51 : decode cX0_lay 51 = .ok (.putfield 15, 3) := by decide +kernel
theorem dX0_lay_54 : decode cX0_lay 54 = .ok (.iload 6, 2) := by decide +kernel
theorem dX0_lay_56 : decode cX0_lay 56 = .ok (.ifCond .eq 16, 3) := by decide +kernel
theorem dX0_lay_59 : decode cX0_lay 59 = .ok (.aload_n 1, 1) := by decide +kernel
theorem dX0_lay_60 : decode cX0_lay 60 = .ok (.getfield 21, 3) := by decide +kernel
theorem dX0_lay_63 : decode cX0_lay 63 = .ok (.iload_n 2, 1) := by decide +kernel
theorem dX0_lay_64 : decode cX0_lay 64 = .ok (.iaload, 1) := by decide +kernel
theorem dX0_lay_65 : decode cX0_lay 65 = .ok (.iconst 1, 1) := by decide +kernel
theorem dX0_lay_66 : decode cX0_lay 66 = .ok (.iadd, 1) := by decide +kernel
theorem dX0_lay_67 : decode cX0_lay 67 = .ok (.iconst 2, 1) := by decide +kernel
theorem dX0_lay_68 : decode cX0_lay 68 = .ok (.idiv, 1) := by decide +kernel
theorem dX0_lay_69 : decode cX0_lay 69 = .ok (.goto 9, 3) := by decide +kernel
theorem dX0_lay_72 : decode cX0_lay 72 = .ok (.aload_n 1, 1) := by decide +kernel
theorem dX0_lay_73 : decode cX0_lay 73 = .ok (.getfield 21, 3) := by decide +kernel
theorem dX0_lay_76 : decode cX0_lay 76 = .ok (.iload_n 2, 1) := by decide +kernel
theorem dX0_lay_77 : decode cX0_lay 77 = .ok (.iaload, 1) := by decide +kernel
theorem dX0_lay_78 : decode cX0_lay 78 = .ok (.istore 7, 2) := by decide +kernel
theorem dX0_lay_80 : decode cX0_lay 80 = .ok (.iload 6, 2) := by decide +kernel
theorem dX0_lay_82 : decode cX0_lay 82 = .ok (.ifCond .eq 14, 3) := by decide +kernel
theorem dX0_lay_85 : decode cX0_lay 85 = .ok (.iconst 2, 1) := by decide +kernel
theorem dX0_lay_86 : decode cX0_lay 86 = .ok (.aload_n 1, 1) := by decide +kernel
theorem dX0_lay_87 : decode cX0_lay 87 = .ok (.getfield 24, 3) := by decide +kernel
theorem dX0_lay_90 : decode cX0_lay 90 = .ok (.iload_n 2, 1) := by decide +kernel
theorem dX0_lay_91 : decode cX0_lay 91 = .ok (.iaload, 1) := by decide +kernel
theorem dX0_lay_92 : decode cX0_lay 92 = .ok (.imul, 1) := by decide +kernel
theorem dX0_lay_93 : decode cX0_lay 93 = .ok (.goto 9, 3) := by decide +kernel
theorem dX0_lay_96 : decode cX0_lay 96 = .ok (.aload_n 1, 1) := by decide +kernel
theorem dX0_lay_97 : decode cX0_lay 97 = .ok (.getfield 24, 3) := by decide +kernel
theorem dX0_lay_100 : decode cX0_lay 100 = .ok (.iload_n 2, 1) := by decide +kernel
theorem dX0_lay_101 : decode cX0_lay 101 = .ok (.iaload, 1) := by decide +kernel
theorem dX0_lay_102 : decode cX0_lay 102 = .ok (.istore 8, 2) := by decide +kernel
theorem dX0_lay_104 : decode cX0_lay 104 = .ok (.aload_n 0, 1) := by decide +kernel
theorem dX0_lay_105 : decode cX0_lay 105 = .ok (.getfield 15, 3) := by decide +kernel
theorem dX0_lay_108 : decode cX0_lay 108 = .ok (.ifCond .eq 8, 3) := by decide +kernel
theorem dX0_lay_111 : decode cX0_lay 111 = .ok (.bipush 40, 2) := by decide +kernel
theorem dX0_lay_113 : decode cX0_lay 113 = .ok (.goto 4, 3) := by decide +kernel
theorem dX0_lay_116 : decode cX0_lay 116 = .ok (.iconst 2, 1) := by decide +kernel
theorem dX0_lay_117 : decode cX0_lay 117 = .ok (.istore 9, 2) := by decide +kernel
theorem dX0_lay_119 : decode cX0_lay 119 = .ok (.iload 5, 2) := by decide +kernel
theorem dX0_lay_121 : decode cX0_lay 121 = .ok (.ifCond .eq 10, 3) := by decide +kernel
theorem dX0_lay_124 : decode cX0_lay 124 = .ok (.iload_n 3, 1) := by decide +kernel
theorem dX0_lay_125 : decode cX0_lay 125 = .ok (.bipush 8, 2) := by decide +kernel
theorem dX0_lay_127 : decode cX0_lay 127 = .ok (.isub, 1) := by decide +kernel
theorem dX0_lay_128 : decode cX0_lay 128 = .ok (.goto 4, 3) := by decide +kernel
theorem dX0_lay_131 : decode cX0_lay 131 = .ok (.iload_n 3, 1) := by decide +kernel
theorem dX0_lay_132 : decode cX0_lay 132 = .ok (.istore 10, 2) := by decide +kernel
theorem dX0_lay_134 : decode cX0_lay 134 = .ok (.aload_n 1, 1) := by decide +kernel
theorem dX0_lay_135 : decode cX0_lay 135 = .ok (.getfield 27, 3) := by decide +kernel
theorem dX0_lay_138 : decode cX0_lay 138 = .ok (.iload_n 2, 1) := by decide +kernel
theorem dX0_lay_139 : decode cX0_lay 139 = .ok (.iaload, 1) := by decide +kernel
theorem dX0_lay_140 : decode cX0_lay 140 = .ok (.iload 4, 2) := by decide +kernel
theorem dX0_lay_142 : decode cX0_lay 142 = .ok (.ishl, 1) := by decide +kernel
theorem dX0_lay_143 : decode cX0_lay 143 = .ok (.istore 11, 2) := by decide +kernel
theorem dX0_lay_145 : decode cX0_lay 145 = .ok (.aload_n 1, 1) := by decide +kernel
theorem dX0_lay_146 : decode cX0_lay 146 = .ok (.getfield 30, 3) := by decide +kernel
theorem dX0_lay_149 : decode cX0_lay 149 = .ok (.iload_n 2, 1) := by decide +kernel
theorem dX0_lay_150 : decode cX0_lay 150 = .ok (.iaload, 1) := by decide +kernel
theorem dX0_lay_151 : decode cX0_lay 151 = .ok (.iload 4, 2) := by decide +kernel
theorem dX0_lay_153 : decode cX0_lay 153 = .ok (.ishl, 1) := by decide +kernel
theorem dX0_lay_154 : decode cX0_lay 154 = .ok (.istore 12, 2) := by decide +kernel
theorem dX0_lay_156 : decode cX0_lay 156 = .ok (.aload_n 0, 1) := by decide +kernel
theorem dX0_lay_157 : decode cX0_lay 157 = .ok (.iload 11, 2) := by decide +kernel
theorem dX0_lay_159 : decode cX0_lay 159 = .ok (.getstatic 33, 3) := by decide +kernel
theorem dX0_lay_162 : decode cX0_lay 162 = .ok (.iload 10, 2) := by decide +kernel
theorem dX0_lay_164 : decode cX0_lay 164 = .ok (.iaload, 1) := by decide +kernel
theorem dX0_lay_165 : decode cX0_lay 165 = .ok (.iload 7, 2) := by decide +kernel
theorem dX0_lay_167 : decode cX0_lay 167 = .ok (.iload 9, 2) := by decide +kernel
theorem dX0_lay_169 : decode cX0_lay 169 = .ok (.invokestatic 36, 3) := by decide +kernel
theorem dX0_lay_172 : decode cX0_lay 172 = .ok (.putfield 40, 3) := by decide +kernel
theorem dX0_lay_175 : decode cX0_lay 175 = .ok (.aload_n 0, 1) := by decide +kernel
theorem dX0_lay_176 : decode cX0_lay 176 = .ok (.iload 12, 2) := by decide +kernel
theorem dX0_lay_178 : decode cX0_lay 178 = .ok (.getstatic 44, 3) := by decide +kernel
theorem dX0_lay_181 : decode cX0_lay 181 = .ok (.iload 10, 2) := by decide +kernel
theorem dX0_lay_183 : decode cX0_lay 183 = .ok (.iaload, 1) := by decide +kernel
theorem dX0_lay_184 : decode cX0_lay 184 = .ok (.iload 8, 2) := by decide +kernel
theorem dX0_lay_186 : decode cX0_lay 186 = .ok (.iload 9, 2) := by decide +kernel
theorem dX0_lay_188 : decode cX0_lay 188 = .ok (.invokestatic 36, 3) := by decide +kernel
theorem dX0_lay_191 : decode cX0_lay 191 = .ok (.putfield 47, 3) := by decide +kernel
theorem dX0_lay_194 : decode cX0_lay 194 = .ok (.aload_n 0, 1) := by decide +kernel
theorem dX0_lay_195 : decode cX0_lay 195 = .ok (.aload_n 0, 1) := by decide +kernel
theorem dX0_lay_196 : decode cX0_lay 196 = .ok (.getfield 40, 3) := by decide +kernel
theorem dX0_lay_199 : decode cX0_lay 199 = .ok (.iload 7, 2) := by decide +kernel
theorem dX0_lay_201 : decode cX0_lay 201 = .ok (.iadd, 1) := by decide +kernel
theorem dX0_lay_202 : decode cX0_lay 202 = .ok (.putfield 50, 3) := by decide +kernel
theorem dX0_lay_205 : decode cX0_lay 205 = .ok (.aload_n 0, 1) := by decide +kernel
theorem dX0_lay_206 : decode cX0_lay 206 = .ok (.aload_n 0, 1) := by decide +kernel
theorem dX0_lay_207 : decode cX0_lay 207 = .ok (.getfield 47, 3) := by decide +kernel
theorem dX0_lay_210 : decode cX0_lay 210 = .ok (.iload 8, 2) := by decide +kernel
theorem dX0_lay_212 : decode cX0_lay 212 = .ok (.iadd, 1) := by decide +kernel
theorem dX0_lay_213 : decode cX0_lay 213 = .ok (.putfield 53, 3) := by decide +kernel
theorem dX0_lay_216 : decode cX0_lay 216 = .ok (.aload_n 0, 1) := by decide +kernel
theorem dX0_lay_217 : decode cX0_lay 217 = .ok (.iconst 2, 1) := by decide +kernel
theorem dX0_lay_218 : decode cX0_lay 218 = .ok (.iload 11, 2) := by decide +kernel
theorem dX0_lay_220 : decode cX0_lay 220 = .ok (.imul, 1) := by decide +kernel
theorem dX0_lay_221 : decode cX0_lay 221 = .ok (.putfield 56, 3) := by decide +kernel
theorem dX0_lay_224 : decode cX0_lay 224 = .ok (.aload_n 0, 1) := by decide +kernel
theorem dX0_lay_225 : decode cX0_lay 225 = .ok (.iconst 2, 1) := by decide +kernel
theorem dX0_lay_226 : decode cX0_lay 226 = .ok (.iload 12, 2) := by decide +kernel
theorem dX0_lay_228 : decode cX0_lay 228 = .ok (.imul, 1) := by decide +kernel
theorem dX0_lay_229 : decode cX0_lay 229 = .ok (.putfield 59, 3) := by decide +kernel
theorem dX0_lay_232 : decode cX0_lay 232 = .ok (.aload_n 0, 1) := by decide +kernel
theorem dX0_lay_233 : decode cX0_lay 233 = .ok (.aload_n 0, 1) := by decide +kernel
theorem dX0_lay_234 : decode cX0_lay 234 = .ok (.getfield 40, 3) := by decide +kernel
theorem dX0_lay_237 : decode cX0_lay 237 = .ok (.aload_n 0, 1) := by decide +kernel
theorem dX0_lay_238 : decode cX0_lay 238 = .ok (.getfield 50, 3) := by decide +kernel
theorem dX0_lay_241 : decode cX0_lay 241 = .ok (.iadd, 1) := by decide +kernel
theorem dX0_lay_242 : decode cX0_lay 242 = .ok (.putfield 62, 3) := by decide +kernel
theorem dX0_lay_245 : decode cX0_lay 245 = .ok (.aload_n 0, 1) := by decide +kernel
theorem dX0_lay_246 : decode cX0_lay 246 = .ok (.aload_n 0, 1) := by decide +kernel
theorem dX0_lay_247 : decode cX0_lay 247 = .ok (.getfield 47, 3) := by decide +kernel
theorem dX0_lay_250 : decode cX0_lay 250 = .ok (.aload_n 0, 1) := by decide +kernel
theorem dX0_lay_251 : decode cX0_lay 251 = .ok (.getfield 53, 3) := by decide +kernel
theorem dX0_lay_254 : decode cX0_lay 254 = .ok (.iadd, 1) := by decide +kernel
theorem dX0_lay_255 : decode cX0_lay 255 = .ok (.putfield 65, 3) := by decide +kernel
theorem dX0_lay_258 : decode cX0_lay 258 = .ok (.return_, 1) := by decide +kernel
theorem dX0_start_0 : decode cX0_start 0 = .ok (.iload_n 1, 1) := by decide +kernel
theorem dX0_start_1 : decode cX0_start 1 = .ok (.ifCond .ne 9, 3) := by decide +kernel
theorem dX0_start_4 : decode cX0_start 4 = .ok (.iload_n 0, 1) := by decide +kernel
theorem dX0_start_5 : decode cX0_start 5 = .ok (.iload_n 2, 1) := by decide +kernel
theorem dX0_start_6 : decode cX0_start 6 = .ok (.iconst 2, 1) := by decide +kernel
theorem dX0_start_7 : decode cX0_start 7 = .ok (.idiv, 1) := by decide +kernel
theorem dX0_start_8 : decode cX0_start 8 = .ok (.isub, 1) := by decide +kernel
theorem dX0_start_9 : decode cX0_start 9 = .ok (.ireturn, 1) := by decide +kernel
theorem dX0_start_10 : decode cX0_start 10 = .ok (.iload_n 1, 1) := by decide +kernel
theorem dX0_start_11 : decode cX0_start 11 = .ok (.ifCond .le 9, 3) := by decide +kernel
theorem dX0_start_14 : decode cX0_start 14 = .ok (.iload_n 0, 1) := by decide +kernel
theorem dX0_start_15 : decode cX0_start 15 = .ok (.iload_n 3, 1) := by decide +kernel
theorem dX0_start_16 : decode cX0_start 16 = .ok (.iadd, 1) := by decide +kernel
theorem dX0_start_17 : decode cX0_start 17 = .ok (.goto 8, 3) := by decide +kernel
theorem dX0_start_20 : decode cX0_start 20 = .ok (.iload_n 0, 1) := by decide +kernel
theorem dX0_start_21 : decode cX0_start 21 = .ok (.iload_n 3, 1) := by decide +kernel
theorem dX0_start_22 : decode cX0_start 22 = .ok (.isub, 1) := by decide +kernel
theorem dX0_start_23 : decode cX0_start 23 = .ok (.iload_n 2, 1) := by decide +kernel
theorem dX0_start_24 : decode cX0_start 24 = .ok (.isub, 1) := by decide +kernel
theorem dX0_start_25 : decode cX0_start 25 = .ok (.ireturn, 1) := by decide +kernel
theorem dX0_covers_0 : decode cX0_covers 0 = .ok (.aload_n 0, 1) := by decide +kernel
theorem dX0_covers_1 : decode cX0_covers 1 = .ok (.getfield 40, 3) := by decide +kernel
theorem dX0_covers_4 : decode cX0_covers 4 = .ok (.iload_n 1, 1) := by decide +kernel
theorem dX0_covers_5 : decode cX0_covers 5 = .ok (.if_icmp .ge 31, 3) := by decide +kernel
theorem dX0_covers_8 : decode cX0_covers 8 = .ok (.iload_n 1, 1) := by decide +kernel
theorem dX0_covers_9 : decode cX0_covers 9 = .ok (.aload_n 0, 1) := by decide +kernel
theorem dX0_covers_10 : decode cX0_covers 10 = .ok (.getfield 50, 3) := by decide +kernel
theorem dX0_covers_13 : decode cX0_covers 13 = .ok (.if_icmp .ge 23, 3) := by decide +kernel
theorem dX0_covers_16 : decode cX0_covers 16 = .ok (.aload_n 0, 1) := by decide +kernel
theorem dX0_covers_17 : decode cX0_covers 17 = .ok (.getfield 47, 3) := by decide +kernel
theorem dX0_covers_20 : decode cX0_covers 20 = .ok (.iload_n 2, 1) := by decide +kernel
theorem dX0_covers_21 : decode cX0_covers 21 = .ok (.if_icmp .ge 15, 3) := by decide +kernel
theorem dX0_covers_24 : decode cX0_covers 24 = .ok (.iload_n 2, 1) := by decide +kernel
theorem dX0_covers_25 : decode cX0_covers 25 = .ok (.aload_n 0, 1) := by decide +kernel
theorem dX0_covers_26 : decode cX0_covers 26 = .ok (.getfield 53, 3) := by decide +kernel
theorem dX0_covers_29 : decode cX0_covers 29 = .ok (.if_icmp .ge 7, 3) := by decide +kernel
theorem dX0_covers_32 : decode cX0_covers 32 = .ok (.iconst 1, 1) := by decide +kernel
theorem dX0_covers_33 : decode cX0_covers 33 = .ok (.goto 4, 3) := by decide +kernel
theorem dX0_covers_36 : decode cX0_covers 36 = .ok (.iconst 0, 1) := by decide +kernel
theorem dX0_covers_37 : decode cX0_covers 37 = .ok (.ireturn, 1) := by decide +kernel
theorem dX0_overlaps_0 : decode cX0_overlaps 0 = .ok (.aload_n 0, 1) := by decide +kernel
theorem dX0_overlaps_1 : decode cX0_overlaps 1 = .ok (.getfield 40, 3) := by decide +kernel
theorem dX0_overlaps_4 : decode cX0_overlaps 4 = .ok (.iload_n 3, 1) := by decide +kernel
theorem dX0_overlaps_5 : decode cX0_overlaps 5 = .ok (.if_icmp .ge 32, 3) := by decide +kernel
theorem dX0_overlaps_8 : decode cX0_overlaps 8 = .ok (.iload_n 1, 1) := by decide +kernel
theorem dX0_overlaps_9 : decode cX0_overlaps 9 = .ok (.aload_n 0, 1) := by decide +kernel
theorem dX0_overlaps_10 : decode cX0_overlaps 10 = .ok (.getfield 50, 3) := by decide +kernel
theorem dX0_overlaps_13 : decode cX0_overlaps 13 = .ok (.if_icmp .ge 24, 3) := by decide +kernel
theorem dX0_overlaps_16 : decode cX0_overlaps 16 = .ok (.aload_n 0, 1) := by decide +kernel
theorem dX0_overlaps_17 : decode cX0_overlaps 17 = .ok (.getfield 47, 3) := by decide +kernel
theorem dX0_overlaps_20 : decode cX0_overlaps 20 = .ok (.iload 4, 2) := by decide +kernel
theorem dX0_overlaps_22 : decode cX0_overlaps 22 = .ok (.if_icmp .ge 15, 3) := by decide +kernel
theorem dX0_overlaps_25 : decode cX0_overlaps 25 = .ok (.iload_n 2, 1) := by decide +kernel
theorem dX0_overlaps_26 : decode cX0_overlaps 26 = .ok (.aload_n 0, 1) := by decide +kernel
theorem dX0_overlaps_27 : decode cX0_overlaps 27 = .ok (.getfield 53, 3) := by decide +kernel
theorem dX0_overlaps_30 : decode cX0_overlaps 30 = .ok (.if_icmp .ge 7, 3) := by decide +kernel
theorem dX0_overlaps_33 : decode cX0_overlaps 33 = .ok (.iconst 1, 1) := by decide +kernel
theorem dX0_overlaps_34 : decode cX0_overlaps 34 = .ok (.goto 4, 3) := by decide +kernel
theorem dX0_overlaps_37 : decode cX0_overlaps 37 = .ok (.iconst 0, 1) := by decide +kernel
theorem dX0_overlaps_38 : decode cX0_overlaps 38 = .ok (.ireturn, 1) := by decide +kernel
theorem dX0_isOpen_0 : decode cX0_isOpen 0 = .ok (.sipush 1000, 3) := by decide +kernel
theorem dX0_isOpen_3 : decode cX0_isOpen 3 = .ok (.iload_n 2, 1) := by decide +kernel
theorem dX0_isOpen_4 : decode cX0_isOpen 4 = .ok (.ishl, 1) := by decide +kernel
theorem dX0_isOpen_5 : decode cX0_isOpen 5 = .ok (.istore_n 3, 1) := by decide +kernel
theorem dX0_isOpen_6 : decode cX0_isOpen 6 = .ok (.aload_n 0, 1) := by decide +kernel
theorem dX0_isOpen_7 : decode cX0_isOpen 7 = .ok (.getfield 40, 3) := by decide +kernel
theorem dX0_isOpen_10 : decode cX0_isOpen 10 = .ok (.ifCond .lt 26, 3) := by decide +kernel
theorem dX0_isOpen_13 : decode cX0_isOpen 13 = .ok (.aload_n 0, 1) := by decide +kernel
theorem dX0_isOpen_14 : decode cX0_isOpen 14 = .ok (.getfield 47, 3) := by decide +kernel
theorem dX0_isOpen_17 : decode cX0_isOpen 17 = .ok (.ifCond .lt 19, 3) := by decide +kernel
theorem dX0_isOpen_20 : decode cX0_isOpen 20 = .ok (.aload_n 0, 1) := by decide +kernel
theorem dX0_isOpen_21 : decode cX0_isOpen 21 = .ok (.getfield 50, 3) := by decide +kernel
theorem dX0_isOpen_24 : decode cX0_isOpen 24 = .ok (.iload_n 3, 1) := by decide +kernel
theorem dX0_isOpen_25 : decode cX0_isOpen 25 = .ok (.if_icmp .gt 11, 3) := by decide +kernel
theorem dX0_isOpen_28 : decode cX0_isOpen 28 = .ok (.aload_n 0, 1) := by decide +kernel
theorem dX0_isOpen_29 : decode cX0_isOpen 29 = .ok (.getfield 53, 3) := by decide +kernel
theorem dX0_isOpen_32 : decode cX0_isOpen 32 = .ok (.iload_n 3, 1) := by decide +kernel
theorem dX0_isOpen_33 : decode cX0_isOpen 33 = .ok (.if_icmp .le 5, 3) := by decide +kernel
theorem dX0_isOpen_36 : decode cX0_isOpen 36 = .ok (.iconst 0, 1) := by decide +kernel
theorem dX0_isOpen_37 : decode cX0_isOpen 37 = .ok (.ireturn, 1) := by decide +kernel
theorem dX0_isOpen_38 : decode cX0_isOpen 38 = .ok (.aload_n 0, 1) := by decide +kernel
theorem dX0_isOpen_39 : decode cX0_isOpen 39 = .ok (.aload_n 1, 1) := by decide +kernel
theorem dX0_isOpen_40 : decode cX0_isOpen 40 = .ok (.getfield 68, 3) := by decide +kernel
theorem dX0_isOpen_43 : decode cX0_isOpen 43 = .ok (.aload_n 1, 1) := by decide +kernel
theorem dX0_isOpen_44 : decode cX0_isOpen 44 = .ok (.getfield 71, 3) := by decide +kernel
theorem dX0_isOpen_47 : decode cX0_isOpen 47 = .ok (.aload_n 1, 1) := by decide +kernel
theorem dX0_isOpen_48 : decode cX0_isOpen 48 = .ok (.getfield 74, 3) := by decide +kernel
theorem dX0_isOpen_51 : decode cX0_isOpen 51 = .ok (.iload_n 2, 1) := by decide +kernel
theorem dX0_isOpen_52 : decode cX0_isOpen 52 = .ok (.invokevirtual 77, 3) := by decide +kernel
theorem dX0_isOpen_55 : decode cX0_isOpen 55 = .ok (.ifCond .ne 27, 3) := by decide +kernel
theorem dX0_isOpen_58 : decode cX0_isOpen 58 = .ok (.aload_n 0, 1) := by decide +kernel
theorem dX0_isOpen_59 : decode cX0_isOpen 59 = .ok (.aload_n 1, 1) := by decide +kernel
theorem dX0_isOpen_60 : decode cX0_isOpen 60 = .ok (.getfield 27, 3) := by decide +kernel
theorem dX0_isOpen_63 : decode cX0_isOpen 63 = .ok (.aload_n 1, 1) := by decide +kernel
theorem dX0_isOpen_64 : decode cX0_isOpen 64 = .ok (.getfield 30, 3) := by decide +kernel
theorem dX0_isOpen_67 : decode cX0_isOpen 67 = .ok (.aload_n 1, 1) := by decide +kernel
theorem dX0_isOpen_68 : decode cX0_isOpen 68 = .ok (.getfield 81, 3) := by decide +kernel
theorem dX0_isOpen_71 : decode cX0_isOpen 71 = .ok (.iload_n 2, 1) := by decide +kernel
theorem dX0_isOpen_72 : decode cX0_isOpen 72 = .ok (.invokevirtual 77, 3) := by decide +kernel
theorem dX0_isOpen_75 : decode cX0_isOpen 75 = .ok (.ifCond .ne 7, 3) := by decide +kernel
theorem dX0_isOpen_78 : decode cX0_isOpen 78 = .ok (.iconst 1, 1) := by decide +kernel
theorem dX0_isOpen_79 : decode cX0_isOpen 79 = .ok (.goto 4, 3) := by decide +kernel
theorem dX0_isOpen_82 : decode cX0_isOpen 82 = .ok (.iconst 0, 1) := by decide +kernel
theorem dX0_isOpen_83 : decode cX0_isOpen 83 = .ok (.ireturn, 1) := by decide +kernel
theorem dX0_coversAny_0 : decode cX0_coversAny 0 = .ok (.iconst 0, 1) := by decide +kernel
theorem dX0_coversAny_1 : decode cX0_coversAny 1 = .ok (.istore 5, 2) := by decide +kernel
theorem dX0_coversAny_3 : decode cX0_coversAny 3 = .ok (.iload 5, 2) := by decide +kernel
theorem dX0_coversAny_5 : decode cX0_coversAny 5 = .ok (.iload_n 3, 1) := by decide +kernel
theorem dX0_coversAny_6 : decode cX0_coversAny 6 = .ok (.if_icmp .ge 32, 3) := by decide +kernel
theorem dX0_coversAny_9 : decode cX0_coversAny 9 = .ok (.aload_n 0, 1) := by decide +kernel
theorem dX0_coversAny_10 : decode cX0_coversAny 10 = .ok (.aload_n 1, 1) := by decide +kernel
theorem dX0_coversAny_11 : decode cX0_coversAny 11 = .ok (.iload 5, 2) := by decide +kernel
theorem dX0_coversAny_13 : decode cX0_coversAny 13 = .ok (.iaload, 1) := by decide +kernel
theorem dX0_coversAny_14 : decode cX0_coversAny 14 = .ok (.iload 4, 2) := by decide +kernel
theorem dX0_coversAny_16 : decode cX0_coversAny 16 = .ok (.ishl, 1) := by decide +kernel
theorem dX0_coversAny_17 : decode cX0_coversAny 17 = .ok (.aload_n 2, 1) := by decide +kernel
theorem dX0_coversAny_18 : decode cX0_coversAny 18 = .ok (.iload 5, 2) := by decide +kernel
theorem dX0_coversAny_20 : decode cX0_coversAny 20 = .ok (.iaload, 1) := by decide +kernel
theorem dX0_coversAny_21 : decode cX0_coversAny 21 = .ok (.iload 4, 2) := by decide +kernel
theorem dX0_coversAny_23 : decode cX0_coversAny 23 = .ok (.ishl, 1) := by decide +kernel
theorem dX0_coversAny_24 : decode cX0_coversAny 24 = .ok (.invokevirtual 84, 3) := by decide +kernel
theorem dX0_coversAny_27 : decode cX0_coversAny 27 = .ok (.ifCond .eq 5, 3) := by decide +kernel
theorem dX0_coversAny_30 : decode cX0_coversAny 30 = .ok (.iconst 1, 1) := by decide +kernel
theorem dX0_coversAny_31 : decode cX0_coversAny 31 = .ok (.ireturn, 1) := by decide +kernel
theorem dX0_coversAny_32 : decode cX0_coversAny 32 = .ok (.iinc 5 1, 3) := by decide +kernel
theorem dX0_coversAny_35 : decode cX0_coversAny 35 = .ok (.goto (-32), 3) := by decide +kernel
theorem dX0_coversAny_38 : decode cX0_coversAny 38 = .ok (.iconst 0, 1) := by decide +kernel
theorem dX0_coversAny_39 : decode cX0_coversAny 39 = .ok (.ireturn, 1) := by decide +kernel
theorem dX0_hits_0 : decode cX0_hits 0 = .ok (.aload_n 0, 1) := by decide +kernel
theorem dX0_hits_1 : decode cX0_hits 1 = .ok (.aload_n 1, 1) := by decide +kernel
theorem dX0_hits_2 : decode cX0_hits 2 = .ok (.getfield 40, 3) := by decide +kernel
theorem dX0_hits_5 : decode cX0_hits 5 = .ok (.aload_n 1, 1) := by decide +kernel
theorem dX0_hits_6 : decode cX0_hits 6 = .ok (.getfield 47, 3) := by decide +kernel
theorem dX0_hits_9 : decode cX0_hits 9 = .ok (.aload_n 1, 1) := by decide +kernel
theorem dX0_hits_10 : decode cX0_hits 10 = .ok (.getfield 50, 3) := by decide +kernel
theorem dX0_hits_13 : decode cX0_hits 13 = .ok (.aload_n 1, 1) := by decide +kernel
theorem dX0_hits_14 : decode cX0_hits 14 = .ok (.getfield 53, 3) := by decide +kernel
theorem dX0_hits_17 : decode cX0_hits 17 = .ok (.invokevirtual 88, 3) := by decide +kernel
theorem dX0_hits_20 : decode cX0_hits 20 = .ok (.ifCond .eq 5, 3) := by decide +kernel
theorem dX0_hits_23 : decode cX0_hits 23 = .ok (.iconst 1, 1) := by decide +kernel
theorem dX0_hits_24 : decode cX0_hits 24 = .ok (.ireturn, 1) := by decide +kernel
theorem dX0_hits_25 : decode cX0_hits 25 = .ok (.aload_n 0, 1) := by decide +kernel
theorem dX0_hits_26 : decode cX0_hits 26 = .ok (.getfield 15, 3) := by decide +kernel
theorem dX0_hits_29 : decode cX0_hits 29 = .ok (.ifCond .eq 11, 3) := by decide +kernel
theorem dX0_hits_32 : decode cX0_hits 32 = .ok (.aload_n 0, 1) := by decide +kernel
theorem dX0_hits_33 : decode cX0_hits 33 = .ok (.aload_n 1, 1) := by decide +kernel
theorem dX0_hits_34 : decode cX0_hits 34 = .ok (.invokevirtual 92, 3) := by decide +kernel
theorem dX0_hits_37 : decode cX0_hits 37 = .ok (.ifCond .ne 18, 3) := by decide +kernel
theorem dX0_hits_40 : decode cX0_hits 40 = .ok (.aload_n 1, 1) := by decide +kernel
theorem dX0_hits_41 : decode cX0_hits 41 = .ok (.getfield 15, 3) := by decide +kernel
theorem dX0_hits_44 : decode cX0_hits 44 = .ok (.ifCond .eq 13, 3) := by decide +kernel
theorem dX0_hits_47 : decode cX0_hits 47 = .ok (.aload_n 1, 1) := by decide +kernel
theorem dX0_hits_48 : decode cX0_hits 48 = .ok (.aload_n 0, 1) := by decide +kernel
theorem dX0_hits_49 : decode cX0_hits 49 = .ok (.invokevirtual 92, 3) := by decide +kernel
theorem dX0_hits_52 : decode cX0_hits 52 = .ok (.ifCond .eq 5, 3) := by decide +kernel
theorem dX0_hits_55 : decode cX0_hits 55 = .ok (.iconst 1, 1) := by decide +kernel
theorem dX0_hits_56 : decode cX0_hits 56 = .ok (.ireturn, 1) := by decide +kernel
theorem dX0_hits_57 : decode cX0_hits 57 = .ok (.aload_n 0, 1) := by decide +kernel
theorem dX0_hits_58 : decode cX0_hits 58 = .ok (.getfield 15, 3) := by decide +kernel
theorem dX0_hits_61 : decode cX0_hits 61 = .ok (.ifCond .eq 22, 3) := by decide +kernel
theorem dX0_hits_64 : decode cX0_hits 64 = .ok (.aload_n 1, 1) := by decide +kernel
theorem dX0_hits_65 : decode cX0_hits 65 = .ok (.getfield 15, 3) := by decide +kernel
theorem dX0_hits_68 : decode cX0_hits 68 = .ok (.ifCond .eq 15, 3) := by decide +kernel
theorem dX0_hits_71 : decode cX0_hits 71 = .ok (.aload_n 0, 1) := by decide +kernel
theorem dX0_hits_72 : decode cX0_hits 72 = .ok (.aload_n 1, 1) := by decide +kernel
theorem dX0_hits_73 : decode cX0_hits 73 = .ok (.invokevirtual 96, 3) := by decide +kernel
theorem dX0_hits_76 : decode cX0_hits 76 = .ok (.ifCond .eq 7, 3) := by decide +kernel
theorem dX0_hits_79 : decode cX0_hits 79 = .ok (.iconst 1, 1) := by decide +kernel
theorem dX0_hits_80 : decode cX0_hits 80 = .ok (.goto 4, 3) := by decide +kernel
theorem dX0_hits_83 : decode cX0_hits 83 = .ok (.iconst 0, 1) := by decide +kernel
theorem dX0_hits_84 : decode cX0_hits 84 = .ok (.ireturn, 1) := by decide +kernel
theorem dX0_lineEnters_0 : decode cX0_lineEnters 0 = .ok (.iconst 2, 1) := by decide +kernel
theorem dX0_lineEnters_1 : decode cX0_lineEnters 1 = .ok (.aload_n 1, 1) := by decide +kernel
theorem dX0_lineEnters_2 : decode cX0_lineEnters 2 = .ok (.getfield 40, 3) := by decide +kernel
theorem dX0_lineEnters_5 : decode cX0_lineEnters 5 = .ok (.imul, 1) := by decide +kernel
theorem dX0_lineEnters_6 : decode cX0_lineEnters 6 = .ok (.istore_n 2, 1) := by decide +kernel
theorem dX0_lineEnters_7 : decode cX0_lineEnters 7 = .ok (.iconst 2, 1) := by decide +kernel
theorem dX0_lineEnters_8 : decode cX0_lineEnters 8 = .ok (.aload_n 1, 1) := by decide +kernel
theorem dX0_lineEnters_9 : decode cX0_lineEnters 9 = .ok (.getfield 47, 3) := by decide +kernel
theorem dX0_lineEnters_12 : decode cX0_lineEnters 12 = .ok (.imul, 1) := by decide +kernel
theorem dX0_lineEnters_13 : decode cX0_lineEnters 13 = .ok (.istore_n 3, 1) := by decide +kernel
theorem dX0_lineEnters_14 : decode cX0_lineEnters 14 = .ok (.iconst 2, 1) := by decide +kernel
theorem dX0_lineEnters_15 : decode cX0_lineEnters 15 = .ok (.aload_n 1, 1) := by decide +kernel
theorem dX0_lineEnters_16 : decode cX0_lineEnters 16 = .ok (.getfield 50, 3) := by decide +kernel
theorem dX0_lineEnters_19 : decode cX0_lineEnters 19 = .ok (.imul, 1) := by decide +kernel
theorem dX0_lineEnters_20 : decode cX0_lineEnters 20 = .ok (.istore 4, 2) := by decide +kernel
theorem dX0_lineEnters_22 : decode cX0_lineEnters 22 = .ok (.iconst 2, 1) := by decide +kernel
theorem dX0_lineEnters_23 : decode cX0_lineEnters 23 = .ok (.aload_n 1, 1) := by decide +kernel
theorem dX0_lineEnters_24 : decode cX0_lineEnters 24 = .ok (.getfield 53, 3) := by decide +kernel
theorem dX0_lineEnters_27 : decode cX0_lineEnters 27 = .ok (.imul, 1) := by decide +kernel
theorem dX0_lineEnters_28 : decode cX0_lineEnters 28 = .ok (.istore 5, 2) := by decide +kernel
theorem dX0_lineEnters_30 : decode cX0_lineEnters 30 = .ok (.aload_n 0, 1) := by decide +kernel
theorem dX0_lineEnters_31 : decode cX0_lineEnters 31 = .ok (.getfield 56, 3) := by decide +kernel
theorem dX0_lineEnters_34 : decode cX0_lineEnters 34 = .ok (.aload_n 0, 1) := by decide +kernel
theorem dX0_lineEnters_35 : decode cX0_lineEnters 35 = .ok (.getfield 62, 3) := by decide +kernel
theorem dX0_lineEnters_38 : decode cX0_lineEnters 38 = .ok (.invokestatic 99, 3) := by decide +kernel
theorem dX0_lineEnters_41 : decode cX0_lineEnters 41 = .ok (.iload_n 2, 1) := by decide +kernel
theorem dX0_lineEnters_42 : decode cX0_lineEnters 42 = .ok (.if_icmp .le 19, 3) := by decide +kernel
theorem dX0_lineEnters_45 : decode cX0_lineEnters 45 = .ok (.aload_n 0, 1) := by decide +kernel
theorem dX0_lineEnters_46 : decode cX0_lineEnters 46 = .ok (.getfield 56, 3) := by decide +kernel
theorem dX0_lineEnters_49 : decode cX0_lineEnters 49 = .ok (.aload_n 0, 1) := by decide +kernel
theorem dX0_lineEnters_50 : decode cX0_lineEnters 50 = .ok (.getfield 62, 3) := by decide +kernel
theorem dX0_lineEnters_53 : decode cX0_lineEnters 53 = .ok (.invokestatic 105, 3) := by decide +kernel
theorem dX0_lineEnters_56 : decode cX0_lineEnters 56 = .ok (.iload 4, 2) := by decide +kernel
theorem dX0_lineEnters_58 : decode cX0_lineEnters 58 = .ok (.if_icmp .lt 5, 3) := by decide +kernel
theorem dX0_lineEnters_61 : decode cX0_lineEnters 61 = .ok (.iconst 0, 1) := by decide +kernel
theorem dX0_lineEnters_62 : decode cX0_lineEnters 62 = .ok (.ireturn, 1) := by decide +kernel
theorem dX0_lineEnters_63 : decode cX0_lineEnters 63 = .ok (.aload_n 0, 1) := by decide +kernel
theorem dX0_lineEnters_64 : decode cX0_lineEnters 64 = .ok (.getfield 59, 3) := by decide +kernel
theorem dX0_lineEnters_67 : decode cX0_lineEnters 67 = .ok (.aload_n 0, 1) := by decide +kernel
theorem dX0_lineEnters_68 : decode cX0_lineEnters 68 = .ok (.getfield 65, 3) := by decide +kernel
theorem dX0_lineEnters_71 : decode cX0_lineEnters 71 = .ok (.invokestatic 99, 3) := by decide +kernel
theorem dX0_lineEnters_74 : decode cX0_lineEnters 74 = .ok (.iload_n 3, 1) := by decide +kernel
theorem dX0_lineEnters_75 : decode cX0_lineEnters 75 = .ok (.if_icmp .le 19, 3) := by decide +kernel
theorem dX0_lineEnters_78 : decode cX0_lineEnters 78 = .ok (.aload_n 0, 1) := by decide +kernel
theorem dX0_lineEnters_79 : decode cX0_lineEnters 79 = .ok (.getfield 59, 3) := by decide +kernel
theorem dX0_lineEnters_82 : decode cX0_lineEnters 82 = .ok (.aload_n 0, 1) := by decide +kernel
theorem dX0_lineEnters_83 : decode cX0_lineEnters 83 = .ok (.getfield 65, 3) := by decide +kernel
theorem dX0_lineEnters_86 : decode cX0_lineEnters 86 = .ok (.invokestatic 105, 3) := by decide +kernel
theorem dX0_lineEnters_89 : decode cX0_lineEnters 89 = .ok (.iload 5, 2) := by decide +kernel
theorem dX0_lineEnters_91 : decode cX0_lineEnters 91 = .ok (.if_icmp .lt 5, 3) := by decide +kernel
theorem dX0_lineEnters_94 : decode cX0_lineEnters 94 = .ok (.iconst 0, 1) := by decide +kernel
theorem dX0_lineEnters_95 : decode cX0_lineEnters 95 = .ok (.ireturn, 1) := by decide +kernel
theorem dX0_lineEnters_96 : decode cX0_lineEnters 96 = .ok (.aload_n 0, 1) := by decide +kernel
theorem dX0_lineEnters_97 : decode cX0_lineEnters 97 = .ok (.iload_n 2, 1) := by decide +kernel
theorem dX0_lineEnters_98 : decode cX0_lineEnters 98 = .ok (.iload_n 3, 1) := by decide +kernel
theorem dX0_lineEnters_99 : decode cX0_lineEnters 99 = .ok (.invokevirtual 108, 3) := by decide +kernel
theorem dX0_lineEnters_102 : decode cX0_lineEnters 102 = .ok (.istore 6, 2) := by decide +kernel
theorem dX0_lineEnters_104 : decode cX0_lineEnters 104 = .ok (.aload_n 0, 1) := by decide +kernel
theorem dX0_lineEnters_105 : decode cX0_lineEnters 105 = .ok (.iload 4, 2) := by decide +kernel
theorem dX0_lineEnters_107 : decode cX0_lineEnters 107 = .ok (.iload_n 3, 1) := by decide +kernel
theorem dX0_lineEnters_108 : decode cX0_lineEnters 108 = .ok (.invokevirtual 108, 3) := by decide +kernel
theorem dX0_lineEnters_111 : decode cX0_lineEnters 111 = .ok (.istore 7, 2) := by decide +kernel
theorem dX0_lineEnters_113 : decode cX0_lineEnters 113 = .ok (.aload_n 0, 1) := by decide +kernel
theorem dX0_lineEnters_114 : decode cX0_lineEnters 114 = .ok (.iload 4, 2) := by decide +kernel
theorem dX0_lineEnters_116 : decode cX0_lineEnters 116 = .ok (.iload 5, 2) := by decide +kernel
theorem dX0_lineEnters_118 : decode cX0_lineEnters 118 = .ok (.invokevirtual 108, 3) := by decide +kernel
theorem dX0_lineEnters_121 : decode cX0_lineEnters 121 = .ok (.istore 8, 2) := by decide +kernel
theorem dX0_lineEnters_123 : decode cX0_lineEnters 123 = .ok (.aload_n 0, 1) := by decide +kernel
theorem dX0_lineEnters_124 : decode cX0_lineEnters 124 = .ok (.iload_n 2, 1) := by decide +kernel
theorem dX0_lineEnters_125 : decode cX0_lineEnters 125 = .ok (.iload 5, 2) := by decide +kernel
theorem dX0_lineEnters_127 : decode cX0_lineEnters 127 = .ok (.invokevirtual 108, 3) := by decide +kernel
theorem dX0_lineEnters_130 : decode cX0_lineEnters 130 = .ok (.istore 9, 2) := by decide +kernel
theorem dX0_lineEnters_132 : decode cX0_lineEnters 132 = .ok (.iload 6, 2) := by decide +kernel
theorem dX0_lineEnters_134 : decode cX0_lineEnters 134 = .ok (.ifCond .lt 18, 3) := by decide +kernel
theorem dX0_lineEnters_137 : decode cX0_lineEnters 137 = .ok (.iload 7, 2) := by decide +kernel
theorem dX0_lineEnters_139 : decode cX0_lineEnters 139 = .ok (.ifCond .lt 13, 3) := by decide +kernel
theorem dX0_lineEnters_142 : decode cX0_lineEnters 142 = .ok (.iload 8, 2) := by decide +kernel
theorem dX0_lineEnters_144 : decode cX0_lineEnters 144 = .ok (.ifCond .lt 8, 3) := by decide +kernel
theorem dX0_lineEnters_147 : decode cX0_lineEnters 147 = .ok (.iload 9, 2) := by decide +kernel
theorem dX0_lineEnters_149 : decode cX0_lineEnters 149 = .ok (.ifCond .ge 7, 3) := by decide +kernel
theorem dX0_lineEnters_152 : decode cX0_lineEnters 152 = .ok (.iconst 1, 1) := by decide +kernel
theorem dX0_lineEnters_153 : decode cX0_lineEnters 153 = .ok (.goto 4, 3) := by decide +kernel
theorem dX0_lineEnters_156 : decode cX0_lineEnters 156 = .ok (.iconst 0, 1) := by decide +kernel
theorem dX0_lineEnters_157 : decode cX0_lineEnters 157 = .ok (.istore 10, 2) := by decide +kernel
theorem dX0_lineEnters_159 : decode cX0_lineEnters 159 = .ok (.iload 6, 2) := by decide +kernel
theorem dX0_lineEnters_161 : decode cX0_lineEnters 161 = .ok (.ifCond .gt 18, 3) := by decide +kernel
theorem dX0_lineEnters_164 : decode cX0_lineEnters 164 = .ok (.iload 7, 2) := by decide +kernel
theorem dX0_lineEnters_166 : decode cX0_lineEnters 166 = .ok (.ifCond .gt 13, 3) := by decide +kernel
theorem dX0_lineEnters_169 : decode cX0_lineEnters 169 = .ok (.iload 8, 2) := by decide +kernel
theorem dX0_lineEnters_171 : decode cX0_lineEnters 171 = .ok (.ifCond .gt 8, 3) := by decide +kernel
theorem dX0_lineEnters_174 : decode cX0_lineEnters 174 = .ok (.iload 9, 2) := by decide +kernel
theorem dX0_lineEnters_176 : decode cX0_lineEnters 176 = .ok (.ifCond .le 7, 3) := by decide +kernel
theorem dX0_lineEnters_179 : decode cX0_lineEnters 179 = .ok (.iconst 1, 1) := by decide +kernel
theorem dX0_lineEnters_180 : decode cX0_lineEnters 180 = .ok (.goto 4, 3) := by decide +kernel
theorem dX0_lineEnters_183 : decode cX0_lineEnters 183 = .ok (.iconst 0, 1) := by decide +kernel
theorem dX0_lineEnters_184 : decode cX0_lineEnters 184 = .ok (.istore 11, 2) := by decide +kernel
theorem dX0_lineEnters_186 : decode cX0_lineEnters 186 = .ok (.iload 10, 2) := by decide +kernel
theorem dX0_lineEnters_188 : decode cX0_lineEnters 188 = .ok (.ifCond .eq 12, 3) := by decide +kernel
theorem dX0_lineEnters_191 : decode cX0_lineEnters 191 = .ok (.iload 11, 2) := by decide +kernel
theorem dX0_lineEnters_193 : decode cX0_lineEnters 193 = .ok (.ifCond .eq 7, 3) := by decide +kernel
theorem dX0_lineEnters_196 : decode cX0_lineEnters 196 = .ok (.iconst 1, 1) := by decide +kernel
theorem dX0_lineEnters_197 : decode cX0_lineEnters 197 = .ok (.goto 4, 3) := by decide +kernel
theorem dX0_lineEnters_200 : decode cX0_lineEnters 200 = .ok (.iconst 0, 1) := by decide +kernel
theorem dX0_lineEnters_201 : decode cX0_lineEnters 201 = .ok (.ireturn, 1) := by decide +kernel
theorem dX0_linesMeet_0 : decode cX0_linesMeet 0 = .ok (.aload_n 0, 1) := by decide +kernel
theorem dX0_linesMeet_1 : decode cX0_linesMeet 1 = .ok (.getfield 56, 3) := by decide +kernel
theorem dX0_linesMeet_4 : decode cX0_linesMeet 4 = .ok (.aload_n 0, 1) := by decide +kernel
theorem dX0_linesMeet_5 : decode cX0_linesMeet 5 = .ok (.getfield 62, 3) := by decide +kernel
theorem dX0_linesMeet_8 : decode cX0_linesMeet 8 = .ok (.invokestatic 99, 3) := by decide +kernel
theorem dX0_linesMeet_11 : decode cX0_linesMeet 11 = .ok (.aload_n 1, 1) := by decide +kernel
theorem dX0_linesMeet_12 : decode cX0_linesMeet 12 = .ok (.getfield 56, 3) := by decide +kernel
theorem dX0_linesMeet_15 : decode cX0_linesMeet 15 = .ok (.aload_n 1, 1) := by decide +kernel
theorem dX0_linesMeet_16 : decode cX0_linesMeet 16 = .ok (.getfield 62, 3) := by decide +kernel
theorem dX0_linesMeet_19 : decode cX0_linesMeet 19 = .ok (.invokestatic 105, 3) := by decide +kernel
theorem dX0_linesMeet_22 : decode cX0_linesMeet 22 = .ok (.if_icmp .lt 28, 3) := by decide +kernel
theorem dX0_linesMeet_25 : decode cX0_linesMeet 25 = .ok (.aload_n 1, 1) := by decide +kernel
theorem dX0_linesMeet_26 : decode cX0_linesMeet 26 = .ok (.getfield 56, 3) := by decide +kernel
theorem dX0_linesMeet_29 : decode cX0_linesMeet 29 = .ok (.aload_n 1, 1) := by decide +kernel
theorem dX0_linesMeet_30 : decode cX0_linesMeet 30 = .ok (.getfield 62, 3) := by decide +kernel
theorem dX0_linesMeet_33 : decode cX0_linesMeet 33 = .ok (.invokestatic 99, 3) := by decide +kernel
theorem dX0_linesMeet_36 : decode cX0_linesMeet 36 = .ok (.aload_n 0, 1) := by decide +kernel
theorem dX0_linesMeet_37 : decode cX0_linesMeet 37 = .ok (.getfield 56, 3) := by decide +kernel
theorem dX0_linesMeet_40 : decode cX0_linesMeet 40 = .ok (.aload_n 0, 1) := by decide +kernel
theorem dX0_linesMeet_41 : decode cX0_linesMeet 41 = .ok (.getfield 62, 3) := by decide +kernel
theorem dX0_linesMeet_44 : decode cX0_linesMeet 44 = .ok (.invokestatic 105, 3) := by decide +kernel
theorem dX0_linesMeet_47 : decode cX0_linesMeet 47 = .ok (.if_icmp .ge 5, 3) := by decide +kernel
theorem dX0_linesMeet_50 : decode cX0_linesMeet 50 = .ok (.iconst 0, 1) := by decide +kernel
theorem dX0_linesMeet_51 : decode cX0_linesMeet 51 = .ok (.ireturn, 1) := by decide +kernel
theorem dX0_linesMeet_52 : decode cX0_linesMeet 52 = .ok (.aload_n 0, 1) := by decide +kernel
theorem dX0_linesMeet_53 : decode cX0_linesMeet 53 = .ok (.getfield 59, 3) := by decide +kernel
theorem dX0_linesMeet_56 : decode cX0_linesMeet 56 = .ok (.aload_n 0, 1) := by decide +kernel
theorem dX0_linesMeet_57 : decode cX0_linesMeet 57 = .ok (.getfield 65, 3) := by decide +kernel
theorem dX0_linesMeet_60 : decode cX0_linesMeet 60 = .ok (.invokestatic 99, 3) := by decide +kernel
theorem dX0_linesMeet_63 : decode cX0_linesMeet 63 = .ok (.aload_n 1, 1) := by decide +kernel
theorem dX0_linesMeet_64 : decode cX0_linesMeet 64 = .ok (.getfield 59, 3) := by decide +kernel
theorem dX0_linesMeet_67 : decode cX0_linesMeet 67 = .ok (.aload_n 1, 1) := by decide +kernel
theorem dX0_linesMeet_68 : decode cX0_linesMeet 68 = .ok (.getfield 65, 3) := by decide +kernel
theorem dX0_linesMeet_71 : decode cX0_linesMeet 71 = .ok (.invokestatic 105, 3) := by decide +kernel
theorem dX0_linesMeet_74 : decode cX0_linesMeet 74 = .ok (.if_icmp .lt 28, 3) := by decide +kernel
theorem dX0_linesMeet_77 : decode cX0_linesMeet 77 = .ok (.aload_n 1, 1) := by decide +kernel
theorem dX0_linesMeet_78 : decode cX0_linesMeet 78 = .ok (.getfield 59, 3) := by decide +kernel
theorem dX0_linesMeet_81 : decode cX0_linesMeet 81 = .ok (.aload_n 1, 1) := by decide +kernel
theorem dX0_linesMeet_82 : decode cX0_linesMeet 82 = .ok (.getfield 65, 3) := by decide +kernel
theorem dX0_linesMeet_85 : decode cX0_linesMeet 85 = .ok (.invokestatic 99, 3) := by decide +kernel
theorem dX0_linesMeet_88 : decode cX0_linesMeet 88 = .ok (.aload_n 0, 1) := by decide +kernel
theorem dX0_linesMeet_89 : decode cX0_linesMeet 89 = .ok (.getfield 59, 3) := by decide +kernel
theorem dX0_linesMeet_92 : decode cX0_linesMeet 92 = .ok (.aload_n 0, 1) := by decide +kernel
theorem dX0_linesMeet_93 : decode cX0_linesMeet 93 = .ok (.getfield 65, 3) := by decide +kernel
theorem dX0_linesMeet_96 : decode cX0_linesMeet 96 = .ok (.invokestatic 105, 3) := by decide +kernel
theorem dX0_linesMeet_99 : decode cX0_linesMeet 99 = .ok (.if_icmp .ge 5, 3) := by decide +kernel
theorem dX0_linesMeet_102 : decode cX0_linesMeet 102 = .ok (.iconst 0, 1) := by decide +kernel
theorem dX0_linesMeet_103 : decode cX0_linesMeet 103 = .ok (.ireturn, 1) := by decide +kernel
theorem dX0_linesMeet_104 : decode cX0_linesMeet 104 = .ok (.aload_n 0, 1) := by decide +kernel
theorem dX0_linesMeet_105 : decode cX0_linesMeet 105 = .ok (.aload_n 1, 1) := by decide +kernel
theorem dX0_linesMeet_106 : decode cX0_linesMeet 106 = .ok (.getfield 56, 3) := by decide +kernel
theorem dX0_linesMeet_109 : decode cX0_linesMeet 109 = .ok (.aload_n 1, 1) := by decide +kernel
theorem dX0_linesMeet_110 : decode cX0_linesMeet 110 = .ok (.getfield 59, 3) := by decide +kernel
theorem dX0_linesMeet_113 : decode cX0_linesMeet 113 = .ok (.invokevirtual 108, 3) := by decide +kernel
theorem dX0_linesMeet_116 : decode cX0_linesMeet 116 = .ok (.istore_n 2, 1) := by decide +kernel
theorem dX0_linesMeet_117 : decode cX0_linesMeet 117 = .ok (.aload_n 0, 1) := by decide +kernel
theorem dX0_linesMeet_118 : decode cX0_linesMeet 118 = .ok (.aload_n 1, 1) := by decide +kernel
theorem dX0_linesMeet_119 : decode cX0_linesMeet 119 = .ok (.getfield 62, 3) := by decide +kernel
theorem dX0_linesMeet_122 : decode cX0_linesMeet 122 = .ok (.aload_n 1, 1) := by decide +kernel
theorem dX0_linesMeet_123 : decode cX0_linesMeet 123 = .ok (.getfield 65, 3) := by decide +kernel
theorem dX0_linesMeet_126 : decode cX0_linesMeet 126 = .ok (.invokevirtual 108, 3) := by decide +kernel
theorem dX0_linesMeet_129 : decode cX0_linesMeet 129 = .ok (.istore_n 3, 1) := by decide +kernel
theorem dX0_linesMeet_130 : decode cX0_linesMeet 130 = .ok (.aload_n 1, 1) := by decide +kernel
theorem dX0_linesMeet_131 : decode cX0_linesMeet 131 = .ok (.aload_n 0, 1) := by decide +kernel
theorem dX0_linesMeet_132 : decode cX0_linesMeet 132 = .ok (.getfield 56, 3) := by decide +kernel
theorem dX0_linesMeet_135 : decode cX0_linesMeet 135 = .ok (.aload_n 0, 1) := by decide +kernel
theorem dX0_linesMeet_136 : decode cX0_linesMeet 136 = .ok (.getfield 59, 3) := by decide +kernel
theorem dX0_linesMeet_139 : decode cX0_linesMeet 139 = .ok (.invokevirtual 108, 3) := by decide +kernel
theorem dX0_linesMeet_142 : decode cX0_linesMeet 142 = .ok (.istore 4, 2) := by decide +kernel
theorem dX0_linesMeet_144 : decode cX0_linesMeet 144 = .ok (.aload_n 1, 1) := by decide +kernel
theorem dX0_linesMeet_145 : decode cX0_linesMeet 145 = .ok (.aload_n 0, 1) := by decide +kernel
theorem dX0_linesMeet_146 : decode cX0_linesMeet 146 = .ok (.getfield 62, 3) := by decide +kernel
theorem dX0_linesMeet_149 : decode cX0_linesMeet 149 = .ok (.aload_n 0, 1) := by decide +kernel
theorem dX0_linesMeet_150 : decode cX0_linesMeet 150 = .ok (.getfield 65, 3) := by decide +kernel
theorem dX0_linesMeet_153 : decode cX0_linesMeet 153 = .ok (.invokevirtual 108, 3) := by decide +kernel
theorem dX0_linesMeet_156 : decode cX0_linesMeet 156 = .ok (.istore 5, 2) := by decide +kernel
theorem dX0_linesMeet_158 : decode cX0_linesMeet 158 = .ok (.iload_n 2, 1) := by decide +kernel
theorem dX0_linesMeet_159 : decode cX0_linesMeet 159 = .ok (.ifCond .ge 7, 3) := by decide +kernel
theorem dX0_linesMeet_162 : decode cX0_linesMeet 162 = .ok (.iload_n 3, 1) := by decide +kernel
theorem dX0_linesMeet_163 : decode cX0_linesMeet 163 = .ok (.ifCond .lt 11, 3) := by decide +kernel
theorem dX0_linesMeet_166 : decode cX0_linesMeet 166 = .ok (.iload_n 2, 1) := by decide +kernel
theorem dX0_linesMeet_167 : decode cX0_linesMeet 167 = .ok (.ifCond .le 11, 3) := by decide +kernel
theorem dX0_linesMeet_170 : decode cX0_linesMeet 170 = .ok (.iload_n 3, 1) := by decide +kernel
theorem dX0_linesMeet_171 : decode cX0_linesMeet 171 = .ok (.ifCond .le 7, 3) := by decide +kernel
theorem dX0_linesMeet_174 : decode cX0_linesMeet 174 = .ok (.iconst 1, 1) := by decide +kernel
theorem dX0_linesMeet_175 : decode cX0_linesMeet 175 = .ok (.goto 4, 3) := by decide +kernel
theorem dX0_linesMeet_178 : decode cX0_linesMeet 178 = .ok (.iconst 0, 1) := by decide +kernel
theorem dX0_linesMeet_179 : decode cX0_linesMeet 179 = .ok (.istore 6, 2) := by decide +kernel
theorem dX0_linesMeet_181 : decode cX0_linesMeet 181 = .ok (.iload 4, 2) := by decide +kernel
theorem dX0_linesMeet_183 : decode cX0_linesMeet 183 = .ok (.ifCond .ge 8, 3) := by decide +kernel
theorem dX0_linesMeet_186 : decode cX0_linesMeet 186 = .ok (.iload 5, 2) := by decide +kernel
theorem dX0_linesMeet_188 : decode cX0_linesMeet 188 = .ok (.ifCond .lt 13, 3) := by decide +kernel
theorem dX0_linesMeet_191 : decode cX0_linesMeet 191 = .ok (.iload 4, 2) := by decide +kernel
theorem dX0_linesMeet_193 : decode cX0_linesMeet 193 = .ok (.ifCond .le 12, 3) := by decide +kernel
theorem dX0_linesMeet_196 : decode cX0_linesMeet 196 = .ok (.iload 5, 2) := by decide +kernel
theorem dX0_linesMeet_198 : decode cX0_linesMeet 198 = .ok (.ifCond .le 7, 3) := by decide +kernel
theorem dX0_linesMeet_201 : decode cX0_linesMeet 201 = .ok (.iconst 1, 1) := by decide +kernel
theorem dX0_linesMeet_202 : decode cX0_linesMeet 202 = .ok (.goto 4, 3) := by decide +kernel
theorem dX0_linesMeet_205 : decode cX0_linesMeet 205 = .ok (.iconst 0, 1) := by decide +kernel
theorem dX0_linesMeet_206 : decode cX0_linesMeet 206 = .ok (.istore 7, 2) := by decide +kernel
theorem dX0_linesMeet_208 : decode cX0_linesMeet 208 = .ok (.iload 6, 2) := by decide +kernel
theorem dX0_linesMeet_210 : decode cX0_linesMeet 210 = .ok (.ifCond .ne 12, 3) := by decide +kernel
theorem dX0_linesMeet_213 : decode cX0_linesMeet 213 = .ok (.iload 7, 2) := by decide +kernel
theorem dX0_linesMeet_215 : decode cX0_linesMeet 215 = .ok (.ifCond .ne 7, 3) := by decide +kernel
theorem dX0_linesMeet_218 : decode cX0_linesMeet 218 = .ok (.iconst 1, 1) := by decide +kernel
theorem dX0_linesMeet_219 : decode cX0_linesMeet 219 = .ok (.goto 4, 3) := by decide +kernel
theorem dX0_linesMeet_222 : decode cX0_linesMeet 222 = .ok (.iconst 0, 1) := by decide +kernel
theorem dX0_linesMeet_223 : decode cX0_linesMeet 223 = .ok (.ireturn, 1) := by decide +kernel
theorem dX0_sideOf_0 : decode cX0_sideOf 0 = .ok (.aload_n 0, 1) := by decide +kernel
theorem dX0_sideOf_1 : decode cX0_sideOf 1 = .ok (.getfield 62, 3) := by decide +kernel
theorem dX0_sideOf_4 : decode cX0_sideOf 4 = .ok (.aload_n 0, 1) := by decide +kernel
theorem dX0_sideOf_5 : decode cX0_sideOf 5 = .ok (.getfield 56, 3) := by decide +kernel
theorem dX0_sideOf_8 : decode cX0_sideOf 8 = .ok (.isub, 1) := by decide +kernel
theorem dX0_sideOf_9 : decode cX0_sideOf 9 = .ok (.iload_n 2, 1) := by decide +kernel
theorem dX0_sideOf_10 : decode cX0_sideOf 10 = .ok (.aload_n 0, 1) := by decide +kernel
theorem dX0_sideOf_11 : decode cX0_sideOf 11 = .ok (.getfield 59, 3) := by decide +kernel
theorem dX0_sideOf_14 : decode cX0_sideOf 14 = .ok (.isub, 1) := by decide +kernel
theorem dX0_sideOf_15 : decode cX0_sideOf 15 = .ok (.imul, 1) := by decide +kernel
theorem dX0_sideOf_16 : decode cX0_sideOf 16 = .ok (.aload_n 0, 1) := by decide +kernel
theorem dX0_sideOf_17 : decode cX0_sideOf 17 = .ok (.getfield 65, 3) := by decide +kernel
theorem dX0_sideOf_20 : decode cX0_sideOf 20 = .ok (.aload_n 0, 1) := by decide +kernel
theorem dX0_sideOf_21 : decode cX0_sideOf 21 = .ok (.getfield 59, 3) := by decide +kernel
theorem dX0_sideOf_24 : decode cX0_sideOf 24 = .ok (.isub, 1) := by decide +kernel
theorem dX0_sideOf_25 : decode cX0_sideOf 25 = .ok (.iload_n 1, 1) := by decide +kernel
theorem dX0_sideOf_26 : decode cX0_sideOf 26 = .ok (.aload_n 0, 1) := by decide +kernel
theorem dX0_sideOf_27 : decode cX0_sideOf 27 = .ok (.getfield 56, 3) := by decide +kernel
theorem dX0_sideOf_30 : decode cX0_sideOf 30 = .ok (.isub, 1) := by decide +kernel
theorem dX0_sideOf_31 : decode cX0_sideOf 31 = .ok (.imul, 1) := by decide +kernel
theorem dX0_sideOf_32 : decode cX0_sideOf 32 = .ok (.isub, 1) := by decide +kernel
theorem dX0_sideOf_33 : decode cX0_sideOf 33 = .ok (.ireturn, 1) := by decide +kernel
theorem dX1_init_0 : decode cX1_init 0 = .ok (.aload_n 0, 1) := by decide +kernel
theorem dX1_init_1 : decode cX1_init 1 = .ok (.invokespecial 3, 3) := by decide +kernel
theorem dX1_init_4 : decode cX1_init 4 = .ok (.aload_n 0, 1) := by decide +kernel
theorem dX1_init_5 : decode cX1_init 5 = .ok (.bipush 24, 2) := by decide +kernel
theorem dX1_init_7 : decode cX1_init 7 = .ok (.newarray .int, 2) := by decide +kernel
theorem dX1_init_9 : decode cX1_init 9 = .ok (.putfield 9, 3) := by decide +kernel
theorem dX1_init_12 : decode cX1_init 12 = .ok (.aload_n 0, 1) := by decide +kernel
theorem dX1_init_13 : decode cX1_init 13 = .ok (.bipush 24, 2) := by decide +kernel
theorem dX1_init_15 : decode cX1_init 15 = .ok (.newarray .int, 2) := by decide +kernel
theorem dX1_init_17 : decode cX1_init 17 = .ok (.putfield 15, 3) := by decide +kernel
theorem dX1_init_20 : decode cX1_init 20 = .ok (.aload_n 0, 1) := by decide +kernel
theorem dX1_init_21 : decode cX1_init 21 = .ok (.bipush 24, 2) := by decide +kernel
theorem dX1_init_23 : decode cX1_init 23 = .ok (.newarray .int, 2) := by decide +kernel
theorem dX1_init_25 : decode cX1_init 25 = .ok (.putfield 18, 3) := by decide +kernel
theorem dX1_init_28 : decode cX1_init 28 = .ok (.aload_n 0, 1) := by decide +kernel
theorem dX1_init_29 : decode cX1_init 29 = .ok (.bipush 24, 2) := by decide +kernel
theorem dX1_init_31 : decode cX1_init 31 = .ok (.newarray .int, 2) := by decide +kernel
theorem dX1_init_33 : decode cX1_init 33 = .ok (.putfield 21, 3) := by decide +kernel
theorem dX1_init_36 : decode cX1_init 36 = .ok (.aload_n 0, 1) := by decide +kernel
theorem dX1_init_37 : decode cX1_init 37 = .ok (.bipush 24, 2) := by decide +kernel
theorem dX1_init_39 : decode cX1_init 39 = .ok (.newarray .int, 2) := by decide +kernel
theorem dX1_init_41 : decode cX1_init 41 = .ok (.putfield 24, 3) := by decide +kernel
theorem dX1_init_44 : decode cX1_init 44 = .ok (.aload_n 0, 1) := by decide +kernel
theorem dX1_init_45 : decode cX1_init 45 = .ok (.bipush 24, 2) := by decide +kernel
theorem dX1_init_47 : decode cX1_init 47 = .ok (.newarray .int, 2) := by decide +kernel
theorem dX1_init_49 : decode cX1_init 49 = .ok (.putfield 27, 3) := by decide +kernel
theorem dX1_init_52 : decode cX1_init 52 = .ok (.aload_n 0, 1) := by decide +kernel
theorem dX1_init_53 : decode cX1_init 53 = .ok (.bipush 24, 2) := by decide +kernel
theorem dX1_init_55 : decode cX1_init 55 = .ok (.newarray .int, 2) := by decide +kernel
theorem dX1_init_57 : decode cX1_init 57 = .ok (.putfield 30, 3) := by decide +kernel
theorem dX1_init_60 : decode cX1_init 60 = .ok (.aload_n 0, 1) := by decide +kernel
theorem dX1_init_61 : decode cX1_init 61 = .ok (.bipush 20, 2) := by decide +kernel
theorem dX1_init_63 : decode cX1_init 63 = .ok (.newarray .int, 2) := by decide +kernel
theorem dX1_init_65 : decode cX1_init 65 = .ok (.putfield 33, 3) := by decide +kernel
theorem dX1_init_68 : decode cX1_init 68 = .ok (.aload_n 0, 1) := by decide +kernel
theorem dX1_init_69 : decode cX1_init 69 = .ok (.bipush 20, 2) := by decide +kernel
theorem dX1_init_71 : decode cX1_init 71 = .ok (.newarray .int, 2) := by decide +kernel
theorem dX1_init_73 : decode cX1_init 73 = .ok (.putfield 36, 3) := by decide +kernel
theorem dX1_init_76 : decode cX1_init 76 = .ok (.return_, 1) := by decide +kernel
theorem dX1_copyFrom_0 : decode cX1_copyFrom 0 = .ok (.aload_n 0, 1) := by decide +kernel
theorem dX1_copyFrom_1 : decode cX1_copyFrom 1 = .ok (.aload_n 1, 1) := by decide +kernel
theorem dX1_copyFrom_2 : decode cX1_copyFrom 2 = .ok (.getfield 39, 3) := by decide +kernel
theorem dX1_copyFrom_5 : decode cX1_copyFrom 5 = .ok (.putfield 39, 3) := by decide +kernel
theorem dX1_copyFrom_8 : decode cX1_copyFrom 8 = .ok (.aload_n 0, 1) := by decide +kernel
theorem dX1_copyFrom_9 : decode cX1_copyFrom 9 = .ok (.aload_n 1, 1) := by decide +kernel
theorem dX1_copyFrom_10 : decode cX1_copyFrom 10 = .ok (.getfield 43, 3) := by decide +kernel
theorem dX1_copyFrom_13 : decode cX1_copyFrom 13 = .ok (.putfield 43, 3) := by decide +kernel
theorem dX1_copyFrom_16 : decode cX1_copyFrom 16 = .ok (.aload_n 1, 1) := by decide +kernel
theorem dX1_copyFrom_17 : decode cX1_copyFrom 17 = .ok (.getfield 9, 3) := by decide +kernel
theorem dX1_copyFrom_20 : decode cX1_copyFrom 20 = .ok (.iconst 0, 1) := by decide +kernel
theorem dX1_copyFrom_21 : decode cX1_copyFrom 21 = .ok (.aload_n 0, 1) := by decide +kernel
theorem dX1_copyFrom_22 : decode cX1_copyFrom 22 = .ok (.getfield 9, 3) := by decide +kernel
theorem dX1_copyFrom_25 : decode cX1_copyFrom 25 = .ok (.iconst 0, 1) := by decide +kernel
theorem dX1_copyFrom_26 : decode cX1_copyFrom 26 = .ok (.aload_n 0, 1) := by decide +kernel
theorem dX1_copyFrom_27 : decode cX1_copyFrom 27 = .ok (.getfield 39, 3) := by decide +kernel
theorem dX1_copyFrom_30 : decode cX1_copyFrom 30 = .ok (.invokestatic 46, 3) := by decide +kernel
theorem dX1_copyFrom_33 : decode cX1_copyFrom 33 = .ok (.aload_n 1, 1) := by decide +kernel
theorem dX1_copyFrom_34 : decode cX1_copyFrom 34 = .ok (.getfield 15, 3) := by decide +kernel
theorem dX1_copyFrom_37 : decode cX1_copyFrom 37 = .ok (.iconst 0, 1) := by decide +kernel
theorem dX1_copyFrom_38 : decode cX1_copyFrom 38 = .ok (.aload_n 0, 1) := by decide +kernel
theorem dX1_copyFrom_39 : decode cX1_copyFrom 39 = .ok (.getfield 15, 3) := by decide +kernel
theorem dX1_copyFrom_42 : decode cX1_copyFrom 42 = .ok (.iconst 0, 1) := by decide +kernel
theorem dX1_copyFrom_43 : decode cX1_copyFrom 43 = .ok (.aload_n 0, 1) := by decide +kernel
theorem dX1_copyFrom_44 : decode cX1_copyFrom 44 = .ok (.getfield 39, 3) := by decide +kernel
theorem dX1_copyFrom_47 : decode cX1_copyFrom 47 = .ok (.invokestatic 46, 3) := by decide +kernel
theorem dX1_copyFrom_50 : decode cX1_copyFrom 50 = .ok (.aload_n 1, 1) := by decide +kernel
theorem dX1_copyFrom_51 : decode cX1_copyFrom 51 = .ok (.getfield 18, 3) := by decide +kernel
theorem dX1_copyFrom_54 : decode cX1_copyFrom 54 = .ok (.iconst 0, 1) := by decide +kernel
theorem dX1_copyFrom_55 : decode cX1_copyFrom 55 = .ok (.aload_n 0, 1) := by decide +kernel
theorem dX1_copyFrom_56 : decode cX1_copyFrom 56 = .ok (.getfield 18, 3) := by decide +kernel
theorem dX1_copyFrom_59 : decode cX1_copyFrom 59 = .ok (.iconst 0, 1) := by decide +kernel
theorem dX1_copyFrom_60 : decode cX1_copyFrom 60 = .ok (.aload_n 0, 1) := by decide +kernel
theorem dX1_copyFrom_61 : decode cX1_copyFrom 61 = .ok (.getfield 39, 3) := by decide +kernel
theorem dX1_copyFrom_64 : decode cX1_copyFrom 64 = .ok (.invokestatic 46, 3) := by decide +kernel
theorem dX1_copyFrom_67 : decode cX1_copyFrom 67 = .ok (.aload_n 1, 1) := by decide +kernel
theorem dX1_copyFrom_68 : decode cX1_copyFrom 68 = .ok (.getfield 21, 3) := by decide +kernel
theorem dX1_copyFrom_71 : decode cX1_copyFrom 71 = .ok (.iconst 0, 1) := by decide +kernel
theorem dX1_copyFrom_72 : decode cX1_copyFrom 72 = .ok (.aload_n 0, 1) := by decide +kernel
theorem dX1_copyFrom_73 : decode cX1_copyFrom 73 = .ok (.getfield 21, 3) := by decide +kernel
theorem dX1_copyFrom_76 : decode cX1_copyFrom 76 = .ok (.iconst 0, 1) := by decide +kernel
theorem dX1_copyFrom_77 : decode cX1_copyFrom 77 = .ok (.aload_n 0, 1) := by decide +kernel
theorem dX1_copyFrom_78 : decode cX1_copyFrom 78 = .ok (.getfield 39, 3) := by decide +kernel
theorem dX1_copyFrom_81 : decode cX1_copyFrom 81 = .ok (.invokestatic 46, 3) := by decide +kernel
theorem dX1_copyFrom_84 : decode cX1_copyFrom 84 = .ok (.aload_n 1, 1) := by decide +kernel
theorem dX1_copyFrom_85 : decode cX1_copyFrom 85 = .ok (.getfield 24, 3) := by decide +kernel
theorem dX1_copyFrom_88 : decode cX1_copyFrom 88 = .ok (.iconst 0, 1) := by decide +kernel
theorem dX1_copyFrom_89 : decode cX1_copyFrom 89 = .ok (.aload_n 0, 1) := by decide +kernel
theorem dX1_copyFrom_90 : decode cX1_copyFrom 90 = .ok (.getfield 24, 3) := by decide +kernel
theorem dX1_copyFrom_93 : decode cX1_copyFrom 93 = .ok (.iconst 0, 1) := by decide +kernel
theorem dX1_copyFrom_94 : decode cX1_copyFrom 94 = .ok (.aload_n 0, 1) := by decide +kernel
theorem dX1_copyFrom_95 : decode cX1_copyFrom 95 = .ok (.getfield 39, 3) := by decide +kernel
theorem dX1_copyFrom_98 : decode cX1_copyFrom 98 = .ok (.invokestatic 46, 3) := by decide +kernel
theorem dX1_copyFrom_101 : decode cX1_copyFrom 101 = .ok (.aload_n 1, 1) := by decide +kernel
theorem dX1_copyFrom_102 : decode cX1_copyFrom 102 = .ok (.getfield 27, 3) := by decide +kernel
theorem dX1_copyFrom_105 : decode cX1_copyFrom 105 = .ok (.iconst 0, 1) := by decide +kernel
theorem dX1_copyFrom_106 : decode cX1_copyFrom 106 = .ok (.aload_n 0, 1) := by decide +kernel
theorem dX1_copyFrom_107 : decode cX1_copyFrom 107 = .ok (.getfield 27, 3) := by decide +kernel
theorem dX1_copyFrom_110 : decode cX1_copyFrom 110 = .ok (.iconst 0, 1) := by decide +kernel
theorem dX1_copyFrom_111 : decode cX1_copyFrom 111 = .ok (.aload_n 0, 1) := by decide +kernel
theorem dX1_copyFrom_112 : decode cX1_copyFrom 112 = .ok (.getfield 39, 3) := by decide +kernel
theorem dX1_copyFrom_115 : decode cX1_copyFrom 115 = .ok (.invokestatic 46, 3) := by decide +kernel
theorem dX1_copyFrom_118 : decode cX1_copyFrom 118 = .ok (.aload_n 1, 1) := by decide +kernel
theorem dX1_copyFrom_119 : decode cX1_copyFrom 119 = .ok (.getfield 30, 3) := by decide +kernel
theorem dX1_copyFrom_122 : decode cX1_copyFrom 122 = .ok (.iconst 0, 1) := by decide +kernel
theorem dX1_copyFrom_123 : decode cX1_copyFrom 123 = .ok (.aload_n 0, 1) := by decide +kernel
theorem dX1_copyFrom_124 : decode cX1_copyFrom 124 = .ok (.getfield 30, 3) := by decide +kernel
theorem dX1_copyFrom_127 : decode cX1_copyFrom 127 = .ok (.iconst 0, 1) := by decide +kernel
theorem dX1_copyFrom_128 : decode cX1_copyFrom 128 = .ok (.aload_n 0, 1) := by decide +kernel
theorem dX1_copyFrom_129 : decode cX1_copyFrom 129 = .ok (.getfield 39, 3) := by decide +kernel
theorem dX1_copyFrom_132 : decode cX1_copyFrom 132 = .ok (.invokestatic 46, 3) := by decide +kernel
theorem dX1_copyFrom_135 : decode cX1_copyFrom 135 = .ok (.aload_n 1, 1) := by decide +kernel
theorem dX1_copyFrom_136 : decode cX1_copyFrom 136 = .ok (.getfield 33, 3) := by decide +kernel
theorem dX1_copyFrom_139 : decode cX1_copyFrom 139 = .ok (.iconst 0, 1) := by decide +kernel
theorem dX1_copyFrom_140 : decode cX1_copyFrom 140 = .ok (.aload_n 0, 1) := by decide +kernel
theorem dX1_copyFrom_141 : decode cX1_copyFrom 141 = .ok (.getfield 33, 3) := by decide +kernel
theorem dX1_copyFrom_144 : decode cX1_copyFrom 144 = .ok (.iconst 0, 1) := by decide +kernel
theorem dX1_copyFrom_145 : decode cX1_copyFrom 145 = .ok (.aload_n 0, 1) := by decide +kernel
theorem dX1_copyFrom_146 : decode cX1_copyFrom 146 = .ok (.getfield 43, 3) := by decide +kernel
theorem dX1_copyFrom_149 : decode cX1_copyFrom 149 = .ok (.invokestatic 46, 3) := by decide +kernel
theorem dX1_copyFrom_152 : decode cX1_copyFrom 152 = .ok (.aload_n 1, 1) := by decide +kernel
theorem dX1_copyFrom_153 : decode cX1_copyFrom 153 = .ok (.getfield 36, 3) := by decide +kernel
theorem dX1_copyFrom_156 : decode cX1_copyFrom 156 = .ok (.iconst 0, 1) := by decide +kernel
theorem dX1_copyFrom_157 : decode cX1_copyFrom 157 = .ok (.aload_n 0, 1) := by decide +kernel
theorem dX1_copyFrom_158 : decode cX1_copyFrom 158 = .ok (.getfield 36, 3) := by decide +kernel
theorem dX1_copyFrom_161 : decode cX1_copyFrom 161 = .ok (.iconst 0, 1) := by decide +kernel
theorem dX1_copyFrom_162 : decode cX1_copyFrom 162 = .ok (.aload_n 0, 1) := by decide +kernel
theorem dX1_copyFrom_163 : decode cX1_copyFrom 163 = .ok (.getfield 43, 3) := by decide +kernel
theorem dX1_copyFrom_166 : decode cX1_copyFrom 166 = .ok (.invokestatic 46, 3) := by decide +kernel
theorem dX1_copyFrom_169 : decode cX1_copyFrom 169 = .ok (.return_, 1) := by decide +kernel
theorem dX1_addName_0 : decode cX1_addName 0 = .ok (.aload_n 0, 1) := by decide +kernel
theorem dX1_addName_1 : decode cX1_addName 1 = .ok (.getfield 9, 3) := by decide +kernel
theorem dX1_addName_4 : decode cX1_addName 4 = .ok (.aload_n 0, 1) := by decide +kernel
theorem dX1_addName_5 : decode cX1_addName 5 = .ok (.getfield 39, 3) := by decide +kernel
theorem dX1_addName_8 : decode cX1_addName 8 = .ok (.iload_n 1, 1) := by decide +kernel
theorem dX1_addName_9 : decode cX1_addName 9 = .ok (.iastore, 1) := by decide +kernel
theorem dX1_addName_10 : decode cX1_addName 10 = .ok (.aload_n 0, 1) := by decide +kernel
theorem dX1_addName_11 : decode cX1_addName 11 = .ok (.getfield 15, 3) := by decide +kernel
theorem dX1_addName_14 : decode cX1_addName 14 = .ok (.aload_n 0, 1) := by decide +kernel
theorem dX1_addName_15 : decode cX1_addName 15 = .ok (.getfield 39, 3) := by decide +kernel
theorem dX1_addName_18 : decode cX1_addName 18 = .ok (.iload_n 2, 1) := by decide +kernel
theorem dX1_addName_19 : decode cX1_addName 19 = .ok (.iastore, 1) := by decide +kernel
theorem dX1_addName_20 : decode cX1_addName 20 = .ok (.aload_n 0, 1) := by decide +kernel
theorem dX1_addName_21 : decode cX1_addName 21 = .ok (.getfield 18, 3) := by decide +kernel
theorem dX1_addName_24 : decode cX1_addName 24 = .ok (.aload_n 0, 1) := by decide +kernel
theorem dX1_addName_25 : decode cX1_addName 25 = .ok (.getfield 39, 3) := by decide +kernel
theorem dX1_addName_28 : decode cX1_addName 28 = .ok (.iload_n 3, 1) := by decide +kernel
theorem dX1_addName_29 : decode cX1_addName 29 = .ok (.iastore, 1) := by decide +kernel
theorem dX1_addName_30 : decode cX1_addName 30 = .ok (.aload_n 0, 1) := by decide +kernel
theorem dX1_addName_31 : decode cX1_addName 31 = .ok (.getfield 21, 3) := by decide +kernel
theorem dX1_addName_34 : decode cX1_addName 34 = .ok (.aload_n 0, 1) := by decide +kernel
theorem dX1_addName_35 : decode cX1_addName 35 = .ok (.getfield 39, 3) := by decide +kernel
theorem dX1_addName_38 : decode cX1_addName 38 = .ok (.bipush 20, 2) := by decide +kernel
theorem dX1_addName_40 : decode cX1_addName 40 = .ok (.iastore, 1) := by decide +kernel
theorem dX1_addName_41 : decode cX1_addName 41 = .ok (.aload_n 0, 1) := by decide +kernel
theorem dX1_addName_42 : decode cX1_addName 42 = .ok (.getfield 24, 3) := by decide +kernel
theorem dX1_addName_45 : decode cX1_addName 45 = .ok (.aload_n 0, 1) := by decide +kernel
theorem dX1_addName_46 : decode cX1_addName 46 = .ok (.getfield 39, 3) := by decide +kernel
theorem dX1_addName_49 : decode cX1_addName 49 = .ok (.bipush 8, 2) := by decide +kernel
theorem dX1_addName_51 : decode cX1_addName 51 = .ok (.iastore, 1) := by decide +kernel
theorem dX1_addName_52 : decode cX1_addName 52 = .ok (.aload_n 0, 1) := by decide +kernel
theorem dX1_addName_53 : decode cX1_addName 53 = .ok (.getfield 27, 3) := by decide +kernel
theorem dX1_addName_56 : decode cX1_addName 56 = .ok (.aload_n 0, 1) := by decide +kernel
theorem dX1_addName_57 : decode cX1_addName 57 = .ok (.getfield 39, 3) := by decide +kernel
theorem dX1_addName_60 : decode cX1_addName 60 = .ok (.bipush 100, 2) := by decide +kernel
theorem dX1_addName_62 : decode cX1_addName 62 = .ok (.iastore, 1) := by decide +kernel
theorem dX1_addName_63 : decode cX1_addName 63 = .ok (.aload_n 0, 1) := by decide +kernel
theorem dX1_addName_64 : decode cX1_addName 64 = .ok (.getfield 30, 3) := by decide +kernel
theorem dX1_addName_67 : decode cX1_addName 67 = .ok (.aload_n 0, 1) := by decide +kernel
theorem dX1_addName_68 : decode cX1_addName 68 = .ok (.getfield 39, 3) := by decide +kernel
theorem dX1_addName_71 : decode cX1_addName 71 = .ok (.iconst (-1), 1) := by decide +kernel
theorem dX1_addName_72 : decode cX1_addName 72 = .ok (.iastore, 1) := by decide +kernel
theorem dX1_addName_73 : decode cX1_addName 73 = .ok (.aload_n 0, 1) := by decide +kernel
theorem dX1_addName_74 : decode cX1_addName 74 = .ok (.dup, 1) := by decide +kernel
theorem dX1_addName_75 : decode cX1_addName 75 = .ok (.getfield 39, 3) := by decide +kernel
theorem dX1_addName_78 : decode cX1_addName 78 = .ok (.dup_x1, 1) := by decide +kernel
theorem dX1_addName_79 : decode cX1_addName 79 = .ok (.iconst 1, 1) := by decide +kernel
theorem dX1_addName_80 : decode cX1_addName 80 = .ok (.iadd, 1) := by decide +kernel
theorem dX1_addName_81 : decode cX1_addName 81 = .ok (.putfield 39, 3) := by decide +kernel
theorem dX1_addName_84 : decode cX1_addName 84 = .ok (.ireturn, 1) := by decide +kernel
theorem dX1_addDot_0 : decode cX1_addDot 0 = .ok (.aload_n 0, 1) := by decide +kernel
theorem dX1_addDot_1 : decode cX1_addDot 1 = .ok (.getfield 33, 3) := by decide +kernel
theorem dX1_addDot_4 : decode cX1_addDot 4 = .ok (.aload_n 0, 1) := by decide +kernel
theorem dX1_addDot_5 : decode cX1_addDot 5 = .ok (.getfield 43, 3) := by decide +kernel
theorem dX1_addDot_8 : decode cX1_addDot 8 = .ok (.iload_n 1, 1) := by decide +kernel
theorem dX1_addDot_9 : decode cX1_addDot 9 = .ok (.iastore, 1) := by decide +kernel
theorem dX1_addDot_10 : decode cX1_addDot 10 = .ok (.aload_n 0, 1) := by decide +kernel
theorem dX1_addDot_11 : decode cX1_addDot 11 = .ok (.getfield 36, 3) := by decide +kernel
theorem dX1_addDot_14 : decode cX1_addDot 14 = .ok (.aload_n 0, 1) := by decide +kernel
theorem dX1_addDot_15 : decode cX1_addDot 15 = .ok (.getfield 43, 3) := by decide +kernel
theorem dX1_addDot_18 : decode cX1_addDot 18 = .ok (.iload_n 2, 1) := by decide +kernel
theorem dX1_addDot_19 : decode cX1_addDot 19 = .ok (.iastore, 1) := by decide +kernel
theorem dX1_addDot_20 : decode cX1_addDot 20 = .ok (.aload_n 0, 1) := by decide +kernel
theorem dX1_addDot_21 : decode cX1_addDot 21 = .ok (.dup, 1) := by decide +kernel
theorem dX1_addDot_22 : decode cX1_addDot 22 = .ok (.getfield 43, 3) := by decide +kernel
theorem dX1_addDot_25 : decode cX1_addDot 25 = .ok (.dup_x1, 1) := by decide +kernel
theorem dX1_addDot_26 : decode cX1_addDot 26 = .ok (.iconst 1, 1) := by decide +kernel
theorem dX1_addDot_27 : decode cX1_addDot 27 = .ok (.iadd, 1) := by decide +kernel
theorem dX1_addDot_28 : decode cX1_addDot 28 = .ok (.putfield 43, 3) := by decide +kernel
theorem dX1_addDot_31 : decode cX1_addDot 31 = .ok (.ireturn, 1) := by decide +kernel
theorem dX1_has_0 : decode cX1_has 0 = .ok (.iload_n 1, 1) := by decide +kernel
theorem dX1_has_1 : decode cX1_has 1 = .ok (.ifCond .lt 15, 3) := by decide +kernel
theorem dX1_has_4 : decode cX1_has 4 = .ok (.iload_n 1, 1) := by decide +kernel
theorem dX1_has_5 : decode cX1_has 5 = .ok (.aload_n 0, 1) := by decide +kernel
theorem dX1_has_6 : decode cX1_has 6 = .ok (.getfield 39, 3) := by decide +kernel
theorem dX1_has_9 : decode cX1_has 9 = .ok (.if_icmp .ge 7, 3) := by decide +kernel
theorem dX1_has_12 : decode cX1_has 12 = .ok (.iconst 1, 1) := by decide +kernel
theorem dX1_has_13 : decode cX1_has 13 = .ok (.goto 4, 3) := by decide +kernel
theorem dX1_has_16 : decode cX1_has 16 = .ok (.iconst 0, 1) := by decide +kernel
theorem dX1_has_17 : decode cX1_has 17 = .ok (.ireturn, 1) := by decide +kernel
theorem dX1_hasWay_0 : decode cX1_hasWay 0 = .ok (.aload_n 0, 1) := by decide +kernel
theorem dX1_hasWay_1 : decode cX1_hasWay 1 = .ok (.iload_n 1, 1) := by decide +kernel
theorem dX1_hasWay_2 : decode cX1_hasWay 2 = .ok (.invokevirtual 52, 3) := by decide +kernel
theorem dX1_hasWay_5 : decode cX1_hasWay 5 = .ok (.ifCond .eq 20, 3) := by decide +kernel
theorem dX1_hasWay_8 : decode cX1_hasWay 8 = .ok (.iload_n 2, 1) := by decide +kernel
theorem dX1_hasWay_9 : decode cX1_hasWay 9 = .ok (.ifCond .lt 16, 3) := by decide +kernel
theorem dX1_hasWay_12 : decode cX1_hasWay 12 = .ok (.iload_n 2, 1) := by decide +kernel
theorem dX1_hasWay_13 : decode cX1_hasWay 13 = .ok (.aload_n 0, 1) := by decide +kernel
theorem dX1_hasWay_14 : decode cX1_hasWay 14 = .ok (.iload_n 1, 1) := by decide +kernel
theorem dX1_hasWay_15 : decode cX1_hasWay 15 = .ok (.invokevirtual 56, 3) := by decide +kernel
theorem dX1_hasWay_18 : decode cX1_hasWay 18 = .ok (.if_icmp .ge 7, 3) := by decide +kernel
theorem dX1_hasWay_21 : decode cX1_hasWay 21 = .ok (.iconst 1, 1) := by decide +kernel
theorem dX1_hasWay_22 : decode cX1_hasWay 22 = .ok (.goto 4, 3) := by decide +kernel
theorem dX1_hasWay_25 : decode cX1_hasWay 25 = .ok (.iconst 0, 1) := by decide +kernel
theorem dX1_hasWay_26 : decode cX1_hasWay 26 = .ok (.ireturn, 1) := by decide +kernel
theorem dX1_waysOf_0 : decode cX1_waysOf 0 = .ok (.aload_n 0, 1) := by decide +kernel
theorem dX1_waysOf_1 : decode cX1_waysOf 1 = .ok (.getfield 9, 3) := by decide +kernel
theorem dX1_waysOf_4 : decode cX1_waysOf 4 = .ok (.iload_n 1, 1) := by decide +kernel
theorem dX1_waysOf_5 : decode cX1_waysOf 5 = .ok (.iaload, 1) := by decide +kernel
theorem dX1_waysOf_6 : decode cX1_waysOf 6 = .ok (.ifCond .ne 8, 3) := by decide +kernel
theorem dX1_waysOf_9 : decode cX1_waysOf 9 = .ok (.bipush 8, 2) := by decide +kernel
theorem dX1_waysOf_11 : decode cX1_waysOf 11 = .ok (.goto 5, 3) := by decide +kernel
theorem dX1_waysOf_14 : decode cX1_waysOf 14 = .ok (.bipush 16, 2) := by decide +kernel
theorem dX1_waysOf_16 : decode cX1_waysOf 16 = .ok (.ireturn, 1) := by decide +kernel
theorem dX1_isOfKind_0 : decode cX1_isOfKind 0 = .ok (.iload_n 2, 1) := by decide +kernel
theorem dX1_isOfKind_1 : decode cX1_isOfKind 1 = .ok (.ifCond .eq 28, 3) := by decide +kernel
theorem dX1_isOfKind_4 : decode cX1_isOfKind 4 = .ok (.iload_n 2, 1) := by decide +kernel
theorem dX1_isOfKind_5 : decode cX1_isOfKind 5 = .ok (.aload_n 0, 1) := by decide +kernel
theorem dX1_isOfKind_6 : decode cX1_isOfKind 6 = .ok (.getfield 9, 3) := by decide +kernel
theorem dX1_isOfKind_9 : decode cX1_isOfKind 9 = .ok (.iload_n 1, 1) := by decide +kernel
theorem dX1_isOfKind_10 : decode cX1_isOfKind 10 = .ok (.iaload, 1) := by decide +kernel
theorem dX1_isOfKind_11 : decode cX1_isOfKind 11 = .ok (.if_icmp .eq 18, 3) := by decide +kernel
theorem dX1_isOfKind_14 : decode cX1_isOfKind 14 = .ok (.iload_n 2, 1) := by decide +kernel
theorem dX1_isOfKind_15 : decode cX1_isOfKind 15 = .ok (.iconst 2, 1) := by decide +kernel
theorem dX1_isOfKind_16 : decode cX1_isOfKind 16 = .ok (.if_icmp .ne 17, 3) := by decide +kernel
theorem dX1_isOfKind_19 : decode cX1_isOfKind 19 = .ok (.aload_n 0, 1) := by decide +kernel
theorem dX1_isOfKind_20 : decode cX1_isOfKind 20 = .ok (.getfield 9, 3) := by decide +kernel
theorem dX1_isOfKind_23 : decode cX1_isOfKind 23 = .ok (.iload_n 1, 1) := by decide +kernel
theorem dX1_isOfKind_24 : decode cX1_isOfKind 24 = .ok (.iaload, 1) := by decide +kernel
theorem dX1_isOfKind_25 : decode cX1_isOfKind 25 = .ok (.iconst 3, 1) := by decide +kernel
theorem dX1_isOfKind_26 : decode cX1_isOfKind 26 = .ok (.if_icmp .ne 7, 3) := by decide +kernel
theorem dX1_isOfKind_29 : decode cX1_isOfKind 29 = .ok (.iconst 1, 1) := by decide +kernel
theorem dX1_isOfKind_30 : decode cX1_isOfKind 30 = .ok (.goto 4, 3) := by decide +kernel
theorem dX1_isOfKind_33 : decode cX1_isOfKind 33 = .ok (.iconst 0, 1) := by decide +kernel
theorem dX1_isOfKind_34 : decode cX1_isOfKind 34 = .ok (.ireturn, 1) := by decide +kernel
theorem dX1_priceOf_0 : decode cX1_priceOf 0 = .ok (.iload_n 2, 1) := by decide +kernel
theorem dX1_priceOf_1 : decode cX1_priceOf 1 = .ok (.bipush 8, 2) := by decide +kernel
theorem dX1_priceOf_3 : decode cX1_priceOf 3 = .ok (.if_icmp .ge 7, 3) := by decide +kernel
theorem dX1_priceOf_6 : decode cX1_priceOf 6 = .ok (.iconst 5, 1) := by decide +kernel
theorem dX1_priceOf_7 : decode cX1_priceOf 7 = .ok (.iload_n 2, 1) := by decide +kernel
theorem dX1_priceOf_8 : decode cX1_priceOf 8 = .ok (.imul, 1) := by decide +kernel
theorem dX1_priceOf_9 : decode cX1_priceOf 9 = .ok (.ireturn, 1) := by decide +kernel
theorem dX1_priceOf_10 : decode cX1_priceOf 10 = .ok (.iconst 5, 1) := by decide +kernel
theorem dX1_priceOf_11 : decode cX1_priceOf 11 = .ok (.iload_n 2, 1) := by decide +kernel
theorem dX1_priceOf_12 : decode cX1_priceOf 12 = .ok (.bipush 8, 2) := by decide +kernel
theorem dX1_priceOf_14 : decode cX1_priceOf 14 = .ok (.isub, 1) := by decide +kernel
theorem dX1_priceOf_15 : decode cX1_priceOf 15 = .ok (.imul, 1) := by decide +kernel
theorem dX1_priceOf_16 : decode cX1_priceOf 16 = .ok (.aload_n 0, 1) := by decide +kernel
theorem dX1_priceOf_17 : decode cX1_priceOf 17 = .ok (.getfield 9, 3) := by decide +kernel
theorem dX1_priceOf_20 : decode cX1_priceOf 20 = .ok (.iload_n 1, 1) := by decide +kernel
theorem dX1_priceOf_21 : decode cX1_priceOf 21 = .ok (.iaload, 1) := by decide +kernel
theorem dX1_priceOf_22 : decode cX1_priceOf 22 = .ok (.iconst 1, 1) := by decide +kernel
theorem dX1_priceOf_23 : decode cX1_priceOf 23 = .ok (.if_icmp .ne 8, 3) := by decide +kernel
theorem dX1_priceOf_26 : decode cX1_priceOf 26 = .ok (.bipush 20, 2) := by decide +kernel
theorem dX1_priceOf_28 : decode cX1_priceOf 28 = .ok (.goto 5, 3) := by decide +kernel
theorem dX1_priceOf_31 : decode cX1_priceOf 31 = .ok (.bipush 50, 2) := by decide +kernel
theorem dX1_priceOf_33 : decode cX1_priceOf 33 = .ok (.iadd, 1) := by decide +kernel
theorem dX1_priceOf_34 : decode cX1_priceOf 34 = .ok (.ireturn, 1) := by decide +kernel
theorem dX1_wayByPrice_0 : decode cX1_wayByPrice 0 = .ok (.aload_n 0, 1) := by decide +kernel
theorem dX1_wayByPrice_1 : decode cX1_wayByPrice 1 = .ok (.getfield 9, 3) := by decide +kernel
theorem dX1_wayByPrice_4 : decode cX1_wayByPrice 4 = .ok (.iload_n 1, 1) := by decide +kernel
theorem dX1_wayByPrice_5 : decode cX1_wayByPrice 5 = .ok (.iaload, 1) := by decide +kernel
theorem dX1_wayByPrice_6 : decode cX1_wayByPrice 6 = .ok (.iconst 1, 1) := by decide +kernel
theorem dX1_wayByPrice_7 : decode cX1_wayByPrice 7 = .ok (.if_icmp .ne 11, 3) := by decide +kernel
theorem dX1_wayByPrice_10 : decode cX1_wayByPrice 10 = .ok (.getstatic 60, 3) := by decide +kernel
theorem dX1_wayByPrice_13 : decode cX1_wayByPrice 13 = .ok (.iload_n 2, 1) := by decide +kernel
theorem dX1_wayByPrice_14 : decode cX1_wayByPrice 14 = .ok (.iaload, 1) := by decide +kernel
theorem dX1_wayByPrice_15 : decode cX1_wayByPrice 15 = .ok (.goto 4, 3) := by decide +kernel
theorem dX1_wayByPrice_18 : decode cX1_wayByPrice 18 = .ok (.iload_n 2, 1) := by decide +kernel
theorem dX1_wayByPrice_19 : decode cX1_wayByPrice 19 = .ok (.ireturn, 1) := by decide +kernel
theorem dX1_rankOf_0 : decode cX1_rankOf 0 = .ok (.aload_n 0, 1) := by decide +kernel
theorem dX1_rankOf_1 : decode cX1_rankOf 1 = .ok (.getfield 9, 3) := by decide +kernel
theorem dX1_rankOf_4 : decode cX1_rankOf 4 = .ok (.iload_n 1, 1) := by decide +kernel
theorem dX1_rankOf_5 : decode cX1_rankOf 5 = .ok (.iaload, 1) := by decide +kernel
theorem dX1_rankOf_6 : decode cX1_rankOf 6 = .ok (.iconst 1, 1) := by decide +kernel
theorem dX1_rankOf_7 : decode cX1_rankOf 7 = .ok (.if_icmp .ne 11, 3) := by decide +kernel
theorem dX1_rankOf_10 : decode cX1_rankOf 10 = .ok (.getstatic 63, 3) := by decide +kernel
theorem dX1_rankOf_13 : decode cX1_rankOf 13 = .ok (.iload_n 2, 1) := by decide +kernel
theorem dX1_rankOf_14 : decode cX1_rankOf 14 = .ok (.iaload, 1) := by decide +kernel
theorem dX1_rankOf_15 : decode cX1_rankOf 15 = .ok (.goto 4, 3) := by decide +kernel
theorem dX1_rankOf_18 : decode cX1_rankOf 18 = .ok (.iload_n 2, 1) := by decide +kernel
theorem dX1_rankOf_19 : decode cX1_rankOf 19 = .ok (.ireturn, 1) := by decide +kernel
theorem dX1_gainOf_0 : decode cX1_gainOf 0 = .ok (.aload_n 0, 1) := by decide +kernel
theorem dX1_gainOf_1 : decode cX1_gainOf 1 = .ok (.getfield 27, 3) := by decide +kernel
theorem dX1_gainOf_4 : decode cX1_gainOf 4 = .ok (.iload_n 1, 1) := by decide +kernel
theorem dX1_gainOf_5 : decode cX1_gainOf 5 = .ok (.iaload, 1) := by decide +kernel
theorem dX1_gainOf_6 : decode cX1_gainOf 6 = .ok (.sipush 200, 3) := by decide +kernel
theorem dX1_gainOf_9 : decode cX1_gainOf 9 = .ok (.aload_n 0, 1) := by decide +kernel
theorem dX1_gainOf_10 : decode cX1_gainOf 10 = .ok (.iload_n 1, 1) := by decide +kernel
theorem dX1_gainOf_11 : decode cX1_gainOf 11 = .ok (.iload_n 2, 1) := by decide +kernel
theorem dX1_gainOf_12 : decode cX1_gainOf 12 = .ok (.invokevirtual 66, 3) := by decide +kernel
theorem dX1_gainOf_15 : decode cX1_gainOf 15 = .ok (.isub, 1) := by decide +kernel
theorem dX1_gainOf_16 : decode cX1_gainOf 16 = .ok (.imul, 1) := by decide +kernel
theorem dX1_gainOf_17 : decode cX1_gainOf 17 = .ok (.ireturn, 1) := by decide +kernel
theorem dX1_areNear_0 : decode cX1_areNear 0 = .ok (.aload_n 0, 1) := by decide +kernel
theorem dX1_areNear_1 : decode cX1_areNear 1 = .ok (.getfield 15, 3) := by decide +kernel
theorem dX1_areNear_4 : decode cX1_areNear 4 = .ok (.iload_n 1, 1) := by decide +kernel
theorem dX1_areNear_5 : decode cX1_areNear 5 = .ok (.iaload, 1) := by decide +kernel
theorem dX1_areNear_6 : decode cX1_areNear 6 = .ok (.aload_n 0, 1) := by decide +kernel
theorem dX1_areNear_7 : decode cX1_areNear 7 = .ok (.getfield 15, 3) := by decide +kernel
theorem dX1_areNear_10 : decode cX1_areNear 10 = .ok (.iload_n 2, 1) := by decide +kernel
theorem dX1_areNear_11 : decode cX1_areNear 11 = .ok (.iaload, 1) := by decide +kernel
theorem dX1_areNear_12 : decode cX1_areNear 12 = .ok (.isub, 1) := by decide +kernel
theorem dX1_areNear_13 : decode cX1_areNear 13 = .ok (.invokestatic 70, 3) := by decide +kernel
theorem dX1_areNear_16 : decode cX1_areNear 16 = .ok (.aload_n 0, 1) := by decide +kernel
theorem dX1_areNear_17 : decode cX1_areNear 17 = .ok (.iload_n 1, 1) := by decide +kernel
theorem dX1_areNear_18 : decode cX1_areNear 18 = .ok (.invokevirtual 75, 3) := by decide +kernel
theorem dX1_areNear_21 : decode cX1_areNear 21 = .ok (.aload_n 0, 1) := by decide +kernel
theorem dX1_areNear_22 : decode cX1_areNear 22 = .ok (.iload_n 2, 1) := by decide +kernel
theorem dX1_areNear_23 : decode cX1_areNear 23 = .ok (.invokevirtual 75, 3) := by decide +kernel
theorem dX1_areNear_26 : decode cX1_areNear 26 = .ok (.iadd, 1) := by decide +kernel
theorem dX1_areNear_27 : decode cX1_areNear 27 = .ok (.if_icmp .ge 37, 3) := by decide +kernel
theorem dX1_areNear_30 : decode cX1_areNear 30 = .ok (.aload_n 0, 1) := by decide +kernel
theorem dX1_areNear_31 : decode cX1_areNear 31 = .ok (.getfield 18, 3) := by decide +kernel
theorem dX1_areNear_34 : decode cX1_areNear 34 = .ok (.iload_n 1, 1) := by decide +kernel
theorem dX1_areNear_35 : decode cX1_areNear 35 = .ok (.iaload, 1) := by decide +kernel
theorem dX1_areNear_36 : decode cX1_areNear 36 = .ok (.aload_n 0, 1) := by decide +kernel
theorem dX1_areNear_37 : decode cX1_areNear 37 = .ok (.getfield 18, 3) := by decide +kernel
theorem dX1_areNear_40 : decode cX1_areNear 40 = .ok (.iload_n 2, 1) := by decide +kernel
theorem dX1_areNear_41 : decode cX1_areNear 41 = .ok (.iaload, 1) := by decide +kernel
theorem dX1_areNear_42 : decode cX1_areNear 42 = .ok (.isub, 1) := by decide +kernel
theorem dX1_areNear_43 : decode cX1_areNear 43 = .ok (.invokestatic 70, 3) := by decide +kernel
theorem dX1_areNear_46 : decode cX1_areNear 46 = .ok (.aload_n 0, 1) := by decide +kernel
theorem dX1_areNear_47 : decode cX1_areNear 47 = .ok (.iload_n 1, 1) := by decide +kernel
theorem dX1_areNear_48 : decode cX1_areNear 48 = .ok (.invokevirtual 78, 3) := by decide +kernel
theorem dX1_areNear_51 : decode cX1_areNear 51 = .ok (.aload_n 0, 1) := by decide +kernel
theorem dX1_areNear_52 : decode cX1_areNear 52 = .ok (.iload_n 2, 1) := by decide +kernel
theorem dX1_areNear_53 : decode cX1_areNear 53 = .ok (.invokevirtual 78, 3) := by decide +kernel
theorem dX1_areNear_56 : decode cX1_areNear 56 = .ok (.iadd, 1) := by decide +kernel
theorem dX1_areNear_57 : decode cX1_areNear 57 = .ok (.if_icmp .ge 7, 3) := by decide +kernel
theorem dX1_areNear_60 : decode cX1_areNear 60 = .ok (.iconst 1, 1) := by decide +kernel
theorem dX1_areNear_61 : decode cX1_areNear 61 = .ok (.goto 4, 3) := by decide +kernel
theorem dX1_areNear_64 : decode cX1_areNear 64 = .ok (.iconst 0, 1) := by decide +kernel
theorem dX1_areNear_65 : decode cX1_areNear 65 = .ok (.ireturn, 1) := by decide +kernel
theorem dX1_reachAcross_0 : decode cX1_reachAcross 0 = .ok (.aload_n 0, 1) := by decide +kernel
theorem dX1_reachAcross_1 : decode cX1_reachAcross 1 = .ok (.getfield 21, 3) := by decide +kernel
theorem dX1_reachAcross_4 : decode cX1_reachAcross 4 = .ok (.iload_n 1, 1) := by decide +kernel
theorem dX1_reachAcross_5 : decode cX1_reachAcross 5 = .ok (.iaload, 1) := by decide +kernel
theorem dX1_reachAcross_6 : decode cX1_reachAcross 6 = .ok (.aload_n 0, 1) := by decide +kernel
theorem dX1_reachAcross_7 : decode cX1_reachAcross 7 = .ok (.iload_n 1, 1) := by decide +kernel
theorem dX1_reachAcross_8 : decode cX1_reachAcross 8 = .ok (.iconst 2, 1) := by decide +kernel
theorem dX1_reachAcross_9 : decode cX1_reachAcross 9 = .ok (.invokevirtual 81, 3) := by decide +kernel
theorem dX1_reachAcross_12 : decode cX1_reachAcross 12 = .ok (.ifCond .eq 8, 3) := by decide +kernel
theorem dX1_reachAcross_15 : decode cX1_reachAcross 15 = .ok (.bipush 40, 2) := by decide +kernel
theorem dX1_reachAcross_17 : decode cX1_reachAcross 17 = .ok (.goto 4, 3) := by decide +kernel
theorem dX1_reachAcross_20 : decode cX1_reachAcross 20 = .ok (.iconst 2, 1) := by decide +kernel
theorem dX1_reachAcross_21 : decode cX1_reachAcross 21 = .ok (.iadd, 1) := by decide +kernel
theorem dX1_reachAcross_22 : decode cX1_reachAcross 22 = .ok (.ireturn, 1) := by decide +kernel
theorem dX1_reachDown_0 : decode cX1_reachDown 0 = .ok (.aload_n 0, 1) := by decide +kernel
theorem dX1_reachDown_1 : decode cX1_reachDown 1 = .ok (.getfield 9, 3) := by decide +kernel
theorem dX1_reachDown_4 : decode cX1_reachDown 4 = .ok (.iload_n 1, 1) := by decide +kernel
theorem dX1_reachDown_5 : decode cX1_reachDown 5 = .ok (.iaload, 1) := by decide +kernel
theorem dX1_reachDown_6 : decode cX1_reachDown 6 = .ok (.iconst 1, 1) := by decide +kernel
theorem dX1_reachDown_7 : decode cX1_reachDown 7 = .ok (.if_icmp .ne 14, 3) := by decide +kernel
theorem dX1_reachDown_10 : decode cX1_reachDown 10 = .ok (.iconst 2, 1) := by decide +kernel
theorem dX1_reachDown_11 : decode cX1_reachDown 11 = .ok (.aload_n 0, 1) := by decide +kernel
theorem dX1_reachDown_12 : decode cX1_reachDown 12 = .ok (.getfield 24, 3) := by decide +kernel
theorem dX1_reachDown_15 : decode cX1_reachDown 15 = .ok (.iload_n 1, 1) := by decide +kernel
theorem dX1_reachDown_16 : decode cX1_reachDown 16 = .ok (.iaload, 1) := by decide +kernel
theorem dX1_reachDown_17 : decode cX1_reachDown 17 = .ok (.imul, 1) := by decide +kernel
theorem dX1_reachDown_18 : decode cX1_reachDown 18 = .ok (.goto 9, 3) := by decide +kernel
theorem dX1_reachDown_21 : decode cX1_reachDown 21 = .ok (.aload_n 0, 1) := by decide +kernel
theorem dX1_reachDown_22 : decode cX1_reachDown 22 = .ok (.getfield 24, 3) := by decide +kernel
theorem dX1_reachDown_25 : decode cX1_reachDown 25 = .ok (.iload_n 1, 1) := by decide +kernel
theorem dX1_reachDown_26 : decode cX1_reachDown 26 = .ok (.iaload, 1) := by decide +kernel
theorem dX1_reachDown_27 : decode cX1_reachDown 27 = .ok (.aload_n 0, 1) := by decide +kernel
theorem dX1_reachDown_28 : decode cX1_reachDown 28 = .ok (.iload_n 1, 1) := by decide +kernel
theorem dX1_reachDown_29 : decode cX1_reachDown 29 = .ok (.iconst 2, 1) := by decide +kernel
theorem dX1_reachDown_30 : decode cX1_reachDown 30 = .ok (.invokevirtual 81, 3) := by decide +kernel
theorem dX1_reachDown_33 : decode cX1_reachDown 33 = .ok (.ifCond .eq 8, 3) := by decide +kernel
theorem dX1_reachDown_36 : decode cX1_reachDown 36 = .ok (.bipush 40, 2) := by decide +kernel
theorem dX1_reachDown_38 : decode cX1_reachDown 38 = .ok (.goto 4, 3) := by decide +kernel
theorem dX1_reachDown_41 : decode cX1_reachDown 41 = .ok (.iconst 2, 1) := by decide +kernel
theorem dX1_reachDown_42 : decode cX1_reachDown 42 = .ok (.iadd, 1) := by decide +kernel
theorem dX1_reachDown_43 : decode cX1_reachDown 43 = .ok (.ireturn, 1) := by decide +kernel
theorem dX1_queue_0 : decode cX1_queue 0 = .ok (.iconst 0, 1) := by decide +kernel
theorem dX1_queue_1 : decode cX1_queue 1 = .ok (.istore_n 2, 1) := by decide +kernel
theorem dX1_queue_2 : decode cX1_queue 2 = .ok (.iload_n 2, 1) := by decide +kernel
theorem dX1_queue_3 : decode cX1_queue 3 = .ok (.aload_n 0, 1) := by decide +kernel
theorem dX1_queue_4 : decode cX1_queue 4 = .ok (.getfield 39, 3) := by decide +kernel
theorem dX1_queue_7 : decode cX1_queue 7 = .ok (.if_icmp .ge 46, 3) := by decide +kernel
theorem dX1_queue_10 : decode cX1_queue 10 = .ok (.iload_n 2, 1) := by decide +kernel
theorem dX1_queue_11 : decode cX1_queue 11 = .ok (.istore_n 3, 1) := by decide +kernel
theorem dX1_queue_12 : decode cX1_queue 12 = .ok (.iload_n 3, 1) := by decide +kernel
theorem dX1_queue_13 : decode cX1_queue 13 = .ok (.ifCond .le 30, 3) := by decide +kernel
theorem dX1_queue_16 : decode cX1_queue 16 = .ok (.aload_n 0, 1) := by decide +kernel
theorem dX1_queue_17 : decode cX1_queue 17 = .ok (.iload_n 2, 1) := by decide +kernel
theorem dX1_queue_18 : decode cX1_queue 18 = .ok (.aload_n 1, 1) := by decide +kernel
theorem dX1_queue_19 : decode cX1_queue 19 = .ok (.iload_n 3, 1) := by decide +kernel
theorem dX1_queue_20 : decode cX1_queue 20 = .ok (.iconst 1, 1) := by decide +kernel
theorem dX1_queue_21 : decode cX1_queue 21 = .ok (.isub, 1) := by decide +kernel
theorem dX1_queue_22 : decode cX1_queue 22 = .ok (.iaload, 1) := by decide +kernel
theorem dX1_queue_23 : decode cX1_queue 23 = .ok (.invokevirtual 85, 3) := by decide +kernel
theorem dX1_queue_26 : decode cX1_queue 26 = .ok (.ifCond .eq 17, 3) := by decide +kernel
theorem dX1_queue_29 : decode cX1_queue 29 = .ok (.aload_n 1, 1) := by decide +kernel
theorem dX1_queue_30 : decode cX1_queue 30 = .ok (.iload_n 3, 1) := by decide +kernel
theorem dX1_queue_31 : decode cX1_queue 31 = .ok (.aload_n 1, 1) := by decide +kernel
theorem dX1_queue_32 : decode cX1_queue 32 = .ok (.iload_n 3, 1) := by decide +kernel
theorem dX1_queue_33 : decode cX1_queue 33 = .ok (.iconst 1, 1) := by decide +kernel
theorem dX1_queue_34 : decode cX1_queue 34 = .ok (.isub, 1) := by decide +kernel
theorem dX1_queue_35 : decode cX1_queue 35 = .ok (.iaload, 1) := by decide +kernel
theorem dX1_queue_36 : decode cX1_queue 36 = .ok (.iastore, 1) := by decide +kernel
theorem dX1_queue_37 : decode cX1_queue 37 = .ok (.iinc 3 (-1), 3) := by decide +kernel
theorem dX1_queue_40 : decode cX1_queue 40 = .ok (.goto (-28), 3) := by decide +kernel
theorem dX1_queue_43 : decode cX1_queue 43 = .ok (.aload_n 1, 1) := by decide +kernel
theorem dX1_queue_44 : decode cX1_queue 44 = .ok (.iload_n 3, 1) := by decide +kernel
theorem dX1_queue_45 : decode cX1_queue 45 = .ok (.iload_n 2, 1) := by decide +kernel
theorem dX1_queue_46 : decode cX1_queue 46 = .ok (.iastore, 1) := by decide +kernel
theorem dX1_queue_47 : decode cX1_queue 47 = .ok (.iinc 2 1, 3) := by decide +kernel
theorem dX1_queue_50 : decode cX1_queue 50 = .ok (.goto (-48), 3) := by decide +kernel
theorem dX1_queue_53 : decode cX1_queue 53 = .ok (.return_, 1) := by decide +kernel
theorem dX1_isServedAhead_0 : decode cX1_isServedAhead 0 = .ok (.aload_n 0, 1) := by decide +kernel
theorem dX1_isServedAhead_1 : decode cX1_isServedAhead 1 = .ok (.getfield 9, 3) := by decide +kernel
theorem dX1_isServedAhead_4 : decode cX1_isServedAhead 4 = .ok (.iload_n 1, 1) := by decide +kernel
theorem dX1_isServedAhead_5 : decode cX1_isServedAhead 5 = .ok (.iaload, 1) := by decide +kernel
theorem dX1_isServedAhead_6 : decode cX1_isServedAhead 6 = .ok (.iconst 3, 1) := by decide +kernel
theorem dX1_isServedAhead_7 : decode cX1_isServedAhead 7 = .ok (.if_icmp .ne 7, 3) := by decide +kernel
theorem dX1_isServedAhead_10 : decode cX1_isServedAhead 10 = .ok (.iconst 1, 1) := by decide +kernel
theorem dX1_isServedAhead_11 : decode cX1_isServedAhead 11 = .ok (.goto 4, 3) := by decide +kernel
theorem dX1_isServedAhead_14 : decode cX1_isServedAhead 14 = .ok (.iconst 0, 1) := by decide +kernel
theorem dX1_isServedAhead_15 : decode cX1_isServedAhead 15 = .ok (.istore_n 3, 1) := by decide +kernel
theorem dX1_isServedAhead_16 : decode cX1_isServedAhead 16 = .ok (.iload_n 3, 1) := by decide +kernel
theorem dX1_isServedAhead_17 : decode cX1_isServedAhead 17 = .ok (.aload_n 0, 1) := by decide +kernel
theorem dX1_isServedAhead_18 : decode cX1_isServedAhead 18 = .ok (.getfield 9, 3) := by decide +kernel
theorem dX1_isServedAhead_21 : decode cX1_isServedAhead 21 = .ok (.iload_n 2, 1) := by decide +kernel
theorem dX1_isServedAhead_22 : decode cX1_isServedAhead 22 = .ok (.iaload, 1) := by decide +kernel
theorem dX1_isServedAhead_23 : decode cX1_isServedAhead 23 = .ok (.iconst 3, 1) := by decide +kernel
theorem dX1_isServedAhead_24 : decode cX1_isServedAhead 24 = .ok (.if_icmp .ne 7, 3) := by decide +kernel
theorem dX1_isServedAhead_27 : decode cX1_isServedAhead 27 = .ok (.iconst 1, 1) := by decide +kernel
theorem dX1_isServedAhead_28 : decode cX1_isServedAhead 28 = .ok (.goto 4, 3) := by decide +kernel
theorem dX1_isServedAhead_31 : decode cX1_isServedAhead 31 = .ok (.iconst 0, 1) := by decide +kernel
theorem dX1_isServedAhead_32 : decode cX1_isServedAhead 32 = .ok (.if_icmp .eq 5, 3) := by decide +kernel
theorem dX1_isServedAhead_35 : decode cX1_isServedAhead 35 = .ok (.iload_n 3, 1) := by decide +kernel
theorem dX1_isServedAhead_36 : decode cX1_isServedAhead 36 = .ok (.ireturn, 1) := by decide +kernel
theorem dX1_isServedAhead_37 : decode cX1_isServedAhead 37 = .ok (.aload_n 0, 1) := by decide +kernel
theorem dX1_isServedAhead_38 : decode cX1_isServedAhead 38 = .ok (.getfield 27, 3) := by decide +kernel
theorem dX1_isServedAhead_41 : decode cX1_isServedAhead 41 = .ok (.iload_n 1, 1) := by decide +kernel
theorem dX1_isServedAhead_42 : decode cX1_isServedAhead 42 = .ok (.iaload, 1) := by decide +kernel
theorem dX1_isServedAhead_43 : decode cX1_isServedAhead 43 = .ok (.aload_n 0, 1) := by decide +kernel
theorem dX1_isServedAhead_44 : decode cX1_isServedAhead 44 = .ok (.getfield 27, 3) := by decide +kernel
theorem dX1_isServedAhead_47 : decode cX1_isServedAhead 47 = .ok (.iload_n 2, 1) := by decide +kernel
theorem dX1_isServedAhead_48 : decode cX1_isServedAhead 48 = .ok (.iaload, 1) := by decide +kernel
theorem dX1_isServedAhead_49 : decode cX1_isServedAhead 49 = .ok (.if_icmp .le 7, 3) := by decide +kernel
theorem dX1_isServedAhead_52 : decode cX1_isServedAhead 52 = .ok (.iconst 1, 1) := by decide +kernel
theorem dX1_isServedAhead_53 : decode cX1_isServedAhead 53 = .ok (.goto 4, 3) := by decide +kernel
theorem dX1_isServedAhead_56 : decode cX1_isServedAhead 56 = .ok (.iconst 0, 1) := by decide +kernel
theorem dX1_isServedAhead_57 : decode cX1_isServedAhead 57 = .ok (.ireturn, 1) := by decide +kernel
end
section
theorem dX2_init_0 : decode cX2_init 0 = .ok (.aload_n 0, 1) := by decide +kernel
theorem dX2_init_1 : decode cX2_init 1 = .ok (.invokespecial 3, 3) := by decide +kernel
theorem dX2_init_4 : decode cX2_init 4 = .ok (.aload_n 0, 1) := by decide +kernel
theorem dX2_init_5 : decode cX2_init 5 = .ok (.bipush 8, 2) := by decide +kernel
theorem dX2_init_7 : decode cX2_init 7 = .ok (.anewarray 9, 3) := by decide +kernel
theorem dX2_init_10 : decode cX2_init 10 = .ok (.putfield 11, 3) := by decide +kernel
theorem dX2_init_13 : decode cX2_init 13 = .ok (.iconst 0, 1) := by decide +kernel
theorem dX2_init_14 : decode cX2_init 14 = .ok (.istore_n 1, 1) := by decide +kernel
theorem dX2_init_15 : decode cX2_init 15 = .ok (.iload_n 1, 1) := by decide +kernel
theorem dX2_init_16 : decode cX2_init 16 = .ok (.bipush 8, 2) := by decide +kernel
theorem dX2_init_18 : decode cX2_init 18 = .ok (.if_icmp .ge 22, 3) := by decide +kernel
theorem dX2_init_21 : decode cX2_init 21 = .ok (.aload_n 0, 1) := by decide +kernel
theorem dX2_init_22 : decode cX2_init 22 = .ok (.getfield 11, 3) := by decide +kernel
theorem dX2_init_25 : decode cX2_init 25 = .ok (.iload_n 1, 1) := by decide +kernel
theorem dX2_init_26 : decode cX2_init 26 = .ok (.new 9, 3) := by decide +kernel
theorem dX2_init_29 : decode cX2_init 29 = .ok (.dup, 1) := by decide +kernel
theorem dX2_init_30 : decode cX2_init 30 = .ok (.invokespecial 17, 3) := by decide +kernel
theorem dX2_init_33 : decode cX2_init 33 = .ok (.aastore, 1) := by decide +kernel
theorem dX2_init_34 : decode cX2_init 34 = .ok (.iinc 1 1, 3) := by decide +kernel
theorem dX2_init_37 : decode cX2_init 37 = .ok (.goto (-22), 3) := by decide +kernel
theorem dX2_init_40 : decode cX2_init 40 = .ok (.return_, 1) := by decide +kernel
theorem dX2_keep_0 : decode cX2_keep 0 = .ok (.aload_n 0, 1) := by decide +kernel
theorem dX2_keep_1 : decode cX2_keep 1 = .ok (.getfield 11, 3) := by decide +kernel
theorem dX2_keep_4 : decode cX2_keep 4 = .ok (.aload_n 0, 1) := by decide +kernel
theorem dX2_keep_5 : decode cX2_keep 5 = .ok (.getfield 18, 3) := by decide +kernel
theorem dX2_keep_8 : decode cX2_keep 8 = .ok (.aaload, 1) := by decide +kernel
theorem dX2_keep_9 : decode cX2_keep 9 = .ok (.aload_n 1, 1) := by decide +kernel
theorem dX2_keep_10 : decode cX2_keep 10 = .ok (.invokevirtual 22, 3) := by decide +kernel
theorem dX2_keep_13 : decode cX2_keep 13 = .ok (.aload_n 0, 1) := by decide +kernel
theorem dX2_keep_14 : decode cX2_keep 14 = .ok (.aload_n 0, 1) := by decide +kernel
theorem dX2_keep_15 : decode cX2_keep 15 = .ok (.getfield 18, 3) := by decide +kernel
theorem dX2_keep_18 : decode cX2_keep 18 = .ok (.iconst 1, 1) := by decide +kernel
theorem dX2_keep_19 : decode cX2_keep 19 = .ok (.iadd, 1) := by decide +kernel
theorem dX2_keep_20 : decode cX2_keep 20 = .ok (.bipush 8, 2) := by decide +kernel
theorem dX2_keep_22 : decode cX2_keep 22 = .ok (.irem, 1) := by decide +kernel
theorem dX2_keep_23 : decode cX2_keep 23 = .ok (.putfield 18, 3) := by decide +kernel
theorem dX2_keep_26 : decode cX2_keep 26 = .ok (.aload_n 0, 1) := by decide +kernel
theorem dX2_keep_27 : decode cX2_keep 27 = .ok (.aload_n 0, 1) := by decide +kernel
theorem dX2_keep_28 : decode cX2_keep 28 = .ok (.getfield 26, 3) := by decide +kernel
theorem dX2_keep_31 : decode cX2_keep 31 = .ok (.iconst 1, 1) := by decide +kernel
theorem dX2_keep_32 : decode cX2_keep 32 = .ok (.iadd, 1) := by decide +kernel
theorem dX2_keep_33 : decode cX2_keep 33 = .ok (.bipush 8, 2) := by decide +kernel
theorem dX2_keep_35 : decode cX2_keep 35 = .ok (.invokestatic 29, 3) := by decide +kernel
theorem dX2_keep_38 : decode cX2_keep 38 = .ok (.putfield 26, 3) := by decide +kernel
theorem dX2_keep_41 : decode cX2_keep 41 = .ok (.return_, 1) := by decide +kernel
theorem dX2_takeBack_0 : decode cX2_takeBack 0 = .ok (.aload_n 0, 1) := by decide +kernel
theorem dX2_takeBack_1 : decode cX2_takeBack 1 = .ok (.aload_n 0, 1) := by decide +kernel
theorem dX2_takeBack_2 : decode cX2_takeBack 2 = .ok (.getfield 18, 3) := by decide +kernel
theorem dX2_takeBack_5 : decode cX2_takeBack 5 = .ok (.bipush 8, 2) := by decide +kernel
theorem dX2_takeBack_7 : decode cX2_takeBack 7 = .ok (.iadd, 1) := by decide +kernel
theorem dX2_takeBack_8 : decode cX2_takeBack 8 = .ok (.iconst 1, 1) := by decide +kernel
theorem dX2_takeBack_9 : decode cX2_takeBack 9 = .ok (.isub, 1) := by decide +kernel
theorem dX2_takeBack_10 : decode cX2_takeBack 10 = .ok (.bipush 8, 2) := by decide +kernel
theorem dX2_takeBack_12 : decode cX2_takeBack 12 = .ok (.irem, 1) := by decide +kernel
theorem dX2_takeBack_13 : decode cX2_takeBack 13 = .ok (.putfield 18, 3) := by decide +kernel
theorem dX2_takeBack_16 : decode cX2_takeBack 16 = .ok (.aload_n 1, 1) := by decide +kernel
theorem dX2_takeBack_17 : decode cX2_takeBack 17 = .ok (.aload_n 0, 1) := by decide +kernel
theorem dX2_takeBack_18 : decode cX2_takeBack 18 = .ok (.getfield 11, 3) := by decide +kernel
theorem dX2_takeBack_21 : decode cX2_takeBack 21 = .ok (.aload_n 0, 1) := by decide +kernel
theorem dX2_takeBack_22 : decode cX2_takeBack 22 = .ok (.getfield 18, 3) := by decide +kernel
theorem dX2_takeBack_25 : decode cX2_takeBack 25 = .ok (.aaload, 1) := by decide +kernel
theorem dX2_takeBack_26 : decode cX2_takeBack 26 = .ok (.invokevirtual 22, 3) := by decide +kernel
theorem dX2_takeBack_29 : decode cX2_takeBack 29 = .ok (.aload_n 0, 1) := by decide +kernel
theorem dX2_takeBack_30 : decode cX2_takeBack 30 = .ok (.dup, 1) := by decide +kernel
theorem dX2_takeBack_31 : decode cX2_takeBack 31 = .ok (.getfield 26, 3) := by decide +kernel
theorem dX2_takeBack_34 : decode cX2_takeBack 34 = .ok (.iconst 1, 1) := by decide +kernel
theorem dX2_takeBack_35 : decode cX2_takeBack 35 = .ok (.isub, 1) := by decide +kernel
theorem dX2_takeBack_36 : decode cX2_takeBack 36 = .ok (.putfield 26, 3) := by decide +kernel
theorem dX2_takeBack_39 : decode cX2_takeBack 39 = .ok (.return_, 1) := by decide +kernel
theorem dX3_init_0 : decode cX3_init 0 = .ok (.aload_n 0, 1) := by decide +kernel
theorem dX3_init_1 : decode cX3_init 1 = .ok (.invokespecial 3, 3) := by decide +kernel
theorem dX3_init_4 : decode cX3_init 4 = .ok (.aload_n 0, 1) := by decide +kernel
theorem dX3_init_5 : decode cX3_init 5 = .ok (.sipush 384, 3) := by decide +kernel
theorem dX3_init_8 : decode cX3_init 8 = .ok (.anewarray 9, 3) := by decide +kernel
theorem dX3_init_11 : decode cX3_init 11 = .ok (.putfield 11, 3) := by decide +kernel
theorem dX3_init_14 : decode cX3_init 14 = .ok (.aload_n 0, 1) := by decide +kernel
theorem dX3_init_15 : decode cX3_init 15 = .ok (.bipush 24, 2) := by decide +kernel
theorem dX3_init_17 : decode cX3_init 17 = .ok (.newarray .int, 2) := by decide +kernel
theorem dX3_init_19 : decode cX3_init 19 = .ok (.putfield 17, 3) := by decide +kernel
theorem dX3_init_22 : decode cX3_init 22 = .ok (.iconst 0, 1) := by decide +kernel
theorem dX3_init_23 : decode cX3_init 23 = .ok (.istore_n 1, 1) := by decide +kernel
theorem dX3_init_24 : decode cX3_init 24 = .ok (.iload_n 1, 1) := by decide +kernel
theorem dX3_init_25 : decode cX3_init 25 = .ok (.aload_n 0, 1) := by decide +kernel
theorem dX3_init_26 : decode cX3_init 26 = .ok (.getfield 11, 3) := by decide +kernel
theorem dX3_init_29 : decode cX3_init 29 = .ok (.arraylength, 1) := by decide +kernel
theorem dX3_init_30 : decode cX3_init 30 = .ok (.if_icmp .ge 22, 3) := by decide +kernel
theorem dX3_init_33 : decode cX3_init 33 = .ok (.aload_n 0, 1) := by decide +kernel
theorem dX3_init_34 : decode cX3_init 34 = .ok (.getfield 11, 3) := by decide +kernel
theorem dX3_init_37 : decode cX3_init 37 = .ok (.iload_n 1, 1) := by decide +kernel
theorem dX3_init_38 : decode cX3_init 38 = .ok (.new 9, 3) := by decide +kernel
theorem dX3_init_41 : decode cX3_init 41 = .ok (.dup, 1) := by decide +kernel
theorem dX3_init_42 : decode cX3_init 42 = .ok (.invokespecial 21, 3) := by decide +kernel
theorem dX3_init_45 : decode cX3_init 45 = .ok (.aastore, 1) := by decide +kernel
theorem dX3_init_46 : decode cX3_init 46 = .ok (.iinc 1 1, 3) := by decide +kernel
theorem dX3_init_49 : decode cX3_init 49 = .ok (.goto (-25), 3) := by decide +kernel
theorem dX3_init_52 : decode cX3_init 52 = .ok (.return_, 1) := by decide +kernel
theorem dX3_refresh_0 : decode cX3_refresh 0 = .ok (.aload_n 0, 1) := by decide +kernel
theorem dX3_refresh_1 : decode cX3_refresh 1 = .ok (.getfield 22, 3) := by decide +kernel
theorem dX3_refresh_4 : decode cX3_refresh 4 = .ok (.ifCond .eq 4, 3) := by decide +kernel
theorem dX3_refresh_7 : decode cX3_refresh 7 = .ok (.return_, 1) := by decide +kernel
theorem dX3_refresh_8 : decode cX3_refresh 8 = .ok (.aload_n 0, 1) := by decide +kernel
theorem dX3_refresh_9 : decode cX3_refresh 9 = .ok (.iconst 1, 1) := by decide +kernel
theorem dX3_refresh_10 : decode cX3_refresh 10 = .ok (.putfield 22, 3) := by decide +kernel
theorem dX3_refresh_13 : decode cX3_refresh 13 = .ok (.iconst 0, 1) := by decide +kernel
theorem dX3_refresh_14 : decode cX3_refresh 14 = .ok (.istore_n 2, 1) := by decide +kernel
theorem dX3_refresh_15 : decode cX3_refresh 15 = .ok (.iload_n 2, 1) := by decide +kernel
theorem dX3_refresh_16 : decode cX3_refresh 16 = .ok (.aload_n 1, 1) := by decide +kernel
theorem dX3_refresh_17 : decode cX3_refresh 17 = .ok (.getfield 26, 3) := by decide +kernel
theorem dX3_refresh_20 : decode cX3_refresh 20 = .ok (.if_icmp .ge 76, 3) := by decide +kernel
theorem dX3_refresh_23 : decode cX3_refresh 23 = .ok (.aload_n 0, 1) := by decide +kernel
theorem dX3_refresh_24 : decode cX3_refresh 24 = .ok (.getfield 17, 3) := by decide +kernel
theorem dX3_refresh_27 : decode cX3_refresh 27 = .ok (.iload_n 2, 1) := by decide +kernel
theorem dX3_refresh_28 : decode cX3_refresh 28 = .ok (.iconst 0, 1) := by decide +kernel
theorem dX3_refresh_29 : decode cX3_refresh 29 = .ok (.iastore, 1) := by decide +kernel
theorem dX3_refresh_30 : decode cX3_refresh 30 = .ok (.iconst 0, 1) := by decide +kernel
theorem dX3_refresh_31 : decode cX3_refresh 31 = .ok (.istore_n 3, 1) := by decide +kernel
theorem dX3_refresh_32 : decode cX3_refresh 32 = .ok (.iload_n 3, 1) := by decide +kernel
theorem dX3_refresh_33 : decode cX3_refresh 33 = .ok (.aload_n 1, 1) := by decide +kernel
theorem dX3_refresh_34 : decode cX3_refresh 34 = .ok (.iload_n 2, 1) := by decide +kernel
theorem dX3_refresh_35 : decode cX3_refresh 35 = .ok (.invokevirtual 32, 3) := by decide +kernel
theorem dX3_refresh_38 : decode cX3_refresh 38 = .ok (.if_icmp .ge 52, 3) := by decide +kernel
theorem dX3_refresh_41 : decode cX3_refresh 41 = .ok (.aload_n 0, 1) := by decide +kernel
theorem dX3_refresh_42 : decode cX3_refresh 42 = .ok (.iload_n 2, 1) := by decide +kernel
theorem dX3_refresh_43 : decode cX3_refresh 43 = .ok (.iload_n 3, 1) := by decide +kernel
theorem dX3_refresh_44 : decode cX3_refresh 44 = .ok (.invokevirtual 36, 3) := by decide +kernel
theorem dX3_refresh_47 : decode cX3_refresh 47 = .ok (.astore 4, 2) := by decide +kernel
theorem dX3_refresh_49 : decode cX3_refresh 49 = .ok (.aload 4, 2) := by decide +kernel
theorem dX3_refresh_51 : decode cX3_refresh 51 = .ok (.aload_n 1, 1) := by decide +kernel
theorem dX3_refresh_52 : decode cX3_refresh 52 = .ok (.iload_n 2, 1) := by decide +kernel
theorem dX3_refresh_53 : decode cX3_refresh 53 = .ok (.iload_n 3, 1) := by decide +kernel
theorem dX3_refresh_54 : decode cX3_refresh 54 = .ok (.iconst 0, 1) := by decide +kernel
theorem dX3_refresh_55 : decode cX3_refresh 55 = .ok (.invokevirtual 40, 3) := by decide +kernel
theorem dX3_refresh_58 : decode cX3_refresh 58 = .ok (.aload_n 0, 1) := by decide +kernel
theorem dX3_refresh_59 : decode cX3_refresh 59 = .ok (.getfield 17, 3) := by decide +kernel
theorem dX3_refresh_62 : decode cX3_refresh 62 = .ok (.iload_n 2, 1) := by decide +kernel
theorem dX3_refresh_63 : decode cX3_refresh 63 = .ok (.dup2, 1) := by decide +kernel
theorem dX3_refresh_64 : decode cX3_refresh 64 = .ok (.iaload, 1) := by decide +kernel
theorem dX3_refresh_65 : decode cX3_refresh 65 = .ok (.aload 4, 2) := by decide +kernel
theorem dX3_refresh_67 : decode cX3_refresh 67 = .ok (.aload_n 1, 1) := by decide +kernel
theorem dX3_refresh_68 : decode cX3_refresh 68 = .ok (.iconst 0, 1) := by decide +kernel
theorem dX3_refresh_69 : decode cX3_refresh 69 = .ok (.invokevirtual 44, 3) := by decide +kernel
theorem dX3_refresh_72 : decode cX3_refresh 72 = .ok (.ifCond .eq 9, 3) := by decide +kernel
theorem dX3_refresh_75 : decode cX3_refresh 75 = .ok (.iconst 1, 1) := by decide +kernel
theorem dX3_refresh_76 : decode cX3_refresh 76 = .ok (.iload_n 3, 1) := by decide +kernel
theorem dX3_refresh_77 : decode cX3_refresh 77 = .ok (.ishl, 1) := by decide +kernel
theorem dX3_refresh_78 : decode cX3_refresh 78 = .ok (.goto 4, 3) := by decide +kernel
theorem dX3_refresh_81 : decode cX3_refresh 81 = .ok (.iconst 0, 1) := by decide +kernel
theorem dX3_refresh_82 : decode cX3_refresh 82 = .ok (.ior, 1) := by decide +kernel
theorem dX3_refresh_83 : decode cX3_refresh 83 = .ok (.iastore, 1) := by decide +kernel
theorem dX3_refresh_84 : decode cX3_refresh 84 = .ok (.iinc 3 1, 3) := by decide +kernel
theorem dX3_refresh_87 : decode cX3_refresh 87 = .ok (.goto (-55), 3) := by decide +kernel
theorem dX3_refresh_90 : decode cX3_refresh 90 = .ok (.iinc 2 1, 3) := by decide +kernel
theorem dX3_refresh_93 : decode cX3_refresh 93 = .ok (.goto (-78), 3) := by decide +kernel
theorem dX3_refresh_96 : decode cX3_refresh 96 = .ok (.return_, 1) := by decide +kernel
theorem dX3_boxOf_0 : decode cX3_boxOf 0 = .ok (.aload_n 0, 1) := by decide +kernel
theorem dX3_boxOf_1 : decode cX3_boxOf 1 = .ok (.getfield 11, 3) := by decide +kernel
theorem dX3_boxOf_4 : decode cX3_boxOf 4 = .ok (.iload_n 1, 1) := by decide +kernel
theorem dX3_boxOf_5 : decode cX3_boxOf 5 = .ok (.bipush 16, 2) := by decide +kernel
theorem dX3_boxOf_7 : decode cX3_boxOf 7 = .ok (.imul, 1) := by decide +kernel
theorem dX3_boxOf_8 : decode cX3_boxOf 8 = .ok (.iload_n 2, 1) := by decide +kernel
theorem dX3_boxOf_9 : decode cX3_boxOf 9 = .ok (.iadd, 1) := by decide +kernel
theorem dX3_boxOf_10 : decode cX3_boxOf 10 = .ok (.aaload, 1) := by decide +kernel
theorem dX3_boxOf_11 : decode cX3_boxOf 11 = .ok (.areturn, 1) := by decide +kernel
theorem dX3_isOpen_0 : decode cX3_isOpen 0 = .ok (.aload_n 0, 1) := by decide +kernel
theorem dX3_isOpen_1 : decode cX3_isOpen 1 = .ok (.getfield 17, 3) := by decide +kernel
theorem dX3_isOpen_4 : decode cX3_isOpen 4 = .ok (.iload_n 1, 1) := by decide +kernel
theorem dX3_isOpen_5 : decode cX3_isOpen 5 = .ok (.iaload, 1) := by decide +kernel
theorem dX3_isOpen_6 : decode cX3_isOpen 6 = .ok (.iload_n 2, 1) := by decide +kernel
theorem dX3_isOpen_7 : decode cX3_isOpen 7 = .ok (.ishr, 1) := by decide +kernel
theorem dX3_isOpen_8 : decode cX3_isOpen 8 = .ok (.iconst 1, 1) := by decide +kernel
theorem dX3_isOpen_9 : decode cX3_isOpen 9 = .ok (.iand, 1) := by decide +kernel
theorem dX3_isOpen_10 : decode cX3_isOpen 10 = .ok (.iconst 1, 1) := by decide +kernel
theorem dX3_isOpen_11 : decode cX3_isOpen 11 = .ok (.if_icmp .ne 7, 3) := by decide +kernel
theorem dX3_isOpen_14 : decode cX3_isOpen 14 = .ok (.iconst 1, 1) := by decide +kernel
theorem dX3_isOpen_15 : decode cX3_isOpen 15 = .ok (.goto 4, 3) := by decide +kernel
theorem dX3_isOpen_18 : decode cX3_isOpen 18 = .ok (.iconst 0, 1) := by decide +kernel
theorem dX3_isOpen_19 : decode cX3_isOpen 19 = .ok (.ireturn, 1) := by decide +kernel
theorem dX3_openHits_0 : decode cX3_openHits 0 = .ok (.aload_n 0, 1) := by decide +kernel
theorem dX3_openHits_1 : decode cX3_openHits 1 = .ok (.iload_n 1, 1) := by decide +kernel
theorem dX3_openHits_2 : decode cX3_openHits 2 = .ok (.iload_n 2, 1) := by decide +kernel
theorem dX3_openHits_3 : decode cX3_openHits 3 = .ok (.invokevirtual 36, 3) := by decide +kernel
theorem dX3_openHits_6 : decode cX3_openHits 6 = .ok (.astore 4, 2) := by decide +kernel
theorem dX3_openHits_8 : decode cX3_openHits 8 = .ok (.iconst 0, 1) := by decide +kernel
theorem dX3_openHits_9 : decode cX3_openHits 9 = .ok (.istore 5, 2) := by decide +kernel
theorem dX3_openHits_11 : decode cX3_openHits 11 = .ok (.iconst 0, 1) := by decide +kernel
theorem dX3_openHits_12 : decode cX3_openHits 12 = .ok (.istore 6, 2) := by decide +kernel
theorem dX3_openHits_14 : decode cX3_openHits 14 = .ok (.iload 6, 2) := by decide +kernel
theorem dX3_openHits_16 : decode cX3_openHits 16 = .ok (.bipush 16, 2) := by decide +kernel
theorem dX3_openHits_18 : decode cX3_openHits 18 = .ok (.if_icmp .ge 43, 3) := by decide +kernel
theorem dX3_openHits_21 : decode cX3_openHits 21 = .ok (.aload_n 0, 1) := by decide +kernel
theorem dX3_openHits_22 : decode cX3_openHits 22 = .ok (.iload_n 3, 1) := by decide +kernel
theorem dX3_openHits_23 : decode cX3_openHits 23 = .ok (.iload 6, 2) := by decide +kernel
theorem dX3_openHits_25 : decode cX3_openHits 25 = .ok (.invokevirtual 48, 3) := by decide +kernel
theorem dX3_openHits_28 : decode cX3_openHits 28 = .ok (.ifCond .eq 27, 3) := by decide +kernel
theorem dX3_openHits_31 : decode cX3_openHits 31 = .ok (.aload 4, 2) := by decide +kernel
theorem dX3_openHits_33 : decode cX3_openHits 33 = .ok (.aload_n 0, 1) := by decide +kernel
theorem dX3_openHits_34 : decode cX3_openHits 34 = .ok (.iload_n 3, 1) := by decide +kernel
theorem dX3_openHits_35 : decode cX3_openHits 35 = .ok (.iload 6, 2) := by decide +kernel
theorem dX3_openHits_37 : decode cX3_openHits 37 = .ok (.invokevirtual 36, 3) := by decide +kernel
theorem dX3_openHits_40 : decode cX3_openHits 40 = .ok (.invokevirtual 51, 3) := by decide +kernel
theorem dX3_openHits_43 : decode cX3_openHits 43 = .ok (.ifCond .eq 12, 3) := by decide +kernel
theorem dX3_openHits_46 : decode cX3_openHits 46 = .ok (.iload 5, 2) := by decide +kernel
theorem dX3_openHits_48 : decode cX3_openHits 48 = .ok (.iconst 1, 1) := by decide +kernel
theorem dX3_openHits_49 : decode cX3_openHits 49 = .ok (.iload 6, 2) := by decide +kernel
theorem dX3_openHits_51 : decode cX3_openHits 51 = .ok (.ishl, 1) := by decide +kernel
theorem dX3_openHits_52 : decode cX3_openHits 52 = .ok (.ior, 1) := by decide +kernel
theorem dX3_openHits_53 : decode cX3_openHits 53 = .ok (.istore 5, 2) := by decide +kernel
theorem dX3_openHits_55 : decode cX3_openHits 55 = .ok (.iinc 6 1, 3) := by decide +kernel
theorem dX3_openHits_58 : decode cX3_openHits 58 = .ok (.goto (-44), 3) := by decide +kernel
theorem dX3_openHits_61 : decode cX3_openHits 61 = .ok (.iload 5, 2) := by decide +kernel
theorem dX3_openHits_63 : decode cX3_openHits 63 = .ok (.ireturn, 1) := by decide +kernel
theorem dX3_openWaysClash_0 : decode cX3_openWaysClash 0 = .ok (.iconst 0, 1) := by decide +kernel
theorem dX3_openWaysClash_1 : decode cX3_openWaysClash 1 = .ok (.istore_n 3, 1) := by decide +kernel
theorem dX3_openWaysClash_2 : decode cX3_openWaysClash 2 = .ok (.iload_n 3, 1) := by decide +kernel
theorem dX3_openWaysClash_3 : decode cX3_openWaysClash 3 = .ok (.bipush 16, 2) := by decide +kernel
theorem dX3_openWaysClash_5 : decode cX3_openWaysClash 5 = .ok (.if_icmp .ge 65, 3) := by decide +kernel
theorem dX3_openWaysClash_8 : decode cX3_openWaysClash 8 = .ok (.iconst 0, 1) := by decide +kernel
theorem dX3_openWaysClash_9 : decode cX3_openWaysClash 9 = .ok (.istore 4, 2) := by decide +kernel
theorem dX3_openWaysClash_11 : decode cX3_openWaysClash 11 = .ok (.iload 4, 2) := by decide +kernel
theorem dX3_openWaysClash_13 : decode cX3_openWaysClash 13 = .ok (.bipush 16, 2) := by decide +kernel
theorem dX3_openWaysClash_15 : decode cX3_openWaysClash 15 = .ok (.if_icmp .ge 49, 3) := by decide +kernel
theorem dX3_openWaysClash_18 : decode cX3_openWaysClash 18 = .ok (.aload_n 0, 1) := by decide +kernel
theorem dX3_openWaysClash_19 : decode cX3_openWaysClash 19 = .ok (.iload_n 1, 1) := by decide +kernel
theorem dX3_openWaysClash_20 : decode cX3_openWaysClash 20 = .ok (.iload_n 3, 1) := by decide +kernel
theorem dX3_openWaysClash_21 : decode cX3_openWaysClash 21 = .ok (.invokevirtual 48, 3) := by decide +kernel
theorem dX3_openWaysClash_24 : decode cX3_openWaysClash 24 = .ok (.ifCond .eq 40, 3) := by decide +kernel
theorem dX3_openWaysClash_27 : decode cX3_openWaysClash 27 = .ok (.aload_n 0, 1) := by decide +kernel
theorem dX3_openWaysClash_28 : decode cX3_openWaysClash 28 = .ok (.iload_n 2, 1) := by decide +kernel
theorem dX3_openWaysClash_29 : decode cX3_openWaysClash 29 = .ok (.iload 4, 2) := by decide +kernel
theorem dX3_openWaysClash_31 : decode cX3_openWaysClash 31 = .ok (.invokevirtual 48, 3) := by decide +kernel
theorem dX3_openWaysClash_34 : decode cX3_openWaysClash 34 = .ok (.ifCond .eq 24, 3) := by decide +kernel
theorem dX3_openWaysClash_37 : decode cX3_openWaysClash 37 = .ok (.aload_n 0, 1) := by decide +kernel
theorem dX3_openWaysClash_38 : decode cX3_openWaysClash 38 = .ok (.iload_n 1, 1) := by decide +kernel
theorem dX3_openWaysClash_39 : decode cX3_openWaysClash 39 = .ok (.iload_n 3, 1) := by decide +kernel
theorem dX3_openWaysClash_40 : decode cX3_openWaysClash 40 = .ok (.invokevirtual 36, 3) := by decide +kernel
theorem dX3_openWaysClash_43 : decode cX3_openWaysClash 43 = .ok (.aload_n 0, 1) := by decide +kernel
theorem dX3_openWaysClash_44 : decode cX3_openWaysClash 44 = .ok (.iload_n 2, 1) := by decide +kernel
theorem dX3_openWaysClash_45 : decode cX3_openWaysClash 45 = .ok (.iload 4, 2) := by decide +kernel
theorem dX3_openWaysClash_47 : decode cX3_openWaysClash 47 = .ok (.invokevirtual 36, 3) := by decide +kernel
theorem dX3_openWaysClash_50 : decode cX3_openWaysClash 50 = .ok (.invokevirtual 51, 3) := by decide +kernel
theorem dX3_openWaysClash_53 : decode cX3_openWaysClash 53 = .ok (.ifCond .eq 5, 3) := by decide +kernel
theorem dX3_openWaysClash_56 : decode cX3_openWaysClash 56 = .ok (.iconst 1, 1) := by decide +kernel
theorem dX3_openWaysClash_57 : decode cX3_openWaysClash 57 = .ok (.ireturn, 1) := by decide +kernel
theorem dX3_openWaysClash_58 : decode cX3_openWaysClash 58 = .ok (.iinc 4 1, 3) := by decide +kernel
theorem dX3_openWaysClash_61 : decode cX3_openWaysClash 61 = .ok (.goto (-50), 3) := by decide +kernel
theorem dX3_openWaysClash_64 : decode cX3_openWaysClash 64 = .ok (.iinc 3 1, 3) := by decide +kernel
theorem dX3_openWaysClash_67 : decode cX3_openWaysClash 67 = .ok (.goto (-65), 3) := by decide +kernel
theorem dX3_openWaysClash_70 : decode cX3_openWaysClash 70 = .ok (.iconst 0, 1) := by decide +kernel
theorem dX3_openWaysClash_71 : decode cX3_openWaysClash 71 = .ok (.ireturn, 1) := by decide +kernel
theorem dX4_init_0 : decode cX4_init 0 = .ok (.aload_n 0, 1) := by decide +kernel
theorem dX4_init_1 : decode cX4_init 1 = .ok (.invokespecial 3, 3) := by decide +kernel
theorem dX4_init_4 : decode cX4_init 4 = .ok (.aload_n 0, 1) := by decide +kernel
theorem dX4_init_5 : decode cX4_init 5 = .ok (.bipush 24, 2) := by decide +kernel
theorem dX4_init_7 : decode cX4_init 7 = .ok (.newarray .int, 2) := by decide +kernel
theorem dX4_init_9 : decode cX4_init 9 = .ok (.putfield 9, 3) := by decide +kernel
theorem dX4_init_12 : decode cX4_init 12 = .ok (.aload_n 0, 1) := by decide +kernel
theorem dX4_init_13 : decode cX4_init 13 = .ok (.bipush 24, 2) := by decide +kernel
theorem dX4_init_15 : decode cX4_init 15 = .ok (.newarray .int, 2) := by decide +kernel
theorem dX4_init_17 : decode cX4_init 17 = .ok (.putfield 15, 3) := by decide +kernel
theorem dX4_init_20 : decode cX4_init 20 = .ok (.return_, 1) := by decide +kernel
theorem dX4_refresh_0 : decode cX4_refresh 0 = .ok (.aload_n 0, 1) := by decide +kernel
theorem dX4_refresh_1 : decode cX4_refresh 1 = .ok (.getfield 18, 3) := by decide +kernel
theorem dX4_refresh_4 : decode cX4_refresh 4 = .ok (.ifCond .eq 4, 3) := by decide +kernel
theorem dX4_refresh_7 : decode cX4_refresh 7 = .ok (.return_, 1) := by decide +kernel
theorem dX4_refresh_8 : decode cX4_refresh 8 = .ok (.aload_n 0, 1) := by decide +kernel
theorem dX4_refresh_9 : decode cX4_refresh 9 = .ok (.iconst 1, 1) := by decide +kernel
theorem dX4_refresh_10 : decode cX4_refresh 10 = .ok (.putfield 18, 3) := by decide +kernel
theorem dX4_refresh_13 : decode cX4_refresh 13 = .ok (.iconst 0, 1) := by decide +kernel
theorem dX4_refresh_14 : decode cX4_refresh 14 = .ok (.istore_n 3, 1) := by decide +kernel
theorem dX4_refresh_15 : decode cX4_refresh 15 = .ok (.iload_n 3, 1) := by decide +kernel
theorem dX4_refresh_16 : decode cX4_refresh 16 = .ok (.aload_n 1, 1) := by decide +kernel
theorem dX4_refresh_17 : decode cX4_refresh 17 = .ok (.getfield 22, 3) := by decide +kernel
theorem dX4_refresh_20 : decode cX4_refresh 20 = .ok (.if_icmp .ge 23, 3) := by decide +kernel
theorem dX4_refresh_23 : decode cX4_refresh 23 = .ok (.aload_n 0, 1) := by decide +kernel
theorem dX4_refresh_24 : decode cX4_refresh 24 = .ok (.getfield 9, 3) := by decide +kernel
theorem dX4_refresh_27 : decode cX4_refresh 27 = .ok (.iload_n 3, 1) := by decide +kernel
theorem dX4_refresh_28 : decode cX4_refresh 28 = .ok (.iload_n 3, 1) := by decide +kernel
theorem dX4_refresh_29 : decode cX4_refresh 29 = .ok (.iastore, 1) := by decide +kernel
theorem dX4_refresh_30 : decode cX4_refresh 30 = .ok (.aload_n 0, 1) := by decide +kernel
theorem dX4_refresh_31 : decode cX4_refresh 31 = .ok (.aload_n 1, 1) := by decide +kernel
theorem dX4_refresh_32 : decode cX4_refresh 32 = .ok (.aload_n 2, 1) := by decide +kernel
theorem dX4_refresh_33 : decode cX4_refresh 33 = .ok (.iload_n 3, 1) := by decide +kernel
theorem dX4_refresh_34 : decode cX4_refresh 34 = .ok (.invokevirtual 28, 3) := by decide +kernel
theorem dX4_refresh_37 : decode cX4_refresh 37 = .ok (.iinc 3 1, 3) := by decide +kernel
theorem dX4_refresh_40 : decode cX4_refresh 40 = .ok (.goto (-25), 3) := by decide +kernel
theorem dX4_refresh_43 : decode cX4_refresh 43 = .ok (.aload_n 0, 1) := by decide +kernel
theorem dX4_refresh_44 : decode cX4_refresh 44 = .ok (.aload_n 1, 1) := by decide +kernel
theorem dX4_refresh_45 : decode cX4_refresh 45 = .ok (.getfield 22, 3) := by decide +kernel
theorem dX4_refresh_48 : decode cX4_refresh 48 = .ok (.invokevirtual 32, 3) := by decide +kernel
theorem dX4_refresh_51 : decode cX4_refresh 51 = .ok (.return_, 1) := by decide +kernel
theorem dX4_joinBack_0 : decode cX4_joinBack 0 = .ok (.iconst 0, 1) := by decide +kernel
theorem dX4_joinBack_1 : decode cX4_joinBack 1 = .ok (.istore 4, 2) := by decide +kernel
theorem dX4_joinBack_3 : decode cX4_joinBack 3 = .ok (.iload 4, 2) := by decide +kernel
theorem dX4_joinBack_5 : decode cX4_joinBack 5 = .ok (.iload_n 3, 1) := by decide +kernel
theorem dX4_joinBack_6 : decode cX4_joinBack 6 = .ok (.if_icmp .ge 82, 3) := by decide +kernel
theorem dX4_joinBack_9 : decode cX4_joinBack 9 = .ok (.aload_n 0, 1) := by decide +kernel
theorem dX4_joinBack_10 : decode cX4_joinBack 10 = .ok (.getfield 9, 3) := by decide +kernel
theorem dX4_joinBack_13 : decode cX4_joinBack 13 = .ok (.iload_n 3, 1) := by decide +kernel
theorem dX4_joinBack_14 : decode cX4_joinBack 14 = .ok (.iaload, 1) := by decide +kernel
theorem dX4_joinBack_15 : decode cX4_joinBack 15 = .ok (.aload_n 0, 1) := by decide +kernel
theorem dX4_joinBack_16 : decode cX4_joinBack 16 = .ok (.getfield 9, 3) := by decide +kernel
theorem dX4_joinBack_19 : decode cX4_joinBack 19 = .ok (.iload 4, 2) := by decide +kernel
theorem dX4_joinBack_21 : decode cX4_joinBack 21 = .ok (.iaload, 1) := by decide +kernel
theorem dX4_joinBack_22 : decode cX4_joinBack 22 = .ok (.if_icmp .eq 60, 3) := by decide +kernel
theorem dX4_joinBack_25 : decode cX4_joinBack 25 = .ok (.aload_n 1, 1) := by decide +kernel
theorem dX4_joinBack_26 : decode cX4_joinBack 26 = .ok (.iload_n 3, 1) := by decide +kernel
theorem dX4_joinBack_27 : decode cX4_joinBack 27 = .ok (.iload 4, 2) := by decide +kernel
theorem dX4_joinBack_29 : decode cX4_joinBack 29 = .ok (.invokevirtual 36, 3) := by decide +kernel
theorem dX4_joinBack_32 : decode cX4_joinBack 32 = .ok (.ifCond .eq 50, 3) := by decide +kernel
theorem dX4_joinBack_35 : decode cX4_joinBack 35 = .ok (.aload_n 2, 1) := by decide +kernel
theorem dX4_joinBack_36 : decode cX4_joinBack 36 = .ok (.iload_n 3, 1) := by decide +kernel
theorem dX4_joinBack_37 : decode cX4_joinBack 37 = .ok (.iload 4, 2) := by decide +kernel
theorem dX4_joinBack_39 : decode cX4_joinBack 39 = .ok (.invokevirtual 40, 3) := by decide +kernel
theorem dX4_joinBack_42 : decode cX4_joinBack 42 = .ok (.ifCond .eq 40, 3) := by decide +kernel
theorem dX4_joinBack_45 : decode cX4_joinBack 45 = .ok (.aload_n 0, 1) := by decide +kernel
theorem dX4_joinBack_46 : decode cX4_joinBack 46 = .ok (.aload_n 0, 1) := by decide +kernel
theorem dX4_joinBack_47 : decode cX4_joinBack 47 = .ok (.getfield 9, 3) := by decide +kernel
theorem dX4_joinBack_50 : decode cX4_joinBack 50 = .ok (.iload_n 3, 1) := by decide +kernel
theorem dX4_joinBack_51 : decode cX4_joinBack 51 = .ok (.iaload, 1) := by decide +kernel
theorem dX4_joinBack_52 : decode cX4_joinBack 52 = .ok (.aload_n 0, 1) := by decide +kernel
theorem dX4_joinBack_53 : decode cX4_joinBack 53 = .ok (.getfield 9, 3) := by decide +kernel
theorem dX4_joinBack_56 : decode cX4_joinBack 56 = .ok (.iload 4, 2) := by decide +kernel
theorem dX4_joinBack_58 : decode cX4_joinBack 58 = .ok (.iaload, 1) := by decide +kernel
theorem dX4_joinBack_59 : decode cX4_joinBack 59 = .ok (.invokestatic 45, 3) := by decide +kernel
theorem dX4_joinBack_62 : decode cX4_joinBack 62 = .ok (.aload_n 0, 1) := by decide +kernel
theorem dX4_joinBack_63 : decode cX4_joinBack 63 = .ok (.getfield 9, 3) := by decide +kernel
theorem dX4_joinBack_66 : decode cX4_joinBack 66 = .ok (.iload_n 3, 1) := by decide +kernel
theorem dX4_joinBack_67 : decode cX4_joinBack 67 = .ok (.iaload, 1) := by decide +kernel
theorem dX4_joinBack_68 : decode cX4_joinBack 68 = .ok (.aload_n 0, 1) := by decide +kernel
theorem dX4_joinBack_69 : decode cX4_joinBack 69 = .ok (.getfield 9, 3) := by decide +kernel
theorem dX4_joinBack_72 : decode cX4_joinBack 72 = .ok (.iload 4, 2) := by decide +kernel
theorem dX4_joinBack_74 : decode cX4_joinBack 74 = .ok (.iaload, 1) := by decide +kernel
theorem dX4_joinBack_75 : decode cX4_joinBack 75 = .ok (.invokestatic 51, 3) := by decide +kernel
theorem dX4_joinBack_78 : decode cX4_joinBack 78 = .ok (.iload_n 3, 1) := by decide +kernel
theorem dX4_joinBack_79 : decode cX4_joinBack 79 = .ok (.invokevirtual 54, 3) := by decide +kernel
theorem dX4_joinBack_82 : decode cX4_joinBack 82 = .ok (.iinc 4 1, 3) := by decide +kernel
theorem dX4_joinBack_85 : decode cX4_joinBack 85 = .ok (.goto (-82), 3) := by decide +kernel
theorem dX4_joinBack_88 : decode cX4_joinBack 88 = .ok (.return_, 1) := by decide +kernel
theorem dX4_join_0 : decode cX4_join 0 = .ok (.iconst 0, 1) := by decide +kernel
theorem dX4_join_1 : decode cX4_join 1 = .ok (.istore 4, 2) := by decide +kernel
theorem dX4_join_3 : decode cX4_join 3 = .ok (.iload 4, 2) := by decide +kernel
theorem dX4_join_5 : decode cX4_join 5 = .ok (.iload_n 3, 1) := by decide +kernel
theorem dX4_join_6 : decode cX4_join 6 = .ok (.if_icmp .gt 28, 3) := by decide +kernel
theorem dX4_join_9 : decode cX4_join 9 = .ok (.aload_n 0, 1) := by decide +kernel
theorem dX4_join_10 : decode cX4_join 10 = .ok (.getfield 9, 3) := by decide +kernel
theorem dX4_join_13 : decode cX4_join 13 = .ok (.iload 4, 2) := by decide +kernel
theorem dX4_join_15 : decode cX4_join 15 = .ok (.iaload, 1) := by decide +kernel
theorem dX4_join_16 : decode cX4_join 16 = .ok (.iload_n 2, 1) := by decide +kernel
theorem dX4_join_17 : decode cX4_join 17 = .ok (.if_icmp .ne 11, 3) := by decide +kernel
theorem dX4_join_20 : decode cX4_join 20 = .ok (.aload_n 0, 1) := by decide +kernel
theorem dX4_join_21 : decode cX4_join 21 = .ok (.getfield 9, 3) := by decide +kernel
theorem dX4_join_24 : decode cX4_join 24 = .ok (.iload 4, 2) := by decide +kernel
theorem dX4_join_26 : decode cX4_join 26 = .ok (.iload_n 1, 1) := by decide +kernel
theorem dX4_join_27 : decode cX4_join 27 = .ok (.iastore, 1) := by decide +kernel
theorem dX4_join_28 : decode cX4_join 28 = .ok (.iinc 4 1, 3) := by decide +kernel
theorem dX4_join_31 : decode cX4_join 31 = .ok (.goto (-28), 3) := by decide +kernel
theorem dX4_join_34 : decode cX4_join 34 = .ok (.return_, 1) := by decide +kernel
theorem dX4_giveNumbers_0 : decode cX4_giveNumbers 0 = .ok (.aload_n 0, 1) := by decide +kernel
theorem dX4_giveNumbers_1 : decode cX4_giveNumbers 1 = .ok (.iconst 0, 1) := by decide +kernel
theorem dX4_giveNumbers_2 : decode cX4_giveNumbers 2 = .ok (.putfield 58, 3) := by decide +kernel
theorem dX4_giveNumbers_5 : decode cX4_giveNumbers 5 = .ok (.aload_n 0, 1) := by decide +kernel
theorem dX4_giveNumbers_6 : decode cX4_giveNumbers 6 = .ok (.iconst 0, 1) := by decide +kernel
theorem dX4_giveNumbers_7 : decode cX4_giveNumbers 7 = .ok (.putfield 61, 3) := by decide +kernel
theorem dX4_giveNumbers_10 : decode cX4_giveNumbers 10 = .ok (.iconst 0, 1) := by decide +kernel
theorem dX4_giveNumbers_11 : decode cX4_giveNumbers 11 = .ok (.istore_n 2, 1) := by decide +kernel
theorem dX4_giveNumbers_12 : decode cX4_giveNumbers 12 = .ok (.iload_n 2, 1) := by decide +kernel
theorem dX4_giveNumbers_13 : decode cX4_giveNumbers 13 = .ok (.iload_n 1, 1) := by decide +kernel
theorem dX4_giveNumbers_14 : decode cX4_giveNumbers 14 = .ok (.if_icmp .ge 106, 3) := by decide +kernel
theorem dX4_giveNumbers_17 : decode cX4_giveNumbers 17 = .ok (.aload_n 0, 1) := by decide +kernel
theorem dX4_giveNumbers_18 : decode cX4_giveNumbers 18 = .ok (.getfield 9, 3) := by decide +kernel
theorem dX4_giveNumbers_21 : decode cX4_giveNumbers 21 = .ok (.iload_n 2, 1) := by decide +kernel
theorem dX4_giveNumbers_22 : decode cX4_giveNumbers 22 = .ok (.iaload, 1) := by decide +kernel
theorem dX4_giveNumbers_23 : decode cX4_giveNumbers 23 = .ok (.iload_n 2, 1) := by decide +kernel
theorem dX4_giveNumbers_24 : decode cX4_giveNumbers 24 = .ok (.if_icmp .ne 36, 3) := by decide +kernel
theorem dX4_giveNumbers_27 : decode cX4_giveNumbers 27 = .ok (.aload_n 0, 1) := by decide +kernel
theorem dX4_giveNumbers_28 : decode cX4_giveNumbers 28 = .ok (.getfield 15, 3) := by decide +kernel
theorem dX4_giveNumbers_31 : decode cX4_giveNumbers 31 = .ok (.aload_n 0, 1) := by decide +kernel
theorem dX4_giveNumbers_32 : decode cX4_giveNumbers 32 = .ok (.getfield 58, 3) := by decide +kernel
theorem dX4_giveNumbers_35 : decode cX4_giveNumbers 35 = .ok (.iconst 0, 1) := by decide +kernel
theorem dX4_giveNumbers_36 : decode cX4_giveNumbers 36 = .ok (.iastore, 1) := by decide +kernel
theorem dX4_giveNumbers_37 : decode cX4_giveNumbers 37 = .ok (.aload_n 0, 1) := by decide +kernel
theorem dX4_giveNumbers_38 : decode cX4_giveNumbers 38 = .ok (.getfield 9, 3) := by decide +kernel
theorem dX4_giveNumbers_41 : decode cX4_giveNumbers 41 = .ok (.iload_n 2, 1) := by decide +kernel
theorem dX4_giveNumbers_42 : decode cX4_giveNumbers 42 = .ok (.aload_n 0, 1) := by decide +kernel
theorem dX4_giveNumbers_43 : decode cX4_giveNumbers 43 = .ok (.getfield 58, 3) := by decide +kernel
theorem dX4_giveNumbers_46 : decode cX4_giveNumbers 46 = .ok (.iastore, 1) := by decide +kernel
theorem dX4_giveNumbers_47 : decode cX4_giveNumbers 47 = .ok (.aload_n 0, 1) := by decide +kernel
theorem dX4_giveNumbers_48 : decode cX4_giveNumbers 48 = .ok (.dup, 1) := by decide +kernel
theorem dX4_giveNumbers_49 : decode cX4_giveNumbers 49 = .ok (.getfield 58, 3) := by decide +kernel
theorem dX4_giveNumbers_52 : decode cX4_giveNumbers 52 = .ok (.iconst 1, 1) := by decide +kernel
theorem dX4_giveNumbers_53 : decode cX4_giveNumbers 53 = .ok (.iadd, 1) := by decide +kernel
theorem dX4_giveNumbers_54 : decode cX4_giveNumbers 54 = .ok (.putfield 58, 3) := by decide +kernel
theorem dX4_giveNumbers_57 : decode cX4_giveNumbers 57 = .ok (.goto 20, 3) := by decide +kernel
theorem dX4_giveNumbers_60 : decode cX4_giveNumbers 60 = .ok (.aload_n 0, 1) := by decide +kernel
theorem dX4_giveNumbers_61 : decode cX4_giveNumbers 61 = .ok (.getfield 9, 3) := by decide +kernel
theorem dX4_giveNumbers_64 : decode cX4_giveNumbers 64 = .ok (.iload_n 2, 1) := by decide +kernel
theorem dX4_giveNumbers_65 : decode cX4_giveNumbers 65 = .ok (.aload_n 0, 1) := by decide +kernel
theorem dX4_giveNumbers_66 : decode cX4_giveNumbers 66 = .ok (.getfield 9, 3) := by decide +kernel
theorem dX4_giveNumbers_69 : decode cX4_giveNumbers 69 = .ok (.aload_n 0, 1) := by decide +kernel
theorem dX4_giveNumbers_70 : decode cX4_giveNumbers 70 = .ok (.getfield 9, 3) := by decide +kernel
theorem dX4_giveNumbers_73 : decode cX4_giveNumbers 73 = .ok (.iload_n 2, 1) := by decide +kernel
theorem dX4_giveNumbers_74 : decode cX4_giveNumbers 74 = .ok (.iaload, 1) := by decide +kernel
theorem dX4_giveNumbers_75 : decode cX4_giveNumbers 75 = .ok (.iaload, 1) := by decide +kernel
theorem dX4_giveNumbers_76 : decode cX4_giveNumbers 76 = .ok (.iastore, 1) := by decide +kernel
theorem dX4_giveNumbers_77 : decode cX4_giveNumbers 77 = .ok (.aload_n 0, 1) := by decide +kernel
theorem dX4_giveNumbers_78 : decode cX4_giveNumbers 78 = .ok (.getfield 15, 3) := by decide +kernel
theorem dX4_giveNumbers_81 : decode cX4_giveNumbers 81 = .ok (.aload_n 0, 1) := by decide +kernel
theorem dX4_giveNumbers_82 : decode cX4_giveNumbers 82 = .ok (.getfield 9, 3) := by decide +kernel
theorem dX4_giveNumbers_85 : decode cX4_giveNumbers 85 = .ok (.iload_n 2, 1) := by decide +kernel
theorem dX4_giveNumbers_86 : decode cX4_giveNumbers 86 = .ok (.iaload, 1) := by decide +kernel
theorem dX4_giveNumbers_87 : decode cX4_giveNumbers 87 = .ok (.dup2, 1) := by decide +kernel
theorem dX4_giveNumbers_88 : decode cX4_giveNumbers 88 = .ok (.iaload, 1) := by decide +kernel
theorem dX4_giveNumbers_89 : decode cX4_giveNumbers 89 = .ok (.iconst 1, 1) := by decide +kernel
theorem dX4_giveNumbers_90 : decode cX4_giveNumbers 90 = .ok (.iadd, 1) := by decide +kernel
theorem dX4_giveNumbers_91 : decode cX4_giveNumbers 91 = .ok (.iastore, 1) := by decide +kernel
theorem dX4_giveNumbers_92 : decode cX4_giveNumbers 92 = .ok (.aload_n 0, 1) := by decide +kernel
theorem dX4_giveNumbers_93 : decode cX4_giveNumbers 93 = .ok (.aload_n 0, 1) := by decide +kernel
theorem dX4_giveNumbers_94 : decode cX4_giveNumbers 94 = .ok (.getfield 61, 3) := by decide +kernel
theorem dX4_giveNumbers_97 : decode cX4_giveNumbers 97 = .ok (.aload_n 0, 1) := by decide +kernel
theorem dX4_giveNumbers_98 : decode cX4_giveNumbers 98 = .ok (.getfield 15, 3) := by decide +kernel
theorem dX4_giveNumbers_101 : decode cX4_giveNumbers 101 = .ok (.aload_n 0, 1) := by decide +kernel
theorem dX4_giveNumbers_102 : decode cX4_giveNumbers 102 = .ok (.getfield 9, 3) := by decide +kernel
theorem dX4_giveNumbers_105 : decode cX4_giveNumbers 105 = .ok (.iload_n 2, 1) := by decide +kernel
theorem dX4_giveNumbers_106 : decode cX4_giveNumbers 106 = .ok (.iaload, 1) := by decide +kernel
theorem dX4_giveNumbers_107 : decode cX4_giveNumbers 107 = .ok (.iaload, 1) := by decide +kernel
theorem dX4_giveNumbers_108 : decode cX4_giveNumbers 108 = .ok (.invokestatic 51, 3) := by decide +kernel
theorem dX4_giveNumbers_111 : decode cX4_giveNumbers 111 = .ok (.putfield 61, 3) := by decide +kernel
theorem dX4_giveNumbers_114 : decode cX4_giveNumbers 114 = .ok (.iinc 2 1, 3) := by decide +kernel
theorem dX4_giveNumbers_117 : decode cX4_giveNumbers 117 = .ok (.goto (-105), 3) := by decide +kernel
theorem dX4_giveNumbers_120 : decode cX4_giveNumbers 120 = .ok (.return_, 1) := by decide +kernel
theorem dX5_init_0 : decode cX5_init 0 = .ok (.aload_n 0, 1) := by decide +kernel
theorem dX5_init_1 : decode cX5_init 1 = .ok (.invokespecial 3, 3) := by decide +kernel
theorem dX5_init_4 : decode cX5_init 4 = .ok (.aload_n 0, 1) := by decide +kernel
theorem dX5_init_5 : decode cX5_init 5 = .ok (.bipush 24, 2) := by decide +kernel
theorem dX5_init_7 : decode cX5_init 7 = .ok (.newarray .int, 2) := by decide +kernel
theorem dX5_init_9 : decode cX5_init 9 = .ok (.putfield 9, 3) := by decide +kernel
theorem dX5_init_12 : decode cX5_init 12 = .ok (.aload_n 0, 1) := by decide +kernel
theorem dX5_init_13 : decode cX5_init 13 = .ok (.bipush 24, 2) := by decide +kernel
theorem dX5_init_15 : decode cX5_init 15 = .ok (.newarray .int, 2) := by decide +kernel
theorem dX5_init_17 : decode cX5_init 17 = .ok (.putfield 15, 3) := by decide +kernel
theorem dX5_init_20 : decode cX5_init 20 = .ok (.aload_n 0, 1) := by decide +kernel
theorem dX5_init_21 : decode cX5_init 21 = .ok (.bipush 24, 2) := by decide +kernel
theorem dX5_init_23 : decode cX5_init 23 = .ok (.newarray .int, 2) := by decide +kernel
theorem dX5_init_25 : decode cX5_init 25 = .ok (.putfield 18, 3) := by decide +kernel
theorem dX5_init_28 : decode cX5_init 28 = .ok (.aload_n 0, 1) := by decide +kernel
theorem dX5_init_29 : decode cX5_init 29 = .ok (.new 21, 3) := by decide +kernel
theorem dX5_init_32 : decode cX5_init 32 = .ok (.dup, 1) := by decide +kernel
theorem dX5_init_33 : decode cX5_init 33 = .ok (.invokespecial 23, 3) := by decide +kernel
theorem dX5_init_36 : decode cX5_init 36 = .ok (.putfield 24, 3) := by decide +kernel
theorem dX5_init_39 : decode cX5_init 39 = .ok (.aload_n 0, 1) := by decide +kernel
theorem dX5_init_40 : decode cX5_init 40 = .ok (.new 21, 3) := by decide +kernel
theorem dX5_init_43 : decode cX5_init 43 = .ok (.dup, 1) := by decide +kernel
theorem dX5_init_44 : decode cX5_init 44 = .ok (.invokespecial 23, 3) := by decide +kernel
theorem dX5_init_47 : decode cX5_init 47 = .ok (.putfield 28, 3) := by decide +kernel
theorem dX5_init_50 : decode cX5_init 50 = .ok (.return_, 1) := by decide +kernel
theorem dX5_refresh_0 : decode cX5_refresh 0 = .ok (.aload_n 0, 1) := by decide +kernel
theorem dX5_refresh_1 : decode cX5_refresh 1 = .ok (.getfield 31, 3) := by decide +kernel
theorem dX5_refresh_4 : decode cX5_refresh 4 = .ok (.ifCond .eq 4, 3) := by decide +kernel
theorem dX5_refresh_7 : decode cX5_refresh 7 = .ok (.return_, 1) := by decide +kernel
theorem dX5_refresh_8 : decode cX5_refresh 8 = .ok (.aload_n 0, 1) := by decide +kernel
theorem dX5_refresh_9 : decode cX5_refresh 9 = .ok (.iconst 1, 1) := by decide +kernel
theorem dX5_refresh_10 : decode cX5_refresh 10 = .ok (.putfield 31, 3) := by decide +kernel
theorem dX5_refresh_13 : decode cX5_refresh 13 = .ok (.aload_n 0, 1) := by decide +kernel
theorem dX5_refresh_14 : decode cX5_refresh 14 = .ok (.getfield 9, 3) := by decide +kernel
theorem dX5_refresh_17 : decode cX5_refresh 17 = .ok (.iconst (-1), 1) := by decide +kernel
theorem dX5_refresh_18 : decode cX5_refresh 18 = .ok (.invokestatic 35, 3) := by decide +kernel
theorem dX5_refresh_21 : decode cX5_refresh 21 = .ok (.aload_n 0, 1) := by decide +kernel
theorem dX5_refresh_22 : decode cX5_refresh 22 = .ok (.getfield 15, 3) := by decide +kernel
theorem dX5_refresh_25 : decode cX5_refresh 25 = .ok (.iconst (-1), 1) := by decide +kernel
theorem dX5_refresh_26 : decode cX5_refresh 26 = .ok (.invokestatic 35, 3) := by decide +kernel
theorem dX5_refresh_29 : decode cX5_refresh 29 = .ok (.aload_n 1, 1) := by decide +kernel
theorem dX5_refresh_30 : decode cX5_refresh 30 = .ok (.aload_n 0, 1) := by decide +kernel
theorem dX5_refresh_31 : decode cX5_refresh 31 = .ok (.getfield 18, 3) := by decide +kernel
theorem dX5_refresh_34 : decode cX5_refresh 34 = .ok (.invokevirtual 41, 3) := by decide +kernel
theorem dX5_refresh_37 : decode cX5_refresh 37 = .ok (.iconst 0, 1) := by decide +kernel
theorem dX5_refresh_38 : decode cX5_refresh 38 = .ok (.istore_n 2, 1) := by decide +kernel
theorem dX5_refresh_39 : decode cX5_refresh 39 = .ok (.iload_n 2, 1) := by decide +kernel
theorem dX5_refresh_40 : decode cX5_refresh 40 = .ok (.aload_n 1, 1) := by decide +kernel
theorem dX5_refresh_41 : decode cX5_refresh 41 = .ok (.getfield 47, 3) := by decide +kernel
theorem dX5_refresh_44 : decode cX5_refresh 44 = .ok (.if_icmp .ge 20, 3) := by decide +kernel
theorem dX5_refresh_47 : decode cX5_refresh 47 = .ok (.aload_n 0, 1) := by decide +kernel
theorem dX5_refresh_48 : decode cX5_refresh 48 = .ok (.aload_n 1, 1) := by decide +kernel
theorem dX5_refresh_49 : decode cX5_refresh 49 = .ok (.aload_n 0, 1) := by decide +kernel
theorem dX5_refresh_50 : decode cX5_refresh 50 = .ok (.getfield 18, 3) := by decide +kernel
theorem dX5_refresh_53 : decode cX5_refresh 53 = .ok (.iload_n 2, 1) := by decide +kernel
theorem dX5_refresh_54 : decode cX5_refresh 54 = .ok (.iaload, 1) := by decide +kernel
theorem dX5_refresh_55 : decode cX5_refresh 55 = .ok (.invokevirtual 51, 3) := by decide +kernel
theorem dX5_refresh_58 : decode cX5_refresh 58 = .ok (.iinc 2 1, 3) := by decide +kernel
theorem dX5_refresh_61 : decode cX5_refresh 61 = .ok (.goto (-22), 3) := by decide +kernel
theorem dX5_refresh_64 : decode cX5_refresh 64 = .ok (.return_, 1) := by decide +kernel
theorem dX5_isThere_0 : decode cX5_isThere 0 = .ok (.aload_n 0, 1) := by decide +kernel
theorem dX5_isThere_1 : decode cX5_isThere 1 = .ok (.getfield 9, 3) := by decide +kernel
theorem dX5_isThere_4 : decode cX5_isThere 4 = .ok (.iload_n 1, 1) := by decide +kernel
theorem dX5_isThere_5 : decode cX5_isThere 5 = .ok (.iaload, 1) := by decide +kernel
theorem dX5_isThere_6 : decode cX5_isThere 6 = .ok (.iconst (-1), 1) := by decide +kernel
theorem dX5_isThere_7 : decode cX5_isThere 7 = .ok (.if_icmp .eq 17, 3) := by decide +kernel
theorem dX5_isThere_10 : decode cX5_isThere 10 = .ok (.aload_n 0, 1) := by decide +kernel
theorem dX5_isThere_11 : decode cX5_isThere 11 = .ok (.getfield 9, 3) := by decide +kernel
theorem dX5_isThere_14 : decode cX5_isThere 14 = .ok (.iload_n 1, 1) := by decide +kernel
theorem dX5_isThere_15 : decode cX5_isThere 15 = .ok (.iaload, 1) := by decide +kernel
theorem dX5_isThere_16 : decode cX5_isThere 16 = .ok (.iload_n 2, 1) := by decide +kernel
theorem dX5_isThere_17 : decode cX5_isThere 17 = .ok (.if_icmp .gt 7, 3) := by decide +kernel
theorem dX5_isThere_20 : decode cX5_isThere 20 = .ok (.iconst 1, 1) := by decide +kernel
theorem dX5_isThere_21 : decode cX5_isThere 21 = .ok (.goto 4, 3) := by decide +kernel
theorem dX5_isThere_24 : decode cX5_isThere 24 = .ok (.iconst 0, 1) := by decide +kernel
theorem dX5_isThere_25 : decode cX5_isThere 25 = .ok (.ireturn, 1) := by decide +kernel
theorem dX5_settle_0 : decode cX5_settle 0 = .ok (.bipush 7, 2) := by decide +kernel
theorem dX5_settle_2 : decode cX5_settle 2 = .ok (.istore_n 3, 1) := by decide +kernel
theorem dX5_settle_3 : decode cX5_settle 3 = .ok (.iconst (-1), 1) := by decide +kernel
theorem dX5_settle_4 : decode cX5_settle 4 = .ok (.istore 4, 2) := by decide +kernel
theorem dX5_settle_6 : decode cX5_settle 6 = .ok (.iconst 0, 1) := by decide +kernel
theorem dX5_settle_7 : decode cX5_settle 7 = .ok (.istore 5, 2) := by decide +kernel
theorem dX5_settle_9 : decode cX5_settle 9 = .ok (.iload 5, 2) := by decide +kernel
theorem dX5_settle_11 : decode cX5_settle 11 = .ok (.aload_n 1, 1) := by decide +kernel
theorem dX5_settle_12 : decode cX5_settle 12 = .ok (.iload_n 2, 1) := by decide +kernel
theorem dX5_settle_13 : decode cX5_settle 13 = .ok (.invokevirtual 55, 3) := by decide +kernel
theorem dX5_settle_16 : decode cX5_settle 16 = .ok (.if_icmp .ge 56, 3) := by decide +kernel
theorem dX5_settle_19 : decode cX5_settle 19 = .ok (.iload_n 3, 1) := by decide +kernel
theorem dX5_settle_20 : decode cX5_settle 20 = .ok (.ifCond .le 52, 3) := by decide +kernel
theorem dX5_settle_23 : decode cX5_settle 23 = .ok (.bipush 7, 2) := by decide +kernel
theorem dX5_settle_25 : decode cX5_settle 25 = .ok (.istore 6, 2) := by decide +kernel
theorem dX5_settle_27 : decode cX5_settle 27 = .ok (.iload 6, 2) := by decide +kernel
theorem dX5_settle_29 : decode cX5_settle 29 = .ok (.ifCond .le 24, 3) := by decide +kernel
theorem dX5_settle_32 : decode cX5_settle 32 = .ok (.aload_n 0, 1) := by decide +kernel
theorem dX5_settle_33 : decode cX5_settle 33 = .ok (.aload_n 1, 1) := by decide +kernel
theorem dX5_settle_34 : decode cX5_settle 34 = .ok (.iload_n 2, 1) := by decide +kernel
theorem dX5_settle_35 : decode cX5_settle 35 = .ok (.iload 5, 2) := by decide +kernel
theorem dX5_settle_37 : decode cX5_settle 37 = .ok (.iload 6, 2) := by decide +kernel
theorem dX5_settle_39 : decode cX5_settle 39 = .ok (.iconst 1, 1) := by decide +kernel
theorem dX5_settle_40 : decode cX5_settle 40 = .ok (.isub, 1) := by decide +kernel
theorem dX5_settle_41 : decode cX5_settle 41 = .ok (.invokevirtual 59, 3) := by decide +kernel
theorem dX5_settle_44 : decode cX5_settle 44 = .ok (.ifCond .eq 9, 3) := by decide +kernel
theorem dX5_settle_47 : decode cX5_settle 47 = .ok (.iinc 6 (-1), 3) := by decide +kernel
theorem dX5_settle_50 : decode cX5_settle 50 = .ok (.goto (-23), 3) := by decide +kernel
theorem dX5_settle_53 : decode cX5_settle 53 = .ok (.iload 6, 2) := by decide +kernel
theorem dX5_settle_55 : decode cX5_settle 55 = .ok (.iload_n 3, 1) := by decide +kernel
theorem dX5_settle_56 : decode cX5_settle 56 = .ok (.if_icmp .ge 10, 3) := by decide +kernel
theorem dX5_settle_59 : decode cX5_settle 59 = .ok (.iload 6, 2) := by decide +kernel
theorem dX5_settle_61 : decode cX5_settle 61 = .ok (.istore_n 3, 1) := by decide +kernel
theorem dX5_settle_62 : decode cX5_settle 62 = .ok (.iload 5, 2) := by decide +kernel
theorem dX5_settle_64 : decode cX5_settle 64 = .ok (.istore 4, 2) := by decide +kernel
theorem dX5_settle_66 : decode cX5_settle 66 = .ok (.iinc 5 1, 3) := by decide +kernel
theorem dX5_settle_69 : decode cX5_settle 69 = .ok (.goto (-60), 3) := by decide +kernel
theorem dX5_settle_72 : decode cX5_settle 72 = .ok (.iload 4, 2) := by decide +kernel
theorem dX5_settle_74 : decode cX5_settle 74 = .ok (.iconst (-1), 1) := by decide +kernel
theorem dX5_settle_75 : decode cX5_settle 75 = .ok (.if_icmp .eq 18, 3) := by decide +kernel
theorem dX5_settle_78 : decode cX5_settle 78 = .ok (.aload_n 0, 1) := by decide +kernel
theorem dX5_settle_79 : decode cX5_settle 79 = .ok (.getfield 9, 3) := by decide +kernel
theorem dX5_settle_82 : decode cX5_settle 82 = .ok (.iload_n 2, 1) := by decide +kernel
theorem dX5_settle_83 : decode cX5_settle 83 = .ok (.iload_n 3, 1) := by decide +kernel
theorem dX5_settle_84 : decode cX5_settle 84 = .ok (.iastore, 1) := by decide +kernel
theorem dX5_settle_85 : decode cX5_settle 85 = .ok (.aload_n 0, 1) := by decide +kernel
theorem dX5_settle_86 : decode cX5_settle 86 = .ok (.getfield 15, 3) := by decide +kernel
theorem dX5_settle_89 : decode cX5_settle 89 = .ok (.iload_n 2, 1) := by decide +kernel
theorem dX5_settle_90 : decode cX5_settle 90 = .ok (.iload 4, 2) := by decide +kernel
theorem dX5_settle_92 : decode cX5_settle 92 = .ok (.iastore, 1) := by decide +kernel
theorem dX5_settle_93 : decode cX5_settle 93 = .ok (.return_, 1) := by decide +kernel
theorem dX5_fits_0 : decode cX5_fits 0 = .ok (.aload_n 0, 1) := by decide +kernel
theorem dX5_fits_1 : decode cX5_fits 1 = .ok (.getfield 24, 3) := by decide +kernel
theorem dX5_fits_4 : decode cX5_fits 4 = .ok (.aload_n 1, 1) := by decide +kernel
theorem dX5_fits_5 : decode cX5_fits 5 = .ok (.iload_n 2, 1) := by decide +kernel
theorem dX5_fits_6 : decode cX5_fits 6 = .ok (.iload_n 3, 1) := by decide +kernel
theorem dX5_fits_7 : decode cX5_fits 7 = .ok (.iload 4, 2) := by decide +kernel
theorem dX5_fits_9 : decode cX5_fits 9 = .ok (.invokevirtual 63, 3) := by decide +kernel
theorem dX5_fits_12 : decode cX5_fits 12 = .ok (.aload_n 0, 1) := by decide +kernel
theorem dX5_fits_13 : decode cX5_fits 13 = .ok (.getfield 24, 3) := by decide +kernel
theorem dX5_fits_16 : decode cX5_fits 16 = .ok (.aload_n 1, 1) := by decide +kernel
theorem dX5_fits_17 : decode cX5_fits 17 = .ok (.iload 4, 2) := by decide +kernel
theorem dX5_fits_19 : decode cX5_fits 19 = .ok (.invokevirtual 67, 3) := by decide +kernel
theorem dX5_fits_22 : decode cX5_fits 22 = .ok (.ifCond .ne 5, 3) := by decide +kernel
theorem dX5_fits_25 : decode cX5_fits 25 = .ok (.iconst 0, 1) := by decide +kernel
theorem dX5_fits_26 : decode cX5_fits 26 = .ok (.ireturn, 1) := by decide +kernel
theorem dX5_fits_27 : decode cX5_fits 27 = .ok (.iconst 0, 1) := by decide +kernel
theorem dX5_fits_28 : decode cX5_fits 28 = .ok (.istore 5, 2) := by decide +kernel
theorem dX5_fits_30 : decode cX5_fits 30 = .ok (.iload 5, 2) := by decide +kernel
theorem dX5_fits_32 : decode cX5_fits 32 = .ok (.aload_n 1, 1) := by decide +kernel
theorem dX5_fits_33 : decode cX5_fits 33 = .ok (.getfield 47, 3) := by decide +kernel
theorem dX5_fits_36 : decode cX5_fits 36 = .ok (.if_icmp .ge 55, 3) := by decide +kernel
theorem dX5_fits_39 : decode cX5_fits 39 = .ok (.aload_n 0, 1) := by decide +kernel
theorem dX5_fits_40 : decode cX5_fits 40 = .ok (.iload 5, 2) := by decide +kernel
theorem dX5_fits_42 : decode cX5_fits 42 = .ok (.iload 4, 2) := by decide +kernel
theorem dX5_fits_44 : decode cX5_fits 44 = .ok (.invokevirtual 71, 3) := by decide +kernel
theorem dX5_fits_47 : decode cX5_fits 47 = .ok (.ifCond .eq 38, 3) := by decide +kernel
theorem dX5_fits_50 : decode cX5_fits 50 = .ok (.aload_n 0, 1) := by decide +kernel
theorem dX5_fits_51 : decode cX5_fits 51 = .ok (.getfield 28, 3) := by decide +kernel
theorem dX5_fits_54 : decode cX5_fits 54 = .ok (.aload_n 1, 1) := by decide +kernel
theorem dX5_fits_55 : decode cX5_fits 55 = .ok (.iload 5, 2) := by decide +kernel
theorem dX5_fits_57 : decode cX5_fits 57 = .ok (.aload_n 0, 1) := by decide +kernel
theorem dX5_fits_58 : decode cX5_fits 58 = .ok (.getfield 15, 3) := by decide +kernel
theorem dX5_fits_61 : decode cX5_fits 61 = .ok (.iload 5, 2) := by decide +kernel
theorem dX5_fits_63 : decode cX5_fits 63 = .ok (.iaload, 1) := by decide +kernel
theorem dX5_fits_64 : decode cX5_fits 64 = .ok (.iload 4, 2) := by decide +kernel
theorem dX5_fits_66 : decode cX5_fits 66 = .ok (.invokevirtual 63, 3) := by decide +kernel
theorem dX5_fits_69 : decode cX5_fits 69 = .ok (.aload_n 0, 1) := by decide +kernel
theorem dX5_fits_70 : decode cX5_fits 70 = .ok (.getfield 24, 3) := by decide +kernel
theorem dX5_fits_73 : decode cX5_fits 73 = .ok (.aload_n 0, 1) := by decide +kernel
theorem dX5_fits_74 : decode cX5_fits 74 = .ok (.getfield 28, 3) := by decide +kernel
theorem dX5_fits_77 : decode cX5_fits 77 = .ok (.invokevirtual 75, 3) := by decide +kernel
theorem dX5_fits_80 : decode cX5_fits 80 = .ok (.ifCond .eq 5, 3) := by decide +kernel
theorem dX5_fits_83 : decode cX5_fits 83 = .ok (.iconst 0, 1) := by decide +kernel
theorem dX5_fits_84 : decode cX5_fits 84 = .ok (.ireturn, 1) := by decide +kernel
theorem dX5_fits_85 : decode cX5_fits 85 = .ok (.iinc 5 1, 3) := by decide +kernel
theorem dX5_fits_88 : decode cX5_fits 88 = .ok (.goto (-58), 3) := by decide +kernel
theorem dX5_fits_91 : decode cX5_fits 91 = .ok (.iconst 1, 1) := by decide +kernel
theorem dX5_fits_92 : decode cX5_fits 92 = .ok (.ireturn, 1) := by decide +kernel
theorem dX6_init_0 : decode cX6_init 0 = .ok (.aload_n 0, 1) := by decide +kernel
theorem dX6_init_1 : decode cX6_init 1 = .ok (.invokespecial 3, 3) := by decide +kernel
theorem dX6_init_4 : decode cX6_init 4 = .ok (.aload_n 0, 1) := by decide +kernel
theorem dX6_init_5 : decode cX6_init 5 = .ok (.bipush 7, 2) := by decide +kernel
theorem dX6_init_7 : decode cX6_init 7 = .ok (.newarray .int, 2) := by decide +kernel
theorem dX6_init_9 : decode cX6_init 9 = .ok (.putfield 9, 3) := by decide +kernel
theorem dX6_init_12 : decode cX6_init 12 = .ok (.aload_n 0, 1) := by decide +kernel
theorem dX6_init_13 : decode cX6_init 13 = .ok (.bipush 7, 2) := by decide +kernel
theorem dX6_init_15 : decode cX6_init 15 = .ok (.newarray .boolean, 2) := by decide +kernel
theorem dX6_init_17 : decode cX6_init 17 = .ok (.putfield 15, 3) := by decide +kernel
theorem dX6_init_20 : decode cX6_init 20 = .ok (.aload_n 0, 1) := by decide +kernel
theorem dX6_init_21 : decode cX6_init 21 = .ok (.bipush 119, 2) := by decide +kernel
theorem dX6_init_23 : decode cX6_init 23 = .ok (.newarray .int, 2) := by decide +kernel
theorem dX6_init_25 : decode cX6_init 25 = .ok (.putfield 19, 3) := by decide +kernel
theorem dX6_init_28 : decode cX6_init 28 = .ok (.aload_n 0, 1) := by decide +kernel
theorem dX6_init_29 : decode cX6_init 29 = .ok (.bipush 119, 2) := by decide +kernel
theorem dX6_init_31 : decode cX6_init 31 = .ok (.newarray .long, 2) := by decide +kernel
theorem dX6_init_33 : decode cX6_init 33 = .ok (.putfield 22, 3) := by decide +kernel
theorem dX6_init_36 : decode cX6_init 36 = .ok (.aload_n 0, 1) := by decide +kernel
theorem dX6_init_37 : decode cX6_init 37 = .ok (.bipush 119, 2) := by decide +kernel
theorem dX6_init_39 : decode cX6_init 39 = .ok (.newarray .long, 2) := by decide +kernel
theorem dX6_init_41 : decode cX6_init 41 = .ok (.putfield 26, 3) := by decide +kernel
theorem dX6_init_44 : decode cX6_init 44 = .ok (.return_, 1) := by decide +kernel
theorem dX6_seat_0 : decode cX6_seat 0 = .ok (.aload_n 0, 1) := by decide +kernel
theorem dX6_seat_1 : decode cX6_seat 1 = .ok (.iconst 0, 1) := by decide +kernel
theorem dX6_seat_2 : decode cX6_seat 2 = .ok (.putfield 29, 3) := by decide +kernel
theorem dX6_seat_5 : decode cX6_seat 5 = .ok (.iconst 0, 1) := by decide +kernel
theorem dX6_seat_6 : decode cX6_seat 6 = .ok (.istore 6, 2) := by decide +kernel
theorem dX6_seat_8 : decode cX6_seat 8 = .ok (.iload 6, 2) := by decide +kernel
theorem dX6_seat_10 : decode cX6_seat 10 = .ok (.aload_n 1, 1) := by decide +kernel
theorem dX6_seat_11 : decode cX6_seat 11 = .ok (.getfield 33, 3) := by decide +kernel
theorem dX6_seat_14 : decode cX6_seat 14 = .ok (.if_icmp .ge 83, 3) := by decide +kernel
theorem dX6_seat_17 : decode cX6_seat 17 = .ok (.aload 5, 2) := by decide +kernel
theorem dX6_seat_19 : decode cX6_seat 19 = .ok (.iload 6, 2) := by decide +kernel
theorem dX6_seat_21 : decode cX6_seat 21 = .ok (.iaload, 1) := by decide +kernel
theorem dX6_seat_22 : decode cX6_seat 22 = .ok (.istore 7, 2) := by decide +kernel
theorem dX6_seat_24 : decode cX6_seat 24 = .ok (.aload_n 3, 1) := by decide +kernel
theorem dX6_seat_25 : decode cX6_seat 25 = .ok (.getfield 38, 3) := by decide +kernel
theorem dX6_seat_28 : decode cX6_seat 28 = .ok (.iload 7, 2) := by decide +kernel
theorem dX6_seat_30 : decode cX6_seat 30 = .ok (.iaload, 1) := by decide +kernel
theorem dX6_seat_31 : decode cX6_seat 31 = .ok (.iload 4, 2) := by decide +kernel
theorem dX6_seat_33 : decode cX6_seat 33 = .ok (.if_icmp .ne 58, 3) := by decide +kernel
theorem dX6_seat_36 : decode cX6_seat 36 = .ok (.aload_n 0, 1) := by decide +kernel
theorem dX6_seat_37 : decode cX6_seat 37 = .ok (.getfield 29, 3) := by decide +kernel
theorem dX6_seat_40 : decode cX6_seat 40 = .ok (.bipush 7, 2) := by decide +kernel
theorem dX6_seat_42 : decode cX6_seat 42 = .ok (.if_icmp .ge 49, 3) := by decide +kernel
theorem dX6_seat_45 : decode cX6_seat 45 = .ok (.aload_n 0, 1) := by decide +kernel
theorem dX6_seat_46 : decode cX6_seat 46 = .ok (.getfield 9, 3) := by decide +kernel
theorem dX6_seat_49 : decode cX6_seat 49 = .ok (.aload_n 0, 1) := by decide +kernel
theorem dX6_seat_50 : decode cX6_seat 50 = .ok (.getfield 29, 3) := by decide +kernel
theorem dX6_seat_53 : decode cX6_seat 53 = .ok (.iload 7, 2) := by decide +kernel
theorem dX6_seat_55 : decode cX6_seat 55 = .ok (.iastore, 1) := by decide +kernel
theorem dX6_seat_56 : decode cX6_seat 56 = .ok (.aload_n 0, 1) := by decide +kernel
theorem dX6_seat_57 : decode cX6_seat 57 = .ok (.getfield 15, 3) := by decide +kernel
theorem dX6_seat_60 : decode cX6_seat 60 = .ok (.aload_n 0, 1) := by decide +kernel
theorem dX6_seat_61 : decode cX6_seat 61 = .ok (.getfield 29, 3) := by decide +kernel
theorem dX6_seat_64 : decode cX6_seat 64 = .ok (.aload_n 1, 1) := by decide +kernel
theorem dX6_seat_65 : decode cX6_seat 65 = .ok (.getfield 43, 3) := by decide +kernel
theorem dX6_seat_68 : decode cX6_seat 68 = .ok (.iload 7, 2) := by decide +kernel
theorem dX6_seat_70 : decode cX6_seat 70 = .ok (.iaload, 1) := by decide +kernel
theorem dX6_seat_71 : decode cX6_seat 71 = .ok (.iconst 3, 1) := by decide +kernel
theorem dX6_seat_72 : decode cX6_seat 72 = .ok (.if_icmp .ne 7, 3) := by decide +kernel
theorem dX6_seat_75 : decode cX6_seat 75 = .ok (.iconst 1, 1) := by decide +kernel
theorem dX6_seat_76 : decode cX6_seat 76 = .ok (.goto 4, 3) := by decide +kernel
theorem dX6_seat_79 : decode cX6_seat 79 = .ok (.iconst 0, 1) := by decide +kernel
theorem dX6_seat_80 : decode cX6_seat 80 = .ok (.bastore, 1) := by decide +kernel
theorem dX6_seat_81 : decode cX6_seat 81 = .ok (.aload_n 0, 1) := by decide +kernel
theorem dX6_seat_82 : decode cX6_seat 82 = .ok (.dup, 1) := by decide +kernel
theorem dX6_seat_83 : decode cX6_seat 83 = .ok (.getfield 29, 3) := by decide +kernel
theorem dX6_seat_86 : decode cX6_seat 86 = .ok (.iconst 1, 1) := by decide +kernel
theorem dX6_seat_87 : decode cX6_seat 87 = .ok (.iadd, 1) := by decide +kernel
theorem dX6_seat_88 : decode cX6_seat 88 = .ok (.putfield 29, 3) := by decide +kernel
theorem dX6_seat_91 : decode cX6_seat 91 = .ok (.iinc 6 1, 3) := by decide +kernel
theorem dX6_seat_94 : decode cX6_seat 94 = .ok (.goto (-86), 3) := by decide +kernel
theorem dX6_seat_97 : decode cX6_seat 97 = .ok (.aload_n 0, 1) := by decide +kernel
theorem dX6_seat_98 : decode cX6_seat 98 = .ok (.lconst 0, 1) := by decide +kernel
theorem dX6_seat_99 : decode cX6_seat 99 = .ok (.putfield 46, 3) := by decide +kernel
theorem dX6_seat_102 : decode cX6_seat 102 = .ok (.aload_n 0, 1) := by decide +kernel
theorem dX6_seat_103 : decode cX6_seat 103 = .ok (.lconst 0, 1) := by decide +kernel
theorem dX6_seat_104 : decode cX6_seat 104 = .ok (.putfield 50, 3) := by decide +kernel
theorem dX6_seat_107 : decode cX6_seat 107 = .ok (.iconst 0, 1) := by decide +kernel
theorem dX6_seat_108 : decode cX6_seat 108 = .ok (.istore 6, 2) := by decide +kernel
theorem dX6_seat_110 : decode cX6_seat 110 = .ok (.iload 6, 2) := by decide +kernel
theorem dX6_seat_112 : decode cX6_seat 112 = .ok (.aload_n 0, 1) := by decide +kernel
theorem dX6_seat_113 : decode cX6_seat 113 = .ok (.getfield 29, 3) := by decide +kernel
theorem dX6_seat_116 : decode cX6_seat 116 = .ok (.if_icmp .ge 17, 3) := by decide +kernel
theorem dX6_seat_119 : decode cX6_seat 119 = .ok (.aload_n 0, 1) := by decide +kernel
theorem dX6_seat_120 : decode cX6_seat 120 = .ok (.aload_n 1, 1) := by decide +kernel
theorem dX6_seat_121 : decode cX6_seat 121 = .ok (.aload_n 2, 1) := by decide +kernel
theorem dX6_seat_122 : decode cX6_seat 122 = .ok (.iload 6, 2) := by decide +kernel
theorem dX6_seat_124 : decode cX6_seat 124 = .ok (.invokevirtual 53, 3) := by decide +kernel
theorem dX6_seat_127 : decode cX6_seat 127 = .ok (.iinc 6 1, 3) := by decide +kernel
theorem dX6_seat_130 : decode cX6_seat 130 = .ok (.goto (-20), 3) := by decide +kernel
theorem dX6_seat_133 : decode cX6_seat 133 = .ok (.return_, 1) := by decide +kernel
theorem dX6_mostWorth_0 : decode cX6_mostWorth 0 = .ok (.aload_n 0, 1) := by decide +kernel
theorem dX6_mostWorth_1 : decode cX6_mostWorth 1 = .ok (.iconst (-1), 1) := by decide +kernel
theorem dX6_mostWorth_2 : decode cX6_mostWorth 2 = .ok (.putfield 57, 3) := by decide +kernel
theorem dX6_mostWorth_5 : decode cX6_mostWorth 5 = .ok (.aload_n 0, 1) := by decide +kernel
theorem dX6_mostWorth_6 : decode cX6_mostWorth 6 = .ok (.ldc 62, 2) := by decide +kernel
theorem dX6_mostWorth_8 : decode cX6_mostWorth 8 = .ok (.putfield 63, 3) := by decide +kernel
theorem dX6_mostWorth_11 : decode cX6_mostWorth 11 = .ok (.aload_n 0, 1) := by decide +kernel
theorem dX6_mostWorth_12 : decode cX6_mostWorth 12 = .ok (.iconst 0, 1) := by decide +kernel
theorem dX6_mostWorth_13 : decode cX6_mostWorth 13 = .ok (.aload_n 0, 1) := by decide +kernel
theorem dX6_mostWorth_14 : decode cX6_mostWorth 14 = .ok (.getfield 46, 3) := by decide +kernel
theorem dX6_mostWorth_17 : decode cX6_mostWorth 17 = .ok (.aload_n 0, 1) := by decide +kernel
theorem dX6_mostWorth_18 : decode cX6_mostWorth 18 = .ok (.getfield 50, 3) := by decide +kernel
theorem dX6_mostWorth_21 : decode cX6_mostWorth 21 = .ok (.iconst 0, 1) := by decide +kernel
theorem dX6_mostWorth_22 : decode cX6_mostWorth 22 = .ok (.invokevirtual 66, 3) := by decide +kernel
theorem dX6_mostWorth_25 : decode cX6_mostWorth 25 = .ok (.aload_n 0, 1) := by decide +kernel
theorem dX6_mostWorth_26 : decode cX6_mostWorth 26 = .ok (.getfield 57, 3) := by decide +kernel
theorem dX6_mostWorth_29 : decode cX6_mostWorth 29 = .ok (.ireturn, 1) := by decide +kernel
theorem dX6_pickFirst_0 : decode cX6_pickFirst 0 = .ok (.iconst 0, 1) := by decide +kernel
theorem dX6_pickFirst_1 : decode cX6_pickFirst 1 = .ok (.istore 4, 2) := by decide +kernel
theorem dX6_pickFirst_3 : decode cX6_pickFirst 3 = .ok (.iload 4, 2) := by decide +kernel
theorem dX6_pickFirst_5 : decode cX6_pickFirst 5 = .ok (.aload_n 1, 1) := by decide +kernel
theorem dX6_pickFirst_6 : decode cX6_pickFirst 6 = .ok (.getfield 33, 3) := by decide +kernel
theorem dX6_pickFirst_9 : decode cX6_pickFirst 9 = .ok (.if_icmp .ge 51, 3) := by decide +kernel
theorem dX6_pickFirst_12 : decode cX6_pickFirst 12 = .ok (.iconst 0, 1) := by decide +kernel
theorem dX6_pickFirst_13 : decode cX6_pickFirst 13 = .ok (.istore 5, 2) := by decide +kernel
theorem dX6_pickFirst_15 : decode cX6_pickFirst 15 = .ok (.iload 5, 2) := by decide +kernel
theorem dX6_pickFirst_17 : decode cX6_pickFirst 17 = .ok (.aload_n 0, 1) := by decide +kernel
theorem dX6_pickFirst_18 : decode cX6_pickFirst 18 = .ok (.getfield 29, 3) := by decide +kernel
theorem dX6_pickFirst_21 : decode cX6_pickFirst 21 = .ok (.if_icmp .ge 33, 3) := by decide +kernel
theorem dX6_pickFirst_24 : decode cX6_pickFirst 24 = .ok (.aload_n 0, 1) := by decide +kernel
theorem dX6_pickFirst_25 : decode cX6_pickFirst 25 = .ok (.getfield 9, 3) := by decide +kernel
theorem dX6_pickFirst_28 : decode cX6_pickFirst 28 = .ok (.iload 5, 2) := by decide +kernel
theorem dX6_pickFirst_30 : decode cX6_pickFirst 30 = .ok (.iaload, 1) := by decide +kernel
theorem dX6_pickFirst_31 : decode cX6_pickFirst 31 = .ok (.iload 4, 2) := by decide +kernel
theorem dX6_pickFirst_33 : decode cX6_pickFirst 33 = .ok (.if_icmp .ne 15, 3) := by decide +kernel
theorem dX6_pickFirst_36 : decode cX6_pickFirst 36 = .ok (.aload_n 3, 1) := by decide +kernel
theorem dX6_pickFirst_37 : decode cX6_pickFirst 37 = .ok (.iload 4, 2) := by decide +kernel
theorem dX6_pickFirst_39 : decode cX6_pickFirst 39 = .ok (.aload_n 0, 1) := by decide +kernel
theorem dX6_pickFirst_40 : decode cX6_pickFirst 40 = .ok (.aload_n 1, 1) := by decide +kernel
theorem dX6_pickFirst_41 : decode cX6_pickFirst 41 = .ok (.iload 5, 2) := by decide +kernel
theorem dX6_pickFirst_43 : decode cX6_pickFirst 43 = .ok (.iload_n 2, 1) := by decide +kernel
theorem dX6_pickFirst_44 : decode cX6_pickFirst 44 = .ok (.invokevirtual 70, 3) := by decide +kernel
theorem dX6_pickFirst_47 : decode cX6_pickFirst 47 = .ok (.iastore, 1) := by decide +kernel
theorem dX6_pickFirst_48 : decode cX6_pickFirst 48 = .ok (.iinc 5 1, 3) := by decide +kernel
theorem dX6_pickFirst_51 : decode cX6_pickFirst 51 = .ok (.goto (-36), 3) := by decide +kernel
theorem dX6_pickFirst_54 : decode cX6_pickFirst 54 = .ok (.iinc 4 1, 3) := by decide +kernel
theorem dX6_pickFirst_57 : decode cX6_pickFirst 57 = .ok (.goto (-54), 3) := by decide +kernel
theorem dX6_pickFirst_60 : decode cX6_pickFirst 60 = .ok (.return_, 1) := by decide +kernel
theorem dX6_firstReaching_0 : decode cX6_firstReaching 0 = .ok (.iload_n 2, 1) := by decide +kernel
theorem dX6_firstReaching_1 : decode cX6_firstReaching 1 = .ok (.aload_n 0, 1) := by decide +kernel
theorem dX6_firstReaching_2 : decode cX6_firstReaching 2 = .ok (.getfield 46, 3) := by decide +kernel
theorem dX6_firstReaching_5 : decode cX6_firstReaching 5 = .ok (.aload_n 0, 1) := by decide +kernel
theorem dX6_firstReaching_6 : decode cX6_firstReaching 6 = .ok (.getfield 50, 3) := by decide +kernel
theorem dX6_firstReaching_9 : decode cX6_firstReaching 9 = .ok (.invokestatic 74, 3) := by decide +kernel
theorem dX6_firstReaching_12 : decode cX6_firstReaching 12 = .ok (.istore 4, 2) := by decide +kernel
theorem dX6_firstReaching_14 : decode cX6_firstReaching 14 = .ok (.iconst 0, 1) := by decide +kernel
theorem dX6_firstReaching_15 : decode cX6_firstReaching 15 = .ok (.istore 5, 2) := by decide +kernel
theorem dX6_firstReaching_17 : decode cX6_firstReaching 17 = .ok (.iload 5, 2) := by decide +kernel
theorem dX6_firstReaching_19 : decode cX6_firstReaching 19 = .ok (.bipush 16, 2) := by decide +kernel
theorem dX6_firstReaching_21 : decode cX6_firstReaching 21 = .ok (.if_icmp .ge 48, 3) := by decide +kernel
theorem dX6_firstReaching_24 : decode cX6_firstReaching 24 = .ok (.aload_n 1, 1) := by decide +kernel
theorem dX6_firstReaching_25 : decode cX6_firstReaching 25 = .ok (.aload_n 0, 1) := by decide +kernel
theorem dX6_firstReaching_26 : decode cX6_firstReaching 26 = .ok (.getfield 9, 3) := by decide +kernel
theorem dX6_firstReaching_29 : decode cX6_firstReaching 29 = .ok (.iload_n 2, 1) := by decide +kernel
theorem dX6_firstReaching_30 : decode cX6_firstReaching 30 = .ok (.iaload, 1) := by decide +kernel
theorem dX6_firstReaching_31 : decode cX6_firstReaching 31 = .ok (.iload 5, 2) := by decide +kernel
theorem dX6_firstReaching_33 : decode cX6_firstReaching 33 = .ok (.invokevirtual 78, 3) := by decide +kernel
theorem dX6_firstReaching_36 : decode cX6_firstReaching 36 = .ok (.istore 6, 2) := by decide +kernel
theorem dX6_firstReaching_38 : decode cX6_firstReaching 38 = .ok (.iload 4, 2) := by decide +kernel
theorem dX6_firstReaching_40 : decode cX6_firstReaching 40 = .ok (.iload 6, 2) := by decide +kernel
theorem dX6_firstReaching_42 : decode cX6_firstReaching 42 = .ok (.ishr, 1) := by decide +kernel
theorem dX6_firstReaching_43 : decode cX6_firstReaching 43 = .ok (.iconst 1, 1) := by decide +kernel
theorem dX6_firstReaching_44 : decode cX6_firstReaching 44 = .ok (.iand, 1) := by decide +kernel
theorem dX6_firstReaching_45 : decode cX6_firstReaching 45 = .ok (.iconst 1, 1) := by decide +kernel
theorem dX6_firstReaching_46 : decode cX6_firstReaching 46 = .ok (.if_icmp .ne 17, 3) := by decide +kernel
theorem dX6_firstReaching_49 : decode cX6_firstReaching 49 = .ok (.aload_n 0, 1) := by decide +kernel
theorem dX6_firstReaching_50 : decode cX6_firstReaching 50 = .ok (.iload_n 2, 1) := by decide +kernel
theorem dX6_firstReaching_51 : decode cX6_firstReaching 51 = .ok (.iload 6, 2) := by decide +kernel
theorem dX6_firstReaching_53 : decode cX6_firstReaching 53 = .ok (.iload_n 3, 1) := by decide +kernel
theorem dX6_firstReaching_54 : decode cX6_firstReaching 54 = .ok (.invokevirtual 82, 3) := by decide +kernel
theorem dX6_firstReaching_57 : decode cX6_firstReaching 57 = .ok (.ifCond .eq 6, 3) := by decide +kernel
theorem dX6_firstReaching_60 : decode cX6_firstReaching 60 = .ok (.iload 5, 2) := by decide +kernel
theorem dX6_firstReaching_62 : decode cX6_firstReaching 62 = .ok (.ireturn, 1) := by decide +kernel
theorem dX6_firstReaching_63 : decode cX6_firstReaching 63 = .ok (.iinc 5 1, 3) := by decide +kernel
theorem dX6_firstReaching_66 : decode cX6_firstReaching 66 = .ok (.goto (-49), 3) := by decide +kernel
theorem dX6_firstReaching_69 : decode cX6_firstReaching 69 = .ok (.aload_n 0, 1) := by decide +kernel
theorem dX6_firstReaching_70 : decode cX6_firstReaching 70 = .ok (.dup, 1) := by decide +kernel
theorem dX6_firstReaching_71 : decode cX6_firstReaching 71 = .ok (.getfield 46, 3) := by decide +kernel
theorem dX6_firstReaching_74 : decode cX6_firstReaching 74 = .ok (.iload_n 2, 1) := by decide +kernel
theorem dX6_firstReaching_75 : decode cX6_firstReaching 75 = .ok (.ldc 86, 2) := by decide +kernel
theorem dX6_firstReaching_77 : decode cX6_firstReaching 77 = .ok (.invokestatic 87, 3) := by decide +kernel
theorem dX6_firstReaching_80 : decode cX6_firstReaching 80 = .ok (.ldc2_w 91, 3) := by decide +kernel
theorem dX6_firstReaching_83 : decode cX6_firstReaching 83 = .ok (.lxor, 1) := by decide +kernel
theorem dX6_firstReaching_84 : decode cX6_firstReaching 84 = .ok (.land, 1) := by decide +kernel
theorem dX6_firstReaching_85 : decode cX6_firstReaching 85 = .ok (.putfield 46, 3) := by decide +kernel
theorem dX6_firstReaching_88 : decode cX6_firstReaching 88 = .ok (.aload_n 0, 1) := by decide +kernel
theorem dX6_firstReaching_89 : decode cX6_firstReaching 89 = .ok (.dup, 1) := by decide +kernel
theorem dX6_firstReaching_90 : decode cX6_firstReaching 90 = .ok (.getfield 50, 3) := by decide +kernel
theorem dX6_firstReaching_93 : decode cX6_firstReaching 93 = .ok (.iload_n 2, 1) := by decide +kernel
theorem dX6_firstReaching_94 : decode cX6_firstReaching 94 = .ok (.ldc 86, 2) := by decide +kernel
theorem dX6_firstReaching_96 : decode cX6_firstReaching 96 = .ok (.invokestatic 93, 3) := by decide +kernel
theorem dX6_firstReaching_99 : decode cX6_firstReaching 99 = .ok (.ldc2_w 91, 3) := by decide +kernel
theorem dX6_firstReaching_102 : decode cX6_firstReaching 102 = .ok (.lxor, 1) := by decide +kernel
theorem dX6_firstReaching_103 : decode cX6_firstReaching 103 = .ok (.land, 1) := by decide +kernel
theorem dX6_firstReaching_104 : decode cX6_firstReaching 104 = .ok (.putfield 50, 3) := by decide +kernel
theorem dX6_firstReaching_107 : decode cX6_firstReaching 107 = .ok (.iconst (-1), 1) := by decide +kernel
theorem dX6_firstReaching_108 : decode cX6_firstReaching 108 = .ok (.ireturn, 1) := by decide +kernel
theorem dX6_fixIfReaching_0 : decode cX6_fixIfReaching 0 = .ok (.iload_n 1, 1) := by decide +kernel
theorem dX6_fixIfReaching_1 : decode cX6_fixIfReaching 1 = .ok (.bipush 17, 2) := by decide +kernel
theorem dX6_fixIfReaching_3 : decode cX6_fixIfReaching 3 = .ok (.imul, 1) := by decide +kernel
theorem dX6_fixIfReaching_4 : decode cX6_fixIfReaching 4 = .ok (.iload_n 2, 1) := by decide +kernel
theorem dX6_fixIfReaching_5 : decode cX6_fixIfReaching 5 = .ok (.iadd, 1) := by decide +kernel
theorem dX6_fixIfReaching_6 : decode cX6_fixIfReaching 6 = .ok (.istore 4, 2) := by decide +kernel
theorem dX6_fixIfReaching_8 : decode cX6_fixIfReaching 8 = .ok (.aload_n 0, 1) := by decide +kernel
theorem dX6_fixIfReaching_9 : decode cX6_fixIfReaching 9 = .ok (.getfield 46, 3) := by decide +kernel
theorem dX6_fixIfReaching_12 : decode cX6_fixIfReaching 12 = .ok (.aload_n 0, 1) := by decide +kernel
theorem dX6_fixIfReaching_13 : decode cX6_fixIfReaching 13 = .ok (.getfield 22, 3) := by decide +kernel
theorem dX6_fixIfReaching_16 : decode cX6_fixIfReaching 16 = .ok (.iload 4, 2) := by decide +kernel
theorem dX6_fixIfReaching_18 : decode cX6_fixIfReaching 18 = .ok (.laload, 1) := by decide +kernel
theorem dX6_fixIfReaching_19 : decode cX6_fixIfReaching 19 = .ok (.ldc2_w 91, 3) := by decide +kernel
theorem dX6_fixIfReaching_22 : decode cX6_fixIfReaching 22 = .ok (.lxor, 1) := by decide +kernel
theorem dX6_fixIfReaching_23 : decode cX6_fixIfReaching 23 = .ok (.land, 1) := by decide +kernel
theorem dX6_fixIfReaching_24 : decode cX6_fixIfReaching 24 = .ok (.iload_n 1, 1) := by decide +kernel
theorem dX6_fixIfReaching_25 : decode cX6_fixIfReaching 25 = .ok (.iconst 1, 1) := by decide +kernel
theorem dX6_fixIfReaching_26 : decode cX6_fixIfReaching 26 = .ok (.iload_n 2, 1) := by decide +kernel
theorem dX6_fixIfReaching_27 : decode cX6_fixIfReaching 27 = .ok (.ishl, 1) := by decide +kernel
theorem dX6_fixIfReaching_28 : decode cX6_fixIfReaching 28 = .ok (.invokestatic 87, 3) := by decide +kernel
theorem dX6_fixIfReaching_31 : decode cX6_fixIfReaching 31 = .ok (.lor, 1) := by decide +kernel
theorem dX6_fixIfReaching_32 : decode cX6_fixIfReaching 32 = .ok (.lstore 5, 2) := by decide +kernel
theorem dX6_fixIfReaching_34 : decode cX6_fixIfReaching 34 = .ok (.aload_n 0, 1) := by decide +kernel
theorem dX6_fixIfReaching_35 : decode cX6_fixIfReaching 35 = .ok (.getfield 50, 3) := by decide +kernel
theorem dX6_fixIfReaching_38 : decode cX6_fixIfReaching 38 = .ok (.aload_n 0, 1) := by decide +kernel
theorem dX6_fixIfReaching_39 : decode cX6_fixIfReaching 39 = .ok (.getfield 26, 3) := by decide +kernel
theorem dX6_fixIfReaching_42 : decode cX6_fixIfReaching 42 = .ok (.iload 4, 2) := by decide +kernel
theorem dX6_fixIfReaching_44 : decode cX6_fixIfReaching 44 = .ok (.laload, 1) := by decide +kernel
theorem dX6_fixIfReaching_45 : decode cX6_fixIfReaching 45 = .ok (.ldc2_w 91, 3) := by decide +kernel
theorem dX6_fixIfReaching_48 : decode cX6_fixIfReaching 48 = .ok (.lxor, 1) := by decide +kernel
theorem dX6_fixIfReaching_49 : decode cX6_fixIfReaching 49 = .ok (.land, 1) := by decide +kernel
theorem dX6_fixIfReaching_50 : decode cX6_fixIfReaching 50 = .ok (.iload_n 1, 1) := by decide +kernel
theorem dX6_fixIfReaching_51 : decode cX6_fixIfReaching 51 = .ok (.iconst 1, 1) := by decide +kernel
theorem dX6_fixIfReaching_52 : decode cX6_fixIfReaching 52 = .ok (.iload_n 2, 1) := by decide +kernel
theorem dX6_fixIfReaching_53 : decode cX6_fixIfReaching 53 = .ok (.ishl, 1) := by decide +kernel
theorem dX6_fixIfReaching_54 : decode cX6_fixIfReaching 54 = .ok (.invokestatic 93, 3) := by decide +kernel
theorem dX6_fixIfReaching_57 : decode cX6_fixIfReaching 57 = .ok (.lor, 1) := by decide +kernel
theorem dX6_fixIfReaching_58 : decode cX6_fixIfReaching 58 = .ok (.lstore 7, 2) := by decide +kernel
theorem dX6_fixIfReaching_60 : decode cX6_fixIfReaching 60 = .ok (.aload_n 0, 1) := by decide +kernel
theorem dX6_fixIfReaching_61 : decode cX6_fixIfReaching 61 = .ok (.iload_n 3, 1) := by decide +kernel
theorem dX6_fixIfReaching_62 : decode cX6_fixIfReaching 62 = .ok (.iconst 1, 1) := by decide +kernel
theorem dX6_fixIfReaching_63 : decode cX6_fixIfReaching 63 = .ok (.isub, 1) := by decide +kernel
theorem dX6_fixIfReaching_64 : decode cX6_fixIfReaching 64 = .ok (.putfield 57, 3) := by decide +kernel
theorem dX6_fixIfReaching_67 : decode cX6_fixIfReaching 67 = .ok (.aload_n 0, 1) := by decide +kernel
theorem dX6_fixIfReaching_68 : decode cX6_fixIfReaching 68 = .ok (.iload_n 3, 1) := by decide +kernel
theorem dX6_fixIfReaching_69 : decode cX6_fixIfReaching 69 = .ok (.putfield 63, 3) := by decide +kernel
theorem dX6_fixIfReaching_72 : decode cX6_fixIfReaching 72 = .ok (.aload_n 0, 1) := by decide +kernel
theorem dX6_fixIfReaching_73 : decode cX6_fixIfReaching 73 = .ok (.iconst 0, 1) := by decide +kernel
theorem dX6_fixIfReaching_74 : decode cX6_fixIfReaching 74 = .ok (.lload 5, 2) := by decide +kernel
theorem dX6_fixIfReaching_76 : decode cX6_fixIfReaching 76 = .ok (.lload 7, 2) := by decide +kernel
theorem dX6_fixIfReaching_78 : decode cX6_fixIfReaching 78 = .ok (.iconst 0, 1) := by decide +kernel
theorem dX6_fixIfReaching_79 : decode cX6_fixIfReaching 79 = .ok (.invokevirtual 66, 3) := by decide +kernel
theorem dX6_fixIfReaching_82 : decode cX6_fixIfReaching 82 = .ok (.aload_n 0, 1) := by decide +kernel
theorem dX6_fixIfReaching_83 : decode cX6_fixIfReaching 83 = .ok (.getfield 57, 3) := by decide +kernel
theorem dX6_fixIfReaching_86 : decode cX6_fixIfReaching 86 = .ok (.iload_n 3, 1) := by decide +kernel
theorem dX6_fixIfReaching_87 : decode cX6_fixIfReaching 87 = .ok (.if_icmp .ge 5, 3) := by decide +kernel
theorem dX6_fixIfReaching_90 : decode cX6_fixIfReaching 90 = .ok (.iconst 0, 1) := by decide +kernel
theorem dX6_fixIfReaching_91 : decode cX6_fixIfReaching 91 = .ok (.ireturn, 1) := by decide +kernel
theorem dX6_fixIfReaching_92 : decode cX6_fixIfReaching 92 = .ok (.aload_n 0, 1) := by decide +kernel
theorem dX6_fixIfReaching_93 : decode cX6_fixIfReaching 93 = .ok (.lload 5, 2) := by decide +kernel
theorem dX6_fixIfReaching_95 : decode cX6_fixIfReaching 95 = .ok (.putfield 46, 3) := by decide +kernel
theorem dX6_fixIfReaching_98 : decode cX6_fixIfReaching 98 = .ok (.aload_n 0, 1) := by decide +kernel
theorem dX6_fixIfReaching_99 : decode cX6_fixIfReaching 99 = .ok (.lload 7, 2) := by decide +kernel
theorem dX6_fixIfReaching_101 : decode cX6_fixIfReaching 101 = .ok (.putfield 50, 3) := by decide +kernel
theorem dX6_fixIfReaching_104 : decode cX6_fixIfReaching 104 = .ok (.iconst 1, 1) := by decide +kernel
theorem dX6_fixIfReaching_105 : decode cX6_fixIfReaching 105 = .ok (.ireturn, 1) := by decide +kernel
theorem dX6_gatherOptions_0 : decode cX6_gatherOptions 0 = .ok (.aload_n 0, 1) := by decide +kernel
theorem dX6_gatherOptions_1 : decode cX6_gatherOptions 1 = .ok (.getfield 9, 3) := by decide +kernel
theorem dX6_gatherOptions_4 : decode cX6_gatherOptions 4 = .ok (.iload_n 3, 1) := by decide +kernel
theorem dX6_gatherOptions_5 : decode cX6_gatherOptions 5 = .ok (.iaload, 1) := by decide +kernel
theorem dX6_gatherOptions_6 : decode cX6_gatherOptions 6 = .ok (.istore 4, 2) := by decide +kernel
theorem dX6_gatherOptions_8 : decode cX6_gatherOptions 8 = .ok (.aload_n 1, 1) := by decide +kernel
theorem dX6_gatherOptions_9 : decode cX6_gatherOptions 9 = .ok (.iload 4, 2) := by decide +kernel
theorem dX6_gatherOptions_11 : decode cX6_gatherOptions 11 = .ok (.aload_n 2, 1) := by decide +kernel
theorem dX6_gatherOptions_12 : decode cX6_gatherOptions 12 = .ok (.getfield 96, 3) := by decide +kernel
theorem dX6_gatherOptions_15 : decode cX6_gatherOptions 15 = .ok (.iload 4, 2) := by decide +kernel
theorem dX6_gatherOptions_17 : decode cX6_gatherOptions 17 = .ok (.iaload, 1) := by decide +kernel
theorem dX6_gatherOptions_18 : decode cX6_gatherOptions 18 = .ok (.invokestatic 101, 3) := by decide +kernel
theorem dX6_gatherOptions_21 : decode cX6_gatherOptions 21 = .ok (.istore 5, 2) := by decide +kernel
theorem dX6_gatherOptions_23 : decode cX6_gatherOptions 23 = .ok (.aload_n 0, 1) := by decide +kernel
theorem dX6_gatherOptions_24 : decode cX6_gatherOptions 24 = .ok (.dup, 1) := by decide +kernel
theorem dX6_gatherOptions_25 : decode cX6_gatherOptions 25 = .ok (.getfield 46, 3) := by decide +kernel
theorem dX6_gatherOptions_28 : decode cX6_gatherOptions 28 = .ok (.iload_n 3, 1) := by decide +kernel
theorem dX6_gatherOptions_29 : decode cX6_gatherOptions 29 = .ok (.iload 5, 2) := by decide +kernel
theorem dX6_gatherOptions_31 : decode cX6_gatherOptions 31 = .ok (.invokestatic 87, 3) := by decide +kernel
theorem dX6_gatherOptions_34 : decode cX6_gatherOptions 34 = .ok (.lor, 1) := by decide +kernel
theorem dX6_gatherOptions_35 : decode cX6_gatherOptions 35 = .ok (.putfield 46, 3) := by decide +kernel
theorem dX6_gatherOptions_38 : decode cX6_gatherOptions 38 = .ok (.aload_n 0, 1) := by decide +kernel
theorem dX6_gatherOptions_39 : decode cX6_gatherOptions 39 = .ok (.dup, 1) := by decide +kernel
theorem dX6_gatherOptions_40 : decode cX6_gatherOptions 40 = .ok (.getfield 50, 3) := by decide +kernel
theorem dX6_gatherOptions_43 : decode cX6_gatherOptions 43 = .ok (.iload_n 3, 1) := by decide +kernel
theorem dX6_gatherOptions_44 : decode cX6_gatherOptions 44 = .ok (.iload 5, 2) := by decide +kernel
theorem dX6_gatherOptions_46 : decode cX6_gatherOptions 46 = .ok (.invokestatic 93, 3) := by decide +kernel
theorem dX6_gatherOptions_49 : decode cX6_gatherOptions 49 = .ok (.lor, 1) := by decide +kernel
theorem dX6_gatherOptions_50 : decode cX6_gatherOptions 50 = .ok (.putfield 50, 3) := by decide +kernel
theorem dX6_gatherOptions_53 : decode cX6_gatherOptions 53 = .ok (.iconst 0, 1) := by decide +kernel
theorem dX6_gatherOptions_54 : decode cX6_gatherOptions 54 = .ok (.istore 6, 2) := by decide +kernel
theorem dX6_gatherOptions_56 : decode cX6_gatherOptions 56 = .ok (.iload 6, 2) := by decide +kernel
theorem dX6_gatherOptions_58 : decode cX6_gatherOptions 58 = .ok (.bipush 17, 2) := by decide +kernel
theorem dX6_gatherOptions_60 : decode cX6_gatherOptions 60 = .ok (.if_icmp .ge 99, 3) := by decide +kernel
theorem dX6_gatherOptions_63 : decode cX6_gatherOptions 63 = .ok (.iload_n 3, 1) := by decide +kernel
theorem dX6_gatherOptions_64 : decode cX6_gatherOptions 64 = .ok (.bipush 17, 2) := by decide +kernel
theorem dX6_gatherOptions_66 : decode cX6_gatherOptions 66 = .ok (.imul, 1) := by decide +kernel
theorem dX6_gatherOptions_67 : decode cX6_gatherOptions 67 = .ok (.iload 6, 2) := by decide +kernel
theorem dX6_gatherOptions_69 : decode cX6_gatherOptions 69 = .ok (.iadd, 1) := by decide +kernel
theorem dX6_gatherOptions_70 : decode cX6_gatherOptions 70 = .ok (.istore 7, 2) := by decide +kernel
theorem dX6_gatherOptions_72 : decode cX6_gatherOptions 72 = .ok (.aload_n 0, 1) := by decide +kernel
theorem dX6_gatherOptions_73 : decode cX6_gatherOptions 73 = .ok (.getfield 19, 3) := by decide +kernel
theorem dX6_gatherOptions_76 : decode cX6_gatherOptions 76 = .ok (.iload 7, 2) := by decide +kernel
theorem dX6_gatherOptions_78 : decode cX6_gatherOptions 78 = .ok (.iconst 0, 1) := by decide +kernel
theorem dX6_gatherOptions_79 : decode cX6_gatherOptions 79 = .ok (.iastore, 1) := by decide +kernel
theorem dX6_gatherOptions_80 : decode cX6_gatherOptions 80 = .ok (.aload_n 0, 1) := by decide +kernel
theorem dX6_gatherOptions_81 : decode cX6_gatherOptions 81 = .ok (.getfield 22, 3) := by decide +kernel
theorem dX6_gatherOptions_84 : decode cX6_gatherOptions 84 = .ok (.iload 7, 2) := by decide +kernel
theorem dX6_gatherOptions_86 : decode cX6_gatherOptions 86 = .ok (.iload_n 3, 1) := by decide +kernel
theorem dX6_gatherOptions_87 : decode cX6_gatherOptions 87 = .ok (.ldc 86, 2) := by decide +kernel
theorem dX6_gatherOptions_89 : decode cX6_gatherOptions 89 = .ok (.invokestatic 87, 3) := by decide +kernel
theorem dX6_gatherOptions_92 : decode cX6_gatherOptions 92 = .ok (.lastore, 1) := by decide +kernel
theorem dX6_gatherOptions_93 : decode cX6_gatherOptions 93 = .ok (.aload_n 0, 1) := by decide +kernel
theorem dX6_gatherOptions_94 : decode cX6_gatherOptions 94 = .ok (.getfield 26, 3) := by decide +kernel
theorem dX6_gatherOptions_97 : decode cX6_gatherOptions 97 = .ok (.iload 7, 2) := by decide +kernel
theorem dX6_gatherOptions_99 : decode cX6_gatherOptions 99 = .ok (.iload_n 3, 1) := by decide +kernel
theorem dX6_gatherOptions_100 : decode cX6_gatherOptions 100 = .ok (.ldc 86, 2) := by decide +kernel
theorem dX6_gatherOptions_102 : decode cX6_gatherOptions 102 = .ok (.invokestatic 93, 3) := by decide +kernel
theorem dX6_gatherOptions_105 : decode cX6_gatherOptions 105 = .ok (.lastore, 1) := by decide +kernel
theorem dX6_gatherOptions_106 : decode cX6_gatherOptions 106 = .ok (.iload 5, 2) := by decide +kernel
theorem dX6_gatherOptions_108 : decode cX6_gatherOptions 108 = .ok (.iload 6, 2) := by decide +kernel
theorem dX6_gatherOptions_110 : decode cX6_gatherOptions 110 = .ok (.ishr, 1) := by decide +kernel
theorem dX6_gatherOptions_111 : decode cX6_gatherOptions 111 = .ok (.iconst 1, 1) := by decide +kernel
theorem dX6_gatherOptions_112 : decode cX6_gatherOptions 112 = .ok (.iand, 1) := by decide +kernel
theorem dX6_gatherOptions_113 : decode cX6_gatherOptions 113 = .ok (.iconst 1, 1) := by decide +kernel
theorem dX6_gatherOptions_114 : decode cX6_gatherOptions 114 = .ok (.if_icmp .ne 39, 3) := by decide +kernel
theorem dX6_gatherOptions_117 : decode cX6_gatherOptions 117 = .ok (.aload_n 1, 1) := by decide +kernel
theorem dX6_gatherOptions_118 : decode cX6_gatherOptions 118 = .ok (.iload 4, 2) := by decide +kernel
theorem dX6_gatherOptions_120 : decode cX6_gatherOptions 120 = .ok (.iload 6, 2) := by decide +kernel
theorem dX6_gatherOptions_122 : decode cX6_gatherOptions 122 = .ok (.invokevirtual 104, 3) := by decide +kernel
theorem dX6_gatherOptions_125 : decode cX6_gatherOptions 125 = .ok (.istore 8, 2) := by decide +kernel
theorem dX6_gatherOptions_127 : decode cX6_gatherOptions 127 = .ok (.aload_n 0, 1) := by decide +kernel
theorem dX6_gatherOptions_128 : decode cX6_gatherOptions 128 = .ok (.getfield 19, 3) := by decide +kernel
theorem dX6_gatherOptions_131 : decode cX6_gatherOptions 131 = .ok (.iload 7, 2) := by decide +kernel
theorem dX6_gatherOptions_133 : decode cX6_gatherOptions 133 = .ok (.aload_n 1, 1) := by decide +kernel
theorem dX6_gatherOptions_134 : decode cX6_gatherOptions 134 = .ok (.iload 4, 2) := by decide +kernel
theorem dX6_gatherOptions_136 : decode cX6_gatherOptions 136 = .ok (.iload 8, 2) := by decide +kernel
theorem dX6_gatherOptions_138 : decode cX6_gatherOptions 138 = .ok (.invokevirtual 107, 3) := by decide +kernel
theorem dX6_gatherOptions_141 : decode cX6_gatherOptions 141 = .ok (.iastore, 1) := by decide +kernel
theorem dX6_gatherOptions_142 : decode cX6_gatherOptions 142 = .ok (.aload_n 0, 1) := by decide +kernel
theorem dX6_gatherOptions_143 : decode cX6_gatherOptions 143 = .ok (.aload_n 1, 1) := by decide +kernel
theorem dX6_gatherOptions_144 : decode cX6_gatherOptions 144 = .ok (.aload_n 2, 1) := by decide +kernel
theorem dX6_gatherOptions_145 : decode cX6_gatherOptions 145 = .ok (.iload_n 3, 1) := by decide +kernel
theorem dX6_gatherOptions_146 : decode cX6_gatherOptions 146 = .ok (.iload 8, 2) := by decide +kernel
theorem dX6_gatherOptions_148 : decode cX6_gatherOptions 148 = .ok (.iload 7, 2) := by decide +kernel
theorem dX6_gatherOptions_150 : decode cX6_gatherOptions 150 = .ok (.invokevirtual 110, 3) := by decide +kernel
theorem dX6_gatherOptions_153 : decode cX6_gatherOptions 153 = .ok (.iinc 6 1, 3) := by decide +kernel
theorem dX6_gatherOptions_156 : decode cX6_gatherOptions 156 = .ok (.goto (-100), 3) := by decide +kernel
theorem dX6_gatherOptions_159 : decode cX6_gatherOptions 159 = .ok (.return_, 1) := by decide +kernel
theorem dX6_gatherBans_0 : decode cX6_gatherBans 0 = .ok (.iconst 0, 1) := by decide +kernel
theorem dX6_gatherBans_1 : decode cX6_gatherBans 1 = .ok (.istore 6, 2) := by decide +kernel
theorem dX6_gatherBans_3 : decode cX6_gatherBans 3 = .ok (.iload 6, 2) := by decide +kernel
theorem dX6_gatherBans_5 : decode cX6_gatherBans 5 = .ok (.aload_n 0, 1) := by decide +kernel
theorem dX6_gatherBans_6 : decode cX6_gatherBans 6 = .ok (.getfield 29, 3) := by decide +kernel
theorem dX6_gatherBans_9 : decode cX6_gatherBans 9 = .ok (.if_icmp .ge 101, 3) := by decide +kernel
theorem dX6_gatherBans_12 : decode cX6_gatherBans 12 = .ok (.iload 6, 2) := by decide +kernel
theorem dX6_gatherBans_14 : decode cX6_gatherBans 14 = .ok (.iload_n 3, 1) := by decide +kernel
theorem dX6_gatherBans_15 : decode cX6_gatherBans 15 = .ok (.if_icmp .eq 89, 3) := by decide +kernel
theorem dX6_gatherBans_18 : decode cX6_gatherBans 18 = .ok (.aload_n 1, 1) := by decide +kernel
theorem dX6_gatherBans_19 : decode cX6_gatherBans 19 = .ok (.aload_n 0, 1) := by decide +kernel
theorem dX6_gatherBans_20 : decode cX6_gatherBans 20 = .ok (.getfield 9, 3) := by decide +kernel
theorem dX6_gatherBans_23 : decode cX6_gatherBans 23 = .ok (.iload_n 3, 1) := by decide +kernel
theorem dX6_gatherBans_24 : decode cX6_gatherBans 24 = .ok (.iaload, 1) := by decide +kernel
theorem dX6_gatherBans_25 : decode cX6_gatherBans 25 = .ok (.aload_n 0, 1) := by decide +kernel
theorem dX6_gatherBans_26 : decode cX6_gatherBans 26 = .ok (.getfield 9, 3) := by decide +kernel
theorem dX6_gatherBans_29 : decode cX6_gatherBans 29 = .ok (.iload 6, 2) := by decide +kernel
theorem dX6_gatherBans_31 : decode cX6_gatherBans 31 = .ok (.iaload, 1) := by decide +kernel
theorem dX6_gatherBans_32 : decode cX6_gatherBans 32 = .ok (.invokevirtual 114, 3) := by decide +kernel
theorem dX6_gatherBans_35 : decode cX6_gatherBans 35 = .ok (.ifCond .eq 69, 3) := by decide +kernel
theorem dX6_gatherBans_38 : decode cX6_gatherBans 38 = .ok (.aload_n 1, 1) := by decide +kernel
theorem dX6_gatherBans_39 : decode cX6_gatherBans 39 = .ok (.aload_n 0, 1) := by decide +kernel
theorem dX6_gatherBans_40 : decode cX6_gatherBans 40 = .ok (.getfield 9, 3) := by decide +kernel
theorem dX6_gatherBans_43 : decode cX6_gatherBans 43 = .ok (.iload 6, 2) := by decide +kernel
theorem dX6_gatherBans_45 : decode cX6_gatherBans 45 = .ok (.iaload, 1) := by decide +kernel
theorem dX6_gatherBans_46 : decode cX6_gatherBans 46 = .ok (.aload_n 2, 1) := by decide +kernel
theorem dX6_gatherBans_47 : decode cX6_gatherBans 47 = .ok (.aload_n 0, 1) := by decide +kernel
theorem dX6_gatherBans_48 : decode cX6_gatherBans 48 = .ok (.getfield 9, 3) := by decide +kernel
theorem dX6_gatherBans_51 : decode cX6_gatherBans 51 = .ok (.iload_n 3, 1) := by decide +kernel
theorem dX6_gatherBans_52 : decode cX6_gatherBans 52 = .ok (.iaload, 1) := by decide +kernel
theorem dX6_gatherBans_53 : decode cX6_gatherBans 53 = .ok (.iload 4, 2) := by decide +kernel
theorem dX6_gatherBans_55 : decode cX6_gatherBans 55 = .ok (.aload_n 0, 1) := by decide +kernel
theorem dX6_gatherBans_56 : decode cX6_gatherBans 56 = .ok (.getfield 9, 3) := by decide +kernel
theorem dX6_gatherBans_59 : decode cX6_gatherBans 59 = .ok (.iload 6, 2) := by decide +kernel
theorem dX6_gatherBans_61 : decode cX6_gatherBans 61 = .ok (.iaload, 1) := by decide +kernel
theorem dX6_gatherBans_62 : decode cX6_gatherBans 62 = .ok (.invokevirtual 118, 3) := by decide +kernel
theorem dX6_gatherBans_65 : decode cX6_gatherBans 65 = .ok (.invokestatic 101, 3) := by decide +kernel
theorem dX6_gatherBans_68 : decode cX6_gatherBans 68 = .ok (.istore 7, 2) := by decide +kernel
theorem dX6_gatherBans_70 : decode cX6_gatherBans 70 = .ok (.aload_n 0, 1) := by decide +kernel
theorem dX6_gatherBans_71 : decode cX6_gatherBans 71 = .ok (.getfield 22, 3) := by decide +kernel
theorem dX6_gatherBans_74 : decode cX6_gatherBans 74 = .ok (.iload 5, 2) := by decide +kernel
theorem dX6_gatherBans_76 : decode cX6_gatherBans 76 = .ok (.dup2, 1) := by decide +kernel
theorem dX6_gatherBans_77 : decode cX6_gatherBans 77 = .ok (.laload, 1) := by decide +kernel
theorem dX6_gatherBans_78 : decode cX6_gatherBans 78 = .ok (.iload 6, 2) := by decide +kernel
theorem dX6_gatherBans_80 : decode cX6_gatherBans 80 = .ok (.iload 7, 2) := by decide +kernel
theorem dX6_gatherBans_82 : decode cX6_gatherBans 82 = .ok (.invokestatic 87, 3) := by decide +kernel
theorem dX6_gatherBans_85 : decode cX6_gatherBans 85 = .ok (.lor, 1) := by decide +kernel
theorem dX6_gatherBans_86 : decode cX6_gatherBans 86 = .ok (.lastore, 1) := by decide +kernel
theorem dX6_gatherBans_87 : decode cX6_gatherBans 87 = .ok (.aload_n 0, 1) := by decide +kernel
theorem dX6_gatherBans_88 : decode cX6_gatherBans 88 = .ok (.getfield 26, 3) := by decide +kernel
theorem dX6_gatherBans_91 : decode cX6_gatherBans 91 = .ok (.iload 5, 2) := by decide +kernel
theorem dX6_gatherBans_93 : decode cX6_gatherBans 93 = .ok (.dup2, 1) := by decide +kernel
theorem dX6_gatherBans_94 : decode cX6_gatherBans 94 = .ok (.laload, 1) := by decide +kernel
theorem dX6_gatherBans_95 : decode cX6_gatherBans 95 = .ok (.iload 6, 2) := by decide +kernel
theorem dX6_gatherBans_97 : decode cX6_gatherBans 97 = .ok (.iload 7, 2) := by decide +kernel
theorem dX6_gatherBans_99 : decode cX6_gatherBans 99 = .ok (.invokestatic 93, 3) := by decide +kernel
theorem dX6_gatherBans_102 : decode cX6_gatherBans 102 = .ok (.lor, 1) := by decide +kernel
theorem dX6_gatherBans_103 : decode cX6_gatherBans 103 = .ok (.lastore, 1) := by decide +kernel
theorem dX6_gatherBans_104 : decode cX6_gatherBans 104 = .ok (.iinc 6 1, 3) := by decide +kernel
theorem dX6_gatherBans_107 : decode cX6_gatherBans 107 = .ok (.goto (-104), 3) := by decide +kernel
theorem dX6_gatherBans_110 : decode cX6_gatherBans 110 = .ok (.return_, 1) := by decide +kernel
theorem dX6_byRank_0 : decode cX6_byRank 0 = .ok (.iconst 0, 1) := by decide +kernel
theorem dX6_byRank_1 : decode cX6_byRank 1 = .ok (.istore_n 3, 1) := by decide +kernel
theorem dX6_byRank_2 : decode cX6_byRank 2 = .ok (.iconst 0, 1) := by decide +kernel
theorem dX6_byRank_3 : decode cX6_byRank 3 = .ok (.istore 4, 2) := by decide +kernel
theorem dX6_byRank_5 : decode cX6_byRank 5 = .ok (.iload 4, 2) := by decide +kernel
theorem dX6_byRank_7 : decode cX6_byRank 7 = .ok (.bipush 16, 2) := by decide +kernel
theorem dX6_byRank_9 : decode cX6_byRank 9 = .ok (.if_icmp .ge 26, 3) := by decide +kernel
theorem dX6_byRank_12 : decode cX6_byRank 12 = .ok (.iload_n 3, 1) := by decide +kernel
theorem dX6_byRank_13 : decode cX6_byRank 13 = .ok (.iload_n 2, 1) := by decide +kernel
theorem dX6_byRank_14 : decode cX6_byRank 14 = .ok (.iload 4, 2) := by decide +kernel
theorem dX6_byRank_16 : decode cX6_byRank 16 = .ok (.ishr, 1) := by decide +kernel
theorem dX6_byRank_17 : decode cX6_byRank 17 = .ok (.iconst 1, 1) := by decide +kernel
theorem dX6_byRank_18 : decode cX6_byRank 18 = .ok (.iand, 1) := by decide +kernel
theorem dX6_byRank_19 : decode cX6_byRank 19 = .ok (.aload_n 0, 1) := by decide +kernel
theorem dX6_byRank_20 : decode cX6_byRank 20 = .ok (.iload_n 1, 1) := by decide +kernel
theorem dX6_byRank_21 : decode cX6_byRank 21 = .ok (.iload 4, 2) := by decide +kernel
theorem dX6_byRank_23 : decode cX6_byRank 23 = .ok (.invokevirtual 78, 3) := by decide +kernel
theorem dX6_byRank_26 : decode cX6_byRank 26 = .ok (.ishl, 1) := by decide +kernel
theorem dX6_byRank_27 : decode cX6_byRank 27 = .ok (.ior, 1) := by decide +kernel
theorem dX6_byRank_28 : decode cX6_byRank 28 = .ok (.istore_n 3, 1) := by decide +kernel
theorem dX6_byRank_29 : decode cX6_byRank 29 = .ok (.iinc 4 1, 3) := by decide +kernel
theorem dX6_byRank_32 : decode cX6_byRank 32 = .ok (.goto (-27), 3) := by decide +kernel
theorem dX6_byRank_35 : decode cX6_byRank 35 = .ok (.iload_n 3, 1) := by decide +kernel
theorem dX6_byRank_36 : decode cX6_byRank 36 = .ok (.ireturn, 1) := by decide +kernel
theorem dX6_inFront_0 : decode cX6_inFront 0 = .ok (.iload_n 0, 1) := by decide +kernel
theorem dX6_inFront_1 : decode cX6_inFront 1 = .ok (.iconst 4, 1) := by decide +kernel
theorem dX6_inFront_2 : decode cX6_inFront 2 = .ok (.if_icmp .ge 13, 3) := by decide +kernel
theorem dX6_inFront_5 : decode cX6_inFront 5 = .ok (.iload_n 1, 1) := by decide +kernel
theorem dX6_inFront_6 : decode cX6_inFront 6 = .ok (.i2l, 1) := by decide +kernel
theorem dX6_inFront_7 : decode cX6_inFront 7 = .ok (.bipush 16, 2) := by decide +kernel
theorem dX6_inFront_9 : decode cX6_inFront 9 = .ok (.iload_n 0, 1) := by decide +kernel
theorem dX6_inFront_10 : decode cX6_inFront 10 = .ok (.imul, 1) := by decide +kernel
theorem dX6_inFront_11 : decode cX6_inFront 11 = .ok (.lshl, 1) := by decide +kernel
theorem dX6_inFront_12 : decode cX6_inFront 12 = .ok (.goto 4, 3) := by decide +kernel
theorem dX6_inFront_15 : decode cX6_inFront 15 = .ok (.lconst 0, 1) := by decide +kernel
theorem dX6_inFront_16 : decode cX6_inFront 16 = .ok (.lreturn, 1) := by decide +kernel
theorem dX6_inBack_0 : decode cX6_inBack 0 = .ok (.iload_n 0, 1) := by decide +kernel
theorem dX6_inBack_1 : decode cX6_inBack 1 = .ok (.iconst 4, 1) := by decide +kernel
theorem dX6_inBack_2 : decode cX6_inBack 2 = .ok (.if_icmp .ge 7, 3) := by decide +kernel
theorem dX6_inBack_5 : decode cX6_inBack 5 = .ok (.lconst 0, 1) := by decide +kernel
theorem dX6_inBack_6 : decode cX6_inBack 6 = .ok (.goto 12, 3) := by decide +kernel
theorem dX6_inBack_9 : decode cX6_inBack 9 = .ok (.iload_n 1, 1) := by decide +kernel
theorem dX6_inBack_10 : decode cX6_inBack 10 = .ok (.i2l, 1) := by decide +kernel
theorem dX6_inBack_11 : decode cX6_inBack 11 = .ok (.bipush 16, 2) := by decide +kernel
theorem dX6_inBack_13 : decode cX6_inBack 13 = .ok (.iload_n 0, 1) := by decide +kernel
theorem dX6_inBack_14 : decode cX6_inBack 14 = .ok (.iconst 4, 1) := by decide +kernel
theorem dX6_inBack_15 : decode cX6_inBack 15 = .ok (.isub, 1) := by decide +kernel
theorem dX6_inBack_16 : decode cX6_inBack 16 = .ok (.imul, 1) := by decide +kernel
theorem dX6_inBack_17 : decode cX6_inBack 17 = .ok (.lshl, 1) := by decide +kernel
theorem dX6_inBack_18 : decode cX6_inBack 18 = .ok (.lreturn, 1) := by decide +kernel
theorem dX6_bitsOf_0 : decode cX6_bitsOf 0 = .ok (.iload_n 0, 1) := by decide +kernel
theorem dX6_bitsOf_1 : decode cX6_bitsOf 1 = .ok (.iconst 4, 1) := by decide +kernel
theorem dX6_bitsOf_2 : decode cX6_bitsOf 2 = .ok (.if_icmp .ge 12, 3) := by decide +kernel
theorem dX6_bitsOf_5 : decode cX6_bitsOf 5 = .ok (.lload_n 1, 1) := by decide +kernel
theorem dX6_bitsOf_6 : decode cX6_bitsOf 6 = .ok (.bipush 16, 2) := by decide +kernel
theorem dX6_bitsOf_8 : decode cX6_bitsOf 8 = .ok (.iload_n 0, 1) := by decide +kernel
theorem dX6_bitsOf_9 : decode cX6_bitsOf 9 = .ok (.imul, 1) := by decide +kernel
theorem dX6_bitsOf_10 : decode cX6_bitsOf 10 = .ok (.lushr, 1) := by decide +kernel
theorem dX6_bitsOf_11 : decode cX6_bitsOf 11 = .ok (.goto 11, 3) := by decide +kernel
theorem dX6_bitsOf_14 : decode cX6_bitsOf 14 = .ok (.lload_n 3, 1) := by decide +kernel
theorem dX6_bitsOf_15 : decode cX6_bitsOf 15 = .ok (.bipush 16, 2) := by decide +kernel
theorem dX6_bitsOf_17 : decode cX6_bitsOf 17 = .ok (.iload_n 0, 1) := by decide +kernel
theorem dX6_bitsOf_18 : decode cX6_bitsOf 18 = .ok (.iconst 4, 1) := by decide +kernel
theorem dX6_bitsOf_19 : decode cX6_bitsOf 19 = .ok (.isub, 1) := by decide +kernel
theorem dX6_bitsOf_20 : decode cX6_bitsOf 20 = .ok (.imul, 1) := by decide +kernel
theorem dX6_bitsOf_21 : decode cX6_bitsOf 21 = .ok (.lushr, 1) := by decide +kernel
theorem dX6_bitsOf_22 : decode cX6_bitsOf 22 = .ok (.lstore 5, 2) := by decide +kernel
theorem dX6_bitsOf_24 : decode cX6_bitsOf 24 = .ok (.lload 5, 2) := by decide +kernel
theorem dX6_bitsOf_26 : decode cX6_bitsOf 26 = .ok (.l2i, 1) := by decide +kernel
theorem dX6_bitsOf_27 : decode cX6_bitsOf 27 = .ok (.ldc 86, 2) := by decide +kernel
theorem dX6_bitsOf_29 : decode cX6_bitsOf 29 = .ok (.iand, 1) := by decide +kernel
theorem dX6_bitsOf_30 : decode cX6_bitsOf 30 = .ok (.ireturn, 1) := by decide +kernel
theorem dX6_descend_0 : decode cX6_descend 0 = .ok (.iload_n 1, 1) := by decide +kernel
theorem dX6_descend_1 : decode cX6_descend 1 = .ok (.aload_n 0, 1) := by decide +kernel
theorem dX6_descend_2 : decode cX6_descend 2 = .ok (.getfield 29, 3) := by decide +kernel
theorem dX6_descend_5 : decode cX6_descend 5 = .ok (.if_icmp .lt 17, 3) := by decide +kernel
theorem dX6_descend_8 : decode cX6_descend 8 = .ok (.aload_n 0, 1) := by decide +kernel
theorem dX6_descend_9 : decode cX6_descend 9 = .ok (.aload_n 0, 1) := by decide +kernel
theorem dX6_descend_10 : decode cX6_descend 10 = .ok (.getfield 57, 3) := by decide +kernel
theorem dX6_descend_13 : decode cX6_descend 13 = .ok (.iload 6, 2) := by decide +kernel
theorem dX6_descend_15 : decode cX6_descend 15 = .ok (.invokestatic 122, 3) := by decide +kernel
theorem dX6_descend_18 : decode cX6_descend 18 = .ok (.putfield 57, 3) := by decide +kernel
theorem dX6_descend_21 : decode cX6_descend 21 = .ok (.return_, 1) := by decide +kernel
theorem dX6_descend_22 : decode cX6_descend 22 = .ok (.iload 6, 2) := by decide +kernel
theorem dX6_descend_24 : decode cX6_descend 24 = .ok (.aload_n 0, 1) := by decide +kernel
theorem dX6_descend_25 : decode cX6_descend 25 = .ok (.iload_n 1, 1) := by decide +kernel
theorem dX6_descend_26 : decode cX6_descend 26 = .ok (.lload_n 2, 1) := by decide +kernel
theorem dX6_descend_27 : decode cX6_descend 27 = .ok (.lload 4, 2) := by decide +kernel
theorem dX6_descend_29 : decode cX6_descend 29 = .ok (.invokevirtual 127, 3) := by decide +kernel
theorem dX6_descend_32 : decode cX6_descend 32 = .ok (.iadd, 1) := by decide +kernel
theorem dX6_descend_33 : decode cX6_descend 33 = .ok (.aload_n 0, 1) := by decide +kernel
theorem dX6_descend_34 : decode cX6_descend 34 = .ok (.getfield 57, 3) := by decide +kernel
theorem dX6_descend_37 : decode cX6_descend 37 = .ok (.if_icmp .gt 4, 3) := by decide +kernel
theorem dX6_descend_40 : decode cX6_descend 40 = .ok (.return_, 1) := by decide +kernel
theorem dX6_descend_41 : decode cX6_descend 41 = .ok (.iload_n 1, 1) := by decide +kernel
theorem dX6_descend_42 : decode cX6_descend 42 = .ok (.lload_n 2, 1) := by decide +kernel
theorem dX6_descend_43 : decode cX6_descend 43 = .ok (.lload 4, 2) := by decide +kernel
theorem dX6_descend_45 : decode cX6_descend 45 = .ok (.invokestatic 74, 3) := by decide +kernel
theorem dX6_descend_48 : decode cX6_descend 48 = .ok (.aload_n 0, 1) := by decide +kernel
theorem dX6_descend_49 : decode cX6_descend 49 = .ok (.getfield 15, 3) := by decide +kernel
theorem dX6_descend_52 : decode cX6_descend 52 = .ok (.iload_n 1, 1) := by decide +kernel
theorem dX6_descend_53 : decode cX6_descend 53 = .ok (.baload, 1) := by decide +kernel
theorem dX6_descend_54 : decode cX6_descend 54 = .ok (.ifCond .eq 7, 3) := by decide +kernel
theorem dX6_descend_57 : decode cX6_descend 57 = .ok (.iconst 0, 1) := by decide +kernel
theorem dX6_descend_58 : decode cX6_descend 58 = .ok (.goto 5, 3) := by decide +kernel
theorem dX6_descend_61 : decode cX6_descend 61 = .ok (.ldc 130, 2) := by decide +kernel
theorem dX6_descend_63 : decode cX6_descend 63 = .ok (.ior, 1) := by decide +kernel
theorem dX6_descend_64 : decode cX6_descend 64 = .ok (.istore 7, 2) := by decide +kernel
theorem dX6_descend_66 : decode cX6_descend 66 = .ok (.iconst 0, 1) := by decide +kernel
theorem dX6_descend_67 : decode cX6_descend 67 = .ok (.istore 8, 2) := by decide +kernel
theorem dX6_descend_69 : decode cX6_descend 69 = .ok (.iload 8, 2) := by decide +kernel
theorem dX6_descend_71 : decode cX6_descend 71 = .ok (.bipush 17, 2) := by decide +kernel
theorem dX6_descend_73 : decode cX6_descend 73 = .ok (.if_icmp .ge 99, 3) := by decide +kernel
theorem dX6_descend_76 : decode cX6_descend 76 = .ok (.aload_n 0, 1) := by decide +kernel
theorem dX6_descend_77 : decode cX6_descend 77 = .ok (.getfield 57, 3) := by decide +kernel
theorem dX6_descend_80 : decode cX6_descend 80 = .ok (.aload_n 0, 1) := by decide +kernel
theorem dX6_descend_81 : decode cX6_descend 81 = .ok (.getfield 63, 3) := by decide +kernel
theorem dX6_descend_84 : decode cX6_descend 84 = .ok (.if_icmp .ge 88, 3) := by decide +kernel
theorem dX6_descend_87 : decode cX6_descend 87 = .ok (.iload_n 1, 1) := by decide +kernel
theorem dX6_descend_88 : decode cX6_descend 88 = .ok (.bipush 17, 2) := by decide +kernel
theorem dX6_descend_90 : decode cX6_descend 90 = .ok (.imul, 1) := by decide +kernel
theorem dX6_descend_91 : decode cX6_descend 91 = .ok (.iload 8, 2) := by decide +kernel
theorem dX6_descend_93 : decode cX6_descend 93 = .ok (.iadd, 1) := by decide +kernel
theorem dX6_descend_94 : decode cX6_descend 94 = .ok (.istore 9, 2) := by decide +kernel
theorem dX6_descend_96 : decode cX6_descend 96 = .ok (.iload 7, 2) := by decide +kernel
theorem dX6_descend_98 : decode cX6_descend 98 = .ok (.iload 8, 2) := by decide +kernel
theorem dX6_descend_100 : decode cX6_descend 100 = .ok (.ishr, 1) := by decide +kernel
theorem dX6_descend_101 : decode cX6_descend 101 = .ok (.iconst 1, 1) := by decide +kernel
theorem dX6_descend_102 : decode cX6_descend 102 = .ok (.iand, 1) := by decide +kernel
theorem dX6_descend_103 : decode cX6_descend 103 = .ok (.iconst 1, 1) := by decide +kernel
theorem dX6_descend_104 : decode cX6_descend 104 = .ok (.if_icmp .ne 62, 3) := by decide +kernel
theorem dX6_descend_107 : decode cX6_descend 107 = .ok (.aload_n 0, 1) := by decide +kernel
theorem dX6_descend_108 : decode cX6_descend 108 = .ok (.iload_n 1, 1) := by decide +kernel
theorem dX6_descend_109 : decode cX6_descend 109 = .ok (.iload 8, 2) := by decide +kernel
theorem dX6_descend_111 : decode cX6_descend 111 = .ok (.iload 7, 2) := by decide +kernel
theorem dX6_descend_113 : decode cX6_descend 113 = .ok (.lload_n 2, 1) := by decide +kernel
theorem dX6_descend_114 : decode cX6_descend 114 = .ok (.lload 4, 2) := by decide +kernel
theorem dX6_descend_116 : decode cX6_descend 116 = .ok (.invokevirtual 131, 3) := by decide +kernel
theorem dX6_descend_119 : decode cX6_descend 119 = .ok (.ifCond .ne 47, 3) := by decide +kernel
theorem dX6_descend_122 : decode cX6_descend 122 = .ok (.aload_n 0, 1) := by decide +kernel
theorem dX6_descend_123 : decode cX6_descend 123 = .ok (.iload_n 1, 1) := by decide +kernel
theorem dX6_descend_124 : decode cX6_descend 124 = .ok (.iconst 1, 1) := by decide +kernel
theorem dX6_descend_125 : decode cX6_descend 125 = .ok (.iadd, 1) := by decide +kernel
theorem dX6_descend_126 : decode cX6_descend 126 = .ok (.lload_n 2, 1) := by decide +kernel
theorem dX6_descend_127 : decode cX6_descend 127 = .ok (.aload_n 0, 1) := by decide +kernel
theorem dX6_descend_128 : decode cX6_descend 128 = .ok (.getfield 22, 3) := by decide +kernel
theorem dX6_descend_131 : decode cX6_descend 131 = .ok (.iload 9, 2) := by decide +kernel
theorem dX6_descend_133 : decode cX6_descend 133 = .ok (.laload, 1) := by decide +kernel
theorem dX6_descend_134 : decode cX6_descend 134 = .ok (.ldc2_w 91, 3) := by decide +kernel
theorem dX6_descend_137 : decode cX6_descend 137 = .ok (.lxor, 1) := by decide +kernel
theorem dX6_descend_138 : decode cX6_descend 138 = .ok (.land, 1) := by decide +kernel
theorem dX6_descend_139 : decode cX6_descend 139 = .ok (.lload 4, 2) := by decide +kernel
theorem dX6_descend_141 : decode cX6_descend 141 = .ok (.aload_n 0, 1) := by decide +kernel
theorem dX6_descend_142 : decode cX6_descend 142 = .ok (.getfield 26, 3) := by decide +kernel
theorem dX6_descend_145 : decode cX6_descend 145 = .ok (.iload 9, 2) := by decide +kernel
theorem dX6_descend_147 : decode cX6_descend 147 = .ok (.laload, 1) := by decide +kernel
theorem dX6_descend_148 : decode cX6_descend 148 = .ok (.ldc2_w 91, 3) := by decide +kernel
theorem dX6_descend_151 : decode cX6_descend 151 = .ok (.lxor, 1) := by decide +kernel
theorem dX6_descend_152 : decode cX6_descend 152 = .ok (.land, 1) := by decide +kernel
theorem dX6_descend_153 : decode cX6_descend 153 = .ok (.iload 6, 2) := by decide +kernel
theorem dX6_descend_155 : decode cX6_descend 155 = .ok (.aload_n 0, 1) := by decide +kernel
theorem dX6_descend_156 : decode cX6_descend 156 = .ok (.getfield 19, 3) := by decide +kernel
theorem dX6_descend_159 : decode cX6_descend 159 = .ok (.iload 9, 2) := by decide +kernel
theorem dX6_descend_161 : decode cX6_descend 161 = .ok (.iaload, 1) := by decide +kernel
theorem dX6_descend_162 : decode cX6_descend 162 = .ok (.iadd, 1) := by decide +kernel
theorem dX6_descend_163 : decode cX6_descend 163 = .ok (.invokevirtual 66, 3) := by decide +kernel
theorem dX6_descend_166 : decode cX6_descend 166 = .ok (.iinc 8 1, 3) := by decide +kernel
theorem dX6_descend_169 : decode cX6_descend 169 = .ok (.goto (-100), 3) := by decide +kernel
theorem dX6_descend_172 : decode cX6_descend 172 = .ok (.return_, 1) := by decide +kernel
theorem dX6_hope_0 : decode cX6_hope 0 = .ok (.iconst 0, 1) := by decide +kernel
theorem dX6_hope_1 : decode cX6_hope 1 = .ok (.istore 6, 2) := by decide +kernel
theorem dX6_hope_3 : decode cX6_hope 3 = .ok (.iload_n 1, 1) := by decide +kernel
theorem dX6_hope_4 : decode cX6_hope 4 = .ok (.istore 7, 2) := by decide +kernel
theorem dX6_hope_6 : decode cX6_hope 6 = .ok (.iload 7, 2) := by decide +kernel
theorem dX6_hope_8 : decode cX6_hope 8 = .ok (.aload_n 0, 1) := by decide +kernel
theorem dX6_hope_9 : decode cX6_hope 9 = .ok (.getfield 29, 3) := by decide +kernel
theorem dX6_hope_12 : decode cX6_hope 12 = .ok (.if_icmp .ge 61, 3) := by decide +kernel
theorem dX6_hope_15 : decode cX6_hope 15 = .ok (.iload 7, 2) := by decide +kernel
theorem dX6_hope_17 : decode cX6_hope 17 = .ok (.lload_n 2, 1) := by decide +kernel
theorem dX6_hope_18 : decode cX6_hope 18 = .ok (.lload 4, 2) := by decide +kernel
theorem dX6_hope_20 : decode cX6_hope 20 = .ok (.invokestatic 74, 3) := by decide +kernel
theorem dX6_hope_23 : decode cX6_hope 23 = .ok (.istore 8, 2) := by decide +kernel
theorem dX6_hope_25 : decode cX6_hope 25 = .ok (.iload 8, 2) := by decide +kernel
theorem dX6_hope_27 : decode cX6_hope 27 = .ok (.ifCond .eq 27, 3) := by decide +kernel
theorem dX6_hope_30 : decode cX6_hope 30 = .ok (.iload 6, 2) := by decide +kernel
theorem dX6_hope_32 : decode cX6_hope 32 = .ok (.aload_n 0, 1) := by decide +kernel
theorem dX6_hope_33 : decode cX6_hope 33 = .ok (.getfield 19, 3) := by decide +kernel
theorem dX6_hope_36 : decode cX6_hope 36 = .ok (.iload 7, 2) := by decide +kernel
theorem dX6_hope_38 : decode cX6_hope 38 = .ok (.bipush 17, 2) := by decide +kernel
theorem dX6_hope_40 : decode cX6_hope 40 = .ok (.imul, 1) := by decide +kernel
theorem dX6_hope_41 : decode cX6_hope 41 = .ok (.iload 8, 2) := by decide +kernel
theorem dX6_hope_43 : decode cX6_hope 43 = .ok (.invokestatic 135, 3) := by decide +kernel
theorem dX6_hope_46 : decode cX6_hope 46 = .ok (.iadd, 1) := by decide +kernel
theorem dX6_hope_47 : decode cX6_hope 47 = .ok (.iaload, 1) := by decide +kernel
theorem dX6_hope_48 : decode cX6_hope 48 = .ok (.iadd, 1) := by decide +kernel
theorem dX6_hope_49 : decode cX6_hope 49 = .ok (.istore 6, 2) := by decide +kernel
theorem dX6_hope_51 : decode cX6_hope 51 = .ok (.goto 16, 3) := by decide +kernel
theorem dX6_hope_54 : decode cX6_hope 54 = .ok (.aload_n 0, 1) := by decide +kernel
theorem dX6_hope_55 : decode cX6_hope 55 = .ok (.getfield 15, 3) := by decide +kernel
theorem dX6_hope_58 : decode cX6_hope 58 = .ok (.iload 7, 2) := by decide +kernel
theorem dX6_hope_60 : decode cX6_hope 60 = .ok (.baload, 1) := by decide +kernel
theorem dX6_hope_61 : decode cX6_hope 61 = .ok (.ifCond .eq 6, 3) := by decide +kernel
theorem dX6_hope_64 : decode cX6_hope 64 = .ok (.ldc 139, 2) := by decide +kernel
theorem dX6_hope_66 : decode cX6_hope 66 = .ok (.ireturn, 1) := by decide +kernel
theorem dX6_hope_67 : decode cX6_hope 67 = .ok (.iinc 7 1, 3) := by decide +kernel
theorem dX6_hope_70 : decode cX6_hope 70 = .ok (.goto (-64), 3) := by decide +kernel
theorem dX6_hope_73 : decode cX6_hope 73 = .ok (.iload 6, 2) := by decide +kernel
theorem dX6_hope_75 : decode cX6_hope 75 = .ok (.ireturn, 1) := by decide +kernel
theorem dX6_isBeaten_0 : decode cX6_isBeaten 0 = .ok (.iload_n 1, 1) := by decide +kernel
theorem dX6_isBeaten_1 : decode cX6_isBeaten 1 = .ok (.bipush 17, 2) := by decide +kernel
theorem dX6_isBeaten_3 : decode cX6_isBeaten 3 = .ok (.imul, 1) := by decide +kernel
theorem dX6_isBeaten_4 : decode cX6_isBeaten 4 = .ok (.iload_n 2, 1) := by decide +kernel
theorem dX6_isBeaten_5 : decode cX6_isBeaten 5 = .ok (.iadd, 1) := by decide +kernel
theorem dX6_isBeaten_6 : decode cX6_isBeaten 6 = .ok (.istore 8, 2) := by decide +kernel
theorem dX6_isBeaten_8 : decode cX6_isBeaten 8 = .ok (.iload_n 1, 1) := by decide +kernel
theorem dX6_isBeaten_9 : decode cX6_isBeaten 9 = .ok (.bipush 17, 2) := by decide +kernel
theorem dX6_isBeaten_11 : decode cX6_isBeaten 11 = .ok (.imul, 1) := by decide +kernel
theorem dX6_isBeaten_12 : decode cX6_isBeaten 12 = .ok (.istore 9, 2) := by decide +kernel
theorem dX6_isBeaten_14 : decode cX6_isBeaten 14 = .ok (.iload 9, 2) := by decide +kernel
theorem dX6_isBeaten_16 : decode cX6_isBeaten 16 = .ok (.iload 8, 2) := by decide +kernel
theorem dX6_isBeaten_18 : decode cX6_isBeaten 18 = .ok (.if_icmp .ge 92, 3) := by decide +kernel
theorem dX6_isBeaten_21 : decode cX6_isBeaten 21 = .ok (.iload_n 3, 1) := by decide +kernel
theorem dX6_isBeaten_22 : decode cX6_isBeaten 22 = .ok (.iload 9, 2) := by decide +kernel
theorem dX6_isBeaten_24 : decode cX6_isBeaten 24 = .ok (.iload_n 1, 1) := by decide +kernel
theorem dX6_isBeaten_25 : decode cX6_isBeaten 25 = .ok (.bipush 17, 2) := by decide +kernel
theorem dX6_isBeaten_27 : decode cX6_isBeaten 27 = .ok (.imul, 1) := by decide +kernel
theorem dX6_isBeaten_28 : decode cX6_isBeaten 28 = .ok (.isub, 1) := by decide +kernel
theorem dX6_isBeaten_29 : decode cX6_isBeaten 29 = .ok (.ishr, 1) := by decide +kernel
theorem dX6_isBeaten_30 : decode cX6_isBeaten 30 = .ok (.iconst 1, 1) := by decide +kernel
theorem dX6_isBeaten_31 : decode cX6_isBeaten 31 = .ok (.iand, 1) := by decide +kernel
theorem dX6_isBeaten_32 : decode cX6_isBeaten 32 = .ok (.iconst 1, 1) := by decide +kernel
theorem dX6_isBeaten_33 : decode cX6_isBeaten 33 = .ok (.if_icmp .ne 7, 3) := by decide +kernel
theorem dX6_isBeaten_36 : decode cX6_isBeaten 36 = .ok (.iconst 1, 1) := by decide +kernel
theorem dX6_isBeaten_37 : decode cX6_isBeaten 37 = .ok (.goto 4, 3) := by decide +kernel
theorem dX6_isBeaten_40 : decode cX6_isBeaten 40 = .ok (.iconst 0, 1) := by decide +kernel
theorem dX6_isBeaten_41 : decode cX6_isBeaten 41 = .ok (.istore 10, 2) := by decide +kernel
theorem dX6_isBeaten_43 : decode cX6_isBeaten 43 = .ok (.iload 10, 2) := by decide +kernel
theorem dX6_isBeaten_45 : decode cX6_isBeaten 45 = .ok (.ifCond .eq 59, 3) := by decide +kernel
theorem dX6_isBeaten_48 : decode cX6_isBeaten 48 = .ok (.aload_n 0, 1) := by decide +kernel
theorem dX6_isBeaten_49 : decode cX6_isBeaten 49 = .ok (.getfield 22, 3) := by decide +kernel
theorem dX6_isBeaten_52 : decode cX6_isBeaten 52 = .ok (.iload 9, 2) := by decide +kernel
theorem dX6_isBeaten_54 : decode cX6_isBeaten 54 = .ok (.laload, 1) := by decide +kernel
theorem dX6_isBeaten_55 : decode cX6_isBeaten 55 = .ok (.aload_n 0, 1) := by decide +kernel
theorem dX6_isBeaten_56 : decode cX6_isBeaten 56 = .ok (.getfield 22, 3) := by decide +kernel
theorem dX6_isBeaten_59 : decode cX6_isBeaten 59 = .ok (.iload 8, 2) := by decide +kernel
theorem dX6_isBeaten_61 : decode cX6_isBeaten 61 = .ok (.laload, 1) := by decide +kernel
theorem dX6_isBeaten_62 : decode cX6_isBeaten 62 = .ok (.ldc2_w 91, 3) := by decide +kernel
theorem dX6_isBeaten_65 : decode cX6_isBeaten 65 = .ok (.lxor, 1) := by decide +kernel
theorem dX6_isBeaten_66 : decode cX6_isBeaten 66 = .ok (.land, 1) := by decide +kernel
theorem dX6_isBeaten_67 : decode cX6_isBeaten 67 = .ok (.lload 4, 2) := by decide +kernel
theorem dX6_isBeaten_69 : decode cX6_isBeaten 69 = .ok (.land, 1) := by decide +kernel
theorem dX6_isBeaten_70 : decode cX6_isBeaten 70 = .ok (.lconst 0, 1) := by decide +kernel
theorem dX6_isBeaten_71 : decode cX6_isBeaten 71 = .ok (.lcmp, 1) := by decide +kernel
theorem dX6_isBeaten_72 : decode cX6_isBeaten 72 = .ok (.ifCond .ne 32, 3) := by decide +kernel
theorem dX6_isBeaten_75 : decode cX6_isBeaten 75 = .ok (.aload_n 0, 1) := by decide +kernel
theorem dX6_isBeaten_76 : decode cX6_isBeaten 76 = .ok (.getfield 26, 3) := by decide +kernel
theorem dX6_isBeaten_79 : decode cX6_isBeaten 79 = .ok (.iload 9, 2) := by decide +kernel
theorem dX6_isBeaten_81 : decode cX6_isBeaten 81 = .ok (.laload, 1) := by decide +kernel
theorem dX6_isBeaten_82 : decode cX6_isBeaten 82 = .ok (.aload_n 0, 1) := by decide +kernel
theorem dX6_isBeaten_83 : decode cX6_isBeaten 83 = .ok (.getfield 26, 3) := by decide +kernel
theorem dX6_isBeaten_86 : decode cX6_isBeaten 86 = .ok (.iload 8, 2) := by decide +kernel
theorem dX6_isBeaten_88 : decode cX6_isBeaten 88 = .ok (.laload, 1) := by decide +kernel
theorem dX6_isBeaten_89 : decode cX6_isBeaten 89 = .ok (.ldc2_w 91, 3) := by decide +kernel
theorem dX6_isBeaten_92 : decode cX6_isBeaten 92 = .ok (.lxor, 1) := by decide +kernel
theorem dX6_isBeaten_93 : decode cX6_isBeaten 93 = .ok (.land, 1) := by decide +kernel
theorem dX6_isBeaten_94 : decode cX6_isBeaten 94 = .ok (.lload 6, 2) := by decide +kernel
theorem dX6_isBeaten_96 : decode cX6_isBeaten 96 = .ok (.land, 1) := by decide +kernel
theorem dX6_isBeaten_97 : decode cX6_isBeaten 97 = .ok (.lconst 0, 1) := by decide +kernel
theorem dX6_isBeaten_98 : decode cX6_isBeaten 98 = .ok (.lcmp, 1) := by decide +kernel
theorem dX6_isBeaten_99 : decode cX6_isBeaten 99 = .ok (.ifCond .ne 5, 3) := by decide +kernel
theorem dX6_isBeaten_102 : decode cX6_isBeaten 102 = .ok (.iconst 1, 1) := by decide +kernel
theorem dX6_isBeaten_103 : decode cX6_isBeaten 103 = .ok (.ireturn, 1) := by decide +kernel
theorem dX6_isBeaten_104 : decode cX6_isBeaten 104 = .ok (.iinc 9 1, 3) := by decide +kernel
theorem dX6_isBeaten_107 : decode cX6_isBeaten 107 = .ok (.goto (-93), 3) := by decide +kernel
theorem dX6_isBeaten_110 : decode cX6_isBeaten 110 = .ok (.iconst 0, 1) := by decide +kernel
theorem dX6_isBeaten_111 : decode cX6_isBeaten 111 = .ok (.ireturn, 1) := by decide +kernel
theorem dJ6_numberOfTrailingZeros_0f7a4_0 : decode cJ6_numberOfTrailingZeros_0f7a4 0 = .ok (.iload_n 0, 1) := by decide +kernel
theorem dJ6_numberOfTrailingZeros_0f7a4_1 : decode cJ6_numberOfTrailingZeros_0f7a4 1 = .ok (.iconst (-1), 1) := by decide +kernel
theorem dJ6_numberOfTrailingZeros_0f7a4_2 : decode cJ6_numberOfTrailingZeros_0f7a4 2 = .ok (.ixor, 1) := by decide +kernel
theorem dJ6_numberOfTrailingZeros_0f7a4_3 : decode cJ6_numberOfTrailingZeros_0f7a4 3 = .ok (.iload_n 0, 1) := by decide +kernel
theorem dJ6_numberOfTrailingZeros_0f7a4_4 : decode cJ6_numberOfTrailingZeros_0f7a4 4 = .ok (.iconst 1, 1) := by decide +kernel
theorem dJ6_numberOfTrailingZeros_0f7a4_5 : decode cJ6_numberOfTrailingZeros_0f7a4 5 = .ok (.isub, 1) := by decide +kernel
theorem dJ6_numberOfTrailingZeros_0f7a4_6 : decode cJ6_numberOfTrailingZeros_0f7a4 6 = .ok (.iand, 1) := by decide +kernel
theorem dJ6_numberOfTrailingZeros_0f7a4_7 : decode cJ6_numberOfTrailingZeros_0f7a4 7 = .ok (.istore_n 0, 1) := by decide +kernel
theorem dJ6_numberOfTrailingZeros_0f7a4_8 : decode cJ6_numberOfTrailingZeros_0f7a4 8 = .ok (.iload_n 0, 1) := by decide +kernel
theorem dJ6_numberOfTrailingZeros_0f7a4_9 : decode cJ6_numberOfTrailingZeros_0f7a4 9 = .ok (.ifCond .gt 8, 3) := by decide +kernel
theorem dJ6_numberOfTrailingZeros_0f7a4_12 : decode cJ6_numberOfTrailingZeros_0f7a4 12 = .ok (.iload_n 0, 1) := by decide +kernel
theorem dJ6_numberOfTrailingZeros_0f7a4_13 : decode cJ6_numberOfTrailingZeros_0f7a4 13 = .ok (.bipush 32, 2) := by decide +kernel
theorem dJ6_numberOfTrailingZeros_0f7a4_15 : decode cJ6_numberOfTrailingZeros_0f7a4 15 = .ok (.iand, 1) := by decide +kernel
theorem dJ6_numberOfTrailingZeros_0f7a4_16 : decode cJ6_numberOfTrailingZeros_0f7a4 16 = .ok (.ireturn, 1) := by decide +kernel
theorem dJ6_numberOfTrailingZeros_0f7a4_17 : decode cJ6_numberOfTrailingZeros_0f7a4 17 = .ok (.iconst 1, 1) := by decide +kernel
theorem dJ6_numberOfTrailingZeros_0f7a4_18 : decode cJ6_numberOfTrailingZeros_0f7a4 18 = .ok (.istore_n 1, 1) := by decide +kernel
theorem dJ6_numberOfTrailingZeros_0f7a4_19 : decode cJ6_numberOfTrailingZeros_0f7a4 19 = .ok (.iload_n 0, 1) := by decide +kernel
theorem dJ6_numberOfTrailingZeros_0f7a4_20 : decode cJ6_numberOfTrailingZeros_0f7a4 20 = .ok (.ldc_w 264, 3) := by decide +kernel
theorem dJ6_numberOfTrailingZeros_0f7a4_23 : decode cJ6_numberOfTrailingZeros_0f7a4 23 = .ok (.if_icmp .le 11, 3) := by decide +kernel
theorem dJ6_numberOfTrailingZeros_0f7a4_26 : decode cJ6_numberOfTrailingZeros_0f7a4 26 = .ok (.iinc 1 16, 3) := by decide +kernel
theorem dJ6_numberOfTrailingZeros_0f7a4_29 : decode cJ6_numberOfTrailingZeros_0f7a4 29 = .ok (.iload_n 0, 1) := by decide +kernel
theorem dJ6_numberOfTrailingZeros_0f7a4_30 : decode cJ6_numberOfTrailingZeros_0f7a4 30 = .ok (.bipush 16, 2) := by decide +kernel
theorem dJ6_numberOfTrailingZeros_0f7a4_32 : decode cJ6_numberOfTrailingZeros_0f7a4 32 = .ok (.iushr, 1) := by decide +kernel
theorem dJ6_numberOfTrailingZeros_0f7a4_33 : decode cJ6_numberOfTrailingZeros_0f7a4 33 = .ok (.istore_n 0, 1) := by decide +kernel
theorem dJ6_numberOfTrailingZeros_0f7a4_34 : decode cJ6_numberOfTrailingZeros_0f7a4 34 = .ok (.iload_n 0, 1) := by decide +kernel
theorem dJ6_numberOfTrailingZeros_0f7a4_35 : decode cJ6_numberOfTrailingZeros_0f7a4 35 = .ok (.sipush 256, 3) := by decide +kernel
theorem dJ6_numberOfTrailingZeros_0f7a4_38 : decode cJ6_numberOfTrailingZeros_0f7a4 38 = .ok (.if_icmp .le 11, 3) := by decide +kernel
theorem dJ6_numberOfTrailingZeros_0f7a4_41 : decode cJ6_numberOfTrailingZeros_0f7a4 41 = .ok (.iinc 1 8, 3) := by decide +kernel
theorem dJ6_numberOfTrailingZeros_0f7a4_44 : decode cJ6_numberOfTrailingZeros_0f7a4 44 = .ok (.iload_n 0, 1) := by decide +kernel
theorem dJ6_numberOfTrailingZeros_0f7a4_45 : decode cJ6_numberOfTrailingZeros_0f7a4 45 = .ok (.bipush 8, 2) := by decide +kernel
theorem dJ6_numberOfTrailingZeros_0f7a4_47 : decode cJ6_numberOfTrailingZeros_0f7a4 47 = .ok (.iushr, 1) := by decide +kernel
theorem dJ6_numberOfTrailingZeros_0f7a4_48 : decode cJ6_numberOfTrailingZeros_0f7a4 48 = .ok (.istore_n 0, 1) := by decide +kernel
theorem dJ6_numberOfTrailingZeros_0f7a4_49 : decode cJ6_numberOfTrailingZeros_0f7a4 49 = .ok (.iload_n 0, 1) := by decide +kernel
theorem dJ6_numberOfTrailingZeros_0f7a4_50 : decode cJ6_numberOfTrailingZeros_0f7a4 50 = .ok (.bipush 16, 2) := by decide +kernel
theorem dJ6_numberOfTrailingZeros_0f7a4_52 : decode cJ6_numberOfTrailingZeros_0f7a4 52 = .ok (.if_icmp .le 10, 3) := by decide +kernel
theorem dJ6_numberOfTrailingZeros_0f7a4_55 : decode cJ6_numberOfTrailingZeros_0f7a4 55 = .ok (.iinc 1 4, 3) := by decide +kernel
theorem dJ6_numberOfTrailingZeros_0f7a4_58 : decode cJ6_numberOfTrailingZeros_0f7a4 58 = .ok (.iload_n 0, 1) := by decide +kernel
theorem dJ6_numberOfTrailingZeros_0f7a4_59 : decode cJ6_numberOfTrailingZeros_0f7a4 59 = .ok (.iconst 4, 1) := by decide +kernel
theorem dJ6_numberOfTrailingZeros_0f7a4_60 : decode cJ6_numberOfTrailingZeros_0f7a4 60 = .ok (.iushr, 1) := by decide +kernel
theorem dJ6_numberOfTrailingZeros_0f7a4_61 : decode cJ6_numberOfTrailingZeros_0f7a4 61 = .ok (.istore_n 0, 1) := by decide +kernel
theorem dJ6_numberOfTrailingZeros_0f7a4_62 : decode cJ6_numberOfTrailingZeros_0f7a4 62 = .ok (.iload_n 0, 1) := by decide +kernel
theorem dJ6_numberOfTrailingZeros_0f7a4_63 : decode cJ6_numberOfTrailingZeros_0f7a4 63 = .ok (.iconst 4, 1) := by decide +kernel
theorem dJ6_numberOfTrailingZeros_0f7a4_64 : decode cJ6_numberOfTrailingZeros_0f7a4 64 = .ok (.if_icmp .le 10, 3) := by decide +kernel
theorem dJ6_numberOfTrailingZeros_0f7a4_67 : decode cJ6_numberOfTrailingZeros_0f7a4 67 = .ok (.iinc 1 2, 3) := by decide +kernel
theorem dJ6_numberOfTrailingZeros_0f7a4_70 : decode cJ6_numberOfTrailingZeros_0f7a4 70 = .ok (.iload_n 0, 1) := by decide +kernel
theorem dJ6_numberOfTrailingZeros_0f7a4_71 : decode cJ6_numberOfTrailingZeros_0f7a4 71 = .ok (.iconst 2, 1) := by decide +kernel
theorem dJ6_numberOfTrailingZeros_0f7a4_72 : decode cJ6_numberOfTrailingZeros_0f7a4 72 = .ok (.iushr, 1) := by decide +kernel
theorem dJ6_numberOfTrailingZeros_0f7a4_73 : decode cJ6_numberOfTrailingZeros_0f7a4 73 = .ok (.istore_n 0, 1) := by decide +kernel
theorem dJ6_numberOfTrailingZeros_0f7a4_74 : decode cJ6_numberOfTrailingZeros_0f7a4 74 = .ok (.iload_n 1, 1) := by decide +kernel
theorem dJ6_numberOfTrailingZeros_0f7a4_75 : decode cJ6_numberOfTrailingZeros_0f7a4 75 = .ok (.iload_n 0, 1) := by decide +kernel
theorem dJ6_numberOfTrailingZeros_0f7a4_76 : decode cJ6_numberOfTrailingZeros_0f7a4 76 = .ok (.iconst 1, 1) := by decide +kernel
theorem dJ6_numberOfTrailingZeros_0f7a4_77 : decode cJ6_numberOfTrailingZeros_0f7a4 77 = .ok (.iushr, 1) := by decide +kernel
theorem dJ6_numberOfTrailingZeros_0f7a4_78 : decode cJ6_numberOfTrailingZeros_0f7a4 78 = .ok (.iadd, 1) := by decide +kernel
theorem dJ6_numberOfTrailingZeros_0f7a4_79 : decode cJ6_numberOfTrailingZeros_0f7a4 79 = .ok (.ireturn, 1) := by decide +kernel
theorem dJ6_bitCount_0f7a4_0 : decode cJ6_bitCount_0f7a4 0 = .ok (.iload_n 0, 1) := by decide +kernel
theorem dJ6_bitCount_0f7a4_1 : decode cJ6_bitCount_0f7a4 1 = .ok (.iload_n 0, 1) := by decide +kernel
theorem dJ6_bitCount_0f7a4_2 : decode cJ6_bitCount_0f7a4 2 = .ok (.iconst 1, 1) := by decide +kernel
theorem dJ6_bitCount_0f7a4_3 : decode cJ6_bitCount_0f7a4 3 = .ok (.iushr, 1) := by decide +kernel
theorem dJ6_bitCount_0f7a4_4 : decode cJ6_bitCount_0f7a4 4 = .ok (.ldc_w 265, 3) := by decide +kernel
theorem dJ6_bitCount_0f7a4_7 : decode cJ6_bitCount_0f7a4 7 = .ok (.iand, 1) := by decide +kernel
theorem dJ6_bitCount_0f7a4_8 : decode cJ6_bitCount_0f7a4 8 = .ok (.isub, 1) := by decide +kernel
theorem dJ6_bitCount_0f7a4_9 : decode cJ6_bitCount_0f7a4 9 = .ok (.istore_n 0, 1) := by decide +kernel
theorem dJ6_bitCount_0f7a4_10 : decode cJ6_bitCount_0f7a4 10 = .ok (.iload_n 0, 1) := by decide +kernel
theorem dJ6_bitCount_0f7a4_11 : decode cJ6_bitCount_0f7a4 11 = .ok (.ldc_w 266, 3) := by decide +kernel
theorem dJ6_bitCount_0f7a4_14 : decode cJ6_bitCount_0f7a4 14 = .ok (.iand, 1) := by decide +kernel
theorem dJ6_bitCount_0f7a4_15 : decode cJ6_bitCount_0f7a4 15 = .ok (.iload_n 0, 1) := by decide +kernel
theorem dJ6_bitCount_0f7a4_16 : decode cJ6_bitCount_0f7a4 16 = .ok (.iconst 2, 1) := by decide +kernel
theorem dJ6_bitCount_0f7a4_17 : decode cJ6_bitCount_0f7a4 17 = .ok (.iushr, 1) := by decide +kernel
theorem dJ6_bitCount_0f7a4_18 : decode cJ6_bitCount_0f7a4 18 = .ok (.ldc_w 266, 3) := by decide +kernel
theorem dJ6_bitCount_0f7a4_21 : decode cJ6_bitCount_0f7a4 21 = .ok (.iand, 1) := by decide +kernel
theorem dJ6_bitCount_0f7a4_22 : decode cJ6_bitCount_0f7a4 22 = .ok (.iadd, 1) := by decide +kernel
theorem dJ6_bitCount_0f7a4_23 : decode cJ6_bitCount_0f7a4 23 = .ok (.istore_n 0, 1) := by decide +kernel
theorem dJ6_bitCount_0f7a4_24 : decode cJ6_bitCount_0f7a4 24 = .ok (.iload_n 0, 1) := by decide +kernel
theorem dJ6_bitCount_0f7a4_25 : decode cJ6_bitCount_0f7a4 25 = .ok (.iload_n 0, 1) := by decide +kernel
theorem dJ6_bitCount_0f7a4_26 : decode cJ6_bitCount_0f7a4 26 = .ok (.iconst 4, 1) := by decide +kernel
theorem dJ6_bitCount_0f7a4_27 : decode cJ6_bitCount_0f7a4 27 = .ok (.iushr, 1) := by decide +kernel
theorem dJ6_bitCount_0f7a4_28 : decode cJ6_bitCount_0f7a4 28 = .ok (.iadd, 1) := by decide +kernel
theorem dJ6_bitCount_0f7a4_29 : decode cJ6_bitCount_0f7a4 29 = .ok (.ldc_w 267, 3) := by decide +kernel
theorem dJ6_bitCount_0f7a4_32 : decode cJ6_bitCount_0f7a4 32 = .ok (.iand, 1) := by decide +kernel
theorem dJ6_bitCount_0f7a4_33 : decode cJ6_bitCount_0f7a4 33 = .ok (.istore_n 0, 1) := by decide +kernel
theorem dJ6_bitCount_0f7a4_34 : decode cJ6_bitCount_0f7a4 34 = .ok (.iload_n 0, 1) := by decide +kernel
theorem dJ6_bitCount_0f7a4_35 : decode cJ6_bitCount_0f7a4 35 = .ok (.iload_n 0, 1) := by decide +kernel
theorem dJ6_bitCount_0f7a4_36 : decode cJ6_bitCount_0f7a4 36 = .ok (.bipush 8, 2) := by decide +kernel
theorem dJ6_bitCount_0f7a4_38 : decode cJ6_bitCount_0f7a4 38 = .ok (.iushr, 1) := by decide +kernel
theorem dJ6_bitCount_0f7a4_39 : decode cJ6_bitCount_0f7a4 39 = .ok (.iadd, 1) := by decide +kernel
theorem dJ6_bitCount_0f7a4_40 : decode cJ6_bitCount_0f7a4 40 = .ok (.istore_n 0, 1) := by decide +kernel
theorem dJ6_bitCount_0f7a4_41 : decode cJ6_bitCount_0f7a4 41 = .ok (.iload_n 0, 1) := by decide +kernel
theorem dJ6_bitCount_0f7a4_42 : decode cJ6_bitCount_0f7a4 42 = .ok (.iload_n 0, 1) := by decide +kernel
theorem dJ6_bitCount_0f7a4_43 : decode cJ6_bitCount_0f7a4 43 = .ok (.bipush 16, 2) := by decide +kernel
theorem dJ6_bitCount_0f7a4_45 : decode cJ6_bitCount_0f7a4 45 = .ok (.iushr, 1) := by decide +kernel
theorem dJ6_bitCount_0f7a4_46 : decode cJ6_bitCount_0f7a4 46 = .ok (.iadd, 1) := by decide +kernel
theorem dJ6_bitCount_0f7a4_47 : decode cJ6_bitCount_0f7a4 47 = .ok (.istore_n 0, 1) := by decide +kernel
theorem dJ6_bitCount_0f7a4_48 : decode cJ6_bitCount_0f7a4 48 = .ok (.iload_n 0, 1) := by decide +kernel
theorem dJ6_bitCount_0f7a4_49 : decode cJ6_bitCount_0f7a4 49 = .ok (.bipush 63, 2) := by decide +kernel
theorem dJ6_bitCount_0f7a4_51 : decode cJ6_bitCount_0f7a4 51 = .ok (.iand, 1) := by decide +kernel
theorem dJ6_bitCount_0f7a4_52 : decode cJ6_bitCount_0f7a4 52 = .ok (.ireturn, 1) := by decide +kernel
theorem dJ9_abs_0f7a4_0 : decode cJ9_abs_0f7a4 0 = .ok (.iload_n 0, 1) := by decide +kernel
theorem dJ9_abs_0f7a4_1 : decode cJ9_abs_0f7a4 1 = .ok (.ifCond .ge 8, 3) := by decide +kernel
theorem dJ9_abs_0f7a4_4 : decode cJ9_abs_0f7a4 4 = .ok (.iload_n 0, 1) := by decide +kernel
theorem dJ9_abs_0f7a4_5 : decode cJ9_abs_0f7a4 5 = .ok (.ineg, 1) := by decide +kernel
theorem dJ9_abs_0f7a4_6 : decode cJ9_abs_0f7a4 6 = .ok (.goto 4, 3) := by decide +kernel
theorem dJ9_abs_0f7a4_9 : decode cJ9_abs_0f7a4 9 = .ok (.iload_n 0, 1) := by decide +kernel
theorem dJ9_abs_0f7a4_10 : decode cJ9_abs_0f7a4 10 = .ok (.ireturn, 1) := by decide +kernel
theorem dJ9_max_7cf53_0 : decode cJ9_max_7cf53 0 = .ok (.iload_n 0, 1) := by decide +kernel
theorem dJ9_max_7cf53_1 : decode cJ9_max_7cf53 1 = .ok (.iload_n 1, 1) := by decide +kernel
theorem dJ9_max_7cf53_2 : decode cJ9_max_7cf53 2 = .ok (.if_icmp .lt 7, 3) := by decide +kernel
theorem dJ9_max_7cf53_5 : decode cJ9_max_7cf53 5 = .ok (.iload_n 0, 1) := by decide +kernel
theorem dJ9_max_7cf53_6 : decode cJ9_max_7cf53 6 = .ok (.goto 4, 3) := by decide +kernel
theorem dJ9_max_7cf53_9 : decode cJ9_max_7cf53 9 = .ok (.iload_n 1, 1) := by decide +kernel
theorem dJ9_max_7cf53_10 : decode cJ9_max_7cf53 10 = .ok (.ireturn, 1) := by decide +kernel
theorem dJ9_min_7cf53_0 : decode cJ9_min_7cf53 0 = .ok (.iload_n 0, 1) := by decide +kernel
theorem dJ9_min_7cf53_1 : decode cJ9_min_7cf53 1 = .ok (.iload_n 1, 1) := by decide +kernel
theorem dJ9_min_7cf53_2 : decode cJ9_min_7cf53 2 = .ok (.if_icmp .gt 7, 3) := by decide +kernel
theorem dJ9_min_7cf53_5 : decode cJ9_min_7cf53 5 = .ok (.iload_n 0, 1) := by decide +kernel
theorem dJ9_min_7cf53_6 : decode cJ9_min_7cf53 6 = .ok (.goto 4, 3) := by decide +kernel
theorem dJ9_min_7cf53_9 : decode cJ9_min_7cf53 9 = .ok (.iload_n 1, 1) := by decide +kernel
theorem dJ9_min_7cf53_10 : decode cJ9_min_7cf53 10 = .ok (.ireturn, 1) := by decide +kernel
theorem dJ7_fill_53178_0 : decode cJ7_fill_53178 0 = .ok (.iconst 0, 1) := by decide +kernel
theorem dJ7_fill_53178_1 : decode cJ7_fill_53178 1 = .ok (.istore_n 2, 1) := by decide +kernel
theorem dJ7_fill_53178_2 : decode cJ7_fill_53178 2 = .ok (.aload_n 0, 1) := by decide +kernel
theorem dJ7_fill_53178_3 : decode cJ7_fill_53178 3 = .ok (.arraylength, 1) := by decide +kernel
theorem dJ7_fill_53178_4 : decode cJ7_fill_53178 4 = .ok (.istore_n 3, 1) := by decide +kernel
theorem dJ7_fill_53178_5 : decode cJ7_fill_53178 5 = .ok (.iload_n 2, 1) := by decide +kernel
theorem dJ7_fill_53178_6 : decode cJ7_fill_53178 6 = .ok (.iload_n 3, 1) := by decide +kernel
theorem dJ7_fill_53178_7 : decode cJ7_fill_53178 7 = .ok (.if_icmp .ge 13, 3) := by decide +kernel
theorem dJ7_fill_53178_10 : decode cJ7_fill_53178 10 = .ok (.aload_n 0, 1) := by decide +kernel
theorem dJ7_fill_53178_11 : decode cJ7_fill_53178 11 = .ok (.iload_n 2, 1) := by decide +kernel
theorem dJ7_fill_53178_12 : decode cJ7_fill_53178 12 = .ok (.iload_n 1, 1) := by decide +kernel
theorem dJ7_fill_53178_13 : decode cJ7_fill_53178 13 = .ok (.iastore, 1) := by decide +kernel
theorem dJ7_fill_53178_14 : decode cJ7_fill_53178 14 = .ok (.iinc 2 1, 3) := by decide +kernel
theorem dJ7_fill_53178_17 : decode cJ7_fill_53178 17 = .ok (.goto (-12), 3) := by decide +kernel
theorem dJ7_fill_53178_20 : decode cJ7_fill_53178 20 = .ok (.return_, 1) := by decide +kernel
end
section
theorem dX7_init_0 : decode cX7_init 0 = .ok (.aload_n 0, 1) := by decide +kernel
theorem dX7_init_1 : decode cX7_init 1 = .ok (.invokespecial 1, 3) := by decide +kernel
theorem dX7_init_4 : decode cX7_init 4 = .ok (.aload_n 0, 1) := by decide +kernel
theorem dX7_init_5 : decode cX7_init 5 = .ok (.new 7, 3) := by decide +kernel
theorem dX7_init_8 : decode cX7_init 8 = .ok (.dup, 1) := by decide +kernel
theorem dX7_init_9 : decode cX7_init 9 = .ok (.invokespecial 9, 3) := by decide +kernel
theorem dX7_init_12 : decode cX7_init 12 = .ok (.putfield 10, 3) := by decide +kernel
theorem dX7_init_15 : decode cX7_init 15 = .ok (.aload_n 0, 1) := by decide +kernel
theorem dX7_init_16 : decode cX7_init 16 = .ok (.new 16, 3) := by decide +kernel
theorem dX7_init_19 : decode cX7_init 19 = .ok (.dup, 1) := by decide +kernel
theorem dX7_init_20 : decode cX7_init 20 = .ok (.invokespecial 18, 3) := by decide +kernel
theorem dX7_init_23 : decode cX7_init 23 = .ok (.putfield 19, 3) := by decide +kernel
theorem dX7_init_26 : decode cX7_init 26 = .ok (.aload_n 0, 1) := by decide +kernel
theorem dX7_init_27 : decode cX7_init 27 = .ok (.new 23, 3) := by decide +kernel
theorem dX7_init_30 : decode cX7_init 30 = .ok (.dup, 1) := by decide +kernel
theorem dX7_init_31 : decode cX7_init 31 = .ok (.invokespecial 25, 3) := by decide +kernel
theorem dX7_init_34 : decode cX7_init 34 = .ok (.putfield 26, 3) := by decide +kernel
theorem dX7_init_37 : decode cX7_init 37 = .ok (.aload_n 0, 1) := by decide +kernel
theorem dX7_init_38 : decode cX7_init 38 = .ok (.new 30, 3) := by decide +kernel
theorem dX7_init_41 : decode cX7_init 41 = .ok (.dup, 1) := by decide +kernel
theorem dX7_init_42 : decode cX7_init 42 = .ok (.invokespecial 32, 3) := by decide +kernel
theorem dX7_init_45 : decode cX7_init 45 = .ok (.putfield 33, 3) := by decide +kernel
theorem dX7_init_48 : decode cX7_init 48 = .ok (.aload_n 0, 1) := by decide +kernel
theorem dX7_init_49 : decode cX7_init 49 = .ok (.new 37, 3) := by decide +kernel
theorem dX7_init_52 : decode cX7_init 52 = .ok (.dup, 1) := by decide +kernel
theorem dX7_init_53 : decode cX7_init 53 = .ok (.invokespecial 39, 3) := by decide +kernel
theorem dX7_init_56 : decode cX7_init 56 = .ok (.putfield 40, 3) := by decide +kernel
theorem dX7_init_59 : decode cX7_init 59 = .ok (.aload_n 0, 1) := by decide +kernel
theorem dX7_init_60 : decode cX7_init 60 = .ok (.new 44, 3) := by decide +kernel
theorem dX7_init_63 : decode cX7_init 63 = .ok (.dup, 1) := by decide +kernel
theorem dX7_init_64 : decode cX7_init 64 = .ok (.invokespecial 46, 3) := by decide +kernel
theorem dX7_init_67 : decode cX7_init 67 = .ok (.putfield 47, 3) := by decide +kernel
theorem dX7_init_70 : decode cX7_init 70 = .ok (.aload_n 0, 1) := by decide +kernel
theorem dX7_init_71 : decode cX7_init 71 = .ok (.new 51, 3) := by decide +kernel
theorem dX7_init_74 : decode cX7_init 74 = .ok (.dup, 1) := by decide +kernel
theorem dX7_init_75 : decode cX7_init 75 = .ok (.invokespecial 53, 3) := by decide +kernel
theorem dX7_init_78 : decode cX7_init 78 = .ok (.putfield 54, 3) := by decide +kernel
theorem dX7_init_81 : decode cX7_init 81 = .ok (.aload_n 0, 1) := by decide +kernel
theorem dX7_init_82 : decode cX7_init 82 = .ok (.new 51, 3) := by decide +kernel
theorem dX7_init_85 : decode cX7_init 85 = .ok (.dup, 1) := by decide +kernel
theorem dX7_init_86 : decode cX7_init 86 = .ok (.invokespecial 53, 3) := by decide +kernel
theorem dX7_init_89 : decode cX7_init 89 = .ok (.putfield 58, 3) := by decide +kernel
theorem dX7_init_92 : decode cX7_init 92 = .ok (.aload_n 0, 1) := by decide +kernel
theorem dX7_init_93 : decode cX7_init 93 = .ok (.bipush 24, 2) := by decide +kernel
theorem dX7_init_95 : decode cX7_init 95 = .ok (.newarray .int, 2) := by decide +kernel
theorem dX7_init_97 : decode cX7_init 97 = .ok (.putfield 61, 3) := by decide +kernel
theorem dX7_init_100 : decode cX7_init 100 = .ok (.aload_n 0, 1) := by decide +kernel
theorem dX7_init_101 : decode cX7_init 101 = .ok (.bipush 24, 2) := by decide +kernel
theorem dX7_init_103 : decode cX7_init 103 = .ok (.newarray .int, 2) := by decide +kernel
theorem dX7_init_105 : decode cX7_init 105 = .ok (.putfield 65, 3) := by decide +kernel
theorem dX7_init_108 : decode cX7_init 108 = .ok (.return_, 1) := by decide +kernel
theorem dX7_name_0 : decode cX7_name 0 = .ok (.iload_n 1, 1) := by decide +kernel
theorem dX7_name_1 : decode cX7_name 1 = .ok (.invokestatic 68, 3) := by decide +kernel
theorem dX7_name_4 : decode cX7_name 4 = .ok (.ifCond .eq 11, 3) := by decide +kernel
theorem dX7_name_7 : decode cX7_name 7 = .ok (.iload_n 2, 1) := by decide +kernel
theorem dX7_name_8 : decode cX7_name 8 = .ok (.iload_n 3, 1) := by decide +kernel
theorem dX7_name_9 : decode cX7_name 9 = .ok (.invokestatic 72, 3) := by decide +kernel
theorem dX7_name_12 : decode cX7_name 12 = .ok (.ifCond .ne 6, 3) := by decide +kernel
theorem dX7_name_15 : decode cX7_name 15 = .ok (.bipush (-3), 2) := by decide +kernel
theorem dX7_name_17 : decode cX7_name 17 = .ok (.ireturn, 1) := by decide +kernel
theorem dX7_name_18 : decode cX7_name 18 = .ok (.aload_n 0, 1) := by decide +kernel
theorem dX7_name_19 : decode cX7_name 19 = .ok (.getfield 10, 3) := by decide +kernel
theorem dX7_name_22 : decode cX7_name 22 = .ok (.getfield 76, 3) := by decide +kernel
theorem dX7_name_25 : decode cX7_name 25 = .ok (.bipush 24, 2) := by decide +kernel
theorem dX7_name_27 : decode cX7_name 27 = .ok (.if_icmp .lt 6, 3) := by decide +kernel
theorem dX7_name_30 : decode cX7_name 30 = .ok (.bipush (-5), 2) := by decide +kernel
theorem dX7_name_32 : decode cX7_name 32 = .ok (.ireturn, 1) := by decide +kernel
theorem dX7_name_33 : decode cX7_name 33 = .ok (.aload_n 0, 1) := by decide +kernel
theorem dX7_name_34 : decode cX7_name 34 = .ok (.invokevirtual 80, 3) := by decide +kernel
theorem dX7_name_37 : decode cX7_name 37 = .ok (.aload_n 0, 1) := by decide +kernel
theorem dX7_name_38 : decode cX7_name 38 = .ok (.getfield 10, 3) := by decide +kernel
theorem dX7_name_41 : decode cX7_name 41 = .ok (.iload_n 1, 1) := by decide +kernel
theorem dX7_name_42 : decode cX7_name 42 = .ok (.iload_n 2, 1) := by decide +kernel
theorem dX7_name_43 : decode cX7_name 43 = .ok (.iload_n 3, 1) := by decide +kernel
theorem dX7_name_44 : decode cX7_name 44 = .ok (.invokevirtual 83, 3) := by decide +kernel
theorem dX7_name_47 : decode cX7_name 47 = .ok (.ireturn, 1) := by decide +kernel
theorem dX7_dot_0 : decode cX7_dot 0 = .ok (.iload_n 1, 1) := by decide +kernel
theorem dX7_dot_1 : decode cX7_dot 1 = .ok (.iload_n 2, 1) := by decide +kernel
theorem dX7_dot_2 : decode cX7_dot 2 = .ok (.invokestatic 72, 3) := by decide +kernel
theorem dX7_dot_5 : decode cX7_dot 5 = .ok (.ifCond .ne 6, 3) := by decide +kernel
theorem dX7_dot_8 : decode cX7_dot 8 = .ok (.bipush (-3), 2) := by decide +kernel
theorem dX7_dot_10 : decode cX7_dot 10 = .ok (.ireturn, 1) := by decide +kernel
theorem dX7_dot_11 : decode cX7_dot 11 = .ok (.aload_n 0, 1) := by decide +kernel
theorem dX7_dot_12 : decode cX7_dot 12 = .ok (.getfield 10, 3) := by decide +kernel
theorem dX7_dot_15 : decode cX7_dot 15 = .ok (.getfield 87, 3) := by decide +kernel
theorem dX7_dot_18 : decode cX7_dot 18 = .ok (.bipush 20, 2) := by decide +kernel
theorem dX7_dot_20 : decode cX7_dot 20 = .ok (.if_icmp .lt 6, 3) := by decide +kernel
theorem dX7_dot_23 : decode cX7_dot 23 = .ok (.bipush (-5), 2) := by decide +kernel
theorem dX7_dot_25 : decode cX7_dot 25 = .ok (.ireturn, 1) := by decide +kernel
theorem dX7_dot_26 : decode cX7_dot 26 = .ok (.aload_n 0, 1) := by decide +kernel
theorem dX7_dot_27 : decode cX7_dot 27 = .ok (.invokevirtual 80, 3) := by decide +kernel
theorem dX7_dot_30 : decode cX7_dot 30 = .ok (.aload_n 0, 1) := by decide +kernel
theorem dX7_dot_31 : decode cX7_dot 31 = .ok (.getfield 10, 3) := by decide +kernel
theorem dX7_dot_34 : decode cX7_dot 34 = .ok (.iload_n 1, 1) := by decide +kernel
theorem dX7_dot_35 : decode cX7_dot 35 = .ok (.iload_n 2, 1) := by decide +kernel
theorem dX7_dot_36 : decode cX7_dot 36 = .ok (.invokevirtual 90, 3) := by decide +kernel
theorem dX7_dot_39 : decode cX7_dot 39 = .ok (.ireturn, 1) := by decide +kernel
theorem dX7_move_0 : decode cX7_move 0 = .ok (.aload_n 0, 1) := by decide +kernel
theorem dX7_move_1 : decode cX7_move 1 = .ok (.getfield 10, 3) := by decide +kernel
theorem dX7_move_4 : decode cX7_move 4 = .ok (.iload_n 1, 1) := by decide +kernel
theorem dX7_move_5 : decode cX7_move 5 = .ok (.invokevirtual 94, 3) := by decide +kernel
theorem dX7_move_8 : decode cX7_move 8 = .ok (.ifCond .eq 11, 3) := by decide +kernel
theorem dX7_move_11 : decode cX7_move 11 = .ok (.iload_n 2, 1) := by decide +kernel
theorem dX7_move_12 : decode cX7_move 12 = .ok (.iload_n 3, 1) := by decide +kernel
theorem dX7_move_13 : decode cX7_move 13 = .ok (.invokestatic 72, 3) := by decide +kernel
theorem dX7_move_16 : decode cX7_move 16 = .ok (.ifCond .ne 6, 3) := by decide +kernel
theorem dX7_move_19 : decode cX7_move 19 = .ok (.bipush (-3), 2) := by decide +kernel
theorem dX7_move_21 : decode cX7_move 21 = .ok (.ireturn, 1) := by decide +kernel
theorem dX7_move_22 : decode cX7_move 22 = .ok (.aload_n 0, 1) := by decide +kernel
theorem dX7_move_23 : decode cX7_move 23 = .ok (.invokevirtual 80, 3) := by decide +kernel
theorem dX7_move_26 : decode cX7_move 26 = .ok (.aload_n 0, 1) := by decide +kernel
theorem dX7_move_27 : decode cX7_move 27 = .ok (.getfield 10, 3) := by decide +kernel
theorem dX7_move_30 : decode cX7_move 30 = .ok (.getfield 97, 3) := by decide +kernel
theorem dX7_move_33 : decode cX7_move 33 = .ok (.iload_n 1, 1) := by decide +kernel
theorem dX7_move_34 : decode cX7_move 34 = .ok (.iload_n 2, 1) := by decide +kernel
theorem dX7_move_35 : decode cX7_move 35 = .ok (.iastore, 1) := by decide +kernel
theorem dX7_move_36 : decode cX7_move 36 = .ok (.aload_n 0, 1) := by decide +kernel
theorem dX7_move_37 : decode cX7_move 37 = .ok (.getfield 10, 3) := by decide +kernel
theorem dX7_move_40 : decode cX7_move 40 = .ok (.getfield 100, 3) := by decide +kernel
theorem dX7_move_43 : decode cX7_move 43 = .ok (.iload_n 1, 1) := by decide +kernel
theorem dX7_move_44 : decode cX7_move 44 = .ok (.iload_n 3, 1) := by decide +kernel
theorem dX7_move_45 : decode cX7_move 45 = .ok (.iastore, 1) := by decide +kernel
theorem dX7_move_46 : decode cX7_move 46 = .ok (.iconst 0, 1) := by decide +kernel
theorem dX7_move_47 : decode cX7_move 47 = .ok (.ireturn, 1) := by decide +kernel
theorem dX7_weigh_0 : decode cX7_weigh 0 = .ok (.aload_n 0, 1) := by decide +kernel
theorem dX7_weigh_1 : decode cX7_weigh 1 = .ok (.getfield 10, 3) := by decide +kernel
theorem dX7_weigh_4 : decode cX7_weigh 4 = .ok (.iload_n 1, 1) := by decide +kernel
theorem dX7_weigh_5 : decode cX7_weigh 5 = .ok (.invokevirtual 94, 3) := by decide +kernel
theorem dX7_weigh_8 : decode cX7_weigh 8 = .ok (.ifCond .eq 14, 3) := by decide +kernel
theorem dX7_weigh_11 : decode cX7_weigh 11 = .ok (.iload_n 2, 1) := by decide +kernel
theorem dX7_weigh_12 : decode cX7_weigh 12 = .ok (.iconst 1, 1) := by decide +kernel
theorem dX7_weigh_13 : decode cX7_weigh 13 = .ok (.sipush 1000, 3) := by decide +kernel
theorem dX7_weigh_16 : decode cX7_weigh 16 = .ok (.invokestatic 103, 3) := by decide +kernel
theorem dX7_weigh_19 : decode cX7_weigh 19 = .ok (.ifCond .ne 6, 3) := by decide +kernel
theorem dX7_weigh_22 : decode cX7_weigh 22 = .ok (.bipush (-3), 2) := by decide +kernel
theorem dX7_weigh_24 : decode cX7_weigh 24 = .ok (.ireturn, 1) := by decide +kernel
theorem dX7_weigh_25 : decode cX7_weigh 25 = .ok (.aload_n 0, 1) := by decide +kernel
theorem dX7_weigh_26 : decode cX7_weigh 26 = .ok (.invokevirtual 80, 3) := by decide +kernel
theorem dX7_weigh_29 : decode cX7_weigh 29 = .ok (.aload_n 0, 1) := by decide +kernel
theorem dX7_weigh_30 : decode cX7_weigh 30 = .ok (.getfield 10, 3) := by decide +kernel
theorem dX7_weigh_33 : decode cX7_weigh 33 = .ok (.getfield 107, 3) := by decide +kernel
theorem dX7_weigh_36 : decode cX7_weigh 36 = .ok (.iload_n 1, 1) := by decide +kernel
theorem dX7_weigh_37 : decode cX7_weigh 37 = .ok (.iaload, 1) := by decide +kernel
theorem dX7_weigh_38 : decode cX7_weigh 38 = .ok (.istore_n 3, 1) := by decide +kernel
theorem dX7_weigh_39 : decode cX7_weigh 39 = .ok (.aload_n 0, 1) := by decide +kernel
theorem dX7_weigh_40 : decode cX7_weigh 40 = .ok (.getfield 10, 3) := by decide +kernel
theorem dX7_weigh_43 : decode cX7_weigh 43 = .ok (.getfield 107, 3) := by decide +kernel
theorem dX7_weigh_46 : decode cX7_weigh 46 = .ok (.iload_n 1, 1) := by decide +kernel
theorem dX7_weigh_47 : decode cX7_weigh 47 = .ok (.iload_n 2, 1) := by decide +kernel
theorem dX7_weigh_48 : decode cX7_weigh 48 = .ok (.iastore, 1) := by decide +kernel
theorem dX7_weigh_49 : decode cX7_weigh 49 = .ok (.iload_n 3, 1) := by decide +kernel
theorem dX7_weigh_50 : decode cX7_weigh 50 = .ok (.ireturn, 1) := by decide +kernel
theorem dX7_size_0 : decode cX7_size 0 = .ok (.aload_n 0, 1) := by decide +kernel
theorem dX7_size_1 : decode cX7_size 1 = .ok (.getfield 10, 3) := by decide +kernel
theorem dX7_size_4 : decode cX7_size 4 = .ok (.iload_n 1, 1) := by decide +kernel
theorem dX7_size_5 : decode cX7_size 5 = .ok (.invokevirtual 94, 3) := by decide +kernel
theorem dX7_size_8 : decode cX7_size 8 = .ok (.ifCond .eq 24, 3) := by decide +kernel
theorem dX7_size_11 : decode cX7_size 11 = .ok (.iload_n 2, 1) := by decide +kernel
theorem dX7_size_12 : decode cX7_size 12 = .ok (.iconst 1, 1) := by decide +kernel
theorem dX7_size_13 : decode cX7_size 13 = .ok (.sipush 300, 3) := by decide +kernel
theorem dX7_size_16 : decode cX7_size 16 = .ok (.invokestatic 103, 3) := by decide +kernel
theorem dX7_size_19 : decode cX7_size 19 = .ok (.ifCond .eq 13, 3) := by decide +kernel
theorem dX7_size_22 : decode cX7_size 22 = .ok (.iload_n 3, 1) := by decide +kernel
theorem dX7_size_23 : decode cX7_size 23 = .ok (.iconst 1, 1) := by decide +kernel
theorem dX7_size_24 : decode cX7_size 24 = .ok (.bipush 80, 2) := by decide +kernel
theorem dX7_size_26 : decode cX7_size 26 = .ok (.invokestatic 103, 3) := by decide +kernel
theorem dX7_size_29 : decode cX7_size 29 = .ok (.ifCond .ne 6, 3) := by decide +kernel
theorem dX7_size_32 : decode cX7_size 32 = .ok (.bipush (-3), 2) := by decide +kernel
theorem dX7_size_34 : decode cX7_size 34 = .ok (.ireturn, 1) := by decide +kernel
theorem dX7_size_35 : decode cX7_size 35 = .ok (.aload_n 0, 1) := by decide +kernel
theorem dX7_size_36 : decode cX7_size 36 = .ok (.invokevirtual 80, 3) := by decide +kernel
theorem dX7_size_39 : decode cX7_size 39 = .ok (.aload_n 0, 1) := by decide +kernel
theorem dX7_size_40 : decode cX7_size 40 = .ok (.getfield 10, 3) := by decide +kernel
theorem dX7_size_43 : decode cX7_size 43 = .ok (.getfield 110, 3) := by decide +kernel
theorem dX7_size_46 : decode cX7_size 46 = .ok (.iload_n 1, 1) := by decide +kernel
theorem dX7_size_47 : decode cX7_size 47 = .ok (.iload_n 2, 1) := by decide +kernel
theorem dX7_size_48 : decode cX7_size 48 = .ok (.iastore, 1) := by decide +kernel
theorem dX7_size_49 : decode cX7_size 49 = .ok (.aload_n 0, 1) := by decide +kernel
theorem dX7_size_50 : decode cX7_size 50 = .ok (.getfield 10, 3) := by decide +kernel
theorem dX7_size_53 : decode cX7_size 53 = .ok (.getfield 113, 3) := by decide +kernel
theorem dX7_size_56 : decode cX7_size 56 = .ok (.iload_n 1, 1) := by decide +kernel
theorem dX7_size_57 : decode cX7_size 57 = .ok (.iload_n 3, 1) := by decide +kernel
theorem dX7_size_58 : decode cX7_size 58 = .ok (.iastore, 1) := by decide +kernel
theorem dX7_size_59 : decode cX7_size 59 = .ok (.iconst 0, 1) := by decide +kernel
theorem dX7_size_60 : decode cX7_size 60 = .ok (.ireturn, 1) := by decide +kernel
theorem dX7_about_0 : decode cX7_about 0 = .ok (.aload_n 0, 1) := by decide +kernel
theorem dX7_about_1 : decode cX7_about 1 = .ok (.getfield 10, 3) := by decide +kernel
theorem dX7_about_4 : decode cX7_about 4 = .ok (.iload_n 1, 1) := by decide +kernel
theorem dX7_about_5 : decode cX7_about 5 = .ok (.invokevirtual 94, 3) := by decide +kernel
theorem dX7_about_8 : decode cX7_about 8 = .ok (.ifCond .ne 6, 3) := by decide +kernel
theorem dX7_about_11 : decode cX7_about 11 = .ok (.bipush (-3), 2) := by decide +kernel
theorem dX7_about_13 : decode cX7_about 13 = .ok (.ireturn, 1) := by decide +kernel
theorem dX7_about_14 : decode cX7_about 14 = .ok (.iload_n 2, 1) := by decide +kernel
theorem dX7_about_15 : decode cX7_about 15 = .ok (.tableswitch 130 0 8 #[49, 59, 69, 79, 89, 99, 109, 118, 124], 49) := by decide +kernel
theorem dX7_about_64 : decode cX7_about 64 = .ok (.aload_n 0, 1) := by decide +kernel
theorem dX7_about_65 : decode cX7_about 65 = .ok (.getfield 10, 3) := by decide +kernel
theorem dX7_about_68 : decode cX7_about 68 = .ok (.getfield 116, 3) := by decide +kernel
theorem dX7_about_71 : decode cX7_about 71 = .ok (.iload_n 1, 1) := by decide +kernel
theorem dX7_about_72 : decode cX7_about 72 = .ok (.iaload, 1) := by decide +kernel
theorem dX7_about_73 : decode cX7_about 73 = .ok (.ireturn, 1) := by decide +kernel
theorem dX7_about_74 : decode cX7_about 74 = .ok (.aload_n 0, 1) := by decide +kernel
theorem dX7_about_75 : decode cX7_about 75 = .ok (.getfield 10, 3) := by decide +kernel
theorem dX7_about_78 : decode cX7_about 78 = .ok (.getfield 97, 3) := by decide +kernel
theorem dX7_about_81 : decode cX7_about 81 = .ok (.iload_n 1, 1) := by decide +kernel
theorem dX7_about_82 : decode cX7_about 82 = .ok (.iaload, 1) := by decide +kernel
theorem dX7_about_83 : decode cX7_about 83 = .ok (.ireturn, 1) := by decide +kernel
theorem dX7_about_84 : decode cX7_about 84 = .ok (.aload_n 0, 1) := by decide +kernel
theorem dX7_about_85 : decode cX7_about 85 = .ok (.getfield 10, 3) := by decide +kernel
theorem dX7_about_88 : decode cX7_about 88 = .ok (.getfield 100, 3) := by decide +kernel
theorem dX7_about_91 : decode cX7_about 91 = .ok (.iload_n 1, 1) := by decide +kernel
theorem dX7_about_92 : decode cX7_about 92 = .ok (.iaload, 1) := by decide +kernel
theorem dX7_about_93 : decode cX7_about 93 = .ok (.ireturn, 1) := by decide +kernel
theorem dX7_about_94 : decode cX7_about 94 = .ok (.aload_n 0, 1) := by decide +kernel
theorem dX7_about_95 : decode cX7_about 95 = .ok (.getfield 10, 3) := by decide +kernel
theorem dX7_about_98 : decode cX7_about 98 = .ok (.getfield 110, 3) := by decide +kernel
theorem dX7_about_101 : decode cX7_about 101 = .ok (.iload_n 1, 1) := by decide +kernel
theorem dX7_about_102 : decode cX7_about 102 = .ok (.iaload, 1) := by decide +kernel
theorem dX7_about_103 : decode cX7_about 103 = .ok (.ireturn, 1) := by decide +kernel
theorem dX7_about_104 : decode cX7_about 104 = .ok (.aload_n 0, 1) := by decide +kernel
theorem dX7_about_105 : decode cX7_about 105 = .ok (.getfield 10, 3) := by decide +kernel
theorem dX7_about_108 : decode cX7_about 108 = .ok (.getfield 113, 3) := by decide +kernel
theorem dX7_about_111 : decode cX7_about 111 = .ok (.iload_n 1, 1) := by decide +kernel
theorem dX7_about_112 : decode cX7_about 112 = .ok (.iaload, 1) := by decide +kernel
theorem dX7_about_113 : decode cX7_about 113 = .ok (.ireturn, 1) := by decide +kernel
theorem dX7_about_114 : decode cX7_about 114 = .ok (.aload_n 0, 1) := by decide +kernel
theorem dX7_about_115 : decode cX7_about 115 = .ok (.getfield 10, 3) := by decide +kernel
theorem dX7_about_118 : decode cX7_about 118 = .ok (.getfield 107, 3) := by decide +kernel
theorem dX7_about_121 : decode cX7_about 121 = .ok (.iload_n 1, 1) := by decide +kernel
theorem dX7_about_122 : decode cX7_about 122 = .ok (.iaload, 1) := by decide +kernel
theorem dX7_about_123 : decode cX7_about 123 = .ok (.ireturn, 1) := by decide +kernel
theorem dX7_about_124 : decode cX7_about 124 = .ok (.aload_n 0, 1) := by decide +kernel
theorem dX7_about_125 : decode cX7_about 125 = .ok (.getfield 10, 3) := by decide +kernel
theorem dX7_about_128 : decode cX7_about 128 = .ok (.iload_n 1, 1) := by decide +kernel
theorem dX7_about_129 : decode cX7_about 129 = .ok (.invokevirtual 119, 3) := by decide +kernel
theorem dX7_about_132 : decode cX7_about 132 = .ok (.ireturn, 1) := by decide +kernel
theorem dX7_about_133 : decode cX7_about 133 = .ok (.aload_n 0, 1) := by decide +kernel
theorem dX7_about_134 : decode cX7_about 134 = .ok (.iload_n 1, 1) := by decide +kernel
theorem dX7_about_135 : decode cX7_about 135 = .ok (.invokevirtual 123, 3) := by decide +kernel
theorem dX7_about_138 : decode cX7_about 138 = .ok (.ireturn, 1) := by decide +kernel
theorem dX7_about_139 : decode cX7_about 139 = .ok (.aload_n 0, 1) := by decide +kernel
theorem dX7_about_140 : decode cX7_about 140 = .ok (.iload_n 1, 1) := by decide +kernel
theorem dX7_about_141 : decode cX7_about 141 = .ok (.invokevirtual 126, 3) := by decide +kernel
theorem dX7_about_144 : decode cX7_about 144 = .ok (.ireturn, 1) := by decide +kernel
theorem dX7_about_145 : decode cX7_about 145 = .ok (.bipush (-3), 2) := by decide +kernel
theorem dX7_about_147 : decode cX7_about 147 = .ok (.ireturn, 1) := by decide +kernel
theorem dX7_isOf_0 : decode cX7_isOf 0 = .ok (.aload_n 0, 1) := by decide +kernel
theorem dX7_isOf_1 : decode cX7_isOf 1 = .ok (.getfield 10, 3) := by decide +kernel
theorem dX7_isOf_4 : decode cX7_isOf 4 = .ok (.iload_n 1, 1) := by decide +kernel
theorem dX7_isOf_5 : decode cX7_isOf 5 = .ok (.invokevirtual 94, 3) := by decide +kernel
theorem dX7_isOf_8 : decode cX7_isOf 8 = .ok (.ifCond .eq 25, 3) := by decide +kernel
theorem dX7_isOf_11 : decode cX7_isOf 11 = .ok (.iload_n 2, 1) := by decide +kernel
theorem dX7_isOf_12 : decode cX7_isOf 12 = .ok (.invokestatic 68, 3) := by decide +kernel
theorem dX7_isOf_15 : decode cX7_isOf 15 = .ok (.ifCond .eq 18, 3) := by decide +kernel
theorem dX7_isOf_18 : decode cX7_isOf 18 = .ok (.aload_n 0, 1) := by decide +kernel
theorem dX7_isOf_19 : decode cX7_isOf 19 = .ok (.getfield 10, 3) := by decide +kernel
theorem dX7_isOf_22 : decode cX7_isOf 22 = .ok (.iload_n 1, 1) := by decide +kernel
theorem dX7_isOf_23 : decode cX7_isOf 23 = .ok (.iload_n 2, 1) := by decide +kernel
theorem dX7_isOf_24 : decode cX7_isOf 24 = .ok (.invokevirtual 129, 3) := by decide +kernel
theorem dX7_isOf_27 : decode cX7_isOf 27 = .ok (.invokestatic 132, 3) := by decide +kernel
theorem dX7_isOf_30 : decode cX7_isOf 30 = .ok (.goto 5, 3) := by decide +kernel
theorem dX7_isOf_33 : decode cX7_isOf 33 = .ok (.bipush (-3), 2) := by decide +kernel
theorem dX7_isOf_35 : decode cX7_isOf 35 = .ok (.ireturn, 1) := by decide +kernel
theorem dX7_way_0 : decode cX7_way 0 = .ok (.aload_n 0, 1) := by decide +kernel
theorem dX7_way_1 : decode cX7_way 1 = .ok (.getfield 10, 3) := by decide +kernel
theorem dX7_way_4 : decode cX7_way 4 = .ok (.iload_n 1, 1) := by decide +kernel
theorem dX7_way_5 : decode cX7_way 5 = .ok (.iload_n 2, 1) := by decide +kernel
theorem dX7_way_6 : decode cX7_way 6 = .ok (.invokevirtual 136, 3) := by decide +kernel
theorem dX7_way_9 : decode cX7_way 9 = .ok (.ifCond .eq 10, 3) := by decide +kernel
theorem dX7_way_12 : decode cX7_way 12 = .ok (.iload_n 3, 1) := by decide +kernel
theorem dX7_way_13 : decode cX7_way 13 = .ok (.invokestatic 139, 3) := by decide +kernel
theorem dX7_way_16 : decode cX7_way 16 = .ok (.ifCond .ne 6, 3) := by decide +kernel
theorem dX7_way_19 : decode cX7_way 19 = .ok (.bipush (-3), 2) := by decide +kernel
theorem dX7_way_21 : decode cX7_way 21 = .ok (.ireturn, 1) := by decide +kernel
theorem dX7_way_22 : decode cX7_way 22 = .ok (.aload_n 0, 1) := by decide +kernel
theorem dX7_way_23 : decode cX7_way 23 = .ok (.getfield 54, 3) := by decide +kernel
theorem dX7_way_26 : decode cX7_way 26 = .ok (.aload_n 0, 1) := by decide +kernel
theorem dX7_way_27 : decode cX7_way 27 = .ok (.getfield 10, 3) := by decide +kernel
theorem dX7_way_30 : decode cX7_way 30 = .ok (.iload_n 1, 1) := by decide +kernel
theorem dX7_way_31 : decode cX7_way 31 = .ok (.iload_n 2, 1) := by decide +kernel
theorem dX7_way_32 : decode cX7_way 32 = .ok (.iload_n 3, 1) := by decide +kernel
theorem dX7_way_33 : decode cX7_way 33 = .ok (.invokevirtual 142, 3) := by decide +kernel
theorem dX7_way_36 : decode cX7_way 36 = .ok (.iload 4, 2) := by decide +kernel
theorem dX7_way_38 : decode cX7_way 38 = .ok (.tableswitch 112 0 5 #[38, 46, 54, 70, 86, 96], 38) := by decide +kernel
theorem dX7_way_76 : decode cX7_way 76 = .ok (.aload_n 0, 1) := by decide +kernel
theorem dX7_way_77 : decode cX7_way 77 = .ok (.getfield 54, 3) := by decide +kernel
theorem dX7_way_80 : decode cX7_way 80 = .ok (.getfield 146, 3) := by decide +kernel
theorem dX7_way_83 : decode cX7_way 83 = .ok (.ireturn, 1) := by decide +kernel
theorem dX7_way_84 : decode cX7_way 84 = .ok (.aload_n 0, 1) := by decide +kernel
theorem dX7_way_85 : decode cX7_way 85 = .ok (.getfield 54, 3) := by decide +kernel
theorem dX7_way_88 : decode cX7_way 88 = .ok (.getfield 149, 3) := by decide +kernel
theorem dX7_way_91 : decode cX7_way 91 = .ok (.ireturn, 1) := by decide +kernel
theorem dX7_way_92 : decode cX7_way 92 = .ok (.aload_n 0, 1) := by decide +kernel
theorem dX7_way_93 : decode cX7_way 93 = .ok (.getfield 54, 3) := by decide +kernel
theorem dX7_way_96 : decode cX7_way 96 = .ok (.getfield 152, 3) := by decide +kernel
theorem dX7_way_99 : decode cX7_way 99 = .ok (.aload_n 0, 1) := by decide +kernel
theorem dX7_way_100 : decode cX7_way 100 = .ok (.getfield 54, 3) := by decide +kernel
theorem dX7_way_103 : decode cX7_way 103 = .ok (.getfield 146, 3) := by decide +kernel
theorem dX7_way_106 : decode cX7_way 106 = .ok (.isub, 1) := by decide +kernel
theorem dX7_way_107 : decode cX7_way 107 = .ok (.ireturn, 1) := by decide +kernel
theorem dX7_way_108 : decode cX7_way 108 = .ok (.aload_n 0, 1) := by decide +kernel
theorem dX7_way_109 : decode cX7_way 109 = .ok (.getfield 54, 3) := by decide +kernel
theorem dX7_way_112 : decode cX7_way 112 = .ok (.getfield 155, 3) := by decide +kernel
theorem dX7_way_115 : decode cX7_way 115 = .ok (.aload_n 0, 1) := by decide +kernel
theorem dX7_way_116 : decode cX7_way 116 = .ok (.getfield 54, 3) := by decide +kernel
theorem dX7_way_119 : decode cX7_way 119 = .ok (.getfield 149, 3) := by decide +kernel
theorem dX7_way_122 : decode cX7_way 122 = .ok (.isub, 1) := by decide +kernel
theorem dX7_way_123 : decode cX7_way 123 = .ok (.ireturn, 1) := by decide +kernel
theorem dX7_way_124 : decode cX7_way 124 = .ok (.aload_n 0, 1) := by decide +kernel
theorem dX7_way_125 : decode cX7_way 125 = .ok (.getfield 10, 3) := by decide +kernel
theorem dX7_way_128 : decode cX7_way 128 = .ok (.iload_n 1, 1) := by decide +kernel
theorem dX7_way_129 : decode cX7_way 129 = .ok (.iload_n 2, 1) := by decide +kernel
theorem dX7_way_130 : decode cX7_way 130 = .ok (.invokevirtual 158, 3) := by decide +kernel
theorem dX7_way_133 : decode cX7_way 133 = .ok (.ireturn, 1) := by decide +kernel
theorem dX7_way_134 : decode cX7_way 134 = .ok (.aload_n 0, 1) := by decide +kernel
theorem dX7_way_135 : decode cX7_way 135 = .ok (.getfield 54, 3) := by decide +kernel
theorem dX7_way_138 : decode cX7_way 138 = .ok (.aload_n 0, 1) := by decide +kernel
theorem dX7_way_139 : decode cX7_way 139 = .ok (.getfield 10, 3) := by decide +kernel
theorem dX7_way_142 : decode cX7_way 142 = .ok (.iload_n 3, 1) := by decide +kernel
theorem dX7_way_143 : decode cX7_way 143 = .ok (.invokevirtual 161, 3) := by decide +kernel
theorem dX7_way_146 : decode cX7_way 146 = .ok (.invokestatic 132, 3) := by decide +kernel
theorem dX7_way_149 : decode cX7_way 149 = .ok (.ireturn, 1) := by decide +kernel
theorem dX7_way_150 : decode cX7_way 150 = .ok (.bipush (-3), 2) := by decide +kernel
theorem dX7_way_152 : decode cX7_way 152 = .ok (.ireturn, 1) := by decide +kernel
theorem dX7_clash_0 : decode cX7_clash 0 = .ok (.aload_n 0, 1) := by decide +kernel
theorem dX7_clash_1 : decode cX7_clash 1 = .ok (.getfield 10, 3) := by decide +kernel
theorem dX7_clash_4 : decode cX7_clash 4 = .ok (.iload_n 1, 1) := by decide +kernel
theorem dX7_clash_5 : decode cX7_clash 5 = .ok (.iload_n 2, 1) := by decide +kernel
theorem dX7_clash_6 : decode cX7_clash 6 = .ok (.invokevirtual 136, 3) := by decide +kernel
theorem dX7_clash_9 : decode cX7_clash 9 = .ok (.ifCond .eq 29, 3) := by decide +kernel
theorem dX7_clash_12 : decode cX7_clash 12 = .ok (.aload_n 0, 1) := by decide +kernel
theorem dX7_clash_13 : decode cX7_clash 13 = .ok (.getfield 10, 3) := by decide +kernel
theorem dX7_clash_16 : decode cX7_clash 16 = .ok (.iload_n 3, 1) := by decide +kernel
theorem dX7_clash_17 : decode cX7_clash 17 = .ok (.iload 4, 2) := by decide +kernel
theorem dX7_clash_19 : decode cX7_clash 19 = .ok (.invokevirtual 136, 3) := by decide +kernel
theorem dX7_clash_22 : decode cX7_clash 22 = .ok (.ifCond .eq 16, 3) := by decide +kernel
theorem dX7_clash_25 : decode cX7_clash 25 = .ok (.iload_n 1, 1) := by decide +kernel
theorem dX7_clash_26 : decode cX7_clash 26 = .ok (.iload_n 3, 1) := by decide +kernel
theorem dX7_clash_27 : decode cX7_clash 27 = .ok (.if_icmp .eq 11, 3) := by decide +kernel
theorem dX7_clash_30 : decode cX7_clash 30 = .ok (.iload 5, 2) := by decide +kernel
theorem dX7_clash_32 : decode cX7_clash 32 = .ok (.invokestatic 139, 3) := by decide +kernel
theorem dX7_clash_35 : decode cX7_clash 35 = .ok (.ifCond .ne 6, 3) := by decide +kernel
theorem dX7_clash_38 : decode cX7_clash 38 = .ok (.bipush (-3), 2) := by decide +kernel
theorem dX7_clash_40 : decode cX7_clash 40 = .ok (.ireturn, 1) := by decide +kernel
theorem dX7_clash_41 : decode cX7_clash 41 = .ok (.aload_n 0, 1) := by decide +kernel
theorem dX7_clash_42 : decode cX7_clash 42 = .ok (.getfield 54, 3) := by decide +kernel
theorem dX7_clash_45 : decode cX7_clash 45 = .ok (.aload_n 0, 1) := by decide +kernel
theorem dX7_clash_46 : decode cX7_clash 46 = .ok (.getfield 10, 3) := by decide +kernel
theorem dX7_clash_49 : decode cX7_clash 49 = .ok (.iload_n 1, 1) := by decide +kernel
theorem dX7_clash_50 : decode cX7_clash 50 = .ok (.iload_n 2, 1) := by decide +kernel
theorem dX7_clash_51 : decode cX7_clash 51 = .ok (.iload 5, 2) := by decide +kernel
theorem dX7_clash_53 : decode cX7_clash 53 = .ok (.invokevirtual 142, 3) := by decide +kernel
theorem dX7_clash_56 : decode cX7_clash 56 = .ok (.aload_n 0, 1) := by decide +kernel
theorem dX7_clash_57 : decode cX7_clash 57 = .ok (.getfield 58, 3) := by decide +kernel
theorem dX7_clash_60 : decode cX7_clash 60 = .ok (.aload_n 0, 1) := by decide +kernel
theorem dX7_clash_61 : decode cX7_clash 61 = .ok (.getfield 10, 3) := by decide +kernel
theorem dX7_clash_64 : decode cX7_clash 64 = .ok (.iload_n 3, 1) := by decide +kernel
theorem dX7_clash_65 : decode cX7_clash 65 = .ok (.iload 4, 2) := by decide +kernel
theorem dX7_clash_67 : decode cX7_clash 67 = .ok (.iload 5, 2) := by decide +kernel
theorem dX7_clash_69 : decode cX7_clash 69 = .ok (.invokevirtual 142, 3) := by decide +kernel
theorem dX7_clash_72 : decode cX7_clash 72 = .ok (.aload_n 0, 1) := by decide +kernel
theorem dX7_clash_73 : decode cX7_clash 73 = .ok (.getfield 54, 3) := by decide +kernel
theorem dX7_clash_76 : decode cX7_clash 76 = .ok (.aload_n 0, 1) := by decide +kernel
theorem dX7_clash_77 : decode cX7_clash 77 = .ok (.getfield 58, 3) := by decide +kernel
theorem dX7_clash_80 : decode cX7_clash 80 = .ok (.invokevirtual 165, 3) := by decide +kernel
theorem dX7_clash_83 : decode cX7_clash 83 = .ok (.invokestatic 132, 3) := by decide +kernel
theorem dX7_clash_86 : decode cX7_clash 86 = .ok (.ireturn, 1) := by decide +kernel
theorem dX7_clashes_0 : decode cX7_clashes 0 = .ok (.aload_n 0, 1) := by decide +kernel
theorem dX7_clashes_1 : decode cX7_clashes 1 = .ok (.getfield 10, 3) := by decide +kernel
theorem dX7_clashes_4 : decode cX7_clashes 4 = .ok (.iload_n 1, 1) := by decide +kernel
theorem dX7_clashes_5 : decode cX7_clashes 5 = .ok (.iload_n 2, 1) := by decide +kernel
theorem dX7_clashes_6 : decode cX7_clashes 6 = .ok (.invokevirtual 136, 3) := by decide +kernel
theorem dX7_clashes_9 : decode cX7_clashes 9 = .ok (.ifCond .ne 6, 3) := by decide +kernel
theorem dX7_clashes_12 : decode cX7_clashes 12 = .ok (.bipush (-3), 2) := by decide +kernel
theorem dX7_clashes_14 : decode cX7_clashes 14 = .ok (.ireturn, 1) := by decide +kernel
theorem dX7_clashes_15 : decode cX7_clashes 15 = .ok (.aload_n 0, 1) := by decide +kernel
theorem dX7_clashes_16 : decode cX7_clashes 16 = .ok (.invokevirtual 169, 3) := by decide +kernel
theorem dX7_clashes_19 : decode cX7_clashes 19 = .ok (.iconst 0, 1) := by decide +kernel
theorem dX7_clashes_20 : decode cX7_clashes 20 = .ok (.istore_n 3, 1) := by decide +kernel
theorem dX7_clashes_21 : decode cX7_clashes 21 = .ok (.iconst 0, 1) := by decide +kernel
theorem dX7_clashes_22 : decode cX7_clashes 22 = .ok (.istore 4, 2) := by decide +kernel
theorem dX7_clashes_24 : decode cX7_clashes 24 = .ok (.iload 4, 2) := by decide +kernel
theorem dX7_clashes_26 : decode cX7_clashes 26 = .ok (.aload_n 0, 1) := by decide +kernel
theorem dX7_clashes_27 : decode cX7_clashes 27 = .ok (.getfield 10, 3) := by decide +kernel
theorem dX7_clashes_30 : decode cX7_clashes 30 = .ok (.getfield 76, 3) := by decide +kernel
theorem dX7_clashes_33 : decode cX7_clashes 33 = .ok (.if_icmp .ge 32, 3) := by decide +kernel
theorem dX7_clashes_36 : decode cX7_clashes 36 = .ok (.iload 4, 2) := by decide +kernel
theorem dX7_clashes_38 : decode cX7_clashes 38 = .ok (.iload_n 1, 1) := by decide +kernel
theorem dX7_clashes_39 : decode cX7_clashes 39 = .ok (.if_icmp .eq 20, 3) := by decide +kernel
theorem dX7_clashes_42 : decode cX7_clashes 42 = .ok (.iload_n 3, 1) := by decide +kernel
theorem dX7_clashes_43 : decode cX7_clashes 43 = .ok (.aload_n 0, 1) := by decide +kernel
theorem dX7_clashes_44 : decode cX7_clashes 44 = .ok (.getfield 26, 3) := by decide +kernel
theorem dX7_clashes_47 : decode cX7_clashes 47 = .ok (.iload_n 1, 1) := by decide +kernel
theorem dX7_clashes_48 : decode cX7_clashes 48 = .ok (.iload_n 2, 1) := by decide +kernel
theorem dX7_clashes_49 : decode cX7_clashes 49 = .ok (.iload 4, 2) := by decide +kernel
theorem dX7_clashes_51 : decode cX7_clashes 51 = .ok (.invokevirtual 172, 3) := by decide +kernel
theorem dX7_clashes_54 : decode cX7_clashes 54 = .ok (.invokestatic 175, 3) := by decide +kernel
theorem dX7_clashes_57 : decode cX7_clashes 57 = .ok (.iadd, 1) := by decide +kernel
theorem dX7_clashes_58 : decode cX7_clashes 58 = .ok (.istore_n 3, 1) := by decide +kernel
theorem dX7_clashes_59 : decode cX7_clashes 59 = .ok (.iinc 4 1, 3) := by decide +kernel
theorem dX7_clashes_62 : decode cX7_clashes 62 = .ok (.goto (-38), 3) := by decide +kernel
theorem dX7_clashes_65 : decode cX7_clashes 65 = .ok (.iload_n 3, 1) := by decide +kernel
theorem dX7_clashes_66 : decode cX7_clashes 66 = .ok (.ireturn, 1) := by decide +kernel
theorem dX7_parts_0 : decode cX7_parts 0 = .ok (.aload_n 0, 1) := by decide +kernel
theorem dX7_parts_1 : decode cX7_parts 1 = .ok (.invokevirtual 180, 3) := by decide +kernel
theorem dX7_parts_4 : decode cX7_parts 4 = .ok (.aload_n 0, 1) := by decide +kernel
theorem dX7_parts_5 : decode cX7_parts 5 = .ok (.getfield 33, 3) := by decide +kernel
theorem dX7_parts_8 : decode cX7_parts 8 = .ok (.getfield 183, 3) := by decide +kernel
theorem dX7_parts_11 : decode cX7_parts 11 = .ok (.ireturn, 1) := by decide +kernel
theorem dX7_set_0 : decode cX7_set 0 = .ok (.aload_n 0, 1) := by decide +kernel
theorem dX7_set_1 : decode cX7_set 1 = .ok (.getfield 10, 3) := by decide +kernel
theorem dX7_set_4 : decode cX7_set 4 = .ok (.iload_n 1, 1) := by decide +kernel
theorem dX7_set_5 : decode cX7_set 5 = .ok (.iload_n 2, 1) := by decide +kernel
theorem dX7_set_6 : decode cX7_set 6 = .ok (.invokevirtual 136, 3) := by decide +kernel
theorem dX7_set_9 : decode cX7_set 9 = .ok (.ifCond .ne 6, 3) := by decide +kernel
theorem dX7_set_12 : decode cX7_set 12 = .ok (.bipush (-3), 2) := by decide +kernel
theorem dX7_set_14 : decode cX7_set 14 = .ok (.ireturn, 1) := by decide +kernel
theorem dX7_set_15 : decode cX7_set 15 = .ok (.aload_n 0, 1) := by decide +kernel
theorem dX7_set_16 : decode cX7_set 16 = .ok (.getfield 19, 3) := by decide +kernel
theorem dX7_set_19 : decode cX7_set 19 = .ok (.aload_n 0, 1) := by decide +kernel
theorem dX7_set_20 : decode cX7_set 20 = .ok (.getfield 10, 3) := by decide +kernel
theorem dX7_set_23 : decode cX7_set 23 = .ok (.invokevirtual 186, 3) := by decide +kernel
theorem dX7_set_26 : decode cX7_set 26 = .ok (.aload_n 0, 1) := by decide +kernel
theorem dX7_set_27 : decode cX7_set 27 = .ok (.getfield 10, 3) := by decide +kernel
theorem dX7_set_30 : decode cX7_set 30 = .ok (.getfield 190, 3) := by decide +kernel
theorem dX7_set_33 : decode cX7_set 33 = .ok (.iload_n 1, 1) := by decide +kernel
theorem dX7_set_34 : decode cX7_set 34 = .ok (.iaload, 1) := by decide +kernel
theorem dX7_set_35 : decode cX7_set 35 = .ok (.istore_n 3, 1) := by decide +kernel
theorem dX7_set_36 : decode cX7_set 36 = .ok (.aload_n 0, 1) := by decide +kernel
theorem dX7_set_37 : decode cX7_set 37 = .ok (.getfield 10, 3) := by decide +kernel
theorem dX7_set_40 : decode cX7_set 40 = .ok (.getfield 190, 3) := by decide +kernel
theorem dX7_set_43 : decode cX7_set 43 = .ok (.iload_n 1, 1) := by decide +kernel
theorem dX7_set_44 : decode cX7_set 44 = .ok (.iload_n 2, 1) := by decide +kernel
theorem dX7_set_45 : decode cX7_set 45 = .ok (.iastore, 1) := by decide +kernel
theorem dX7_set_46 : decode cX7_set 46 = .ok (.iload_n 3, 1) := by decide +kernel
theorem dX7_set_47 : decode cX7_set 47 = .ok (.ireturn, 1) := by decide +kernel
theorem dX7_free_0 : decode cX7_free 0 = .ok (.aload_n 0, 1) := by decide +kernel
theorem dX7_free_1 : decode cX7_free 1 = .ok (.getfield 10, 3) := by decide +kernel
theorem dX7_free_4 : decode cX7_free 4 = .ok (.iload_n 1, 1) := by decide +kernel
theorem dX7_free_5 : decode cX7_free 5 = .ok (.invokevirtual 94, 3) := by decide +kernel
theorem dX7_free_8 : decode cX7_free 8 = .ok (.ifCond .ne 6, 3) := by decide +kernel
theorem dX7_free_11 : decode cX7_free 11 = .ok (.bipush (-3), 2) := by decide +kernel
theorem dX7_free_13 : decode cX7_free 13 = .ok (.ireturn, 1) := by decide +kernel
theorem dX7_free_14 : decode cX7_free 14 = .ok (.aload_n 0, 1) := by decide +kernel
theorem dX7_free_15 : decode cX7_free 15 = .ok (.getfield 10, 3) := by decide +kernel
theorem dX7_free_18 : decode cX7_free 18 = .ok (.getfield 190, 3) := by decide +kernel
theorem dX7_free_21 : decode cX7_free 21 = .ok (.iload_n 1, 1) := by decide +kernel
theorem dX7_free_22 : decode cX7_free 22 = .ok (.iaload, 1) := by decide +kernel
theorem dX7_free_23 : decode cX7_free 23 = .ok (.istore_n 2, 1) := by decide +kernel
theorem dX7_free_24 : decode cX7_free 24 = .ok (.iload_n 2, 1) := by decide +kernel
theorem dX7_free_25 : decode cX7_free 25 = .ok (.iconst (-1), 1) := by decide +kernel
theorem dX7_free_26 : decode cX7_free 26 = .ok (.if_icmp .ne 6, 3) := by decide +kernel
theorem dX7_free_29 : decode cX7_free 29 = .ok (.bipush (-4), 2) := by decide +kernel
theorem dX7_free_31 : decode cX7_free 31 = .ok (.ireturn, 1) := by decide +kernel
theorem dX7_free_32 : decode cX7_free 32 = .ok (.aload_n 0, 1) := by decide +kernel
theorem dX7_free_33 : decode cX7_free 33 = .ok (.getfield 19, 3) := by decide +kernel
theorem dX7_free_36 : decode cX7_free 36 = .ok (.aload_n 0, 1) := by decide +kernel
theorem dX7_free_37 : decode cX7_free 37 = .ok (.getfield 10, 3) := by decide +kernel
theorem dX7_free_40 : decode cX7_free 40 = .ok (.invokevirtual 186, 3) := by decide +kernel
theorem dX7_free_43 : decode cX7_free 43 = .ok (.aload_n 0, 1) := by decide +kernel
theorem dX7_free_44 : decode cX7_free 44 = .ok (.getfield 10, 3) := by decide +kernel
theorem dX7_free_47 : decode cX7_free 47 = .ok (.getfield 190, 3) := by decide +kernel
theorem dX7_free_50 : decode cX7_free 50 = .ok (.iload_n 1, 1) := by decide +kernel
theorem dX7_free_51 : decode cX7_free 51 = .ok (.iconst (-1), 1) := by decide +kernel
theorem dX7_free_52 : decode cX7_free 52 = .ok (.iastore, 1) := by decide +kernel
theorem dX7_free_53 : decode cX7_free 53 = .ok (.iload_n 2, 1) := by decide +kernel
theorem dX7_free_54 : decode cX7_free 54 = .ok (.ireturn, 1) := by decide +kernel
theorem dX7_chosen_0 : decode cX7_chosen 0 = .ok (.aload_n 0, 1) := by decide +kernel
theorem dX7_chosen_1 : decode cX7_chosen 1 = .ok (.getfield 10, 3) := by decide +kernel
theorem dX7_chosen_4 : decode cX7_chosen 4 = .ok (.iload_n 1, 1) := by decide +kernel
theorem dX7_chosen_5 : decode cX7_chosen 5 = .ok (.invokevirtual 94, 3) := by decide +kernel
theorem dX7_chosen_8 : decode cX7_chosen 8 = .ok (.ifCond .eq 15, 3) := by decide +kernel
theorem dX7_chosen_11 : decode cX7_chosen 11 = .ok (.aload_n 0, 1) := by decide +kernel
theorem dX7_chosen_12 : decode cX7_chosen 12 = .ok (.getfield 10, 3) := by decide +kernel
theorem dX7_chosen_15 : decode cX7_chosen 15 = .ok (.getfield 190, 3) := by decide +kernel
theorem dX7_chosen_18 : decode cX7_chosen 18 = .ok (.iload_n 1, 1) := by decide +kernel
theorem dX7_chosen_19 : decode cX7_chosen 19 = .ok (.iaload, 1) := by decide +kernel
theorem dX7_chosen_20 : decode cX7_chosen 20 = .ok (.goto 5, 3) := by decide +kernel
theorem dX7_chosen_23 : decode cX7_chosen 23 = .ok (.bipush (-3), 2) := by decide +kernel
theorem dX7_chosen_25 : decode cX7_chosen 25 = .ok (.ireturn, 1) := by decide +kernel
theorem dX7_check_0 : decode cX7_check 0 = .ok (.aload_n 0, 1) := by decide +kernel
theorem dX7_check_1 : decode cX7_check 1 = .ok (.invokevirtual 169, 3) := by decide +kernel
theorem dX7_check_4 : decode cX7_check 4 = .ok (.aload_n 0, 1) := by decide +kernel
theorem dX7_check_5 : decode cX7_check 5 = .ok (.invokevirtual 193, 3) := by decide +kernel
theorem dX7_check_8 : decode cX7_check 8 = .ok (.istore_n 1, 1) := by decide +kernel
theorem dX7_check_9 : decode cX7_check 9 = .ok (.iload_n 1, 1) := by decide +kernel
theorem dX7_check_10 : decode cX7_check 10 = .ok (.iconst (-1), 1) := by decide +kernel
theorem dX7_check_11 : decode cX7_check 11 = .ok (.if_icmp .eq 8, 3) := by decide +kernel
theorem dX7_check_14 : decode cX7_check 14 = .ok (.bipush 100, 2) := by decide +kernel
theorem dX7_check_16 : decode cX7_check 16 = .ok (.iload_n 1, 1) := by decide +kernel
theorem dX7_check_17 : decode cX7_check 17 = .ok (.iadd, 1) := by decide +kernel
theorem dX7_check_18 : decode cX7_check 18 = .ok (.ireturn, 1) := by decide +kernel
theorem dX7_check_19 : decode cX7_check 19 = .ok (.aload_n 0, 1) := by decide +kernel
theorem dX7_check_20 : decode cX7_check 20 = .ok (.invokevirtual 197, 3) := by decide +kernel
theorem dX7_check_23 : decode cX7_check 23 = .ok (.istore_n 2, 1) := by decide +kernel
theorem dX7_check_24 : decode cX7_check 24 = .ok (.iload_n 2, 1) := by decide +kernel
theorem dX7_check_25 : decode cX7_check 25 = .ok (.iconst (-1), 1) := by decide +kernel
theorem dX7_check_26 : decode cX7_check 26 = .ok (.if_icmp .eq 9, 3) := by decide +kernel
theorem dX7_check_29 : decode cX7_check 29 = .ok (.sipush 200, 3) := by decide +kernel
theorem dX7_check_32 : decode cX7_check 32 = .ok (.iload_n 2, 1) := by decide +kernel
theorem dX7_check_33 : decode cX7_check 33 = .ok (.iadd, 1) := by decide +kernel
theorem dX7_check_34 : decode cX7_check 34 = .ok (.ireturn, 1) := by decide +kernel
theorem dX7_check_35 : decode cX7_check 35 = .ok (.aload_n 0, 1) := by decide +kernel
theorem dX7_check_36 : decode cX7_check 36 = .ok (.invokevirtual 200, 3) := by decide +kernel
theorem dX7_check_39 : decode cX7_check 39 = .ok (.istore_n 3, 1) := by decide +kernel
theorem dX7_check_40 : decode cX7_check 40 = .ok (.iload_n 3, 1) := by decide +kernel
theorem dX7_check_41 : decode cX7_check 41 = .ok (.iconst (-1), 1) := by decide +kernel
theorem dX7_check_42 : decode cX7_check 42 = .ok (.if_icmp .eq 11, 3) := by decide +kernel
theorem dX7_check_45 : decode cX7_check 45 = .ok (.sipush 300, 3) := by decide +kernel
theorem dX7_check_48 : decode cX7_check 48 = .ok (.iload_n 3, 1) := by decide +kernel
theorem dX7_check_49 : decode cX7_check 49 = .ok (.iadd, 1) := by decide +kernel
theorem dX7_check_50 : decode cX7_check 50 = .ok (.goto 4, 3) := by decide +kernel
theorem dX7_check_53 : decode cX7_check 53 = .ok (.iconst 0, 1) := by decide +kernel
theorem dX7_check_54 : decode cX7_check 54 = .ok (.ireturn, 1) := by decide +kernel
theorem dX7_worth_0 : decode cX7_worth 0 = .ok (.iconst 0, 1) := by decide +kernel
theorem dX7_worth_1 : decode cX7_worth 1 = .ok (.istore_n 1, 1) := by decide +kernel
theorem dX7_worth_2 : decode cX7_worth 2 = .ok (.iconst 0, 1) := by decide +kernel
theorem dX7_worth_3 : decode cX7_worth 3 = .ok (.istore_n 2, 1) := by decide +kernel
theorem dX7_worth_4 : decode cX7_worth 4 = .ok (.iload_n 2, 1) := by decide +kernel
theorem dX7_worth_5 : decode cX7_worth 5 = .ok (.aload_n 0, 1) := by decide +kernel
theorem dX7_worth_6 : decode cX7_worth 6 = .ok (.getfield 10, 3) := by decide +kernel
theorem dX7_worth_9 : decode cX7_worth 9 = .ok (.getfield 76, 3) := by decide +kernel
theorem dX7_worth_12 : decode cX7_worth 12 = .ok (.if_icmp .ge 46, 3) := by decide +kernel
theorem dX7_worth_15 : decode cX7_worth 15 = .ok (.iload_n 1, 1) := by decide +kernel
theorem dX7_worth_16 : decode cX7_worth 16 = .ok (.aload_n 0, 1) := by decide +kernel
theorem dX7_worth_17 : decode cX7_worth 17 = .ok (.getfield 10, 3) := by decide +kernel
theorem dX7_worth_20 : decode cX7_worth 20 = .ok (.getfield 190, 3) := by decide +kernel
theorem dX7_worth_23 : decode cX7_worth 23 = .ok (.iload_n 2, 1) := by decide +kernel
theorem dX7_worth_24 : decode cX7_worth 24 = .ok (.iaload, 1) := by decide +kernel
theorem dX7_worth_25 : decode cX7_worth 25 = .ok (.iconst (-1), 1) := by decide +kernel
theorem dX7_worth_26 : decode cX7_worth 26 = .ok (.if_icmp .ne 7, 3) := by decide +kernel
theorem dX7_worth_29 : decode cX7_worth 29 = .ok (.iconst 0, 1) := by decide +kernel
theorem dX7_worth_30 : decode cX7_worth 30 = .ok (.goto 20, 3) := by decide +kernel
theorem dX7_worth_33 : decode cX7_worth 33 = .ok (.aload_n 0, 1) := by decide +kernel
theorem dX7_worth_34 : decode cX7_worth 34 = .ok (.getfield 10, 3) := by decide +kernel
theorem dX7_worth_37 : decode cX7_worth 37 = .ok (.iload_n 2, 1) := by decide +kernel
theorem dX7_worth_38 : decode cX7_worth 38 = .ok (.aload_n 0, 1) := by decide +kernel
theorem dX7_worth_39 : decode cX7_worth 39 = .ok (.getfield 10, 3) := by decide +kernel
theorem dX7_worth_42 : decode cX7_worth 42 = .ok (.getfield 190, 3) := by decide +kernel
theorem dX7_worth_45 : decode cX7_worth 45 = .ok (.iload_n 2, 1) := by decide +kernel
theorem dX7_worth_46 : decode cX7_worth 46 = .ok (.iaload, 1) := by decide +kernel
theorem dX7_worth_47 : decode cX7_worth 47 = .ok (.invokevirtual 203, 3) := by decide +kernel
theorem dX7_worth_50 : decode cX7_worth 50 = .ok (.iadd, 1) := by decide +kernel
theorem dX7_worth_51 : decode cX7_worth 51 = .ok (.istore_n 1, 1) := by decide +kernel
theorem dX7_worth_52 : decode cX7_worth 52 = .ok (.iinc 2 1, 3) := by decide +kernel
theorem dX7_worth_55 : decode cX7_worth 55 = .ok (.goto (-51), 3) := by decide +kernel
theorem dX7_worth_58 : decode cX7_worth 58 = .ok (.iload_n 1, 1) := by decide +kernel
theorem dX7_worth_59 : decode cX7_worth 59 = .ok (.ireturn, 1) := by decide +kernel
theorem dX7_best_0 : decode cX7_best 0 = .ok (.aload_n 0, 1) := by decide +kernel
theorem dX7_best_1 : decode cX7_best 1 = .ok (.invokevirtual 180, 3) := by decide +kernel
theorem dX7_best_4 : decode cX7_best 4 = .ok (.aload_n 0, 1) := by decide +kernel
theorem dX7_best_5 : decode cX7_best 5 = .ok (.getfield 33, 3) := by decide +kernel
theorem dX7_best_8 : decode cX7_best 8 = .ok (.getfield 206, 3) := by decide +kernel
theorem dX7_best_11 : decode cX7_best 11 = .ok (.bipush 7, 2) := by decide +kernel
theorem dX7_best_13 : decode cX7_best 13 = .ok (.if_icmp .le 6, 3) := by decide +kernel
theorem dX7_best_16 : decode cX7_best 16 = .ok (.bipush (-6), 2) := by decide +kernel
theorem dX7_best_18 : decode cX7_best 18 = .ok (.ireturn, 1) := by decide +kernel
theorem dX7_best_19 : decode cX7_best 19 = .ok (.aload_n 0, 1) := by decide +kernel
theorem dX7_best_20 : decode cX7_best 20 = .ok (.getfield 10, 3) := by decide +kernel
theorem dX7_best_23 : decode cX7_best 23 = .ok (.aload_n 0, 1) := by decide +kernel
theorem dX7_best_24 : decode cX7_best 24 = .ok (.getfield 65, 3) := by decide +kernel
theorem dX7_best_27 : decode cX7_best 27 = .ok (.invokevirtual 209, 3) := by decide +kernel
theorem dX7_best_30 : decode cX7_best 30 = .ok (.iconst 0, 1) := by decide +kernel
theorem dX7_best_31 : decode cX7_best 31 = .ok (.istore_n 1, 1) := by decide +kernel
theorem dX7_best_32 : decode cX7_best 32 = .ok (.iconst 0, 1) := by decide +kernel
theorem dX7_best_33 : decode cX7_best 33 = .ok (.istore_n 2, 1) := by decide +kernel
theorem dX7_best_34 : decode cX7_best 34 = .ok (.iload_n 2, 1) := by decide +kernel
theorem dX7_best_35 : decode cX7_best 35 = .ok (.aload_n 0, 1) := by decide +kernel
theorem dX7_best_36 : decode cX7_best 36 = .ok (.getfield 33, 3) := by decide +kernel
theorem dX7_best_39 : decode cX7_best 39 = .ok (.getfield 183, 3) := by decide +kernel
theorem dX7_best_42 : decode cX7_best 42 = .ok (.if_icmp .ge 69, 3) := by decide +kernel
theorem dX7_best_45 : decode cX7_best 45 = .ok (.aload_n 0, 1) := by decide +kernel
theorem dX7_best_46 : decode cX7_best 46 = .ok (.getfield 40, 3) := by decide +kernel
theorem dX7_best_49 : decode cX7_best 49 = .ok (.aload_n 0, 1) := by decide +kernel
theorem dX7_best_50 : decode cX7_best 50 = .ok (.getfield 10, 3) := by decide +kernel
theorem dX7_best_53 : decode cX7_best 53 = .ok (.aload_n 0, 1) := by decide +kernel
theorem dX7_best_54 : decode cX7_best 54 = .ok (.getfield 26, 3) := by decide +kernel
theorem dX7_best_57 : decode cX7_best 57 = .ok (.aload_n 0, 1) := by decide +kernel
theorem dX7_best_58 : decode cX7_best 58 = .ok (.getfield 33, 3) := by decide +kernel
theorem dX7_best_61 : decode cX7_best 61 = .ok (.iload_n 2, 1) := by decide +kernel
theorem dX7_best_62 : decode cX7_best 62 = .ok (.aload_n 0, 1) := by decide +kernel
theorem dX7_best_63 : decode cX7_best 63 = .ok (.getfield 65, 3) := by decide +kernel
theorem dX7_best_66 : decode cX7_best 66 = .ok (.invokevirtual 213, 3) := by decide +kernel
theorem dX7_best_69 : decode cX7_best 69 = .ok (.aload_n 0, 1) := by decide +kernel
theorem dX7_best_70 : decode cX7_best 70 = .ok (.getfield 40, 3) := by decide +kernel
theorem dX7_best_73 : decode cX7_best 73 = .ok (.invokevirtual 217, 3) := by decide +kernel
theorem dX7_best_76 : decode cX7_best 76 = .ok (.istore_n 3, 1) := by decide +kernel
theorem dX7_best_77 : decode cX7_best 77 = .ok (.iload_n 3, 1) := by decide +kernel
theorem dX7_best_78 : decode cX7_best 78 = .ok (.iconst (-1), 1) := by decide +kernel
theorem dX7_best_79 : decode cX7_best 79 = .ok (.if_icmp .ne 6, 3) := by decide +kernel
theorem dX7_best_82 : decode cX7_best 82 = .ok (.bipush (-4), 2) := by decide +kernel
theorem dX7_best_84 : decode cX7_best 84 = .ok (.ireturn, 1) := by decide +kernel
theorem dX7_best_85 : decode cX7_best 85 = .ok (.aload_n 0, 1) := by decide +kernel
theorem dX7_best_86 : decode cX7_best 86 = .ok (.getfield 40, 3) := by decide +kernel
theorem dX7_best_89 : decode cX7_best 89 = .ok (.aload_n 0, 1) := by decide +kernel
theorem dX7_best_90 : decode cX7_best 90 = .ok (.getfield 10, 3) := by decide +kernel
theorem dX7_best_93 : decode cX7_best 93 = .ok (.iload_n 3, 1) := by decide +kernel
theorem dX7_best_94 : decode cX7_best 94 = .ok (.aload_n 0, 1) := by decide +kernel
theorem dX7_best_95 : decode cX7_best 95 = .ok (.getfield 61, 3) := by decide +kernel
theorem dX7_best_98 : decode cX7_best 98 = .ok (.invokevirtual 220, 3) := by decide +kernel
theorem dX7_best_101 : decode cX7_best 101 = .ok (.iload_n 1, 1) := by decide +kernel
theorem dX7_best_102 : decode cX7_best 102 = .ok (.iload_n 3, 1) := by decide +kernel
theorem dX7_best_103 : decode cX7_best 103 = .ok (.iadd, 1) := by decide +kernel
theorem dX7_best_104 : decode cX7_best 104 = .ok (.istore_n 1, 1) := by decide +kernel
theorem dX7_best_105 : decode cX7_best 105 = .ok (.iinc 2 1, 3) := by decide +kernel
theorem dX7_best_108 : decode cX7_best 108 = .ok (.goto (-74), 3) := by decide +kernel
theorem dX7_best_111 : decode cX7_best 111 = .ok (.aload_n 0, 1) := by decide +kernel
theorem dX7_best_112 : decode cX7_best 112 = .ok (.invokevirtual 224, 3) := by decide +kernel
theorem dX7_best_115 : decode cX7_best 115 = .ok (.iload_n 1, 1) := by decide +kernel
theorem dX7_best_116 : decode cX7_best 116 = .ok (.ireturn, 1) := by decide +kernel
theorem dX7_quick_0 : decode cX7_quick 0 = .ok (.aload_n 0, 1) := by decide +kernel
theorem dX7_quick_1 : decode cX7_quick 1 = .ok (.invokevirtual 169, 3) := by decide +kernel
theorem dX7_quick_4 : decode cX7_quick 4 = .ok (.aload_n 0, 1) := by decide +kernel
theorem dX7_quick_5 : decode cX7_quick 5 = .ok (.getfield 10, 3) := by decide +kernel
theorem dX7_quick_8 : decode cX7_quick 8 = .ok (.aload_n 0, 1) := by decide +kernel
theorem dX7_quick_9 : decode cX7_quick 9 = .ok (.getfield 65, 3) := by decide +kernel
theorem dX7_quick_12 : decode cX7_quick 12 = .ok (.invokevirtual 209, 3) := by decide +kernel
theorem dX7_quick_15 : decode cX7_quick 15 = .ok (.aload_n 0, 1) := by decide +kernel
theorem dX7_quick_16 : decode cX7_quick 16 = .ok (.getfield 61, 3) := by decide +kernel
theorem dX7_quick_19 : decode cX7_quick 19 = .ok (.iconst (-1), 1) := by decide +kernel
theorem dX7_quick_20 : decode cX7_quick 20 = .ok (.invokestatic 227, 3) := by decide +kernel
theorem dX7_quick_23 : decode cX7_quick 23 = .ok (.iconst 0, 1) := by decide +kernel
theorem dX7_quick_24 : decode cX7_quick 24 = .ok (.istore_n 1, 1) := by decide +kernel
theorem dX7_quick_25 : decode cX7_quick 25 = .ok (.iload_n 1, 1) := by decide +kernel
theorem dX7_quick_26 : decode cX7_quick 26 = .ok (.aload_n 0, 1) := by decide +kernel
theorem dX7_quick_27 : decode cX7_quick 27 = .ok (.getfield 10, 3) := by decide +kernel
theorem dX7_quick_30 : decode cX7_quick 30 = .ok (.getfield 76, 3) := by decide +kernel
theorem dX7_quick_33 : decode cX7_quick 33 = .ok (.if_icmp .ge 31, 3) := by decide +kernel
theorem dX7_quick_36 : decode cX7_quick 36 = .ok (.aload_n 0, 1) := by decide +kernel
theorem dX7_quick_37 : decode cX7_quick 37 = .ok (.getfield 65, 3) := by decide +kernel
theorem dX7_quick_40 : decode cX7_quick 40 = .ok (.iload_n 1, 1) := by decide +kernel
theorem dX7_quick_41 : decode cX7_quick 41 = .ok (.iaload, 1) := by decide +kernel
theorem dX7_quick_42 : decode cX7_quick 42 = .ok (.istore_n 2, 1) := by decide +kernel
theorem dX7_quick_43 : decode cX7_quick 43 = .ok (.aload_n 0, 1) := by decide +kernel
theorem dX7_quick_44 : decode cX7_quick 44 = .ok (.getfield 61, 3) := by decide +kernel
theorem dX7_quick_47 : decode cX7_quick 47 = .ok (.iload_n 2, 1) := by decide +kernel
theorem dX7_quick_48 : decode cX7_quick 48 = .ok (.aload_n 0, 1) := by decide +kernel
theorem dX7_quick_49 : decode cX7_quick 49 = .ok (.iload_n 2, 1) := by decide +kernel
theorem dX7_quick_50 : decode cX7_quick 50 = .ok (.aload_n 0, 1) := by decide +kernel
theorem dX7_quick_51 : decode cX7_quick 51 = .ok (.getfield 61, 3) := by decide +kernel
theorem dX7_quick_54 : decode cX7_quick 54 = .ok (.invokevirtual 233, 3) := by decide +kernel
theorem dX7_quick_57 : decode cX7_quick 57 = .ok (.iastore, 1) := by decide +kernel
theorem dX7_quick_58 : decode cX7_quick 58 = .ok (.iinc 1 1, 3) := by decide +kernel
theorem dX7_quick_61 : decode cX7_quick 61 = .ok (.goto (-36), 3) := by decide +kernel
theorem dX7_quick_64 : decode cX7_quick 64 = .ok (.aload_n 0, 1) := by decide +kernel
theorem dX7_quick_65 : decode cX7_quick 65 = .ok (.invokevirtual 224, 3) := by decide +kernel
theorem dX7_quick_68 : decode cX7_quick 68 = .ok (.aload_n 0, 1) := by decide +kernel
theorem dX7_quick_69 : decode cX7_quick 69 = .ok (.invokevirtual 237, 3) := by decide +kernel
theorem dX7_quick_72 : decode cX7_quick 72 = .ok (.ireturn, 1) := by decide +kernel
theorem dX7_why_0 : decode cX7_why 0 = .ok (.aload_n 0, 1) := by decide +kernel
theorem dX7_why_1 : decode cX7_why 1 = .ok (.getfield 10, 3) := by decide +kernel
theorem dX7_why_4 : decode cX7_why 4 = .ok (.iload_n 1, 1) := by decide +kernel
theorem dX7_why_5 : decode cX7_why 5 = .ok (.iload_n 2, 1) := by decide +kernel
theorem dX7_why_6 : decode cX7_why 6 = .ok (.invokevirtual 136, 3) := by decide +kernel
theorem dX7_why_9 : decode cX7_why 9 = .ok (.ifCond .ne 6, 3) := by decide +kernel
theorem dX7_why_12 : decode cX7_why 12 = .ok (.bipush (-3), 2) := by decide +kernel
theorem dX7_why_14 : decode cX7_why 14 = .ok (.ireturn, 1) := by decide +kernel
theorem dX7_why_15 : decode cX7_why 15 = .ok (.aload_n 0, 1) := by decide +kernel
theorem dX7_why_16 : decode cX7_why 16 = .ok (.getfield 10, 3) := by decide +kernel
theorem dX7_why_19 : decode cX7_why 19 = .ok (.getfield 190, 3) := by decide +kernel
theorem dX7_why_22 : decode cX7_why 22 = .ok (.iload_n 1, 1) := by decide +kernel
theorem dX7_why_23 : decode cX7_why 23 = .ok (.iaload, 1) := by decide +kernel
theorem dX7_why_24 : decode cX7_why 24 = .ok (.iconst (-1), 1) := by decide +kernel
theorem dX7_why_25 : decode cX7_why 25 = .ok (.if_icmp .eq 6, 3) := by decide +kernel
theorem dX7_why_28 : decode cX7_why 28 = .ok (.bipush (-4), 2) := by decide +kernel
theorem dX7_why_30 : decode cX7_why 30 = .ok (.ireturn, 1) := by decide +kernel
theorem dX7_why_31 : decode cX7_why 31 = .ok (.aload_n 0, 1) := by decide +kernel
theorem dX7_why_32 : decode cX7_why 32 = .ok (.invokevirtual 169, 3) := by decide +kernel
theorem dX7_why_35 : decode cX7_why 35 = .ok (.aload_n 0, 1) := by decide +kernel
theorem dX7_why_36 : decode cX7_why 36 = .ok (.iload_n 1, 1) := by decide +kernel
theorem dX7_why_37 : decode cX7_why 37 = .ok (.iload_n 2, 1) := by decide +kernel
theorem dX7_why_38 : decode cX7_why 38 = .ok (.aload_n 0, 1) := by decide +kernel
theorem dX7_why_39 : decode cX7_why 39 = .ok (.getfield 10, 3) := by decide +kernel
theorem dX7_why_42 : decode cX7_why 42 = .ok (.getfield 190, 3) := by decide +kernel
theorem dX7_why_45 : decode cX7_why 45 = .ok (.invokevirtual 240, 3) := by decide +kernel
theorem dX7_why_48 : decode cX7_why 48 = .ok (.ireturn, 1) := by decide +kernel
theorem dX7_slack_0 : decode cX7_slack 0 = .ok (.aload_n 0, 1) := by decide +kernel
theorem dX7_slack_1 : decode cX7_slack 1 = .ok (.invokevirtual 169, 3) := by decide +kernel
theorem dX7_slack_4 : decode cX7_slack 4 = .ok (.iconst 0, 1) := by decide +kernel
theorem dX7_slack_5 : decode cX7_slack 5 = .ok (.istore_n 1, 1) := by decide +kernel
theorem dX7_slack_6 : decode cX7_slack 6 = .ok (.iconst 0, 1) := by decide +kernel
theorem dX7_slack_7 : decode cX7_slack 7 = .ok (.istore_n 2, 1) := by decide +kernel
theorem dX7_slack_8 : decode cX7_slack 8 = .ok (.iload_n 2, 1) := by decide +kernel
theorem dX7_slack_9 : decode cX7_slack 9 = .ok (.aload_n 0, 1) := by decide +kernel
theorem dX7_slack_10 : decode cX7_slack 10 = .ok (.getfield 10, 3) := by decide +kernel
theorem dX7_slack_13 : decode cX7_slack 13 = .ok (.getfield 76, 3) := by decide +kernel
theorem dX7_slack_16 : decode cX7_slack 16 = .ok (.if_icmp .ge 73, 3) := by decide +kernel
theorem dX7_slack_19 : decode cX7_slack 19 = .ok (.aload_n 0, 1) := by decide +kernel
theorem dX7_slack_20 : decode cX7_slack 20 = .ok (.getfield 10, 3) := by decide +kernel
theorem dX7_slack_23 : decode cX7_slack 23 = .ok (.getfield 190, 3) := by decide +kernel
theorem dX7_slack_26 : decode cX7_slack 26 = .ok (.iload_n 2, 1) := by decide +kernel
theorem dX7_slack_27 : decode cX7_slack 27 = .ok (.iaload, 1) := by decide +kernel
theorem dX7_slack_28 : decode cX7_slack 28 = .ok (.istore_n 3, 1) := by decide +kernel
theorem dX7_slack_29 : decode cX7_slack 29 = .ok (.iload_n 3, 1) := by decide +kernel
theorem dX7_slack_30 : decode cX7_slack 30 = .ok (.iconst (-1), 1) := by decide +kernel
theorem dX7_slack_31 : decode cX7_slack 31 = .ok (.if_icmp .ne 7, 3) := by decide +kernel
theorem dX7_slack_34 : decode cX7_slack 34 = .ok (.iconst (-1), 1) := by decide +kernel
theorem dX7_slack_35 : decode cX7_slack 35 = .ok (.goto 15, 3) := by decide +kernel
theorem dX7_slack_38 : decode cX7_slack 38 = .ok (.aload_n 0, 1) := by decide +kernel
theorem dX7_slack_39 : decode cX7_slack 39 = .ok (.iload_n 2, 1) := by decide +kernel
theorem dX7_slack_40 : decode cX7_slack 40 = .ok (.aload_n 0, 1) := by decide +kernel
theorem dX7_slack_41 : decode cX7_slack 41 = .ok (.getfield 10, 3) := by decide +kernel
theorem dX7_slack_44 : decode cX7_slack 44 = .ok (.getfield 190, 3) := by decide +kernel
theorem dX7_slack_47 : decode cX7_slack 47 = .ok (.invokevirtual 233, 3) := by decide +kernel
theorem dX7_slack_50 : decode cX7_slack 50 = .ok (.istore 4, 2) := by decide +kernel
theorem dX7_slack_52 : decode cX7_slack 52 = .ok (.iload 4, 2) := by decide +kernel
theorem dX7_slack_54 : decode cX7_slack 54 = .ok (.iconst (-1), 1) := by decide +kernel
theorem dX7_slack_55 : decode cX7_slack 55 = .ok (.if_icmp .eq 28, 3) := by decide +kernel
theorem dX7_slack_58 : decode cX7_slack 58 = .ok (.aload_n 0, 1) := by decide +kernel
theorem dX7_slack_59 : decode cX7_slack 59 = .ok (.getfield 10, 3) := by decide +kernel
theorem dX7_slack_62 : decode cX7_slack 62 = .ok (.iload_n 2, 1) := by decide +kernel
theorem dX7_slack_63 : decode cX7_slack 63 = .ok (.iload 4, 2) := by decide +kernel
theorem dX7_slack_65 : decode cX7_slack 65 = .ok (.invokevirtual 158, 3) := by decide +kernel
theorem dX7_slack_68 : decode cX7_slack 68 = .ok (.aload_n 0, 1) := by decide +kernel
theorem dX7_slack_69 : decode cX7_slack 69 = .ok (.getfield 10, 3) := by decide +kernel
theorem dX7_slack_72 : decode cX7_slack 72 = .ok (.iload_n 2, 1) := by decide +kernel
theorem dX7_slack_73 : decode cX7_slack 73 = .ok (.iload_n 3, 1) := by decide +kernel
theorem dX7_slack_74 : decode cX7_slack 74 = .ok (.invokevirtual 158, 3) := by decide +kernel
theorem dX7_slack_77 : decode cX7_slack 77 = .ok (.if_icmp .ge 6, 3) := by decide +kernel
theorem dX7_slack_80 : decode cX7_slack 80 = .ok (.iinc 1 1, 3) := by decide +kernel
theorem dX7_slack_83 : decode cX7_slack 83 = .ok (.iinc 2 1, 3) := by decide +kernel
theorem dX7_slack_86 : decode cX7_slack 86 = .ok (.goto (-78), 3) := by decide +kernel
theorem dX7_slack_89 : decode cX7_slack 89 = .ok (.iload_n 1, 1) := by decide +kernel
theorem dX7_slack_90 : decode cX7_slack 90 = .ok (.ireturn, 1) := by decide +kernel
theorem dX7_steady_0 : decode cX7_steady 0 = .ok (.aload_n 0, 1) := by decide +kernel
theorem dX7_steady_1 : decode cX7_steady 1 = .ok (.getfield 10, 3) := by decide +kernel
theorem dX7_steady_4 : decode cX7_steady 4 = .ok (.iload_n 1, 1) := by decide +kernel
theorem dX7_steady_5 : decode cX7_steady 5 = .ok (.invokevirtual 94, 3) := by decide +kernel
theorem dX7_steady_8 : decode cX7_steady 8 = .ok (.ifCond .eq 12, 3) := by decide +kernel
theorem dX7_steady_11 : decode cX7_steady 11 = .ok (.iload_n 2, 1) := by decide +kernel
theorem dX7_steady_12 : decode cX7_steady 12 = .ok (.iconst 0, 1) := by decide +kernel
theorem dX7_steady_13 : decode cX7_steady 13 = .ok (.iconst 1, 1) := by decide +kernel
theorem dX7_steady_14 : decode cX7_steady 14 = .ok (.invokestatic 103, 3) := by decide +kernel
theorem dX7_steady_17 : decode cX7_steady 17 = .ok (.ifCond .ne 6, 3) := by decide +kernel
theorem dX7_steady_20 : decode cX7_steady 20 = .ok (.bipush (-3), 2) := by decide +kernel
theorem dX7_steady_22 : decode cX7_steady 22 = .ok (.ireturn, 1) := by decide +kernel
theorem dX7_steady_23 : decode cX7_steady 23 = .ok (.aload_n 0, 1) := by decide +kernel
theorem dX7_steady_24 : decode cX7_steady 24 = .ok (.getfield 47, 3) := by decide +kernel
theorem dX7_steady_27 : decode cX7_steady 27 = .ok (.aload_n 0, 1) := by decide +kernel
theorem dX7_steady_28 : decode cX7_steady 28 = .ok (.getfield 10, 3) := by decide +kernel
theorem dX7_steady_31 : decode cX7_steady 31 = .ok (.invokevirtual 244, 3) := by decide +kernel
theorem dX7_steady_34 : decode cX7_steady 34 = .ok (.iload_n 2, 1) := by decide +kernel
theorem dX7_steady_35 : decode cX7_steady 35 = .ok (.ifCond .ne 15, 3) := by decide +kernel
theorem dX7_steady_38 : decode cX7_steady 38 = .ok (.aload_n 0, 1) := by decide +kernel
theorem dX7_steady_39 : decode cX7_steady 39 = .ok (.getfield 47, 3) := by decide +kernel
theorem dX7_steady_42 : decode cX7_steady 42 = .ok (.getfield 247, 3) := by decide +kernel
theorem dX7_steady_45 : decode cX7_steady 45 = .ok (.iload_n 1, 1) := by decide +kernel
theorem dX7_steady_46 : decode cX7_steady 46 = .ok (.iaload, 1) := by decide +kernel
theorem dX7_steady_47 : decode cX7_steady 47 = .ok (.goto 12, 3) := by decide +kernel
theorem dX7_steady_50 : decode cX7_steady 50 = .ok (.aload_n 0, 1) := by decide +kernel
theorem dX7_steady_51 : decode cX7_steady 51 = .ok (.getfield 47, 3) := by decide +kernel
theorem dX7_steady_54 : decode cX7_steady 54 = .ok (.getfield 250, 3) := by decide +kernel
theorem dX7_steady_57 : decode cX7_steady 57 = .ok (.iload_n 1, 1) := by decide +kernel
theorem dX7_steady_58 : decode cX7_steady 58 = .ok (.iaload, 1) := by decide +kernel
theorem dX7_steady_59 : decode cX7_steady 59 = .ok (.ireturn, 1) := by decide +kernel
theorem dX7_there_0 : decode cX7_there 0 = .ok (.iload_n 1, 1) := by decide +kernel
theorem dX7_there_1 : decode cX7_there 1 = .ok (.invokestatic 139, 3) := by decide +kernel
theorem dX7_there_4 : decode cX7_there 4 = .ok (.ifCond .ne 6, 3) := by decide +kernel
theorem dX7_there_7 : decode cX7_there 7 = .ok (.bipush (-3), 2) := by decide +kernel
theorem dX7_there_9 : decode cX7_there 9 = .ok (.ireturn, 1) := by decide +kernel
theorem dX7_there_10 : decode cX7_there 10 = .ok (.aload_n 0, 1) := by decide +kernel
theorem dX7_there_11 : decode cX7_there 11 = .ok (.getfield 47, 3) := by decide +kernel
theorem dX7_there_14 : decode cX7_there 14 = .ok (.aload_n 0, 1) := by decide +kernel
theorem dX7_there_15 : decode cX7_there 15 = .ok (.getfield 10, 3) := by decide +kernel
theorem dX7_there_18 : decode cX7_there 18 = .ok (.invokevirtual 244, 3) := by decide +kernel
theorem dX7_there_21 : decode cX7_there 21 = .ok (.iconst 0, 1) := by decide +kernel
theorem dX7_there_22 : decode cX7_there 22 = .ok (.istore_n 2, 1) := by decide +kernel
theorem dX7_there_23 : decode cX7_there 23 = .ok (.iconst 0, 1) := by decide +kernel
theorem dX7_there_24 : decode cX7_there 24 = .ok (.istore_n 3, 1) := by decide +kernel
theorem dX7_there_25 : decode cX7_there 25 = .ok (.iload_n 3, 1) := by decide +kernel
theorem dX7_there_26 : decode cX7_there 26 = .ok (.aload_n 0, 1) := by decide +kernel
theorem dX7_there_27 : decode cX7_there 27 = .ok (.getfield 10, 3) := by decide +kernel
theorem dX7_there_30 : decode cX7_there 30 = .ok (.getfield 76, 3) := by decide +kernel
theorem dX7_there_33 : decode cX7_there 33 = .ok (.if_icmp .ge 24, 3) := by decide +kernel
theorem dX7_there_36 : decode cX7_there 36 = .ok (.iload_n 2, 1) := by decide +kernel
theorem dX7_there_37 : decode cX7_there 37 = .ok (.aload_n 0, 1) := by decide +kernel
theorem dX7_there_38 : decode cX7_there 38 = .ok (.getfield 47, 3) := by decide +kernel
theorem dX7_there_41 : decode cX7_there 41 = .ok (.iload_n 3, 1) := by decide +kernel
theorem dX7_there_42 : decode cX7_there 42 = .ok (.iload_n 1, 1) := by decide +kernel
theorem dX7_there_43 : decode cX7_there 43 = .ok (.invokevirtual 253, 3) := by decide +kernel
theorem dX7_there_46 : decode cX7_there 46 = .ok (.invokestatic 132, 3) := by decide +kernel
theorem dX7_there_49 : decode cX7_there 49 = .ok (.iadd, 1) := by decide +kernel
theorem dX7_there_50 : decode cX7_there 50 = .ok (.istore_n 2, 1) := by decide +kernel
theorem dX7_there_51 : decode cX7_there 51 = .ok (.iinc 3 1, 3) := by decide +kernel
theorem dX7_there_54 : decode cX7_there 54 = .ok (.goto (-29), 3) := by decide +kernel
theorem dX7_there_57 : decode cX7_there 57 = .ok (.iload_n 2, 1) := by decide +kernel
theorem dX7_there_58 : decode cX7_there 58 = .ok (.ireturn, 1) := by decide +kernel
theorem dX7_at_0 : decode cX7_at 0 = .ok (.iload_n 1, 1) := by decide +kernel
theorem dX7_at_1 : decode cX7_at 1 = .ok (.iload_n 2, 1) := by decide +kernel
theorem dX7_at_2 : decode cX7_at 2 = .ok (.invokestatic 72, 3) := by decide +kernel
theorem dX7_at_5 : decode cX7_at 5 = .ok (.ifCond .ne 6, 3) := by decide +kernel
theorem dX7_at_8 : decode cX7_at 8 = .ok (.bipush (-3), 2) := by decide +kernel
theorem dX7_at_10 : decode cX7_at 10 = .ok (.ireturn, 1) := by decide +kernel
theorem dX7_at_11 : decode cX7_at 11 = .ok (.aload_n 0, 1) := by decide +kernel
theorem dX7_at_12 : decode cX7_at 12 = .ok (.invokevirtual 169, 3) := by decide +kernel
theorem dX7_at_15 : decode cX7_at 15 = .ok (.iconst 0, 1) := by decide +kernel
theorem dX7_at_16 : decode cX7_at 16 = .ok (.istore_n 3, 1) := by decide +kernel
theorem dX7_at_17 : decode cX7_at 17 = .ok (.iload_n 3, 1) := by decide +kernel
theorem dX7_at_18 : decode cX7_at 18 = .ok (.aload_n 0, 1) := by decide +kernel
theorem dX7_at_19 : decode cX7_at 19 = .ok (.getfield 10, 3) := by decide +kernel
theorem dX7_at_22 : decode cX7_at 22 = .ok (.getfield 76, 3) := by decide +kernel
theorem dX7_at_25 : decode cX7_at 25 = .ok (.if_icmp .ge 49, 3) := by decide +kernel
theorem dX7_at_28 : decode cX7_at 28 = .ok (.aload_n 0, 1) := by decide +kernel
theorem dX7_at_29 : decode cX7_at 29 = .ok (.getfield 10, 3) := by decide +kernel
theorem dX7_at_32 : decode cX7_at 32 = .ok (.getfield 190, 3) := by decide +kernel
theorem dX7_at_35 : decode cX7_at 35 = .ok (.iload_n 3, 1) := by decide +kernel
theorem dX7_at_36 : decode cX7_at 36 = .ok (.iaload, 1) := by decide +kernel
theorem dX7_at_37 : decode cX7_at 37 = .ok (.iconst (-1), 1) := by decide +kernel
theorem dX7_at_38 : decode cX7_at 38 = .ok (.if_icmp .eq 30, 3) := by decide +kernel
theorem dX7_at_41 : decode cX7_at 41 = .ok (.aload_n 0, 1) := by decide +kernel
theorem dX7_at_42 : decode cX7_at 42 = .ok (.getfield 26, 3) := by decide +kernel
theorem dX7_at_45 : decode cX7_at 45 = .ok (.iload_n 3, 1) := by decide +kernel
theorem dX7_at_46 : decode cX7_at 46 = .ok (.aload_n 0, 1) := by decide +kernel
theorem dX7_at_47 : decode cX7_at 47 = .ok (.getfield 10, 3) := by decide +kernel
theorem dX7_at_50 : decode cX7_at 50 = .ok (.getfield 190, 3) := by decide +kernel
theorem dX7_at_53 : decode cX7_at 53 = .ok (.iload_n 3, 1) := by decide +kernel
theorem dX7_at_54 : decode cX7_at 54 = .ok (.iaload, 1) := by decide +kernel
theorem dX7_at_55 : decode cX7_at 55 = .ok (.invokevirtual 256, 3) := by decide +kernel
theorem dX7_at_58 : decode cX7_at 58 = .ok (.iload_n 1, 1) := by decide +kernel
theorem dX7_at_59 : decode cX7_at 59 = .ok (.iload_n 2, 1) := by decide +kernel
theorem dX7_at_60 : decode cX7_at 60 = .ok (.invokevirtual 260, 3) := by decide +kernel
theorem dX7_at_63 : decode cX7_at 63 = .ok (.ifCond .eq 5, 3) := by decide +kernel
theorem dX7_at_66 : decode cX7_at 66 = .ok (.iload_n 3, 1) := by decide +kernel
theorem dX7_at_67 : decode cX7_at 67 = .ok (.ireturn, 1) := by decide +kernel
theorem dX7_at_68 : decode cX7_at 68 = .ok (.iinc 3 1, 3) := by decide +kernel
theorem dX7_at_71 : decode cX7_at 71 = .ok (.goto (-54), 3) := by decide +kernel
theorem dX7_at_74 : decode cX7_at 74 = .ok (.iconst (-1), 1) := by decide +kernel
theorem dX7_at_75 : decode cX7_at 75 = .ok (.ireturn, 1) := by decide +kernel
theorem dX7_find_0 : decode cX7_find 0 = .ok (.iload_n 1, 1) := by decide +kernel
theorem dX7_find_1 : decode cX7_find 1 = .ok (.iload_n 2, 1) := by decide +kernel
theorem dX7_find_2 : decode cX7_find 2 = .ok (.invokestatic 72, 3) := by decide +kernel
theorem dX7_find_5 : decode cX7_find 5 = .ok (.ifCond .eq 31, 3) := by decide +kernel
theorem dX7_find_8 : decode cX7_find 8 = .ok (.iload_n 3, 1) := by decide +kernel
theorem dX7_find_9 : decode cX7_find 9 = .ok (.iconst 1, 1) := by decide +kernel
theorem dX7_find_10 : decode cX7_find 10 = .ok (.sipush 1000, 3) := by decide +kernel
theorem dX7_find_13 : decode cX7_find 13 = .ok (.invokestatic 103, 3) := by decide +kernel
theorem dX7_find_16 : decode cX7_find 16 = .ok (.ifCond .eq 20, 3) := by decide +kernel
theorem dX7_find_19 : decode cX7_find 19 = .ok (.iload 4, 2) := by decide +kernel
theorem dX7_find_21 : decode cX7_find 21 = .ok (.iconst 1, 1) := by decide +kernel
theorem dX7_find_22 : decode cX7_find 22 = .ok (.sipush 1000, 3) := by decide +kernel
theorem dX7_find_25 : decode cX7_find 25 = .ok (.invokestatic 103, 3) := by decide +kernel
theorem dX7_find_28 : decode cX7_find 28 = .ok (.ifCond .eq 8, 3) := by decide +kernel
theorem dX7_find_31 : decode cX7_find 31 = .ok (.iload 5, 2) := by decide +kernel
theorem dX7_find_33 : decode cX7_find 33 = .ok (.ifCond .ge 6, 3) := by decide +kernel
theorem dX7_find_36 : decode cX7_find 36 = .ok (.bipush (-3), 2) := by decide +kernel
theorem dX7_find_38 : decode cX7_find 38 = .ok (.ireturn, 1) := by decide +kernel
theorem dX7_find_39 : decode cX7_find 39 = .ok (.aload_n 0, 1) := by decide +kernel
theorem dX7_find_40 : decode cX7_find 40 = .ok (.invokevirtual 169, 3) := by decide +kernel
theorem dX7_find_43 : decode cX7_find 43 = .ok (.iconst 0, 1) := by decide +kernel
theorem dX7_find_44 : decode cX7_find 44 = .ok (.istore 6, 2) := by decide +kernel
theorem dX7_find_46 : decode cX7_find 46 = .ok (.iconst 0, 1) := by decide +kernel
theorem dX7_find_47 : decode cX7_find 47 = .ok (.istore 7, 2) := by decide +kernel
theorem dX7_find_49 : decode cX7_find 49 = .ok (.iload 7, 2) := by decide +kernel
theorem dX7_find_51 : decode cX7_find 51 = .ok (.aload_n 0, 1) := by decide +kernel
theorem dX7_find_52 : decode cX7_find 52 = .ok (.getfield 10, 3) := by decide +kernel
theorem dX7_find_55 : decode cX7_find 55 = .ok (.getfield 76, 3) := by decide +kernel
theorem dX7_find_58 : decode cX7_find 58 = .ok (.if_icmp .ge 70, 3) := by decide +kernel
theorem dX7_find_61 : decode cX7_find 61 = .ok (.aload_n 0, 1) := by decide +kernel
theorem dX7_find_62 : decode cX7_find 62 = .ok (.getfield 10, 3) := by decide +kernel
theorem dX7_find_65 : decode cX7_find 65 = .ok (.getfield 190, 3) := by decide +kernel
theorem dX7_find_68 : decode cX7_find 68 = .ok (.iload 7, 2) := by decide +kernel
theorem dX7_find_70 : decode cX7_find 70 = .ok (.iaload, 1) := by decide +kernel
theorem dX7_find_71 : decode cX7_find 71 = .ok (.iconst (-1), 1) := by decide +kernel
theorem dX7_find_72 : decode cX7_find 72 = .ok (.if_icmp .eq 50, 3) := by decide +kernel
theorem dX7_find_75 : decode cX7_find 75 = .ok (.aload_n 0, 1) := by decide +kernel
theorem dX7_find_76 : decode cX7_find 76 = .ok (.getfield 26, 3) := by decide +kernel
theorem dX7_find_79 : decode cX7_find 79 = .ok (.iload 7, 2) := by decide +kernel
theorem dX7_find_81 : decode cX7_find 81 = .ok (.aload_n 0, 1) := by decide +kernel
theorem dX7_find_82 : decode cX7_find 82 = .ok (.getfield 10, 3) := by decide +kernel
theorem dX7_find_85 : decode cX7_find 85 = .ok (.getfield 190, 3) := by decide +kernel
theorem dX7_find_88 : decode cX7_find 88 = .ok (.iload 7, 2) := by decide +kernel
theorem dX7_find_90 : decode cX7_find 90 = .ok (.iaload, 1) := by decide +kernel
theorem dX7_find_91 : decode cX7_find 91 = .ok (.invokevirtual 256, 3) := by decide +kernel
theorem dX7_find_94 : decode cX7_find 94 = .ok (.iload_n 1, 1) := by decide +kernel
theorem dX7_find_95 : decode cX7_find 95 = .ok (.iload_n 2, 1) := by decide +kernel
theorem dX7_find_96 : decode cX7_find 96 = .ok (.iload_n 1, 1) := by decide +kernel
theorem dX7_find_97 : decode cX7_find 97 = .ok (.iload_n 3, 1) := by decide +kernel
theorem dX7_find_98 : decode cX7_find 98 = .ok (.iadd, 1) := by decide +kernel
theorem dX7_find_99 : decode cX7_find 99 = .ok (.iload_n 2, 1) := by decide +kernel
theorem dX7_find_100 : decode cX7_find 100 = .ok (.iload 4, 2) := by decide +kernel
theorem dX7_find_102 : decode cX7_find 102 = .ok (.iadd, 1) := by decide +kernel
theorem dX7_find_103 : decode cX7_find 103 = .ok (.invokevirtual 263, 3) := by decide +kernel
theorem dX7_find_106 : decode cX7_find 106 = .ok (.ifCond .eq 16, 3) := by decide +kernel
theorem dX7_find_109 : decode cX7_find 109 = .ok (.iload 6, 2) := by decide +kernel
theorem dX7_find_111 : decode cX7_find 111 = .ok (.iload 5, 2) := by decide +kernel
theorem dX7_find_113 : decode cX7_find 113 = .ok (.if_icmp .ne 6, 3) := by decide +kernel
theorem dX7_find_116 : decode cX7_find 116 = .ok (.iload 7, 2) := by decide +kernel
theorem dX7_find_118 : decode cX7_find 118 = .ok (.ireturn, 1) := by decide +kernel
theorem dX7_find_119 : decode cX7_find 119 = .ok (.iinc 6 1, 3) := by decide +kernel
theorem dX7_find_122 : decode cX7_find 122 = .ok (.iinc 7 1, 3) := by decide +kernel
theorem dX7_find_125 : decode cX7_find 125 = .ok (.goto (-76), 3) := by decide +kernel
theorem dX7_find_128 : decode cX7_find 128 = .ok (.iconst (-1), 1) := by decide +kernel
theorem dX7_find_129 : decode cX7_find 129 = .ok (.ireturn, 1) := by decide +kernel
theorem dX7_undo_0 : decode cX7_undo 0 = .ok (.aload_n 0, 1) := by decide +kernel
theorem dX7_undo_1 : decode cX7_undo 1 = .ok (.getfield 19, 3) := by decide +kernel
theorem dX7_undo_4 : decode cX7_undo 4 = .ok (.getfield 267, 3) := by decide +kernel
theorem dX7_undo_7 : decode cX7_undo 7 = .ok (.ifCond .ne 6, 3) := by decide +kernel
theorem dX7_undo_10 : decode cX7_undo 10 = .ok (.bipush (-4), 2) := by decide +kernel
theorem dX7_undo_12 : decode cX7_undo 12 = .ok (.ireturn, 1) := by decide +kernel
theorem dX7_undo_13 : decode cX7_undo 13 = .ok (.aload_n 0, 1) := by decide +kernel
theorem dX7_undo_14 : decode cX7_undo 14 = .ok (.getfield 19, 3) := by decide +kernel
theorem dX7_undo_17 : decode cX7_undo 17 = .ok (.aload_n 0, 1) := by decide +kernel
theorem dX7_undo_18 : decode cX7_undo 18 = .ok (.getfield 10, 3) := by decide +kernel
theorem dX7_undo_21 : decode cX7_undo 21 = .ok (.invokevirtual 270, 3) := by decide +kernel
theorem dX7_undo_24 : decode cX7_undo 24 = .ok (.aload_n 0, 1) := by decide +kernel
theorem dX7_undo_25 : decode cX7_undo 25 = .ok (.invokevirtual 273, 3) := by decide +kernel
theorem dX7_undo_28 : decode cX7_undo 28 = .ok (.aload_n 0, 1) := by decide +kernel
theorem dX7_undo_29 : decode cX7_undo 29 = .ok (.getfield 19, 3) := by decide +kernel
theorem dX7_undo_32 : decode cX7_undo 32 = .ok (.getfield 267, 3) := by decide +kernel
theorem dX7_undo_35 : decode cX7_undo 35 = .ok (.ireturn, 1) := by decide +kernel
theorem dX7_count_0 : decode cX7_count 0 = .ok (.iload_n 1, 1) := by decide +kernel
theorem dX7_count_1 : decode cX7_count 1 = .ok (.tableswitch 78 0 5 #[39, 47, 55, 60, 68, 73], 39) := by decide +kernel
theorem dX7_count_40 : decode cX7_count 40 = .ok (.aload_n 0, 1) := by decide +kernel
theorem dX7_count_41 : decode cX7_count 41 = .ok (.getfield 10, 3) := by decide +kernel
theorem dX7_count_44 : decode cX7_count 44 = .ok (.getfield 76, 3) := by decide +kernel
theorem dX7_count_47 : decode cX7_count 47 = .ok (.ireturn, 1) := by decide +kernel
theorem dX7_count_48 : decode cX7_count 48 = .ok (.aload_n 0, 1) := by decide +kernel
theorem dX7_count_49 : decode cX7_count 49 = .ok (.getfield 10, 3) := by decide +kernel
theorem dX7_count_52 : decode cX7_count 52 = .ok (.getfield 87, 3) := by decide +kernel
theorem dX7_count_55 : decode cX7_count 55 = .ok (.ireturn, 1) := by decide +kernel
theorem dX7_count_56 : decode cX7_count 56 = .ok (.aload_n 0, 1) := by decide +kernel
theorem dX7_count_57 : decode cX7_count 57 = .ok (.invokevirtual 237, 3) := by decide +kernel
theorem dX7_count_60 : decode cX7_count 60 = .ok (.ireturn, 1) := by decide +kernel
theorem dX7_count_61 : decode cX7_count 61 = .ok (.aload_n 0, 1) := by decide +kernel
theorem dX7_count_62 : decode cX7_count 62 = .ok (.getfield 19, 3) := by decide +kernel
theorem dX7_count_65 : decode cX7_count 65 = .ok (.getfield 267, 3) := by decide +kernel
theorem dX7_count_68 : decode cX7_count 68 = .ok (.ireturn, 1) := by decide +kernel
theorem dX7_count_69 : decode cX7_count 69 = .ok (.aload_n 0, 1) := by decide +kernel
theorem dX7_count_70 : decode cX7_count 70 = .ok (.invokevirtual 276, 3) := by decide +kernel
theorem dX7_count_73 : decode cX7_count 73 = .ok (.ireturn, 1) := by decide +kernel
theorem dX7_count_74 : decode cX7_count 74 = .ok (.aload_n 0, 1) := by decide +kernel
theorem dX7_count_75 : decode cX7_count 75 = .ok (.invokevirtual 279, 3) := by decide +kernel
theorem dX7_count_78 : decode cX7_count 78 = .ok (.ireturn, 1) := by decide +kernel
theorem dX7_count_79 : decode cX7_count 79 = .ok (.bipush (-3), 2) := by decide +kernel
theorem dX7_count_81 : decode cX7_count 81 = .ok (.ireturn, 1) := by decide +kernel
theorem dX7_within_0 : decode cX7_within 0 = .ok (.iload_n 0, 1) := by decide +kernel
theorem dX7_within_1 : decode cX7_within 1 = .ok (.iload_n 1, 1) := by decide +kernel
theorem dX7_within_2 : decode cX7_within 2 = .ok (.if_icmp .lt 12, 3) := by decide +kernel
theorem dX7_within_5 : decode cX7_within 5 = .ok (.iload_n 0, 1) := by decide +kernel
theorem dX7_within_6 : decode cX7_within 6 = .ok (.iload_n 2, 1) := by decide +kernel
theorem dX7_within_7 : decode cX7_within 7 = .ok (.if_icmp .gt 7, 3) := by decide +kernel
theorem dX7_within_10 : decode cX7_within 10 = .ok (.iconst 1, 1) := by decide +kernel
theorem dX7_within_11 : decode cX7_within 11 = .ok (.goto 4, 3) := by decide +kernel
theorem dX7_within_14 : decode cX7_within 14 = .ok (.iconst 0, 1) := by decide +kernel
theorem dX7_within_15 : decode cX7_within 15 = .ok (.ireturn, 1) := by decide +kernel
theorem dX7_isPlace_0 : decode cX7_isPlace 0 = .ok (.iload_n 0, 1) := by decide +kernel
theorem dX7_isPlace_1 : decode cX7_isPlace 1 = .ok (.iconst 0, 1) := by decide +kernel
theorem dX7_isPlace_2 : decode cX7_isPlace 2 = .ok (.sipush 1000, 3) := by decide +kernel
theorem dX7_isPlace_5 : decode cX7_isPlace 5 = .ok (.invokestatic 103, 3) := by decide +kernel
theorem dX7_isPlace_8 : decode cX7_isPlace 8 = .ok (.ifCond .eq 18, 3) := by decide +kernel
theorem dX7_isPlace_11 : decode cX7_isPlace 11 = .ok (.iload_n 1, 1) := by decide +kernel
theorem dX7_isPlace_12 : decode cX7_isPlace 12 = .ok (.iconst 0, 1) := by decide +kernel
theorem dX7_isPlace_13 : decode cX7_isPlace 13 = .ok (.sipush 1000, 3) := by decide +kernel
theorem dX7_isPlace_16 : decode cX7_isPlace 16 = .ok (.invokestatic 103, 3) := by decide +kernel
theorem dX7_isPlace_19 : decode cX7_isPlace 19 = .ok (.ifCond .eq 7, 3) := by decide +kernel
theorem dX7_isPlace_22 : decode cX7_isPlace 22 = .ok (.iconst 1, 1) := by decide +kernel
theorem dX7_isPlace_23 : decode cX7_isPlace 23 = .ok (.goto 4, 3) := by decide +kernel
theorem dX7_isPlace_26 : decode cX7_isPlace 26 = .ok (.iconst 0, 1) := by decide +kernel
theorem dX7_isPlace_27 : decode cX7_isPlace 27 = .ok (.ireturn, 1) := by decide +kernel
theorem dX7_isKind_0 : decode cX7_isKind 0 = .ok (.iload_n 0, 1) := by decide +kernel
theorem dX7_isKind_1 : decode cX7_isKind 1 = .ok (.iconst 0, 1) := by decide +kernel
theorem dX7_isKind_2 : decode cX7_isKind 2 = .ok (.iconst 3, 1) := by decide +kernel
theorem dX7_isKind_3 : decode cX7_isKind 3 = .ok (.invokestatic 103, 3) := by decide +kernel
theorem dX7_isKind_6 : decode cX7_isKind 6 = .ok (.ireturn, 1) := by decide +kernel
theorem dX7_isZoom_0 : decode cX7_isZoom 0 = .ok (.iload_n 0, 1) := by decide +kernel
theorem dX7_isZoom_1 : decode cX7_isZoom 1 = .ok (.iconst 0, 1) := by decide +kernel
theorem dX7_isZoom_2 : decode cX7_isZoom 2 = .ok (.bipush 6, 2) := by decide +kernel
theorem dX7_isZoom_4 : decode cX7_isZoom 4 = .ok (.invokestatic 103, 3) := by decide +kernel
theorem dX7_isZoom_7 : decode cX7_isZoom 7 = .ok (.ireturn, 1) := by decide +kernel
theorem dX7_yes_0 : decode cX7_yes 0 = .ok (.iload_n 0, 1) := by decide +kernel
theorem dX7_yes_1 : decode cX7_yes 1 = .ok (.ifCond .eq 7, 3) := by decide +kernel
theorem dX7_yes_4 : decode cX7_yes 4 = .ok (.iconst 1, 1) := by decide +kernel
theorem dX7_yes_5 : decode cX7_yes 5 = .ok (.goto 4, 3) := by decide +kernel
theorem dX7_yes_8 : decode cX7_yes 8 = .ok (.iconst 0, 1) := by decide +kernel
theorem dX7_yes_9 : decode cX7_yes 9 = .ok (.ireturn, 1) := by decide +kernel
theorem dX7_redraw_0 : decode cX7_redraw 0 = .ok (.aload_n 0, 1) := by decide +kernel
theorem dX7_redraw_1 : decode cX7_redraw 1 = .ok (.getfield 19, 3) := by decide +kernel
theorem dX7_redraw_4 : decode cX7_redraw 4 = .ok (.aload_n 0, 1) := by decide +kernel
theorem dX7_redraw_5 : decode cX7_redraw 5 = .ok (.getfield 10, 3) := by decide +kernel
theorem dX7_redraw_8 : decode cX7_redraw 8 = .ok (.invokevirtual 186, 3) := by decide +kernel
theorem dX7_redraw_11 : decode cX7_redraw 11 = .ok (.aload_n 0, 1) := by decide +kernel
theorem dX7_redraw_12 : decode cX7_redraw 12 = .ok (.invokevirtual 273, 3) := by decide +kernel
theorem dX7_redraw_15 : decode cX7_redraw 15 = .ok (.return_, 1) := by decide +kernel
theorem dX7_forgetDrawing_0 : decode cX7_forgetDrawing 0 = .ok (.aload_n 0, 1) := by decide +kernel
theorem dX7_forgetDrawing_1 : decode cX7_forgetDrawing 1 = .ok (.getfield 26, 3) := by decide +kernel
theorem dX7_forgetDrawing_4 : decode cX7_forgetDrawing 4 = .ok (.iconst 0, 1) := by decide +kernel
theorem dX7_forgetDrawing_5 : decode cX7_forgetDrawing 5 = .ok (.putfield 282, 3) := by decide +kernel
theorem dX7_forgetDrawing_8 : decode cX7_forgetDrawing 8 = .ok (.aload_n 0, 1) := by decide +kernel
theorem dX7_forgetDrawing_9 : decode cX7_forgetDrawing 9 = .ok (.getfield 33, 3) := by decide +kernel
theorem dX7_forgetDrawing_12 : decode cX7_forgetDrawing 12 = .ok (.iconst 0, 1) := by decide +kernel
theorem dX7_forgetDrawing_13 : decode cX7_forgetDrawing 13 = .ok (.putfield 286, 3) := by decide +kernel
theorem dX7_forgetDrawing_16 : decode cX7_forgetDrawing 16 = .ok (.aload_n 0, 1) := by decide +kernel
theorem dX7_forgetDrawing_17 : decode cX7_forgetDrawing 17 = .ok (.getfield 47, 3) := by decide +kernel
theorem dX7_forgetDrawing_20 : decode cX7_forgetDrawing 20 = .ok (.iconst 0, 1) := by decide +kernel
theorem dX7_forgetDrawing_21 : decode cX7_forgetDrawing 21 = .ok (.putfield 287, 3) := by decide +kernel
theorem dX7_forgetDrawing_24 : decode cX7_forgetDrawing 24 = .ok (.return_, 1) := by decide +kernel
theorem dX7_layOut_0 : decode cX7_layOut 0 = .ok (.aload_n 0, 1) := by decide +kernel
theorem dX7_layOut_1 : decode cX7_layOut 1 = .ok (.getfield 26, 3) := by decide +kernel
theorem dX7_layOut_4 : decode cX7_layOut 4 = .ok (.aload_n 0, 1) := by decide +kernel
theorem dX7_layOut_5 : decode cX7_layOut 5 = .ok (.getfield 10, 3) := by decide +kernel
theorem dX7_layOut_8 : decode cX7_layOut 8 = .ok (.invokevirtual 288, 3) := by decide +kernel
theorem dX7_layOut_11 : decode cX7_layOut 11 = .ok (.return_, 1) := by decide +kernel
theorem dX7_splitUp_0 : decode cX7_splitUp 0 = .ok (.aload_n 0, 1) := by decide +kernel
theorem dX7_splitUp_1 : decode cX7_splitUp 1 = .ok (.invokevirtual 169, 3) := by decide +kernel
theorem dX7_splitUp_4 : decode cX7_splitUp 4 = .ok (.aload_n 0, 1) := by decide +kernel
theorem dX7_splitUp_5 : decode cX7_splitUp 5 = .ok (.getfield 33, 3) := by decide +kernel
theorem dX7_splitUp_8 : decode cX7_splitUp 8 = .ok (.aload_n 0, 1) := by decide +kernel
theorem dX7_splitUp_9 : decode cX7_splitUp 9 = .ok (.getfield 10, 3) := by decide +kernel
theorem dX7_splitUp_12 : decode cX7_splitUp 12 = .ok (.aload_n 0, 1) := by decide +kernel
theorem dX7_splitUp_13 : decode cX7_splitUp 13 = .ok (.getfield 26, 3) := by decide +kernel
theorem dX7_splitUp_16 : decode cX7_splitUp 16 = .ok (.invokevirtual 289, 3) := by decide +kernel
theorem dX7_splitUp_19 : decode cX7_splitUp 19 = .ok (.return_, 1) := by decide +kernel
theorem dX7_openWays_0 : decode cX7_openWays 0 = .ok (.aload_n 0, 1) := by decide +kernel
theorem dX7_openWays_1 : decode cX7_openWays 1 = .ok (.invokevirtual 169, 3) := by decide +kernel
theorem dX7_openWays_4 : decode cX7_openWays 4 = .ok (.aload_n 0, 1) := by decide +kernel
theorem dX7_openWays_5 : decode cX7_openWays 5 = .ok (.getfield 26, 3) := by decide +kernel
theorem dX7_openWays_8 : decode cX7_openWays 8 = .ok (.getfield 292, 3) := by decide +kernel
theorem dX7_openWays_11 : decode cX7_openWays 11 = .ok (.iload_n 1, 1) := by decide +kernel
theorem dX7_openWays_12 : decode cX7_openWays 12 = .ok (.iaload, 1) := by decide +kernel
theorem dX7_openWays_13 : decode cX7_openWays 13 = .ok (.invokestatic 175, 3) := by decide +kernel
theorem dX7_openWays_16 : decode cX7_openWays 16 = .ok (.ireturn, 1) := by decide +kernel
theorem dX7_partOf_0 : decode cX7_partOf 0 = .ok (.aload_n 0, 1) := by decide +kernel
theorem dX7_partOf_1 : decode cX7_partOf 1 = .ok (.invokevirtual 180, 3) := by decide +kernel
theorem dX7_partOf_4 : decode cX7_partOf 4 = .ok (.aload_n 0, 1) := by decide +kernel
theorem dX7_partOf_5 : decode cX7_partOf 5 = .ok (.getfield 33, 3) := by decide +kernel
theorem dX7_partOf_8 : decode cX7_partOf 8 = .ok (.getfield 295, 3) := by decide +kernel
theorem dX7_partOf_11 : decode cX7_partOf 11 = .ok (.iload_n 1, 1) := by decide +kernel
theorem dX7_partOf_12 : decode cX7_partOf 12 = .ok (.iaload, 1) := by decide +kernel
theorem dX7_partOf_13 : decode cX7_partOf 13 = .ok (.ireturn, 1) := by decide +kernel
theorem dX7_greatestPart_0 : decode cX7_greatestPart 0 = .ok (.aload_n 0, 1) := by decide +kernel
theorem dX7_greatestPart_1 : decode cX7_greatestPart 1 = .ok (.invokevirtual 180, 3) := by decide +kernel
theorem dX7_greatestPart_4 : decode cX7_greatestPart 4 = .ok (.aload_n 0, 1) := by decide +kernel
theorem dX7_greatestPart_5 : decode cX7_greatestPart 5 = .ok (.getfield 33, 3) := by decide +kernel
theorem dX7_greatestPart_8 : decode cX7_greatestPart 8 = .ok (.getfield 206, 3) := by decide +kernel
theorem dX7_greatestPart_11 : decode cX7_greatestPart 11 = .ok (.ireturn, 1) := by decide +kernel
theorem dX7_musts_0 : decode cX7_musts 0 = .ok (.iconst 0, 1) := by decide +kernel
theorem dX7_musts_1 : decode cX7_musts 1 = .ok (.istore_n 1, 1) := by decide +kernel
theorem dX7_musts_2 : decode cX7_musts 2 = .ok (.iconst 0, 1) := by decide +kernel
theorem dX7_musts_3 : decode cX7_musts 3 = .ok (.istore_n 2, 1) := by decide +kernel
theorem dX7_musts_4 : decode cX7_musts 4 = .ok (.iload_n 2, 1) := by decide +kernel
theorem dX7_musts_5 : decode cX7_musts 5 = .ok (.aload_n 0, 1) := by decide +kernel
theorem dX7_musts_6 : decode cX7_musts 6 = .ok (.getfield 10, 3) := by decide +kernel
theorem dX7_musts_9 : decode cX7_musts 9 = .ok (.getfield 76, 3) := by decide +kernel
theorem dX7_musts_12 : decode cX7_musts 12 = .ok (.if_icmp .ge 33, 3) := by decide +kernel
theorem dX7_musts_15 : decode cX7_musts 15 = .ok (.iload_n 1, 1) := by decide +kernel
theorem dX7_musts_16 : decode cX7_musts 16 = .ok (.aload_n 0, 1) := by decide +kernel
theorem dX7_musts_17 : decode cX7_musts 17 = .ok (.getfield 10, 3) := by decide +kernel
theorem dX7_musts_20 : decode cX7_musts 20 = .ok (.getfield 116, 3) := by decide +kernel
theorem dX7_musts_23 : decode cX7_musts 23 = .ok (.iload_n 2, 1) := by decide +kernel
theorem dX7_musts_24 : decode cX7_musts 24 = .ok (.iaload, 1) := by decide +kernel
theorem dX7_musts_25 : decode cX7_musts 25 = .ok (.iconst 3, 1) := by decide +kernel
theorem dX7_musts_26 : decode cX7_musts 26 = .ok (.if_icmp .ne 7, 3) := by decide +kernel
theorem dX7_musts_29 : decode cX7_musts 29 = .ok (.iconst 1, 1) := by decide +kernel
theorem dX7_musts_30 : decode cX7_musts 30 = .ok (.goto 4, 3) := by decide +kernel
theorem dX7_musts_33 : decode cX7_musts 33 = .ok (.iconst 0, 1) := by decide +kernel
theorem dX7_musts_34 : decode cX7_musts 34 = .ok (.invokestatic 132, 3) := by decide +kernel
theorem dX7_musts_37 : decode cX7_musts 37 = .ok (.iadd, 1) := by decide +kernel
theorem dX7_musts_38 : decode cX7_musts 38 = .ok (.istore_n 1, 1) := by decide +kernel
theorem dX7_musts_39 : decode cX7_musts 39 = .ok (.iinc 2 1, 3) := by decide +kernel
theorem dX7_musts_42 : decode cX7_musts 42 = .ok (.goto (-38), 3) := by decide +kernel
theorem dX7_musts_45 : decode cX7_musts 45 = .ok (.iload_n 1, 1) := by decide +kernel
theorem dX7_musts_46 : decode cX7_musts 46 = .ok (.ireturn, 1) := by decide +kernel
theorem dX7_leftInHand_0 : decode cX7_leftInHand 0 = .ok (.iconst 0, 1) := by decide +kernel
theorem dX7_leftInHand_1 : decode cX7_leftInHand 1 = .ok (.istore_n 1, 1) := by decide +kernel
theorem dX7_leftInHand_2 : decode cX7_leftInHand 2 = .ok (.iconst 0, 1) := by decide +kernel
theorem dX7_leftInHand_3 : decode cX7_leftInHand 3 = .ok (.istore_n 2, 1) := by decide +kernel
theorem dX7_leftInHand_4 : decode cX7_leftInHand 4 = .ok (.iload_n 2, 1) := by decide +kernel
theorem dX7_leftInHand_5 : decode cX7_leftInHand 5 = .ok (.aload_n 0, 1) := by decide +kernel
theorem dX7_leftInHand_6 : decode cX7_leftInHand 6 = .ok (.getfield 10, 3) := by decide +kernel
theorem dX7_leftInHand_9 : decode cX7_leftInHand 9 = .ok (.getfield 76, 3) := by decide +kernel
theorem dX7_leftInHand_12 : decode cX7_leftInHand 12 = .ok (.if_icmp .ge 33, 3) := by decide +kernel
theorem dX7_leftInHand_15 : decode cX7_leftInHand 15 = .ok (.iload_n 1, 1) := by decide +kernel
theorem dX7_leftInHand_16 : decode cX7_leftInHand 16 = .ok (.aload_n 0, 1) := by decide +kernel
theorem dX7_leftInHand_17 : decode cX7_leftInHand 17 = .ok (.getfield 10, 3) := by decide +kernel
theorem dX7_leftInHand_20 : decode cX7_leftInHand 20 = .ok (.getfield 190, 3) := by decide +kernel
theorem dX7_leftInHand_23 : decode cX7_leftInHand 23 = .ok (.iload_n 2, 1) := by decide +kernel
theorem dX7_leftInHand_24 : decode cX7_leftInHand 24 = .ok (.iaload, 1) := by decide +kernel
theorem dX7_leftInHand_25 : decode cX7_leftInHand 25 = .ok (.iconst (-1), 1) := by decide +kernel
theorem dX7_leftInHand_26 : decode cX7_leftInHand 26 = .ok (.if_icmp .ne 7, 3) := by decide +kernel
theorem dX7_leftInHand_29 : decode cX7_leftInHand 29 = .ok (.iconst 1, 1) := by decide +kernel
theorem dX7_leftInHand_30 : decode cX7_leftInHand 30 = .ok (.goto 4, 3) := by decide +kernel
theorem dX7_leftInHand_33 : decode cX7_leftInHand 33 = .ok (.iconst 0, 1) := by decide +kernel
theorem dX7_leftInHand_34 : decode cX7_leftInHand 34 = .ok (.invokestatic 132, 3) := by decide +kernel
theorem dX7_leftInHand_37 : decode cX7_leftInHand 37 = .ok (.iadd, 1) := by decide +kernel
theorem dX7_leftInHand_38 : decode cX7_leftInHand 38 = .ok (.istore_n 1, 1) := by decide +kernel
theorem dX7_leftInHand_39 : decode cX7_leftInHand 39 = .ok (.iinc 2 1, 3) := by decide +kernel
theorem dX7_leftInHand_42 : decode cX7_leftInHand 42 = .ok (.goto (-38), 3) := by decide +kernel
theorem dX7_leftInHand_45 : decode cX7_leftInHand 45 = .ok (.iload_n 1, 1) := by decide +kernel
theorem dX7_leftInHand_46 : decode cX7_leftInHand 46 = .ok (.ireturn, 1) := by decide +kernel
theorem dX7_takeInHand_0 : decode cX7_takeInHand 0 = .ok (.aload_n 0, 1) := by decide +kernel
theorem dX7_takeInHand_1 : decode cX7_takeInHand 1 = .ok (.getfield 19, 3) := by decide +kernel
theorem dX7_takeInHand_4 : decode cX7_takeInHand 4 = .ok (.aload_n 0, 1) := by decide +kernel
theorem dX7_takeInHand_5 : decode cX7_takeInHand 5 = .ok (.getfield 10, 3) := by decide +kernel
theorem dX7_takeInHand_8 : decode cX7_takeInHand 8 = .ok (.invokevirtual 186, 3) := by decide +kernel
theorem dX7_takeInHand_11 : decode cX7_takeInHand 11 = .ok (.aload_n 0, 1) := by decide +kernel
theorem dX7_takeInHand_12 : decode cX7_takeInHand 12 = .ok (.getfield 61, 3) := by decide +kernel
theorem dX7_takeInHand_15 : decode cX7_takeInHand 15 = .ok (.iconst 0, 1) := by decide +kernel
theorem dX7_takeInHand_16 : decode cX7_takeInHand 16 = .ok (.aload_n 0, 1) := by decide +kernel
theorem dX7_takeInHand_17 : decode cX7_takeInHand 17 = .ok (.getfield 10, 3) := by decide +kernel
theorem dX7_takeInHand_20 : decode cX7_takeInHand 20 = .ok (.getfield 190, 3) := by decide +kernel
theorem dX7_takeInHand_23 : decode cX7_takeInHand 23 = .ok (.iconst 0, 1) := by decide +kernel
theorem dX7_takeInHand_24 : decode cX7_takeInHand 24 = .ok (.aload_n 0, 1) := by decide +kernel
theorem dX7_takeInHand_25 : decode cX7_takeInHand 25 = .ok (.getfield 10, 3) := by decide +kernel
theorem dX7_takeInHand_28 : decode cX7_takeInHand 28 = .ok (.getfield 76, 3) := by decide +kernel
theorem dX7_takeInHand_31 : decode cX7_takeInHand 31 = .ok (.invokestatic 298, 3) := by decide +kernel
theorem dX7_takeInHand_34 : decode cX7_takeInHand 34 = .ok (.return_, 1) := by decide +kernel
theorem dX7_firstShut_0 : decode cX7_firstShut 0 = .ok (.iconst 0, 1) := by decide +kernel
theorem dX7_firstShut_1 : decode cX7_firstShut 1 = .ok (.istore_n 1, 1) := by decide +kernel
theorem dX7_firstShut_2 : decode cX7_firstShut 2 = .ok (.iload_n 1, 1) := by decide +kernel
theorem dX7_firstShut_3 : decode cX7_firstShut 3 = .ok (.aload_n 0, 1) := by decide +kernel
theorem dX7_firstShut_4 : decode cX7_firstShut 4 = .ok (.getfield 10, 3) := by decide +kernel
theorem dX7_firstShut_7 : decode cX7_firstShut 7 = .ok (.getfield 76, 3) := by decide +kernel
theorem dX7_firstShut_10 : decode cX7_firstShut 10 = .ok (.if_icmp .ge 44, 3) := by decide +kernel
theorem dX7_firstShut_13 : decode cX7_firstShut 13 = .ok (.aload_n 0, 1) := by decide +kernel
theorem dX7_firstShut_14 : decode cX7_firstShut 14 = .ok (.getfield 10, 3) := by decide +kernel
theorem dX7_firstShut_17 : decode cX7_firstShut 17 = .ok (.getfield 190, 3) := by decide +kernel
theorem dX7_firstShut_20 : decode cX7_firstShut 20 = .ok (.iload_n 1, 1) := by decide +kernel
theorem dX7_firstShut_21 : decode cX7_firstShut 21 = .ok (.iaload, 1) := by decide +kernel
theorem dX7_firstShut_22 : decode cX7_firstShut 22 = .ok (.iconst (-1), 1) := by decide +kernel
theorem dX7_firstShut_23 : decode cX7_firstShut 23 = .ok (.if_icmp .eq 25, 3) := by decide +kernel
theorem dX7_firstShut_26 : decode cX7_firstShut 26 = .ok (.aload_n 0, 1) := by decide +kernel
theorem dX7_firstShut_27 : decode cX7_firstShut 27 = .ok (.getfield 26, 3) := by decide +kernel
theorem dX7_firstShut_30 : decode cX7_firstShut 30 = .ok (.iload_n 1, 1) := by decide +kernel
theorem dX7_firstShut_31 : decode cX7_firstShut 31 = .ok (.aload_n 0, 1) := by decide +kernel
theorem dX7_firstShut_32 : decode cX7_firstShut 32 = .ok (.getfield 10, 3) := by decide +kernel
theorem dX7_firstShut_35 : decode cX7_firstShut 35 = .ok (.getfield 190, 3) := by decide +kernel
theorem dX7_firstShut_38 : decode cX7_firstShut 38 = .ok (.iload_n 1, 1) := by decide +kernel
theorem dX7_firstShut_39 : decode cX7_firstShut 39 = .ok (.iaload, 1) := by decide +kernel
theorem dX7_firstShut_40 : decode cX7_firstShut 40 = .ok (.invokevirtual 304, 3) := by decide +kernel
theorem dX7_firstShut_43 : decode cX7_firstShut 43 = .ok (.ifCond .ne 5, 3) := by decide +kernel
theorem dX7_firstShut_46 : decode cX7_firstShut 46 = .ok (.iload_n 1, 1) := by decide +kernel
theorem dX7_firstShut_47 : decode cX7_firstShut 47 = .ok (.ireturn, 1) := by decide +kernel
theorem dX7_firstShut_48 : decode cX7_firstShut 48 = .ok (.iinc 1 1, 3) := by decide +kernel
theorem dX7_firstShut_51 : decode cX7_firstShut 51 = .ok (.goto (-49), 3) := by decide +kernel
theorem dX7_firstShut_54 : decode cX7_firstShut 54 = .ok (.iconst (-1), 1) := by decide +kernel
theorem dX7_firstShut_55 : decode cX7_firstShut 55 = .ok (.ireturn, 1) := by decide +kernel
theorem dX7_firstClashing_0 : decode cX7_firstClashing 0 = .ok (.iconst 0, 1) := by decide +kernel
theorem dX7_firstClashing_1 : decode cX7_firstClashing 1 = .ok (.istore_n 1, 1) := by decide +kernel
theorem dX7_firstClashing_2 : decode cX7_firstClashing 2 = .ok (.iload_n 1, 1) := by decide +kernel
theorem dX7_firstClashing_3 : decode cX7_firstClashing 3 = .ok (.aload_n 0, 1) := by decide +kernel
theorem dX7_firstClashing_4 : decode cX7_firstClashing 4 = .ok (.getfield 10, 3) := by decide +kernel
theorem dX7_firstClashing_7 : decode cX7_firstClashing 7 = .ok (.getfield 76, 3) := by decide +kernel
theorem dX7_firstClashing_10 : decode cX7_firstClashing 10 = .ok (.if_icmp .ge 49, 3) := by decide +kernel
theorem dX7_firstClashing_13 : decode cX7_firstClashing 13 = .ok (.aload_n 0, 1) := by decide +kernel
theorem dX7_firstClashing_14 : decode cX7_firstClashing 14 = .ok (.getfield 10, 3) := by decide +kernel
theorem dX7_firstClashing_17 : decode cX7_firstClashing 17 = .ok (.getfield 190, 3) := by decide +kernel
theorem dX7_firstClashing_20 : decode cX7_firstClashing 20 = .ok (.iload_n 1, 1) := by decide +kernel
theorem dX7_firstClashing_21 : decode cX7_firstClashing 21 = .ok (.iaload, 1) := by decide +kernel
theorem dX7_firstClashing_22 : decode cX7_firstClashing 22 = .ok (.iconst (-1), 1) := by decide +kernel
theorem dX7_firstClashing_23 : decode cX7_firstClashing 23 = .ok (.if_icmp .eq 30, 3) := by decide +kernel
theorem dX7_firstClashing_26 : decode cX7_firstClashing 26 = .ok (.aload_n 0, 1) := by decide +kernel
theorem dX7_firstClashing_27 : decode cX7_firstClashing 27 = .ok (.iload_n 1, 1) := by decide +kernel
theorem dX7_firstClashing_28 : decode cX7_firstClashing 28 = .ok (.aload_n 0, 1) := by decide +kernel
theorem dX7_firstClashing_29 : decode cX7_firstClashing 29 = .ok (.getfield 10, 3) := by decide +kernel
theorem dX7_firstClashing_32 : decode cX7_firstClashing 32 = .ok (.getfield 190, 3) := by decide +kernel
theorem dX7_firstClashing_35 : decode cX7_firstClashing 35 = .ok (.iload_n 1, 1) := by decide +kernel
theorem dX7_firstClashing_36 : decode cX7_firstClashing 36 = .ok (.iaload, 1) := by decide +kernel
theorem dX7_firstClashing_37 : decode cX7_firstClashing 37 = .ok (.aload_n 0, 1) := by decide +kernel
theorem dX7_firstClashing_38 : decode cX7_firstClashing 38 = .ok (.getfield 10, 3) := by decide +kernel
theorem dX7_firstClashing_41 : decode cX7_firstClashing 41 = .ok (.getfield 190, 3) := by decide +kernel
theorem dX7_firstClashing_44 : decode cX7_firstClashing 44 = .ok (.invokevirtual 240, 3) := by decide +kernel
theorem dX7_firstClashing_47 : decode cX7_firstClashing 47 = .ok (.iconst (-1), 1) := by decide +kernel
theorem dX7_firstClashing_48 : decode cX7_firstClashing 48 = .ok (.if_icmp .eq 5, 3) := by decide +kernel
theorem dX7_firstClashing_51 : decode cX7_firstClashing 51 = .ok (.iload_n 1, 1) := by decide +kernel
theorem dX7_firstClashing_52 : decode cX7_firstClashing 52 = .ok (.ireturn, 1) := by decide +kernel
theorem dX7_firstClashing_53 : decode cX7_firstClashing 53 = .ok (.iinc 1 1, 3) := by decide +kernel
theorem dX7_firstClashing_56 : decode cX7_firstClashing 56 = .ok (.goto (-54), 3) := by decide +kernel
theorem dX7_firstClashing_59 : decode cX7_firstClashing 59 = .ok (.iconst (-1), 1) := by decide +kernel
theorem dX7_firstClashing_60 : decode cX7_firstClashing 60 = .ok (.ireturn, 1) := by decide +kernel
theorem dX7_firstMissing_0 : decode cX7_firstMissing 0 = .ok (.iconst 0, 1) := by decide +kernel
theorem dX7_firstMissing_1 : decode cX7_firstMissing 1 = .ok (.istore_n 1, 1) := by decide +kernel
theorem dX7_firstMissing_2 : decode cX7_firstMissing 2 = .ok (.iload_n 1, 1) := by decide +kernel
theorem dX7_firstMissing_3 : decode cX7_firstMissing 3 = .ok (.aload_n 0, 1) := by decide +kernel
theorem dX7_firstMissing_4 : decode cX7_firstMissing 4 = .ok (.getfield 10, 3) := by decide +kernel
theorem dX7_firstMissing_7 : decode cX7_firstMissing 7 = .ok (.getfield 76, 3) := by decide +kernel
theorem dX7_firstMissing_10 : decode cX7_firstMissing 10 = .ok (.if_icmp .ge 37, 3) := by decide +kernel
theorem dX7_firstMissing_13 : decode cX7_firstMissing 13 = .ok (.aload_n 0, 1) := by decide +kernel
theorem dX7_firstMissing_14 : decode cX7_firstMissing 14 = .ok (.getfield 10, 3) := by decide +kernel
theorem dX7_firstMissing_17 : decode cX7_firstMissing 17 = .ok (.getfield 116, 3) := by decide +kernel
theorem dX7_firstMissing_20 : decode cX7_firstMissing 20 = .ok (.iload_n 1, 1) := by decide +kernel
theorem dX7_firstMissing_21 : decode cX7_firstMissing 21 = .ok (.iaload, 1) := by decide +kernel
theorem dX7_firstMissing_22 : decode cX7_firstMissing 22 = .ok (.iconst 3, 1) := by decide +kernel
theorem dX7_firstMissing_23 : decode cX7_firstMissing 23 = .ok (.if_icmp .ne 18, 3) := by decide +kernel
theorem dX7_firstMissing_26 : decode cX7_firstMissing 26 = .ok (.aload_n 0, 1) := by decide +kernel
theorem dX7_firstMissing_27 : decode cX7_firstMissing 27 = .ok (.getfield 10, 3) := by decide +kernel
theorem dX7_firstMissing_30 : decode cX7_firstMissing 30 = .ok (.getfield 190, 3) := by decide +kernel
theorem dX7_firstMissing_33 : decode cX7_firstMissing 33 = .ok (.iload_n 1, 1) := by decide +kernel
theorem dX7_firstMissing_34 : decode cX7_firstMissing 34 = .ok (.iaload, 1) := by decide +kernel
theorem dX7_firstMissing_35 : decode cX7_firstMissing 35 = .ok (.iconst (-1), 1) := by decide +kernel
theorem dX7_firstMissing_36 : decode cX7_firstMissing 36 = .ok (.if_icmp .ne 5, 3) := by decide +kernel
theorem dX7_firstMissing_39 : decode cX7_firstMissing 39 = .ok (.iload_n 1, 1) := by decide +kernel
theorem dX7_firstMissing_40 : decode cX7_firstMissing 40 = .ok (.ireturn, 1) := by decide +kernel
theorem dX7_firstMissing_41 : decode cX7_firstMissing 41 = .ok (.iinc 1 1, 3) := by decide +kernel
theorem dX7_firstMissing_44 : decode cX7_firstMissing 44 = .ok (.goto (-42), 3) := by decide +kernel
theorem dX7_firstMissing_47 : decode cX7_firstMissing 47 = .ok (.iconst (-1), 1) := by decide +kernel
theorem dX7_firstMissing_48 : decode cX7_firstMissing 48 = .ok (.ireturn, 1) := by decide +kernel
theorem dX7_firstHit_0 : decode cX7_firstHit 0 = .ok (.aload_n 0, 1) := by decide +kernel
theorem dX7_firstHit_1 : decode cX7_firstHit 1 = .ok (.getfield 26, 3) := by decide +kernel
theorem dX7_firstHit_4 : decode cX7_firstHit 4 = .ok (.iload_n 1, 1) := by decide +kernel
theorem dX7_firstHit_5 : decode cX7_firstHit 5 = .ok (.iload_n 2, 1) := by decide +kernel
theorem dX7_firstHit_6 : decode cX7_firstHit 6 = .ok (.invokevirtual 256, 3) := by decide +kernel
theorem dX7_firstHit_9 : decode cX7_firstHit 9 = .ok (.astore 4, 2) := by decide +kernel
theorem dX7_firstHit_11 : decode cX7_firstHit 11 = .ok (.iconst 0, 1) := by decide +kernel
theorem dX7_firstHit_12 : decode cX7_firstHit 12 = .ok (.istore 5, 2) := by decide +kernel
theorem dX7_firstHit_14 : decode cX7_firstHit 14 = .ok (.iload 5, 2) := by decide +kernel
theorem dX7_firstHit_16 : decode cX7_firstHit 16 = .ok (.aload_n 0, 1) := by decide +kernel
theorem dX7_firstHit_17 : decode cX7_firstHit 17 = .ok (.getfield 10, 3) := by decide +kernel
theorem dX7_firstHit_20 : decode cX7_firstHit 20 = .ok (.getfield 76, 3) := by decide +kernel
theorem dX7_firstHit_23 : decode cX7_firstHit 23 = .ok (.if_icmp .ge 47, 3) := by decide +kernel
theorem dX7_firstHit_26 : decode cX7_firstHit 26 = .ok (.iload 5, 2) := by decide +kernel
theorem dX7_firstHit_28 : decode cX7_firstHit 28 = .ok (.iload_n 1, 1) := by decide +kernel
theorem dX7_firstHit_29 : decode cX7_firstHit 29 = .ok (.if_icmp .eq 35, 3) := by decide +kernel
theorem dX7_firstHit_32 : decode cX7_firstHit 32 = .ok (.aload_n 3, 1) := by decide +kernel
theorem dX7_firstHit_33 : decode cX7_firstHit 33 = .ok (.iload 5, 2) := by decide +kernel
theorem dX7_firstHit_35 : decode cX7_firstHit 35 = .ok (.iaload, 1) := by decide +kernel
theorem dX7_firstHit_36 : decode cX7_firstHit 36 = .ok (.iconst (-1), 1) := by decide +kernel
theorem dX7_firstHit_37 : decode cX7_firstHit 37 = .ok (.if_icmp .eq 27, 3) := by decide +kernel
theorem dX7_firstHit_40 : decode cX7_firstHit 40 = .ok (.aload 4, 2) := by decide +kernel
theorem dX7_firstHit_42 : decode cX7_firstHit 42 = .ok (.aload_n 0, 1) := by decide +kernel
theorem dX7_firstHit_43 : decode cX7_firstHit 43 = .ok (.getfield 26, 3) := by decide +kernel
theorem dX7_firstHit_46 : decode cX7_firstHit 46 = .ok (.iload 5, 2) := by decide +kernel
theorem dX7_firstHit_48 : decode cX7_firstHit 48 = .ok (.aload_n 3, 1) := by decide +kernel
theorem dX7_firstHit_49 : decode cX7_firstHit 49 = .ok (.iload 5, 2) := by decide +kernel
theorem dX7_firstHit_51 : decode cX7_firstHit 51 = .ok (.iaload, 1) := by decide +kernel
theorem dX7_firstHit_52 : decode cX7_firstHit 52 = .ok (.invokevirtual 256, 3) := by decide +kernel
theorem dX7_firstHit_55 : decode cX7_firstHit 55 = .ok (.invokevirtual 165, 3) := by decide +kernel
theorem dX7_firstHit_58 : decode cX7_firstHit 58 = .ok (.ifCond .eq 6, 3) := by decide +kernel
theorem dX7_firstHit_61 : decode cX7_firstHit 61 = .ok (.iload 5, 2) := by decide +kernel
theorem dX7_firstHit_63 : decode cX7_firstHit 63 = .ok (.ireturn, 1) := by decide +kernel
theorem dX7_firstHit_64 : decode cX7_firstHit 64 = .ok (.iinc 5 1, 3) := by decide +kernel
theorem dX7_firstHit_67 : decode cX7_firstHit 67 = .ok (.goto (-53), 3) := by decide +kernel
theorem dX7_firstHit_70 : decode cX7_firstHit 70 = .ok (.iconst (-1), 1) := by decide +kernel
theorem dX7_firstHit_71 : decode cX7_firstHit 71 = .ok (.ireturn, 1) := by decide +kernel
theorem dX7_cheapestWay_0 : decode cX7_cheapestWay 0 = .ok (.iconst 0, 1) := by decide +kernel
theorem dX7_cheapestWay_1 : decode cX7_cheapestWay 1 = .ok (.istore_n 3, 1) := by decide +kernel
theorem dX7_cheapestWay_2 : decode cX7_cheapestWay 2 = .ok (.iload_n 3, 1) := by decide +kernel
theorem dX7_cheapestWay_3 : decode cX7_cheapestWay 3 = .ok (.aload_n 0, 1) := by decide +kernel
theorem dX7_cheapestWay_4 : decode cX7_cheapestWay 4 = .ok (.getfield 10, 3) := by decide +kernel
theorem dX7_cheapestWay_7 : decode cX7_cheapestWay 7 = .ok (.iload_n 1, 1) := by decide +kernel
theorem dX7_cheapestWay_8 : decode cX7_cheapestWay 8 = .ok (.invokevirtual 119, 3) := by decide +kernel
theorem dX7_cheapestWay_11 : decode cX7_cheapestWay 11 = .ok (.if_icmp .ge 48, 3) := by decide +kernel
theorem dX7_cheapestWay_14 : decode cX7_cheapestWay 14 = .ok (.aload_n 0, 1) := by decide +kernel
theorem dX7_cheapestWay_15 : decode cX7_cheapestWay 15 = .ok (.getfield 10, 3) := by decide +kernel
theorem dX7_cheapestWay_18 : decode cX7_cheapestWay 18 = .ok (.iload_n 1, 1) := by decide +kernel
theorem dX7_cheapestWay_19 : decode cX7_cheapestWay 19 = .ok (.iload_n 3, 1) := by decide +kernel
theorem dX7_cheapestWay_20 : decode cX7_cheapestWay 20 = .ok (.invokevirtual 306, 3) := by decide +kernel
theorem dX7_cheapestWay_23 : decode cX7_cheapestWay 23 = .ok (.istore 4, 2) := by decide +kernel
theorem dX7_cheapestWay_25 : decode cX7_cheapestWay 25 = .ok (.aload_n 0, 1) := by decide +kernel
theorem dX7_cheapestWay_26 : decode cX7_cheapestWay 26 = .ok (.getfield 26, 3) := by decide +kernel
theorem dX7_cheapestWay_29 : decode cX7_cheapestWay 29 = .ok (.iload_n 1, 1) := by decide +kernel
theorem dX7_cheapestWay_30 : decode cX7_cheapestWay 30 = .ok (.iload 4, 2) := by decide +kernel
theorem dX7_cheapestWay_32 : decode cX7_cheapestWay 32 = .ok (.invokevirtual 304, 3) := by decide +kernel
theorem dX7_cheapestWay_35 : decode cX7_cheapestWay 35 = .ok (.ifCond .eq 18, 3) := by decide +kernel
theorem dX7_cheapestWay_38 : decode cX7_cheapestWay 38 = .ok (.aload_n 0, 1) := by decide +kernel
theorem dX7_cheapestWay_39 : decode cX7_cheapestWay 39 = .ok (.iload_n 1, 1) := by decide +kernel
theorem dX7_cheapestWay_40 : decode cX7_cheapestWay 40 = .ok (.iload 4, 2) := by decide +kernel
theorem dX7_cheapestWay_42 : decode cX7_cheapestWay 42 = .ok (.aload_n 2, 1) := by decide +kernel
theorem dX7_cheapestWay_43 : decode cX7_cheapestWay 43 = .ok (.invokevirtual 240, 3) := by decide +kernel
theorem dX7_cheapestWay_46 : decode cX7_cheapestWay 46 = .ok (.iconst (-1), 1) := by decide +kernel
theorem dX7_cheapestWay_47 : decode cX7_cheapestWay 47 = .ok (.if_icmp .ne 6, 3) := by decide +kernel
theorem dX7_cheapestWay_50 : decode cX7_cheapestWay 50 = .ok (.iload 4, 2) := by decide +kernel
theorem dX7_cheapestWay_52 : decode cX7_cheapestWay 52 = .ok (.ireturn, 1) := by decide +kernel
theorem dX7_cheapestWay_53 : decode cX7_cheapestWay 53 = .ok (.iinc 3 1, 3) := by decide +kernel
theorem dX7_cheapestWay_56 : decode cX7_cheapestWay 56 = .ok (.goto (-54), 3) := by decide +kernel
theorem dX7_cheapestWay_59 : decode cX7_cheapestWay 59 = .ok (.iconst (-1), 1) := by decide +kernel
theorem dX7_cheapestWay_60 : decode cX7_cheapestWay 60 = .ok (.ireturn, 1) := by decide +kernel
end
section
theorem dX8_init_0 : decode cX8_init 0 = .ok (.aload_n 0, 1) := by decide +kernel
theorem dX8_init_1 : decode cX8_init 1 = .ok (.invokespecial 1, 3) := by decide +kernel
theorem dX8_init_4 : decode cX8_init 4 = .ok (.aload_n 0, 1) := by decide +kernel
theorem dX8_init_5 : decode cX8_init 5 = .ok (.bipush 24, 2) := by decide +kernel
theorem dX8_init_7 : decode cX8_init 7 = .ok (.newarray .int, 2) := by decide +kernel
theorem dX8_init_9 : decode cX8_init 9 = .ok (.putfield 7, 3) := by decide +kernel
theorem dX8_init_12 : decode cX8_init 12 = .ok (.aload_n 0, 1) := by decide +kernel
theorem dX8_init_13 : decode cX8_init 13 = .ok (.bipush 24, 2) := by decide +kernel
theorem dX8_init_15 : decode cX8_init 15 = .ok (.newarray .int, 2) := by decide +kernel
theorem dX8_init_17 : decode cX8_init 17 = .ok (.putfield 13, 3) := by decide +kernel
theorem dX8_init_20 : decode cX8_init 20 = .ok (.aload_n 0, 1) := by decide +kernel
theorem dX8_init_21 : decode cX8_init 21 = .ok (.bipush 24, 2) := by decide +kernel
theorem dX8_init_23 : decode cX8_init 23 = .ok (.newarray .int, 2) := by decide +kernel
theorem dX8_init_25 : decode cX8_init 25 = .ok (.putfield 16, 3) := by decide +kernel
theorem dX8_init_28 : decode cX8_init 28 = .ok (.aload_n 0, 1) := by decide +kernel
theorem dX8_init_29 : decode cX8_init 29 = .ok (.bipush 24, 2) := by decide +kernel
theorem dX8_init_31 : decode cX8_init 31 = .ok (.newarray .int, 2) := by decide +kernel
theorem dX8_init_33 : decode cX8_init 33 = .ok (.putfield 19, 3) := by decide +kernel
theorem dX8_init_36 : decode cX8_init 36 = .ok (.aload_n 0, 1) := by decide +kernel
theorem dX8_init_37 : decode cX8_init 37 = .ok (.bipush 24, 2) := by decide +kernel
theorem dX8_init_39 : decode cX8_init 39 = .ok (.newarray .int, 2) := by decide +kernel
theorem dX8_init_41 : decode cX8_init 41 = .ok (.putfield 22, 3) := by decide +kernel
theorem dX8_init_44 : decode cX8_init 44 = .ok (.aload_n 0, 1) := by decide +kernel
theorem dX8_init_45 : decode cX8_init 45 = .ok (.bipush 24, 2) := by decide +kernel
theorem dX8_init_47 : decode cX8_init 47 = .ok (.newarray .int, 2) := by decide +kernel
theorem dX8_init_49 : decode cX8_init 49 = .ok (.putfield 25, 3) := by decide +kernel
theorem dX8_init_52 : decode cX8_init 52 = .ok (.aload_n 0, 1) := by decide +kernel
theorem dX8_init_53 : decode cX8_init 53 = .ok (.bipush 24, 2) := by decide +kernel
theorem dX8_init_55 : decode cX8_init 55 = .ok (.newarray .int, 2) := by decide +kernel
theorem dX8_init_57 : decode cX8_init 57 = .ok (.putfield 28, 3) := by decide +kernel
theorem dX8_init_60 : decode cX8_init 60 = .ok (.aload_n 0, 1) := by decide +kernel
theorem dX8_init_61 : decode cX8_init 61 = .ok (.bipush 20, 2) := by decide +kernel
theorem dX8_init_63 : decode cX8_init 63 = .ok (.newarray .int, 2) := by decide +kernel
theorem dX8_init_65 : decode cX8_init 65 = .ok (.putfield 31, 3) := by decide +kernel
theorem dX8_init_68 : decode cX8_init 68 = .ok (.aload_n 0, 1) := by decide +kernel
theorem dX8_init_69 : decode cX8_init 69 = .ok (.bipush 20, 2) := by decide +kernel
theorem dX8_init_71 : decode cX8_init 71 = .ok (.newarray .int, 2) := by decide +kernel
theorem dX8_init_73 : decode cX8_init 73 = .ok (.putfield 34, 3) := by decide +kernel
theorem dX8_init_76 : decode cX8_init 76 = .ok (.aload_n 0, 1) := by decide +kernel
theorem dX8_init_77 : decode cX8_init 77 = .ok (.sipush 1680, 3) := by decide +kernel
theorem dX8_init_80 : decode cX8_init 80 = .ok (.newarray .int, 2) := by decide +kernel
theorem dX8_init_82 : decode cX8_init 82 = .ok (.putfield 37, 3) := by decide +kernel
theorem dX8_init_85 : decode cX8_init 85 = .ok (.aload_n 0, 1) := by decide +kernel
theorem dX8_init_86 : decode cX8_init 86 = .ok (.bipush 8, 2) := by decide +kernel
theorem dX8_init_88 : decode cX8_init 88 = .ok (.newarray .long, 2) := by decide +kernel
theorem dX8_init_90 : decode cX8_init 90 = .ok (.putfield 40, 3) := by decide +kernel
theorem dX8_init_93 : decode cX8_init 93 = .ok (.aload_n 0, 1) := by decide +kernel
theorem dX8_init_94 : decode cX8_init 94 = .ok (.bipush 8, 2) := by decide +kernel
theorem dX8_init_96 : decode cX8_init 96 = .ok (.newarray .long, 2) := by decide +kernel
theorem dX8_init_98 : decode cX8_init 98 = .ok (.putfield 44, 3) := by decide +kernel
theorem dX8_init_101 : decode cX8_init 101 = .ok (.aload_n 0, 1) := by decide +kernel
theorem dX8_init_102 : decode cX8_init 102 = .ok (.bipush 24, 2) := by decide +kernel
theorem dX8_init_104 : decode cX8_init 104 = .ok (.newarray .int, 2) := by decide +kernel
theorem dX8_init_106 : decode cX8_init 106 = .ok (.putfield 47, 3) := by decide +kernel
theorem dX8_init_109 : decode cX8_init 109 = .ok (.aload_n 0, 1) := by decide +kernel
theorem dX8_init_110 : decode cX8_init 110 = .ok (.sipush 384, 3) := by decide +kernel
theorem dX8_init_113 : decode cX8_init 113 = .ok (.newarray .boolean, 2) := by decide +kernel
theorem dX8_init_115 : decode cX8_init 115 = .ok (.putfield 50, 3) := by decide +kernel
theorem dX8_init_118 : decode cX8_init 118 = .ok (.aload_n 0, 1) := by decide +kernel
theorem dX8_init_119 : decode cX8_init 119 = .ok (.bipush 24, 2) := by decide +kernel
theorem dX8_init_121 : decode cX8_init 121 = .ok (.newarray .int, 2) := by decide +kernel
theorem dX8_init_123 : decode cX8_init 123 = .ok (.putfield 54, 3) := by decide +kernel
theorem dX8_init_126 : decode cX8_init 126 = .ok (.aload_n 0, 1) := by decide +kernel
theorem dX8_init_127 : decode cX8_init 127 = .ok (.bipush 24, 2) := by decide +kernel
theorem dX8_init_129 : decode cX8_init 129 = .ok (.newarray .int, 2) := by decide +kernel
theorem dX8_init_131 : decode cX8_init 131 = .ok (.putfield 57, 3) := by decide +kernel
theorem dX8_init_134 : decode cX8_init 134 = .ok (.aload_n 0, 1) := by decide +kernel
theorem dX8_init_135 : decode cX8_init 135 = .ok (.bipush 24, 2) := by decide +kernel
theorem dX8_init_137 : decode cX8_init 137 = .ok (.newarray .int, 2) := by decide +kernel
theorem dX8_init_139 : decode cX8_init 139 = .ok (.putfield 60, 3) := by decide +kernel
theorem dX8_init_142 : decode cX8_init 142 = .ok (.aload_n 0, 1) := by decide +kernel
theorem dX8_init_143 : decode cX8_init 143 = .ok (.bipush 25, 2) := by decide +kernel
theorem dX8_init_145 : decode cX8_init 145 = .ok (.newarray .int, 2) := by decide +kernel
theorem dX8_init_147 : decode cX8_init 147 = .ok (.putfield 63, 3) := by decide +kernel
theorem dX8_init_150 : decode cX8_init 150 = .ok (.aload_n 0, 1) := by decide +kernel
theorem dX8_init_151 : decode cX8_init 151 = .ok (.bipush 24, 2) := by decide +kernel
theorem dX8_init_153 : decode cX8_init 153 = .ok (.newarray .int, 2) := by decide +kernel
theorem dX8_init_155 : decode cX8_init 155 = .ok (.putfield 66, 3) := by decide +kernel
theorem dX8_init_158 : decode cX8_init 158 = .ok (.aload_n 0, 1) := by decide +kernel
theorem dX8_init_159 : decode cX8_init 159 = .ok (.bipush 24, 2) := by decide +kernel
theorem dX8_init_161 : decode cX8_init 161 = .ok (.newarray .int, 2) := by decide +kernel
theorem dX8_init_163 : decode cX8_init 163 = .ok (.putfield 69, 3) := by decide +kernel
theorem dX8_init_166 : decode cX8_init 166 = .ok (.aload_n 0, 1) := by decide +kernel
theorem dX8_init_167 : decode cX8_init 167 = .ok (.bipush 24, 2) := by decide +kernel
theorem dX8_init_169 : decode cX8_init 169 = .ok (.newarray .int, 2) := by decide +kernel
theorem dX8_init_171 : decode cX8_init 171 = .ok (.putfield 72, 3) := by decide +kernel
theorem dX8_init_174 : decode cX8_init 174 = .ok (.aload_n 0, 1) := by decide +kernel
theorem dX8_init_175 : decode cX8_init 175 = .ok (.bipush 24, 2) := by decide +kernel
theorem dX8_init_177 : decode cX8_init 177 = .ok (.newarray .int, 2) := by decide +kernel
theorem dX8_init_179 : decode cX8_init 179 = .ok (.putfield 75, 3) := by decide +kernel
theorem dX8_init_182 : decode cX8_init 182 = .ok (.return_, 1) := by decide +kernel
theorem dX8_in_0 : decode cX8_in 0 = .ok (.iload_n 0, 1) := by decide +kernel
theorem dX8_in_1 : decode cX8_in 1 = .ok (.iload_n 1, 1) := by decide +kernel
theorem dX8_in_2 : decode cX8_in 2 = .ok (.if_icmp .lt 12, 3) := by decide +kernel
theorem dX8_in_5 : decode cX8_in 5 = .ok (.iload_n 0, 1) := by decide +kernel
theorem dX8_in_6 : decode cX8_in 6 = .ok (.iload_n 2, 1) := by decide +kernel
theorem dX8_in_7 : decode cX8_in 7 = .ok (.if_icmp .gt 7, 3) := by decide +kernel
theorem dX8_in_10 : decode cX8_in 10 = .ok (.iconst 1, 1) := by decide +kernel
theorem dX8_in_11 : decode cX8_in 11 = .ok (.goto 4, 3) := by decide +kernel
theorem dX8_in_14 : decode cX8_in 14 = .ok (.iconst 0, 1) := by decide +kernel
theorem dX8_in_15 : decode cX8_in 15 = .ok (.ireturn, 1) := by decide +kernel
theorem dX8_write_0 : decode cX8_write 0 = .ok (.iconst 0, 1) := by decide +kernel
theorem dX8_write_1 : decode cX8_write 1 = .ok (.istore_n 3, 1) := by decide +kernel
theorem dX8_write_2 : decode cX8_write 2 = .ok (.iload_n 3, 1) := by decide +kernel
theorem dX8_write_3 : decode cX8_write 3 = .ok (.iload_n 2, 1) := by decide +kernel
theorem dX8_write_4 : decode cX8_write 4 = .ok (.if_icmp .ge 31, 3) := by decide +kernel
theorem dX8_write_7 : decode cX8_write 7 = .ok (.aload_n 0, 1) := by decide +kernel
theorem dX8_write_8 : decode cX8_write 8 = .ok (.getfield 37, 3) := by decide +kernel
theorem dX8_write_11 : decode cX8_write 11 = .ok (.aload_n 0, 1) := by decide +kernel
theorem dX8_write_12 : decode cX8_write 12 = .ok (.getfield 82, 3) := by decide +kernel
theorem dX8_write_15 : decode cX8_write 15 = .ok (.aload_n 1, 1) := by decide +kernel
theorem dX8_write_16 : decode cX8_write 16 = .ok (.iload_n 3, 1) := by decide +kernel
theorem dX8_write_17 : decode cX8_write 17 = .ok (.iaload, 1) := by decide +kernel
theorem dX8_write_18 : decode cX8_write 18 = .ok (.iastore, 1) := by decide +kernel
theorem dX8_write_19 : decode cX8_write 19 = .ok (.aload_n 0, 1) := by decide +kernel
theorem dX8_write_20 : decode cX8_write 20 = .ok (.dup, 1) := by decide +kernel
theorem dX8_write_21 : decode cX8_write 21 = .ok (.getfield 82, 3) := by decide +kernel
theorem dX8_write_24 : decode cX8_write 24 = .ok (.iconst 1, 1) := by decide +kernel
theorem dX8_write_25 : decode cX8_write 25 = .ok (.iadd, 1) := by decide +kernel
theorem dX8_write_26 : decode cX8_write 26 = .ok (.putfield 82, 3) := by decide +kernel
theorem dX8_write_29 : decode cX8_write 29 = .ok (.iinc 3 1, 3) := by decide +kernel
theorem dX8_write_32 : decode cX8_write 32 = .ok (.goto (-30), 3) := by decide +kernel
theorem dX8_write_35 : decode cX8_write 35 = .ok (.return_, 1) := by decide +kernel
theorem dX8_read_0 : decode cX8_read 0 = .ok (.iconst 0, 1) := by decide +kernel
theorem dX8_read_1 : decode cX8_read 1 = .ok (.istore_n 3, 1) := by decide +kernel
theorem dX8_read_2 : decode cX8_read 2 = .ok (.iload_n 3, 1) := by decide +kernel
theorem dX8_read_3 : decode cX8_read 3 = .ok (.iload_n 2, 1) := by decide +kernel
theorem dX8_read_4 : decode cX8_read 4 = .ok (.if_icmp .ge 31, 3) := by decide +kernel
theorem dX8_read_7 : decode cX8_read 7 = .ok (.aload_n 1, 1) := by decide +kernel
theorem dX8_read_8 : decode cX8_read 8 = .ok (.iload_n 3, 1) := by decide +kernel
theorem dX8_read_9 : decode cX8_read 9 = .ok (.aload_n 0, 1) := by decide +kernel
theorem dX8_read_10 : decode cX8_read 10 = .ok (.getfield 37, 3) := by decide +kernel
theorem dX8_read_13 : decode cX8_read 13 = .ok (.aload_n 0, 1) := by decide +kernel
theorem dX8_read_14 : decode cX8_read 14 = .ok (.getfield 82, 3) := by decide +kernel
theorem dX8_read_17 : decode cX8_read 17 = .ok (.iaload, 1) := by decide +kernel
theorem dX8_read_18 : decode cX8_read 18 = .ok (.iastore, 1) := by decide +kernel
theorem dX8_read_19 : decode cX8_read 19 = .ok (.aload_n 0, 1) := by decide +kernel
theorem dX8_read_20 : decode cX8_read 20 = .ok (.dup, 1) := by decide +kernel
theorem dX8_read_21 : decode cX8_read 21 = .ok (.getfield 82, 3) := by decide +kernel
theorem dX8_read_24 : decode cX8_read 24 = .ok (.iconst 1, 1) := by decide +kernel
theorem dX8_read_25 : decode cX8_read 25 = .ok (.iadd, 1) := by decide +kernel
theorem dX8_read_26 : decode cX8_read 26 = .ok (.putfield 82, 3) := by decide +kernel
theorem dX8_read_29 : decode cX8_read 29 = .ok (.iinc 3 1, 3) := by decide +kernel
theorem dX8_read_32 : decode cX8_read 32 = .ok (.goto (-30), 3) := by decide +kernel
theorem dX8_read_35 : decode cX8_read 35 = .ok (.return_, 1) := by decide +kernel
theorem dX8_keep_0 : decode cX8_keep 0 = .ok (.aload_n 0, 1) := by decide +kernel
theorem dX8_keep_1 : decode cX8_keep 1 = .ok (.sipush 210, 3) := by decide +kernel
theorem dX8_keep_4 : decode cX8_keep 4 = .ok (.aload_n 0, 1) := by decide +kernel
theorem dX8_keep_5 : decode cX8_keep 5 = .ok (.getfield 85, 3) := by decide +kernel
theorem dX8_keep_8 : decode cX8_keep 8 = .ok (.imul, 1) := by decide +kernel
theorem dX8_keep_9 : decode cX8_keep 9 = .ok (.putfield 82, 3) := by decide +kernel
theorem dX8_keep_12 : decode cX8_keep 12 = .ok (.aload_n 0, 1) := by decide +kernel
theorem dX8_keep_13 : decode cX8_keep 13 = .ok (.getfield 37, 3) := by decide +kernel
theorem dX8_keep_16 : decode cX8_keep 16 = .ok (.aload_n 0, 1) := by decide +kernel
theorem dX8_keep_17 : decode cX8_keep 17 = .ok (.getfield 82, 3) := by decide +kernel
theorem dX8_keep_20 : decode cX8_keep 20 = .ok (.aload_n 0, 1) := by decide +kernel
theorem dX8_keep_21 : decode cX8_keep 21 = .ok (.getfield 88, 3) := by decide +kernel
theorem dX8_keep_24 : decode cX8_keep 24 = .ok (.iastore, 1) := by decide +kernel
theorem dX8_keep_25 : decode cX8_keep 25 = .ok (.aload_n 0, 1) := by decide +kernel
theorem dX8_keep_26 : decode cX8_keep 26 = .ok (.getfield 37, 3) := by decide +kernel
theorem dX8_keep_29 : decode cX8_keep 29 = .ok (.aload_n 0, 1) := by decide +kernel
theorem dX8_keep_30 : decode cX8_keep 30 = .ok (.getfield 82, 3) := by decide +kernel
theorem dX8_keep_33 : decode cX8_keep 33 = .ok (.iconst 1, 1) := by decide +kernel
theorem dX8_keep_34 : decode cX8_keep 34 = .ok (.iadd, 1) := by decide +kernel
theorem dX8_keep_35 : decode cX8_keep 35 = .ok (.aload_n 0, 1) := by decide +kernel
theorem dX8_keep_36 : decode cX8_keep 36 = .ok (.getfield 91, 3) := by decide +kernel
theorem dX8_keep_39 : decode cX8_keep 39 = .ok (.iastore, 1) := by decide +kernel
theorem dX8_keep_40 : decode cX8_keep 40 = .ok (.aload_n 0, 1) := by decide +kernel
theorem dX8_keep_41 : decode cX8_keep 41 = .ok (.dup, 1) := by decide +kernel
theorem dX8_keep_42 : decode cX8_keep 42 = .ok (.getfield 82, 3) := by decide +kernel
theorem dX8_keep_45 : decode cX8_keep 45 = .ok (.iconst 2, 1) := by decide +kernel
theorem dX8_keep_46 : decode cX8_keep 46 = .ok (.iadd, 1) := by decide +kernel
theorem dX8_keep_47 : decode cX8_keep 47 = .ok (.putfield 82, 3) := by decide +kernel
theorem dX8_keep_50 : decode cX8_keep 50 = .ok (.aload_n 0, 1) := by decide +kernel
theorem dX8_keep_51 : decode cX8_keep 51 = .ok (.aload_n 0, 1) := by decide +kernel
theorem dX8_keep_52 : decode cX8_keep 52 = .ok (.getfield 7, 3) := by decide +kernel
theorem dX8_keep_55 : decode cX8_keep 55 = .ok (.bipush 24, 2) := by decide +kernel
theorem dX8_keep_57 : decode cX8_keep 57 = .ok (.invokevirtual 94, 3) := by decide +kernel
theorem dX8_keep_60 : decode cX8_keep 60 = .ok (.aload_n 0, 1) := by decide +kernel
theorem dX8_keep_61 : decode cX8_keep 61 = .ok (.aload_n 0, 1) := by decide +kernel
theorem dX8_keep_62 : decode cX8_keep 62 = .ok (.getfield 13, 3) := by decide +kernel
theorem dX8_keep_65 : decode cX8_keep 65 = .ok (.bipush 24, 2) := by decide +kernel
theorem dX8_keep_67 : decode cX8_keep 67 = .ok (.invokevirtual 94, 3) := by decide +kernel
theorem dX8_keep_70 : decode cX8_keep 70 = .ok (.aload_n 0, 1) := by decide +kernel
theorem dX8_keep_71 : decode cX8_keep 71 = .ok (.aload_n 0, 1) := by decide +kernel
theorem dX8_keep_72 : decode cX8_keep 72 = .ok (.getfield 16, 3) := by decide +kernel
theorem dX8_keep_75 : decode cX8_keep 75 = .ok (.bipush 24, 2) := by decide +kernel
theorem dX8_keep_77 : decode cX8_keep 77 = .ok (.invokevirtual 94, 3) := by decide +kernel
theorem dX8_keep_80 : decode cX8_keep 80 = .ok (.aload_n 0, 1) := by decide +kernel
theorem dX8_keep_81 : decode cX8_keep 81 = .ok (.aload_n 0, 1) := by decide +kernel
theorem dX8_keep_82 : decode cX8_keep 82 = .ok (.getfield 19, 3) := by decide +kernel
theorem dX8_keep_85 : decode cX8_keep 85 = .ok (.bipush 24, 2) := by decide +kernel
theorem dX8_keep_87 : decode cX8_keep 87 = .ok (.invokevirtual 94, 3) := by decide +kernel
theorem dX8_keep_90 : decode cX8_keep 90 = .ok (.aload_n 0, 1) := by decide +kernel
theorem dX8_keep_91 : decode cX8_keep 91 = .ok (.aload_n 0, 1) := by decide +kernel
theorem dX8_keep_92 : decode cX8_keep 92 = .ok (.getfield 22, 3) := by decide +kernel
theorem dX8_keep_95 : decode cX8_keep 95 = .ok (.bipush 24, 2) := by decide +kernel
theorem dX8_keep_97 : decode cX8_keep 97 = .ok (.invokevirtual 94, 3) := by decide +kernel
theorem dX8_keep_100 : decode cX8_keep 100 = .ok (.aload_n 0, 1) := by decide +kernel
theorem dX8_keep_101 : decode cX8_keep 101 = .ok (.aload_n 0, 1) := by decide +kernel
theorem dX8_keep_102 : decode cX8_keep 102 = .ok (.getfield 25, 3) := by decide +kernel
theorem dX8_keep_105 : decode cX8_keep 105 = .ok (.bipush 24, 2) := by decide +kernel
theorem dX8_keep_107 : decode cX8_keep 107 = .ok (.invokevirtual 94, 3) := by decide +kernel
theorem dX8_keep_110 : decode cX8_keep 110 = .ok (.aload_n 0, 1) := by decide +kernel
theorem dX8_keep_111 : decode cX8_keep 111 = .ok (.aload_n 0, 1) := by decide +kernel
theorem dX8_keep_112 : decode cX8_keep 112 = .ok (.getfield 28, 3) := by decide +kernel
theorem dX8_keep_115 : decode cX8_keep 115 = .ok (.bipush 24, 2) := by decide +kernel
theorem dX8_keep_117 : decode cX8_keep 117 = .ok (.invokevirtual 94, 3) := by decide +kernel
theorem dX8_keep_120 : decode cX8_keep 120 = .ok (.aload_n 0, 1) := by decide +kernel
theorem dX8_keep_121 : decode cX8_keep 121 = .ok (.aload_n 0, 1) := by decide +kernel
theorem dX8_keep_122 : decode cX8_keep 122 = .ok (.getfield 31, 3) := by decide +kernel
theorem dX8_keep_125 : decode cX8_keep 125 = .ok (.bipush 20, 2) := by decide +kernel
theorem dX8_keep_127 : decode cX8_keep 127 = .ok (.invokevirtual 94, 3) := by decide +kernel
theorem dX8_keep_130 : decode cX8_keep 130 = .ok (.aload_n 0, 1) := by decide +kernel
theorem dX8_keep_131 : decode cX8_keep 131 = .ok (.aload_n 0, 1) := by decide +kernel
theorem dX8_keep_132 : decode cX8_keep 132 = .ok (.getfield 34, 3) := by decide +kernel
theorem dX8_keep_135 : decode cX8_keep 135 = .ok (.bipush 20, 2) := by decide +kernel
theorem dX8_keep_137 : decode cX8_keep 137 = .ok (.invokevirtual 94, 3) := by decide +kernel
theorem dX8_keep_140 : decode cX8_keep 140 = .ok (.aload_n 0, 1) := by decide +kernel
theorem dX8_keep_141 : decode cX8_keep 141 = .ok (.aload_n 0, 1) := by decide +kernel
theorem dX8_keep_142 : decode cX8_keep 142 = .ok (.getfield 85, 3) := by decide +kernel
theorem dX8_keep_145 : decode cX8_keep 145 = .ok (.iconst 1, 1) := by decide +kernel
theorem dX8_keep_146 : decode cX8_keep 146 = .ok (.iadd, 1) := by decide +kernel
theorem dX8_keep_147 : decode cX8_keep 147 = .ok (.bipush 8, 2) := by decide +kernel
theorem dX8_keep_149 : decode cX8_keep 149 = .ok (.irem, 1) := by decide +kernel
theorem dX8_keep_150 : decode cX8_keep 150 = .ok (.putfield 85, 3) := by decide +kernel
theorem dX8_keep_153 : decode cX8_keep 153 = .ok (.aload_n 0, 1) := by decide +kernel
theorem dX8_keep_154 : decode cX8_keep 154 = .ok (.aload_n 0, 1) := by decide +kernel
theorem dX8_keep_155 : decode cX8_keep 155 = .ok (.getfield 98, 3) := by decide +kernel
theorem dX8_keep_158 : decode cX8_keep 158 = .ok (.bipush 8, 2) := by decide +kernel
theorem dX8_keep_160 : decode cX8_keep 160 = .ok (.if_icmp .ge 12, 3) := by decide +kernel
theorem dX8_keep_163 : decode cX8_keep 163 = .ok (.aload_n 0, 1) := by decide +kernel
theorem dX8_keep_164 : decode cX8_keep 164 = .ok (.getfield 98, 3) := by decide +kernel
theorem dX8_keep_167 : decode cX8_keep 167 = .ok (.iconst 1, 1) := by decide +kernel
theorem dX8_keep_168 : decode cX8_keep 168 = .ok (.iadd, 1) := by decide +kernel
theorem dX8_keep_169 : decode cX8_keep 169 = .ok (.goto 5, 3) := by decide +kernel
theorem dX8_keep_172 : decode cX8_keep 172 = .ok (.bipush 8, 2) := by decide +kernel
theorem dX8_keep_174 : decode cX8_keep 174 = .ok (.putfield 98, 3) := by decide +kernel
theorem dX8_keep_177 : decode cX8_keep 177 = .ok (.return_, 1) := by decide +kernel
theorem dX8_undo_0 : decode cX8_undo 0 = .ok (.aload_n 0, 1) := by decide +kernel
theorem dX8_undo_1 : decode cX8_undo 1 = .ok (.iconst 0, 1) := by decide +kernel
theorem dX8_undo_2 : decode cX8_undo 2 = .ok (.putfield 78, 3) := by decide +kernel
theorem dX8_undo_5 : decode cX8_undo 5 = .ok (.aload_n 0, 1) := by decide +kernel
theorem dX8_undo_6 : decode cX8_undo 6 = .ok (.getfield 98, 3) := by decide +kernel
theorem dX8_undo_9 : decode cX8_undo 9 = .ok (.ifCond .ne 6, 3) := by decide +kernel
theorem dX8_undo_12 : decode cX8_undo 12 = .ok (.bipush (-4), 2) := by decide +kernel
theorem dX8_undo_14 : decode cX8_undo 14 = .ok (.ireturn, 1) := by decide +kernel
theorem dX8_undo_15 : decode cX8_undo 15 = .ok (.aload_n 0, 1) := by decide +kernel
theorem dX8_undo_16 : decode cX8_undo 16 = .ok (.aload_n 0, 1) := by decide +kernel
theorem dX8_undo_17 : decode cX8_undo 17 = .ok (.getfield 85, 3) := by decide +kernel
theorem dX8_undo_20 : decode cX8_undo 20 = .ok (.bipush 8, 2) := by decide +kernel
theorem dX8_undo_22 : decode cX8_undo 22 = .ok (.iadd, 1) := by decide +kernel
theorem dX8_undo_23 : decode cX8_undo 23 = .ok (.iconst 1, 1) := by decide +kernel
theorem dX8_undo_24 : decode cX8_undo 24 = .ok (.isub, 1) := by decide +kernel
theorem dX8_undo_25 : decode cX8_undo 25 = .ok (.bipush 8, 2) := by decide +kernel
theorem dX8_undo_27 : decode cX8_undo 27 = .ok (.irem, 1) := by decide +kernel
theorem dX8_undo_28 : decode cX8_undo 28 = .ok (.putfield 85, 3) := by decide +kernel
theorem dX8_undo_31 : decode cX8_undo 31 = .ok (.aload_n 0, 1) := by decide +kernel
theorem dX8_undo_32 : decode cX8_undo 32 = .ok (.dup, 1) := by decide +kernel
theorem dX8_undo_33 : decode cX8_undo 33 = .ok (.getfield 98, 3) := by decide +kernel
theorem dX8_undo_36 : decode cX8_undo 36 = .ok (.iconst 1, 1) := by decide +kernel
theorem dX8_undo_37 : decode cX8_undo 37 = .ok (.isub, 1) := by decide +kernel
theorem dX8_undo_38 : decode cX8_undo 38 = .ok (.putfield 98, 3) := by decide +kernel
theorem dX8_undo_41 : decode cX8_undo 41 = .ok (.aload_n 0, 1) := by decide +kernel
theorem dX8_undo_42 : decode cX8_undo 42 = .ok (.sipush 210, 3) := by decide +kernel
theorem dX8_undo_45 : decode cX8_undo 45 = .ok (.aload_n 0, 1) := by decide +kernel
theorem dX8_undo_46 : decode cX8_undo 46 = .ok (.getfield 85, 3) := by decide +kernel
theorem dX8_undo_49 : decode cX8_undo 49 = .ok (.imul, 1) := by decide +kernel
theorem dX8_undo_50 : decode cX8_undo 50 = .ok (.putfield 82, 3) := by decide +kernel
theorem dX8_undo_53 : decode cX8_undo 53 = .ok (.aload_n 0, 1) := by decide +kernel
theorem dX8_undo_54 : decode cX8_undo 54 = .ok (.aload_n 0, 1) := by decide +kernel
theorem dX8_undo_55 : decode cX8_undo 55 = .ok (.getfield 37, 3) := by decide +kernel
theorem dX8_undo_58 : decode cX8_undo 58 = .ok (.aload_n 0, 1) := by decide +kernel
theorem dX8_undo_59 : decode cX8_undo 59 = .ok (.getfield 82, 3) := by decide +kernel
theorem dX8_undo_62 : decode cX8_undo 62 = .ok (.iaload, 1) := by decide +kernel
theorem dX8_undo_63 : decode cX8_undo 63 = .ok (.putfield 88, 3) := by decide +kernel
theorem dX8_undo_66 : decode cX8_undo 66 = .ok (.aload_n 0, 1) := by decide +kernel
theorem dX8_undo_67 : decode cX8_undo 67 = .ok (.aload_n 0, 1) := by decide +kernel
theorem dX8_undo_68 : decode cX8_undo 68 = .ok (.getfield 37, 3) := by decide +kernel
theorem dX8_undo_71 : decode cX8_undo 71 = .ok (.aload_n 0, 1) := by decide +kernel
theorem dX8_undo_72 : decode cX8_undo 72 = .ok (.getfield 82, 3) := by decide +kernel
theorem dX8_undo_75 : decode cX8_undo 75 = .ok (.iconst 1, 1) := by decide +kernel
theorem dX8_undo_76 : decode cX8_undo 76 = .ok (.iadd, 1) := by decide +kernel
theorem dX8_undo_77 : decode cX8_undo 77 = .ok (.iaload, 1) := by decide +kernel
theorem dX8_undo_78 : decode cX8_undo 78 = .ok (.putfield 91, 3) := by decide +kernel
theorem dX8_undo_81 : decode cX8_undo 81 = .ok (.aload_n 0, 1) := by decide +kernel
theorem dX8_undo_82 : decode cX8_undo 82 = .ok (.dup, 1) := by decide +kernel
theorem dX8_undo_83 : decode cX8_undo 83 = .ok (.getfield 82, 3) := by decide +kernel
theorem dX8_undo_86 : decode cX8_undo 86 = .ok (.iconst 2, 1) := by decide +kernel
theorem dX8_undo_87 : decode cX8_undo 87 = .ok (.iadd, 1) := by decide +kernel
theorem dX8_undo_88 : decode cX8_undo 88 = .ok (.putfield 82, 3) := by decide +kernel
theorem dX8_undo_91 : decode cX8_undo 91 = .ok (.aload_n 0, 1) := by decide +kernel
theorem dX8_undo_92 : decode cX8_undo 92 = .ok (.aload_n 0, 1) := by decide +kernel
theorem dX8_undo_93 : decode cX8_undo 93 = .ok (.getfield 7, 3) := by decide +kernel
theorem dX8_undo_96 : decode cX8_undo 96 = .ok (.bipush 24, 2) := by decide +kernel
theorem dX8_undo_98 : decode cX8_undo 98 = .ok (.invokevirtual 101, 3) := by decide +kernel
theorem dX8_undo_101 : decode cX8_undo 101 = .ok (.aload_n 0, 1) := by decide +kernel
theorem dX8_undo_102 : decode cX8_undo 102 = .ok (.aload_n 0, 1) := by decide +kernel
theorem dX8_undo_103 : decode cX8_undo 103 = .ok (.getfield 13, 3) := by decide +kernel
theorem dX8_undo_106 : decode cX8_undo 106 = .ok (.bipush 24, 2) := by decide +kernel
theorem dX8_undo_108 : decode cX8_undo 108 = .ok (.invokevirtual 101, 3) := by decide +kernel
theorem dX8_undo_111 : decode cX8_undo 111 = .ok (.aload_n 0, 1) := by decide +kernel
theorem dX8_undo_112 : decode cX8_undo 112 = .ok (.aload_n 0, 1) := by decide +kernel
theorem dX8_undo_113 : decode cX8_undo 113 = .ok (.getfield 16, 3) := by decide +kernel
theorem dX8_undo_116 : decode cX8_undo 116 = .ok (.bipush 24, 2) := by decide +kernel
theorem dX8_undo_118 : decode cX8_undo 118 = .ok (.invokevirtual 101, 3) := by decide +kernel
theorem dX8_undo_121 : decode cX8_undo 121 = .ok (.aload_n 0, 1) := by decide +kernel
theorem dX8_undo_122 : decode cX8_undo 122 = .ok (.aload_n 0, 1) := by decide +kernel
theorem dX8_undo_123 : decode cX8_undo 123 = .ok (.getfield 19, 3) := by decide +kernel
theorem dX8_undo_126 : decode cX8_undo 126 = .ok (.bipush 24, 2) := by decide +kernel
theorem dX8_undo_128 : decode cX8_undo 128 = .ok (.invokevirtual 101, 3) := by decide +kernel
theorem dX8_undo_131 : decode cX8_undo 131 = .ok (.aload_n 0, 1) := by decide +kernel
theorem dX8_undo_132 : decode cX8_undo 132 = .ok (.aload_n 0, 1) := by decide +kernel
theorem dX8_undo_133 : decode cX8_undo 133 = .ok (.getfield 22, 3) := by decide +kernel
theorem dX8_undo_136 : decode cX8_undo 136 = .ok (.bipush 24, 2) := by decide +kernel
theorem dX8_undo_138 : decode cX8_undo 138 = .ok (.invokevirtual 101, 3) := by decide +kernel
theorem dX8_undo_141 : decode cX8_undo 141 = .ok (.aload_n 0, 1) := by decide +kernel
theorem dX8_undo_142 : decode cX8_undo 142 = .ok (.aload_n 0, 1) := by decide +kernel
theorem dX8_undo_143 : decode cX8_undo 143 = .ok (.getfield 25, 3) := by decide +kernel
theorem dX8_undo_146 : decode cX8_undo 146 = .ok (.bipush 24, 2) := by decide +kernel
theorem dX8_undo_148 : decode cX8_undo 148 = .ok (.invokevirtual 101, 3) := by decide +kernel
theorem dX8_undo_151 : decode cX8_undo 151 = .ok (.aload_n 0, 1) := by decide +kernel
theorem dX8_undo_152 : decode cX8_undo 152 = .ok (.aload_n 0, 1) := by decide +kernel
theorem dX8_undo_153 : decode cX8_undo 153 = .ok (.getfield 28, 3) := by decide +kernel
theorem dX8_undo_156 : decode cX8_undo 156 = .ok (.bipush 24, 2) := by decide +kernel
theorem dX8_undo_158 : decode cX8_undo 158 = .ok (.invokevirtual 101, 3) := by decide +kernel
theorem dX8_undo_161 : decode cX8_undo 161 = .ok (.aload_n 0, 1) := by decide +kernel
theorem dX8_undo_162 : decode cX8_undo 162 = .ok (.aload_n 0, 1) := by decide +kernel
theorem dX8_undo_163 : decode cX8_undo 163 = .ok (.getfield 31, 3) := by decide +kernel
theorem dX8_undo_166 : decode cX8_undo 166 = .ok (.bipush 20, 2) := by decide +kernel
theorem dX8_undo_168 : decode cX8_undo 168 = .ok (.invokevirtual 101, 3) := by decide +kernel
theorem dX8_undo_171 : decode cX8_undo 171 = .ok (.aload_n 0, 1) := by decide +kernel
theorem dX8_undo_172 : decode cX8_undo 172 = .ok (.aload_n 0, 1) := by decide +kernel
theorem dX8_undo_173 : decode cX8_undo 173 = .ok (.getfield 34, 3) := by decide +kernel
theorem dX8_undo_176 : decode cX8_undo 176 = .ok (.bipush 20, 2) := by decide +kernel
theorem dX8_undo_178 : decode cX8_undo 178 = .ok (.invokevirtual 101, 3) := by decide +kernel
theorem dX8_undo_181 : decode cX8_undo 181 = .ok (.aload_n 0, 1) := by decide +kernel
theorem dX8_undo_182 : decode cX8_undo 182 = .ok (.getfield 98, 3) := by decide +kernel
theorem dX8_undo_185 : decode cX8_undo 185 = .ok (.ireturn, 1) := by decide +kernel
theorem dX8_isPlace_0 : decode cX8_isPlace 0 = .ok (.iload_n 0, 1) := by decide +kernel
theorem dX8_isPlace_1 : decode cX8_isPlace 1 = .ok (.iconst 0, 1) := by decide +kernel
theorem dX8_isPlace_2 : decode cX8_isPlace 2 = .ok (.sipush 1000, 3) := by decide +kernel
theorem dX8_isPlace_5 : decode cX8_isPlace 5 = .ok (.invokestatic 104, 3) := by decide +kernel
theorem dX8_isPlace_8 : decode cX8_isPlace 8 = .ok (.ifCond .eq 18, 3) := by decide +kernel
theorem dX8_isPlace_11 : decode cX8_isPlace 11 = .ok (.iload_n 1, 1) := by decide +kernel
theorem dX8_isPlace_12 : decode cX8_isPlace 12 = .ok (.iconst 0, 1) := by decide +kernel
theorem dX8_isPlace_13 : decode cX8_isPlace 13 = .ok (.sipush 1000, 3) := by decide +kernel
theorem dX8_isPlace_16 : decode cX8_isPlace 16 = .ok (.invokestatic 104, 3) := by decide +kernel
theorem dX8_isPlace_19 : decode cX8_isPlace 19 = .ok (.ifCond .eq 7, 3) := by decide +kernel
theorem dX8_isPlace_22 : decode cX8_isPlace 22 = .ok (.iconst 1, 1) := by decide +kernel
theorem dX8_isPlace_23 : decode cX8_isPlace 23 = .ok (.goto 4, 3) := by decide +kernel
theorem dX8_isPlace_26 : decode cX8_isPlace 26 = .ok (.iconst 0, 1) := by decide +kernel
theorem dX8_isPlace_27 : decode cX8_isPlace 27 = .ok (.ireturn, 1) := by decide +kernel
theorem dX8_isName_0 : decode cX8_isName 0 = .ok (.iload_n 1, 1) := by decide +kernel
theorem dX8_isName_1 : decode cX8_isName 1 = .ok (.iconst 0, 1) := by decide +kernel
theorem dX8_isName_2 : decode cX8_isName 2 = .ok (.aload_n 0, 1) := by decide +kernel
theorem dX8_isName_3 : decode cX8_isName 3 = .ok (.getfield 88, 3) := by decide +kernel
theorem dX8_isName_6 : decode cX8_isName 6 = .ok (.iconst 1, 1) := by decide +kernel
theorem dX8_isName_7 : decode cX8_isName 7 = .ok (.isub, 1) := by decide +kernel
theorem dX8_isName_8 : decode cX8_isName 8 = .ok (.invokestatic 104, 3) := by decide +kernel
theorem dX8_isName_11 : decode cX8_isName 11 = .ok (.ireturn, 1) := by decide +kernel
theorem dX8_name_0 : decode cX8_name 0 = .ok (.aload_n 0, 1) := by decide +kernel
theorem dX8_name_1 : decode cX8_name 1 = .ok (.iconst 0, 1) := by decide +kernel
theorem dX8_name_2 : decode cX8_name 2 = .ok (.putfield 78, 3) := by decide +kernel
theorem dX8_name_5 : decode cX8_name 5 = .ok (.iload_n 1, 1) := by decide +kernel
theorem dX8_name_6 : decode cX8_name 6 = .ok (.iconst 0, 1) := by decide +kernel
theorem dX8_name_7 : decode cX8_name 7 = .ok (.iconst 3, 1) := by decide +kernel
theorem dX8_name_8 : decode cX8_name 8 = .ok (.invokestatic 104, 3) := by decide +kernel
theorem dX8_name_11 : decode cX8_name 11 = .ok (.ifCond .eq 11, 3) := by decide +kernel
theorem dX8_name_14 : decode cX8_name 14 = .ok (.iload_n 2, 1) := by decide +kernel
theorem dX8_name_15 : decode cX8_name 15 = .ok (.iload_n 3, 1) := by decide +kernel
theorem dX8_name_16 : decode cX8_name 16 = .ok (.invokestatic 108, 3) := by decide +kernel
theorem dX8_name_19 : decode cX8_name 19 = .ok (.ifCond .ne 6, 3) := by decide +kernel
theorem dX8_name_22 : decode cX8_name 22 = .ok (.bipush (-3), 2) := by decide +kernel
theorem dX8_name_24 : decode cX8_name 24 = .ok (.ireturn, 1) := by decide +kernel
theorem dX8_name_25 : decode cX8_name 25 = .ok (.aload_n 0, 1) := by decide +kernel
theorem dX8_name_26 : decode cX8_name 26 = .ok (.getfield 88, 3) := by decide +kernel
theorem dX8_name_29 : decode cX8_name 29 = .ok (.bipush 24, 2) := by decide +kernel
theorem dX8_name_31 : decode cX8_name 31 = .ok (.if_icmp .ne 6, 3) := by decide +kernel
theorem dX8_name_34 : decode cX8_name 34 = .ok (.bipush (-5), 2) := by decide +kernel
theorem dX8_name_36 : decode cX8_name 36 = .ok (.ireturn, 1) := by decide +kernel
theorem dX8_name_37 : decode cX8_name 37 = .ok (.aload_n 0, 1) := by decide +kernel
theorem dX8_name_38 : decode cX8_name 38 = .ok (.invokevirtual 112, 3) := by decide +kernel
theorem dX8_name_41 : decode cX8_name 41 = .ok (.aload_n 0, 1) := by decide +kernel
theorem dX8_name_42 : decode cX8_name 42 = .ok (.getfield 7, 3) := by decide +kernel
theorem dX8_name_45 : decode cX8_name 45 = .ok (.aload_n 0, 1) := by decide +kernel
theorem dX8_name_46 : decode cX8_name 46 = .ok (.getfield 88, 3) := by decide +kernel
theorem dX8_name_49 : decode cX8_name 49 = .ok (.iload_n 1, 1) := by decide +kernel
theorem dX8_name_50 : decode cX8_name 50 = .ok (.iastore, 1) := by decide +kernel
theorem dX8_name_51 : decode cX8_name 51 = .ok (.aload_n 0, 1) := by decide +kernel
theorem dX8_name_52 : decode cX8_name 52 = .ok (.getfield 13, 3) := by decide +kernel
theorem dX8_name_55 : decode cX8_name 55 = .ok (.aload_n 0, 1) := by decide +kernel
theorem dX8_name_56 : decode cX8_name 56 = .ok (.getfield 88, 3) := by decide +kernel
theorem dX8_name_59 : decode cX8_name 59 = .ok (.iload_n 2, 1) := by decide +kernel
theorem dX8_name_60 : decode cX8_name 60 = .ok (.iastore, 1) := by decide +kernel
theorem dX8_name_61 : decode cX8_name 61 = .ok (.aload_n 0, 1) := by decide +kernel
theorem dX8_name_62 : decode cX8_name 62 = .ok (.getfield 16, 3) := by decide +kernel
theorem dX8_name_65 : decode cX8_name 65 = .ok (.aload_n 0, 1) := by decide +kernel
theorem dX8_name_66 : decode cX8_name 66 = .ok (.getfield 88, 3) := by decide +kernel
theorem dX8_name_69 : decode cX8_name 69 = .ok (.iload_n 3, 1) := by decide +kernel
theorem dX8_name_70 : decode cX8_name 70 = .ok (.iastore, 1) := by decide +kernel
theorem dX8_name_71 : decode cX8_name 71 = .ok (.aload_n 0, 1) := by decide +kernel
theorem dX8_name_72 : decode cX8_name 72 = .ok (.getfield 19, 3) := by decide +kernel
theorem dX8_name_75 : decode cX8_name 75 = .ok (.aload_n 0, 1) := by decide +kernel
theorem dX8_name_76 : decode cX8_name 76 = .ok (.getfield 88, 3) := by decide +kernel
theorem dX8_name_79 : decode cX8_name 79 = .ok (.bipush 20, 2) := by decide +kernel
theorem dX8_name_81 : decode cX8_name 81 = .ok (.iastore, 1) := by decide +kernel
theorem dX8_name_82 : decode cX8_name 82 = .ok (.aload_n 0, 1) := by decide +kernel
theorem dX8_name_83 : decode cX8_name 83 = .ok (.getfield 22, 3) := by decide +kernel
theorem dX8_name_86 : decode cX8_name 86 = .ok (.aload_n 0, 1) := by decide +kernel
theorem dX8_name_87 : decode cX8_name 87 = .ok (.getfield 88, 3) := by decide +kernel
theorem dX8_name_90 : decode cX8_name 90 = .ok (.bipush 8, 2) := by decide +kernel
theorem dX8_name_92 : decode cX8_name 92 = .ok (.iastore, 1) := by decide +kernel
theorem dX8_name_93 : decode cX8_name 93 = .ok (.aload_n 0, 1) := by decide +kernel
theorem dX8_name_94 : decode cX8_name 94 = .ok (.getfield 25, 3) := by decide +kernel
theorem dX8_name_97 : decode cX8_name 97 = .ok (.aload_n 0, 1) := by decide +kernel
theorem dX8_name_98 : decode cX8_name 98 = .ok (.getfield 88, 3) := by decide +kernel
theorem dX8_name_101 : decode cX8_name 101 = .ok (.bipush 100, 2) := by decide +kernel
theorem dX8_name_103 : decode cX8_name 103 = .ok (.iastore, 1) := by decide +kernel
theorem dX8_name_104 : decode cX8_name 104 = .ok (.aload_n 0, 1) := by decide +kernel
theorem dX8_name_105 : decode cX8_name 105 = .ok (.getfield 28, 3) := by decide +kernel
theorem dX8_name_108 : decode cX8_name 108 = .ok (.aload_n 0, 1) := by decide +kernel
theorem dX8_name_109 : decode cX8_name 109 = .ok (.getfield 88, 3) := by decide +kernel
theorem dX8_name_112 : decode cX8_name 112 = .ok (.bipush 16, 2) := by decide +kernel
theorem dX8_name_114 : decode cX8_name 114 = .ok (.iastore, 1) := by decide +kernel
theorem dX8_name_115 : decode cX8_name 115 = .ok (.aload_n 0, 1) := by decide +kernel
theorem dX8_name_116 : decode cX8_name 116 = .ok (.dup, 1) := by decide +kernel
theorem dX8_name_117 : decode cX8_name 117 = .ok (.getfield 88, 3) := by decide +kernel
theorem dX8_name_120 : decode cX8_name 120 = .ok (.iconst 1, 1) := by decide +kernel
theorem dX8_name_121 : decode cX8_name 121 = .ok (.iadd, 1) := by decide +kernel
theorem dX8_name_122 : decode cX8_name 122 = .ok (.putfield 88, 3) := by decide +kernel
theorem dX8_name_125 : decode cX8_name 125 = .ok (.aload_n 0, 1) := by decide +kernel
theorem dX8_name_126 : decode cX8_name 126 = .ok (.getfield 88, 3) := by decide +kernel
theorem dX8_name_129 : decode cX8_name 129 = .ok (.iconst 1, 1) := by decide +kernel
theorem dX8_name_130 : decode cX8_name 130 = .ok (.isub, 1) := by decide +kernel
theorem dX8_name_131 : decode cX8_name 131 = .ok (.ireturn, 1) := by decide +kernel
theorem dX8_dot_0 : decode cX8_dot 0 = .ok (.aload_n 0, 1) := by decide +kernel
theorem dX8_dot_1 : decode cX8_dot 1 = .ok (.iconst 0, 1) := by decide +kernel
theorem dX8_dot_2 : decode cX8_dot 2 = .ok (.putfield 78, 3) := by decide +kernel
theorem dX8_dot_5 : decode cX8_dot 5 = .ok (.iload_n 1, 1) := by decide +kernel
theorem dX8_dot_6 : decode cX8_dot 6 = .ok (.iload_n 2, 1) := by decide +kernel
theorem dX8_dot_7 : decode cX8_dot 7 = .ok (.invokestatic 108, 3) := by decide +kernel
theorem dX8_dot_10 : decode cX8_dot 10 = .ok (.ifCond .ne 6, 3) := by decide +kernel
theorem dX8_dot_13 : decode cX8_dot 13 = .ok (.bipush (-3), 2) := by decide +kernel
theorem dX8_dot_15 : decode cX8_dot 15 = .ok (.ireturn, 1) := by decide +kernel
theorem dX8_dot_16 : decode cX8_dot 16 = .ok (.aload_n 0, 1) := by decide +kernel
theorem dX8_dot_17 : decode cX8_dot 17 = .ok (.getfield 91, 3) := by decide +kernel
theorem dX8_dot_20 : decode cX8_dot 20 = .ok (.bipush 20, 2) := by decide +kernel
theorem dX8_dot_22 : decode cX8_dot 22 = .ok (.if_icmp .ne 6, 3) := by decide +kernel
theorem dX8_dot_25 : decode cX8_dot 25 = .ok (.bipush (-5), 2) := by decide +kernel
theorem dX8_dot_27 : decode cX8_dot 27 = .ok (.ireturn, 1) := by decide +kernel
theorem dX8_dot_28 : decode cX8_dot 28 = .ok (.aload_n 0, 1) := by decide +kernel
theorem dX8_dot_29 : decode cX8_dot 29 = .ok (.invokevirtual 112, 3) := by decide +kernel
theorem dX8_dot_32 : decode cX8_dot 32 = .ok (.aload_n 0, 1) := by decide +kernel
theorem dX8_dot_33 : decode cX8_dot 33 = .ok (.getfield 31, 3) := by decide +kernel
theorem dX8_dot_36 : decode cX8_dot 36 = .ok (.aload_n 0, 1) := by decide +kernel
theorem dX8_dot_37 : decode cX8_dot 37 = .ok (.getfield 91, 3) := by decide +kernel
theorem dX8_dot_40 : decode cX8_dot 40 = .ok (.iload_n 1, 1) := by decide +kernel
theorem dX8_dot_41 : decode cX8_dot 41 = .ok (.iastore, 1) := by decide +kernel
theorem dX8_dot_42 : decode cX8_dot 42 = .ok (.aload_n 0, 1) := by decide +kernel
theorem dX8_dot_43 : decode cX8_dot 43 = .ok (.getfield 34, 3) := by decide +kernel
theorem dX8_dot_46 : decode cX8_dot 46 = .ok (.aload_n 0, 1) := by decide +kernel
theorem dX8_dot_47 : decode cX8_dot 47 = .ok (.getfield 91, 3) := by decide +kernel
theorem dX8_dot_50 : decode cX8_dot 50 = .ok (.iload_n 2, 1) := by decide +kernel
theorem dX8_dot_51 : decode cX8_dot 51 = .ok (.iastore, 1) := by decide +kernel
theorem dX8_dot_52 : decode cX8_dot 52 = .ok (.aload_n 0, 1) := by decide +kernel
theorem dX8_dot_53 : decode cX8_dot 53 = .ok (.dup, 1) := by decide +kernel
theorem dX8_dot_54 : decode cX8_dot 54 = .ok (.getfield 91, 3) := by decide +kernel
theorem dX8_dot_57 : decode cX8_dot 57 = .ok (.iconst 1, 1) := by decide +kernel
theorem dX8_dot_58 : decode cX8_dot 58 = .ok (.iadd, 1) := by decide +kernel
theorem dX8_dot_59 : decode cX8_dot 59 = .ok (.putfield 91, 3) := by decide +kernel
theorem dX8_dot_62 : decode cX8_dot 62 = .ok (.aload_n 0, 1) := by decide +kernel
theorem dX8_dot_63 : decode cX8_dot 63 = .ok (.getfield 91, 3) := by decide +kernel
theorem dX8_dot_66 : decode cX8_dot 66 = .ok (.iconst 1, 1) := by decide +kernel
theorem dX8_dot_67 : decode cX8_dot 67 = .ok (.isub, 1) := by decide +kernel
theorem dX8_dot_68 : decode cX8_dot 68 = .ok (.ireturn, 1) := by decide +kernel
theorem dX8_move_0 : decode cX8_move 0 = .ok (.aload_n 0, 1) := by decide +kernel
theorem dX8_move_1 : decode cX8_move 1 = .ok (.iconst 0, 1) := by decide +kernel
theorem dX8_move_2 : decode cX8_move 2 = .ok (.putfield 78, 3) := by decide +kernel
theorem dX8_move_5 : decode cX8_move 5 = .ok (.aload_n 0, 1) := by decide +kernel
theorem dX8_move_6 : decode cX8_move 6 = .ok (.iload_n 1, 1) := by decide +kernel
theorem dX8_move_7 : decode cX8_move 7 = .ok (.invokevirtual 115, 3) := by decide +kernel
theorem dX8_move_10 : decode cX8_move 10 = .ok (.ifCond .eq 11, 3) := by decide +kernel
theorem dX8_move_13 : decode cX8_move 13 = .ok (.iload_n 2, 1) := by decide +kernel
theorem dX8_move_14 : decode cX8_move 14 = .ok (.iload_n 3, 1) := by decide +kernel
theorem dX8_move_15 : decode cX8_move 15 = .ok (.invokestatic 108, 3) := by decide +kernel
theorem dX8_move_18 : decode cX8_move 18 = .ok (.ifCond .ne 6, 3) := by decide +kernel
theorem dX8_move_21 : decode cX8_move 21 = .ok (.bipush (-3), 2) := by decide +kernel
theorem dX8_move_23 : decode cX8_move 23 = .ok (.ireturn, 1) := by decide +kernel
theorem dX8_move_24 : decode cX8_move 24 = .ok (.aload_n 0, 1) := by decide +kernel
theorem dX8_move_25 : decode cX8_move 25 = .ok (.invokevirtual 112, 3) := by decide +kernel
theorem dX8_move_28 : decode cX8_move 28 = .ok (.aload_n 0, 1) := by decide +kernel
theorem dX8_move_29 : decode cX8_move 29 = .ok (.getfield 13, 3) := by decide +kernel
theorem dX8_move_32 : decode cX8_move 32 = .ok (.iload_n 1, 1) := by decide +kernel
theorem dX8_move_33 : decode cX8_move 33 = .ok (.iload_n 2, 1) := by decide +kernel
theorem dX8_move_34 : decode cX8_move 34 = .ok (.iastore, 1) := by decide +kernel
theorem dX8_move_35 : decode cX8_move 35 = .ok (.aload_n 0, 1) := by decide +kernel
theorem dX8_move_36 : decode cX8_move 36 = .ok (.getfield 16, 3) := by decide +kernel
theorem dX8_move_39 : decode cX8_move 39 = .ok (.iload_n 1, 1) := by decide +kernel
theorem dX8_move_40 : decode cX8_move 40 = .ok (.iload_n 3, 1) := by decide +kernel
theorem dX8_move_41 : decode cX8_move 41 = .ok (.iastore, 1) := by decide +kernel
theorem dX8_move_42 : decode cX8_move 42 = .ok (.iconst 0, 1) := by decide +kernel
theorem dX8_move_43 : decode cX8_move 43 = .ok (.ireturn, 1) := by decide +kernel
theorem dX8_weigh_0 : decode cX8_weigh 0 = .ok (.aload_n 0, 1) := by decide +kernel
theorem dX8_weigh_1 : decode cX8_weigh 1 = .ok (.iconst 0, 1) := by decide +kernel
theorem dX8_weigh_2 : decode cX8_weigh 2 = .ok (.putfield 78, 3) := by decide +kernel
theorem dX8_weigh_5 : decode cX8_weigh 5 = .ok (.aload_n 0, 1) := by decide +kernel
theorem dX8_weigh_6 : decode cX8_weigh 6 = .ok (.iload_n 1, 1) := by decide +kernel
theorem dX8_weigh_7 : decode cX8_weigh 7 = .ok (.invokevirtual 115, 3) := by decide +kernel
theorem dX8_weigh_10 : decode cX8_weigh 10 = .ok (.ifCond .eq 14, 3) := by decide +kernel
theorem dX8_weigh_13 : decode cX8_weigh 13 = .ok (.iload_n 2, 1) := by decide +kernel
theorem dX8_weigh_14 : decode cX8_weigh 14 = .ok (.iconst 1, 1) := by decide +kernel
theorem dX8_weigh_15 : decode cX8_weigh 15 = .ok (.sipush 1000, 3) := by decide +kernel
theorem dX8_weigh_18 : decode cX8_weigh 18 = .ok (.invokestatic 104, 3) := by decide +kernel
theorem dX8_weigh_21 : decode cX8_weigh 21 = .ok (.ifCond .ne 6, 3) := by decide +kernel
theorem dX8_weigh_24 : decode cX8_weigh 24 = .ok (.bipush (-3), 2) := by decide +kernel
theorem dX8_weigh_26 : decode cX8_weigh 26 = .ok (.ireturn, 1) := by decide +kernel
theorem dX8_weigh_27 : decode cX8_weigh 27 = .ok (.aload_n 0, 1) := by decide +kernel
theorem dX8_weigh_28 : decode cX8_weigh 28 = .ok (.invokevirtual 112, 3) := by decide +kernel
theorem dX8_weigh_31 : decode cX8_weigh 31 = .ok (.aload_n 0, 1) := by decide +kernel
theorem dX8_weigh_32 : decode cX8_weigh 32 = .ok (.getfield 25, 3) := by decide +kernel
theorem dX8_weigh_35 : decode cX8_weigh 35 = .ok (.iload_n 1, 1) := by decide +kernel
theorem dX8_weigh_36 : decode cX8_weigh 36 = .ok (.iaload, 1) := by decide +kernel
theorem dX8_weigh_37 : decode cX8_weigh 37 = .ok (.istore_n 3, 1) := by decide +kernel
theorem dX8_weigh_38 : decode cX8_weigh 38 = .ok (.aload_n 0, 1) := by decide +kernel
theorem dX8_weigh_39 : decode cX8_weigh 39 = .ok (.getfield 25, 3) := by decide +kernel
theorem dX8_weigh_42 : decode cX8_weigh 42 = .ok (.iload_n 1, 1) := by decide +kernel
theorem dX8_weigh_43 : decode cX8_weigh 43 = .ok (.iload_n 2, 1) := by decide +kernel
theorem dX8_weigh_44 : decode cX8_weigh 44 = .ok (.iastore, 1) := by decide +kernel
theorem dX8_weigh_45 : decode cX8_weigh 45 = .ok (.iload_n 3, 1) := by decide +kernel
theorem dX8_weigh_46 : decode cX8_weigh 46 = .ok (.ireturn, 1) := by decide +kernel
theorem dX8_size_0 : decode cX8_size 0 = .ok (.aload_n 0, 1) := by decide +kernel
theorem dX8_size_1 : decode cX8_size 1 = .ok (.iconst 0, 1) := by decide +kernel
theorem dX8_size_2 : decode cX8_size 2 = .ok (.putfield 78, 3) := by decide +kernel
theorem dX8_size_5 : decode cX8_size 5 = .ok (.aload_n 0, 1) := by decide +kernel
theorem dX8_size_6 : decode cX8_size 6 = .ok (.iload_n 1, 1) := by decide +kernel
theorem dX8_size_7 : decode cX8_size 7 = .ok (.invokevirtual 115, 3) := by decide +kernel
theorem dX8_size_10 : decode cX8_size 10 = .ok (.ifCond .eq 24, 3) := by decide +kernel
theorem dX8_size_13 : decode cX8_size 13 = .ok (.iload_n 2, 1) := by decide +kernel
theorem dX8_size_14 : decode cX8_size 14 = .ok (.iconst 1, 1) := by decide +kernel
theorem dX8_size_15 : decode cX8_size 15 = .ok (.sipush 300, 3) := by decide +kernel
theorem dX8_size_18 : decode cX8_size 18 = .ok (.invokestatic 104, 3) := by decide +kernel
theorem dX8_size_21 : decode cX8_size 21 = .ok (.ifCond .eq 13, 3) := by decide +kernel
theorem dX8_size_24 : decode cX8_size 24 = .ok (.iload_n 3, 1) := by decide +kernel
theorem dX8_size_25 : decode cX8_size 25 = .ok (.iconst 1, 1) := by decide +kernel
theorem dX8_size_26 : decode cX8_size 26 = .ok (.bipush 80, 2) := by decide +kernel
theorem dX8_size_28 : decode cX8_size 28 = .ok (.invokestatic 104, 3) := by decide +kernel
theorem dX8_size_31 : decode cX8_size 31 = .ok (.ifCond .ne 6, 3) := by decide +kernel
theorem dX8_size_34 : decode cX8_size 34 = .ok (.bipush (-3), 2) := by decide +kernel
theorem dX8_size_36 : decode cX8_size 36 = .ok (.ireturn, 1) := by decide +kernel
theorem dX8_size_37 : decode cX8_size 37 = .ok (.aload_n 0, 1) := by decide +kernel
theorem dX8_size_38 : decode cX8_size 38 = .ok (.invokevirtual 112, 3) := by decide +kernel
theorem dX8_size_41 : decode cX8_size 41 = .ok (.aload_n 0, 1) := by decide +kernel
theorem dX8_size_42 : decode cX8_size 42 = .ok (.getfield 19, 3) := by decide +kernel
theorem dX8_size_45 : decode cX8_size 45 = .ok (.iload_n 1, 1) := by decide +kernel
theorem dX8_size_46 : decode cX8_size 46 = .ok (.iload_n 2, 1) := by decide +kernel
theorem dX8_size_47 : decode cX8_size 47 = .ok (.iastore, 1) := by decide +kernel
theorem dX8_size_48 : decode cX8_size 48 = .ok (.aload_n 0, 1) := by decide +kernel
theorem dX8_size_49 : decode cX8_size 49 = .ok (.getfield 22, 3) := by decide +kernel
theorem dX8_size_52 : decode cX8_size 52 = .ok (.iload_n 1, 1) := by decide +kernel
theorem dX8_size_53 : decode cX8_size 53 = .ok (.iload_n 3, 1) := by decide +kernel
theorem dX8_size_54 : decode cX8_size 54 = .ok (.iastore, 1) := by decide +kernel
theorem dX8_size_55 : decode cX8_size 55 = .ok (.iconst 0, 1) := by decide +kernel
theorem dX8_size_56 : decode cX8_size 56 = .ok (.ireturn, 1) := by decide +kernel
theorem dX8_ways_0 : decode cX8_ways 0 = .ok (.aload_n 0, 1) := by decide +kernel
theorem dX8_ways_1 : decode cX8_ways 1 = .ok (.getfield 7, 3) := by decide +kernel
theorem dX8_ways_4 : decode cX8_ways 4 = .ok (.iload_n 1, 1) := by decide +kernel
theorem dX8_ways_5 : decode cX8_ways 5 = .ok (.iaload, 1) := by decide +kernel
theorem dX8_ways_6 : decode cX8_ways 6 = .ok (.ifCond .ne 8, 3) := by decide +kernel
theorem dX8_ways_9 : decode cX8_ways 9 = .ok (.bipush 8, 2) := by decide +kernel
theorem dX8_ways_11 : decode cX8_ways 11 = .ok (.goto 5, 3) := by decide +kernel
theorem dX8_ways_14 : decode cX8_ways 14 = .ok (.bipush 16, 2) := by decide +kernel
theorem dX8_ways_16 : decode cX8_ways 16 = .ok (.ireturn, 1) := by decide +kernel
theorem dX8_isLed_0 : decode cX8_isLed 0 = .ok (.aload_n 0, 1) := by decide +kernel
theorem dX8_isLed_1 : decode cX8_isLed 1 = .ok (.getfield 7, 3) := by decide +kernel
theorem dX8_isLed_4 : decode cX8_isLed 4 = .ok (.iload_n 1, 1) := by decide +kernel
theorem dX8_isLed_5 : decode cX8_isLed 5 = .ok (.iaload, 1) := by decide +kernel
theorem dX8_isLed_6 : decode cX8_isLed 6 = .ok (.iconst 2, 1) := by decide +kernel
theorem dX8_isLed_7 : decode cX8_isLed 7 = .ok (.if_icmp .lt 13, 3) := by decide +kernel
theorem dX8_isLed_10 : decode cX8_isLed 10 = .ok (.iload_n 2, 1) := by decide +kernel
theorem dX8_isLed_11 : decode cX8_isLed 11 = .ok (.bipush 8, 2) := by decide +kernel
theorem dX8_isLed_13 : decode cX8_isLed 13 = .ok (.if_icmp .lt 7, 3) := by decide +kernel
theorem dX8_isLed_16 : decode cX8_isLed 16 = .ok (.iconst 1, 1) := by decide +kernel
theorem dX8_isLed_17 : decode cX8_isLed 17 = .ok (.goto 4, 3) := by decide +kernel
theorem dX8_isLed_20 : decode cX8_isLed 20 = .ok (.iconst 0, 1) := by decide +kernel
theorem dX8_isLed_21 : decode cX8_isLed 21 = .ok (.ireturn, 1) := by decide +kernel
theorem dX8_box_0 : decode cX8_box 0 = .ok (.aload_n 0, 1) := by decide +kernel
theorem dX8_box_1 : decode cX8_box 1 = .ok (.getfield 13, 3) := by decide +kernel
theorem dX8_box_4 : decode cX8_box 4 = .ok (.iload_n 1, 1) := by decide +kernel
theorem dX8_box_5 : decode cX8_box 5 = .ok (.iaload, 1) := by decide +kernel
theorem dX8_box_6 : decode cX8_box 6 = .ok (.iload_n 3, 1) := by decide +kernel
theorem dX8_box_7 : decode cX8_box 7 = .ok (.ishl, 1) := by decide +kernel
theorem dX8_box_8 : decode cX8_box 8 = .ok (.istore 4, 2) := by decide +kernel
theorem dX8_box_10 : decode cX8_box 10 = .ok (.aload_n 0, 1) := by decide +kernel
theorem dX8_box_11 : decode cX8_box 11 = .ok (.getfield 16, 3) := by decide +kernel
theorem dX8_box_14 : decode cX8_box 14 = .ok (.iload_n 1, 1) := by decide +kernel
theorem dX8_box_15 : decode cX8_box 15 = .ok (.iaload, 1) := by decide +kernel
theorem dX8_box_16 : decode cX8_box 16 = .ok (.iload_n 3, 1) := by decide +kernel
theorem dX8_box_17 : decode cX8_box 17 = .ok (.ishl, 1) := by decide +kernel
theorem dX8_box_18 : decode cX8_box 18 = .ok (.istore 5, 2) := by decide +kernel
theorem dX8_box_20 : decode cX8_box 20 = .ok (.aload_n 0, 1) := by decide +kernel
theorem dX8_box_21 : decode cX8_box 21 = .ok (.getfield 7, 3) := by decide +kernel
theorem dX8_box_24 : decode cX8_box 24 = .ok (.iload_n 1, 1) := by decide +kernel
theorem dX8_box_25 : decode cX8_box 25 = .ok (.iaload, 1) := by decide +kernel
theorem dX8_box_26 : decode cX8_box 26 = .ok (.iconst 1, 1) := by decide +kernel
theorem dX8_box_27 : decode cX8_box 27 = .ok (.if_icmp .ne 13, 3) := by decide +kernel
theorem dX8_box_30 : decode cX8_box 30 = .ok (.iload_n 2, 1) := by decide +kernel
theorem dX8_box_31 : decode cX8_box 31 = .ok (.bipush 8, 2) := by decide +kernel
theorem dX8_box_33 : decode cX8_box 33 = .ok (.if_icmp .lt 7, 3) := by decide +kernel
theorem dX8_box_36 : decode cX8_box 36 = .ok (.iconst 1, 1) := by decide +kernel
theorem dX8_box_37 : decode cX8_box 37 = .ok (.goto 4, 3) := by decide +kernel
theorem dX8_box_40 : decode cX8_box 40 = .ok (.iconst 0, 1) := by decide +kernel
theorem dX8_box_41 : decode cX8_box 41 = .ok (.istore 6, 2) := by decide +kernel
theorem dX8_box_43 : decode cX8_box 43 = .ok (.iload 6, 2) := by decide +kernel
theorem dX8_box_45 : decode cX8_box 45 = .ok (.ifCond .eq 16, 3) := by decide +kernel
theorem dX8_box_48 : decode cX8_box 48 = .ok (.aload_n 0, 1) := by decide +kernel
theorem dX8_box_49 : decode cX8_box 49 = .ok (.getfield 19, 3) := by decide +kernel
theorem dX8_box_52 : decode cX8_box 52 = .ok (.iload_n 1, 1) := by decide +kernel
theorem dX8_box_53 : decode cX8_box 53 = .ok (.iaload, 1) := by decide +kernel
theorem dX8_box_54 : decode cX8_box 54 = .ok (.iconst 1, 1) := by decide +kernel
theorem dX8_box_55 : decode cX8_box 55 = .ok (.iadd, 1) := by decide +kernel
theorem dX8_box_56 : decode cX8_box 56 = .ok (.iconst 2, 1) := by decide +kernel
theorem dX8_box_57 : decode cX8_box 57 = .ok (.idiv, 1) := by decide +kernel
theorem dX8_box_58 : decode cX8_box 58 = .ok (.goto 9, 3) := by decide +kernel
theorem dX8_box_61 : decode cX8_box 61 = .ok (.aload_n 0, 1) := by decide +kernel
theorem dX8_box_62 : decode cX8_box 62 = .ok (.getfield 19, 3) := by decide +kernel
theorem dX8_box_65 : decode cX8_box 65 = .ok (.iload_n 1, 1) := by decide +kernel
theorem dX8_box_66 : decode cX8_box 66 = .ok (.iaload, 1) := by decide +kernel
theorem dX8_box_67 : decode cX8_box 67 = .ok (.istore 7, 2) := by decide +kernel
theorem dX8_box_69 : decode cX8_box 69 = .ok (.iload 6, 2) := by decide +kernel
theorem dX8_box_71 : decode cX8_box 71 = .ok (.ifCond .eq 14, 3) := by decide +kernel
theorem dX8_box_74 : decode cX8_box 74 = .ok (.iconst 2, 1) := by decide +kernel
theorem dX8_box_75 : decode cX8_box 75 = .ok (.aload_n 0, 1) := by decide +kernel
theorem dX8_box_76 : decode cX8_box 76 = .ok (.getfield 22, 3) := by decide +kernel
theorem dX8_box_79 : decode cX8_box 79 = .ok (.iload_n 1, 1) := by decide +kernel
theorem dX8_box_80 : decode cX8_box 80 = .ok (.iaload, 1) := by decide +kernel
theorem dX8_box_81 : decode cX8_box 81 = .ok (.imul, 1) := by decide +kernel
theorem dX8_box_82 : decode cX8_box 82 = .ok (.goto 9, 3) := by decide +kernel
theorem dX8_box_85 : decode cX8_box 85 = .ok (.aload_n 0, 1) := by decide +kernel
theorem dX8_box_86 : decode cX8_box 86 = .ok (.getfield 22, 3) := by decide +kernel
theorem dX8_box_89 : decode cX8_box 89 = .ok (.iload_n 1, 1) := by decide +kernel
theorem dX8_box_90 : decode cX8_box 90 = .ok (.iaload, 1) := by decide +kernel
theorem dX8_box_91 : decode cX8_box 91 = .ok (.istore 8, 2) := by decide +kernel
theorem dX8_box_93 : decode cX8_box 93 = .ok (.aload_n 0, 1) := by decide +kernel
theorem dX8_box_94 : decode cX8_box 94 = .ok (.iload_n 1, 1) := by decide +kernel
theorem dX8_box_95 : decode cX8_box 95 = .ok (.iload_n 2, 1) := by decide +kernel
theorem dX8_box_96 : decode cX8_box 96 = .ok (.invokevirtual 119, 3) := by decide +kernel
theorem dX8_box_99 : decode cX8_box 99 = .ok (.ifCond .eq 8, 3) := by decide +kernel
theorem dX8_box_102 : decode cX8_box 102 = .ok (.bipush 40, 2) := by decide +kernel
theorem dX8_box_104 : decode cX8_box 104 = .ok (.goto 4, 3) := by decide +kernel
theorem dX8_box_107 : decode cX8_box 107 = .ok (.iconst 2, 1) := by decide +kernel
theorem dX8_box_108 : decode cX8_box 108 = .ok (.istore 9, 2) := by decide +kernel
theorem dX8_box_110 : decode cX8_box 110 = .ok (.iload_n 2, 1) := by decide +kernel
theorem dX8_box_111 : decode cX8_box 111 = .ok (.bipush 8, 2) := by decide +kernel
theorem dX8_box_113 : decode cX8_box 113 = .ok (.irem, 1) := by decide +kernel
theorem dX8_box_114 : decode cX8_box 114 = .ok (.istore 10, 2) := by decide +kernel
theorem dX8_box_116 : decode cX8_box 116 = .ok (.iload 10, 2) := by decide +kernel
theorem dX8_box_118 : decode cX8_box 118 = .ok (.ifCond .eq 15, 3) := by decide +kernel
theorem dX8_box_121 : decode cX8_box 121 = .ok (.iload 10, 2) := by decide +kernel
theorem dX8_box_123 : decode cX8_box 123 = .ok (.iconst 3, 1) := by decide +kernel
theorem dX8_box_124 : decode cX8_box 124 = .ok (.if_icmp .eq 9, 3) := by decide +kernel
theorem dX8_box_127 : decode cX8_box 127 = .ok (.iload 10, 2) := by decide +kernel
theorem dX8_box_129 : decode cX8_box 129 = .ok (.iconst 4, 1) := by decide +kernel
theorem dX8_box_130 : decode cX8_box 130 = .ok (.if_icmp .ne 7, 3) := by decide +kernel
theorem dX8_box_133 : decode cX8_box 133 = .ok (.iconst 1, 1) := by decide +kernel
theorem dX8_box_134 : decode cX8_box 134 = .ok (.goto 4, 3) := by decide +kernel
theorem dX8_box_137 : decode cX8_box 137 = .ok (.iconst 0, 1) := by decide +kernel
theorem dX8_box_138 : decode cX8_box 138 = .ok (.istore 11, 2) := by decide +kernel
theorem dX8_box_140 : decode cX8_box 140 = .ok (.iload 10, 2) := by decide +kernel
theorem dX8_box_142 : decode cX8_box 142 = .ok (.bipush 6, 2) := by decide +kernel
theorem dX8_box_144 : decode cX8_box 144 = .ok (.if_icmp .eq 10, 3) := by decide +kernel
theorem dX8_box_147 : decode cX8_box 147 = .ok (.iload 10, 2) := by decide +kernel
theorem dX8_box_149 : decode cX8_box 149 = .ok (.bipush 7, 2) := by decide +kernel
theorem dX8_box_151 : decode cX8_box 151 = .ok (.if_icmp .ne 7, 3) := by decide +kernel
theorem dX8_box_154 : decode cX8_box 154 = .ok (.iconst 1, 1) := by decide +kernel
theorem dX8_box_155 : decode cX8_box 155 = .ok (.goto 4, 3) := by decide +kernel
theorem dX8_box_158 : decode cX8_box 158 = .ok (.iconst 0, 1) := by decide +kernel
theorem dX8_box_159 : decode cX8_box 159 = .ok (.istore 12, 2) := by decide +kernel
theorem dX8_box_161 : decode cX8_box 161 = .ok (.iload 10, 2) := by decide +kernel
theorem dX8_box_163 : decode cX8_box 163 = .ok (.ifCond .eq 16, 3) := by decide +kernel
theorem dX8_box_166 : decode cX8_box 166 = .ok (.iload 10, 2) := by decide +kernel
theorem dX8_box_168 : decode cX8_box 168 = .ok (.iconst 1, 1) := by decide +kernel
theorem dX8_box_169 : decode cX8_box 169 = .ok (.if_icmp .eq 10, 3) := by decide +kernel
theorem dX8_box_172 : decode cX8_box 172 = .ok (.iload 10, 2) := by decide +kernel
theorem dX8_box_174 : decode cX8_box 174 = .ok (.bipush 6, 2) := by decide +kernel
theorem dX8_box_176 : decode cX8_box 176 = .ok (.if_icmp .ne 7, 3) := by decide +kernel
theorem dX8_box_179 : decode cX8_box 179 = .ok (.iconst 1, 1) := by decide +kernel
theorem dX8_box_180 : decode cX8_box 180 = .ok (.goto 4, 3) := by decide +kernel
theorem dX8_box_183 : decode cX8_box 183 = .ok (.iconst 0, 1) := by decide +kernel
theorem dX8_box_184 : decode cX8_box 184 = .ok (.istore 13, 2) := by decide +kernel
theorem dX8_box_186 : decode cX8_box 186 = .ok (.iload 10, 2) := by decide +kernel
theorem dX8_box_188 : decode cX8_box 188 = .ok (.iconst 4, 1) := by decide +kernel
theorem dX8_box_189 : decode cX8_box 189 = .ok (.if_icmp .eq 9, 3) := by decide +kernel
theorem dX8_box_192 : decode cX8_box 192 = .ok (.iload 10, 2) := by decide +kernel
theorem dX8_box_194 : decode cX8_box 194 = .ok (.iconst 5, 1) := by decide +kernel
theorem dX8_box_195 : decode cX8_box 195 = .ok (.if_icmp .ne 7, 3) := by decide +kernel
theorem dX8_box_198 : decode cX8_box 198 = .ok (.iconst 1, 1) := by decide +kernel
theorem dX8_box_199 : decode cX8_box 199 = .ok (.goto 4, 3) := by decide +kernel
theorem dX8_box_202 : decode cX8_box 202 = .ok (.iconst 0, 1) := by decide +kernel
theorem dX8_box_203 : decode cX8_box 203 = .ok (.istore 14, 2) := by decide +kernel
theorem dX8_box_205 : decode cX8_box 205 = .ok (.aload_n 0, 1) := by decide +kernel
theorem dX8_box_206 : decode cX8_box 206 = .ok (.iload 12, 2) := by decide +kernel
theorem dX8_box_208 : decode cX8_box 208 = .ok (.ifCond .eq 13, 3) := by decide +kernel
theorem dX8_box_211 : decode cX8_box 211 = .ok (.iload 4, 2) := by decide +kernel
theorem dX8_box_213 : decode cX8_box 213 = .ok (.iload 7, 2) := by decide +kernel
theorem dX8_box_215 : decode cX8_box 215 = .ok (.iconst 2, 1) := by decide +kernel
theorem dX8_box_216 : decode cX8_box 216 = .ok (.idiv, 1) := by decide +kernel
theorem dX8_box_217 : decode cX8_box 217 = .ok (.isub, 1) := by decide +kernel
theorem dX8_box_218 : decode cX8_box 218 = .ok (.goto 24, 3) := by decide +kernel
theorem dX8_box_221 : decode cX8_box 221 = .ok (.iload 11, 2) := by decide +kernel
theorem dX8_box_223 : decode cX8_box 223 = .ok (.ifCond .eq 11, 3) := by decide +kernel
theorem dX8_box_226 : decode cX8_box 226 = .ok (.iload 4, 2) := by decide +kernel
theorem dX8_box_228 : decode cX8_box 228 = .ok (.iload 9, 2) := by decide +kernel
theorem dX8_box_230 : decode cX8_box 230 = .ok (.iadd, 1) := by decide +kernel
theorem dX8_box_231 : decode cX8_box 231 = .ok (.goto 11, 3) := by decide +kernel
theorem dX8_box_234 : decode cX8_box 234 = .ok (.iload 4, 2) := by decide +kernel
theorem dX8_box_236 : decode cX8_box 236 = .ok (.iload 9, 2) := by decide +kernel
theorem dX8_box_238 : decode cX8_box 238 = .ok (.isub, 1) := by decide +kernel
theorem dX8_box_239 : decode cX8_box 239 = .ok (.iload 7, 2) := by decide +kernel
theorem dX8_box_241 : decode cX8_box 241 = .ok (.isub, 1) := by decide +kernel
theorem dX8_box_242 : decode cX8_box 242 = .ok (.putfield 122, 3) := by decide +kernel
theorem dX8_box_245 : decode cX8_box 245 = .ok (.aload_n 0, 1) := by decide +kernel
theorem dX8_box_246 : decode cX8_box 246 = .ok (.iload 14, 2) := by decide +kernel
theorem dX8_box_248 : decode cX8_box 248 = .ok (.ifCond .eq 13, 3) := by decide +kernel
theorem dX8_box_251 : decode cX8_box 251 = .ok (.iload 5, 2) := by decide +kernel
theorem dX8_box_253 : decode cX8_box 253 = .ok (.iload 8, 2) := by decide +kernel
theorem dX8_box_255 : decode cX8_box 255 = .ok (.iconst 2, 1) := by decide +kernel
theorem dX8_box_256 : decode cX8_box 256 = .ok (.idiv, 1) := by decide +kernel
theorem dX8_box_257 : decode cX8_box 257 = .ok (.isub, 1) := by decide +kernel
theorem dX8_box_258 : decode cX8_box 258 = .ok (.goto 24, 3) := by decide +kernel
theorem dX8_box_261 : decode cX8_box 261 = .ok (.iload 13, 2) := by decide +kernel
theorem dX8_box_263 : decode cX8_box 263 = .ok (.ifCond .eq 14, 3) := by decide +kernel
theorem dX8_box_266 : decode cX8_box 266 = .ok (.iload 5, 2) := by decide +kernel
theorem dX8_box_268 : decode cX8_box 268 = .ok (.iload 9, 2) := by decide +kernel
theorem dX8_box_270 : decode cX8_box 270 = .ok (.isub, 1) := by decide +kernel
theorem dX8_box_271 : decode cX8_box 271 = .ok (.iload 8, 2) := by decide +kernel
theorem dX8_box_273 : decode cX8_box 273 = .ok (.isub, 1) := by decide +kernel
theorem dX8_box_274 : decode cX8_box 274 = .ok (.goto 8, 3) := by decide +kernel
theorem dX8_box_277 : decode cX8_box 277 = .ok (.iload 5, 2) := by decide +kernel
theorem dX8_box_279 : decode cX8_box 279 = .ok (.iload 9, 2) := by decide +kernel
theorem dX8_box_281 : decode cX8_box 281 = .ok (.iadd, 1) := by decide +kernel
theorem dX8_box_282 : decode cX8_box 282 = .ok (.putfield 125, 3) := by decide +kernel
theorem dX8_box_285 : decode cX8_box 285 = .ok (.aload_n 0, 1) := by decide +kernel
theorem dX8_box_286 : decode cX8_box 286 = .ok (.iload 7, 2) := by decide +kernel
theorem dX8_box_288 : decode cX8_box 288 = .ok (.putfield 128, 3) := by decide +kernel
theorem dX8_box_291 : decode cX8_box 291 = .ok (.aload_n 0, 1) := by decide +kernel
theorem dX8_box_292 : decode cX8_box 292 = .ok (.iload 8, 2) := by decide +kernel
theorem dX8_box_294 : decode cX8_box 294 = .ok (.putfield 131, 3) := by decide +kernel
theorem dX8_box_297 : decode cX8_box 297 = .ok (.return_, 1) := by decide +kernel
theorem dX8_priceOf_0 : decode cX8_priceOf 0 = .ok (.iload_n 2, 1) := by decide +kernel
theorem dX8_priceOf_1 : decode cX8_priceOf 1 = .ok (.bipush 8, 2) := by decide +kernel
theorem dX8_priceOf_3 : decode cX8_priceOf 3 = .ok (.if_icmp .ge 9, 3) := by decide +kernel
theorem dX8_priceOf_6 : decode cX8_priceOf 6 = .ok (.iconst 5, 1) := by decide +kernel
theorem dX8_priceOf_7 : decode cX8_priceOf 7 = .ok (.iload_n 2, 1) := by decide +kernel
theorem dX8_priceOf_8 : decode cX8_priceOf 8 = .ok (.imul, 1) := by decide +kernel
theorem dX8_priceOf_9 : decode cX8_priceOf 9 = .ok (.goto 27, 3) := by decide +kernel
theorem dX8_priceOf_12 : decode cX8_priceOf 12 = .ok (.iconst 5, 1) := by decide +kernel
theorem dX8_priceOf_13 : decode cX8_priceOf 13 = .ok (.iload_n 2, 1) := by decide +kernel
theorem dX8_priceOf_14 : decode cX8_priceOf 14 = .ok (.bipush 8, 2) := by decide +kernel
theorem dX8_priceOf_16 : decode cX8_priceOf 16 = .ok (.isub, 1) := by decide +kernel
theorem dX8_priceOf_17 : decode cX8_priceOf 17 = .ok (.imul, 1) := by decide +kernel
theorem dX8_priceOf_18 : decode cX8_priceOf 18 = .ok (.aload_n 0, 1) := by decide +kernel
theorem dX8_priceOf_19 : decode cX8_priceOf 19 = .ok (.getfield 7, 3) := by decide +kernel
theorem dX8_priceOf_22 : decode cX8_priceOf 22 = .ok (.iload_n 1, 1) := by decide +kernel
theorem dX8_priceOf_23 : decode cX8_priceOf 23 = .ok (.iaload, 1) := by decide +kernel
theorem dX8_priceOf_24 : decode cX8_priceOf 24 = .ok (.iconst 1, 1) := by decide +kernel
theorem dX8_priceOf_25 : decode cX8_priceOf 25 = .ok (.if_icmp .ne 8, 3) := by decide +kernel
theorem dX8_priceOf_28 : decode cX8_priceOf 28 = .ok (.bipush 20, 2) := by decide +kernel
theorem dX8_priceOf_30 : decode cX8_priceOf 30 = .ok (.goto 5, 3) := by decide +kernel
theorem dX8_priceOf_33 : decode cX8_priceOf 33 = .ok (.bipush 50, 2) := by decide +kernel
theorem dX8_priceOf_35 : decode cX8_priceOf 35 = .ok (.iadd, 1) := by decide +kernel
theorem dX8_priceOf_36 : decode cX8_priceOf 36 = .ok (.ireturn, 1) := by decide +kernel
theorem dX8_covers_0 : decode cX8_covers 0 = .ok (.iload_n 1, 1) := by decide +kernel
theorem dX8_covers_1 : decode cX8_covers 1 = .ok (.aload_n 0, 1) := by decide +kernel
theorem dX8_covers_2 : decode cX8_covers 2 = .ok (.getfield 122, 3) := by decide +kernel
theorem dX8_covers_5 : decode cX8_covers 5 = .ok (.if_icmp .le 41, 3) := by decide +kernel
theorem dX8_covers_8 : decode cX8_covers 8 = .ok (.iload_n 1, 1) := by decide +kernel
theorem dX8_covers_9 : decode cX8_covers 9 = .ok (.aload_n 0, 1) := by decide +kernel
theorem dX8_covers_10 : decode cX8_covers 10 = .ok (.getfield 122, 3) := by decide +kernel
theorem dX8_covers_13 : decode cX8_covers 13 = .ok (.aload_n 0, 1) := by decide +kernel
theorem dX8_covers_14 : decode cX8_covers 14 = .ok (.getfield 128, 3) := by decide +kernel
theorem dX8_covers_17 : decode cX8_covers 17 = .ok (.iadd, 1) := by decide +kernel
theorem dX8_covers_18 : decode cX8_covers 18 = .ok (.if_icmp .ge 28, 3) := by decide +kernel
theorem dX8_covers_21 : decode cX8_covers 21 = .ok (.iload_n 2, 1) := by decide +kernel
theorem dX8_covers_22 : decode cX8_covers 22 = .ok (.aload_n 0, 1) := by decide +kernel
theorem dX8_covers_23 : decode cX8_covers 23 = .ok (.getfield 125, 3) := by decide +kernel
theorem dX8_covers_26 : decode cX8_covers 26 = .ok (.if_icmp .le 20, 3) := by decide +kernel
theorem dX8_covers_29 : decode cX8_covers 29 = .ok (.iload_n 2, 1) := by decide +kernel
theorem dX8_covers_30 : decode cX8_covers 30 = .ok (.aload_n 0, 1) := by decide +kernel
theorem dX8_covers_31 : decode cX8_covers 31 = .ok (.getfield 125, 3) := by decide +kernel
theorem dX8_covers_34 : decode cX8_covers 34 = .ok (.aload_n 0, 1) := by decide +kernel
theorem dX8_covers_35 : decode cX8_covers 35 = .ok (.getfield 131, 3) := by decide +kernel
theorem dX8_covers_38 : decode cX8_covers 38 = .ok (.iadd, 1) := by decide +kernel
theorem dX8_covers_39 : decode cX8_covers 39 = .ok (.if_icmp .ge 7, 3) := by decide +kernel
theorem dX8_covers_42 : decode cX8_covers 42 = .ok (.iconst 1, 1) := by decide +kernel
theorem dX8_covers_43 : decode cX8_covers 43 = .ok (.goto 4, 3) := by decide +kernel
theorem dX8_covers_46 : decode cX8_covers 46 = .ok (.iconst 0, 1) := by decide +kernel
theorem dX8_covers_47 : decode cX8_covers 47 = .ok (.ireturn, 1) := by decide +kernel
theorem dX8_isOpen_0 : decode cX8_isOpen 0 = .ok (.aload_n 0, 1) := by decide +kernel
theorem dX8_isOpen_1 : decode cX8_isOpen 1 = .ok (.iload_n 1, 1) := by decide +kernel
theorem dX8_isOpen_2 : decode cX8_isOpen 2 = .ok (.iload_n 2, 1) := by decide +kernel
theorem dX8_isOpen_3 : decode cX8_isOpen 3 = .ok (.iload_n 3, 1) := by decide +kernel
theorem dX8_isOpen_4 : decode cX8_isOpen 4 = .ok (.invokevirtual 134, 3) := by decide +kernel
theorem dX8_isOpen_7 : decode cX8_isOpen 7 = .ok (.sipush 1000, 3) := by decide +kernel
theorem dX8_isOpen_10 : decode cX8_isOpen 10 = .ok (.iload_n 3, 1) := by decide +kernel
theorem dX8_isOpen_11 : decode cX8_isOpen 11 = .ok (.ishl, 1) := by decide +kernel
theorem dX8_isOpen_12 : decode cX8_isOpen 12 = .ok (.istore 4, 2) := by decide +kernel
theorem dX8_isOpen_14 : decode cX8_isOpen 14 = .ok (.aload_n 0, 1) := by decide +kernel
theorem dX8_isOpen_15 : decode cX8_isOpen 15 = .ok (.getfield 122, 3) := by decide +kernel
theorem dX8_isOpen_18 : decode cX8_isOpen 18 = .ok (.ifCond .lt 38, 3) := by decide +kernel
theorem dX8_isOpen_21 : decode cX8_isOpen 21 = .ok (.aload_n 0, 1) := by decide +kernel
theorem dX8_isOpen_22 : decode cX8_isOpen 22 = .ok (.getfield 125, 3) := by decide +kernel
theorem dX8_isOpen_25 : decode cX8_isOpen 25 = .ok (.ifCond .lt 31, 3) := by decide +kernel
theorem dX8_isOpen_28 : decode cX8_isOpen 28 = .ok (.aload_n 0, 1) := by decide +kernel
theorem dX8_isOpen_29 : decode cX8_isOpen 29 = .ok (.getfield 122, 3) := by decide +kernel
theorem dX8_isOpen_32 : decode cX8_isOpen 32 = .ok (.aload_n 0, 1) := by decide +kernel
theorem dX8_isOpen_33 : decode cX8_isOpen 33 = .ok (.getfield 128, 3) := by decide +kernel
theorem dX8_isOpen_36 : decode cX8_isOpen 36 = .ok (.iadd, 1) := by decide +kernel
theorem dX8_isOpen_37 : decode cX8_isOpen 37 = .ok (.iload 4, 2) := by decide +kernel
theorem dX8_isOpen_39 : decode cX8_isOpen 39 = .ok (.if_icmp .gt 17, 3) := by decide +kernel
theorem dX8_isOpen_42 : decode cX8_isOpen 42 = .ok (.aload_n 0, 1) := by decide +kernel
theorem dX8_isOpen_43 : decode cX8_isOpen 43 = .ok (.getfield 125, 3) := by decide +kernel
theorem dX8_isOpen_46 : decode cX8_isOpen 46 = .ok (.aload_n 0, 1) := by decide +kernel
theorem dX8_isOpen_47 : decode cX8_isOpen 47 = .ok (.getfield 131, 3) := by decide +kernel
theorem dX8_isOpen_50 : decode cX8_isOpen 50 = .ok (.iadd, 1) := by decide +kernel
theorem dX8_isOpen_51 : decode cX8_isOpen 51 = .ok (.iload 4, 2) := by decide +kernel
theorem dX8_isOpen_53 : decode cX8_isOpen 53 = .ok (.if_icmp .le 5, 3) := by decide +kernel
theorem dX8_isOpen_56 : decode cX8_isOpen 56 = .ok (.iconst 0, 1) := by decide +kernel
theorem dX8_isOpen_57 : decode cX8_isOpen 57 = .ok (.ireturn, 1) := by decide +kernel
theorem dX8_isOpen_58 : decode cX8_isOpen 58 = .ok (.iconst 0, 1) := by decide +kernel
theorem dX8_isOpen_59 : decode cX8_isOpen 59 = .ok (.istore 5, 2) := by decide +kernel
theorem dX8_isOpen_61 : decode cX8_isOpen 61 = .ok (.iload 5, 2) := by decide +kernel
theorem dX8_isOpen_63 : decode cX8_isOpen 63 = .ok (.aload_n 0, 1) := by decide +kernel
theorem dX8_isOpen_64 : decode cX8_isOpen 64 = .ok (.getfield 88, 3) := by decide +kernel
theorem dX8_isOpen_67 : decode cX8_isOpen 67 = .ok (.if_icmp .ge 36, 3) := by decide +kernel
theorem dX8_isOpen_70 : decode cX8_isOpen 70 = .ok (.aload_n 0, 1) := by decide +kernel
theorem dX8_isOpen_71 : decode cX8_isOpen 71 = .ok (.aload_n 0, 1) := by decide +kernel
theorem dX8_isOpen_72 : decode cX8_isOpen 72 = .ok (.getfield 13, 3) := by decide +kernel
theorem dX8_isOpen_75 : decode cX8_isOpen 75 = .ok (.iload 5, 2) := by decide +kernel
theorem dX8_isOpen_77 : decode cX8_isOpen 77 = .ok (.iaload, 1) := by decide +kernel
theorem dX8_isOpen_78 : decode cX8_isOpen 78 = .ok (.iload_n 3, 1) := by decide +kernel
theorem dX8_isOpen_79 : decode cX8_isOpen 79 = .ok (.ishl, 1) := by decide +kernel
theorem dX8_isOpen_80 : decode cX8_isOpen 80 = .ok (.aload_n 0, 1) := by decide +kernel
theorem dX8_isOpen_81 : decode cX8_isOpen 81 = .ok (.getfield 16, 3) := by decide +kernel
theorem dX8_isOpen_84 : decode cX8_isOpen 84 = .ok (.iload 5, 2) := by decide +kernel
theorem dX8_isOpen_86 : decode cX8_isOpen 86 = .ok (.iaload, 1) := by decide +kernel
theorem dX8_isOpen_87 : decode cX8_isOpen 87 = .ok (.iload_n 3, 1) := by decide +kernel
theorem dX8_isOpen_88 : decode cX8_isOpen 88 = .ok (.ishl, 1) := by decide +kernel
theorem dX8_isOpen_89 : decode cX8_isOpen 89 = .ok (.invokevirtual 138, 3) := by decide +kernel
theorem dX8_isOpen_92 : decode cX8_isOpen 92 = .ok (.ifCond .eq 5, 3) := by decide +kernel
theorem dX8_isOpen_95 : decode cX8_isOpen 95 = .ok (.iconst 0, 1) := by decide +kernel
theorem dX8_isOpen_96 : decode cX8_isOpen 96 = .ok (.ireturn, 1) := by decide +kernel
theorem dX8_isOpen_97 : decode cX8_isOpen 97 = .ok (.iinc 5 1, 3) := by decide +kernel
theorem dX8_isOpen_100 : decode cX8_isOpen 100 = .ok (.goto (-39), 3) := by decide +kernel
theorem dX8_isOpen_103 : decode cX8_isOpen 103 = .ok (.iconst 0, 1) := by decide +kernel
theorem dX8_isOpen_104 : decode cX8_isOpen 104 = .ok (.istore 5, 2) := by decide +kernel
theorem dX8_isOpen_106 : decode cX8_isOpen 106 = .ok (.iload 5, 2) := by decide +kernel
theorem dX8_isOpen_108 : decode cX8_isOpen 108 = .ok (.aload_n 0, 1) := by decide +kernel
theorem dX8_isOpen_109 : decode cX8_isOpen 109 = .ok (.getfield 91, 3) := by decide +kernel
theorem dX8_isOpen_112 : decode cX8_isOpen 112 = .ok (.if_icmp .ge 36, 3) := by decide +kernel
theorem dX8_isOpen_115 : decode cX8_isOpen 115 = .ok (.aload_n 0, 1) := by decide +kernel
theorem dX8_isOpen_116 : decode cX8_isOpen 116 = .ok (.aload_n 0, 1) := by decide +kernel
theorem dX8_isOpen_117 : decode cX8_isOpen 117 = .ok (.getfield 31, 3) := by decide +kernel
theorem dX8_isOpen_120 : decode cX8_isOpen 120 = .ok (.iload 5, 2) := by decide +kernel
theorem dX8_isOpen_122 : decode cX8_isOpen 122 = .ok (.iaload, 1) := by decide +kernel
theorem dX8_isOpen_123 : decode cX8_isOpen 123 = .ok (.iload_n 3, 1) := by decide +kernel
theorem dX8_isOpen_124 : decode cX8_isOpen 124 = .ok (.ishl, 1) := by decide +kernel
theorem dX8_isOpen_125 : decode cX8_isOpen 125 = .ok (.aload_n 0, 1) := by decide +kernel
theorem dX8_isOpen_126 : decode cX8_isOpen 126 = .ok (.getfield 34, 3) := by decide +kernel
theorem dX8_isOpen_129 : decode cX8_isOpen 129 = .ok (.iload 5, 2) := by decide +kernel
theorem dX8_isOpen_131 : decode cX8_isOpen 131 = .ok (.iaload, 1) := by decide +kernel
theorem dX8_isOpen_132 : decode cX8_isOpen 132 = .ok (.iload_n 3, 1) := by decide +kernel
theorem dX8_isOpen_133 : decode cX8_isOpen 133 = .ok (.ishl, 1) := by decide +kernel
theorem dX8_isOpen_134 : decode cX8_isOpen 134 = .ok (.invokevirtual 138, 3) := by decide +kernel
theorem dX8_isOpen_137 : decode cX8_isOpen 137 = .ok (.ifCond .eq 5, 3) := by decide +kernel
theorem dX8_isOpen_140 : decode cX8_isOpen 140 = .ok (.iconst 0, 1) := by decide +kernel
theorem dX8_isOpen_141 : decode cX8_isOpen 141 = .ok (.ireturn, 1) := by decide +kernel
theorem dX8_isOpen_142 : decode cX8_isOpen 142 = .ok (.iinc 5 1, 3) := by decide +kernel
theorem dX8_isOpen_145 : decode cX8_isOpen 145 = .ok (.goto (-39), 3) := by decide +kernel
theorem dX8_isOpen_148 : decode cX8_isOpen 148 = .ok (.iconst 1, 1) := by decide +kernel
theorem dX8_isOpen_149 : decode cX8_isOpen 149 = .ok (.ireturn, 1) := by decide +kernel
theorem dX8_take_0 : decode cX8_take 0 = .ok (.aload_n 0, 1) := by decide +kernel
theorem dX8_take_1 : decode cX8_take 1 = .ok (.iload_n 2, 1) := by decide +kernel
theorem dX8_take_2 : decode cX8_take 2 = .ok (.iload_n 3, 1) := by decide +kernel
theorem dX8_take_3 : decode cX8_take 3 = .ok (.iload 4, 2) := by decide +kernel
theorem dX8_take_5 : decode cX8_take 5 = .ok (.invokevirtual 134, 3) := by decide +kernel
theorem dX8_take_8 : decode cX8_take 8 = .ok (.aload_n 1, 1) := by decide +kernel
theorem dX8_take_9 : decode cX8_take 9 = .ok (.iconst 0, 1) := by decide +kernel
theorem dX8_take_10 : decode cX8_take 10 = .ok (.ldc2_w 141, 3) := by decide +kernel
theorem dX8_take_13 : decode cX8_take 13 = .ok (.aload_n 0, 1) := by decide +kernel
theorem dX8_take_14 : decode cX8_take 14 = .ok (.getfield 122, 3) := by decide +kernel
theorem dX8_take_17 : decode cX8_take 17 = .ok (.i2l, 1) := by decide +kernel
theorem dX8_take_18 : decode cX8_take 18 = .ok (.lmul, 1) := by decide +kernel
theorem dX8_take_19 : decode cX8_take 19 = .ok (.lastore, 1) := by decide +kernel
theorem dX8_take_20 : decode cX8_take 20 = .ok (.aload_n 1, 1) := by decide +kernel
theorem dX8_take_21 : decode cX8_take 21 = .ok (.iconst 1, 1) := by decide +kernel
theorem dX8_take_22 : decode cX8_take 22 = .ok (.ldc2_w 141, 3) := by decide +kernel
theorem dX8_take_25 : decode cX8_take 25 = .ok (.aload_n 0, 1) := by decide +kernel
theorem dX8_take_26 : decode cX8_take 26 = .ok (.getfield 125, 3) := by decide +kernel
theorem dX8_take_29 : decode cX8_take 29 = .ok (.i2l, 1) := by decide +kernel
theorem dX8_take_30 : decode cX8_take 30 = .ok (.lmul, 1) := by decide +kernel
theorem dX8_take_31 : decode cX8_take 31 = .ok (.lastore, 1) := by decide +kernel
theorem dX8_take_32 : decode cX8_take 32 = .ok (.aload_n 1, 1) := by decide +kernel
theorem dX8_take_33 : decode cX8_take 33 = .ok (.iconst 2, 1) := by decide +kernel
theorem dX8_take_34 : decode cX8_take 34 = .ok (.ldc2_w 141, 3) := by decide +kernel
theorem dX8_take_37 : decode cX8_take 37 = .ok (.aload_n 0, 1) := by decide +kernel
theorem dX8_take_38 : decode cX8_take 38 = .ok (.getfield 122, 3) := by decide +kernel
theorem dX8_take_41 : decode cX8_take 41 = .ok (.aload_n 0, 1) := by decide +kernel
theorem dX8_take_42 : decode cX8_take 42 = .ok (.getfield 128, 3) := by decide +kernel
theorem dX8_take_45 : decode cX8_take 45 = .ok (.iadd, 1) := by decide +kernel
theorem dX8_take_46 : decode cX8_take 46 = .ok (.i2l, 1) := by decide +kernel
theorem dX8_take_47 : decode cX8_take 47 = .ok (.lmul, 1) := by decide +kernel
theorem dX8_take_48 : decode cX8_take 48 = .ok (.lastore, 1) := by decide +kernel
theorem dX8_take_49 : decode cX8_take 49 = .ok (.aload_n 1, 1) := by decide +kernel
theorem dX8_take_50 : decode cX8_take 50 = .ok (.iconst 3, 1) := by decide +kernel
theorem dX8_take_51 : decode cX8_take 51 = .ok (.ldc2_w 141, 3) := by decide +kernel
theorem dX8_take_54 : decode cX8_take 54 = .ok (.aload_n 0, 1) := by decide +kernel
theorem dX8_take_55 : decode cX8_take 55 = .ok (.getfield 125, 3) := by decide +kernel
theorem dX8_take_58 : decode cX8_take 58 = .ok (.aload_n 0, 1) := by decide +kernel
theorem dX8_take_59 : decode cX8_take 59 = .ok (.getfield 131, 3) := by decide +kernel
theorem dX8_take_62 : decode cX8_take 62 = .ok (.iadd, 1) := by decide +kernel
theorem dX8_take_63 : decode cX8_take 63 = .ok (.i2l, 1) := by decide +kernel
theorem dX8_take_64 : decode cX8_take 64 = .ok (.lmul, 1) := by decide +kernel
theorem dX8_take_65 : decode cX8_take 65 = .ok (.lastore, 1) := by decide +kernel
theorem dX8_take_66 : decode cX8_take 66 = .ok (.aload_n 1, 1) := by decide +kernel
theorem dX8_take_67 : decode cX8_take 67 = .ok (.iconst 4, 1) := by decide +kernel
theorem dX8_take_68 : decode cX8_take 68 = .ok (.ldc2_w 141, 3) := by decide +kernel
theorem dX8_take_71 : decode cX8_take 71 = .ok (.aload_n 0, 1) := by decide +kernel
theorem dX8_take_72 : decode cX8_take 72 = .ok (.getfield 13, 3) := by decide +kernel
theorem dX8_take_75 : decode cX8_take 75 = .ok (.iload_n 2, 1) := by decide +kernel
theorem dX8_take_76 : decode cX8_take 76 = .ok (.iaload, 1) := by decide +kernel
theorem dX8_take_77 : decode cX8_take 77 = .ok (.iload 4, 2) := by decide +kernel
theorem dX8_take_79 : decode cX8_take 79 = .ok (.ishl, 1) := by decide +kernel
theorem dX8_take_80 : decode cX8_take 80 = .ok (.i2l, 1) := by decide +kernel
theorem dX8_take_81 : decode cX8_take 81 = .ok (.lmul, 1) := by decide +kernel
theorem dX8_take_82 : decode cX8_take 82 = .ok (.lastore, 1) := by decide +kernel
theorem dX8_take_83 : decode cX8_take 83 = .ok (.aload_n 1, 1) := by decide +kernel
theorem dX8_take_84 : decode cX8_take 84 = .ok (.iconst 5, 1) := by decide +kernel
theorem dX8_take_85 : decode cX8_take 85 = .ok (.ldc2_w 141, 3) := by decide +kernel
theorem dX8_take_88 : decode cX8_take 88 = .ok (.aload_n 0, 1) := by decide +kernel
theorem dX8_take_89 : decode cX8_take 89 = .ok (.getfield 16, 3) := by decide +kernel
theorem dX8_take_92 : decode cX8_take 92 = .ok (.iload_n 2, 1) := by decide +kernel
theorem dX8_take_93 : decode cX8_take 93 = .ok (.iaload, 1) := by decide +kernel
theorem dX8_take_94 : decode cX8_take 94 = .ok (.iload 4, 2) := by decide +kernel
theorem dX8_take_96 : decode cX8_take 96 = .ok (.ishl, 1) := by decide +kernel
theorem dX8_take_97 : decode cX8_take 97 = .ok (.i2l, 1) := by decide +kernel
theorem dX8_take_98 : decode cX8_take 98 = .ok (.lmul, 1) := by decide +kernel
theorem dX8_take_99 : decode cX8_take 99 = .ok (.lastore, 1) := by decide +kernel
theorem dX8_take_100 : decode cX8_take 100 = .ok (.aload_n 1, 1) := by decide +kernel
theorem dX8_take_101 : decode cX8_take 101 = .ok (.bipush 6, 2) := by decide +kernel
theorem dX8_take_103 : decode cX8_take 103 = .ok (.ldc2_w 141, 3) := by decide +kernel
theorem dX8_take_106 : decode cX8_take 106 = .ok (.aload_n 0, 1) := by decide +kernel
theorem dX8_take_107 : decode cX8_take 107 = .ok (.getfield 122, 3) := by decide +kernel
theorem dX8_take_110 : decode cX8_take 110 = .ok (.i2l, 1) := by decide +kernel
theorem dX8_take_111 : decode cX8_take 111 = .ok (.lmul, 1) := by decide +kernel
theorem dX8_take_112 : decode cX8_take 112 = .ok (.aload_n 0, 1) := by decide +kernel
theorem dX8_take_113 : decode cX8_take 113 = .ok (.getfield 128, 3) := by decide +kernel
theorem dX8_take_116 : decode cX8_take 116 = .ok (.i2l, 1) := by decide +kernel
theorem dX8_take_117 : decode cX8_take 117 = .ok (.ladd, 1) := by decide +kernel
theorem dX8_take_118 : decode cX8_take 118 = .ok (.lastore, 1) := by decide +kernel
theorem dX8_take_119 : decode cX8_take 119 = .ok (.aload_n 1, 1) := by decide +kernel
theorem dX8_take_120 : decode cX8_take 120 = .ok (.bipush 7, 2) := by decide +kernel
theorem dX8_take_122 : decode cX8_take 122 = .ok (.ldc2_w 141, 3) := by decide +kernel
theorem dX8_take_125 : decode cX8_take 125 = .ok (.aload_n 0, 1) := by decide +kernel
theorem dX8_take_126 : decode cX8_take 126 = .ok (.getfield 125, 3) := by decide +kernel
theorem dX8_take_129 : decode cX8_take 129 = .ok (.i2l, 1) := by decide +kernel
theorem dX8_take_130 : decode cX8_take 130 = .ok (.lmul, 1) := by decide +kernel
theorem dX8_take_131 : decode cX8_take 131 = .ok (.aload_n 0, 1) := by decide +kernel
theorem dX8_take_132 : decode cX8_take 132 = .ok (.getfield 131, 3) := by decide +kernel
theorem dX8_take_135 : decode cX8_take 135 = .ok (.i2l, 1) := by decide +kernel
theorem dX8_take_136 : decode cX8_take 136 = .ok (.ladd, 1) := by decide +kernel
theorem dX8_take_137 : decode cX8_take 137 = .ok (.lastore, 1) := by decide +kernel
theorem dX8_take_138 : decode cX8_take 138 = .ok (.return_, 1) := by decide +kernel
theorem dX8_signOf_0 : decode cX8_signOf 0 = .ok (.lload_n 0, 1) := by decide +kernel
theorem dX8_signOf_1 : decode cX8_signOf 1 = .ok (.lconst 0, 1) := by decide +kernel
theorem dX8_signOf_2 : decode cX8_signOf 2 = .ok (.lcmp, 1) := by decide +kernel
theorem dX8_signOf_3 : decode cX8_signOf 3 = .ok (.ifCond .le 7, 3) := by decide +kernel
theorem dX8_signOf_6 : decode cX8_signOf 6 = .ok (.iconst 1, 1) := by decide +kernel
theorem dX8_signOf_7 : decode cX8_signOf 7 = .ok (.goto 14, 3) := by decide +kernel
theorem dX8_signOf_10 : decode cX8_signOf 10 = .ok (.lload_n 0, 1) := by decide +kernel
theorem dX8_signOf_11 : decode cX8_signOf 11 = .ok (.lconst 0, 1) := by decide +kernel
theorem dX8_signOf_12 : decode cX8_signOf 12 = .ok (.lcmp, 1) := by decide +kernel
theorem dX8_signOf_13 : decode cX8_signOf 13 = .ok (.ifCond .ge 7, 3) := by decide +kernel
theorem dX8_signOf_16 : decode cX8_signOf 16 = .ok (.iconst (-1), 1) := by decide +kernel
theorem dX8_signOf_17 : decode cX8_signOf 17 = .ok (.goto 4, 3) := by decide +kernel
theorem dX8_signOf_20 : decode cX8_signOf 20 = .ok (.iconst 0, 1) := by decide +kernel
theorem dX8_signOf_21 : decode cX8_signOf 21 = .ok (.ireturn, 1) := by decide +kernel
theorem dX8_side_0 : decode cX8_side 0 = .ok (.aload_n 0, 1) := by decide +kernel
theorem dX8_side_1 : decode cX8_side 1 = .ok (.iload_n 2, 1) := by decide +kernel
theorem dX8_side_2 : decode cX8_side 2 = .ok (.laload, 1) := by decide +kernel
theorem dX8_side_3 : decode cX8_side 3 = .ok (.aload_n 0, 1) := by decide +kernel
theorem dX8_side_4 : decode cX8_side 4 = .ok (.iload_n 1, 1) := by decide +kernel
theorem dX8_side_5 : decode cX8_side 5 = .ok (.laload, 1) := by decide +kernel
theorem dX8_side_6 : decode cX8_side 6 = .ok (.lsub, 1) := by decide +kernel
theorem dX8_side_7 : decode cX8_side 7 = .ok (.aload_n 3, 1) := by decide +kernel
theorem dX8_side_8 : decode cX8_side 8 = .ok (.iload 4, 2) := by decide +kernel
theorem dX8_side_10 : decode cX8_side 10 = .ok (.iconst 1, 1) := by decide +kernel
theorem dX8_side_11 : decode cX8_side 11 = .ok (.iadd, 1) := by decide +kernel
theorem dX8_side_12 : decode cX8_side 12 = .ok (.laload, 1) := by decide +kernel
theorem dX8_side_13 : decode cX8_side 13 = .ok (.aload_n 0, 1) := by decide +kernel
theorem dX8_side_14 : decode cX8_side 14 = .ok (.iload_n 1, 1) := by decide +kernel
theorem dX8_side_15 : decode cX8_side 15 = .ok (.iconst 1, 1) := by decide +kernel
theorem dX8_side_16 : decode cX8_side 16 = .ok (.iadd, 1) := by decide +kernel
theorem dX8_side_17 : decode cX8_side 17 = .ok (.laload, 1) := by decide +kernel
theorem dX8_side_18 : decode cX8_side 18 = .ok (.lsub, 1) := by decide +kernel
theorem dX8_side_19 : decode cX8_side 19 = .ok (.lmul, 1) := by decide +kernel
theorem dX8_side_20 : decode cX8_side 20 = .ok (.aload_n 0, 1) := by decide +kernel
theorem dX8_side_21 : decode cX8_side 21 = .ok (.iload_n 2, 1) := by decide +kernel
theorem dX8_side_22 : decode cX8_side 22 = .ok (.iconst 1, 1) := by decide +kernel
theorem dX8_side_23 : decode cX8_side 23 = .ok (.iadd, 1) := by decide +kernel
theorem dX8_side_24 : decode cX8_side 24 = .ok (.laload, 1) := by decide +kernel
theorem dX8_side_25 : decode cX8_side 25 = .ok (.aload_n 0, 1) := by decide +kernel
theorem dX8_side_26 : decode cX8_side 26 = .ok (.iload_n 1, 1) := by decide +kernel
theorem dX8_side_27 : decode cX8_side 27 = .ok (.iconst 1, 1) := by decide +kernel
theorem dX8_side_28 : decode cX8_side 28 = .ok (.iadd, 1) := by decide +kernel
theorem dX8_side_29 : decode cX8_side 29 = .ok (.laload, 1) := by decide +kernel
theorem dX8_side_30 : decode cX8_side 30 = .ok (.lsub, 1) := by decide +kernel
theorem dX8_side_31 : decode cX8_side 31 = .ok (.aload_n 3, 1) := by decide +kernel
theorem dX8_side_32 : decode cX8_side 32 = .ok (.iload 4, 2) := by decide +kernel
theorem dX8_side_34 : decode cX8_side 34 = .ok (.laload, 1) := by decide +kernel
theorem dX8_side_35 : decode cX8_side 35 = .ok (.aload_n 0, 1) := by decide +kernel
theorem dX8_side_36 : decode cX8_side 36 = .ok (.iload_n 1, 1) := by decide +kernel
theorem dX8_side_37 : decode cX8_side 37 = .ok (.laload, 1) := by decide +kernel
theorem dX8_side_38 : decode cX8_side 38 = .ok (.lsub, 1) := by decide +kernel
theorem dX8_side_39 : decode cX8_side 39 = .ok (.lmul, 1) := by decide +kernel
theorem dX8_side_40 : decode cX8_side 40 = .ok (.lsub, 1) := by decide +kernel
theorem dX8_side_41 : decode cX8_side 41 = .ok (.invokestatic 143, 3) := by decide +kernel
theorem dX8_side_44 : decode cX8_side 44 = .ok (.ireturn, 1) := by decide +kernel
theorem dX8_isBetween_0 : decode cX8_isBetween 0 = .ok (.lload_n 0, 1) := by decide +kernel
theorem dX8_isBetween_1 : decode cX8_isBetween 1 = .ok (.lload_n 2, 1) := by decide +kernel
theorem dX8_isBetween_2 : decode cX8_isBetween 2 = .ok (.lcmp, 1) := by decide +kernel
theorem dX8_isBetween_3 : decode cX8_isBetween 3 = .ok (.ifCond .lt 10, 3) := by decide +kernel
theorem dX8_isBetween_6 : decode cX8_isBetween 6 = .ok (.lload_n 0, 1) := by decide +kernel
theorem dX8_isBetween_7 : decode cX8_isBetween 7 = .ok (.lload 4, 2) := by decide +kernel
theorem dX8_isBetween_9 : decode cX8_isBetween 9 = .ok (.lcmp, 1) := by decide +kernel
theorem dX8_isBetween_10 : decode cX8_isBetween 10 = .ok (.ifCond .le 16, 3) := by decide +kernel
theorem dX8_isBetween_13 : decode cX8_isBetween 13 = .ok (.lload_n 0, 1) := by decide +kernel
theorem dX8_isBetween_14 : decode cX8_isBetween 14 = .ok (.lload 4, 2) := by decide +kernel
theorem dX8_isBetween_16 : decode cX8_isBetween 16 = .ok (.lcmp, 1) := by decide +kernel
theorem dX8_isBetween_17 : decode cX8_isBetween 17 = .ok (.ifCond .lt 13, 3) := by decide +kernel
theorem dX8_isBetween_20 : decode cX8_isBetween 20 = .ok (.lload_n 0, 1) := by decide +kernel
theorem dX8_isBetween_21 : decode cX8_isBetween 21 = .ok (.lload_n 2, 1) := by decide +kernel
theorem dX8_isBetween_22 : decode cX8_isBetween 22 = .ok (.lcmp, 1) := by decide +kernel
theorem dX8_isBetween_23 : decode cX8_isBetween 23 = .ok (.ifCond .gt 7, 3) := by decide +kernel
theorem dX8_isBetween_26 : decode cX8_isBetween 26 = .ok (.iconst 1, 1) := by decide +kernel
theorem dX8_isBetween_27 : decode cX8_isBetween 27 = .ok (.goto 4, 3) := by decide +kernel
theorem dX8_isBetween_30 : decode cX8_isBetween 30 = .ok (.iconst 0, 1) := by decide +kernel
theorem dX8_isBetween_31 : decode cX8_isBetween 31 = .ok (.ireturn, 1) := by decide +kernel
theorem dX8_isOn_0 : decode cX8_isOn 0 = .ok (.aload_n 1, 1) := by decide +kernel
theorem dX8_isOn_1 : decode cX8_isOn 1 = .ok (.iload_n 2, 1) := by decide +kernel
theorem dX8_isOn_2 : decode cX8_isOn 2 = .ok (.laload, 1) := by decide +kernel
theorem dX8_isOn_3 : decode cX8_isOn 3 = .ok (.aload_n 0, 1) := by decide +kernel
theorem dX8_isOn_4 : decode cX8_isOn 4 = .ok (.iconst 4, 1) := by decide +kernel
theorem dX8_isOn_5 : decode cX8_isOn 5 = .ok (.laload, 1) := by decide +kernel
theorem dX8_isOn_6 : decode cX8_isOn 6 = .ok (.aload_n 0, 1) := by decide +kernel
theorem dX8_isOn_7 : decode cX8_isOn 7 = .ok (.bipush 6, 2) := by decide +kernel
theorem dX8_isOn_9 : decode cX8_isOn 9 = .ok (.laload, 1) := by decide +kernel
theorem dX8_isOn_10 : decode cX8_isOn 10 = .ok (.invokestatic 147, 3) := by decide +kernel
theorem dX8_isOn_13 : decode cX8_isOn 13 = .ok (.ifCond .eq 25, 3) := by decide +kernel
theorem dX8_isOn_16 : decode cX8_isOn 16 = .ok (.aload_n 1, 1) := by decide +kernel
theorem dX8_isOn_17 : decode cX8_isOn 17 = .ok (.iload_n 2, 1) := by decide +kernel
theorem dX8_isOn_18 : decode cX8_isOn 18 = .ok (.iconst 1, 1) := by decide +kernel
theorem dX8_isOn_19 : decode cX8_isOn 19 = .ok (.iadd, 1) := by decide +kernel
theorem dX8_isOn_20 : decode cX8_isOn 20 = .ok (.laload, 1) := by decide +kernel
theorem dX8_isOn_21 : decode cX8_isOn 21 = .ok (.aload_n 0, 1) := by decide +kernel
theorem dX8_isOn_22 : decode cX8_isOn 22 = .ok (.iconst 5, 1) := by decide +kernel
theorem dX8_isOn_23 : decode cX8_isOn 23 = .ok (.laload, 1) := by decide +kernel
theorem dX8_isOn_24 : decode cX8_isOn 24 = .ok (.aload_n 0, 1) := by decide +kernel
theorem dX8_isOn_25 : decode cX8_isOn 25 = .ok (.bipush 7, 2) := by decide +kernel
theorem dX8_isOn_27 : decode cX8_isOn 27 = .ok (.laload, 1) := by decide +kernel
theorem dX8_isOn_28 : decode cX8_isOn 28 = .ok (.invokestatic 147, 3) := by decide +kernel
theorem dX8_isOn_31 : decode cX8_isOn 31 = .ok (.ifCond .eq 7, 3) := by decide +kernel
theorem dX8_isOn_34 : decode cX8_isOn 34 = .ok (.iconst 1, 1) := by decide +kernel
theorem dX8_isOn_35 : decode cX8_isOn 35 = .ok (.goto 4, 3) := by decide +kernel
theorem dX8_isOn_38 : decode cX8_isOn 38 = .ok (.iconst 0, 1) := by decide +kernel
theorem dX8_isOn_39 : decode cX8_isOn 39 = .ok (.ireturn, 1) := by decide +kernel
theorem dX8_linesMeet_0 : decode cX8_linesMeet 0 = .ok (.aload_n 0, 1) := by decide +kernel
theorem dX8_linesMeet_1 : decode cX8_linesMeet 1 = .ok (.getfield 40, 3) := by decide +kernel
theorem dX8_linesMeet_4 : decode cX8_linesMeet 4 = .ok (.iconst 4, 1) := by decide +kernel
theorem dX8_linesMeet_5 : decode cX8_linesMeet 5 = .ok (.bipush 6, 2) := by decide +kernel
theorem dX8_linesMeet_7 : decode cX8_linesMeet 7 = .ok (.aload_n 0, 1) := by decide +kernel
theorem dX8_linesMeet_8 : decode cX8_linesMeet 8 = .ok (.getfield 44, 3) := by decide +kernel
theorem dX8_linesMeet_11 : decode cX8_linesMeet 11 = .ok (.iconst 4, 1) := by decide +kernel
theorem dX8_linesMeet_12 : decode cX8_linesMeet 12 = .ok (.invokestatic 151, 3) := by decide +kernel
theorem dX8_linesMeet_15 : decode cX8_linesMeet 15 = .ok (.istore_n 1, 1) := by decide +kernel
theorem dX8_linesMeet_16 : decode cX8_linesMeet 16 = .ok (.aload_n 0, 1) := by decide +kernel
theorem dX8_linesMeet_17 : decode cX8_linesMeet 17 = .ok (.getfield 40, 3) := by decide +kernel
theorem dX8_linesMeet_20 : decode cX8_linesMeet 20 = .ok (.iconst 4, 1) := by decide +kernel
theorem dX8_linesMeet_21 : decode cX8_linesMeet 21 = .ok (.bipush 6, 2) := by decide +kernel
theorem dX8_linesMeet_23 : decode cX8_linesMeet 23 = .ok (.aload_n 0, 1) := by decide +kernel
theorem dX8_linesMeet_24 : decode cX8_linesMeet 24 = .ok (.getfield 44, 3) := by decide +kernel
theorem dX8_linesMeet_27 : decode cX8_linesMeet 27 = .ok (.bipush 6, 2) := by decide +kernel
theorem dX8_linesMeet_29 : decode cX8_linesMeet 29 = .ok (.invokestatic 151, 3) := by decide +kernel
theorem dX8_linesMeet_32 : decode cX8_linesMeet 32 = .ok (.istore_n 2, 1) := by decide +kernel
theorem dX8_linesMeet_33 : decode cX8_linesMeet 33 = .ok (.aload_n 0, 1) := by decide +kernel
theorem dX8_linesMeet_34 : decode cX8_linesMeet 34 = .ok (.getfield 44, 3) := by decide +kernel
theorem dX8_linesMeet_37 : decode cX8_linesMeet 37 = .ok (.iconst 4, 1) := by decide +kernel
theorem dX8_linesMeet_38 : decode cX8_linesMeet 38 = .ok (.bipush 6, 2) := by decide +kernel
theorem dX8_linesMeet_40 : decode cX8_linesMeet 40 = .ok (.aload_n 0, 1) := by decide +kernel
theorem dX8_linesMeet_41 : decode cX8_linesMeet 41 = .ok (.getfield 40, 3) := by decide +kernel
theorem dX8_linesMeet_44 : decode cX8_linesMeet 44 = .ok (.iconst 4, 1) := by decide +kernel
theorem dX8_linesMeet_45 : decode cX8_linesMeet 45 = .ok (.invokestatic 151, 3) := by decide +kernel
theorem dX8_linesMeet_48 : decode cX8_linesMeet 48 = .ok (.istore_n 3, 1) := by decide +kernel
theorem dX8_linesMeet_49 : decode cX8_linesMeet 49 = .ok (.aload_n 0, 1) := by decide +kernel
theorem dX8_linesMeet_50 : decode cX8_linesMeet 50 = .ok (.getfield 44, 3) := by decide +kernel
theorem dX8_linesMeet_53 : decode cX8_linesMeet 53 = .ok (.iconst 4, 1) := by decide +kernel
theorem dX8_linesMeet_54 : decode cX8_linesMeet 54 = .ok (.bipush 6, 2) := by decide +kernel
theorem dX8_linesMeet_56 : decode cX8_linesMeet 56 = .ok (.aload_n 0, 1) := by decide +kernel
theorem dX8_linesMeet_57 : decode cX8_linesMeet 57 = .ok (.getfield 40, 3) := by decide +kernel
theorem dX8_linesMeet_60 : decode cX8_linesMeet 60 = .ok (.bipush 6, 2) := by decide +kernel
theorem dX8_linesMeet_62 : decode cX8_linesMeet 62 = .ok (.invokestatic 151, 3) := by decide +kernel
theorem dX8_linesMeet_65 : decode cX8_linesMeet 65 = .ok (.istore 4, 2) := by decide +kernel
theorem dX8_linesMeet_67 : decode cX8_linesMeet 67 = .ok (.iload_n 1, 1) := by decide +kernel
theorem dX8_linesMeet_68 : decode cX8_linesMeet 68 = .ok (.iload_n 2, 1) := by decide +kernel
theorem dX8_linesMeet_69 : decode cX8_linesMeet 69 = .ok (.imul, 1) := by decide +kernel
theorem dX8_linesMeet_70 : decode cX8_linesMeet 70 = .ok (.ifCond .ge 12, 3) := by decide +kernel
theorem dX8_linesMeet_73 : decode cX8_linesMeet 73 = .ok (.iload_n 3, 1) := by decide +kernel
theorem dX8_linesMeet_74 : decode cX8_linesMeet 74 = .ok (.iload 4, 2) := by decide +kernel
theorem dX8_linesMeet_76 : decode cX8_linesMeet 76 = .ok (.imul, 1) := by decide +kernel
theorem dX8_linesMeet_77 : decode cX8_linesMeet 77 = .ok (.ifCond .ge 5, 3) := by decide +kernel
theorem dX8_linesMeet_80 : decode cX8_linesMeet 80 = .ok (.iconst 1, 1) := by decide +kernel
theorem dX8_linesMeet_81 : decode cX8_linesMeet 81 = .ok (.ireturn, 1) := by decide +kernel
theorem dX8_linesMeet_82 : decode cX8_linesMeet 82 = .ok (.iload_n 1, 1) := by decide +kernel
theorem dX8_linesMeet_83 : decode cX8_linesMeet 83 = .ok (.ifCond .ne 18, 3) := by decide +kernel
theorem dX8_linesMeet_86 : decode cX8_linesMeet 86 = .ok (.aload_n 0, 1) := by decide +kernel
theorem dX8_linesMeet_87 : decode cX8_linesMeet 87 = .ok (.getfield 40, 3) := by decide +kernel
theorem dX8_linesMeet_90 : decode cX8_linesMeet 90 = .ok (.aload_n 0, 1) := by decide +kernel
theorem dX8_linesMeet_91 : decode cX8_linesMeet 91 = .ok (.getfield 44, 3) := by decide +kernel
theorem dX8_linesMeet_94 : decode cX8_linesMeet 94 = .ok (.iconst 4, 1) := by decide +kernel
theorem dX8_linesMeet_95 : decode cX8_linesMeet 95 = .ok (.invokestatic 155, 3) := by decide +kernel
theorem dX8_linesMeet_98 : decode cX8_linesMeet 98 = .ok (.ifCond .ne 63, 3) := by decide +kernel
theorem dX8_linesMeet_101 : decode cX8_linesMeet 101 = .ok (.iload_n 2, 1) := by decide +kernel
theorem dX8_linesMeet_102 : decode cX8_linesMeet 102 = .ok (.ifCond .ne 19, 3) := by decide +kernel
theorem dX8_linesMeet_105 : decode cX8_linesMeet 105 = .ok (.aload_n 0, 1) := by decide +kernel
theorem dX8_linesMeet_106 : decode cX8_linesMeet 106 = .ok (.getfield 40, 3) := by decide +kernel
theorem dX8_linesMeet_109 : decode cX8_linesMeet 109 = .ok (.aload_n 0, 1) := by decide +kernel
theorem dX8_linesMeet_110 : decode cX8_linesMeet 110 = .ok (.getfield 44, 3) := by decide +kernel
theorem dX8_linesMeet_113 : decode cX8_linesMeet 113 = .ok (.bipush 6, 2) := by decide +kernel
theorem dX8_linesMeet_115 : decode cX8_linesMeet 115 = .ok (.invokestatic 155, 3) := by decide +kernel
theorem dX8_linesMeet_118 : decode cX8_linesMeet 118 = .ok (.ifCond .ne 43, 3) := by decide +kernel
theorem dX8_linesMeet_121 : decode cX8_linesMeet 121 = .ok (.iload_n 3, 1) := by decide +kernel
theorem dX8_linesMeet_122 : decode cX8_linesMeet 122 = .ok (.ifCond .ne 18, 3) := by decide +kernel
theorem dX8_linesMeet_125 : decode cX8_linesMeet 125 = .ok (.aload_n 0, 1) := by decide +kernel
theorem dX8_linesMeet_126 : decode cX8_linesMeet 126 = .ok (.getfield 44, 3) := by decide +kernel
theorem dX8_linesMeet_129 : decode cX8_linesMeet 129 = .ok (.aload_n 0, 1) := by decide +kernel
theorem dX8_linesMeet_130 : decode cX8_linesMeet 130 = .ok (.getfield 40, 3) := by decide +kernel
theorem dX8_linesMeet_133 : decode cX8_linesMeet 133 = .ok (.iconst 4, 1) := by decide +kernel
theorem dX8_linesMeet_134 : decode cX8_linesMeet 134 = .ok (.invokestatic 155, 3) := by decide +kernel
theorem dX8_linesMeet_137 : decode cX8_linesMeet 137 = .ok (.ifCond .ne 24, 3) := by decide +kernel
theorem dX8_linesMeet_140 : decode cX8_linesMeet 140 = .ok (.iload 4, 2) := by decide +kernel
theorem dX8_linesMeet_142 : decode cX8_linesMeet 142 = .ok (.ifCond .ne 23, 3) := by decide +kernel
theorem dX8_linesMeet_145 : decode cX8_linesMeet 145 = .ok (.aload_n 0, 1) := by decide +kernel
theorem dX8_linesMeet_146 : decode cX8_linesMeet 146 = .ok (.getfield 44, 3) := by decide +kernel
theorem dX8_linesMeet_149 : decode cX8_linesMeet 149 = .ok (.aload_n 0, 1) := by decide +kernel
theorem dX8_linesMeet_150 : decode cX8_linesMeet 150 = .ok (.getfield 40, 3) := by decide +kernel
theorem dX8_linesMeet_153 : decode cX8_linesMeet 153 = .ok (.bipush 6, 2) := by decide +kernel
theorem dX8_linesMeet_155 : decode cX8_linesMeet 155 = .ok (.invokestatic 155, 3) := by decide +kernel
theorem dX8_linesMeet_158 : decode cX8_linesMeet 158 = .ok (.ifCond .eq 7, 3) := by decide +kernel
theorem dX8_linesMeet_161 : decode cX8_linesMeet 161 = .ok (.iconst 1, 1) := by decide +kernel
theorem dX8_linesMeet_162 : decode cX8_linesMeet 162 = .ok (.goto 4, 3) := by decide +kernel
theorem dX8_linesMeet_165 : decode cX8_linesMeet 165 = .ok (.iconst 0, 1) := by decide +kernel
theorem dX8_linesMeet_166 : decode cX8_linesMeet 166 = .ok (.ireturn, 1) := by decide +kernel
theorem dX8_cut_0 : decode cX8_cut 0 = .ok (.lload_n 3, 1) := by decide +kernel
theorem dX8_cut_1 : decode cX8_cut 1 = .ok (.lconst 0, 1) := by decide +kernel
theorem dX8_cut_2 : decode cX8_cut 2 = .ok (.lcmp, 1) := by decide +kernel
theorem dX8_cut_3 : decode cX8_cut 3 = .ok (.ifCond .ne 23, 3) := by decide +kernel
theorem dX8_cut_6 : decode cX8_cut 6 = .ok (.lload_n 1, 1) := by decide +kernel
theorem dX8_cut_7 : decode cX8_cut 7 = .ok (.lload 5, 2) := by decide +kernel
theorem dX8_cut_9 : decode cX8_cut 9 = .ok (.lcmp, 1) := by decide +kernel
theorem dX8_cut_10 : decode cX8_cut 10 = .ok (.ifCond .le 14, 3) := by decide +kernel
theorem dX8_cut_13 : decode cX8_cut 13 = .ok (.lload_n 1, 1) := by decide +kernel
theorem dX8_cut_14 : decode cX8_cut 14 = .ok (.lload 7, 2) := by decide +kernel
theorem dX8_cut_16 : decode cX8_cut 16 = .ok (.lcmp, 1) := by decide +kernel
theorem dX8_cut_17 : decode cX8_cut 17 = .ok (.ifCond .ge 7, 3) := by decide +kernel
theorem dX8_cut_20 : decode cX8_cut 20 = .ok (.iconst 1, 1) := by decide +kernel
theorem dX8_cut_21 : decode cX8_cut 21 = .ok (.goto 4, 3) := by decide +kernel
theorem dX8_cut_24 : decode cX8_cut 24 = .ok (.iconst 0, 1) := by decide +kernel
theorem dX8_cut_25 : decode cX8_cut 25 = .ok (.ireturn, 1) := by decide +kernel
theorem dX8_cut_26 : decode cX8_cut 26 = .ok (.lload_n 3, 1) := by decide +kernel
theorem dX8_cut_27 : decode cX8_cut 27 = .ok (.lconst 0, 1) := by decide +kernel
theorem dX8_cut_28 : decode cX8_cut 28 = .ok (.lcmp, 1) := by decide +kernel
theorem dX8_cut_29 : decode cX8_cut 29 = .ok (.ifCond .le 7, 3) := by decide +kernel
theorem dX8_cut_32 : decode cX8_cut 32 = .ok (.lload_n 3, 1) := by decide +kernel
theorem dX8_cut_33 : decode cX8_cut 33 = .ok (.goto 5, 3) := by decide +kernel
theorem dX8_cut_36 : decode cX8_cut 36 = .ok (.lload_n 3, 1) := by decide +kernel
theorem dX8_cut_37 : decode cX8_cut 37 = .ok (.lneg, 1) := by decide +kernel
theorem dX8_cut_38 : decode cX8_cut 38 = .ok (.lstore 9, 2) := by decide +kernel
theorem dX8_cut_40 : decode cX8_cut 40 = .ok (.lload_n 3, 1) := by decide +kernel
theorem dX8_cut_41 : decode cX8_cut 41 = .ok (.lconst 0, 1) := by decide +kernel
theorem dX8_cut_42 : decode cX8_cut 42 = .ok (.lcmp, 1) := by decide +kernel
theorem dX8_cut_43 : decode cX8_cut 43 = .ok (.ifCond .le 10, 3) := by decide +kernel
theorem dX8_cut_46 : decode cX8_cut 46 = .ok (.lload 5, 2) := by decide +kernel
theorem dX8_cut_48 : decode cX8_cut 48 = .ok (.lload_n 1, 1) := by decide +kernel
theorem dX8_cut_49 : decode cX8_cut 49 = .ok (.lsub, 1) := by decide +kernel
theorem dX8_cut_50 : decode cX8_cut 50 = .ok (.goto 7, 3) := by decide +kernel
theorem dX8_cut_53 : decode cX8_cut 53 = .ok (.lload_n 1, 1) := by decide +kernel
theorem dX8_cut_54 : decode cX8_cut 54 = .ok (.lload 7, 2) := by decide +kernel
theorem dX8_cut_56 : decode cX8_cut 56 = .ok (.lsub, 1) := by decide +kernel
theorem dX8_cut_57 : decode cX8_cut 57 = .ok (.lstore 11, 2) := by decide +kernel
theorem dX8_cut_59 : decode cX8_cut 59 = .ok (.lload_n 3, 1) := by decide +kernel
theorem dX8_cut_60 : decode cX8_cut 60 = .ok (.lconst 0, 1) := by decide +kernel
theorem dX8_cut_61 : decode cX8_cut 61 = .ok (.lcmp, 1) := by decide +kernel
theorem dX8_cut_62 : decode cX8_cut 62 = .ok (.ifCond .le 10, 3) := by decide +kernel
theorem dX8_cut_65 : decode cX8_cut 65 = .ok (.lload 7, 2) := by decide +kernel
theorem dX8_cut_67 : decode cX8_cut 67 = .ok (.lload_n 1, 1) := by decide +kernel
theorem dX8_cut_68 : decode cX8_cut 68 = .ok (.lsub, 1) := by decide +kernel
theorem dX8_cut_69 : decode cX8_cut 69 = .ok (.goto 7, 3) := by decide +kernel
theorem dX8_cut_72 : decode cX8_cut 72 = .ok (.lload_n 1, 1) := by decide +kernel
theorem dX8_cut_73 : decode cX8_cut 73 = .ok (.lload 5, 2) := by decide +kernel
theorem dX8_cut_75 : decode cX8_cut 75 = .ok (.lsub, 1) := by decide +kernel
theorem dX8_cut_76 : decode cX8_cut 76 = .ok (.lstore 13, 2) := by decide +kernel
theorem dX8_cut_78 : decode cX8_cut 78 = .ok (.lload 11, 2) := by decide +kernel
theorem dX8_cut_80 : decode cX8_cut 80 = .ok (.aload_n 0, 1) := by decide +kernel
theorem dX8_cut_81 : decode cX8_cut 81 = .ok (.getfield 159, 3) := by decide +kernel
theorem dX8_cut_84 : decode cX8_cut 84 = .ok (.lmul, 1) := by decide +kernel
theorem dX8_cut_85 : decode cX8_cut 85 = .ok (.aload_n 0, 1) := by decide +kernel
theorem dX8_cut_86 : decode cX8_cut 86 = .ok (.getfield 163, 3) := by decide +kernel
theorem dX8_cut_89 : decode cX8_cut 89 = .ok (.lload 9, 2) := by decide +kernel
theorem dX8_cut_91 : decode cX8_cut 91 = .ok (.lmul, 1) := by decide +kernel
theorem dX8_cut_92 : decode cX8_cut 92 = .ok (.lcmp, 1) := by decide +kernel
theorem dX8_cut_93 : decode cX8_cut 93 = .ok (.ifCond .le 15, 3) := by decide +kernel
theorem dX8_cut_96 : decode cX8_cut 96 = .ok (.aload_n 0, 1) := by decide +kernel
theorem dX8_cut_97 : decode cX8_cut 97 = .ok (.lload 11, 2) := by decide +kernel
theorem dX8_cut_99 : decode cX8_cut 99 = .ok (.putfield 163, 3) := by decide +kernel
theorem dX8_cut_102 : decode cX8_cut 102 = .ok (.aload_n 0, 1) := by decide +kernel
theorem dX8_cut_103 : decode cX8_cut 103 = .ok (.lload 9, 2) := by decide +kernel
theorem dX8_cut_105 : decode cX8_cut 105 = .ok (.putfield 159, 3) := by decide +kernel
theorem dX8_cut_108 : decode cX8_cut 108 = .ok (.lload 13, 2) := by decide +kernel
theorem dX8_cut_110 : decode cX8_cut 110 = .ok (.aload_n 0, 1) := by decide +kernel
theorem dX8_cut_111 : decode cX8_cut 111 = .ok (.getfield 166, 3) := by decide +kernel
theorem dX8_cut_114 : decode cX8_cut 114 = .ok (.lmul, 1) := by decide +kernel
theorem dX8_cut_115 : decode cX8_cut 115 = .ok (.aload_n 0, 1) := by decide +kernel
theorem dX8_cut_116 : decode cX8_cut 116 = .ok (.getfield 169, 3) := by decide +kernel
theorem dX8_cut_119 : decode cX8_cut 119 = .ok (.lload 9, 2) := by decide +kernel
theorem dX8_cut_121 : decode cX8_cut 121 = .ok (.lmul, 1) := by decide +kernel
theorem dX8_cut_122 : decode cX8_cut 122 = .ok (.lcmp, 1) := by decide +kernel
theorem dX8_cut_123 : decode cX8_cut 123 = .ok (.ifCond .ge 15, 3) := by decide +kernel
theorem dX8_cut_126 : decode cX8_cut 126 = .ok (.aload_n 0, 1) := by decide +kernel
theorem dX8_cut_127 : decode cX8_cut 127 = .ok (.lload 13, 2) := by decide +kernel
theorem dX8_cut_129 : decode cX8_cut 129 = .ok (.putfield 169, 3) := by decide +kernel
theorem dX8_cut_132 : decode cX8_cut 132 = .ok (.aload_n 0, 1) := by decide +kernel
theorem dX8_cut_133 : decode cX8_cut 133 = .ok (.lload 9, 2) := by decide +kernel
theorem dX8_cut_135 : decode cX8_cut 135 = .ok (.putfield 166, 3) := by decide +kernel
theorem dX8_cut_138 : decode cX8_cut 138 = .ok (.iconst 1, 1) := by decide +kernel
theorem dX8_cut_139 : decode cX8_cut 139 = .ok (.ireturn, 1) := by decide +kernel
theorem dX8_crosses_0 : decode cX8_crosses 0 = .ok (.aload_n 0, 1) := by decide +kernel
theorem dX8_crosses_1 : decode cX8_crosses 1 = .ok (.ldc2_w 172, 3) := by decide +kernel
theorem dX8_crosses_4 : decode cX8_crosses 4 = .ok (.putfield 163, 3) := by decide +kernel
theorem dX8_crosses_7 : decode cX8_crosses 7 = .ok (.aload_n 0, 1) := by decide +kernel
theorem dX8_crosses_8 : decode cX8_crosses 8 = .ok (.lconst 1, 1) := by decide +kernel
theorem dX8_crosses_9 : decode cX8_crosses 9 = .ok (.putfield 159, 3) := by decide +kernel
theorem dX8_crosses_12 : decode cX8_crosses 12 = .ok (.aload_n 0, 1) := by decide +kernel
theorem dX8_crosses_13 : decode cX8_crosses 13 = .ok (.ldc2_w 141, 3) := by decide +kernel
theorem dX8_crosses_16 : decode cX8_crosses 16 = .ok (.putfield 169, 3) := by decide +kernel
theorem dX8_crosses_19 : decode cX8_crosses 19 = .ok (.aload_n 0, 1) := by decide +kernel
theorem dX8_crosses_20 : decode cX8_crosses 20 = .ok (.lconst 1, 1) := by decide +kernel
theorem dX8_crosses_21 : decode cX8_crosses 21 = .ok (.putfield 166, 3) := by decide +kernel
theorem dX8_crosses_24 : decode cX8_crosses 24 = .ok (.aload_n 0, 1) := by decide +kernel
theorem dX8_crosses_25 : decode cX8_crosses 25 = .ok (.aload_n 1, 1) := by decide +kernel
theorem dX8_crosses_26 : decode cX8_crosses 26 = .ok (.iconst 4, 1) := by decide +kernel
theorem dX8_crosses_27 : decode cX8_crosses 27 = .ok (.laload, 1) := by decide +kernel
theorem dX8_crosses_28 : decode cX8_crosses 28 = .ok (.aload_n 1, 1) := by decide +kernel
theorem dX8_crosses_29 : decode cX8_crosses 29 = .ok (.bipush 6, 2) := by decide +kernel
theorem dX8_crosses_31 : decode cX8_crosses 31 = .ok (.laload, 1) := by decide +kernel
theorem dX8_crosses_32 : decode cX8_crosses 32 = .ok (.aload_n 1, 1) := by decide +kernel
theorem dX8_crosses_33 : decode cX8_crosses 33 = .ok (.iconst 4, 1) := by decide +kernel
theorem dX8_crosses_34 : decode cX8_crosses 34 = .ok (.laload, 1) := by decide +kernel
theorem dX8_crosses_35 : decode cX8_crosses 35 = .ok (.lsub, 1) := by decide +kernel
theorem dX8_crosses_36 : decode cX8_crosses 36 = .ok (.aload_n 2, 1) := by decide +kernel
theorem dX8_crosses_37 : decode cX8_crosses 37 = .ok (.iconst 0, 1) := by decide +kernel
theorem dX8_crosses_38 : decode cX8_crosses 38 = .ok (.laload, 1) := by decide +kernel
theorem dX8_crosses_39 : decode cX8_crosses 39 = .ok (.aload_n 2, 1) := by decide +kernel
theorem dX8_crosses_40 : decode cX8_crosses 40 = .ok (.iconst 2, 1) := by decide +kernel
theorem dX8_crosses_41 : decode cX8_crosses 41 = .ok (.laload, 1) := by decide +kernel
theorem dX8_crosses_42 : decode cX8_crosses 42 = .ok (.invokevirtual 174, 3) := by decide +kernel
theorem dX8_crosses_45 : decode cX8_crosses 45 = .ok (.ifCond .eq 31, 3) := by decide +kernel
theorem dX8_crosses_48 : decode cX8_crosses 48 = .ok (.aload_n 0, 1) := by decide +kernel
theorem dX8_crosses_49 : decode cX8_crosses 49 = .ok (.aload_n 1, 1) := by decide +kernel
theorem dX8_crosses_50 : decode cX8_crosses 50 = .ok (.iconst 5, 1) := by decide +kernel
theorem dX8_crosses_51 : decode cX8_crosses 51 = .ok (.laload, 1) := by decide +kernel
theorem dX8_crosses_52 : decode cX8_crosses 52 = .ok (.aload_n 1, 1) := by decide +kernel
theorem dX8_crosses_53 : decode cX8_crosses 53 = .ok (.bipush 7, 2) := by decide +kernel
theorem dX8_crosses_55 : decode cX8_crosses 55 = .ok (.laload, 1) := by decide +kernel
theorem dX8_crosses_56 : decode cX8_crosses 56 = .ok (.aload_n 1, 1) := by decide +kernel
theorem dX8_crosses_57 : decode cX8_crosses 57 = .ok (.iconst 5, 1) := by decide +kernel
theorem dX8_crosses_58 : decode cX8_crosses 58 = .ok (.laload, 1) := by decide +kernel
theorem dX8_crosses_59 : decode cX8_crosses 59 = .ok (.lsub, 1) := by decide +kernel
theorem dX8_crosses_60 : decode cX8_crosses 60 = .ok (.aload_n 2, 1) := by decide +kernel
theorem dX8_crosses_61 : decode cX8_crosses 61 = .ok (.iconst 1, 1) := by decide +kernel
theorem dX8_crosses_62 : decode cX8_crosses 62 = .ok (.laload, 1) := by decide +kernel
theorem dX8_crosses_63 : decode cX8_crosses 63 = .ok (.aload_n 2, 1) := by decide +kernel
theorem dX8_crosses_64 : decode cX8_crosses 64 = .ok (.iconst 3, 1) := by decide +kernel
theorem dX8_crosses_65 : decode cX8_crosses 65 = .ok (.laload, 1) := by decide +kernel
theorem dX8_crosses_66 : decode cX8_crosses 66 = .ok (.invokevirtual 174, 3) := by decide +kernel
theorem dX8_crosses_69 : decode cX8_crosses 69 = .ok (.ifCond .eq 7, 3) := by decide +kernel
theorem dX8_crosses_72 : decode cX8_crosses 72 = .ok (.iconst 1, 1) := by decide +kernel
theorem dX8_crosses_73 : decode cX8_crosses 73 = .ok (.goto 4, 3) := by decide +kernel
theorem dX8_crosses_76 : decode cX8_crosses 76 = .ok (.iconst 0, 1) := by decide +kernel
theorem dX8_crosses_77 : decode cX8_crosses 77 = .ok (.istore_n 3, 1) := by decide +kernel
theorem dX8_crosses_78 : decode cX8_crosses 78 = .ok (.iload_n 3, 1) := by decide +kernel
theorem dX8_crosses_79 : decode cX8_crosses 79 = .ok (.ifCond .eq 50, 3) := by decide +kernel
theorem dX8_crosses_82 : decode cX8_crosses 82 = .ok (.aload_n 0, 1) := by decide +kernel
theorem dX8_crosses_83 : decode cX8_crosses 83 = .ok (.getfield 163, 3) := by decide +kernel
theorem dX8_crosses_86 : decode cX8_crosses 86 = .ok (.aload_n 0, 1) := by decide +kernel
theorem dX8_crosses_87 : decode cX8_crosses 87 = .ok (.getfield 166, 3) := by decide +kernel
theorem dX8_crosses_90 : decode cX8_crosses 90 = .ok (.lmul, 1) := by decide +kernel
theorem dX8_crosses_91 : decode cX8_crosses 91 = .ok (.aload_n 0, 1) := by decide +kernel
theorem dX8_crosses_92 : decode cX8_crosses 92 = .ok (.getfield 169, 3) := by decide +kernel
theorem dX8_crosses_95 : decode cX8_crosses 95 = .ok (.aload_n 0, 1) := by decide +kernel
theorem dX8_crosses_96 : decode cX8_crosses 96 = .ok (.getfield 159, 3) := by decide +kernel
theorem dX8_crosses_99 : decode cX8_crosses 99 = .ok (.lmul, 1) := by decide +kernel
theorem dX8_crosses_100 : decode cX8_crosses 100 = .ok (.lcmp, 1) := by decide +kernel
theorem dX8_crosses_101 : decode cX8_crosses 101 = .ok (.ifCond .ge 28, 3) := by decide +kernel
theorem dX8_crosses_104 : decode cX8_crosses 104 = .ok (.aload_n 0, 1) := by decide +kernel
theorem dX8_crosses_105 : decode cX8_crosses 105 = .ok (.getfield 163, 3) := by decide +kernel
theorem dX8_crosses_108 : decode cX8_crosses 108 = .ok (.aload_n 0, 1) := by decide +kernel
theorem dX8_crosses_109 : decode cX8_crosses 109 = .ok (.getfield 159, 3) := by decide +kernel
theorem dX8_crosses_112 : decode cX8_crosses 112 = .ok (.lcmp, 1) := by decide +kernel
theorem dX8_crosses_113 : decode cX8_crosses 113 = .ok (.ifCond .ge 16, 3) := by decide +kernel
theorem dX8_crosses_116 : decode cX8_crosses 116 = .ok (.aload_n 0, 1) := by decide +kernel
theorem dX8_crosses_117 : decode cX8_crosses 117 = .ok (.getfield 169, 3) := by decide +kernel
theorem dX8_crosses_120 : decode cX8_crosses 120 = .ok (.lconst 0, 1) := by decide +kernel
theorem dX8_crosses_121 : decode cX8_crosses 121 = .ok (.lcmp, 1) := by decide +kernel
theorem dX8_crosses_122 : decode cX8_crosses 122 = .ok (.ifCond .le 7, 3) := by decide +kernel
theorem dX8_crosses_125 : decode cX8_crosses 125 = .ok (.iconst 1, 1) := by decide +kernel
theorem dX8_crosses_126 : decode cX8_crosses 126 = .ok (.goto 4, 3) := by decide +kernel
theorem dX8_crosses_129 : decode cX8_crosses 129 = .ok (.iconst 0, 1) := by decide +kernel
theorem dX8_crosses_130 : decode cX8_crosses 130 = .ok (.ireturn, 1) := by decide +kernel
theorem dX8_doClash_0 : decode cX8_doClash 0 = .ok (.aload_n 0, 1) := by decide +kernel
theorem dX8_doClash_1 : decode cX8_doClash 1 = .ok (.aload_n 0, 1) := by decide +kernel
theorem dX8_doClash_2 : decode cX8_doClash 2 = .ok (.getfield 40, 3) := by decide +kernel
theorem dX8_doClash_5 : decode cX8_doClash 5 = .ok (.iload_n 1, 1) := by decide +kernel
theorem dX8_doClash_6 : decode cX8_doClash 6 = .ok (.iload_n 2, 1) := by decide +kernel
theorem dX8_doClash_7 : decode cX8_doClash 7 = .ok (.iload 5, 2) := by decide +kernel
theorem dX8_doClash_9 : decode cX8_doClash 9 = .ok (.invokevirtual 178, 3) := by decide +kernel
theorem dX8_doClash_12 : decode cX8_doClash 12 = .ok (.aload_n 0, 1) := by decide +kernel
theorem dX8_doClash_13 : decode cX8_doClash 13 = .ok (.aload_n 0, 1) := by decide +kernel
theorem dX8_doClash_14 : decode cX8_doClash 14 = .ok (.getfield 44, 3) := by decide +kernel
theorem dX8_doClash_17 : decode cX8_doClash 17 = .ok (.iload_n 3, 1) := by decide +kernel
theorem dX8_doClash_18 : decode cX8_doClash 18 = .ok (.iload 4, 2) := by decide +kernel
theorem dX8_doClash_20 : decode cX8_doClash 20 = .ok (.iload 5, 2) := by decide +kernel
theorem dX8_doClash_22 : decode cX8_doClash 22 = .ok (.invokevirtual 178, 3) := by decide +kernel
theorem dX8_doClash_25 : decode cX8_doClash 25 = .ok (.aload_n 0, 1) := by decide +kernel
theorem dX8_doClash_26 : decode cX8_doClash 26 = .ok (.getfield 40, 3) := by decide +kernel
theorem dX8_doClash_29 : decode cX8_doClash 29 = .ok (.iconst 0, 1) := by decide +kernel
theorem dX8_doClash_30 : decode cX8_doClash 30 = .ok (.laload, 1) := by decide +kernel
theorem dX8_doClash_31 : decode cX8_doClash 31 = .ok (.aload_n 0, 1) := by decide +kernel
theorem dX8_doClash_32 : decode cX8_doClash 32 = .ok (.getfield 44, 3) := by decide +kernel
theorem dX8_doClash_35 : decode cX8_doClash 35 = .ok (.iconst 2, 1) := by decide +kernel
theorem dX8_doClash_36 : decode cX8_doClash 36 = .ok (.laload, 1) := by decide +kernel
theorem dX8_doClash_37 : decode cX8_doClash 37 = .ok (.lcmp, 1) := by decide +kernel
theorem dX8_doClash_38 : decode cX8_doClash 38 = .ok (.ifCond .ge 53, 3) := by decide +kernel
theorem dX8_doClash_41 : decode cX8_doClash 41 = .ok (.aload_n 0, 1) := by decide +kernel
theorem dX8_doClash_42 : decode cX8_doClash 42 = .ok (.getfield 44, 3) := by decide +kernel
theorem dX8_doClash_45 : decode cX8_doClash 45 = .ok (.iconst 0, 1) := by decide +kernel
theorem dX8_doClash_46 : decode cX8_doClash 46 = .ok (.laload, 1) := by decide +kernel
theorem dX8_doClash_47 : decode cX8_doClash 47 = .ok (.aload_n 0, 1) := by decide +kernel
theorem dX8_doClash_48 : decode cX8_doClash 48 = .ok (.getfield 40, 3) := by decide +kernel
theorem dX8_doClash_51 : decode cX8_doClash 51 = .ok (.iconst 2, 1) := by decide +kernel
theorem dX8_doClash_52 : decode cX8_doClash 52 = .ok (.laload, 1) := by decide +kernel
theorem dX8_doClash_53 : decode cX8_doClash 53 = .ok (.lcmp, 1) := by decide +kernel
theorem dX8_doClash_54 : decode cX8_doClash 54 = .ok (.ifCond .ge 37, 3) := by decide +kernel
theorem dX8_doClash_57 : decode cX8_doClash 57 = .ok (.aload_n 0, 1) := by decide +kernel
theorem dX8_doClash_58 : decode cX8_doClash 58 = .ok (.getfield 40, 3) := by decide +kernel
theorem dX8_doClash_61 : decode cX8_doClash 61 = .ok (.iconst 1, 1) := by decide +kernel
theorem dX8_doClash_62 : decode cX8_doClash 62 = .ok (.laload, 1) := by decide +kernel
theorem dX8_doClash_63 : decode cX8_doClash 63 = .ok (.aload_n 0, 1) := by decide +kernel
theorem dX8_doClash_64 : decode cX8_doClash 64 = .ok (.getfield 44, 3) := by decide +kernel
theorem dX8_doClash_67 : decode cX8_doClash 67 = .ok (.iconst 3, 1) := by decide +kernel
theorem dX8_doClash_68 : decode cX8_doClash 68 = .ok (.laload, 1) := by decide +kernel
theorem dX8_doClash_69 : decode cX8_doClash 69 = .ok (.lcmp, 1) := by decide +kernel
theorem dX8_doClash_70 : decode cX8_doClash 70 = .ok (.ifCond .ge 21, 3) := by decide +kernel
theorem dX8_doClash_73 : decode cX8_doClash 73 = .ok (.aload_n 0, 1) := by decide +kernel
theorem dX8_doClash_74 : decode cX8_doClash 74 = .ok (.getfield 44, 3) := by decide +kernel
theorem dX8_doClash_77 : decode cX8_doClash 77 = .ok (.iconst 1, 1) := by decide +kernel
theorem dX8_doClash_78 : decode cX8_doClash 78 = .ok (.laload, 1) := by decide +kernel
theorem dX8_doClash_79 : decode cX8_doClash 79 = .ok (.aload_n 0, 1) := by decide +kernel
theorem dX8_doClash_80 : decode cX8_doClash 80 = .ok (.getfield 40, 3) := by decide +kernel
theorem dX8_doClash_83 : decode cX8_doClash 83 = .ok (.iconst 3, 1) := by decide +kernel
theorem dX8_doClash_84 : decode cX8_doClash 84 = .ok (.laload, 1) := by decide +kernel
theorem dX8_doClash_85 : decode cX8_doClash 85 = .ok (.lcmp, 1) := by decide +kernel
theorem dX8_doClash_86 : decode cX8_doClash 86 = .ok (.ifCond .ge 5, 3) := by decide +kernel
theorem dX8_doClash_89 : decode cX8_doClash 89 = .ok (.iconst 1, 1) := by decide +kernel
theorem dX8_doClash_90 : decode cX8_doClash 90 = .ok (.ireturn, 1) := by decide +kernel
theorem dX8_doClash_91 : decode cX8_doClash 91 = .ok (.aload_n 0, 1) := by decide +kernel
theorem dX8_doClash_92 : decode cX8_doClash 92 = .ok (.iload_n 1, 1) := by decide +kernel
theorem dX8_doClash_93 : decode cX8_doClash 93 = .ok (.iload_n 2, 1) := by decide +kernel
theorem dX8_doClash_94 : decode cX8_doClash 94 = .ok (.invokevirtual 119, 3) := by decide +kernel
theorem dX8_doClash_97 : decode cX8_doClash 97 = .ok (.istore 6, 2) := by decide +kernel
theorem dX8_doClash_99 : decode cX8_doClash 99 = .ok (.aload_n 0, 1) := by decide +kernel
theorem dX8_doClash_100 : decode cX8_doClash 100 = .ok (.iload_n 3, 1) := by decide +kernel
theorem dX8_doClash_101 : decode cX8_doClash 101 = .ok (.iload 4, 2) := by decide +kernel
theorem dX8_doClash_103 : decode cX8_doClash 103 = .ok (.invokevirtual 119, 3) := by decide +kernel
theorem dX8_doClash_106 : decode cX8_doClash 106 = .ok (.istore 7, 2) := by decide +kernel
theorem dX8_doClash_108 : decode cX8_doClash 108 = .ok (.iload 6, 2) := by decide +kernel
theorem dX8_doClash_110 : decode cX8_doClash 110 = .ok (.ifCond .eq 15, 3) := by decide +kernel
theorem dX8_doClash_113 : decode cX8_doClash 113 = .ok (.iload 7, 2) := by decide +kernel
theorem dX8_doClash_115 : decode cX8_doClash 115 = .ok (.ifCond .eq 10, 3) := by decide +kernel
theorem dX8_doClash_118 : decode cX8_doClash 118 = .ok (.aload_n 0, 1) := by decide +kernel
theorem dX8_doClash_119 : decode cX8_doClash 119 = .ok (.invokevirtual 182, 3) := by decide +kernel
theorem dX8_doClash_122 : decode cX8_doClash 122 = .ok (.ifCond .ne 43, 3) := by decide +kernel
theorem dX8_doClash_125 : decode cX8_doClash 125 = .ok (.iload 6, 2) := by decide +kernel
theorem dX8_doClash_127 : decode cX8_doClash 127 = .ok (.ifCond .eq 18, 3) := by decide +kernel
theorem dX8_doClash_130 : decode cX8_doClash 130 = .ok (.aload_n 0, 1) := by decide +kernel
theorem dX8_doClash_131 : decode cX8_doClash 131 = .ok (.aload_n 0, 1) := by decide +kernel
theorem dX8_doClash_132 : decode cX8_doClash 132 = .ok (.getfield 40, 3) := by decide +kernel
theorem dX8_doClash_135 : decode cX8_doClash 135 = .ok (.aload_n 0, 1) := by decide +kernel
theorem dX8_doClash_136 : decode cX8_doClash 136 = .ok (.getfield 44, 3) := by decide +kernel
theorem dX8_doClash_139 : decode cX8_doClash 139 = .ok (.invokevirtual 186, 3) := by decide +kernel
theorem dX8_doClash_142 : decode cX8_doClash 142 = .ok (.ifCond .ne 23, 3) := by decide +kernel
theorem dX8_doClash_145 : decode cX8_doClash 145 = .ok (.iload 7, 2) := by decide +kernel
theorem dX8_doClash_147 : decode cX8_doClash 147 = .ok (.ifCond .eq 22, 3) := by decide +kernel
theorem dX8_doClash_150 : decode cX8_doClash 150 = .ok (.aload_n 0, 1) := by decide +kernel
theorem dX8_doClash_151 : decode cX8_doClash 151 = .ok (.aload_n 0, 1) := by decide +kernel
theorem dX8_doClash_152 : decode cX8_doClash 152 = .ok (.getfield 44, 3) := by decide +kernel
theorem dX8_doClash_155 : decode cX8_doClash 155 = .ok (.aload_n 0, 1) := by decide +kernel
theorem dX8_doClash_156 : decode cX8_doClash 156 = .ok (.getfield 40, 3) := by decide +kernel
theorem dX8_doClash_159 : decode cX8_doClash 159 = .ok (.invokevirtual 186, 3) := by decide +kernel
theorem dX8_doClash_162 : decode cX8_doClash 162 = .ok (.ifCond .eq 7, 3) := by decide +kernel
theorem dX8_doClash_165 : decode cX8_doClash 165 = .ok (.iconst 1, 1) := by decide +kernel
theorem dX8_doClash_166 : decode cX8_doClash 166 = .ok (.goto 4, 3) := by decide +kernel
theorem dX8_doClash_169 : decode cX8_doClash 169 = .ok (.iconst 0, 1) := by decide +kernel
theorem dX8_doClash_170 : decode cX8_doClash 170 = .ok (.ireturn, 1) := by decide +kernel
theorem dX8_isWay_0 : decode cX8_isWay 0 = .ok (.aload_n 0, 1) := by decide +kernel
theorem dX8_isWay_1 : decode cX8_isWay 1 = .ok (.iload_n 1, 1) := by decide +kernel
theorem dX8_isWay_2 : decode cX8_isWay 2 = .ok (.invokevirtual 115, 3) := by decide +kernel
theorem dX8_isWay_5 : decode cX8_isWay 5 = .ok (.ifCond .eq 22, 3) := by decide +kernel
theorem dX8_isWay_8 : decode cX8_isWay 8 = .ok (.iload_n 2, 1) := by decide +kernel
theorem dX8_isWay_9 : decode cX8_isWay 9 = .ok (.iconst 0, 1) := by decide +kernel
theorem dX8_isWay_10 : decode cX8_isWay 10 = .ok (.aload_n 0, 1) := by decide +kernel
theorem dX8_isWay_11 : decode cX8_isWay 11 = .ok (.iload_n 1, 1) := by decide +kernel
theorem dX8_isWay_12 : decode cX8_isWay 12 = .ok (.invokevirtual 190, 3) := by decide +kernel
theorem dX8_isWay_15 : decode cX8_isWay 15 = .ok (.iconst 1, 1) := by decide +kernel
theorem dX8_isWay_16 : decode cX8_isWay 16 = .ok (.isub, 1) := by decide +kernel
theorem dX8_isWay_17 : decode cX8_isWay 17 = .ok (.invokestatic 104, 3) := by decide +kernel
theorem dX8_isWay_20 : decode cX8_isWay 20 = .ok (.ifCond .eq 7, 3) := by decide +kernel
theorem dX8_isWay_23 : decode cX8_isWay 23 = .ok (.iconst 1, 1) := by decide +kernel
theorem dX8_isWay_24 : decode cX8_isWay 24 = .ok (.goto 4, 3) := by decide +kernel
theorem dX8_isWay_27 : decode cX8_isWay 27 = .ok (.iconst 0, 1) := by decide +kernel
theorem dX8_isWay_28 : decode cX8_isWay 28 = .ok (.ireturn, 1) := by decide +kernel
theorem dX8_way_0 : decode cX8_way 0 = .ok (.aload_n 0, 1) := by decide +kernel
theorem dX8_way_1 : decode cX8_way 1 = .ok (.iconst 0, 1) := by decide +kernel
theorem dX8_way_2 : decode cX8_way 2 = .ok (.putfield 78, 3) := by decide +kernel
theorem dX8_way_5 : decode cX8_way 5 = .ok (.aload_n 0, 1) := by decide +kernel
theorem dX8_way_6 : decode cX8_way 6 = .ok (.iload_n 1, 1) := by decide +kernel
theorem dX8_way_7 : decode cX8_way 7 = .ok (.iload_n 2, 1) := by decide +kernel
theorem dX8_way_8 : decode cX8_way 8 = .ok (.invokevirtual 194, 3) := by decide +kernel
theorem dX8_way_11 : decode cX8_way 11 = .ok (.ifCond .eq 23, 3) := by decide +kernel
theorem dX8_way_14 : decode cX8_way 14 = .ok (.iload_n 3, 1) := by decide +kernel
theorem dX8_way_15 : decode cX8_way 15 = .ok (.iconst 0, 1) := by decide +kernel
theorem dX8_way_16 : decode cX8_way 16 = .ok (.bipush 6, 2) := by decide +kernel
theorem dX8_way_18 : decode cX8_way 18 = .ok (.invokestatic 104, 3) := by decide +kernel
theorem dX8_way_21 : decode cX8_way 21 = .ok (.ifCond .eq 13, 3) := by decide +kernel
theorem dX8_way_24 : decode cX8_way 24 = .ok (.iload 4, 2) := by decide +kernel
theorem dX8_way_26 : decode cX8_way 26 = .ok (.iconst 0, 1) := by decide +kernel
theorem dX8_way_27 : decode cX8_way 27 = .ok (.iconst 5, 1) := by decide +kernel
theorem dX8_way_28 : decode cX8_way 28 = .ok (.invokestatic 104, 3) := by decide +kernel
theorem dX8_way_31 : decode cX8_way 31 = .ok (.ifCond .ne 6, 3) := by decide +kernel
theorem dX8_way_34 : decode cX8_way 34 = .ok (.bipush (-3), 2) := by decide +kernel
theorem dX8_way_36 : decode cX8_way 36 = .ok (.ireturn, 1) := by decide +kernel
theorem dX8_way_37 : decode cX8_way 37 = .ok (.aload_n 0, 1) := by decide +kernel
theorem dX8_way_38 : decode cX8_way 38 = .ok (.iload_n 1, 1) := by decide +kernel
theorem dX8_way_39 : decode cX8_way 39 = .ok (.iload_n 2, 1) := by decide +kernel
theorem dX8_way_40 : decode cX8_way 40 = .ok (.iload_n 3, 1) := by decide +kernel
theorem dX8_way_41 : decode cX8_way 41 = .ok (.invokevirtual 134, 3) := by decide +kernel
theorem dX8_way_44 : decode cX8_way 44 = .ok (.iload 4, 2) := by decide +kernel
theorem dX8_way_46 : decode cX8_way 46 = .ok (.tableswitch 61 0 4 #[34, 39, 44, 49, 54], 34) := by decide +kernel
theorem dX8_way_80 : decode cX8_way 80 = .ok (.aload_n 0, 1) := by decide +kernel
theorem dX8_way_81 : decode cX8_way 81 = .ok (.getfield 122, 3) := by decide +kernel
theorem dX8_way_84 : decode cX8_way 84 = .ok (.ireturn, 1) := by decide +kernel
theorem dX8_way_85 : decode cX8_way 85 = .ok (.aload_n 0, 1) := by decide +kernel
theorem dX8_way_86 : decode cX8_way 86 = .ok (.getfield 125, 3) := by decide +kernel
theorem dX8_way_89 : decode cX8_way 89 = .ok (.ireturn, 1) := by decide +kernel
theorem dX8_way_90 : decode cX8_way 90 = .ok (.aload_n 0, 1) := by decide +kernel
theorem dX8_way_91 : decode cX8_way 91 = .ok (.getfield 128, 3) := by decide +kernel
theorem dX8_way_94 : decode cX8_way 94 = .ok (.ireturn, 1) := by decide +kernel
theorem dX8_way_95 : decode cX8_way 95 = .ok (.aload_n 0, 1) := by decide +kernel
theorem dX8_way_96 : decode cX8_way 96 = .ok (.getfield 131, 3) := by decide +kernel
theorem dX8_way_99 : decode cX8_way 99 = .ok (.ireturn, 1) := by decide +kernel
theorem dX8_way_100 : decode cX8_way 100 = .ok (.aload_n 0, 1) := by decide +kernel
theorem dX8_way_101 : decode cX8_way 101 = .ok (.iload_n 1, 1) := by decide +kernel
theorem dX8_way_102 : decode cX8_way 102 = .ok (.iload_n 2, 1) := by decide +kernel
theorem dX8_way_103 : decode cX8_way 103 = .ok (.invokevirtual 197, 3) := by decide +kernel
theorem dX8_way_106 : decode cX8_way 106 = .ok (.ireturn, 1) := by decide +kernel
theorem dX8_way_107 : decode cX8_way 107 = .ok (.aload_n 0, 1) := by decide +kernel
theorem dX8_way_108 : decode cX8_way 108 = .ok (.iload_n 1, 1) := by decide +kernel
theorem dX8_way_109 : decode cX8_way 109 = .ok (.iload_n 2, 1) := by decide +kernel
theorem dX8_way_110 : decode cX8_way 110 = .ok (.iload_n 3, 1) := by decide +kernel
theorem dX8_way_111 : decode cX8_way 111 = .ok (.invokevirtual 201, 3) := by decide +kernel
theorem dX8_way_114 : decode cX8_way 114 = .ok (.ifCond .eq 7, 3) := by decide +kernel
theorem dX8_way_117 : decode cX8_way 117 = .ok (.iconst 1, 1) := by decide +kernel
theorem dX8_way_118 : decode cX8_way 118 = .ok (.goto 4, 3) := by decide +kernel
theorem dX8_way_121 : decode cX8_way 121 = .ok (.iconst 0, 1) := by decide +kernel
theorem dX8_way_122 : decode cX8_way 122 = .ok (.ireturn, 1) := by decide +kernel
theorem dX8_clash_0 : decode cX8_clash 0 = .ok (.aload_n 0, 1) := by decide +kernel
theorem dX8_clash_1 : decode cX8_clash 1 = .ok (.iconst 0, 1) := by decide +kernel
theorem dX8_clash_2 : decode cX8_clash 2 = .ok (.putfield 78, 3) := by decide +kernel
theorem dX8_clash_5 : decode cX8_clash 5 = .ok (.aload_n 0, 1) := by decide +kernel
theorem dX8_clash_6 : decode cX8_clash 6 = .ok (.iload_n 1, 1) := by decide +kernel
theorem dX8_clash_7 : decode cX8_clash 7 = .ok (.iload_n 2, 1) := by decide +kernel
theorem dX8_clash_8 : decode cX8_clash 8 = .ok (.invokevirtual 194, 3) := by decide +kernel
theorem dX8_clash_11 : decode cX8_clash 11 = .ok (.ifCond .eq 29, 3) := by decide +kernel
theorem dX8_clash_14 : decode cX8_clash 14 = .ok (.aload_n 0, 1) := by decide +kernel
theorem dX8_clash_15 : decode cX8_clash 15 = .ok (.iload_n 3, 1) := by decide +kernel
theorem dX8_clash_16 : decode cX8_clash 16 = .ok (.iload 4, 2) := by decide +kernel
theorem dX8_clash_18 : decode cX8_clash 18 = .ok (.invokevirtual 194, 3) := by decide +kernel
theorem dX8_clash_21 : decode cX8_clash 21 = .ok (.ifCond .eq 19, 3) := by decide +kernel
theorem dX8_clash_24 : decode cX8_clash 24 = .ok (.iload_n 1, 1) := by decide +kernel
theorem dX8_clash_25 : decode cX8_clash 25 = .ok (.iload_n 3, 1) := by decide +kernel
theorem dX8_clash_26 : decode cX8_clash 26 = .ok (.if_icmp .eq 14, 3) := by decide +kernel
theorem dX8_clash_29 : decode cX8_clash 29 = .ok (.iload 5, 2) := by decide +kernel
theorem dX8_clash_31 : decode cX8_clash 31 = .ok (.iconst 0, 1) := by decide +kernel
theorem dX8_clash_32 : decode cX8_clash 32 = .ok (.bipush 6, 2) := by decide +kernel
theorem dX8_clash_34 : decode cX8_clash 34 = .ok (.invokestatic 104, 3) := by decide +kernel
theorem dX8_clash_37 : decode cX8_clash 37 = .ok (.ifCond .ne 6, 3) := by decide +kernel
theorem dX8_clash_40 : decode cX8_clash 40 = .ok (.bipush (-3), 2) := by decide +kernel
theorem dX8_clash_42 : decode cX8_clash 42 = .ok (.ireturn, 1) := by decide +kernel
theorem dX8_clash_43 : decode cX8_clash 43 = .ok (.aload_n 0, 1) := by decide +kernel
theorem dX8_clash_44 : decode cX8_clash 44 = .ok (.iload_n 1, 1) := by decide +kernel
theorem dX8_clash_45 : decode cX8_clash 45 = .ok (.iload_n 2, 1) := by decide +kernel
theorem dX8_clash_46 : decode cX8_clash 46 = .ok (.iload_n 3, 1) := by decide +kernel
theorem dX8_clash_47 : decode cX8_clash 47 = .ok (.iload 4, 2) := by decide +kernel
theorem dX8_clash_49 : decode cX8_clash 49 = .ok (.iload 5, 2) := by decide +kernel
theorem dX8_clash_51 : decode cX8_clash 51 = .ok (.invokevirtual 204, 3) := by decide +kernel
theorem dX8_clash_54 : decode cX8_clash 54 = .ok (.ifCond .eq 7, 3) := by decide +kernel
theorem dX8_clash_57 : decode cX8_clash 57 = .ok (.iconst 1, 1) := by decide +kernel
theorem dX8_clash_58 : decode cX8_clash 58 = .ok (.goto 4, 3) := by decide +kernel
theorem dX8_clash_61 : decode cX8_clash 61 = .ok (.iconst 0, 1) := by decide +kernel
theorem dX8_clash_62 : decode cX8_clash 62 = .ok (.ireturn, 1) := by decide +kernel
theorem dX8_clashes_0 : decode cX8_clashes 0 = .ok (.aload_n 0, 1) := by decide +kernel
theorem dX8_clashes_1 : decode cX8_clashes 1 = .ok (.iconst 0, 1) := by decide +kernel
theorem dX8_clashes_2 : decode cX8_clashes 2 = .ok (.putfield 78, 3) := by decide +kernel
theorem dX8_clashes_5 : decode cX8_clashes 5 = .ok (.aload_n 0, 1) := by decide +kernel
theorem dX8_clashes_6 : decode cX8_clashes 6 = .ok (.iload_n 1, 1) := by decide +kernel
theorem dX8_clashes_7 : decode cX8_clashes 7 = .ok (.iload_n 2, 1) := by decide +kernel
theorem dX8_clashes_8 : decode cX8_clashes 8 = .ok (.invokevirtual 194, 3) := by decide +kernel
theorem dX8_clashes_11 : decode cX8_clashes 11 = .ok (.ifCond .ne 6, 3) := by decide +kernel
theorem dX8_clashes_14 : decode cX8_clashes 14 = .ok (.bipush (-3), 2) := by decide +kernel
theorem dX8_clashes_16 : decode cX8_clashes 16 = .ok (.ireturn, 1) := by decide +kernel
theorem dX8_clashes_17 : decode cX8_clashes 17 = .ok (.iconst 0, 1) := by decide +kernel
theorem dX8_clashes_18 : decode cX8_clashes 18 = .ok (.istore_n 3, 1) := by decide +kernel
theorem dX8_clashes_19 : decode cX8_clashes 19 = .ok (.iconst 0, 1) := by decide +kernel
theorem dX8_clashes_20 : decode cX8_clashes 20 = .ok (.istore 4, 2) := by decide +kernel
theorem dX8_clashes_22 : decode cX8_clashes 22 = .ok (.iload 4, 2) := by decide +kernel
theorem dX8_clashes_24 : decode cX8_clashes 24 = .ok (.aload_n 0, 1) := by decide +kernel
theorem dX8_clashes_25 : decode cX8_clashes 25 = .ok (.getfield 88, 3) := by decide +kernel
theorem dX8_clashes_28 : decode cX8_clashes 28 = .ok (.if_icmp .ge 69, 3) := by decide +kernel
theorem dX8_clashes_31 : decode cX8_clashes 31 = .ok (.iconst 0, 1) := by decide +kernel
theorem dX8_clashes_32 : decode cX8_clashes 32 = .ok (.istore 5, 2) := by decide +kernel
theorem dX8_clashes_34 : decode cX8_clashes 34 = .ok (.iload 5, 2) := by decide +kernel
theorem dX8_clashes_36 : decode cX8_clashes 36 = .ok (.aload_n 0, 1) := by decide +kernel
theorem dX8_clashes_37 : decode cX8_clashes 37 = .ok (.iload 4, 2) := by decide +kernel
theorem dX8_clashes_39 : decode cX8_clashes 39 = .ok (.invokevirtual 190, 3) := by decide +kernel
theorem dX8_clashes_42 : decode cX8_clashes 42 = .ok (.if_icmp .ge 49, 3) := by decide +kernel
theorem dX8_clashes_45 : decode cX8_clashes 45 = .ok (.iload 4, 2) := by decide +kernel
theorem dX8_clashes_47 : decode cX8_clashes 47 = .ok (.iload_n 1, 1) := by decide +kernel
theorem dX8_clashes_48 : decode cX8_clashes 48 = .ok (.if_icmp .eq 43, 3) := by decide +kernel
theorem dX8_clashes_51 : decode cX8_clashes 51 = .ok (.iload_n 3, 1) := by decide +kernel
theorem dX8_clashes_52 : decode cX8_clashes 52 = .ok (.aload_n 0, 1) := by decide +kernel
theorem dX8_clashes_53 : decode cX8_clashes 53 = .ok (.iload 4, 2) := by decide +kernel
theorem dX8_clashes_55 : decode cX8_clashes 55 = .ok (.iload 5, 2) := by decide +kernel
theorem dX8_clashes_57 : decode cX8_clashes 57 = .ok (.iconst 0, 1) := by decide +kernel
theorem dX8_clashes_58 : decode cX8_clashes 58 = .ok (.invokevirtual 201, 3) := by decide +kernel
theorem dX8_clashes_61 : decode cX8_clashes 61 = .ok (.ifCond .eq 21, 3) := by decide +kernel
theorem dX8_clashes_64 : decode cX8_clashes 64 = .ok (.aload_n 0, 1) := by decide +kernel
theorem dX8_clashes_65 : decode cX8_clashes 65 = .ok (.iload_n 1, 1) := by decide +kernel
theorem dX8_clashes_66 : decode cX8_clashes 66 = .ok (.iload_n 2, 1) := by decide +kernel
theorem dX8_clashes_67 : decode cX8_clashes 67 = .ok (.iload 4, 2) := by decide +kernel
theorem dX8_clashes_69 : decode cX8_clashes 69 = .ok (.iload 5, 2) := by decide +kernel
theorem dX8_clashes_71 : decode cX8_clashes 71 = .ok (.iconst 0, 1) := by decide +kernel
theorem dX8_clashes_72 : decode cX8_clashes 72 = .ok (.invokevirtual 204, 3) := by decide +kernel
theorem dX8_clashes_75 : decode cX8_clashes 75 = .ok (.ifCond .eq 7, 3) := by decide +kernel
theorem dX8_clashes_78 : decode cX8_clashes 78 = .ok (.iconst 1, 1) := by decide +kernel
theorem dX8_clashes_79 : decode cX8_clashes 79 = .ok (.goto 4, 3) := by decide +kernel
theorem dX8_clashes_82 : decode cX8_clashes 82 = .ok (.iconst 0, 1) := by decide +kernel
theorem dX8_clashes_83 : decode cX8_clashes 83 = .ok (.iadd, 1) := by decide +kernel
theorem dX8_clashes_84 : decode cX8_clashes 84 = .ok (.istore_n 3, 1) := by decide +kernel
theorem dX8_clashes_85 : decode cX8_clashes 85 = .ok (.iinc 5 1, 3) := by decide +kernel
theorem dX8_clashes_88 : decode cX8_clashes 88 = .ok (.goto (-54), 3) := by decide +kernel
theorem dX8_clashes_91 : decode cX8_clashes 91 = .ok (.iinc 4 1, 3) := by decide +kernel
theorem dX8_clashes_94 : decode cX8_clashes 94 = .ok (.goto (-72), 3) := by decide +kernel
theorem dX8_clashes_97 : decode cX8_clashes 97 = .ok (.iload_n 3, 1) := by decide +kernel
theorem dX8_clashes_98 : decode cX8_clashes 98 = .ok (.ireturn, 1) := by decide +kernel
theorem dX8_findOpen_0 : decode cX8_findOpen 0 = .ok (.iconst 0, 1) := by decide +kernel
theorem dX8_findOpen_1 : decode cX8_findOpen 1 = .ok (.istore_n 1, 1) := by decide +kernel
theorem dX8_findOpen_2 : decode cX8_findOpen 2 = .ok (.iload_n 1, 1) := by decide +kernel
theorem dX8_findOpen_3 : decode cX8_findOpen 3 = .ok (.aload_n 0, 1) := by decide +kernel
theorem dX8_findOpen_4 : decode cX8_findOpen 4 = .ok (.getfield 88, 3) := by decide +kernel
theorem dX8_findOpen_7 : decode cX8_findOpen 7 = .ok (.if_icmp .ge 58, 3) := by decide +kernel
theorem dX8_findOpen_10 : decode cX8_findOpen 10 = .ok (.iconst 0, 1) := by decide +kernel
theorem dX8_findOpen_11 : decode cX8_findOpen 11 = .ok (.istore_n 2, 1) := by decide +kernel
theorem dX8_findOpen_12 : decode cX8_findOpen 12 = .ok (.iload_n 2, 1) := by decide +kernel
theorem dX8_findOpen_13 : decode cX8_findOpen 13 = .ok (.bipush 16, 2) := by decide +kernel
theorem dX8_findOpen_15 : decode cX8_findOpen 15 = .ok (.if_icmp .ge 44, 3) := by decide +kernel
theorem dX8_findOpen_18 : decode cX8_findOpen 18 = .ok (.aload_n 0, 1) := by decide +kernel
theorem dX8_findOpen_19 : decode cX8_findOpen 19 = .ok (.getfield 50, 3) := by decide +kernel
theorem dX8_findOpen_22 : decode cX8_findOpen 22 = .ok (.bipush 16, 2) := by decide +kernel
theorem dX8_findOpen_24 : decode cX8_findOpen 24 = .ok (.iload_n 1, 1) := by decide +kernel
theorem dX8_findOpen_25 : decode cX8_findOpen 25 = .ok (.imul, 1) := by decide +kernel
theorem dX8_findOpen_26 : decode cX8_findOpen 26 = .ok (.iload_n 2, 1) := by decide +kernel
theorem dX8_findOpen_27 : decode cX8_findOpen 27 = .ok (.iadd, 1) := by decide +kernel
theorem dX8_findOpen_28 : decode cX8_findOpen 28 = .ok (.iload_n 2, 1) := by decide +kernel
theorem dX8_findOpen_29 : decode cX8_findOpen 29 = .ok (.aload_n 0, 1) := by decide +kernel
theorem dX8_findOpen_30 : decode cX8_findOpen 30 = .ok (.iload_n 1, 1) := by decide +kernel
theorem dX8_findOpen_31 : decode cX8_findOpen 31 = .ok (.invokevirtual 190, 3) := by decide +kernel
theorem dX8_findOpen_34 : decode cX8_findOpen 34 = .ok (.if_icmp .ge 17, 3) := by decide +kernel
theorem dX8_findOpen_37 : decode cX8_findOpen 37 = .ok (.aload_n 0, 1) := by decide +kernel
theorem dX8_findOpen_38 : decode cX8_findOpen 38 = .ok (.iload_n 1, 1) := by decide +kernel
theorem dX8_findOpen_39 : decode cX8_findOpen 39 = .ok (.iload_n 2, 1) := by decide +kernel
theorem dX8_findOpen_40 : decode cX8_findOpen 40 = .ok (.iconst 0, 1) := by decide +kernel
theorem dX8_findOpen_41 : decode cX8_findOpen 41 = .ok (.invokevirtual 201, 3) := by decide +kernel
theorem dX8_findOpen_44 : decode cX8_findOpen 44 = .ok (.ifCond .eq 7, 3) := by decide +kernel
theorem dX8_findOpen_47 : decode cX8_findOpen 47 = .ok (.iconst 1, 1) := by decide +kernel
theorem dX8_findOpen_48 : decode cX8_findOpen 48 = .ok (.goto 4, 3) := by decide +kernel
theorem dX8_findOpen_51 : decode cX8_findOpen 51 = .ok (.iconst 0, 1) := by decide +kernel
theorem dX8_findOpen_52 : decode cX8_findOpen 52 = .ok (.bastore, 1) := by decide +kernel
theorem dX8_findOpen_53 : decode cX8_findOpen 53 = .ok (.iinc 2 1, 3) := by decide +kernel
theorem dX8_findOpen_56 : decode cX8_findOpen 56 = .ok (.goto (-44), 3) := by decide +kernel
theorem dX8_findOpen_59 : decode cX8_findOpen 59 = .ok (.iinc 1 1, 3) := by decide +kernel
theorem dX8_findOpen_62 : decode cX8_findOpen 62 = .ok (.goto (-60), 3) := by decide +kernel
theorem dX8_findOpen_65 : decode cX8_findOpen 65 = .ok (.return_, 1) := by decide +kernel
theorem dX8_touch_0 : decode cX8_touch 0 = .ok (.iconst 0, 1) := by decide +kernel
theorem dX8_touch_1 : decode cX8_touch 1 = .ok (.istore_n 3, 1) := by decide +kernel
theorem dX8_touch_2 : decode cX8_touch 2 = .ok (.iload_n 3, 1) := by decide +kernel
theorem dX8_touch_3 : decode cX8_touch 3 = .ok (.bipush 16, 2) := by decide +kernel
theorem dX8_touch_5 : decode cX8_touch 5 = .ok (.if_icmp .ge 69, 3) := by decide +kernel
theorem dX8_touch_8 : decode cX8_touch 8 = .ok (.iconst 0, 1) := by decide +kernel
theorem dX8_touch_9 : decode cX8_touch 9 = .ok (.istore 4, 2) := by decide +kernel
theorem dX8_touch_11 : decode cX8_touch 11 = .ok (.iload 4, 2) := by decide +kernel
theorem dX8_touch_13 : decode cX8_touch 13 = .ok (.bipush 16, 2) := by decide +kernel
theorem dX8_touch_15 : decode cX8_touch 15 = .ok (.if_icmp .ge 53, 3) := by decide +kernel
theorem dX8_touch_18 : decode cX8_touch 18 = .ok (.aload_n 0, 1) := by decide +kernel
theorem dX8_touch_19 : decode cX8_touch 19 = .ok (.getfield 50, 3) := by decide +kernel
theorem dX8_touch_22 : decode cX8_touch 22 = .ok (.bipush 16, 2) := by decide +kernel
theorem dX8_touch_24 : decode cX8_touch 24 = .ok (.iload_n 1, 1) := by decide +kernel
theorem dX8_touch_25 : decode cX8_touch 25 = .ok (.imul, 1) := by decide +kernel
theorem dX8_touch_26 : decode cX8_touch 26 = .ok (.iload_n 3, 1) := by decide +kernel
theorem dX8_touch_27 : decode cX8_touch 27 = .ok (.iadd, 1) := by decide +kernel
theorem dX8_touch_28 : decode cX8_touch 28 = .ok (.baload, 1) := by decide +kernel
theorem dX8_touch_29 : decode cX8_touch 29 = .ok (.ifCond .eq 39, 3) := by decide +kernel
theorem dX8_touch_32 : decode cX8_touch 32 = .ok (.aload_n 0, 1) := by decide +kernel
theorem dX8_touch_33 : decode cX8_touch 33 = .ok (.getfield 50, 3) := by decide +kernel
theorem dX8_touch_36 : decode cX8_touch 36 = .ok (.bipush 16, 2) := by decide +kernel
theorem dX8_touch_38 : decode cX8_touch 38 = .ok (.iload_n 2, 1) := by decide +kernel
theorem dX8_touch_39 : decode cX8_touch 39 = .ok (.imul, 1) := by decide +kernel
theorem dX8_touch_40 : decode cX8_touch 40 = .ok (.iload 4, 2) := by decide +kernel
theorem dX8_touch_42 : decode cX8_touch 42 = .ok (.iadd, 1) := by decide +kernel
theorem dX8_touch_43 : decode cX8_touch 43 = .ok (.baload, 1) := by decide +kernel
theorem dX8_touch_44 : decode cX8_touch 44 = .ok (.ifCond .eq 18, 3) := by decide +kernel
theorem dX8_touch_47 : decode cX8_touch 47 = .ok (.aload_n 0, 1) := by decide +kernel
theorem dX8_touch_48 : decode cX8_touch 48 = .ok (.iload_n 1, 1) := by decide +kernel
theorem dX8_touch_49 : decode cX8_touch 49 = .ok (.iload_n 3, 1) := by decide +kernel
theorem dX8_touch_50 : decode cX8_touch 50 = .ok (.iload_n 2, 1) := by decide +kernel
theorem dX8_touch_51 : decode cX8_touch 51 = .ok (.iload 4, 2) := by decide +kernel
theorem dX8_touch_53 : decode cX8_touch 53 = .ok (.iconst 0, 1) := by decide +kernel
theorem dX8_touch_54 : decode cX8_touch 54 = .ok (.invokevirtual 204, 3) := by decide +kernel
theorem dX8_touch_57 : decode cX8_touch 57 = .ok (.ifCond .eq 5, 3) := by decide +kernel
theorem dX8_touch_60 : decode cX8_touch 60 = .ok (.iconst 1, 1) := by decide +kernel
theorem dX8_touch_61 : decode cX8_touch 61 = .ok (.ireturn, 1) := by decide +kernel
theorem dX8_touch_62 : decode cX8_touch 62 = .ok (.iinc 4 1, 3) := by decide +kernel
theorem dX8_touch_65 : decode cX8_touch 65 = .ok (.goto (-54), 3) := by decide +kernel
theorem dX8_touch_68 : decode cX8_touch 68 = .ok (.iinc 3 1, 3) := by decide +kernel
theorem dX8_touch_71 : decode cX8_touch 71 = .ok (.goto (-69), 3) := by decide +kernel
theorem dX8_touch_74 : decode cX8_touch 74 = .ok (.iconst 0, 1) := by decide +kernel
theorem dX8_touch_75 : decode cX8_touch 75 = .ok (.ireturn, 1) := by decide +kernel
theorem dX8_findParts_0 : decode cX8_findParts 0 = .ok (.aload_n 0, 1) := by decide +kernel
theorem dX8_findParts_1 : decode cX8_findParts 1 = .ok (.invokevirtual 208, 3) := by decide +kernel
theorem dX8_findParts_4 : decode cX8_findParts 4 = .ok (.iconst 0, 1) := by decide +kernel
theorem dX8_findParts_5 : decode cX8_findParts 5 = .ok (.istore_n 1, 1) := by decide +kernel
theorem dX8_findParts_6 : decode cX8_findParts 6 = .ok (.iload_n 1, 1) := by decide +kernel
theorem dX8_findParts_7 : decode cX8_findParts 7 = .ok (.aload_n 0, 1) := by decide +kernel
theorem dX8_findParts_8 : decode cX8_findParts 8 = .ok (.getfield 88, 3) := by decide +kernel
theorem dX8_findParts_11 : decode cX8_findParts 11 = .ok (.if_icmp .ge 16, 3) := by decide +kernel
theorem dX8_findParts_14 : decode cX8_findParts 14 = .ok (.aload_n 0, 1) := by decide +kernel
theorem dX8_findParts_15 : decode cX8_findParts 15 = .ok (.getfield 47, 3) := by decide +kernel
theorem dX8_findParts_18 : decode cX8_findParts 18 = .ok (.iload_n 1, 1) := by decide +kernel
theorem dX8_findParts_19 : decode cX8_findParts 19 = .ok (.iload_n 1, 1) := by decide +kernel
theorem dX8_findParts_20 : decode cX8_findParts 20 = .ok (.iastore, 1) := by decide +kernel
theorem dX8_findParts_21 : decode cX8_findParts 21 = .ok (.iinc 1 1, 3) := by decide +kernel
theorem dX8_findParts_24 : decode cX8_findParts 24 = .ok (.goto (-18), 3) := by decide +kernel
theorem dX8_findParts_27 : decode cX8_findParts 27 = .ok (.iconst 0, 1) := by decide +kernel
theorem dX8_findParts_28 : decode cX8_findParts 28 = .ok (.istore_n 1, 1) := by decide +kernel
theorem dX8_findParts_29 : decode cX8_findParts 29 = .ok (.iload_n 1, 1) := by decide +kernel
theorem dX8_findParts_30 : decode cX8_findParts 30 = .ok (.aload_n 0, 1) := by decide +kernel
theorem dX8_findParts_31 : decode cX8_findParts 31 = .ok (.getfield 88, 3) := by decide +kernel
theorem dX8_findParts_34 : decode cX8_findParts 34 = .ok (.if_icmp .ge 157, 3) := by decide +kernel
theorem dX8_findParts_37 : decode cX8_findParts 37 = .ok (.iconst 0, 1) := by decide +kernel
theorem dX8_findParts_38 : decode cX8_findParts 38 = .ok (.istore_n 2, 1) := by decide +kernel
theorem dX8_findParts_39 : decode cX8_findParts 39 = .ok (.iload_n 2, 1) := by decide +kernel
theorem dX8_findParts_40 : decode cX8_findParts 40 = .ok (.iload_n 1, 1) := by decide +kernel
theorem dX8_findParts_41 : decode cX8_findParts 41 = .ok (.if_icmp .ge 144, 3) := by decide +kernel
theorem dX8_findParts_44 : decode cX8_findParts 44 = .ok (.aload_n 0, 1) := by decide +kernel
theorem dX8_findParts_45 : decode cX8_findParts 45 = .ok (.getfield 47, 3) := by decide +kernel
theorem dX8_findParts_48 : decode cX8_findParts 48 = .ok (.iload_n 1, 1) := by decide +kernel
theorem dX8_findParts_49 : decode cX8_findParts 49 = .ok (.iaload, 1) := by decide +kernel
theorem dX8_findParts_50 : decode cX8_findParts 50 = .ok (.aload_n 0, 1) := by decide +kernel
theorem dX8_findParts_51 : decode cX8_findParts 51 = .ok (.getfield 47, 3) := by decide +kernel
theorem dX8_findParts_54 : decode cX8_findParts 54 = .ok (.iload_n 2, 1) := by decide +kernel
theorem dX8_findParts_55 : decode cX8_findParts 55 = .ok (.iaload, 1) := by decide +kernel
theorem dX8_findParts_56 : decode cX8_findParts 56 = .ok (.if_icmp .eq 123, 3) := by decide +kernel
theorem dX8_findParts_59 : decode cX8_findParts 59 = .ok (.aload_n 0, 1) := by decide +kernel
theorem dX8_findParts_60 : decode cX8_findParts 60 = .ok (.iload_n 1, 1) := by decide +kernel
theorem dX8_findParts_61 : decode cX8_findParts 61 = .ok (.iload_n 2, 1) := by decide +kernel
theorem dX8_findParts_62 : decode cX8_findParts 62 = .ok (.invokevirtual 211, 3) := by decide +kernel
theorem dX8_findParts_65 : decode cX8_findParts 65 = .ok (.ifCond .eq 114, 3) := by decide +kernel
theorem dX8_findParts_68 : decode cX8_findParts 68 = .ok (.aload_n 0, 1) := by decide +kernel
theorem dX8_findParts_69 : decode cX8_findParts 69 = .ok (.getfield 47, 3) := by decide +kernel
theorem dX8_findParts_72 : decode cX8_findParts 72 = .ok (.iload_n 1, 1) := by decide +kernel
theorem dX8_findParts_73 : decode cX8_findParts 73 = .ok (.iaload, 1) := by decide +kernel
theorem dX8_findParts_74 : decode cX8_findParts 74 = .ok (.aload_n 0, 1) := by decide +kernel
theorem dX8_findParts_75 : decode cX8_findParts 75 = .ok (.getfield 47, 3) := by decide +kernel
theorem dX8_findParts_78 : decode cX8_findParts 78 = .ok (.iload_n 2, 1) := by decide +kernel
theorem dX8_findParts_79 : decode cX8_findParts 79 = .ok (.iaload, 1) := by decide +kernel
theorem dX8_findParts_80 : decode cX8_findParts 80 = .ok (.if_icmp .le 12, 3) := by decide +kernel
theorem dX8_findParts_83 : decode cX8_findParts 83 = .ok (.aload_n 0, 1) := by decide +kernel
theorem dX8_findParts_84 : decode cX8_findParts 84 = .ok (.getfield 47, 3) := by decide +kernel
theorem dX8_findParts_87 : decode cX8_findParts 87 = .ok (.iload_n 1, 1) := by decide +kernel
theorem dX8_findParts_88 : decode cX8_findParts 88 = .ok (.iaload, 1) := by decide +kernel
theorem dX8_findParts_89 : decode cX8_findParts 89 = .ok (.goto 9, 3) := by decide +kernel
theorem dX8_findParts_92 : decode cX8_findParts 92 = .ok (.aload_n 0, 1) := by decide +kernel
theorem dX8_findParts_93 : decode cX8_findParts 93 = .ok (.getfield 47, 3) := by decide +kernel
theorem dX8_findParts_96 : decode cX8_findParts 96 = .ok (.iload_n 2, 1) := by decide +kernel
theorem dX8_findParts_97 : decode cX8_findParts 97 = .ok (.iaload, 1) := by decide +kernel
theorem dX8_findParts_98 : decode cX8_findParts 98 = .ok (.istore_n 3, 1) := by decide +kernel
theorem dX8_findParts_99 : decode cX8_findParts 99 = .ok (.aload_n 0, 1) := by decide +kernel
theorem dX8_findParts_100 : decode cX8_findParts 100 = .ok (.getfield 47, 3) := by decide +kernel
theorem dX8_findParts_103 : decode cX8_findParts 103 = .ok (.iload_n 1, 1) := by decide +kernel
theorem dX8_findParts_104 : decode cX8_findParts 104 = .ok (.iaload, 1) := by decide +kernel
theorem dX8_findParts_105 : decode cX8_findParts 105 = .ok (.aload_n 0, 1) := by decide +kernel
theorem dX8_findParts_106 : decode cX8_findParts 106 = .ok (.getfield 47, 3) := by decide +kernel
theorem dX8_findParts_109 : decode cX8_findParts 109 = .ok (.iload_n 2, 1) := by decide +kernel
theorem dX8_findParts_110 : decode cX8_findParts 110 = .ok (.iaload, 1) := by decide +kernel
theorem dX8_findParts_111 : decode cX8_findParts 111 = .ok (.if_icmp .le 12, 3) := by decide +kernel
theorem dX8_findParts_114 : decode cX8_findParts 114 = .ok (.aload_n 0, 1) := by decide +kernel
theorem dX8_findParts_115 : decode cX8_findParts 115 = .ok (.getfield 47, 3) := by decide +kernel
theorem dX8_findParts_118 : decode cX8_findParts 118 = .ok (.iload_n 2, 1) := by decide +kernel
theorem dX8_findParts_119 : decode cX8_findParts 119 = .ok (.iaload, 1) := by decide +kernel
theorem dX8_findParts_120 : decode cX8_findParts 120 = .ok (.goto 9, 3) := by decide +kernel
theorem dX8_findParts_123 : decode cX8_findParts 123 = .ok (.aload_n 0, 1) := by decide +kernel
theorem dX8_findParts_124 : decode cX8_findParts 124 = .ok (.getfield 47, 3) := by decide +kernel
theorem dX8_findParts_127 : decode cX8_findParts 127 = .ok (.iload_n 1, 1) := by decide +kernel
theorem dX8_findParts_128 : decode cX8_findParts 128 = .ok (.iaload, 1) := by decide +kernel
theorem dX8_findParts_129 : decode cX8_findParts 129 = .ok (.istore 4, 2) := by decide +kernel
theorem dX8_findParts_131 : decode cX8_findParts 131 = .ok (.iconst 0, 1) := by decide +kernel
theorem dX8_findParts_132 : decode cX8_findParts 132 = .ok (.istore 5, 2) := by decide +kernel
theorem dX8_findParts_134 : decode cX8_findParts 134 = .ok (.iload 5, 2) := by decide +kernel
theorem dX8_findParts_136 : decode cX8_findParts 136 = .ok (.aload_n 0, 1) := by decide +kernel
theorem dX8_findParts_137 : decode cX8_findParts 137 = .ok (.getfield 88, 3) := by decide +kernel
theorem dX8_findParts_140 : decode cX8_findParts 140 = .ok (.if_icmp .ge 39, 3) := by decide +kernel
theorem dX8_findParts_143 : decode cX8_findParts 143 = .ok (.aload_n 0, 1) := by decide +kernel
theorem dX8_findParts_144 : decode cX8_findParts 144 = .ok (.getfield 47, 3) := by decide +kernel
theorem dX8_findParts_147 : decode cX8_findParts 147 = .ok (.iload 5, 2) := by decide +kernel
theorem dX8_findParts_149 : decode cX8_findParts 149 = .ok (.aload_n 0, 1) := by decide +kernel
theorem dX8_findParts_150 : decode cX8_findParts 150 = .ok (.getfield 47, 3) := by decide +kernel
theorem dX8_findParts_153 : decode cX8_findParts 153 = .ok (.iload 5, 2) := by decide +kernel
theorem dX8_findParts_155 : decode cX8_findParts 155 = .ok (.iaload, 1) := by decide +kernel
theorem dX8_findParts_156 : decode cX8_findParts 156 = .ok (.iload_n 3, 1) := by decide +kernel
theorem dX8_findParts_157 : decode cX8_findParts 157 = .ok (.if_icmp .ne 8, 3) := by decide +kernel
theorem dX8_findParts_160 : decode cX8_findParts 160 = .ok (.iload 4, 2) := by decide +kernel
theorem dX8_findParts_162 : decode cX8_findParts 162 = .ok (.goto 10, 3) := by decide +kernel
theorem dX8_findParts_165 : decode cX8_findParts 165 = .ok (.aload_n 0, 1) := by decide +kernel
theorem dX8_findParts_166 : decode cX8_findParts 166 = .ok (.getfield 47, 3) := by decide +kernel
theorem dX8_findParts_169 : decode cX8_findParts 169 = .ok (.iload 5, 2) := by decide +kernel
theorem dX8_findParts_171 : decode cX8_findParts 171 = .ok (.iaload, 1) := by decide +kernel
theorem dX8_findParts_172 : decode cX8_findParts 172 = .ok (.iastore, 1) := by decide +kernel
theorem dX8_findParts_173 : decode cX8_findParts 173 = .ok (.iinc 5 1, 3) := by decide +kernel
theorem dX8_findParts_176 : decode cX8_findParts 176 = .ok (.goto (-42), 3) := by decide +kernel
theorem dX8_findParts_179 : decode cX8_findParts 179 = .ok (.iinc 2 1, 3) := by decide +kernel
theorem dX8_findParts_182 : decode cX8_findParts 182 = .ok (.goto (-143), 3) := by decide +kernel
theorem dX8_findParts_185 : decode cX8_findParts 185 = .ok (.iinc 1 1, 3) := by decide +kernel
theorem dX8_findParts_188 : decode cX8_findParts 188 = .ok (.goto (-159), 3) := by decide +kernel
theorem dX8_findParts_191 : decode cX8_findParts 191 = .ok (.iconst 0, 1) := by decide +kernel
theorem dX8_findParts_192 : decode cX8_findParts 192 = .ok (.istore_n 1, 1) := by decide +kernel
theorem dX8_findParts_193 : decode cX8_findParts 193 = .ok (.iconst 0, 1) := by decide +kernel
theorem dX8_findParts_194 : decode cX8_findParts 194 = .ok (.istore_n 2, 1) := by decide +kernel
theorem dX8_findParts_195 : decode cX8_findParts 195 = .ok (.iload_n 2, 1) := by decide +kernel
theorem dX8_findParts_196 : decode cX8_findParts 196 = .ok (.aload_n 0, 1) := by decide +kernel
theorem dX8_findParts_197 : decode cX8_findParts 197 = .ok (.getfield 88, 3) := by decide +kernel
theorem dX8_findParts_200 : decode cX8_findParts 200 = .ok (.if_icmp .ge 66, 3) := by decide +kernel
theorem dX8_findParts_203 : decode cX8_findParts 203 = .ok (.aload_n 0, 1) := by decide +kernel
theorem dX8_findParts_204 : decode cX8_findParts 204 = .ok (.getfield 47, 3) := by decide +kernel
theorem dX8_findParts_207 : decode cX8_findParts 207 = .ok (.iload_n 2, 1) := by decide +kernel
theorem dX8_findParts_208 : decode cX8_findParts 208 = .ok (.iaload, 1) := by decide +kernel
theorem dX8_findParts_209 : decode cX8_findParts 209 = .ok (.iload_n 2, 1) := by decide +kernel
theorem dX8_findParts_210 : decode cX8_findParts 210 = .ok (.if_icmp .ne 50, 3) := by decide +kernel
theorem dX8_findParts_213 : decode cX8_findParts 213 = .ok (.iload_n 2, 1) := by decide +kernel
theorem dX8_findParts_214 : decode cX8_findParts 214 = .ok (.istore_n 3, 1) := by decide +kernel
theorem dX8_findParts_215 : decode cX8_findParts 215 = .ok (.iload_n 3, 1) := by decide +kernel
theorem dX8_findParts_216 : decode cX8_findParts 216 = .ok (.aload_n 0, 1) := by decide +kernel
theorem dX8_findParts_217 : decode cX8_findParts 217 = .ok (.getfield 88, 3) := by decide +kernel
theorem dX8_findParts_220 : decode cX8_findParts 220 = .ok (.if_icmp .ge 37, 3) := by decide +kernel
theorem dX8_findParts_223 : decode cX8_findParts 223 = .ok (.aload_n 0, 1) := by decide +kernel
theorem dX8_findParts_224 : decode cX8_findParts 224 = .ok (.getfield 47, 3) := by decide +kernel
theorem dX8_findParts_227 : decode cX8_findParts 227 = .ok (.iload_n 3, 1) := by decide +kernel
theorem dX8_findParts_228 : decode cX8_findParts 228 = .ok (.aload_n 0, 1) := by decide +kernel
theorem dX8_findParts_229 : decode cX8_findParts 229 = .ok (.getfield 47, 3) := by decide +kernel
theorem dX8_findParts_232 : decode cX8_findParts 232 = .ok (.iload_n 3, 1) := by decide +kernel
theorem dX8_findParts_233 : decode cX8_findParts 233 = .ok (.iaload, 1) := by decide +kernel
theorem dX8_findParts_234 : decode cX8_findParts 234 = .ok (.iload_n 2, 1) := by decide +kernel
theorem dX8_findParts_235 : decode cX8_findParts 235 = .ok (.if_icmp .ne 9, 3) := by decide +kernel
theorem dX8_findParts_238 : decode cX8_findParts 238 = .ok (.iconst (-1), 1) := by decide +kernel
theorem dX8_findParts_239 : decode cX8_findParts 239 = .ok (.iload_n 1, 1) := by decide +kernel
theorem dX8_findParts_240 : decode cX8_findParts 240 = .ok (.isub, 1) := by decide +kernel
theorem dX8_findParts_241 : decode cX8_findParts 241 = .ok (.goto 9, 3) := by decide +kernel
theorem dX8_findParts_244 : decode cX8_findParts 244 = .ok (.aload_n 0, 1) := by decide +kernel
theorem dX8_findParts_245 : decode cX8_findParts 245 = .ok (.getfield 47, 3) := by decide +kernel
theorem dX8_findParts_248 : decode cX8_findParts 248 = .ok (.iload_n 3, 1) := by decide +kernel
theorem dX8_findParts_249 : decode cX8_findParts 249 = .ok (.iaload, 1) := by decide +kernel
theorem dX8_findParts_250 : decode cX8_findParts 250 = .ok (.iastore, 1) := by decide +kernel
theorem dX8_findParts_251 : decode cX8_findParts 251 = .ok (.iinc 3 1, 3) := by decide +kernel
theorem dX8_findParts_254 : decode cX8_findParts 254 = .ok (.goto (-39), 3) := by decide +kernel
theorem dX8_findParts_257 : decode cX8_findParts 257 = .ok (.iinc 1 1, 3) := by decide +kernel
theorem dX8_findParts_260 : decode cX8_findParts 260 = .ok (.iinc 2 1, 3) := by decide +kernel
theorem dX8_findParts_263 : decode cX8_findParts 263 = .ok (.goto (-68), 3) := by decide +kernel
theorem dX8_findParts_266 : decode cX8_findParts 266 = .ok (.iconst 0, 1) := by decide +kernel
theorem dX8_findParts_267 : decode cX8_findParts 267 = .ok (.istore_n 2, 1) := by decide +kernel
theorem dX8_findParts_268 : decode cX8_findParts 268 = .ok (.iload_n 2, 1) := by decide +kernel
theorem dX8_findParts_269 : decode cX8_findParts 269 = .ok (.aload_n 0, 1) := by decide +kernel
theorem dX8_findParts_270 : decode cX8_findParts 270 = .ok (.getfield 88, 3) := by decide +kernel
theorem dX8_findParts_273 : decode cX8_findParts 273 = .ok (.if_icmp .ge 23, 3) := by decide +kernel
theorem dX8_findParts_276 : decode cX8_findParts 276 = .ok (.aload_n 0, 1) := by decide +kernel
theorem dX8_findParts_277 : decode cX8_findParts 277 = .ok (.getfield 47, 3) := by decide +kernel
theorem dX8_findParts_280 : decode cX8_findParts 280 = .ok (.iload_n 2, 1) := by decide +kernel
theorem dX8_findParts_281 : decode cX8_findParts 281 = .ok (.iconst (-1), 1) := by decide +kernel
theorem dX8_findParts_282 : decode cX8_findParts 282 = .ok (.aload_n 0, 1) := by decide +kernel
theorem dX8_findParts_283 : decode cX8_findParts 283 = .ok (.getfield 47, 3) := by decide +kernel
theorem dX8_findParts_286 : decode cX8_findParts 286 = .ok (.iload_n 2, 1) := by decide +kernel
theorem dX8_findParts_287 : decode cX8_findParts 287 = .ok (.iaload, 1) := by decide +kernel
theorem dX8_findParts_288 : decode cX8_findParts 288 = .ok (.isub, 1) := by decide +kernel
theorem dX8_findParts_289 : decode cX8_findParts 289 = .ok (.iastore, 1) := by decide +kernel
theorem dX8_findParts_290 : decode cX8_findParts 290 = .ok (.iinc 2 1, 3) := by decide +kernel
theorem dX8_findParts_293 : decode cX8_findParts 293 = .ok (.goto (-25), 3) := by decide +kernel
theorem dX8_findParts_296 : decode cX8_findParts 296 = .ok (.iload_n 1, 1) := by decide +kernel
theorem dX8_findParts_297 : decode cX8_findParts 297 = .ok (.ireturn, 1) := by decide +kernel
theorem dX8_parts_0 : decode cX8_parts 0 = .ok (.aload_n 0, 1) := by decide +kernel
theorem dX8_parts_1 : decode cX8_parts 1 = .ok (.iconst 0, 1) := by decide +kernel
theorem dX8_parts_2 : decode cX8_parts 2 = .ok (.putfield 78, 3) := by decide +kernel
theorem dX8_parts_5 : decode cX8_parts 5 = .ok (.aload_n 0, 1) := by decide +kernel
theorem dX8_parts_6 : decode cX8_parts 6 = .ok (.invokevirtual 214, 3) := by decide +kernel
theorem dX8_parts_9 : decode cX8_parts 9 = .ok (.ireturn, 1) := by decide +kernel
theorem dX8_most_0 : decode cX8_most 0 = .ok (.aload_n 0, 1) := by decide +kernel
theorem dX8_most_1 : decode cX8_most 1 = .ok (.invokevirtual 214, 3) := by decide +kernel
theorem dX8_most_4 : decode cX8_most 4 = .ok (.istore_n 1, 1) := by decide +kernel
theorem dX8_most_5 : decode cX8_most 5 = .ok (.iconst 0, 1) := by decide +kernel
theorem dX8_most_6 : decode cX8_most 6 = .ok (.istore_n 2, 1) := by decide +kernel
theorem dX8_most_7 : decode cX8_most 7 = .ok (.iconst 0, 1) := by decide +kernel
theorem dX8_most_8 : decode cX8_most 8 = .ok (.istore_n 3, 1) := by decide +kernel
theorem dX8_most_9 : decode cX8_most 9 = .ok (.iload_n 3, 1) := by decide +kernel
theorem dX8_most_10 : decode cX8_most 10 = .ok (.iload_n 1, 1) := by decide +kernel
theorem dX8_most_11 : decode cX8_most 11 = .ok (.if_icmp .ge 64, 3) := by decide +kernel
theorem dX8_most_14 : decode cX8_most 14 = .ok (.iconst 0, 1) := by decide +kernel
theorem dX8_most_15 : decode cX8_most 15 = .ok (.istore 4, 2) := by decide +kernel
theorem dX8_most_17 : decode cX8_most 17 = .ok (.iconst 0, 1) := by decide +kernel
theorem dX8_most_18 : decode cX8_most 18 = .ok (.istore 5, 2) := by decide +kernel
theorem dX8_most_20 : decode cX8_most 20 = .ok (.iload 5, 2) := by decide +kernel
theorem dX8_most_22 : decode cX8_most 22 = .ok (.aload_n 0, 1) := by decide +kernel
theorem dX8_most_23 : decode cX8_most 23 = .ok (.getfield 88, 3) := by decide +kernel
theorem dX8_most_26 : decode cX8_most 26 = .ok (.if_icmp .ge 30, 3) := by decide +kernel
theorem dX8_most_29 : decode cX8_most 29 = .ok (.iload 4, 2) := by decide +kernel
theorem dX8_most_31 : decode cX8_most 31 = .ok (.aload_n 0, 1) := by decide +kernel
theorem dX8_most_32 : decode cX8_most 32 = .ok (.getfield 47, 3) := by decide +kernel
theorem dX8_most_35 : decode cX8_most 35 = .ok (.iload 5, 2) := by decide +kernel
theorem dX8_most_37 : decode cX8_most 37 = .ok (.iaload, 1) := by decide +kernel
theorem dX8_most_38 : decode cX8_most 38 = .ok (.iload_n 3, 1) := by decide +kernel
theorem dX8_most_39 : decode cX8_most 39 = .ok (.if_icmp .ne 7, 3) := by decide +kernel
theorem dX8_most_42 : decode cX8_most 42 = .ok (.iconst 1, 1) := by decide +kernel
theorem dX8_most_43 : decode cX8_most 43 = .ok (.goto 4, 3) := by decide +kernel
theorem dX8_most_46 : decode cX8_most 46 = .ok (.iconst 0, 1) := by decide +kernel
theorem dX8_most_47 : decode cX8_most 47 = .ok (.iadd, 1) := by decide +kernel
theorem dX8_most_48 : decode cX8_most 48 = .ok (.istore 4, 2) := by decide +kernel
theorem dX8_most_50 : decode cX8_most 50 = .ok (.iinc 5 1, 3) := by decide +kernel
theorem dX8_most_53 : decode cX8_most 53 = .ok (.goto (-33), 3) := by decide +kernel
theorem dX8_most_56 : decode cX8_most 56 = .ok (.iload 4, 2) := by decide +kernel
theorem dX8_most_58 : decode cX8_most 58 = .ok (.iload_n 2, 1) := by decide +kernel
theorem dX8_most_59 : decode cX8_most 59 = .ok (.if_icmp .le 8, 3) := by decide +kernel
theorem dX8_most_62 : decode cX8_most 62 = .ok (.iload 4, 2) := by decide +kernel
theorem dX8_most_64 : decode cX8_most 64 = .ok (.goto 4, 3) := by decide +kernel
theorem dX8_most_67 : decode cX8_most 67 = .ok (.iload_n 2, 1) := by decide +kernel
theorem dX8_most_68 : decode cX8_most 68 = .ok (.istore_n 2, 1) := by decide +kernel
theorem dX8_most_69 : decode cX8_most 69 = .ok (.iinc 3 1, 3) := by decide +kernel
theorem dX8_most_72 : decode cX8_most 72 = .ok (.goto (-63), 3) := by decide +kernel
theorem dX8_most_75 : decode cX8_most 75 = .ok (.iload_n 2, 1) := by decide +kernel
theorem dX8_most_76 : decode cX8_most 76 = .ok (.ireturn, 1) := by decide +kernel
theorem dX8_about_0 : decode cX8_about 0 = .ok (.aload_n 0, 1) := by decide +kernel
theorem dX8_about_1 : decode cX8_about 1 = .ok (.iconst 0, 1) := by decide +kernel
theorem dX8_about_2 : decode cX8_about 2 = .ok (.putfield 78, 3) := by decide +kernel
theorem dX8_about_5 : decode cX8_about 5 = .ok (.aload_n 0, 1) := by decide +kernel
theorem dX8_about_6 : decode cX8_about 6 = .ok (.iload_n 1, 1) := by decide +kernel
theorem dX8_about_7 : decode cX8_about 7 = .ok (.invokevirtual 115, 3) := by decide +kernel
theorem dX8_about_10 : decode cX8_about 10 = .ok (.ifCond .eq 13, 3) := by decide +kernel
theorem dX8_about_13 : decode cX8_about 13 = .ok (.iload_n 2, 1) := by decide +kernel
theorem dX8_about_14 : decode cX8_about 14 = .ok (.iconst 0, 1) := by decide +kernel
theorem dX8_about_15 : decode cX8_about 15 = .ok (.bipush 8, 2) := by decide +kernel
theorem dX8_about_17 : decode cX8_about 17 = .ok (.invokestatic 104, 3) := by decide +kernel
theorem dX8_about_20 : decode cX8_about 20 = .ok (.ifCond .ne 6, 3) := by decide +kernel
theorem dX8_about_23 : decode cX8_about 23 = .ok (.bipush (-3), 2) := by decide +kernel
theorem dX8_about_25 : decode cX8_about 25 = .ok (.ireturn, 1) := by decide +kernel
theorem dX8_about_26 : decode cX8_about 26 = .ok (.iconst 0, 1) := by decide +kernel
theorem dX8_about_27 : decode cX8_about 27 = .ok (.istore_n 3, 1) := by decide +kernel
theorem dX8_about_28 : decode cX8_about 28 = .ok (.iload_n 2, 1) := by decide +kernel
theorem dX8_about_29 : decode cX8_about 29 = .ok (.tableswitch 135 0 7 #[47, 54, 61, 68, 75, 82, 89, 95], 47) := by decide +kernel
theorem dX8_about_76 : decode cX8_about 76 = .ok (.aload_n 0, 1) := by decide +kernel
theorem dX8_about_77 : decode cX8_about 77 = .ok (.getfield 7, 3) := by decide +kernel
theorem dX8_about_80 : decode cX8_about 80 = .ok (.iload_n 1, 1) := by decide +kernel
theorem dX8_about_81 : decode cX8_about 81 = .ok (.iaload, 1) := by decide +kernel
theorem dX8_about_82 : decode cX8_about 82 = .ok (.ireturn, 1) := by decide +kernel
theorem dX8_about_83 : decode cX8_about 83 = .ok (.aload_n 0, 1) := by decide +kernel
theorem dX8_about_84 : decode cX8_about 84 = .ok (.getfield 13, 3) := by decide +kernel
theorem dX8_about_87 : decode cX8_about 87 = .ok (.iload_n 1, 1) := by decide +kernel
theorem dX8_about_88 : decode cX8_about 88 = .ok (.iaload, 1) := by decide +kernel
theorem dX8_about_89 : decode cX8_about 89 = .ok (.ireturn, 1) := by decide +kernel
theorem dX8_about_90 : decode cX8_about 90 = .ok (.aload_n 0, 1) := by decide +kernel
theorem dX8_about_91 : decode cX8_about 91 = .ok (.getfield 16, 3) := by decide +kernel
theorem dX8_about_94 : decode cX8_about 94 = .ok (.iload_n 1, 1) := by decide +kernel
theorem dX8_about_95 : decode cX8_about 95 = .ok (.iaload, 1) := by decide +kernel
theorem dX8_about_96 : decode cX8_about 96 = .ok (.ireturn, 1) := by decide +kernel
theorem dX8_about_97 : decode cX8_about 97 = .ok (.aload_n 0, 1) := by decide +kernel
theorem dX8_about_98 : decode cX8_about 98 = .ok (.getfield 19, 3) := by decide +kernel
theorem dX8_about_101 : decode cX8_about 101 = .ok (.iload_n 1, 1) := by decide +kernel
theorem dX8_about_102 : decode cX8_about 102 = .ok (.iaload, 1) := by decide +kernel
theorem dX8_about_103 : decode cX8_about 103 = .ok (.ireturn, 1) := by decide +kernel
theorem dX8_about_104 : decode cX8_about 104 = .ok (.aload_n 0, 1) := by decide +kernel
theorem dX8_about_105 : decode cX8_about 105 = .ok (.getfield 22, 3) := by decide +kernel
theorem dX8_about_108 : decode cX8_about 108 = .ok (.iload_n 1, 1) := by decide +kernel
theorem dX8_about_109 : decode cX8_about 109 = .ok (.iaload, 1) := by decide +kernel
theorem dX8_about_110 : decode cX8_about 110 = .ok (.ireturn, 1) := by decide +kernel
theorem dX8_about_111 : decode cX8_about 111 = .ok (.aload_n 0, 1) := by decide +kernel
theorem dX8_about_112 : decode cX8_about 112 = .ok (.getfield 25, 3) := by decide +kernel
theorem dX8_about_115 : decode cX8_about 115 = .ok (.iload_n 1, 1) := by decide +kernel
theorem dX8_about_116 : decode cX8_about 116 = .ok (.iaload, 1) := by decide +kernel
theorem dX8_about_117 : decode cX8_about 117 = .ok (.ireturn, 1) := by decide +kernel
theorem dX8_about_118 : decode cX8_about 118 = .ok (.aload_n 0, 1) := by decide +kernel
theorem dX8_about_119 : decode cX8_about 119 = .ok (.iload_n 1, 1) := by decide +kernel
theorem dX8_about_120 : decode cX8_about 120 = .ok (.invokevirtual 190, 3) := by decide +kernel
theorem dX8_about_123 : decode cX8_about 123 = .ok (.ireturn, 1) := by decide +kernel
theorem dX8_about_124 : decode cX8_about 124 = .ok (.iconst 0, 1) := by decide +kernel
theorem dX8_about_125 : decode cX8_about 125 = .ok (.istore 4, 2) := by decide +kernel
theorem dX8_about_127 : decode cX8_about 127 = .ok (.iload 4, 2) := by decide +kernel
theorem dX8_about_129 : decode cX8_about 129 = .ok (.aload_n 0, 1) := by decide +kernel
theorem dX8_about_130 : decode cX8_about 130 = .ok (.iload_n 1, 1) := by decide +kernel
theorem dX8_about_131 : decode cX8_about 131 = .ok (.invokevirtual 190, 3) := by decide +kernel
theorem dX8_about_134 : decode cX8_about 134 = .ok (.if_icmp .ge 28, 3) := by decide +kernel
theorem dX8_about_137 : decode cX8_about 137 = .ok (.iload_n 3, 1) := by decide +kernel
theorem dX8_about_138 : decode cX8_about 138 = .ok (.aload_n 0, 1) := by decide +kernel
theorem dX8_about_139 : decode cX8_about 139 = .ok (.iload_n 1, 1) := by decide +kernel
theorem dX8_about_140 : decode cX8_about 140 = .ok (.iload 4, 2) := by decide +kernel
theorem dX8_about_142 : decode cX8_about 142 = .ok (.iconst 0, 1) := by decide +kernel
theorem dX8_about_143 : decode cX8_about 143 = .ok (.invokevirtual 201, 3) := by decide +kernel
theorem dX8_about_146 : decode cX8_about 146 = .ok (.ifCond .eq 7, 3) := by decide +kernel
theorem dX8_about_149 : decode cX8_about 149 = .ok (.iconst 1, 1) := by decide +kernel
theorem dX8_about_150 : decode cX8_about 150 = .ok (.goto 4, 3) := by decide +kernel
theorem dX8_about_153 : decode cX8_about 153 = .ok (.iconst 0, 1) := by decide +kernel
theorem dX8_about_154 : decode cX8_about 154 = .ok (.iadd, 1) := by decide +kernel
theorem dX8_about_155 : decode cX8_about 155 = .ok (.istore_n 3, 1) := by decide +kernel
theorem dX8_about_156 : decode cX8_about 156 = .ok (.iinc 4 1, 3) := by decide +kernel
theorem dX8_about_159 : decode cX8_about 159 = .ok (.goto (-32), 3) := by decide +kernel
theorem dX8_about_162 : decode cX8_about 162 = .ok (.iload_n 3, 1) := by decide +kernel
theorem dX8_about_163 : decode cX8_about 163 = .ok (.ireturn, 1) := by decide +kernel
theorem dX8_about_164 : decode cX8_about 164 = .ok (.aload_n 0, 1) := by decide +kernel
theorem dX8_about_165 : decode cX8_about 165 = .ok (.invokevirtual 214, 3) := by decide +kernel
theorem dX8_about_168 : decode cX8_about 168 = .ok (.istore_n 3, 1) := by decide +kernel
theorem dX8_about_169 : decode cX8_about 169 = .ok (.aload_n 0, 1) := by decide +kernel
theorem dX8_about_170 : decode cX8_about 170 = .ok (.getfield 47, 3) := by decide +kernel
theorem dX8_about_173 : decode cX8_about 173 = .ok (.iload_n 1, 1) := by decide +kernel
theorem dX8_about_174 : decode cX8_about 174 = .ok (.iaload, 1) := by decide +kernel
theorem dX8_about_175 : decode cX8_about 175 = .ok (.ireturn, 1) := by decide +kernel
theorem dX8_isOf_0 : decode cX8_isOf 0 = .ok (.aload_n 0, 1) := by decide +kernel
theorem dX8_isOf_1 : decode cX8_isOf 1 = .ok (.iconst 0, 1) := by decide +kernel
theorem dX8_isOf_2 : decode cX8_isOf 2 = .ok (.putfield 78, 3) := by decide +kernel
theorem dX8_isOf_5 : decode cX8_isOf 5 = .ok (.aload_n 0, 1) := by decide +kernel
theorem dX8_isOf_6 : decode cX8_isOf 6 = .ok (.iload_n 1, 1) := by decide +kernel
theorem dX8_isOf_7 : decode cX8_isOf 7 = .ok (.invokevirtual 115, 3) := by decide +kernel
theorem dX8_isOf_10 : decode cX8_isOf 10 = .ok (.ifCond .eq 12, 3) := by decide +kernel
theorem dX8_isOf_13 : decode cX8_isOf 13 = .ok (.iload_n 2, 1) := by decide +kernel
theorem dX8_isOf_14 : decode cX8_isOf 14 = .ok (.iconst 0, 1) := by decide +kernel
theorem dX8_isOf_15 : decode cX8_isOf 15 = .ok (.iconst 3, 1) := by decide +kernel
theorem dX8_isOf_16 : decode cX8_isOf 16 = .ok (.invokestatic 104, 3) := by decide +kernel
theorem dX8_isOf_19 : decode cX8_isOf 19 = .ok (.ifCond .ne 6, 3) := by decide +kernel
theorem dX8_isOf_22 : decode cX8_isOf 22 = .ok (.bipush (-3), 2) := by decide +kernel
theorem dX8_isOf_24 : decode cX8_isOf 24 = .ok (.ireturn, 1) := by decide +kernel
theorem dX8_isOf_25 : decode cX8_isOf 25 = .ok (.iload_n 2, 1) := by decide +kernel
theorem dX8_isOf_26 : decode cX8_isOf 26 = .ok (.ifCond .eq 28, 3) := by decide +kernel
theorem dX8_isOf_29 : decode cX8_isOf 29 = .ok (.aload_n 0, 1) := by decide +kernel
theorem dX8_isOf_30 : decode cX8_isOf 30 = .ok (.getfield 7, 3) := by decide +kernel
theorem dX8_isOf_33 : decode cX8_isOf 33 = .ok (.iload_n 1, 1) := by decide +kernel
theorem dX8_isOf_34 : decode cX8_isOf 34 = .ok (.iaload, 1) := by decide +kernel
theorem dX8_isOf_35 : decode cX8_isOf 35 = .ok (.iload_n 2, 1) := by decide +kernel
theorem dX8_isOf_36 : decode cX8_isOf 36 = .ok (.if_icmp .eq 18, 3) := by decide +kernel
theorem dX8_isOf_39 : decode cX8_isOf 39 = .ok (.iload_n 2, 1) := by decide +kernel
theorem dX8_isOf_40 : decode cX8_isOf 40 = .ok (.iconst 2, 1) := by decide +kernel
theorem dX8_isOf_41 : decode cX8_isOf 41 = .ok (.if_icmp .ne 17, 3) := by decide +kernel
theorem dX8_isOf_44 : decode cX8_isOf 44 = .ok (.aload_n 0, 1) := by decide +kernel
theorem dX8_isOf_45 : decode cX8_isOf 45 = .ok (.getfield 7, 3) := by decide +kernel
theorem dX8_isOf_48 : decode cX8_isOf 48 = .ok (.iload_n 1, 1) := by decide +kernel
theorem dX8_isOf_49 : decode cX8_isOf 49 = .ok (.iaload, 1) := by decide +kernel
theorem dX8_isOf_50 : decode cX8_isOf 50 = .ok (.iconst 3, 1) := by decide +kernel
theorem dX8_isOf_51 : decode cX8_isOf 51 = .ok (.if_icmp .ne 7, 3) := by decide +kernel
theorem dX8_isOf_54 : decode cX8_isOf 54 = .ok (.iconst 1, 1) := by decide +kernel
theorem dX8_isOf_55 : decode cX8_isOf 55 = .ok (.goto 4, 3) := by decide +kernel
theorem dX8_isOf_58 : decode cX8_isOf 58 = .ok (.iconst 0, 1) := by decide +kernel
theorem dX8_isOf_59 : decode cX8_isOf 59 = .ok (.ireturn, 1) := by decide +kernel
theorem dX8_set_0 : decode cX8_set 0 = .ok (.aload_n 0, 1) := by decide +kernel
theorem dX8_set_1 : decode cX8_set 1 = .ok (.iconst 0, 1) := by decide +kernel
theorem dX8_set_2 : decode cX8_set 2 = .ok (.putfield 78, 3) := by decide +kernel
theorem dX8_set_5 : decode cX8_set 5 = .ok (.aload_n 0, 1) := by decide +kernel
theorem dX8_set_6 : decode cX8_set 6 = .ok (.iload_n 1, 1) := by decide +kernel
theorem dX8_set_7 : decode cX8_set 7 = .ok (.iload_n 2, 1) := by decide +kernel
theorem dX8_set_8 : decode cX8_set 8 = .ok (.invokevirtual 194, 3) := by decide +kernel
theorem dX8_set_11 : decode cX8_set 11 = .ok (.ifCond .ne 6, 3) := by decide +kernel
theorem dX8_set_14 : decode cX8_set 14 = .ok (.bipush (-3), 2) := by decide +kernel
theorem dX8_set_16 : decode cX8_set 16 = .ok (.ireturn, 1) := by decide +kernel
theorem dX8_set_17 : decode cX8_set 17 = .ok (.aload_n 0, 1) := by decide +kernel
theorem dX8_set_18 : decode cX8_set 18 = .ok (.invokevirtual 112, 3) := by decide +kernel
theorem dX8_set_21 : decode cX8_set 21 = .ok (.aload_n 0, 1) := by decide +kernel
theorem dX8_set_22 : decode cX8_set 22 = .ok (.getfield 28, 3) := by decide +kernel
theorem dX8_set_25 : decode cX8_set 25 = .ok (.iload_n 1, 1) := by decide +kernel
theorem dX8_set_26 : decode cX8_set 26 = .ok (.iaload, 1) := by decide +kernel
theorem dX8_set_27 : decode cX8_set 27 = .ok (.istore_n 3, 1) := by decide +kernel
theorem dX8_set_28 : decode cX8_set 28 = .ok (.aload_n 0, 1) := by decide +kernel
theorem dX8_set_29 : decode cX8_set 29 = .ok (.getfield 28, 3) := by decide +kernel
theorem dX8_set_32 : decode cX8_set 32 = .ok (.iload_n 1, 1) := by decide +kernel
theorem dX8_set_33 : decode cX8_set 33 = .ok (.iload_n 2, 1) := by decide +kernel
theorem dX8_set_34 : decode cX8_set 34 = .ok (.iastore, 1) := by decide +kernel
theorem dX8_set_35 : decode cX8_set 35 = .ok (.iload_n 3, 1) := by decide +kernel
theorem dX8_set_36 : decode cX8_set 36 = .ok (.bipush 16, 2) := by decide +kernel
theorem dX8_set_38 : decode cX8_set 38 = .ok (.if_icmp .ne 7, 3) := by decide +kernel
theorem dX8_set_41 : decode cX8_set 41 = .ok (.iconst (-1), 1) := by decide +kernel
theorem dX8_set_42 : decode cX8_set 42 = .ok (.goto 4, 3) := by decide +kernel
theorem dX8_set_45 : decode cX8_set 45 = .ok (.iload_n 3, 1) := by decide +kernel
theorem dX8_set_46 : decode cX8_set 46 = .ok (.ireturn, 1) := by decide +kernel
theorem dX8_free_0 : decode cX8_free 0 = .ok (.aload_n 0, 1) := by decide +kernel
theorem dX8_free_1 : decode cX8_free 1 = .ok (.iconst 0, 1) := by decide +kernel
theorem dX8_free_2 : decode cX8_free 2 = .ok (.putfield 78, 3) := by decide +kernel
theorem dX8_free_5 : decode cX8_free 5 = .ok (.aload_n 0, 1) := by decide +kernel
theorem dX8_free_6 : decode cX8_free 6 = .ok (.iload_n 1, 1) := by decide +kernel
theorem dX8_free_7 : decode cX8_free 7 = .ok (.invokevirtual 115, 3) := by decide +kernel
theorem dX8_free_10 : decode cX8_free 10 = .ok (.ifCond .ne 6, 3) := by decide +kernel
theorem dX8_free_13 : decode cX8_free 13 = .ok (.bipush (-3), 2) := by decide +kernel
theorem dX8_free_15 : decode cX8_free 15 = .ok (.ireturn, 1) := by decide +kernel
theorem dX8_free_16 : decode cX8_free 16 = .ok (.aload_n 0, 1) := by decide +kernel
theorem dX8_free_17 : decode cX8_free 17 = .ok (.getfield 28, 3) := by decide +kernel
theorem dX8_free_20 : decode cX8_free 20 = .ok (.iload_n 1, 1) := by decide +kernel
theorem dX8_free_21 : decode cX8_free 21 = .ok (.iaload, 1) := by decide +kernel
theorem dX8_free_22 : decode cX8_free 22 = .ok (.bipush 16, 2) := by decide +kernel
theorem dX8_free_24 : decode cX8_free 24 = .ok (.if_icmp .ne 6, 3) := by decide +kernel
theorem dX8_free_27 : decode cX8_free 27 = .ok (.bipush (-4), 2) := by decide +kernel
theorem dX8_free_29 : decode cX8_free 29 = .ok (.ireturn, 1) := by decide +kernel
theorem dX8_free_30 : decode cX8_free 30 = .ok (.aload_n 0, 1) := by decide +kernel
theorem dX8_free_31 : decode cX8_free 31 = .ok (.invokevirtual 112, 3) := by decide +kernel
theorem dX8_free_34 : decode cX8_free 34 = .ok (.aload_n 0, 1) := by decide +kernel
theorem dX8_free_35 : decode cX8_free 35 = .ok (.getfield 28, 3) := by decide +kernel
theorem dX8_free_38 : decode cX8_free 38 = .ok (.iload_n 1, 1) := by decide +kernel
theorem dX8_free_39 : decode cX8_free 39 = .ok (.iaload, 1) := by decide +kernel
theorem dX8_free_40 : decode cX8_free 40 = .ok (.istore_n 2, 1) := by decide +kernel
theorem dX8_free_41 : decode cX8_free 41 = .ok (.aload_n 0, 1) := by decide +kernel
theorem dX8_free_42 : decode cX8_free 42 = .ok (.getfield 28, 3) := by decide +kernel
theorem dX8_free_45 : decode cX8_free 45 = .ok (.iload_n 1, 1) := by decide +kernel
theorem dX8_free_46 : decode cX8_free 46 = .ok (.bipush 16, 2) := by decide +kernel
theorem dX8_free_48 : decode cX8_free 48 = .ok (.iastore, 1) := by decide +kernel
theorem dX8_free_49 : decode cX8_free 49 = .ok (.iload_n 2, 1) := by decide +kernel
theorem dX8_free_50 : decode cX8_free 50 = .ok (.ireturn, 1) := by decide +kernel
theorem dX8_chosen_0 : decode cX8_chosen 0 = .ok (.aload_n 0, 1) := by decide +kernel
theorem dX8_chosen_1 : decode cX8_chosen 1 = .ok (.iconst 0, 1) := by decide +kernel
theorem dX8_chosen_2 : decode cX8_chosen 2 = .ok (.putfield 78, 3) := by decide +kernel
theorem dX8_chosen_5 : decode cX8_chosen 5 = .ok (.aload_n 0, 1) := by decide +kernel
theorem dX8_chosen_6 : decode cX8_chosen 6 = .ok (.iload_n 1, 1) := by decide +kernel
theorem dX8_chosen_7 : decode cX8_chosen 7 = .ok (.invokevirtual 115, 3) := by decide +kernel
theorem dX8_chosen_10 : decode cX8_chosen 10 = .ok (.ifCond .ne 8, 3) := by decide +kernel
theorem dX8_chosen_13 : decode cX8_chosen 13 = .ok (.bipush (-3), 2) := by decide +kernel
theorem dX8_chosen_15 : decode cX8_chosen 15 = .ok (.goto 24, 3) := by decide +kernel
theorem dX8_chosen_18 : decode cX8_chosen 18 = .ok (.aload_n 0, 1) := by decide +kernel
theorem dX8_chosen_19 : decode cX8_chosen 19 = .ok (.getfield 28, 3) := by decide +kernel
theorem dX8_chosen_22 : decode cX8_chosen 22 = .ok (.iload_n 1, 1) := by decide +kernel
theorem dX8_chosen_23 : decode cX8_chosen 23 = .ok (.iaload, 1) := by decide +kernel
theorem dX8_chosen_24 : decode cX8_chosen 24 = .ok (.bipush 16, 2) := by decide +kernel
theorem dX8_chosen_26 : decode cX8_chosen 26 = .ok (.if_icmp .ne 7, 3) := by decide +kernel
theorem dX8_chosen_29 : decode cX8_chosen 29 = .ok (.iconst (-1), 1) := by decide +kernel
theorem dX8_chosen_30 : decode cX8_chosen 30 = .ok (.goto 9, 3) := by decide +kernel
theorem dX8_chosen_33 : decode cX8_chosen 33 = .ok (.aload_n 0, 1) := by decide +kernel
theorem dX8_chosen_34 : decode cX8_chosen 34 = .ok (.getfield 28, 3) := by decide +kernel
theorem dX8_chosen_37 : decode cX8_chosen 37 = .ok (.iload_n 1, 1) := by decide +kernel
theorem dX8_chosen_38 : decode cX8_chosen 38 = .ok (.iaload, 1) := by decide +kernel
theorem dX8_chosen_39 : decode cX8_chosen 39 = .ok (.ireturn, 1) := by decide +kernel
theorem dX8_clashInHand_0 : decode cX8_clashInHand 0 = .ok (.iconst 0, 1) := by decide +kernel
theorem dX8_clashInHand_1 : decode cX8_clashInHand 1 = .ok (.istore_n 3, 1) := by decide +kernel
theorem dX8_clashInHand_2 : decode cX8_clashInHand 2 = .ok (.iload_n 3, 1) := by decide +kernel
theorem dX8_clashInHand_3 : decode cX8_clashInHand 3 = .ok (.aload_n 0, 1) := by decide +kernel
theorem dX8_clashInHand_4 : decode cX8_clashInHand 4 = .ok (.getfield 88, 3) := by decide +kernel
theorem dX8_clashInHand_7 : decode cX8_clashInHand 7 = .ok (.if_icmp .ge 44, 3) := by decide +kernel
theorem dX8_clashInHand_10 : decode cX8_clashInHand 10 = .ok (.iload_n 3, 1) := by decide +kernel
theorem dX8_clashInHand_11 : decode cX8_clashInHand 11 = .ok (.iload_n 1, 1) := by decide +kernel
theorem dX8_clashInHand_12 : decode cX8_clashInHand 12 = .ok (.if_icmp .eq 33, 3) := by decide +kernel
theorem dX8_clashInHand_15 : decode cX8_clashInHand 15 = .ok (.aload_n 0, 1) := by decide +kernel
theorem dX8_clashInHand_16 : decode cX8_clashInHand 16 = .ok (.getfield 28, 3) := by decide +kernel
theorem dX8_clashInHand_19 : decode cX8_clashInHand 19 = .ok (.iload_n 3, 1) := by decide +kernel
theorem dX8_clashInHand_20 : decode cX8_clashInHand 20 = .ok (.iaload, 1) := by decide +kernel
theorem dX8_clashInHand_21 : decode cX8_clashInHand 21 = .ok (.bipush 16, 2) := by decide +kernel
theorem dX8_clashInHand_23 : decode cX8_clashInHand 23 = .ok (.if_icmp .eq 22, 3) := by decide +kernel
theorem dX8_clashInHand_26 : decode cX8_clashInHand 26 = .ok (.aload_n 0, 1) := by decide +kernel
theorem dX8_clashInHand_27 : decode cX8_clashInHand 27 = .ok (.iload_n 1, 1) := by decide +kernel
theorem dX8_clashInHand_28 : decode cX8_clashInHand 28 = .ok (.iload_n 2, 1) := by decide +kernel
theorem dX8_clashInHand_29 : decode cX8_clashInHand 29 = .ok (.iload_n 3, 1) := by decide +kernel
theorem dX8_clashInHand_30 : decode cX8_clashInHand 30 = .ok (.aload_n 0, 1) := by decide +kernel
theorem dX8_clashInHand_31 : decode cX8_clashInHand 31 = .ok (.getfield 28, 3) := by decide +kernel
theorem dX8_clashInHand_34 : decode cX8_clashInHand 34 = .ok (.iload_n 3, 1) := by decide +kernel
theorem dX8_clashInHand_35 : decode cX8_clashInHand 35 = .ok (.iaload, 1) := by decide +kernel
theorem dX8_clashInHand_36 : decode cX8_clashInHand 36 = .ok (.iconst 0, 1) := by decide +kernel
theorem dX8_clashInHand_37 : decode cX8_clashInHand 37 = .ok (.invokevirtual 204, 3) := by decide +kernel
theorem dX8_clashInHand_40 : decode cX8_clashInHand 40 = .ok (.ifCond .eq 5, 3) := by decide +kernel
theorem dX8_clashInHand_43 : decode cX8_clashInHand 43 = .ok (.iload_n 3, 1) := by decide +kernel
theorem dX8_clashInHand_44 : decode cX8_clashInHand 44 = .ok (.ireturn, 1) := by decide +kernel
theorem dX8_clashInHand_45 : decode cX8_clashInHand 45 = .ok (.iinc 3 1, 3) := by decide +kernel
theorem dX8_clashInHand_48 : decode cX8_clashInHand 48 = .ok (.goto (-46), 3) := by decide +kernel
theorem dX8_clashInHand_51 : decode cX8_clashInHand 51 = .ok (.iconst (-1), 1) := by decide +kernel
theorem dX8_clashInHand_52 : decode cX8_clashInHand 52 = .ok (.ireturn, 1) := by decide +kernel
theorem dX8_check_0 : decode cX8_check 0 = .ok (.aload_n 0, 1) := by decide +kernel
theorem dX8_check_1 : decode cX8_check 1 = .ok (.iconst 0, 1) := by decide +kernel
theorem dX8_check_2 : decode cX8_check 2 = .ok (.putfield 78, 3) := by decide +kernel
theorem dX8_check_5 : decode cX8_check 5 = .ok (.iconst 0, 1) := by decide +kernel
theorem dX8_check_6 : decode cX8_check 6 = .ok (.istore_n 1, 1) := by decide +kernel
theorem dX8_check_7 : decode cX8_check 7 = .ok (.iload_n 1, 1) := by decide +kernel
theorem dX8_check_8 : decode cX8_check 8 = .ok (.aload_n 0, 1) := by decide +kernel
theorem dX8_check_9 : decode cX8_check 9 = .ok (.getfield 88, 3) := by decide +kernel
theorem dX8_check_12 : decode cX8_check 12 = .ok (.if_icmp .ge 40, 3) := by decide +kernel
theorem dX8_check_15 : decode cX8_check 15 = .ok (.aload_n 0, 1) := by decide +kernel
theorem dX8_check_16 : decode cX8_check 16 = .ok (.getfield 28, 3) := by decide +kernel
theorem dX8_check_19 : decode cX8_check 19 = .ok (.iload_n 1, 1) := by decide +kernel
theorem dX8_check_20 : decode cX8_check 20 = .ok (.iaload, 1) := by decide +kernel
theorem dX8_check_21 : decode cX8_check 21 = .ok (.bipush 16, 2) := by decide +kernel
theorem dX8_check_23 : decode cX8_check 23 = .ok (.if_icmp .eq 23, 3) := by decide +kernel
theorem dX8_check_26 : decode cX8_check 26 = .ok (.aload_n 0, 1) := by decide +kernel
theorem dX8_check_27 : decode cX8_check 27 = .ok (.iload_n 1, 1) := by decide +kernel
theorem dX8_check_28 : decode cX8_check 28 = .ok (.aload_n 0, 1) := by decide +kernel
theorem dX8_check_29 : decode cX8_check 29 = .ok (.getfield 28, 3) := by decide +kernel
theorem dX8_check_32 : decode cX8_check 32 = .ok (.iload_n 1, 1) := by decide +kernel
theorem dX8_check_33 : decode cX8_check 33 = .ok (.iaload, 1) := by decide +kernel
theorem dX8_check_34 : decode cX8_check 34 = .ok (.iconst 0, 1) := by decide +kernel
theorem dX8_check_35 : decode cX8_check 35 = .ok (.invokevirtual 201, 3) := by decide +kernel
theorem dX8_check_38 : decode cX8_check 38 = .ok (.ifCond .ne 8, 3) := by decide +kernel
theorem dX8_check_41 : decode cX8_check 41 = .ok (.bipush 100, 2) := by decide +kernel
theorem dX8_check_43 : decode cX8_check 43 = .ok (.iload_n 1, 1) := by decide +kernel
theorem dX8_check_44 : decode cX8_check 44 = .ok (.iadd, 1) := by decide +kernel
theorem dX8_check_45 : decode cX8_check 45 = .ok (.ireturn, 1) := by decide +kernel
theorem dX8_check_46 : decode cX8_check 46 = .ok (.iinc 1 1, 3) := by decide +kernel
theorem dX8_check_49 : decode cX8_check 49 = .ok (.goto (-42), 3) := by decide +kernel
theorem dX8_check_52 : decode cX8_check 52 = .ok (.iconst 0, 1) := by decide +kernel
theorem dX8_check_53 : decode cX8_check 53 = .ok (.istore_n 1, 1) := by decide +kernel
theorem dX8_check_54 : decode cX8_check 54 = .ok (.iload_n 1, 1) := by decide +kernel
theorem dX8_check_55 : decode cX8_check 55 = .ok (.aload_n 0, 1) := by decide +kernel
theorem dX8_check_56 : decode cX8_check 56 = .ok (.getfield 88, 3) := by decide +kernel
theorem dX8_check_59 : decode cX8_check 59 = .ok (.if_icmp .ge 41, 3) := by decide +kernel
theorem dX8_check_62 : decode cX8_check 62 = .ok (.aload_n 0, 1) := by decide +kernel
theorem dX8_check_63 : decode cX8_check 63 = .ok (.getfield 28, 3) := by decide +kernel
theorem dX8_check_66 : decode cX8_check 66 = .ok (.iload_n 1, 1) := by decide +kernel
theorem dX8_check_67 : decode cX8_check 67 = .ok (.iaload, 1) := by decide +kernel
theorem dX8_check_68 : decode cX8_check 68 = .ok (.bipush 16, 2) := by decide +kernel
theorem dX8_check_70 : decode cX8_check 70 = .ok (.if_icmp .eq 24, 3) := by decide +kernel
theorem dX8_check_73 : decode cX8_check 73 = .ok (.aload_n 0, 1) := by decide +kernel
theorem dX8_check_74 : decode cX8_check 74 = .ok (.iload_n 1, 1) := by decide +kernel
theorem dX8_check_75 : decode cX8_check 75 = .ok (.aload_n 0, 1) := by decide +kernel
theorem dX8_check_76 : decode cX8_check 76 = .ok (.getfield 28, 3) := by decide +kernel
theorem dX8_check_79 : decode cX8_check 79 = .ok (.iload_n 1, 1) := by decide +kernel
theorem dX8_check_80 : decode cX8_check 80 = .ok (.iaload, 1) := by decide +kernel
theorem dX8_check_81 : decode cX8_check 81 = .ok (.invokevirtual 218, 3) := by decide +kernel
theorem dX8_check_84 : decode cX8_check 84 = .ok (.iconst (-1), 1) := by decide +kernel
theorem dX8_check_85 : decode cX8_check 85 = .ok (.if_icmp .eq 9, 3) := by decide +kernel
theorem dX8_check_88 : decode cX8_check 88 = .ok (.sipush 200, 3) := by decide +kernel
theorem dX8_check_91 : decode cX8_check 91 = .ok (.iload_n 1, 1) := by decide +kernel
theorem dX8_check_92 : decode cX8_check 92 = .ok (.iadd, 1) := by decide +kernel
theorem dX8_check_93 : decode cX8_check 93 = .ok (.ireturn, 1) := by decide +kernel
theorem dX8_check_94 : decode cX8_check 94 = .ok (.iinc 1 1, 3) := by decide +kernel
theorem dX8_check_97 : decode cX8_check 97 = .ok (.goto (-43), 3) := by decide +kernel
theorem dX8_check_100 : decode cX8_check 100 = .ok (.iconst 0, 1) := by decide +kernel
theorem dX8_check_101 : decode cX8_check 101 = .ok (.istore_n 1, 1) := by decide +kernel
theorem dX8_check_102 : decode cX8_check 102 = .ok (.iload_n 1, 1) := by decide +kernel
theorem dX8_check_103 : decode cX8_check 103 = .ok (.aload_n 0, 1) := by decide +kernel
theorem dX8_check_104 : decode cX8_check 104 = .ok (.getfield 88, 3) := by decide +kernel
theorem dX8_check_107 : decode cX8_check 107 = .ok (.if_icmp .ge 36, 3) := by decide +kernel
theorem dX8_check_110 : decode cX8_check 110 = .ok (.aload_n 0, 1) := by decide +kernel
theorem dX8_check_111 : decode cX8_check 111 = .ok (.getfield 28, 3) := by decide +kernel
theorem dX8_check_114 : decode cX8_check 114 = .ok (.iload_n 1, 1) := by decide +kernel
theorem dX8_check_115 : decode cX8_check 115 = .ok (.iaload, 1) := by decide +kernel
theorem dX8_check_116 : decode cX8_check 116 = .ok (.bipush 16, 2) := by decide +kernel
theorem dX8_check_118 : decode cX8_check 118 = .ok (.if_icmp .ne 19, 3) := by decide +kernel
theorem dX8_check_121 : decode cX8_check 121 = .ok (.aload_n 0, 1) := by decide +kernel
theorem dX8_check_122 : decode cX8_check 122 = .ok (.getfield 7, 3) := by decide +kernel
theorem dX8_check_125 : decode cX8_check 125 = .ok (.iload_n 1, 1) := by decide +kernel
theorem dX8_check_126 : decode cX8_check 126 = .ok (.iaload, 1) := by decide +kernel
theorem dX8_check_127 : decode cX8_check 127 = .ok (.iconst 3, 1) := by decide +kernel
theorem dX8_check_128 : decode cX8_check 128 = .ok (.if_icmp .ne 9, 3) := by decide +kernel
theorem dX8_check_131 : decode cX8_check 131 = .ok (.sipush 300, 3) := by decide +kernel
theorem dX8_check_134 : decode cX8_check 134 = .ok (.iload_n 1, 1) := by decide +kernel
theorem dX8_check_135 : decode cX8_check 135 = .ok (.iadd, 1) := by decide +kernel
theorem dX8_check_136 : decode cX8_check 136 = .ok (.ireturn, 1) := by decide +kernel
theorem dX8_check_137 : decode cX8_check 137 = .ok (.iinc 1 1, 3) := by decide +kernel
theorem dX8_check_140 : decode cX8_check 140 = .ok (.goto (-38), 3) := by decide +kernel
theorem dX8_check_143 : decode cX8_check 143 = .ok (.iconst 0, 1) := by decide +kernel
theorem dX8_check_144 : decode cX8_check 144 = .ok (.ireturn, 1) := by decide +kernel
theorem dX8_worthOf_0 : decode cX8_worthOf 0 = .ok (.iload_n 2, 1) := by decide +kernel
theorem dX8_worthOf_1 : decode cX8_worthOf 1 = .ok (.bipush 16, 2) := by decide +kernel
theorem dX8_worthOf_3 : decode cX8_worthOf 3 = .ok (.if_icmp .ne 7, 3) := by decide +kernel
theorem dX8_worthOf_6 : decode cX8_worthOf 6 = .ok (.iconst 0, 1) := by decide +kernel
theorem dX8_worthOf_7 : decode cX8_worthOf 7 = .ok (.goto 20, 3) := by decide +kernel
theorem dX8_worthOf_10 : decode cX8_worthOf 10 = .ok (.aload_n 0, 1) := by decide +kernel
theorem dX8_worthOf_11 : decode cX8_worthOf 11 = .ok (.getfield 25, 3) := by decide +kernel
theorem dX8_worthOf_14 : decode cX8_worthOf 14 = .ok (.iload_n 1, 1) := by decide +kernel
theorem dX8_worthOf_15 : decode cX8_worthOf 15 = .ok (.iaload, 1) := by decide +kernel
theorem dX8_worthOf_16 : decode cX8_worthOf 16 = .ok (.sipush 200, 3) := by decide +kernel
theorem dX8_worthOf_19 : decode cX8_worthOf 19 = .ok (.aload_n 0, 1) := by decide +kernel
theorem dX8_worthOf_20 : decode cX8_worthOf 20 = .ok (.iload_n 1, 1) := by decide +kernel
theorem dX8_worthOf_21 : decode cX8_worthOf 21 = .ok (.iload_n 2, 1) := by decide +kernel
theorem dX8_worthOf_22 : decode cX8_worthOf 22 = .ok (.invokevirtual 197, 3) := by decide +kernel
theorem dX8_worthOf_25 : decode cX8_worthOf 25 = .ok (.isub, 1) := by decide +kernel
theorem dX8_worthOf_26 : decode cX8_worthOf 26 = .ok (.imul, 1) := by decide +kernel
theorem dX8_worthOf_27 : decode cX8_worthOf 27 = .ok (.ireturn, 1) := by decide +kernel
theorem dX8_worthInHand_0 : decode cX8_worthInHand 0 = .ok (.iconst 0, 1) := by decide +kernel
theorem dX8_worthInHand_1 : decode cX8_worthInHand 1 = .ok (.istore_n 1, 1) := by decide +kernel
theorem dX8_worthInHand_2 : decode cX8_worthInHand 2 = .ok (.iconst 0, 1) := by decide +kernel
theorem dX8_worthInHand_3 : decode cX8_worthInHand 3 = .ok (.istore_n 2, 1) := by decide +kernel
theorem dX8_worthInHand_4 : decode cX8_worthInHand 4 = .ok (.iload_n 2, 1) := by decide +kernel
theorem dX8_worthInHand_5 : decode cX8_worthInHand 5 = .ok (.aload_n 0, 1) := by decide +kernel
theorem dX8_worthInHand_6 : decode cX8_worthInHand 6 = .ok (.getfield 88, 3) := by decide +kernel
theorem dX8_worthInHand_9 : decode cX8_worthInHand 9 = .ok (.if_icmp .ge 23, 3) := by decide +kernel
theorem dX8_worthInHand_12 : decode cX8_worthInHand 12 = .ok (.iload_n 1, 1) := by decide +kernel
theorem dX8_worthInHand_13 : decode cX8_worthInHand 13 = .ok (.aload_n 0, 1) := by decide +kernel
theorem dX8_worthInHand_14 : decode cX8_worthInHand 14 = .ok (.iload_n 2, 1) := by decide +kernel
theorem dX8_worthInHand_15 : decode cX8_worthInHand 15 = .ok (.aload_n 0, 1) := by decide +kernel
theorem dX8_worthInHand_16 : decode cX8_worthInHand 16 = .ok (.getfield 28, 3) := by decide +kernel
theorem dX8_worthInHand_19 : decode cX8_worthInHand 19 = .ok (.iload_n 2, 1) := by decide +kernel
theorem dX8_worthInHand_20 : decode cX8_worthInHand 20 = .ok (.iaload, 1) := by decide +kernel
theorem dX8_worthInHand_21 : decode cX8_worthInHand 21 = .ok (.invokevirtual 221, 3) := by decide +kernel
theorem dX8_worthInHand_24 : decode cX8_worthInHand 24 = .ok (.iadd, 1) := by decide +kernel
theorem dX8_worthInHand_25 : decode cX8_worthInHand 25 = .ok (.istore_n 1, 1) := by decide +kernel
theorem dX8_worthInHand_26 : decode cX8_worthInHand 26 = .ok (.iinc 2 1, 3) := by decide +kernel
theorem dX8_worthInHand_29 : decode cX8_worthInHand 29 = .ok (.goto (-25), 3) := by decide +kernel
theorem dX8_worthInHand_32 : decode cX8_worthInHand 32 = .ok (.iload_n 1, 1) := by decide +kernel
theorem dX8_worthInHand_33 : decode cX8_worthInHand 33 = .ok (.ireturn, 1) := by decide +kernel
theorem dX8_worth_0 : decode cX8_worth 0 = .ok (.aload_n 0, 1) := by decide +kernel
theorem dX8_worth_1 : decode cX8_worth 1 = .ok (.iconst 0, 1) := by decide +kernel
theorem dX8_worth_2 : decode cX8_worth 2 = .ok (.putfield 78, 3) := by decide +kernel
theorem dX8_worth_5 : decode cX8_worth 5 = .ok (.aload_n 0, 1) := by decide +kernel
theorem dX8_worth_6 : decode cX8_worth 6 = .ok (.invokevirtual 224, 3) := by decide +kernel
theorem dX8_worth_9 : decode cX8_worth 9 = .ok (.ireturn, 1) := by decide +kernel
theorem dX8_fits_0 : decode cX8_fits 0 = .ok (.iconst 0, 1) := by decide +kernel
theorem dX8_fits_1 : decode cX8_fits 1 = .ok (.istore_n 3, 1) := by decide +kernel
theorem dX8_fits_2 : decode cX8_fits 2 = .ok (.iload_n 3, 1) := by decide +kernel
theorem dX8_fits_3 : decode cX8_fits 3 = .ok (.iload_n 1, 1) := by decide +kernel
theorem dX8_fits_4 : decode cX8_fits 4 = .ok (.if_icmp .ge 49, 3) := by decide +kernel
theorem dX8_fits_7 : decode cX8_fits 7 = .ok (.aload_n 0, 1) := by decide +kernel
theorem dX8_fits_8 : decode cX8_fits 8 = .ok (.getfield 57, 3) := by decide +kernel
theorem dX8_fits_11 : decode cX8_fits 11 = .ok (.iload_n 3, 1) := by decide +kernel
theorem dX8_fits_12 : decode cX8_fits 12 = .ok (.iaload, 1) := by decide +kernel
theorem dX8_fits_13 : decode cX8_fits 13 = .ok (.bipush 16, 2) := by decide +kernel
theorem dX8_fits_15 : decode cX8_fits 15 = .ok (.if_icmp .eq 32, 3) := by decide +kernel
theorem dX8_fits_18 : decode cX8_fits 18 = .ok (.aload_n 0, 1) := by decide +kernel
theorem dX8_fits_19 : decode cX8_fits 19 = .ok (.aload_n 0, 1) := by decide +kernel
theorem dX8_fits_20 : decode cX8_fits 20 = .ok (.getfield 54, 3) := by decide +kernel
theorem dX8_fits_23 : decode cX8_fits 23 = .ok (.iload_n 1, 1) := by decide +kernel
theorem dX8_fits_24 : decode cX8_fits 24 = .ok (.iaload, 1) := by decide +kernel
theorem dX8_fits_25 : decode cX8_fits 25 = .ok (.iload_n 2, 1) := by decide +kernel
theorem dX8_fits_26 : decode cX8_fits 26 = .ok (.aload_n 0, 1) := by decide +kernel
theorem dX8_fits_27 : decode cX8_fits 27 = .ok (.getfield 54, 3) := by decide +kernel
theorem dX8_fits_30 : decode cX8_fits 30 = .ok (.iload_n 3, 1) := by decide +kernel
theorem dX8_fits_31 : decode cX8_fits 31 = .ok (.iaload, 1) := by decide +kernel
theorem dX8_fits_32 : decode cX8_fits 32 = .ok (.aload_n 0, 1) := by decide +kernel
theorem dX8_fits_33 : decode cX8_fits 33 = .ok (.getfield 57, 3) := by decide +kernel
theorem dX8_fits_36 : decode cX8_fits 36 = .ok (.iload_n 3, 1) := by decide +kernel
theorem dX8_fits_37 : decode cX8_fits 37 = .ok (.iaload, 1) := by decide +kernel
theorem dX8_fits_38 : decode cX8_fits 38 = .ok (.iconst 0, 1) := by decide +kernel
theorem dX8_fits_39 : decode cX8_fits 39 = .ok (.invokevirtual 204, 3) := by decide +kernel
theorem dX8_fits_42 : decode cX8_fits 42 = .ok (.ifCond .eq 5, 3) := by decide +kernel
theorem dX8_fits_45 : decode cX8_fits 45 = .ok (.iconst 0, 1) := by decide +kernel
theorem dX8_fits_46 : decode cX8_fits 46 = .ok (.ireturn, 1) := by decide +kernel
theorem dX8_fits_47 : decode cX8_fits 47 = .ok (.iinc 3 1, 3) := by decide +kernel
theorem dX8_fits_50 : decode cX8_fits 50 = .ok (.goto (-48), 3) := by decide +kernel
theorem dX8_fits_53 : decode cX8_fits 53 = .ok (.iconst 1, 1) := by decide +kernel
theorem dX8_fits_54 : decode cX8_fits 54 = .ok (.ireturn, 1) := by decide +kernel
theorem dX8_tryFrom_0 : decode cX8_tryFrom 0 = .ok (.iload_n 1, 1) := by decide +kernel
theorem dX8_tryFrom_1 : decode cX8_tryFrom 1 = .ok (.aload_n 0, 1) := by decide +kernel
theorem dX8_tryFrom_2 : decode cX8_tryFrom 2 = .ok (.getfield 227, 3) := by decide +kernel
theorem dX8_tryFrom_5 : decode cX8_tryFrom 5 = .ok (.if_icmp .ne 45, 3) := by decide +kernel
theorem dX8_tryFrom_8 : decode cX8_tryFrom 8 = .ok (.iload_n 2, 1) := by decide +kernel
theorem dX8_tryFrom_9 : decode cX8_tryFrom 9 = .ok (.aload_n 0, 1) := by decide +kernel
theorem dX8_tryFrom_10 : decode cX8_tryFrom 10 = .ok (.getfield 230, 3) := by decide +kernel
theorem dX8_tryFrom_13 : decode cX8_tryFrom 13 = .ok (.if_icmp .le 36, 3) := by decide +kernel
theorem dX8_tryFrom_16 : decode cX8_tryFrom 16 = .ok (.aload_n 0, 1) := by decide +kernel
theorem dX8_tryFrom_17 : decode cX8_tryFrom 17 = .ok (.iload_n 2, 1) := by decide +kernel
theorem dX8_tryFrom_18 : decode cX8_tryFrom 18 = .ok (.putfield 230, 3) := by decide +kernel
theorem dX8_tryFrom_21 : decode cX8_tryFrom 21 = .ok (.iconst 0, 1) := by decide +kernel
theorem dX8_tryFrom_22 : decode cX8_tryFrom 22 = .ok (.istore_n 3, 1) := by decide +kernel
theorem dX8_tryFrom_23 : decode cX8_tryFrom 23 = .ok (.iload_n 3, 1) := by decide +kernel
theorem dX8_tryFrom_24 : decode cX8_tryFrom 24 = .ok (.aload_n 0, 1) := by decide +kernel
theorem dX8_tryFrom_25 : decode cX8_tryFrom 25 = .ok (.getfield 227, 3) := by decide +kernel
theorem dX8_tryFrom_28 : decode cX8_tryFrom 28 = .ok (.if_icmp .ge 21, 3) := by decide +kernel
theorem dX8_tryFrom_31 : decode cX8_tryFrom 31 = .ok (.aload_n 0, 1) := by decide +kernel
theorem dX8_tryFrom_32 : decode cX8_tryFrom 32 = .ok (.getfield 60, 3) := by decide +kernel
theorem dX8_tryFrom_35 : decode cX8_tryFrom 35 = .ok (.iload_n 3, 1) := by decide +kernel
theorem dX8_tryFrom_36 : decode cX8_tryFrom 36 = .ok (.aload_n 0, 1) := by decide +kernel
theorem dX8_tryFrom_37 : decode cX8_tryFrom 37 = .ok (.getfield 57, 3) := by decide +kernel
theorem dX8_tryFrom_40 : decode cX8_tryFrom 40 = .ok (.iload_n 3, 1) := by decide +kernel
theorem dX8_tryFrom_41 : decode cX8_tryFrom 41 = .ok (.iaload, 1) := by decide +kernel
theorem dX8_tryFrom_42 : decode cX8_tryFrom 42 = .ok (.iastore, 1) := by decide +kernel
theorem dX8_tryFrom_43 : decode cX8_tryFrom 43 = .ok (.iinc 3 1, 3) := by decide +kernel
theorem dX8_tryFrom_46 : decode cX8_tryFrom 46 = .ok (.goto (-23), 3) := by decide +kernel
theorem dX8_tryFrom_49 : decode cX8_tryFrom 49 = .ok (.return_, 1) := by decide +kernel
theorem dX8_tryFrom_50 : decode cX8_tryFrom 50 = .ok (.iload_n 2, 1) := by decide +kernel
theorem dX8_tryFrom_51 : decode cX8_tryFrom 51 = .ok (.aload_n 0, 1) := by decide +kernel
theorem dX8_tryFrom_52 : decode cX8_tryFrom 52 = .ok (.getfield 63, 3) := by decide +kernel
theorem dX8_tryFrom_55 : decode cX8_tryFrom 55 = .ok (.iload_n 1, 1) := by decide +kernel
theorem dX8_tryFrom_56 : decode cX8_tryFrom 56 = .ok (.iaload, 1) := by decide +kernel
theorem dX8_tryFrom_57 : decode cX8_tryFrom 57 = .ok (.iadd, 1) := by decide +kernel
theorem dX8_tryFrom_58 : decode cX8_tryFrom 58 = .ok (.aload_n 0, 1) := by decide +kernel
theorem dX8_tryFrom_59 : decode cX8_tryFrom 59 = .ok (.getfield 230, 3) := by decide +kernel
theorem dX8_tryFrom_62 : decode cX8_tryFrom 62 = .ok (.if_icmp .gt 4, 3) := by decide +kernel
theorem dX8_tryFrom_65 : decode cX8_tryFrom 65 = .ok (.return_, 1) := by decide +kernel
theorem dX8_tryFrom_66 : decode cX8_tryFrom 66 = .ok (.aload_n 0, 1) := by decide +kernel
theorem dX8_tryFrom_67 : decode cX8_tryFrom 67 = .ok (.getfield 54, 3) := by decide +kernel
theorem dX8_tryFrom_70 : decode cX8_tryFrom 70 = .ok (.iload_n 1, 1) := by decide +kernel
theorem dX8_tryFrom_71 : decode cX8_tryFrom 71 = .ok (.iaload, 1) := by decide +kernel
theorem dX8_tryFrom_72 : decode cX8_tryFrom 72 = .ok (.istore_n 3, 1) := by decide +kernel
theorem dX8_tryFrom_73 : decode cX8_tryFrom 73 = .ok (.iconst 0, 1) := by decide +kernel
theorem dX8_tryFrom_74 : decode cX8_tryFrom 74 = .ok (.istore 4, 2) := by decide +kernel
theorem dX8_tryFrom_76 : decode cX8_tryFrom 76 = .ok (.iload 4, 2) := by decide +kernel
theorem dX8_tryFrom_78 : decode cX8_tryFrom 78 = .ok (.bipush 16, 2) := by decide +kernel
theorem dX8_tryFrom_80 : decode cX8_tryFrom 80 = .ok (.if_icmp .ge 58, 3) := by decide +kernel
theorem dX8_tryFrom_83 : decode cX8_tryFrom 83 = .ok (.aload_n 0, 1) := by decide +kernel
theorem dX8_tryFrom_84 : decode cX8_tryFrom 84 = .ok (.getfield 50, 3) := by decide +kernel
theorem dX8_tryFrom_87 : decode cX8_tryFrom 87 = .ok (.bipush 16, 2) := by decide +kernel
theorem dX8_tryFrom_89 : decode cX8_tryFrom 89 = .ok (.iload_n 3, 1) := by decide +kernel
theorem dX8_tryFrom_90 : decode cX8_tryFrom 90 = .ok (.imul, 1) := by decide +kernel
theorem dX8_tryFrom_91 : decode cX8_tryFrom 91 = .ok (.iload 4, 2) := by decide +kernel
theorem dX8_tryFrom_93 : decode cX8_tryFrom 93 = .ok (.iadd, 1) := by decide +kernel
theorem dX8_tryFrom_94 : decode cX8_tryFrom 94 = .ok (.baload, 1) := by decide +kernel
theorem dX8_tryFrom_95 : decode cX8_tryFrom 95 = .ok (.ifCond .eq 37, 3) := by decide +kernel
theorem dX8_tryFrom_98 : decode cX8_tryFrom 98 = .ok (.aload_n 0, 1) := by decide +kernel
theorem dX8_tryFrom_99 : decode cX8_tryFrom 99 = .ok (.iload_n 1, 1) := by decide +kernel
theorem dX8_tryFrom_100 : decode cX8_tryFrom 100 = .ok (.iload 4, 2) := by decide +kernel
theorem dX8_tryFrom_102 : decode cX8_tryFrom 102 = .ok (.invokevirtual 233, 3) := by decide +kernel
theorem dX8_tryFrom_105 : decode cX8_tryFrom 105 = .ok (.ifCond .eq 27, 3) := by decide +kernel
theorem dX8_tryFrom_108 : decode cX8_tryFrom 108 = .ok (.aload_n 0, 1) := by decide +kernel
theorem dX8_tryFrom_109 : decode cX8_tryFrom 109 = .ok (.getfield 57, 3) := by decide +kernel
theorem dX8_tryFrom_112 : decode cX8_tryFrom 112 = .ok (.iload_n 1, 1) := by decide +kernel
theorem dX8_tryFrom_113 : decode cX8_tryFrom 113 = .ok (.iload 4, 2) := by decide +kernel
theorem dX8_tryFrom_115 : decode cX8_tryFrom 115 = .ok (.iastore, 1) := by decide +kernel
theorem dX8_tryFrom_116 : decode cX8_tryFrom 116 = .ok (.aload_n 0, 1) := by decide +kernel
theorem dX8_tryFrom_117 : decode cX8_tryFrom 117 = .ok (.iload_n 1, 1) := by decide +kernel
theorem dX8_tryFrom_118 : decode cX8_tryFrom 118 = .ok (.iconst 1, 1) := by decide +kernel
theorem dX8_tryFrom_119 : decode cX8_tryFrom 119 = .ok (.iadd, 1) := by decide +kernel
theorem dX8_tryFrom_120 : decode cX8_tryFrom 120 = .ok (.iload_n 2, 1) := by decide +kernel
theorem dX8_tryFrom_121 : decode cX8_tryFrom 121 = .ok (.aload_n 0, 1) := by decide +kernel
theorem dX8_tryFrom_122 : decode cX8_tryFrom 122 = .ok (.iload_n 3, 1) := by decide +kernel
theorem dX8_tryFrom_123 : decode cX8_tryFrom 123 = .ok (.iload 4, 2) := by decide +kernel
theorem dX8_tryFrom_125 : decode cX8_tryFrom 125 = .ok (.invokevirtual 221, 3) := by decide +kernel
theorem dX8_tryFrom_128 : decode cX8_tryFrom 128 = .ok (.iadd, 1) := by decide +kernel
theorem dX8_tryFrom_129 : decode cX8_tryFrom 129 = .ok (.invokevirtual 236, 3) := by decide +kernel
theorem dX8_tryFrom_132 : decode cX8_tryFrom 132 = .ok (.iinc 4 1, 3) := by decide +kernel
theorem dX8_tryFrom_135 : decode cX8_tryFrom 135 = .ok (.goto (-59), 3) := by decide +kernel
theorem dX8_tryFrom_138 : decode cX8_tryFrom 138 = .ok (.aload_n 0, 1) := by decide +kernel
theorem dX8_tryFrom_139 : decode cX8_tryFrom 139 = .ok (.getfield 7, 3) := by decide +kernel
theorem dX8_tryFrom_142 : decode cX8_tryFrom 142 = .ok (.iload_n 3, 1) := by decide +kernel
theorem dX8_tryFrom_143 : decode cX8_tryFrom 143 = .ok (.iaload, 1) := by decide +kernel
theorem dX8_tryFrom_144 : decode cX8_tryFrom 144 = .ok (.iconst 3, 1) := by decide +kernel
theorem dX8_tryFrom_145 : decode cX8_tryFrom 145 = .ok (.if_icmp .eq 19, 3) := by decide +kernel
theorem dX8_tryFrom_148 : decode cX8_tryFrom 148 = .ok (.aload_n 0, 1) := by decide +kernel
theorem dX8_tryFrom_149 : decode cX8_tryFrom 149 = .ok (.getfield 57, 3) := by decide +kernel
theorem dX8_tryFrom_152 : decode cX8_tryFrom 152 = .ok (.iload_n 1, 1) := by decide +kernel
theorem dX8_tryFrom_153 : decode cX8_tryFrom 153 = .ok (.bipush 16, 2) := by decide +kernel
theorem dX8_tryFrom_155 : decode cX8_tryFrom 155 = .ok (.iastore, 1) := by decide +kernel
theorem dX8_tryFrom_156 : decode cX8_tryFrom 156 = .ok (.aload_n 0, 1) := by decide +kernel
theorem dX8_tryFrom_157 : decode cX8_tryFrom 157 = .ok (.iload_n 1, 1) := by decide +kernel
theorem dX8_tryFrom_158 : decode cX8_tryFrom 158 = .ok (.iconst 1, 1) := by decide +kernel
theorem dX8_tryFrom_159 : decode cX8_tryFrom 159 = .ok (.iadd, 1) := by decide +kernel
theorem dX8_tryFrom_160 : decode cX8_tryFrom 160 = .ok (.iload_n 2, 1) := by decide +kernel
theorem dX8_tryFrom_161 : decode cX8_tryFrom 161 = .ok (.invokevirtual 236, 3) := by decide +kernel
theorem dX8_tryFrom_164 : decode cX8_tryFrom 164 = .ok (.return_, 1) := by decide +kernel
theorem dX8_bestOf_0 : decode cX8_bestOf 0 = .ok (.aload_n 0, 1) := by decide +kernel
theorem dX8_bestOf_1 : decode cX8_bestOf 1 = .ok (.iconst 0, 1) := by decide +kernel
theorem dX8_bestOf_2 : decode cX8_bestOf 2 = .ok (.putfield 227, 3) := by decide +kernel
theorem dX8_bestOf_5 : decode cX8_bestOf 5 = .ok (.iconst 0, 1) := by decide +kernel
theorem dX8_bestOf_6 : decode cX8_bestOf 6 = .ok (.istore_n 2, 1) := by decide +kernel
theorem dX8_bestOf_7 : decode cX8_bestOf 7 = .ok (.iload_n 2, 1) := by decide +kernel
theorem dX8_bestOf_8 : decode cX8_bestOf 8 = .ok (.aload_n 0, 1) := by decide +kernel
theorem dX8_bestOf_9 : decode cX8_bestOf 9 = .ok (.getfield 88, 3) := by decide +kernel
theorem dX8_bestOf_12 : decode cX8_bestOf 12 = .ok (.if_icmp .ge 39, 3) := by decide +kernel
theorem dX8_bestOf_15 : decode cX8_bestOf 15 = .ok (.aload_n 0, 1) := by decide +kernel
theorem dX8_bestOf_16 : decode cX8_bestOf 16 = .ok (.getfield 47, 3) := by decide +kernel
theorem dX8_bestOf_19 : decode cX8_bestOf 19 = .ok (.iload_n 2, 1) := by decide +kernel
theorem dX8_bestOf_20 : decode cX8_bestOf 20 = .ok (.iaload, 1) := by decide +kernel
theorem dX8_bestOf_21 : decode cX8_bestOf 21 = .ok (.iload_n 1, 1) := by decide +kernel
theorem dX8_bestOf_22 : decode cX8_bestOf 22 = .ok (.if_icmp .ne 23, 3) := by decide +kernel
theorem dX8_bestOf_25 : decode cX8_bestOf 25 = .ok (.aload_n 0, 1) := by decide +kernel
theorem dX8_bestOf_26 : decode cX8_bestOf 26 = .ok (.getfield 54, 3) := by decide +kernel
theorem dX8_bestOf_29 : decode cX8_bestOf 29 = .ok (.aload_n 0, 1) := by decide +kernel
theorem dX8_bestOf_30 : decode cX8_bestOf 30 = .ok (.getfield 227, 3) := by decide +kernel
theorem dX8_bestOf_33 : decode cX8_bestOf 33 = .ok (.iload_n 2, 1) := by decide +kernel
theorem dX8_bestOf_34 : decode cX8_bestOf 34 = .ok (.iastore, 1) := by decide +kernel
theorem dX8_bestOf_35 : decode cX8_bestOf 35 = .ok (.aload_n 0, 1) := by decide +kernel
theorem dX8_bestOf_36 : decode cX8_bestOf 36 = .ok (.dup, 1) := by decide +kernel
theorem dX8_bestOf_37 : decode cX8_bestOf 37 = .ok (.getfield 227, 3) := by decide +kernel
theorem dX8_bestOf_40 : decode cX8_bestOf 40 = .ok (.iconst 1, 1) := by decide +kernel
theorem dX8_bestOf_41 : decode cX8_bestOf 41 = .ok (.iadd, 1) := by decide +kernel
theorem dX8_bestOf_42 : decode cX8_bestOf 42 = .ok (.putfield 227, 3) := by decide +kernel
theorem dX8_bestOf_45 : decode cX8_bestOf 45 = .ok (.iinc 2 1, 3) := by decide +kernel
theorem dX8_bestOf_48 : decode cX8_bestOf 48 = .ok (.goto (-41), 3) := by decide +kernel
theorem dX8_bestOf_51 : decode cX8_bestOf 51 = .ok (.aload_n 0, 1) := by decide +kernel
theorem dX8_bestOf_52 : decode cX8_bestOf 52 = .ok (.getfield 63, 3) := by decide +kernel
theorem dX8_bestOf_55 : decode cX8_bestOf 55 = .ok (.aload_n 0, 1) := by decide +kernel
theorem dX8_bestOf_56 : decode cX8_bestOf 56 = .ok (.getfield 227, 3) := by decide +kernel
theorem dX8_bestOf_59 : decode cX8_bestOf 59 = .ok (.iconst 0, 1) := by decide +kernel
theorem dX8_bestOf_60 : decode cX8_bestOf 60 = .ok (.iastore, 1) := by decide +kernel
theorem dX8_bestOf_61 : decode cX8_bestOf 61 = .ok (.aload_n 0, 1) := by decide +kernel
theorem dX8_bestOf_62 : decode cX8_bestOf 62 = .ok (.getfield 227, 3) := by decide +kernel
theorem dX8_bestOf_65 : decode cX8_bestOf 65 = .ok (.iconst 1, 1) := by decide +kernel
theorem dX8_bestOf_66 : decode cX8_bestOf 66 = .ok (.isub, 1) := by decide +kernel
theorem dX8_bestOf_67 : decode cX8_bestOf 67 = .ok (.istore_n 2, 1) := by decide +kernel
theorem dX8_bestOf_68 : decode cX8_bestOf 68 = .ok (.iload_n 2, 1) := by decide +kernel
theorem dX8_bestOf_69 : decode cX8_bestOf 69 = .ok (.ifCond .lt 94, 3) := by decide +kernel
theorem dX8_bestOf_72 : decode cX8_bestOf 72 = .ok (.iconst 0, 1) := by decide +kernel
theorem dX8_bestOf_73 : decode cX8_bestOf 73 = .ok (.istore_n 3, 1) := by decide +kernel
theorem dX8_bestOf_74 : decode cX8_bestOf 74 = .ok (.iconst 0, 1) := by decide +kernel
theorem dX8_bestOf_75 : decode cX8_bestOf 75 = .ok (.istore 4, 2) := by decide +kernel
theorem dX8_bestOf_77 : decode cX8_bestOf 77 = .ok (.iload 4, 2) := by decide +kernel
theorem dX8_bestOf_79 : decode cX8_bestOf 79 = .ok (.bipush 16, 2) := by decide +kernel
theorem dX8_bestOf_81 : decode cX8_bestOf 81 = .ok (.if_icmp .ge 60, 3) := by decide +kernel
theorem dX8_bestOf_84 : decode cX8_bestOf 84 = .ok (.aload_n 0, 1) := by decide +kernel
theorem dX8_bestOf_85 : decode cX8_bestOf 85 = .ok (.getfield 50, 3) := by decide +kernel
theorem dX8_bestOf_88 : decode cX8_bestOf 88 = .ok (.bipush 16, 2) := by decide +kernel
theorem dX8_bestOf_90 : decode cX8_bestOf 90 = .ok (.aload_n 0, 1) := by decide +kernel
theorem dX8_bestOf_91 : decode cX8_bestOf 91 = .ok (.getfield 54, 3) := by decide +kernel
theorem dX8_bestOf_94 : decode cX8_bestOf 94 = .ok (.iload_n 2, 1) := by decide +kernel
theorem dX8_bestOf_95 : decode cX8_bestOf 95 = .ok (.iaload, 1) := by decide +kernel
theorem dX8_bestOf_96 : decode cX8_bestOf 96 = .ok (.imul, 1) := by decide +kernel
theorem dX8_bestOf_97 : decode cX8_bestOf 97 = .ok (.iload 4, 2) := by decide +kernel
theorem dX8_bestOf_99 : decode cX8_bestOf 99 = .ok (.iadd, 1) := by decide +kernel
theorem dX8_bestOf_100 : decode cX8_bestOf 100 = .ok (.baload, 1) := by decide +kernel
theorem dX8_bestOf_101 : decode cX8_bestOf 101 = .ok (.ifCond .eq 18, 3) := by decide +kernel
theorem dX8_bestOf_104 : decode cX8_bestOf 104 = .ok (.aload_n 0, 1) := by decide +kernel
theorem dX8_bestOf_105 : decode cX8_bestOf 105 = .ok (.aload_n 0, 1) := by decide +kernel
theorem dX8_bestOf_106 : decode cX8_bestOf 106 = .ok (.getfield 54, 3) := by decide +kernel
theorem dX8_bestOf_109 : decode cX8_bestOf 109 = .ok (.iload_n 2, 1) := by decide +kernel
theorem dX8_bestOf_110 : decode cX8_bestOf 110 = .ok (.iaload, 1) := by decide +kernel
theorem dX8_bestOf_111 : decode cX8_bestOf 111 = .ok (.iload 4, 2) := by decide +kernel
theorem dX8_bestOf_113 : decode cX8_bestOf 113 = .ok (.invokevirtual 221, 3) := by decide +kernel
theorem dX8_bestOf_116 : decode cX8_bestOf 116 = .ok (.goto 4, 3) := by decide +kernel
theorem dX8_bestOf_119 : decode cX8_bestOf 119 = .ok (.iconst 0, 1) := by decide +kernel
theorem dX8_bestOf_120 : decode cX8_bestOf 120 = .ok (.istore 5, 2) := by decide +kernel
theorem dX8_bestOf_122 : decode cX8_bestOf 122 = .ok (.iload 5, 2) := by decide +kernel
theorem dX8_bestOf_124 : decode cX8_bestOf 124 = .ok (.iload_n 3, 1) := by decide +kernel
theorem dX8_bestOf_125 : decode cX8_bestOf 125 = .ok (.if_icmp .le 8, 3) := by decide +kernel
theorem dX8_bestOf_128 : decode cX8_bestOf 128 = .ok (.iload 5, 2) := by decide +kernel
theorem dX8_bestOf_130 : decode cX8_bestOf 130 = .ok (.goto 4, 3) := by decide +kernel
theorem dX8_bestOf_133 : decode cX8_bestOf 133 = .ok (.iload_n 3, 1) := by decide +kernel
theorem dX8_bestOf_134 : decode cX8_bestOf 134 = .ok (.istore_n 3, 1) := by decide +kernel
theorem dX8_bestOf_135 : decode cX8_bestOf 135 = .ok (.iinc 4 1, 3) := by decide +kernel
theorem dX8_bestOf_138 : decode cX8_bestOf 138 = .ok (.goto (-61), 3) := by decide +kernel
theorem dX8_bestOf_141 : decode cX8_bestOf 141 = .ok (.aload_n 0, 1) := by decide +kernel
theorem dX8_bestOf_142 : decode cX8_bestOf 142 = .ok (.getfield 63, 3) := by decide +kernel
theorem dX8_bestOf_145 : decode cX8_bestOf 145 = .ok (.iload_n 2, 1) := by decide +kernel
theorem dX8_bestOf_146 : decode cX8_bestOf 146 = .ok (.aload_n 0, 1) := by decide +kernel
theorem dX8_bestOf_147 : decode cX8_bestOf 147 = .ok (.getfield 63, 3) := by decide +kernel
theorem dX8_bestOf_150 : decode cX8_bestOf 150 = .ok (.iload_n 2, 1) := by decide +kernel
theorem dX8_bestOf_151 : decode cX8_bestOf 151 = .ok (.iconst 1, 1) := by decide +kernel
theorem dX8_bestOf_152 : decode cX8_bestOf 152 = .ok (.iadd, 1) := by decide +kernel
theorem dX8_bestOf_153 : decode cX8_bestOf 153 = .ok (.iaload, 1) := by decide +kernel
theorem dX8_bestOf_154 : decode cX8_bestOf 154 = .ok (.iload_n 3, 1) := by decide +kernel
theorem dX8_bestOf_155 : decode cX8_bestOf 155 = .ok (.iadd, 1) := by decide +kernel
theorem dX8_bestOf_156 : decode cX8_bestOf 156 = .ok (.iastore, 1) := by decide +kernel
theorem dX8_bestOf_157 : decode cX8_bestOf 157 = .ok (.iinc 2 (-1), 3) := by decide +kernel
theorem dX8_bestOf_160 : decode cX8_bestOf 160 = .ok (.goto (-92), 3) := by decide +kernel
theorem dX8_bestOf_163 : decode cX8_bestOf 163 = .ok (.aload_n 0, 1) := by decide +kernel
theorem dX8_bestOf_164 : decode cX8_bestOf 164 = .ok (.iconst (-1), 1) := by decide +kernel
theorem dX8_bestOf_165 : decode cX8_bestOf 165 = .ok (.putfield 230, 3) := by decide +kernel
theorem dX8_bestOf_168 : decode cX8_bestOf 168 = .ok (.aload_n 0, 1) := by decide +kernel
theorem dX8_bestOf_169 : decode cX8_bestOf 169 = .ok (.iconst 0, 1) := by decide +kernel
theorem dX8_bestOf_170 : decode cX8_bestOf 170 = .ok (.iconst 0, 1) := by decide +kernel
theorem dX8_bestOf_171 : decode cX8_bestOf 171 = .ok (.invokevirtual 236, 3) := by decide +kernel
theorem dX8_bestOf_174 : decode cX8_bestOf 174 = .ok (.aload_n 0, 1) := by decide +kernel
theorem dX8_bestOf_175 : decode cX8_bestOf 175 = .ok (.getfield 230, 3) := by decide +kernel
theorem dX8_bestOf_178 : decode cX8_bestOf 178 = .ok (.ifCond .lt 7, 3) := by decide +kernel
theorem dX8_bestOf_181 : decode cX8_bestOf 181 = .ok (.iconst 1, 1) := by decide +kernel
theorem dX8_bestOf_182 : decode cX8_bestOf 182 = .ok (.goto 4, 3) := by decide +kernel
theorem dX8_bestOf_185 : decode cX8_bestOf 185 = .ok (.iconst 0, 1) := by decide +kernel
theorem dX8_bestOf_186 : decode cX8_bestOf 186 = .ok (.ireturn, 1) := by decide +kernel
theorem dX8_best_0 : decode cX8_best 0 = .ok (.aload_n 0, 1) := by decide +kernel
theorem dX8_best_1 : decode cX8_best 1 = .ok (.iconst 0, 1) := by decide +kernel
theorem dX8_best_2 : decode cX8_best 2 = .ok (.putfield 78, 3) := by decide +kernel
theorem dX8_best_5 : decode cX8_best 5 = .ok (.aload_n 0, 1) := by decide +kernel
theorem dX8_best_6 : decode cX8_best 6 = .ok (.invokevirtual 240, 3) := by decide +kernel
theorem dX8_best_9 : decode cX8_best 9 = .ok (.bipush 7, 2) := by decide +kernel
theorem dX8_best_11 : decode cX8_best 11 = .ok (.if_icmp .le 6, 3) := by decide +kernel
theorem dX8_best_14 : decode cX8_best 14 = .ok (.bipush (-6), 2) := by decide +kernel
theorem dX8_best_16 : decode cX8_best 16 = .ok (.ireturn, 1) := by decide +kernel
theorem dX8_best_17 : decode cX8_best 17 = .ok (.aload_n 0, 1) := by decide +kernel
theorem dX8_best_18 : decode cX8_best 18 = .ok (.invokevirtual 214, 3) := by decide +kernel
theorem dX8_best_21 : decode cX8_best 21 = .ok (.istore_n 1, 1) := by decide +kernel
theorem dX8_best_22 : decode cX8_best 22 = .ok (.iconst 0, 1) := by decide +kernel
theorem dX8_best_23 : decode cX8_best 23 = .ok (.istore_n 2, 1) := by decide +kernel
theorem dX8_best_24 : decode cX8_best 24 = .ok (.iload_n 2, 1) := by decide +kernel
theorem dX8_best_25 : decode cX8_best 25 = .ok (.iload_n 1, 1) := by decide +kernel
theorem dX8_best_26 : decode cX8_best 26 = .ok (.if_icmp .ge 53, 3) := by decide +kernel
theorem dX8_best_29 : decode cX8_best 29 = .ok (.aload_n 0, 1) := by decide +kernel
theorem dX8_best_30 : decode cX8_best 30 = .ok (.iload_n 2, 1) := by decide +kernel
theorem dX8_best_31 : decode cX8_best 31 = .ok (.invokevirtual 243, 3) := by decide +kernel
theorem dX8_best_34 : decode cX8_best 34 = .ok (.ifCond .ne 6, 3) := by decide +kernel
theorem dX8_best_37 : decode cX8_best 37 = .ok (.bipush (-4), 2) := by decide +kernel
theorem dX8_best_39 : decode cX8_best 39 = .ok (.ireturn, 1) := by decide +kernel
theorem dX8_best_40 : decode cX8_best 40 = .ok (.iconst 0, 1) := by decide +kernel
theorem dX8_best_41 : decode cX8_best 41 = .ok (.istore_n 3, 1) := by decide +kernel
theorem dX8_best_42 : decode cX8_best 42 = .ok (.iload_n 3, 1) := by decide +kernel
theorem dX8_best_43 : decode cX8_best 43 = .ok (.aload_n 0, 1) := by decide +kernel
theorem dX8_best_44 : decode cX8_best 44 = .ok (.getfield 227, 3) := by decide +kernel
theorem dX8_best_47 : decode cX8_best 47 = .ok (.if_icmp .ge 26, 3) := by decide +kernel
theorem dX8_best_50 : decode cX8_best 50 = .ok (.aload_n 0, 1) := by decide +kernel
theorem dX8_best_51 : decode cX8_best 51 = .ok (.getfield 66, 3) := by decide +kernel
theorem dX8_best_54 : decode cX8_best 54 = .ok (.aload_n 0, 1) := by decide +kernel
theorem dX8_best_55 : decode cX8_best 55 = .ok (.getfield 54, 3) := by decide +kernel
theorem dX8_best_58 : decode cX8_best 58 = .ok (.iload_n 3, 1) := by decide +kernel
theorem dX8_best_59 : decode cX8_best 59 = .ok (.iaload, 1) := by decide +kernel
theorem dX8_best_60 : decode cX8_best 60 = .ok (.aload_n 0, 1) := by decide +kernel
theorem dX8_best_61 : decode cX8_best 61 = .ok (.getfield 60, 3) := by decide +kernel
theorem dX8_best_64 : decode cX8_best 64 = .ok (.iload_n 3, 1) := by decide +kernel
theorem dX8_best_65 : decode cX8_best 65 = .ok (.iaload, 1) := by decide +kernel
theorem dX8_best_66 : decode cX8_best 66 = .ok (.iastore, 1) := by decide +kernel
theorem dX8_best_67 : decode cX8_best 67 = .ok (.iinc 3 1, 3) := by decide +kernel
theorem dX8_best_70 : decode cX8_best 70 = .ok (.goto (-28), 3) := by decide +kernel
theorem dX8_best_73 : decode cX8_best 73 = .ok (.iinc 2 1, 3) := by decide +kernel
theorem dX8_best_76 : decode cX8_best 76 = .ok (.goto (-52), 3) := by decide +kernel
theorem dX8_best_79 : decode cX8_best 79 = .ok (.aload_n 0, 1) := by decide +kernel
theorem dX8_best_80 : decode cX8_best 80 = .ok (.invokevirtual 112, 3) := by decide +kernel
theorem dX8_best_83 : decode cX8_best 83 = .ok (.iconst 0, 1) := by decide +kernel
theorem dX8_best_84 : decode cX8_best 84 = .ok (.istore_n 2, 1) := by decide +kernel
theorem dX8_best_85 : decode cX8_best 85 = .ok (.iload_n 2, 1) := by decide +kernel
theorem dX8_best_86 : decode cX8_best 86 = .ok (.aload_n 0, 1) := by decide +kernel
theorem dX8_best_87 : decode cX8_best 87 = .ok (.getfield 88, 3) := by decide +kernel
theorem dX8_best_90 : decode cX8_best 90 = .ok (.if_icmp .ge 21, 3) := by decide +kernel
theorem dX8_best_93 : decode cX8_best 93 = .ok (.aload_n 0, 1) := by decide +kernel
theorem dX8_best_94 : decode cX8_best 94 = .ok (.getfield 28, 3) := by decide +kernel
theorem dX8_best_97 : decode cX8_best 97 = .ok (.iload_n 2, 1) := by decide +kernel
theorem dX8_best_98 : decode cX8_best 98 = .ok (.aload_n 0, 1) := by decide +kernel
theorem dX8_best_99 : decode cX8_best 99 = .ok (.getfield 66, 3) := by decide +kernel
theorem dX8_best_102 : decode cX8_best 102 = .ok (.iload_n 2, 1) := by decide +kernel
theorem dX8_best_103 : decode cX8_best 103 = .ok (.iaload, 1) := by decide +kernel
theorem dX8_best_104 : decode cX8_best 104 = .ok (.iastore, 1) := by decide +kernel
theorem dX8_best_105 : decode cX8_best 105 = .ok (.iinc 2 1, 3) := by decide +kernel
theorem dX8_best_108 : decode cX8_best 108 = .ok (.goto (-23), 3) := by decide +kernel
theorem dX8_best_111 : decode cX8_best 111 = .ok (.aload_n 0, 1) := by decide +kernel
theorem dX8_best_112 : decode cX8_best 112 = .ok (.invokevirtual 224, 3) := by decide +kernel
theorem dX8_best_115 : decode cX8_best 115 = .ok (.ireturn, 1) := by decide +kernel
theorem dX8_isAhead_0 : decode cX8_isAhead 0 = .ok (.aload_n 0, 1) := by decide +kernel
theorem dX8_isAhead_1 : decode cX8_isAhead 1 = .ok (.getfield 7, 3) := by decide +kernel
theorem dX8_isAhead_4 : decode cX8_isAhead 4 = .ok (.iload_n 1, 1) := by decide +kernel
theorem dX8_isAhead_5 : decode cX8_isAhead 5 = .ok (.iaload, 1) := by decide +kernel
theorem dX8_isAhead_6 : decode cX8_isAhead 6 = .ok (.iconst 3, 1) := by decide +kernel
theorem dX8_isAhead_7 : decode cX8_isAhead 7 = .ok (.if_icmp .ne 7, 3) := by decide +kernel
theorem dX8_isAhead_10 : decode cX8_isAhead 10 = .ok (.iconst 1, 1) := by decide +kernel
theorem dX8_isAhead_11 : decode cX8_isAhead 11 = .ok (.goto 4, 3) := by decide +kernel
theorem dX8_isAhead_14 : decode cX8_isAhead 14 = .ok (.iconst 0, 1) := by decide +kernel
theorem dX8_isAhead_15 : decode cX8_isAhead 15 = .ok (.istore_n 3, 1) := by decide +kernel
theorem dX8_isAhead_16 : decode cX8_isAhead 16 = .ok (.iload_n 3, 1) := by decide +kernel
theorem dX8_isAhead_17 : decode cX8_isAhead 17 = .ok (.aload_n 0, 1) := by decide +kernel
theorem dX8_isAhead_18 : decode cX8_isAhead 18 = .ok (.getfield 7, 3) := by decide +kernel
theorem dX8_isAhead_21 : decode cX8_isAhead 21 = .ok (.iload_n 2, 1) := by decide +kernel
theorem dX8_isAhead_22 : decode cX8_isAhead 22 = .ok (.iaload, 1) := by decide +kernel
theorem dX8_isAhead_23 : decode cX8_isAhead 23 = .ok (.iconst 3, 1) := by decide +kernel
theorem dX8_isAhead_24 : decode cX8_isAhead 24 = .ok (.if_icmp .ne 7, 3) := by decide +kernel
theorem dX8_isAhead_27 : decode cX8_isAhead 27 = .ok (.iconst 1, 1) := by decide +kernel
theorem dX8_isAhead_28 : decode cX8_isAhead 28 = .ok (.goto 4, 3) := by decide +kernel
theorem dX8_isAhead_31 : decode cX8_isAhead 31 = .ok (.iconst 0, 1) := by decide +kernel
theorem dX8_isAhead_32 : decode cX8_isAhead 32 = .ok (.if_icmp .eq 5, 3) := by decide +kernel
theorem dX8_isAhead_35 : decode cX8_isAhead 35 = .ok (.iload_n 3, 1) := by decide +kernel
theorem dX8_isAhead_36 : decode cX8_isAhead 36 = .ok (.ireturn, 1) := by decide +kernel
theorem dX8_isAhead_37 : decode cX8_isAhead 37 = .ok (.aload_n 0, 1) := by decide +kernel
theorem dX8_isAhead_38 : decode cX8_isAhead 38 = .ok (.getfield 25, 3) := by decide +kernel
theorem dX8_isAhead_41 : decode cX8_isAhead 41 = .ok (.iload_n 1, 1) := by decide +kernel
theorem dX8_isAhead_42 : decode cX8_isAhead 42 = .ok (.iaload, 1) := by decide +kernel
theorem dX8_isAhead_43 : decode cX8_isAhead 43 = .ok (.aload_n 0, 1) := by decide +kernel
theorem dX8_isAhead_44 : decode cX8_isAhead 44 = .ok (.getfield 25, 3) := by decide +kernel
theorem dX8_isAhead_47 : decode cX8_isAhead 47 = .ok (.iload_n 2, 1) := by decide +kernel
theorem dX8_isAhead_48 : decode cX8_isAhead 48 = .ok (.iaload, 1) := by decide +kernel
theorem dX8_isAhead_49 : decode cX8_isAhead 49 = .ok (.if_icmp .eq 26, 3) := by decide +kernel
theorem dX8_isAhead_52 : decode cX8_isAhead 52 = .ok (.aload_n 0, 1) := by decide +kernel
theorem dX8_isAhead_53 : decode cX8_isAhead 53 = .ok (.getfield 25, 3) := by decide +kernel
theorem dX8_isAhead_56 : decode cX8_isAhead 56 = .ok (.iload_n 1, 1) := by decide +kernel
theorem dX8_isAhead_57 : decode cX8_isAhead 57 = .ok (.iaload, 1) := by decide +kernel
theorem dX8_isAhead_58 : decode cX8_isAhead 58 = .ok (.aload_n 0, 1) := by decide +kernel
theorem dX8_isAhead_59 : decode cX8_isAhead 59 = .ok (.getfield 25, 3) := by decide +kernel
theorem dX8_isAhead_62 : decode cX8_isAhead 62 = .ok (.iload_n 2, 1) := by decide +kernel
theorem dX8_isAhead_63 : decode cX8_isAhead 63 = .ok (.iaload, 1) := by decide +kernel
theorem dX8_isAhead_64 : decode cX8_isAhead 64 = .ok (.if_icmp .le 7, 3) := by decide +kernel
theorem dX8_isAhead_67 : decode cX8_isAhead 67 = .ok (.iconst 1, 1) := by decide +kernel
theorem dX8_isAhead_68 : decode cX8_isAhead 68 = .ok (.goto 17, 3) := by decide +kernel
theorem dX8_isAhead_71 : decode cX8_isAhead 71 = .ok (.iconst 0, 1) := by decide +kernel
theorem dX8_isAhead_72 : decode cX8_isAhead 72 = .ok (.goto 13, 3) := by decide +kernel
theorem dX8_isAhead_75 : decode cX8_isAhead 75 = .ok (.iload_n 1, 1) := by decide +kernel
theorem dX8_isAhead_76 : decode cX8_isAhead 76 = .ok (.iload_n 2, 1) := by decide +kernel
theorem dX8_isAhead_77 : decode cX8_isAhead 77 = .ok (.if_icmp .ge 7, 3) := by decide +kernel
theorem dX8_isAhead_80 : decode cX8_isAhead 80 = .ok (.iconst 1, 1) := by decide +kernel
theorem dX8_isAhead_81 : decode cX8_isAhead 81 = .ok (.goto 4, 3) := by decide +kernel
theorem dX8_isAhead_84 : decode cX8_isAhead 84 = .ok (.iconst 0, 1) := by decide +kernel
theorem dX8_isAhead_85 : decode cX8_isAhead 85 = .ok (.ireturn, 1) := by decide +kernel
theorem dX8_findOrder_0 : decode cX8_findOrder 0 = .ok (.iconst 0, 1) := by decide +kernel
theorem dX8_findOrder_1 : decode cX8_findOrder 1 = .ok (.istore_n 1, 1) := by decide +kernel
theorem dX8_findOrder_2 : decode cX8_findOrder 2 = .ok (.iload_n 1, 1) := by decide +kernel
theorem dX8_findOrder_3 : decode cX8_findOrder 3 = .ok (.aload_n 0, 1) := by decide +kernel
theorem dX8_findOrder_4 : decode cX8_findOrder 4 = .ok (.getfield 88, 3) := by decide +kernel
theorem dX8_findOrder_7 : decode cX8_findOrder 7 = .ok (.if_icmp .ge 58, 3) := by decide +kernel
theorem dX8_findOrder_10 : decode cX8_findOrder 10 = .ok (.iload_n 1, 1) := by decide +kernel
theorem dX8_findOrder_11 : decode cX8_findOrder 11 = .ok (.istore_n 2, 1) := by decide +kernel
theorem dX8_findOrder_12 : decode cX8_findOrder 12 = .ok (.iload_n 2, 1) := by decide +kernel
theorem dX8_findOrder_13 : decode cX8_findOrder 13 = .ok (.ifCond .le 39, 3) := by decide +kernel
theorem dX8_findOrder_16 : decode cX8_findOrder 16 = .ok (.aload_n 0, 1) := by decide +kernel
theorem dX8_findOrder_17 : decode cX8_findOrder 17 = .ok (.iload_n 1, 1) := by decide +kernel
theorem dX8_findOrder_18 : decode cX8_findOrder 18 = .ok (.aload_n 0, 1) := by decide +kernel
theorem dX8_findOrder_19 : decode cX8_findOrder 19 = .ok (.getfield 69, 3) := by decide +kernel
theorem dX8_findOrder_22 : decode cX8_findOrder 22 = .ok (.iload_n 2, 1) := by decide +kernel
theorem dX8_findOrder_23 : decode cX8_findOrder 23 = .ok (.iconst 1, 1) := by decide +kernel
theorem dX8_findOrder_24 : decode cX8_findOrder 24 = .ok (.isub, 1) := by decide +kernel
theorem dX8_findOrder_25 : decode cX8_findOrder 25 = .ok (.iaload, 1) := by decide +kernel
theorem dX8_findOrder_26 : decode cX8_findOrder 26 = .ok (.invokevirtual 246, 3) := by decide +kernel
theorem dX8_findOrder_29 : decode cX8_findOrder 29 = .ok (.ifCond .eq 23, 3) := by decide +kernel
theorem dX8_findOrder_32 : decode cX8_findOrder 32 = .ok (.aload_n 0, 1) := by decide +kernel
theorem dX8_findOrder_33 : decode cX8_findOrder 33 = .ok (.getfield 69, 3) := by decide +kernel
theorem dX8_findOrder_36 : decode cX8_findOrder 36 = .ok (.iload_n 2, 1) := by decide +kernel
theorem dX8_findOrder_37 : decode cX8_findOrder 37 = .ok (.aload_n 0, 1) := by decide +kernel
theorem dX8_findOrder_38 : decode cX8_findOrder 38 = .ok (.getfield 69, 3) := by decide +kernel
theorem dX8_findOrder_41 : decode cX8_findOrder 41 = .ok (.iload_n 2, 1) := by decide +kernel
theorem dX8_findOrder_42 : decode cX8_findOrder 42 = .ok (.iconst 1, 1) := by decide +kernel
theorem dX8_findOrder_43 : decode cX8_findOrder 43 = .ok (.isub, 1) := by decide +kernel
theorem dX8_findOrder_44 : decode cX8_findOrder 44 = .ok (.iaload, 1) := by decide +kernel
theorem dX8_findOrder_45 : decode cX8_findOrder 45 = .ok (.iastore, 1) := by decide +kernel
theorem dX8_findOrder_46 : decode cX8_findOrder 46 = .ok (.iinc 2 (-1), 3) := by decide +kernel
theorem dX8_findOrder_49 : decode cX8_findOrder 49 = .ok (.goto (-37), 3) := by decide +kernel
theorem dX8_findOrder_52 : decode cX8_findOrder 52 = .ok (.aload_n 0, 1) := by decide +kernel
theorem dX8_findOrder_53 : decode cX8_findOrder 53 = .ok (.getfield 69, 3) := by decide +kernel
theorem dX8_findOrder_56 : decode cX8_findOrder 56 = .ok (.iload_n 2, 1) := by decide +kernel
theorem dX8_findOrder_57 : decode cX8_findOrder 57 = .ok (.iload_n 1, 1) := by decide +kernel
theorem dX8_findOrder_58 : decode cX8_findOrder 58 = .ok (.iastore, 1) := by decide +kernel
theorem dX8_findOrder_59 : decode cX8_findOrder 59 = .ok (.iinc 1 1, 3) := by decide +kernel
theorem dX8_findOrder_62 : decode cX8_findOrder 62 = .ok (.goto (-60), 3) := by decide +kernel
theorem dX8_findOrder_65 : decode cX8_findOrder 65 = .ok (.return_, 1) := by decide +kernel
theorem dX8_quick_0 : decode cX8_quick 0 = .ok (.aload_n 0, 1) := by decide +kernel
theorem dX8_quick_1 : decode cX8_quick 1 = .ok (.iconst 0, 1) := by decide +kernel
theorem dX8_quick_2 : decode cX8_quick 2 = .ok (.putfield 78, 3) := by decide +kernel
theorem dX8_quick_5 : decode cX8_quick 5 = .ok (.aload_n 0, 1) := by decide +kernel
theorem dX8_quick_6 : decode cX8_quick 6 = .ok (.invokevirtual 112, 3) := by decide +kernel
theorem dX8_quick_9 : decode cX8_quick 9 = .ok (.aload_n 0, 1) := by decide +kernel
theorem dX8_quick_10 : decode cX8_quick 10 = .ok (.invokevirtual 249, 3) := by decide +kernel
theorem dX8_quick_13 : decode cX8_quick 13 = .ok (.iconst 0, 1) := by decide +kernel
theorem dX8_quick_14 : decode cX8_quick 14 = .ok (.istore_n 1, 1) := by decide +kernel
theorem dX8_quick_15 : decode cX8_quick 15 = .ok (.iconst 0, 1) := by decide +kernel
theorem dX8_quick_16 : decode cX8_quick 16 = .ok (.istore_n 2, 1) := by decide +kernel
theorem dX8_quick_17 : decode cX8_quick 17 = .ok (.iload_n 2, 1) := by decide +kernel
theorem dX8_quick_18 : decode cX8_quick 18 = .ok (.aload_n 0, 1) := by decide +kernel
theorem dX8_quick_19 : decode cX8_quick 19 = .ok (.getfield 88, 3) := by decide +kernel
theorem dX8_quick_22 : decode cX8_quick 22 = .ok (.if_icmp .ge 17, 3) := by decide +kernel
theorem dX8_quick_25 : decode cX8_quick 25 = .ok (.aload_n 0, 1) := by decide +kernel
theorem dX8_quick_26 : decode cX8_quick 26 = .ok (.getfield 28, 3) := by decide +kernel
theorem dX8_quick_29 : decode cX8_quick 29 = .ok (.iload_n 2, 1) := by decide +kernel
theorem dX8_quick_30 : decode cX8_quick 30 = .ok (.bipush 16, 2) := by decide +kernel
theorem dX8_quick_32 : decode cX8_quick 32 = .ok (.iastore, 1) := by decide +kernel
theorem dX8_quick_33 : decode cX8_quick 33 = .ok (.iinc 2 1, 3) := by decide +kernel
theorem dX8_quick_36 : decode cX8_quick 36 = .ok (.goto (-19), 3) := by decide +kernel
theorem dX8_quick_39 : decode cX8_quick 39 = .ok (.iconst 0, 1) := by decide +kernel
theorem dX8_quick_40 : decode cX8_quick 40 = .ok (.istore_n 2, 1) := by decide +kernel
theorem dX8_quick_41 : decode cX8_quick 41 = .ok (.iload_n 2, 1) := by decide +kernel
theorem dX8_quick_42 : decode cX8_quick 42 = .ok (.aload_n 0, 1) := by decide +kernel
theorem dX8_quick_43 : decode cX8_quick 43 = .ok (.getfield 88, 3) := by decide +kernel
theorem dX8_quick_46 : decode cX8_quick 46 = .ok (.if_icmp .ge 129, 3) := by decide +kernel
theorem dX8_quick_49 : decode cX8_quick 49 = .ok (.aload_n 0, 1) := by decide +kernel
theorem dX8_quick_50 : decode cX8_quick 50 = .ok (.getfield 69, 3) := by decide +kernel
theorem dX8_quick_53 : decode cX8_quick 53 = .ok (.iload_n 2, 1) := by decide +kernel
theorem dX8_quick_54 : decode cX8_quick 54 = .ok (.iaload, 1) := by decide +kernel
theorem dX8_quick_55 : decode cX8_quick 55 = .ok (.istore_n 3, 1) := by decide +kernel
theorem dX8_quick_56 : decode cX8_quick 56 = .ok (.bipush 16, 2) := by decide +kernel
theorem dX8_quick_58 : decode cX8_quick 58 = .ok (.istore 4, 2) := by decide +kernel
theorem dX8_quick_60 : decode cX8_quick 60 = .ok (.iconst 0, 1) := by decide +kernel
theorem dX8_quick_61 : decode cX8_quick 61 = .ok (.istore 5, 2) := by decide +kernel
theorem dX8_quick_63 : decode cX8_quick 63 = .ok (.iload 5, 2) := by decide +kernel
theorem dX8_quick_65 : decode cX8_quick 65 = .ok (.aload_n 0, 1) := by decide +kernel
theorem dX8_quick_66 : decode cX8_quick 66 = .ok (.iload_n 3, 1) := by decide +kernel
theorem dX8_quick_67 : decode cX8_quick 67 = .ok (.invokevirtual 190, 3) := by decide +kernel
theorem dX8_quick_70 : decode cX8_quick 70 = .ok (.if_icmp .ge 76, 3) := by decide +kernel
theorem dX8_quick_73 : decode cX8_quick 73 = .ok (.iload 4, 2) := by decide +kernel
theorem dX8_quick_75 : decode cX8_quick 75 = .ok (.bipush 16, 2) := by decide +kernel
theorem dX8_quick_77 : decode cX8_quick 77 = .ok (.if_icmp .eq 20, 3) := by decide +kernel
theorem dX8_quick_80 : decode cX8_quick 80 = .ok (.aload_n 0, 1) := by decide +kernel
theorem dX8_quick_81 : decode cX8_quick 81 = .ok (.iload_n 3, 1) := by decide +kernel
theorem dX8_quick_82 : decode cX8_quick 82 = .ok (.iload 5, 2) := by decide +kernel
theorem dX8_quick_84 : decode cX8_quick 84 = .ok (.invokevirtual 197, 3) := by decide +kernel
theorem dX8_quick_87 : decode cX8_quick 87 = .ok (.aload_n 0, 1) := by decide +kernel
theorem dX8_quick_88 : decode cX8_quick 88 = .ok (.iload_n 3, 1) := by decide +kernel
theorem dX8_quick_89 : decode cX8_quick 89 = .ok (.iload 4, 2) := by decide +kernel
theorem dX8_quick_91 : decode cX8_quick 91 = .ok (.invokevirtual 197, 3) := by decide +kernel
theorem dX8_quick_94 : decode cX8_quick 94 = .ok (.if_icmp .ge 7, 3) := by decide +kernel
theorem dX8_quick_97 : decode cX8_quick 97 = .ok (.iconst 1, 1) := by decide +kernel
theorem dX8_quick_98 : decode cX8_quick 98 = .ok (.goto 4, 3) := by decide +kernel
theorem dX8_quick_101 : decode cX8_quick 101 = .ok (.iconst 0, 1) := by decide +kernel
theorem dX8_quick_102 : decode cX8_quick 102 = .ok (.istore 6, 2) := by decide +kernel
theorem dX8_quick_104 : decode cX8_quick 104 = .ok (.iload 6, 2) := by decide +kernel
theorem dX8_quick_106 : decode cX8_quick 106 = .ok (.ifCond .eq 30, 3) := by decide +kernel
theorem dX8_quick_109 : decode cX8_quick 109 = .ok (.aload_n 0, 1) := by decide +kernel
theorem dX8_quick_110 : decode cX8_quick 110 = .ok (.iload_n 3, 1) := by decide +kernel
theorem dX8_quick_111 : decode cX8_quick 111 = .ok (.iload 5, 2) := by decide +kernel
theorem dX8_quick_113 : decode cX8_quick 113 = .ok (.iconst 0, 1) := by decide +kernel
theorem dX8_quick_114 : decode cX8_quick 114 = .ok (.invokevirtual 201, 3) := by decide +kernel
theorem dX8_quick_117 : decode cX8_quick 117 = .ok (.ifCond .eq 19, 3) := by decide +kernel
theorem dX8_quick_120 : decode cX8_quick 120 = .ok (.aload_n 0, 1) := by decide +kernel
theorem dX8_quick_121 : decode cX8_quick 121 = .ok (.iload_n 3, 1) := by decide +kernel
theorem dX8_quick_122 : decode cX8_quick 122 = .ok (.iload 5, 2) := by decide +kernel
theorem dX8_quick_124 : decode cX8_quick 124 = .ok (.invokevirtual 218, 3) := by decide +kernel
theorem dX8_quick_127 : decode cX8_quick 127 = .ok (.iconst (-1), 1) := by decide +kernel
theorem dX8_quick_128 : decode cX8_quick 128 = .ok (.if_icmp .ne 8, 3) := by decide +kernel
theorem dX8_quick_131 : decode cX8_quick 131 = .ok (.iload 5, 2) := by decide +kernel
theorem dX8_quick_133 : decode cX8_quick 133 = .ok (.goto 5, 3) := by decide +kernel
theorem dX8_quick_136 : decode cX8_quick 136 = .ok (.iload 4, 2) := by decide +kernel
theorem dX8_quick_138 : decode cX8_quick 138 = .ok (.istore 4, 2) := by decide +kernel
theorem dX8_quick_140 : decode cX8_quick 140 = .ok (.iinc 5 1, 3) := by decide +kernel
theorem dX8_quick_143 : decode cX8_quick 143 = .ok (.goto (-80), 3) := by decide +kernel
theorem dX8_quick_146 : decode cX8_quick 146 = .ok (.aload_n 0, 1) := by decide +kernel
theorem dX8_quick_147 : decode cX8_quick 147 = .ok (.getfield 28, 3) := by decide +kernel
theorem dX8_quick_150 : decode cX8_quick 150 = .ok (.iload_n 3, 1) := by decide +kernel
theorem dX8_quick_151 : decode cX8_quick 151 = .ok (.iload 4, 2) := by decide +kernel
theorem dX8_quick_153 : decode cX8_quick 153 = .ok (.iastore, 1) := by decide +kernel
theorem dX8_quick_154 : decode cX8_quick 154 = .ok (.iload_n 1, 1) := by decide +kernel
theorem dX8_quick_155 : decode cX8_quick 155 = .ok (.iload 4, 2) := by decide +kernel
theorem dX8_quick_157 : decode cX8_quick 157 = .ok (.bipush 16, 2) := by decide +kernel
theorem dX8_quick_159 : decode cX8_quick 159 = .ok (.if_icmp .ne 7, 3) := by decide +kernel
theorem dX8_quick_162 : decode cX8_quick 162 = .ok (.iconst 1, 1) := by decide +kernel
theorem dX8_quick_163 : decode cX8_quick 163 = .ok (.goto 4, 3) := by decide +kernel
theorem dX8_quick_166 : decode cX8_quick 166 = .ok (.iconst 0, 1) := by decide +kernel
theorem dX8_quick_167 : decode cX8_quick 167 = .ok (.iadd, 1) := by decide +kernel
theorem dX8_quick_168 : decode cX8_quick 168 = .ok (.istore_n 1, 1) := by decide +kernel
theorem dX8_quick_169 : decode cX8_quick 169 = .ok (.iinc 2 1, 3) := by decide +kernel
theorem dX8_quick_172 : decode cX8_quick 172 = .ok (.goto (-131), 3) := by decide +kernel
theorem dX8_quick_175 : decode cX8_quick 175 = .ok (.iload_n 1, 1) := by decide +kernel
theorem dX8_quick_176 : decode cX8_quick 176 = .ok (.ireturn, 1) := by decide +kernel
theorem dX8_why_0 : decode cX8_why 0 = .ok (.aload_n 0, 1) := by decide +kernel
theorem dX8_why_1 : decode cX8_why 1 = .ok (.iconst 0, 1) := by decide +kernel
theorem dX8_why_2 : decode cX8_why 2 = .ok (.putfield 78, 3) := by decide +kernel
theorem dX8_why_5 : decode cX8_why 5 = .ok (.aload_n 0, 1) := by decide +kernel
theorem dX8_why_6 : decode cX8_why 6 = .ok (.iload_n 1, 1) := by decide +kernel
theorem dX8_why_7 : decode cX8_why 7 = .ok (.iload_n 2, 1) := by decide +kernel
theorem dX8_why_8 : decode cX8_why 8 = .ok (.invokevirtual 194, 3) := by decide +kernel
theorem dX8_why_11 : decode cX8_why 11 = .ok (.ifCond .ne 6, 3) := by decide +kernel
theorem dX8_why_14 : decode cX8_why 14 = .ok (.bipush (-3), 2) := by decide +kernel
theorem dX8_why_16 : decode cX8_why 16 = .ok (.ireturn, 1) := by decide +kernel
theorem dX8_why_17 : decode cX8_why 17 = .ok (.aload_n 0, 1) := by decide +kernel
theorem dX8_why_18 : decode cX8_why 18 = .ok (.getfield 28, 3) := by decide +kernel
theorem dX8_why_21 : decode cX8_why 21 = .ok (.iload_n 1, 1) := by decide +kernel
theorem dX8_why_22 : decode cX8_why 22 = .ok (.iaload, 1) := by decide +kernel
theorem dX8_why_23 : decode cX8_why 23 = .ok (.bipush 16, 2) := by decide +kernel
theorem dX8_why_25 : decode cX8_why 25 = .ok (.if_icmp .eq 6, 3) := by decide +kernel
theorem dX8_why_28 : decode cX8_why 28 = .ok (.bipush (-4), 2) := by decide +kernel
theorem dX8_why_30 : decode cX8_why 30 = .ok (.ireturn, 1) := by decide +kernel
theorem dX8_why_31 : decode cX8_why 31 = .ok (.aload_n 0, 1) := by decide +kernel
theorem dX8_why_32 : decode cX8_why 32 = .ok (.iload_n 1, 1) := by decide +kernel
theorem dX8_why_33 : decode cX8_why 33 = .ok (.iload_n 2, 1) := by decide +kernel
theorem dX8_why_34 : decode cX8_why 34 = .ok (.invokevirtual 218, 3) := by decide +kernel
theorem dX8_why_37 : decode cX8_why 37 = .ok (.ireturn, 1) := by decide +kernel
theorem dX8_slack_0 : decode cX8_slack 0 = .ok (.aload_n 0, 1) := by decide +kernel
theorem dX8_slack_1 : decode cX8_slack 1 = .ok (.iconst 0, 1) := by decide +kernel
theorem dX8_slack_2 : decode cX8_slack 2 = .ok (.putfield 78, 3) := by decide +kernel
theorem dX8_slack_5 : decode cX8_slack 5 = .ok (.iconst 0, 1) := by decide +kernel
theorem dX8_slack_6 : decode cX8_slack 6 = .ok (.istore_n 1, 1) := by decide +kernel
theorem dX8_slack_7 : decode cX8_slack 7 = .ok (.iconst 0, 1) := by decide +kernel
theorem dX8_slack_8 : decode cX8_slack 8 = .ok (.istore_n 2, 1) := by decide +kernel
theorem dX8_slack_9 : decode cX8_slack 9 = .ok (.iload_n 2, 1) := by decide +kernel
theorem dX8_slack_10 : decode cX8_slack 10 = .ok (.aload_n 0, 1) := by decide +kernel
theorem dX8_slack_11 : decode cX8_slack 11 = .ok (.getfield 88, 3) := by decide +kernel
theorem dX8_slack_14 : decode cX8_slack 14 = .ok (.if_icmp .ge 106, 3) := by decide +kernel
theorem dX8_slack_17 : decode cX8_slack 17 = .ok (.iconst 0, 1) := by decide +kernel
theorem dX8_slack_18 : decode cX8_slack 18 = .ok (.istore_n 3, 1) := by decide +kernel
theorem dX8_slack_19 : decode cX8_slack 19 = .ok (.iconst 0, 1) := by decide +kernel
theorem dX8_slack_20 : decode cX8_slack 20 = .ok (.istore 4, 2) := by decide +kernel
theorem dX8_slack_22 : decode cX8_slack 22 = .ok (.iload 4, 2) := by decide +kernel
theorem dX8_slack_24 : decode cX8_slack 24 = .ok (.aload_n 0, 1) := by decide +kernel
theorem dX8_slack_25 : decode cX8_slack 25 = .ok (.iload_n 2, 1) := by decide +kernel
theorem dX8_slack_26 : decode cX8_slack 26 = .ok (.invokevirtual 190, 3) := by decide +kernel
theorem dX8_slack_29 : decode cX8_slack 29 = .ok (.if_icmp .ge 73, 3) := by decide +kernel
theorem dX8_slack_32 : decode cX8_slack 32 = .ok (.aload_n 0, 1) := by decide +kernel
theorem dX8_slack_33 : decode cX8_slack 33 = .ok (.getfield 28, 3) := by decide +kernel
theorem dX8_slack_36 : decode cX8_slack 36 = .ok (.iload_n 2, 1) := by decide +kernel
theorem dX8_slack_37 : decode cX8_slack 37 = .ok (.iaload, 1) := by decide +kernel
theorem dX8_slack_38 : decode cX8_slack 38 = .ok (.bipush 16, 2) := by decide +kernel
theorem dX8_slack_40 : decode cX8_slack 40 = .ok (.if_icmp .eq 62, 3) := by decide +kernel
theorem dX8_slack_43 : decode cX8_slack 43 = .ok (.iload_n 3, 1) := by decide +kernel
theorem dX8_slack_44 : decode cX8_slack 44 = .ok (.ifCond .ne 46, 3) := by decide +kernel
theorem dX8_slack_47 : decode cX8_slack 47 = .ok (.aload_n 0, 1) := by decide +kernel
theorem dX8_slack_48 : decode cX8_slack 48 = .ok (.iload_n 2, 1) := by decide +kernel
theorem dX8_slack_49 : decode cX8_slack 49 = .ok (.iload 4, 2) := by decide +kernel
theorem dX8_slack_51 : decode cX8_slack 51 = .ok (.invokevirtual 197, 3) := by decide +kernel
theorem dX8_slack_54 : decode cX8_slack 54 = .ok (.aload_n 0, 1) := by decide +kernel
theorem dX8_slack_55 : decode cX8_slack 55 = .ok (.iload_n 2, 1) := by decide +kernel
theorem dX8_slack_56 : decode cX8_slack 56 = .ok (.aload_n 0, 1) := by decide +kernel
theorem dX8_slack_57 : decode cX8_slack 57 = .ok (.getfield 28, 3) := by decide +kernel
theorem dX8_slack_60 : decode cX8_slack 60 = .ok (.iload_n 2, 1) := by decide +kernel
theorem dX8_slack_61 : decode cX8_slack 61 = .ok (.iaload, 1) := by decide +kernel
theorem dX8_slack_62 : decode cX8_slack 62 = .ok (.invokevirtual 197, 3) := by decide +kernel
theorem dX8_slack_65 : decode cX8_slack 65 = .ok (.if_icmp .ge 29, 3) := by decide +kernel
theorem dX8_slack_68 : decode cX8_slack 68 = .ok (.aload_n 0, 1) := by decide +kernel
theorem dX8_slack_69 : decode cX8_slack 69 = .ok (.iload_n 2, 1) := by decide +kernel
theorem dX8_slack_70 : decode cX8_slack 70 = .ok (.iload 4, 2) := by decide +kernel
theorem dX8_slack_72 : decode cX8_slack 72 = .ok (.iconst 0, 1) := by decide +kernel
theorem dX8_slack_73 : decode cX8_slack 73 = .ok (.invokevirtual 201, 3) := by decide +kernel
theorem dX8_slack_76 : decode cX8_slack 76 = .ok (.ifCond .eq 18, 3) := by decide +kernel
theorem dX8_slack_79 : decode cX8_slack 79 = .ok (.aload_n 0, 1) := by decide +kernel
theorem dX8_slack_80 : decode cX8_slack 80 = .ok (.iload_n 2, 1) := by decide +kernel
theorem dX8_slack_81 : decode cX8_slack 81 = .ok (.iload 4, 2) := by decide +kernel
theorem dX8_slack_83 : decode cX8_slack 83 = .ok (.invokevirtual 218, 3) := by decide +kernel
theorem dX8_slack_86 : decode cX8_slack 86 = .ok (.iconst (-1), 1) := by decide +kernel
theorem dX8_slack_87 : decode cX8_slack 87 = .ok (.if_icmp .ne 7, 3) := by decide +kernel
theorem dX8_slack_90 : decode cX8_slack 90 = .ok (.iconst 1, 1) := by decide +kernel
theorem dX8_slack_91 : decode cX8_slack 91 = .ok (.goto 4, 3) := by decide +kernel
theorem dX8_slack_94 : decode cX8_slack 94 = .ok (.iconst 0, 1) := by decide +kernel
theorem dX8_slack_95 : decode cX8_slack 95 = .ok (.istore_n 3, 1) := by decide +kernel
theorem dX8_slack_96 : decode cX8_slack 96 = .ok (.iinc 4 1, 3) := by decide +kernel
theorem dX8_slack_99 : decode cX8_slack 99 = .ok (.goto (-77), 3) := by decide +kernel
theorem dX8_slack_102 : decode cX8_slack 102 = .ok (.iload_n 1, 1) := by decide +kernel
theorem dX8_slack_103 : decode cX8_slack 103 = .ok (.iload_n 3, 1) := by decide +kernel
theorem dX8_slack_104 : decode cX8_slack 104 = .ok (.ifCond .eq 7, 3) := by decide +kernel
theorem dX8_slack_107 : decode cX8_slack 107 = .ok (.iconst 1, 1) := by decide +kernel
theorem dX8_slack_108 : decode cX8_slack 108 = .ok (.goto 4, 3) := by decide +kernel
theorem dX8_slack_111 : decode cX8_slack 111 = .ok (.iconst 0, 1) := by decide +kernel
theorem dX8_slack_112 : decode cX8_slack 112 = .ok (.iadd, 1) := by decide +kernel
theorem dX8_slack_113 : decode cX8_slack 113 = .ok (.istore_n 1, 1) := by decide +kernel
theorem dX8_slack_114 : decode cX8_slack 114 = .ok (.iinc 2 1, 3) := by decide +kernel
theorem dX8_slack_117 : decode cX8_slack 117 = .ok (.goto (-108), 3) := by decide +kernel
theorem dX8_slack_120 : decode cX8_slack 120 = .ok (.iload_n 1, 1) := by decide +kernel
theorem dX8_slack_121 : decode cX8_slack 121 = .ok (.ireturn, 1) := by decide +kernel
theorem dX8_isSteady_0 : decode cX8_isSteady 0 = .ok (.aload_n 0, 1) := by decide +kernel
theorem dX8_isSteady_1 : decode cX8_isSteady 1 = .ok (.getfield 69, 3) := by decide +kernel
theorem dX8_isSteady_4 : decode cX8_isSteady 4 = .ok (.iload_n 1, 1) := by decide +kernel
theorem dX8_isSteady_5 : decode cX8_isSteady 5 = .ok (.iaload, 1) := by decide +kernel
theorem dX8_isSteady_6 : decode cX8_isSteady 6 = .ok (.istore 4, 2) := by decide +kernel
theorem dX8_isSteady_8 : decode cX8_isSteady 8 = .ok (.iload_n 3, 1) := by decide +kernel
theorem dX8_isSteady_9 : decode cX8_isSteady 9 = .ok (.istore 5, 2) := by decide +kernel
theorem dX8_isSteady_11 : decode cX8_isSteady 11 = .ok (.iload 5, 2) := by decide +kernel
theorem dX8_isSteady_13 : decode cX8_isSteady 13 = .ok (.bipush 6, 2) := by decide +kernel
theorem dX8_isSteady_15 : decode cX8_isSteady 15 = .ok (.if_icmp .gt 82, 3) := by decide +kernel
theorem dX8_isSteady_18 : decode cX8_isSteady 18 = .ok (.aload_n 0, 1) := by decide +kernel
theorem dX8_isSteady_19 : decode cX8_isSteady 19 = .ok (.iload 4, 2) := by decide +kernel
theorem dX8_isSteady_21 : decode cX8_isSteady 21 = .ok (.iload_n 2, 1) := by decide +kernel
theorem dX8_isSteady_22 : decode cX8_isSteady 22 = .ok (.iload 5, 2) := by decide +kernel
theorem dX8_isSteady_24 : decode cX8_isSteady 24 = .ok (.invokevirtual 201, 3) := by decide +kernel
theorem dX8_isSteady_27 : decode cX8_isSteady 27 = .ok (.ifCond .ne 5, 3) := by decide +kernel
theorem dX8_isSteady_30 : decode cX8_isSteady 30 = .ok (.iconst 0, 1) := by decide +kernel
theorem dX8_isSteady_31 : decode cX8_isSteady 31 = .ok (.ireturn, 1) := by decide +kernel
theorem dX8_isSteady_32 : decode cX8_isSteady 32 = .ok (.iconst 0, 1) := by decide +kernel
theorem dX8_isSteady_33 : decode cX8_isSteady 33 = .ok (.istore 6, 2) := by decide +kernel
theorem dX8_isSteady_35 : decode cX8_isSteady 35 = .ok (.iload 6, 2) := by decide +kernel
theorem dX8_isSteady_37 : decode cX8_isSteady 37 = .ok (.iload_n 1, 1) := by decide +kernel
theorem dX8_isSteady_38 : decode cX8_isSteady 38 = .ok (.if_icmp .ge 53, 3) := by decide +kernel
theorem dX8_isSteady_41 : decode cX8_isSteady 41 = .ok (.aload_n 0, 1) := by decide +kernel
theorem dX8_isSteady_42 : decode cX8_isSteady 42 = .ok (.getfield 69, 3) := by decide +kernel
theorem dX8_isSteady_45 : decode cX8_isSteady 45 = .ok (.iload 6, 2) := by decide +kernel
theorem dX8_isSteady_47 : decode cX8_isSteady 47 = .ok (.iaload, 1) := by decide +kernel
theorem dX8_isSteady_48 : decode cX8_isSteady 48 = .ok (.istore 7, 2) := by decide +kernel
theorem dX8_isSteady_50 : decode cX8_isSteady 50 = .ok (.aload_n 0, 1) := by decide +kernel
theorem dX8_isSteady_51 : decode cX8_isSteady 51 = .ok (.getfield 72, 3) := by decide +kernel
theorem dX8_isSteady_54 : decode cX8_isSteady 54 = .ok (.iload 7, 2) := by decide +kernel
theorem dX8_isSteady_56 : decode cX8_isSteady 56 = .ok (.iaload, 1) := by decide +kernel
theorem dX8_isSteady_57 : decode cX8_isSteady 57 = .ok (.iload 5, 2) := by decide +kernel
theorem dX8_isSteady_59 : decode cX8_isSteady 59 = .ok (.if_icmp .gt 26, 3) := by decide +kernel
theorem dX8_isSteady_62 : decode cX8_isSteady 62 = .ok (.aload_n 0, 1) := by decide +kernel
theorem dX8_isSteady_63 : decode cX8_isSteady 63 = .ok (.iload 4, 2) := by decide +kernel
theorem dX8_isSteady_65 : decode cX8_isSteady 65 = .ok (.iload_n 2, 1) := by decide +kernel
theorem dX8_isSteady_66 : decode cX8_isSteady 66 = .ok (.iload 7, 2) := by decide +kernel
theorem dX8_isSteady_68 : decode cX8_isSteady 68 = .ok (.aload_n 0, 1) := by decide +kernel
theorem dX8_isSteady_69 : decode cX8_isSteady 69 = .ok (.getfield 75, 3) := by decide +kernel
theorem dX8_isSteady_72 : decode cX8_isSteady 72 = .ok (.iload 7, 2) := by decide +kernel
theorem dX8_isSteady_74 : decode cX8_isSteady 74 = .ok (.iaload, 1) := by decide +kernel
theorem dX8_isSteady_75 : decode cX8_isSteady 75 = .ok (.iload 5, 2) := by decide +kernel
theorem dX8_isSteady_77 : decode cX8_isSteady 77 = .ok (.invokevirtual 204, 3) := by decide +kernel
theorem dX8_isSteady_80 : decode cX8_isSteady 80 = .ok (.ifCond .eq 5, 3) := by decide +kernel
theorem dX8_isSteady_83 : decode cX8_isSteady 83 = .ok (.iconst 0, 1) := by decide +kernel
theorem dX8_isSteady_84 : decode cX8_isSteady 84 = .ok (.ireturn, 1) := by decide +kernel
theorem dX8_isSteady_85 : decode cX8_isSteady 85 = .ok (.iinc 6 1, 3) := by decide +kernel
theorem dX8_isSteady_88 : decode cX8_isSteady 88 = .ok (.goto (-53), 3) := by decide +kernel
theorem dX8_isSteady_91 : decode cX8_isSteady 91 = .ok (.iinc 5 1, 3) := by decide +kernel
theorem dX8_isSteady_94 : decode cX8_isSteady 94 = .ok (.goto (-83), 3) := by decide +kernel
theorem dX8_isSteady_97 : decode cX8_isSteady 97 = .ok (.iconst 1, 1) := by decide +kernel
theorem dX8_isSteady_98 : decode cX8_isSteady 98 = .ok (.ireturn, 1) := by decide +kernel
theorem dX8_findSteady_0 : decode cX8_findSteady 0 = .ok (.aload_n 0, 1) := by decide +kernel
theorem dX8_findSteady_1 : decode cX8_findSteady 1 = .ok (.invokevirtual 249, 3) := by decide +kernel
theorem dX8_findSteady_4 : decode cX8_findSteady 4 = .ok (.iconst 0, 1) := by decide +kernel
theorem dX8_findSteady_5 : decode cX8_findSteady 5 = .ok (.istore_n 1, 1) := by decide +kernel
theorem dX8_findSteady_6 : decode cX8_findSteady 6 = .ok (.iload_n 1, 1) := by decide +kernel
theorem dX8_findSteady_7 : decode cX8_findSteady 7 = .ok (.aload_n 0, 1) := by decide +kernel
theorem dX8_findSteady_8 : decode cX8_findSteady 8 = .ok (.getfield 88, 3) := by decide +kernel
theorem dX8_findSteady_11 : decode cX8_findSteady 11 = .ok (.if_icmp .ge 104, 3) := by decide +kernel
theorem dX8_findSteady_14 : decode cX8_findSteady 14 = .ok (.aload_n 0, 1) := by decide +kernel
theorem dX8_findSteady_15 : decode cX8_findSteady 15 = .ok (.getfield 69, 3) := by decide +kernel
theorem dX8_findSteady_18 : decode cX8_findSteady 18 = .ok (.iload_n 1, 1) := by decide +kernel
theorem dX8_findSteady_19 : decode cX8_findSteady 19 = .ok (.iaload, 1) := by decide +kernel
theorem dX8_findSteady_20 : decode cX8_findSteady 20 = .ok (.istore_n 2, 1) := by decide +kernel
theorem dX8_findSteady_21 : decode cX8_findSteady 21 = .ok (.bipush 7, 2) := by decide +kernel
theorem dX8_findSteady_23 : decode cX8_findSteady 23 = .ok (.istore_n 3, 1) := by decide +kernel
theorem dX8_findSteady_24 : decode cX8_findSteady 24 = .ok (.bipush 16, 2) := by decide +kernel
theorem dX8_findSteady_26 : decode cX8_findSteady 26 = .ok (.istore 4, 2) := by decide +kernel
theorem dX8_findSteady_28 : decode cX8_findSteady 28 = .ok (.iconst 0, 1) := by decide +kernel
theorem dX8_findSteady_29 : decode cX8_findSteady 29 = .ok (.istore 5, 2) := by decide +kernel
theorem dX8_findSteady_31 : decode cX8_findSteady 31 = .ok (.iload 5, 2) := by decide +kernel
theorem dX8_findSteady_33 : decode cX8_findSteady 33 = .ok (.bipush 6, 2) := by decide +kernel
theorem dX8_findSteady_35 : decode cX8_findSteady 35 = .ok (.if_icmp .gt 59, 3) := by decide +kernel
theorem dX8_findSteady_38 : decode cX8_findSteady 38 = .ok (.iload_n 3, 1) := by decide +kernel
theorem dX8_findSteady_39 : decode cX8_findSteady 39 = .ok (.bipush 7, 2) := by decide +kernel
theorem dX8_findSteady_41 : decode cX8_findSteady 41 = .ok (.if_icmp .ne 53, 3) := by decide +kernel
theorem dX8_findSteady_44 : decode cX8_findSteady 44 = .ok (.iconst 0, 1) := by decide +kernel
theorem dX8_findSteady_45 : decode cX8_findSteady 45 = .ok (.istore 6, 2) := by decide +kernel
theorem dX8_findSteady_47 : decode cX8_findSteady 47 = .ok (.iload 6, 2) := by decide +kernel
theorem dX8_findSteady_49 : decode cX8_findSteady 49 = .ok (.aload_n 0, 1) := by decide +kernel
theorem dX8_findSteady_50 : decode cX8_findSteady 50 = .ok (.iload_n 2, 1) := by decide +kernel
theorem dX8_findSteady_51 : decode cX8_findSteady 51 = .ok (.invokevirtual 190, 3) := by decide +kernel
theorem dX8_findSteady_54 : decode cX8_findSteady 54 = .ok (.if_icmp .ge 34, 3) := by decide +kernel
theorem dX8_findSteady_57 : decode cX8_findSteady 57 = .ok (.iload_n 3, 1) := by decide +kernel
theorem dX8_findSteady_58 : decode cX8_findSteady 58 = .ok (.bipush 7, 2) := by decide +kernel
theorem dX8_findSteady_60 : decode cX8_findSteady 60 = .ok (.if_icmp .ne 28, 3) := by decide +kernel
theorem dX8_findSteady_63 : decode cX8_findSteady 63 = .ok (.aload_n 0, 1) := by decide +kernel
theorem dX8_findSteady_64 : decode cX8_findSteady 64 = .ok (.iload_n 1, 1) := by decide +kernel
theorem dX8_findSteady_65 : decode cX8_findSteady 65 = .ok (.iload 6, 2) := by decide +kernel
theorem dX8_findSteady_67 : decode cX8_findSteady 67 = .ok (.iload 5, 2) := by decide +kernel
theorem dX8_findSteady_69 : decode cX8_findSteady 69 = .ok (.invokevirtual 252, 3) := by decide +kernel
theorem dX8_findSteady_72 : decode cX8_findSteady 72 = .ok (.ifCond .eq 10, 3) := by decide +kernel
theorem dX8_findSteady_75 : decode cX8_findSteady 75 = .ok (.iload 5, 2) := by decide +kernel
theorem dX8_findSteady_77 : decode cX8_findSteady 77 = .ok (.istore_n 3, 1) := by decide +kernel
theorem dX8_findSteady_78 : decode cX8_findSteady 78 = .ok (.iload 6, 2) := by decide +kernel
theorem dX8_findSteady_80 : decode cX8_findSteady 80 = .ok (.istore 4, 2) := by decide +kernel
theorem dX8_findSteady_82 : decode cX8_findSteady 82 = .ok (.iinc 6 1, 3) := by decide +kernel
theorem dX8_findSteady_85 : decode cX8_findSteady 85 = .ok (.goto (-38), 3) := by decide +kernel
theorem dX8_findSteady_88 : decode cX8_findSteady 88 = .ok (.iinc 5 1, 3) := by decide +kernel
theorem dX8_findSteady_91 : decode cX8_findSteady 91 = .ok (.goto (-60), 3) := by decide +kernel
theorem dX8_findSteady_94 : decode cX8_findSteady 94 = .ok (.aload_n 0, 1) := by decide +kernel
theorem dX8_findSteady_95 : decode cX8_findSteady 95 = .ok (.getfield 72, 3) := by decide +kernel
theorem dX8_findSteady_98 : decode cX8_findSteady 98 = .ok (.iload_n 2, 1) := by decide +kernel
theorem dX8_findSteady_99 : decode cX8_findSteady 99 = .ok (.iload_n 3, 1) := by decide +kernel
theorem dX8_findSteady_100 : decode cX8_findSteady 100 = .ok (.iastore, 1) := by decide +kernel
theorem dX8_findSteady_101 : decode cX8_findSteady 101 = .ok (.aload_n 0, 1) := by decide +kernel
theorem dX8_findSteady_102 : decode cX8_findSteady 102 = .ok (.getfield 75, 3) := by decide +kernel
theorem dX8_findSteady_105 : decode cX8_findSteady 105 = .ok (.iload_n 2, 1) := by decide +kernel
theorem dX8_findSteady_106 : decode cX8_findSteady 106 = .ok (.iload 4, 2) := by decide +kernel
theorem dX8_findSteady_108 : decode cX8_findSteady 108 = .ok (.iastore, 1) := by decide +kernel
theorem dX8_findSteady_109 : decode cX8_findSteady 109 = .ok (.iinc 1 1, 3) := by decide +kernel
theorem dX8_findSteady_112 : decode cX8_findSteady 112 = .ok (.goto (-106), 3) := by decide +kernel
theorem dX8_findSteady_115 : decode cX8_findSteady 115 = .ok (.return_, 1) := by decide +kernel
theorem dX8_steady_0 : decode cX8_steady 0 = .ok (.aload_n 0, 1) := by decide +kernel
theorem dX8_steady_1 : decode cX8_steady 1 = .ok (.iconst 0, 1) := by decide +kernel
theorem dX8_steady_2 : decode cX8_steady 2 = .ok (.putfield 78, 3) := by decide +kernel
theorem dX8_steady_5 : decode cX8_steady 5 = .ok (.aload_n 0, 1) := by decide +kernel
theorem dX8_steady_6 : decode cX8_steady 6 = .ok (.iload_n 1, 1) := by decide +kernel
theorem dX8_steady_7 : decode cX8_steady 7 = .ok (.invokevirtual 115, 3) := by decide +kernel
theorem dX8_steady_10 : decode cX8_steady 10 = .ok (.ifCond .eq 12, 3) := by decide +kernel
theorem dX8_steady_13 : decode cX8_steady 13 = .ok (.iload_n 2, 1) := by decide +kernel
theorem dX8_steady_14 : decode cX8_steady 14 = .ok (.iconst 0, 1) := by decide +kernel
theorem dX8_steady_15 : decode cX8_steady 15 = .ok (.iconst 1, 1) := by decide +kernel
theorem dX8_steady_16 : decode cX8_steady 16 = .ok (.invokestatic 104, 3) := by decide +kernel
theorem dX8_steady_19 : decode cX8_steady 19 = .ok (.ifCond .ne 6, 3) := by decide +kernel
theorem dX8_steady_22 : decode cX8_steady 22 = .ok (.bipush (-3), 2) := by decide +kernel
theorem dX8_steady_24 : decode cX8_steady 24 = .ok (.ireturn, 1) := by decide +kernel
theorem dX8_steady_25 : decode cX8_steady 25 = .ok (.aload_n 0, 1) := by decide +kernel
theorem dX8_steady_26 : decode cX8_steady 26 = .ok (.invokevirtual 255, 3) := by decide +kernel
theorem dX8_steady_29 : decode cX8_steady 29 = .ok (.aload_n 0, 1) := by decide +kernel
theorem dX8_steady_30 : decode cX8_steady 30 = .ok (.getfield 72, 3) := by decide +kernel
theorem dX8_steady_33 : decode cX8_steady 33 = .ok (.iload_n 1, 1) := by decide +kernel
theorem dX8_steady_34 : decode cX8_steady 34 = .ok (.iaload, 1) := by decide +kernel
theorem dX8_steady_35 : decode cX8_steady 35 = .ok (.bipush 7, 2) := by decide +kernel
theorem dX8_steady_37 : decode cX8_steady 37 = .ok (.if_icmp .ne 7, 3) := by decide +kernel
theorem dX8_steady_40 : decode cX8_steady 40 = .ok (.iconst (-1), 1) := by decide +kernel
theorem dX8_steady_41 : decode cX8_steady 41 = .ok (.goto 22, 3) := by decide +kernel
theorem dX8_steady_44 : decode cX8_steady 44 = .ok (.iload_n 2, 1) := by decide +kernel
theorem dX8_steady_45 : decode cX8_steady 45 = .ok (.ifCond .ne 12, 3) := by decide +kernel
theorem dX8_steady_48 : decode cX8_steady 48 = .ok (.aload_n 0, 1) := by decide +kernel
theorem dX8_steady_49 : decode cX8_steady 49 = .ok (.getfield 72, 3) := by decide +kernel
theorem dX8_steady_52 : decode cX8_steady 52 = .ok (.iload_n 1, 1) := by decide +kernel
theorem dX8_steady_53 : decode cX8_steady 53 = .ok (.iaload, 1) := by decide +kernel
theorem dX8_steady_54 : decode cX8_steady 54 = .ok (.goto 9, 3) := by decide +kernel
theorem dX8_steady_57 : decode cX8_steady 57 = .ok (.aload_n 0, 1) := by decide +kernel
theorem dX8_steady_58 : decode cX8_steady 58 = .ok (.getfield 75, 3) := by decide +kernel
theorem dX8_steady_61 : decode cX8_steady 61 = .ok (.iload_n 1, 1) := by decide +kernel
theorem dX8_steady_62 : decode cX8_steady 62 = .ok (.iaload, 1) := by decide +kernel
theorem dX8_steady_63 : decode cX8_steady 63 = .ok (.ireturn, 1) := by decide +kernel
theorem dX8_there_0 : decode cX8_there 0 = .ok (.aload_n 0, 1) := by decide +kernel
theorem dX8_there_1 : decode cX8_there 1 = .ok (.iconst 0, 1) := by decide +kernel
theorem dX8_there_2 : decode cX8_there 2 = .ok (.putfield 78, 3) := by decide +kernel
theorem dX8_there_5 : decode cX8_there 5 = .ok (.iload_n 1, 1) := by decide +kernel
theorem dX8_there_6 : decode cX8_there 6 = .ok (.iconst 0, 1) := by decide +kernel
theorem dX8_there_7 : decode cX8_there 7 = .ok (.bipush 6, 2) := by decide +kernel
theorem dX8_there_9 : decode cX8_there 9 = .ok (.invokestatic 104, 3) := by decide +kernel
theorem dX8_there_12 : decode cX8_there 12 = .ok (.ifCond .ne 6, 3) := by decide +kernel
theorem dX8_there_15 : decode cX8_there 15 = .ok (.bipush (-3), 2) := by decide +kernel
theorem dX8_there_17 : decode cX8_there 17 = .ok (.ireturn, 1) := by decide +kernel
theorem dX8_there_18 : decode cX8_there 18 = .ok (.aload_n 0, 1) := by decide +kernel
theorem dX8_there_19 : decode cX8_there 19 = .ok (.invokevirtual 255, 3) := by decide +kernel
theorem dX8_there_22 : decode cX8_there 22 = .ok (.iconst 0, 1) := by decide +kernel
theorem dX8_there_23 : decode cX8_there 23 = .ok (.istore_n 2, 1) := by decide +kernel
theorem dX8_there_24 : decode cX8_there 24 = .ok (.iconst 0, 1) := by decide +kernel
theorem dX8_there_25 : decode cX8_there 25 = .ok (.istore_n 3, 1) := by decide +kernel
theorem dX8_there_26 : decode cX8_there 26 = .ok (.iload_n 3, 1) := by decide +kernel
theorem dX8_there_27 : decode cX8_there 27 = .ok (.aload_n 0, 1) := by decide +kernel
theorem dX8_there_28 : decode cX8_there 28 = .ok (.getfield 88, 3) := by decide +kernel
theorem dX8_there_31 : decode cX8_there 31 = .ok (.if_icmp .ge 27, 3) := by decide +kernel
theorem dX8_there_34 : decode cX8_there 34 = .ok (.iload_n 2, 1) := by decide +kernel
theorem dX8_there_35 : decode cX8_there 35 = .ok (.aload_n 0, 1) := by decide +kernel
theorem dX8_there_36 : decode cX8_there 36 = .ok (.getfield 72, 3) := by decide +kernel
theorem dX8_there_39 : decode cX8_there 39 = .ok (.iload_n 3, 1) := by decide +kernel
theorem dX8_there_40 : decode cX8_there 40 = .ok (.iaload, 1) := by decide +kernel
theorem dX8_there_41 : decode cX8_there 41 = .ok (.iload_n 1, 1) := by decide +kernel
theorem dX8_there_42 : decode cX8_there 42 = .ok (.if_icmp .gt 7, 3) := by decide +kernel
theorem dX8_there_45 : decode cX8_there 45 = .ok (.iconst 1, 1) := by decide +kernel
theorem dX8_there_46 : decode cX8_there 46 = .ok (.goto 4, 3) := by decide +kernel
theorem dX8_there_49 : decode cX8_there 49 = .ok (.iconst 0, 1) := by decide +kernel
theorem dX8_there_50 : decode cX8_there 50 = .ok (.iadd, 1) := by decide +kernel
theorem dX8_there_51 : decode cX8_there 51 = .ok (.istore_n 2, 1) := by decide +kernel
theorem dX8_there_52 : decode cX8_there 52 = .ok (.iinc 3 1, 3) := by decide +kernel
theorem dX8_there_55 : decode cX8_there 55 = .ok (.goto (-29), 3) := by decide +kernel
theorem dX8_there_58 : decode cX8_there 58 = .ok (.iload_n 2, 1) := by decide +kernel
theorem dX8_there_59 : decode cX8_there 59 = .ok (.ireturn, 1) := by decide +kernel
theorem dX8_at_0 : decode cX8_at 0 = .ok (.aload_n 0, 1) := by decide +kernel
theorem dX8_at_1 : decode cX8_at 1 = .ok (.iconst 0, 1) := by decide +kernel
theorem dX8_at_2 : decode cX8_at 2 = .ok (.putfield 78, 3) := by decide +kernel
theorem dX8_at_5 : decode cX8_at 5 = .ok (.iload_n 1, 1) := by decide +kernel
theorem dX8_at_6 : decode cX8_at 6 = .ok (.iload_n 2, 1) := by decide +kernel
theorem dX8_at_7 : decode cX8_at 7 = .ok (.invokestatic 108, 3) := by decide +kernel
theorem dX8_at_10 : decode cX8_at 10 = .ok (.ifCond .ne 6, 3) := by decide +kernel
theorem dX8_at_13 : decode cX8_at 13 = .ok (.bipush (-3), 2) := by decide +kernel
theorem dX8_at_15 : decode cX8_at 15 = .ok (.ireturn, 1) := by decide +kernel
theorem dX8_at_16 : decode cX8_at 16 = .ok (.iconst 0, 1) := by decide +kernel
theorem dX8_at_17 : decode cX8_at 17 = .ok (.istore_n 3, 1) := by decide +kernel
theorem dX8_at_18 : decode cX8_at 18 = .ok (.iload_n 3, 1) := by decide +kernel
theorem dX8_at_19 : decode cX8_at 19 = .ok (.aload_n 0, 1) := by decide +kernel
theorem dX8_at_20 : decode cX8_at 20 = .ok (.getfield 88, 3) := by decide +kernel
theorem dX8_at_23 : decode cX8_at 23 = .ok (.if_icmp .ge 43, 3) := by decide +kernel
theorem dX8_at_26 : decode cX8_at 26 = .ok (.aload_n 0, 1) := by decide +kernel
theorem dX8_at_27 : decode cX8_at 27 = .ok (.getfield 28, 3) := by decide +kernel
theorem dX8_at_30 : decode cX8_at 30 = .ok (.iload_n 3, 1) := by decide +kernel
theorem dX8_at_31 : decode cX8_at 31 = .ok (.iaload, 1) := by decide +kernel
theorem dX8_at_32 : decode cX8_at 32 = .ok (.bipush 16, 2) := by decide +kernel
theorem dX8_at_34 : decode cX8_at 34 = .ok (.if_icmp .eq 26, 3) := by decide +kernel
theorem dX8_at_37 : decode cX8_at 37 = .ok (.aload_n 0, 1) := by decide +kernel
theorem dX8_at_38 : decode cX8_at 38 = .ok (.iload_n 3, 1) := by decide +kernel
theorem dX8_at_39 : decode cX8_at 39 = .ok (.aload_n 0, 1) := by decide +kernel
theorem dX8_at_40 : decode cX8_at 40 = .ok (.getfield 28, 3) := by decide +kernel
theorem dX8_at_43 : decode cX8_at 43 = .ok (.iload_n 3, 1) := by decide +kernel
theorem dX8_at_44 : decode cX8_at 44 = .ok (.iaload, 1) := by decide +kernel
theorem dX8_at_45 : decode cX8_at 45 = .ok (.iconst 0, 1) := by decide +kernel
theorem dX8_at_46 : decode cX8_at 46 = .ok (.invokevirtual 134, 3) := by decide +kernel
theorem dX8_at_49 : decode cX8_at 49 = .ok (.aload_n 0, 1) := by decide +kernel
theorem dX8_at_50 : decode cX8_at 50 = .ok (.iload_n 1, 1) := by decide +kernel
theorem dX8_at_51 : decode cX8_at 51 = .ok (.iload_n 2, 1) := by decide +kernel
theorem dX8_at_52 : decode cX8_at 52 = .ok (.invokevirtual 138, 3) := by decide +kernel
theorem dX8_at_55 : decode cX8_at 55 = .ok (.ifCond .eq 5, 3) := by decide +kernel
theorem dX8_at_58 : decode cX8_at 58 = .ok (.iload_n 3, 1) := by decide +kernel
theorem dX8_at_59 : decode cX8_at 59 = .ok (.ireturn, 1) := by decide +kernel
theorem dX8_at_60 : decode cX8_at 60 = .ok (.iinc 3 1, 3) := by decide +kernel
theorem dX8_at_63 : decode cX8_at 63 = .ok (.goto (-45), 3) := by decide +kernel
theorem dX8_at_66 : decode cX8_at 66 = .ok (.iconst (-1), 1) := by decide +kernel
theorem dX8_at_67 : decode cX8_at 67 = .ok (.ireturn, 1) := by decide +kernel
theorem dX8_find_0 : decode cX8_find 0 = .ok (.aload_n 0, 1) := by decide +kernel
theorem dX8_find_1 : decode cX8_find 1 = .ok (.iconst 0, 1) := by decide +kernel
theorem dX8_find_2 : decode cX8_find 2 = .ok (.putfield 78, 3) := by decide +kernel
theorem dX8_find_5 : decode cX8_find 5 = .ok (.iload_n 1, 1) := by decide +kernel
theorem dX8_find_6 : decode cX8_find 6 = .ok (.iload_n 2, 1) := by decide +kernel
theorem dX8_find_7 : decode cX8_find 7 = .ok (.invokestatic 108, 3) := by decide +kernel
theorem dX8_find_10 : decode cX8_find 10 = .ok (.ifCond .eq 31, 3) := by decide +kernel
theorem dX8_find_13 : decode cX8_find 13 = .ok (.iload_n 3, 1) := by decide +kernel
theorem dX8_find_14 : decode cX8_find 14 = .ok (.iconst 1, 1) := by decide +kernel
theorem dX8_find_15 : decode cX8_find 15 = .ok (.sipush 1000, 3) := by decide +kernel
theorem dX8_find_18 : decode cX8_find 18 = .ok (.invokestatic 104, 3) := by decide +kernel
theorem dX8_find_21 : decode cX8_find 21 = .ok (.ifCond .eq 20, 3) := by decide +kernel
theorem dX8_find_24 : decode cX8_find 24 = .ok (.iload 4, 2) := by decide +kernel
theorem dX8_find_26 : decode cX8_find 26 = .ok (.iconst 1, 1) := by decide +kernel
theorem dX8_find_27 : decode cX8_find 27 = .ok (.sipush 1000, 3) := by decide +kernel
theorem dX8_find_30 : decode cX8_find 30 = .ok (.invokestatic 104, 3) := by decide +kernel
theorem dX8_find_33 : decode cX8_find 33 = .ok (.ifCond .eq 8, 3) := by decide +kernel
theorem dX8_find_36 : decode cX8_find 36 = .ok (.iload 5, 2) := by decide +kernel
theorem dX8_find_38 : decode cX8_find 38 = .ok (.ifCond .ge 6, 3) := by decide +kernel
theorem dX8_find_41 : decode cX8_find 41 = .ok (.bipush (-3), 2) := by decide +kernel
theorem dX8_find_43 : decode cX8_find 43 = .ok (.ireturn, 1) := by decide +kernel
theorem dX8_find_44 : decode cX8_find 44 = .ok (.iload 5, 2) := by decide +kernel
theorem dX8_find_46 : decode cX8_find 46 = .ok (.istore 6, 2) := by decide +kernel
theorem dX8_find_48 : decode cX8_find 48 = .ok (.iconst 0, 1) := by decide +kernel
theorem dX8_find_49 : decode cX8_find 49 = .ok (.istore 7, 2) := by decide +kernel
theorem dX8_find_51 : decode cX8_find 51 = .ok (.iload 7, 2) := by decide +kernel
theorem dX8_find_53 : decode cX8_find 53 = .ok (.aload_n 0, 1) := by decide +kernel
theorem dX8_find_54 : decode cX8_find 54 = .ok (.getfield 88, 3) := by decide +kernel
theorem dX8_find_57 : decode cX8_find 57 = .ok (.if_icmp .ge 93, 3) := by decide +kernel
theorem dX8_find_60 : decode cX8_find 60 = .ok (.aload_n 0, 1) := by decide +kernel
theorem dX8_find_61 : decode cX8_find 61 = .ok (.getfield 28, 3) := by decide +kernel
theorem dX8_find_64 : decode cX8_find 64 = .ok (.iload 7, 2) := by decide +kernel
theorem dX8_find_66 : decode cX8_find 66 = .ok (.iaload, 1) := by decide +kernel
theorem dX8_find_67 : decode cX8_find 67 = .ok (.bipush 16, 2) := by decide +kernel
theorem dX8_find_69 : decode cX8_find 69 = .ok (.if_icmp .eq 75, 3) := by decide +kernel
theorem dX8_find_72 : decode cX8_find 72 = .ok (.aload_n 0, 1) := by decide +kernel
theorem dX8_find_73 : decode cX8_find 73 = .ok (.iload 7, 2) := by decide +kernel
theorem dX8_find_75 : decode cX8_find 75 = .ok (.aload_n 0, 1) := by decide +kernel
theorem dX8_find_76 : decode cX8_find 76 = .ok (.getfield 28, 3) := by decide +kernel
theorem dX8_find_79 : decode cX8_find 79 = .ok (.iload 7, 2) := by decide +kernel
theorem dX8_find_81 : decode cX8_find 81 = .ok (.iaload, 1) := by decide +kernel
theorem dX8_find_82 : decode cX8_find 82 = .ok (.iconst 0, 1) := by decide +kernel
theorem dX8_find_83 : decode cX8_find 83 = .ok (.invokevirtual 134, 3) := by decide +kernel
theorem dX8_find_86 : decode cX8_find 86 = .ok (.aload_n 0, 1) := by decide +kernel
theorem dX8_find_87 : decode cX8_find 87 = .ok (.getfield 122, 3) := by decide +kernel
theorem dX8_find_90 : decode cX8_find 90 = .ok (.iload_n 1, 1) := by decide +kernel
theorem dX8_find_91 : decode cX8_find 91 = .ok (.iload_n 3, 1) := by decide +kernel
theorem dX8_find_92 : decode cX8_find 92 = .ok (.iadd, 1) := by decide +kernel
theorem dX8_find_93 : decode cX8_find 93 = .ok (.if_icmp .ge 51, 3) := by decide +kernel
theorem dX8_find_96 : decode cX8_find 96 = .ok (.iload_n 1, 1) := by decide +kernel
theorem dX8_find_97 : decode cX8_find 97 = .ok (.aload_n 0, 1) := by decide +kernel
theorem dX8_find_98 : decode cX8_find 98 = .ok (.getfield 122, 3) := by decide +kernel
theorem dX8_find_101 : decode cX8_find 101 = .ok (.aload_n 0, 1) := by decide +kernel
theorem dX8_find_102 : decode cX8_find 102 = .ok (.getfield 128, 3) := by decide +kernel
theorem dX8_find_105 : decode cX8_find 105 = .ok (.iadd, 1) := by decide +kernel
theorem dX8_find_106 : decode cX8_find 106 = .ok (.if_icmp .ge 38, 3) := by decide +kernel
theorem dX8_find_109 : decode cX8_find 109 = .ok (.aload_n 0, 1) := by decide +kernel
theorem dX8_find_110 : decode cX8_find 110 = .ok (.getfield 125, 3) := by decide +kernel
theorem dX8_find_113 : decode cX8_find 113 = .ok (.iload_n 2, 1) := by decide +kernel
theorem dX8_find_114 : decode cX8_find 114 = .ok (.iload 4, 2) := by decide +kernel
theorem dX8_find_116 : decode cX8_find 116 = .ok (.iadd, 1) := by decide +kernel
theorem dX8_find_117 : decode cX8_find 117 = .ok (.if_icmp .ge 27, 3) := by decide +kernel
theorem dX8_find_120 : decode cX8_find 120 = .ok (.iload_n 2, 1) := by decide +kernel
theorem dX8_find_121 : decode cX8_find 121 = .ok (.aload_n 0, 1) := by decide +kernel
theorem dX8_find_122 : decode cX8_find 122 = .ok (.getfield 125, 3) := by decide +kernel
theorem dX8_find_125 : decode cX8_find 125 = .ok (.aload_n 0, 1) := by decide +kernel
theorem dX8_find_126 : decode cX8_find 126 = .ok (.getfield 131, 3) := by decide +kernel
theorem dX8_find_129 : decode cX8_find 129 = .ok (.iadd, 1) := by decide +kernel
theorem dX8_find_130 : decode cX8_find 130 = .ok (.if_icmp .ge 14, 3) := by decide +kernel
theorem dX8_find_133 : decode cX8_find 133 = .ok (.iload 6, 2) := by decide +kernel
theorem dX8_find_135 : decode cX8_find 135 = .ok (.ifCond .ne 6, 3) := by decide +kernel
theorem dX8_find_138 : decode cX8_find 138 = .ok (.iload 7, 2) := by decide +kernel
theorem dX8_find_140 : decode cX8_find 140 = .ok (.ireturn, 1) := by decide +kernel
theorem dX8_find_141 : decode cX8_find 141 = .ok (.iinc 6 (-1), 3) := by decide +kernel
theorem dX8_find_144 : decode cX8_find 144 = .ok (.iinc 7 1, 3) := by decide +kernel
theorem dX8_find_147 : decode cX8_find 147 = .ok (.goto (-96), 3) := by decide +kernel
theorem dX8_find_150 : decode cX8_find 150 = .ok (.iconst (-1), 1) := by decide +kernel
theorem dX8_find_151 : decode cX8_find 151 = .ok (.ireturn, 1) := by decide +kernel
theorem dX8_count_0 : decode cX8_count 0 = .ok (.aload_n 0, 1) := by decide +kernel
theorem dX8_count_1 : decode cX8_count 1 = .ok (.iconst 0, 1) := by decide +kernel
theorem dX8_count_2 : decode cX8_count 2 = .ok (.putfield 78, 3) := by decide +kernel
theorem dX8_count_5 : decode cX8_count 5 = .ok (.iconst 0, 1) := by decide +kernel
theorem dX8_count_6 : decode cX8_count 6 = .ok (.istore_n 2, 1) := by decide +kernel
theorem dX8_count_7 : decode cX8_count 7 = .ok (.iload_n 1, 1) := by decide +kernel
theorem dX8_count_8 : decode cX8_count 8 = .ok (.tableswitch 133 0 5 #[40, 45, 50, 87, 92, 128], 40) := by decide +kernel
theorem dX8_count_48 : decode cX8_count 48 = .ok (.aload_n 0, 1) := by decide +kernel
theorem dX8_count_49 : decode cX8_count 49 = .ok (.getfield 88, 3) := by decide +kernel
theorem dX8_count_52 : decode cX8_count 52 = .ok (.ireturn, 1) := by decide +kernel
theorem dX8_count_53 : decode cX8_count 53 = .ok (.aload_n 0, 1) := by decide +kernel
theorem dX8_count_54 : decode cX8_count 54 = .ok (.getfield 91, 3) := by decide +kernel
theorem dX8_count_57 : decode cX8_count 57 = .ok (.ireturn, 1) := by decide +kernel
theorem dX8_count_58 : decode cX8_count 58 = .ok (.iconst 0, 1) := by decide +kernel
theorem dX8_count_59 : decode cX8_count 59 = .ok (.istore_n 3, 1) := by decide +kernel
theorem dX8_count_60 : decode cX8_count 60 = .ok (.iload_n 3, 1) := by decide +kernel
theorem dX8_count_61 : decode cX8_count 61 = .ok (.aload_n 0, 1) := by decide +kernel
theorem dX8_count_62 : decode cX8_count 62 = .ok (.getfield 88, 3) := by decide +kernel
theorem dX8_count_65 : decode cX8_count 65 = .ok (.if_icmp .ge 28, 3) := by decide +kernel
theorem dX8_count_68 : decode cX8_count 68 = .ok (.iload_n 2, 1) := by decide +kernel
theorem dX8_count_69 : decode cX8_count 69 = .ok (.aload_n 0, 1) := by decide +kernel
theorem dX8_count_70 : decode cX8_count 70 = .ok (.getfield 28, 3) := by decide +kernel
theorem dX8_count_73 : decode cX8_count 73 = .ok (.iload_n 3, 1) := by decide +kernel
theorem dX8_count_74 : decode cX8_count 74 = .ok (.iaload, 1) := by decide +kernel
theorem dX8_count_75 : decode cX8_count 75 = .ok (.bipush 16, 2) := by decide +kernel
theorem dX8_count_77 : decode cX8_count 77 = .ok (.if_icmp .ne 7, 3) := by decide +kernel
theorem dX8_count_80 : decode cX8_count 80 = .ok (.iconst 1, 1) := by decide +kernel
theorem dX8_count_81 : decode cX8_count 81 = .ok (.goto 4, 3) := by decide +kernel
theorem dX8_count_84 : decode cX8_count 84 = .ok (.iconst 0, 1) := by decide +kernel
theorem dX8_count_85 : decode cX8_count 85 = .ok (.iadd, 1) := by decide +kernel
theorem dX8_count_86 : decode cX8_count 86 = .ok (.istore_n 2, 1) := by decide +kernel
theorem dX8_count_87 : decode cX8_count 87 = .ok (.iinc 3 1, 3) := by decide +kernel
theorem dX8_count_90 : decode cX8_count 90 = .ok (.goto (-30), 3) := by decide +kernel
theorem dX8_count_93 : decode cX8_count 93 = .ok (.iload_n 2, 1) := by decide +kernel
theorem dX8_count_94 : decode cX8_count 94 = .ok (.ireturn, 1) := by decide +kernel
theorem dX8_count_95 : decode cX8_count 95 = .ok (.aload_n 0, 1) := by decide +kernel
theorem dX8_count_96 : decode cX8_count 96 = .ok (.getfield 98, 3) := by decide +kernel
theorem dX8_count_99 : decode cX8_count 99 = .ok (.ireturn, 1) := by decide +kernel
theorem dX8_count_100 : decode cX8_count 100 = .ok (.iconst 0, 1) := by decide +kernel
theorem dX8_count_101 : decode cX8_count 101 = .ok (.istore_n 3, 1) := by decide +kernel
theorem dX8_count_102 : decode cX8_count 102 = .ok (.iload_n 3, 1) := by decide +kernel
theorem dX8_count_103 : decode cX8_count 103 = .ok (.aload_n 0, 1) := by decide +kernel
theorem dX8_count_104 : decode cX8_count 104 = .ok (.getfield 88, 3) := by decide +kernel
theorem dX8_count_107 : decode cX8_count 107 = .ok (.if_icmp .ge 27, 3) := by decide +kernel
theorem dX8_count_110 : decode cX8_count 110 = .ok (.iload_n 2, 1) := by decide +kernel
theorem dX8_count_111 : decode cX8_count 111 = .ok (.aload_n 0, 1) := by decide +kernel
theorem dX8_count_112 : decode cX8_count 112 = .ok (.getfield 7, 3) := by decide +kernel
theorem dX8_count_115 : decode cX8_count 115 = .ok (.iload_n 3, 1) := by decide +kernel
theorem dX8_count_116 : decode cX8_count 116 = .ok (.iaload, 1) := by decide +kernel
theorem dX8_count_117 : decode cX8_count 117 = .ok (.iconst 3, 1) := by decide +kernel
theorem dX8_count_118 : decode cX8_count 118 = .ok (.if_icmp .ne 7, 3) := by decide +kernel
theorem dX8_count_121 : decode cX8_count 121 = .ok (.iconst 1, 1) := by decide +kernel
theorem dX8_count_122 : decode cX8_count 122 = .ok (.goto 4, 3) := by decide +kernel
theorem dX8_count_125 : decode cX8_count 125 = .ok (.iconst 0, 1) := by decide +kernel
theorem dX8_count_126 : decode cX8_count 126 = .ok (.iadd, 1) := by decide +kernel
theorem dX8_count_127 : decode cX8_count 127 = .ok (.istore_n 2, 1) := by decide +kernel
theorem dX8_count_128 : decode cX8_count 128 = .ok (.iinc 3 1, 3) := by decide +kernel
theorem dX8_count_131 : decode cX8_count 131 = .ok (.goto (-29), 3) := by decide +kernel
theorem dX8_count_134 : decode cX8_count 134 = .ok (.iload_n 2, 1) := by decide +kernel
theorem dX8_count_135 : decode cX8_count 135 = .ok (.ireturn, 1) := by decide +kernel
theorem dX8_count_136 : decode cX8_count 136 = .ok (.aload_n 0, 1) := by decide +kernel
theorem dX8_count_137 : decode cX8_count 137 = .ok (.invokevirtual 240, 3) := by decide +kernel
theorem dX8_count_140 : decode cX8_count 140 = .ok (.ireturn, 1) := by decide +kernel
theorem dX8_count_141 : decode cX8_count 141 = .ok (.bipush (-3), 2) := by decide +kernel
theorem dX8_count_143 : decode cX8_count 143 = .ok (.ireturn, 1) := by decide +kernel
end
section
theorem dL_law_0 : decode cL_law 0 = .ok (.new 7, 3) := by decide +kernel
theorem dL_law_3 : decode cL_law 3 = .ok (.dup, 1) := by decide +kernel
theorem dL_law_4 : decode cL_law 4 = .ok (.invokespecial 9, 3) := by decide +kernel
theorem dL_law_7 : decode cL_law 7 = .ok (.astore_n 1, 1) := by decide +kernel
theorem dL_law_8 : decode cL_law 8 = .ok (.new 10, 3) := by decide +kernel
theorem dL_law_11 : decode cL_law 11 = .ok (.dup, 1) := by decide +kernel
theorem dL_law_12 : decode cL_law 12 = .ok (.invokespecial 12, 3) := by decide +kernel
theorem dL_law_15 : decode cL_law 15 = .ok (.astore_n 2, 1) := by decide +kernel
theorem dL_law_16 : decode cL_law 16 = .ok (.iconst 0, 1) := by decide +kernel
theorem dL_law_17 : decode cL_law 17 = .ok (.istore_n 3, 1) := by decide +kernel
theorem dL_law_18 : decode cL_law 18 = .ok (.iload_n 3, 1) := by decide +kernel
theorem dL_law_19 : decode cL_law 19 = .ok (.aload_n 0, 1) := by decide +kernel
theorem dL_law_20 : decode cL_law 20 = .ok (.arraylength, 1) := by decide +kernel
theorem dL_law_21 : decode cL_law 21 = .ok (.bipush 6, 2) := by decide +kernel
theorem dL_law_23 : decode cL_law 23 = .ok (.isub, 1) := by decide +kernel
theorem dL_law_24 : decode cL_law 24 = .ok (.if_icmp .gt 922, 3) := by decide +kernel
theorem dL_law_27 : decode cL_law 27 = .ok (.aload_n 0, 1) := by decide +kernel
theorem dL_law_28 : decode cL_law 28 = .ok (.iload_n 3, 1) := by decide +kernel
theorem dL_law_29 : decode cL_law 29 = .ok (.iaload, 1) := by decide +kernel
theorem dL_law_30 : decode cL_law 30 = .ok (.bipush 31, 2) := by decide +kernel
theorem dL_law_32 : decode cL_law 32 = .ok (.iand, 1) := by decide +kernel
theorem dL_law_33 : decode cL_law 33 = .ok (.tableswitch 907 0 25 #[119, 162, 195, 238, 271, 314, 347, 380, 433, 496, 529, 542, 575, 598, 621, 634, 647, 660, 673, 706, 719, 752, 775, 808, 871, 884], 119) := by decide +kernel
theorem dL_law_152 : decode cL_law 152 = .ok (.aload_n 1, 1) := by decide +kernel
theorem dL_law_153 : decode cL_law 153 = .ok (.aload_n 0, 1) := by decide +kernel
theorem dL_law_154 : decode cL_law 154 = .ok (.iload_n 3, 1) := by decide +kernel
theorem dL_law_155 : decode cL_law 155 = .ok (.iconst 1, 1) := by decide +kernel
theorem dL_law_156 : decode cL_law 156 = .ok (.iadd, 1) := by decide +kernel
theorem dL_law_157 : decode cL_law 157 = .ok (.iaload, 1) := by decide +kernel
theorem dL_law_158 : decode cL_law 158 = .ok (.aload_n 0, 1) := by decide +kernel
theorem dL_law_159 : decode cL_law 159 = .ok (.iload_n 3, 1) := by decide +kernel
theorem dL_law_160 : decode cL_law 160 = .ok (.iconst 2, 1) := by decide +kernel
theorem dL_law_161 : decode cL_law 161 = .ok (.iadd, 1) := by decide +kernel
theorem dL_law_162 : decode cL_law 162 = .ok (.iaload, 1) := by decide +kernel
theorem dL_law_163 : decode cL_law 163 = .ok (.aload_n 0, 1) := by decide +kernel
theorem dL_law_164 : decode cL_law 164 = .ok (.iload_n 3, 1) := by decide +kernel
theorem dL_law_165 : decode cL_law 165 = .ok (.iconst 3, 1) := by decide +kernel
theorem dL_law_166 : decode cL_law 166 = .ok (.iadd, 1) := by decide +kernel
theorem dL_law_167 : decode cL_law 167 = .ok (.iaload, 1) := by decide +kernel
theorem dL_law_168 : decode cL_law 168 = .ok (.invokevirtual 13, 3) := by decide +kernel
theorem dL_law_171 : decode cL_law 171 = .ok (.aload_n 2, 1) := by decide +kernel
theorem dL_law_172 : decode cL_law 172 = .ok (.aload_n 0, 1) := by decide +kernel
theorem dL_law_173 : decode cL_law 173 = .ok (.iload_n 3, 1) := by decide +kernel
theorem dL_law_174 : decode cL_law 174 = .ok (.iconst 1, 1) := by decide +kernel
theorem dL_law_175 : decode cL_law 175 = .ok (.iadd, 1) := by decide +kernel
theorem dL_law_176 : decode cL_law 176 = .ok (.iaload, 1) := by decide +kernel
theorem dL_law_177 : decode cL_law 177 = .ok (.aload_n 0, 1) := by decide +kernel
theorem dL_law_178 : decode cL_law 178 = .ok (.iload_n 3, 1) := by decide +kernel
theorem dL_law_179 : decode cL_law 179 = .ok (.iconst 2, 1) := by decide +kernel
theorem dL_law_180 : decode cL_law 180 = .ok (.iadd, 1) := by decide +kernel
theorem dL_law_181 : decode cL_law 181 = .ok (.iaload, 1) := by decide +kernel
theorem dL_law_182 : decode cL_law 182 = .ok (.aload_n 0, 1) := by decide +kernel
theorem dL_law_183 : decode cL_law 183 = .ok (.iload_n 3, 1) := by decide +kernel
theorem dL_law_184 : decode cL_law 184 = .ok (.iconst 3, 1) := by decide +kernel
theorem dL_law_185 : decode cL_law 185 = .ok (.iadd, 1) := by decide +kernel
theorem dL_law_186 : decode cL_law 186 = .ok (.iaload, 1) := by decide +kernel
theorem dL_law_187 : decode cL_law 187 = .ok (.invokevirtual 17, 3) := by decide +kernel
theorem dL_law_190 : decode cL_law 190 = .ok (.if_icmp .eq 750, 3) := by decide +kernel
theorem dL_law_193 : decode cL_law 193 = .ok (.iconst 0, 1) := by decide +kernel
theorem dL_law_194 : decode cL_law 194 = .ok (.ireturn, 1) := by decide +kernel
theorem dL_law_195 : decode cL_law 195 = .ok (.aload_n 1, 1) := by decide +kernel
theorem dL_law_196 : decode cL_law 196 = .ok (.aload_n 0, 1) := by decide +kernel
theorem dL_law_197 : decode cL_law 197 = .ok (.iload_n 3, 1) := by decide +kernel
theorem dL_law_198 : decode cL_law 198 = .ok (.iconst 1, 1) := by decide +kernel
theorem dL_law_199 : decode cL_law 199 = .ok (.iadd, 1) := by decide +kernel
theorem dL_law_200 : decode cL_law 200 = .ok (.iaload, 1) := by decide +kernel
theorem dL_law_201 : decode cL_law 201 = .ok (.aload_n 0, 1) := by decide +kernel
theorem dL_law_202 : decode cL_law 202 = .ok (.iload_n 3, 1) := by decide +kernel
theorem dL_law_203 : decode cL_law 203 = .ok (.iconst 2, 1) := by decide +kernel
theorem dL_law_204 : decode cL_law 204 = .ok (.iadd, 1) := by decide +kernel
theorem dL_law_205 : decode cL_law 205 = .ok (.iaload, 1) := by decide +kernel
theorem dL_law_206 : decode cL_law 206 = .ok (.invokevirtual 18, 3) := by decide +kernel
theorem dL_law_209 : decode cL_law 209 = .ok (.aload_n 2, 1) := by decide +kernel
theorem dL_law_210 : decode cL_law 210 = .ok (.aload_n 0, 1) := by decide +kernel
theorem dL_law_211 : decode cL_law 211 = .ok (.iload_n 3, 1) := by decide +kernel
theorem dL_law_212 : decode cL_law 212 = .ok (.iconst 1, 1) := by decide +kernel
theorem dL_law_213 : decode cL_law 213 = .ok (.iadd, 1) := by decide +kernel
theorem dL_law_214 : decode cL_law 214 = .ok (.iaload, 1) := by decide +kernel
theorem dL_law_215 : decode cL_law 215 = .ok (.aload_n 0, 1) := by decide +kernel
theorem dL_law_216 : decode cL_law 216 = .ok (.iload_n 3, 1) := by decide +kernel
theorem dL_law_217 : decode cL_law 217 = .ok (.iconst 2, 1) := by decide +kernel
theorem dL_law_218 : decode cL_law 218 = .ok (.iadd, 1) := by decide +kernel
theorem dL_law_219 : decode cL_law 219 = .ok (.iaload, 1) := by decide +kernel
theorem dL_law_220 : decode cL_law 220 = .ok (.invokevirtual 22, 3) := by decide +kernel
theorem dL_law_223 : decode cL_law 223 = .ok (.if_icmp .eq 717, 3) := by decide +kernel
theorem dL_law_226 : decode cL_law 226 = .ok (.iconst 0, 1) := by decide +kernel
theorem dL_law_227 : decode cL_law 227 = .ok (.ireturn, 1) := by decide +kernel
theorem dL_law_228 : decode cL_law 228 = .ok (.aload_n 1, 1) := by decide +kernel
theorem dL_law_229 : decode cL_law 229 = .ok (.aload_n 0, 1) := by decide +kernel
theorem dL_law_230 : decode cL_law 230 = .ok (.iload_n 3, 1) := by decide +kernel
theorem dL_law_231 : decode cL_law 231 = .ok (.iconst 1, 1) := by decide +kernel
theorem dL_law_232 : decode cL_law 232 = .ok (.iadd, 1) := by decide +kernel
theorem dL_law_233 : decode cL_law 233 = .ok (.iaload, 1) := by decide +kernel
theorem dL_law_234 : decode cL_law 234 = .ok (.aload_n 0, 1) := by decide +kernel
theorem dL_law_235 : decode cL_law 235 = .ok (.iload_n 3, 1) := by decide +kernel
theorem dL_law_236 : decode cL_law 236 = .ok (.iconst 2, 1) := by decide +kernel
theorem dL_law_237 : decode cL_law 237 = .ok (.iadd, 1) := by decide +kernel
theorem dL_law_238 : decode cL_law 238 = .ok (.iaload, 1) := by decide +kernel
theorem dL_law_239 : decode cL_law 239 = .ok (.aload_n 0, 1) := by decide +kernel
theorem dL_law_240 : decode cL_law 240 = .ok (.iload_n 3, 1) := by decide +kernel
theorem dL_law_241 : decode cL_law 241 = .ok (.iconst 3, 1) := by decide +kernel
theorem dL_law_242 : decode cL_law 242 = .ok (.iadd, 1) := by decide +kernel
theorem dL_law_243 : decode cL_law 243 = .ok (.iaload, 1) := by decide +kernel
theorem dL_law_244 : decode cL_law 244 = .ok (.invokevirtual 23, 3) := by decide +kernel
theorem dL_law_247 : decode cL_law 247 = .ok (.aload_n 2, 1) := by decide +kernel
theorem dL_law_248 : decode cL_law 248 = .ok (.aload_n 0, 1) := by decide +kernel
theorem dL_law_249 : decode cL_law 249 = .ok (.iload_n 3, 1) := by decide +kernel
theorem dL_law_250 : decode cL_law 250 = .ok (.iconst 1, 1) := by decide +kernel
theorem dL_law_251 : decode cL_law 251 = .ok (.iadd, 1) := by decide +kernel
theorem dL_law_252 : decode cL_law 252 = .ok (.iaload, 1) := by decide +kernel
theorem dL_law_253 : decode cL_law 253 = .ok (.aload_n 0, 1) := by decide +kernel
theorem dL_law_254 : decode cL_law 254 = .ok (.iload_n 3, 1) := by decide +kernel
theorem dL_law_255 : decode cL_law 255 = .ok (.iconst 2, 1) := by decide +kernel
theorem dL_law_256 : decode cL_law 256 = .ok (.iadd, 1) := by decide +kernel
theorem dL_law_257 : decode cL_law 257 = .ok (.iaload, 1) := by decide +kernel
theorem dL_law_258 : decode cL_law 258 = .ok (.aload_n 0, 1) := by decide +kernel
theorem dL_law_259 : decode cL_law 259 = .ok (.iload_n 3, 1) := by decide +kernel
theorem dL_law_260 : decode cL_law 260 = .ok (.iconst 3, 1) := by decide +kernel
theorem dL_law_261 : decode cL_law 261 = .ok (.iadd, 1) := by decide +kernel
theorem dL_law_262 : decode cL_law 262 = .ok (.iaload, 1) := by decide +kernel
theorem dL_law_263 : decode cL_law 263 = .ok (.invokevirtual 26, 3) := by decide +kernel
theorem dL_law_266 : decode cL_law 266 = .ok (.if_icmp .eq 674, 3) := by decide +kernel
theorem dL_law_269 : decode cL_law 269 = .ok (.iconst 0, 1) := by decide +kernel
theorem dL_law_270 : decode cL_law 270 = .ok (.ireturn, 1) := by decide +kernel
theorem dL_law_271 : decode cL_law 271 = .ok (.aload_n 1, 1) := by decide +kernel
theorem dL_law_272 : decode cL_law 272 = .ok (.aload_n 0, 1) := by decide +kernel
theorem dL_law_273 : decode cL_law 273 = .ok (.iload_n 3, 1) := by decide +kernel
theorem dL_law_274 : decode cL_law 274 = .ok (.iconst 1, 1) := by decide +kernel
theorem dL_law_275 : decode cL_law 275 = .ok (.iadd, 1) := by decide +kernel
theorem dL_law_276 : decode cL_law 276 = .ok (.iaload, 1) := by decide +kernel
theorem dL_law_277 : decode cL_law 277 = .ok (.aload_n 0, 1) := by decide +kernel
theorem dL_law_278 : decode cL_law 278 = .ok (.iload_n 3, 1) := by decide +kernel
theorem dL_law_279 : decode cL_law 279 = .ok (.iconst 2, 1) := by decide +kernel
theorem dL_law_280 : decode cL_law 280 = .ok (.iadd, 1) := by decide +kernel
theorem dL_law_281 : decode cL_law 281 = .ok (.iaload, 1) := by decide +kernel
theorem dL_law_282 : decode cL_law 282 = .ok (.invokevirtual 27, 3) := by decide +kernel
theorem dL_law_285 : decode cL_law 285 = .ok (.aload_n 2, 1) := by decide +kernel
theorem dL_law_286 : decode cL_law 286 = .ok (.aload_n 0, 1) := by decide +kernel
theorem dL_law_287 : decode cL_law 287 = .ok (.iload_n 3, 1) := by decide +kernel
theorem dL_law_288 : decode cL_law 288 = .ok (.iconst 1, 1) := by decide +kernel
theorem dL_law_289 : decode cL_law 289 = .ok (.iadd, 1) := by decide +kernel
theorem dL_law_290 : decode cL_law 290 = .ok (.iaload, 1) := by decide +kernel
theorem dL_law_291 : decode cL_law 291 = .ok (.aload_n 0, 1) := by decide +kernel
theorem dL_law_292 : decode cL_law 292 = .ok (.iload_n 3, 1) := by decide +kernel
theorem dL_law_293 : decode cL_law 293 = .ok (.iconst 2, 1) := by decide +kernel
theorem dL_law_294 : decode cL_law 294 = .ok (.iadd, 1) := by decide +kernel
theorem dL_law_295 : decode cL_law 295 = .ok (.iaload, 1) := by decide +kernel
theorem dL_law_296 : decode cL_law 296 = .ok (.invokevirtual 30, 3) := by decide +kernel
theorem dL_law_299 : decode cL_law 299 = .ok (.if_icmp .eq 641, 3) := by decide +kernel
theorem dL_law_302 : decode cL_law 302 = .ok (.iconst 0, 1) := by decide +kernel
theorem dL_law_303 : decode cL_law 303 = .ok (.ireturn, 1) := by decide +kernel
theorem dL_law_304 : decode cL_law 304 = .ok (.aload_n 1, 1) := by decide +kernel
theorem dL_law_305 : decode cL_law 305 = .ok (.aload_n 0, 1) := by decide +kernel
theorem dL_law_306 : decode cL_law 306 = .ok (.iload_n 3, 1) := by decide +kernel
theorem dL_law_307 : decode cL_law 307 = .ok (.iconst 1, 1) := by decide +kernel
theorem dL_law_308 : decode cL_law 308 = .ok (.iadd, 1) := by decide +kernel
theorem dL_law_309 : decode cL_law 309 = .ok (.iaload, 1) := by decide +kernel
theorem dL_law_310 : decode cL_law 310 = .ok (.aload_n 0, 1) := by decide +kernel
theorem dL_law_311 : decode cL_law 311 = .ok (.iload_n 3, 1) := by decide +kernel
theorem dL_law_312 : decode cL_law 312 = .ok (.iconst 2, 1) := by decide +kernel
theorem dL_law_313 : decode cL_law 313 = .ok (.iadd, 1) := by decide +kernel
theorem dL_law_314 : decode cL_law 314 = .ok (.iaload, 1) := by decide +kernel
theorem dL_law_315 : decode cL_law 315 = .ok (.aload_n 0, 1) := by decide +kernel
theorem dL_law_316 : decode cL_law 316 = .ok (.iload_n 3, 1) := by decide +kernel
theorem dL_law_317 : decode cL_law 317 = .ok (.iconst 3, 1) := by decide +kernel
theorem dL_law_318 : decode cL_law 318 = .ok (.iadd, 1) := by decide +kernel
theorem dL_law_319 : decode cL_law 319 = .ok (.iaload, 1) := by decide +kernel
theorem dL_law_320 : decode cL_law 320 = .ok (.invokevirtual 31, 3) := by decide +kernel
theorem dL_law_323 : decode cL_law 323 = .ok (.aload_n 2, 1) := by decide +kernel
theorem dL_law_324 : decode cL_law 324 = .ok (.aload_n 0, 1) := by decide +kernel
theorem dL_law_325 : decode cL_law 325 = .ok (.iload_n 3, 1) := by decide +kernel
theorem dL_law_326 : decode cL_law 326 = .ok (.iconst 1, 1) := by decide +kernel
theorem dL_law_327 : decode cL_law 327 = .ok (.iadd, 1) := by decide +kernel
theorem dL_law_328 : decode cL_law 328 = .ok (.iaload, 1) := by decide +kernel
theorem dL_law_329 : decode cL_law 329 = .ok (.aload_n 0, 1) := by decide +kernel
theorem dL_law_330 : decode cL_law 330 = .ok (.iload_n 3, 1) := by decide +kernel
theorem dL_law_331 : decode cL_law 331 = .ok (.iconst 2, 1) := by decide +kernel
theorem dL_law_332 : decode cL_law 332 = .ok (.iadd, 1) := by decide +kernel
theorem dL_law_333 : decode cL_law 333 = .ok (.iaload, 1) := by decide +kernel
theorem dL_law_334 : decode cL_law 334 = .ok (.aload_n 0, 1) := by decide +kernel
theorem dL_law_335 : decode cL_law 335 = .ok (.iload_n 3, 1) := by decide +kernel
theorem dL_law_336 : decode cL_law 336 = .ok (.iconst 3, 1) := by decide +kernel
theorem dL_law_337 : decode cL_law 337 = .ok (.iadd, 1) := by decide +kernel
theorem dL_law_338 : decode cL_law 338 = .ok (.iaload, 1) := by decide +kernel
theorem dL_law_339 : decode cL_law 339 = .ok (.invokevirtual 34, 3) := by decide +kernel
theorem dL_law_342 : decode cL_law 342 = .ok (.if_icmp .eq 598, 3) := by decide +kernel
theorem dL_law_345 : decode cL_law 345 = .ok (.iconst 0, 1) := by decide +kernel
theorem dL_law_346 : decode cL_law 346 = .ok (.ireturn, 1) := by decide +kernel
theorem dL_law_347 : decode cL_law 347 = .ok (.aload_n 1, 1) := by decide +kernel
theorem dL_law_348 : decode cL_law 348 = .ok (.aload_n 0, 1) := by decide +kernel
theorem dL_law_349 : decode cL_law 349 = .ok (.iload_n 3, 1) := by decide +kernel
theorem dL_law_350 : decode cL_law 350 = .ok (.iconst 1, 1) := by decide +kernel
theorem dL_law_351 : decode cL_law 351 = .ok (.iadd, 1) := by decide +kernel
theorem dL_law_352 : decode cL_law 352 = .ok (.iaload, 1) := by decide +kernel
theorem dL_law_353 : decode cL_law 353 = .ok (.aload_n 0, 1) := by decide +kernel
theorem dL_law_354 : decode cL_law 354 = .ok (.iload_n 3, 1) := by decide +kernel
theorem dL_law_355 : decode cL_law 355 = .ok (.iconst 2, 1) := by decide +kernel
theorem dL_law_356 : decode cL_law 356 = .ok (.iadd, 1) := by decide +kernel
theorem dL_law_357 : decode cL_law 357 = .ok (.iaload, 1) := by decide +kernel
theorem dL_law_358 : decode cL_law 358 = .ok (.invokevirtual 35, 3) := by decide +kernel
theorem dL_law_361 : decode cL_law 361 = .ok (.aload_n 2, 1) := by decide +kernel
theorem dL_law_362 : decode cL_law 362 = .ok (.aload_n 0, 1) := by decide +kernel
theorem dL_law_363 : decode cL_law 363 = .ok (.iload_n 3, 1) := by decide +kernel
theorem dL_law_364 : decode cL_law 364 = .ok (.iconst 1, 1) := by decide +kernel
theorem dL_law_365 : decode cL_law 365 = .ok (.iadd, 1) := by decide +kernel
theorem dL_law_366 : decode cL_law 366 = .ok (.iaload, 1) := by decide +kernel
theorem dL_law_367 : decode cL_law 367 = .ok (.aload_n 0, 1) := by decide +kernel
theorem dL_law_368 : decode cL_law 368 = .ok (.iload_n 3, 1) := by decide +kernel
theorem dL_law_369 : decode cL_law 369 = .ok (.iconst 2, 1) := by decide +kernel
theorem dL_law_370 : decode cL_law 370 = .ok (.iadd, 1) := by decide +kernel
theorem dL_law_371 : decode cL_law 371 = .ok (.iaload, 1) := by decide +kernel
theorem dL_law_372 : decode cL_law 372 = .ok (.invokevirtual 38, 3) := by decide +kernel
theorem dL_law_375 : decode cL_law 375 = .ok (.if_icmp .eq 565, 3) := by decide +kernel
theorem dL_law_378 : decode cL_law 378 = .ok (.iconst 0, 1) := by decide +kernel
theorem dL_law_379 : decode cL_law 379 = .ok (.ireturn, 1) := by decide +kernel
theorem dL_law_380 : decode cL_law 380 = .ok (.aload_n 1, 1) := by decide +kernel
theorem dL_law_381 : decode cL_law 381 = .ok (.aload_n 0, 1) := by decide +kernel
theorem dL_law_382 : decode cL_law 382 = .ok (.iload_n 3, 1) := by decide +kernel
theorem dL_law_383 : decode cL_law 383 = .ok (.iconst 1, 1) := by decide +kernel
theorem dL_law_384 : decode cL_law 384 = .ok (.iadd, 1) := by decide +kernel
theorem dL_law_385 : decode cL_law 385 = .ok (.iaload, 1) := by decide +kernel
theorem dL_law_386 : decode cL_law 386 = .ok (.aload_n 0, 1) := by decide +kernel
theorem dL_law_387 : decode cL_law 387 = .ok (.iload_n 3, 1) := by decide +kernel
theorem dL_law_388 : decode cL_law 388 = .ok (.iconst 2, 1) := by decide +kernel
theorem dL_law_389 : decode cL_law 389 = .ok (.iadd, 1) := by decide +kernel
theorem dL_law_390 : decode cL_law 390 = .ok (.iaload, 1) := by decide +kernel
theorem dL_law_391 : decode cL_law 391 = .ok (.invokevirtual 39, 3) := by decide +kernel
theorem dL_law_394 : decode cL_law 394 = .ok (.aload_n 2, 1) := by decide +kernel
theorem dL_law_395 : decode cL_law 395 = .ok (.aload_n 0, 1) := by decide +kernel
theorem dL_law_396 : decode cL_law 396 = .ok (.iload_n 3, 1) := by decide +kernel
theorem dL_law_397 : decode cL_law 397 = .ok (.iconst 1, 1) := by decide +kernel
theorem dL_law_398 : decode cL_law 398 = .ok (.iadd, 1) := by decide +kernel
theorem dL_law_399 : decode cL_law 399 = .ok (.iaload, 1) := by decide +kernel
theorem dL_law_400 : decode cL_law 400 = .ok (.aload_n 0, 1) := by decide +kernel
theorem dL_law_401 : decode cL_law 401 = .ok (.iload_n 3, 1) := by decide +kernel
theorem dL_law_402 : decode cL_law 402 = .ok (.iconst 2, 1) := by decide +kernel
theorem dL_law_403 : decode cL_law 403 = .ok (.iadd, 1) := by decide +kernel
theorem dL_law_404 : decode cL_law 404 = .ok (.iaload, 1) := by decide +kernel
theorem dL_law_405 : decode cL_law 405 = .ok (.invokevirtual 42, 3) := by decide +kernel
theorem dL_law_408 : decode cL_law 408 = .ok (.if_icmp .eq 532, 3) := by decide +kernel
theorem dL_law_411 : decode cL_law 411 = .ok (.iconst 0, 1) := by decide +kernel
theorem dL_law_412 : decode cL_law 412 = .ok (.ireturn, 1) := by decide +kernel
theorem dL_law_413 : decode cL_law 413 = .ok (.aload_n 1, 1) := by decide +kernel
theorem dL_law_414 : decode cL_law 414 = .ok (.aload_n 0, 1) := by decide +kernel
theorem dL_law_415 : decode cL_law 415 = .ok (.iload_n 3, 1) := by decide +kernel
theorem dL_law_416 : decode cL_law 416 = .ok (.iconst 1, 1) := by decide +kernel
theorem dL_law_417 : decode cL_law 417 = .ok (.iadd, 1) := by decide +kernel
theorem dL_law_418 : decode cL_law 418 = .ok (.iaload, 1) := by decide +kernel
theorem dL_law_419 : decode cL_law 419 = .ok (.aload_n 0, 1) := by decide +kernel
theorem dL_law_420 : decode cL_law 420 = .ok (.iload_n 3, 1) := by decide +kernel
theorem dL_law_421 : decode cL_law 421 = .ok (.iconst 2, 1) := by decide +kernel
theorem dL_law_422 : decode cL_law 422 = .ok (.iadd, 1) := by decide +kernel
theorem dL_law_423 : decode cL_law 423 = .ok (.iaload, 1) := by decide +kernel
theorem dL_law_424 : decode cL_law 424 = .ok (.aload_n 0, 1) := by decide +kernel
theorem dL_law_425 : decode cL_law 425 = .ok (.iload_n 3, 1) := by decide +kernel
theorem dL_law_426 : decode cL_law 426 = .ok (.iconst 3, 1) := by decide +kernel
theorem dL_law_427 : decode cL_law 427 = .ok (.iadd, 1) := by decide +kernel
theorem dL_law_428 : decode cL_law 428 = .ok (.iaload, 1) := by decide +kernel
theorem dL_law_429 : decode cL_law 429 = .ok (.aload_n 0, 1) := by decide +kernel
theorem dL_law_430 : decode cL_law 430 = .ok (.iload_n 3, 1) := by decide +kernel
theorem dL_law_431 : decode cL_law 431 = .ok (.iconst 4, 1) := by decide +kernel
theorem dL_law_432 : decode cL_law 432 = .ok (.iadd, 1) := by decide +kernel
theorem dL_law_433 : decode cL_law 433 = .ok (.iaload, 1) := by decide +kernel
theorem dL_law_434 : decode cL_law 434 = .ok (.invokevirtual 43, 3) := by decide +kernel
theorem dL_law_437 : decode cL_law 437 = .ok (.aload_n 2, 1) := by decide +kernel
theorem dL_law_438 : decode cL_law 438 = .ok (.aload_n 0, 1) := by decide +kernel
theorem dL_law_439 : decode cL_law 439 = .ok (.iload_n 3, 1) := by decide +kernel
theorem dL_law_440 : decode cL_law 440 = .ok (.iconst 1, 1) := by decide +kernel
theorem dL_law_441 : decode cL_law 441 = .ok (.iadd, 1) := by decide +kernel
theorem dL_law_442 : decode cL_law 442 = .ok (.iaload, 1) := by decide +kernel
theorem dL_law_443 : decode cL_law 443 = .ok (.aload_n 0, 1) := by decide +kernel
theorem dL_law_444 : decode cL_law 444 = .ok (.iload_n 3, 1) := by decide +kernel
theorem dL_law_445 : decode cL_law 445 = .ok (.iconst 2, 1) := by decide +kernel
theorem dL_law_446 : decode cL_law 446 = .ok (.iadd, 1) := by decide +kernel
theorem dL_law_447 : decode cL_law 447 = .ok (.iaload, 1) := by decide +kernel
theorem dL_law_448 : decode cL_law 448 = .ok (.aload_n 0, 1) := by decide +kernel
theorem dL_law_449 : decode cL_law 449 = .ok (.iload_n 3, 1) := by decide +kernel
theorem dL_law_450 : decode cL_law 450 = .ok (.iconst 3, 1) := by decide +kernel
theorem dL_law_451 : decode cL_law 451 = .ok (.iadd, 1) := by decide +kernel
theorem dL_law_452 : decode cL_law 452 = .ok (.iaload, 1) := by decide +kernel
theorem dL_law_453 : decode cL_law 453 = .ok (.aload_n 0, 1) := by decide +kernel
theorem dL_law_454 : decode cL_law 454 = .ok (.iload_n 3, 1) := by decide +kernel
theorem dL_law_455 : decode cL_law 455 = .ok (.iconst 4, 1) := by decide +kernel
theorem dL_law_456 : decode cL_law 456 = .ok (.iadd, 1) := by decide +kernel
theorem dL_law_457 : decode cL_law 457 = .ok (.iaload, 1) := by decide +kernel
theorem dL_law_458 : decode cL_law 458 = .ok (.invokevirtual 47, 3) := by decide +kernel
theorem dL_law_461 : decode cL_law 461 = .ok (.if_icmp .eq 479, 3) := by decide +kernel
theorem dL_law_464 : decode cL_law 464 = .ok (.iconst 0, 1) := by decide +kernel
theorem dL_law_465 : decode cL_law 465 = .ok (.ireturn, 1) := by decide +kernel
theorem dL_law_466 : decode cL_law 466 = .ok (.aload_n 1, 1) := by decide +kernel
theorem dL_law_467 : decode cL_law 467 = .ok (.aload_n 0, 1) := by decide +kernel
theorem dL_law_468 : decode cL_law 468 = .ok (.iload_n 3, 1) := by decide +kernel
theorem dL_law_469 : decode cL_law 469 = .ok (.iconst 1, 1) := by decide +kernel
theorem dL_law_470 : decode cL_law 470 = .ok (.iadd, 1) := by decide +kernel
theorem dL_law_471 : decode cL_law 471 = .ok (.iaload, 1) := by decide +kernel
theorem dL_law_472 : decode cL_law 472 = .ok (.aload_n 0, 1) := by decide +kernel
theorem dL_law_473 : decode cL_law 473 = .ok (.iload_n 3, 1) := by decide +kernel
theorem dL_law_474 : decode cL_law 474 = .ok (.iconst 2, 1) := by decide +kernel
theorem dL_law_475 : decode cL_law 475 = .ok (.iadd, 1) := by decide +kernel
theorem dL_law_476 : decode cL_law 476 = .ok (.iaload, 1) := by decide +kernel
theorem dL_law_477 : decode cL_law 477 = .ok (.aload_n 0, 1) := by decide +kernel
theorem dL_law_478 : decode cL_law 478 = .ok (.iload_n 3, 1) := by decide +kernel
theorem dL_law_479 : decode cL_law 479 = .ok (.iconst 3, 1) := by decide +kernel
theorem dL_law_480 : decode cL_law 480 = .ok (.iadd, 1) := by decide +kernel
theorem dL_law_481 : decode cL_law 481 = .ok (.iaload, 1) := by decide +kernel
theorem dL_law_482 : decode cL_law 482 = .ok (.aload_n 0, 1) := by decide +kernel
theorem dL_law_483 : decode cL_law 483 = .ok (.iload_n 3, 1) := by decide +kernel
theorem dL_law_484 : decode cL_law 484 = .ok (.iconst 4, 1) := by decide +kernel
theorem dL_law_485 : decode cL_law 485 = .ok (.iadd, 1) := by decide +kernel
theorem dL_law_486 : decode cL_law 486 = .ok (.iaload, 1) := by decide +kernel
theorem dL_law_487 : decode cL_law 487 = .ok (.aload_n 0, 1) := by decide +kernel
theorem dL_law_488 : decode cL_law 488 = .ok (.iload_n 3, 1) := by decide +kernel
theorem dL_law_489 : decode cL_law 489 = .ok (.iconst 5, 1) := by decide +kernel
theorem dL_law_490 : decode cL_law 490 = .ok (.iadd, 1) := by decide +kernel
theorem dL_law_491 : decode cL_law 491 = .ok (.iaload, 1) := by decide +kernel
theorem dL_law_492 : decode cL_law 492 = .ok (.invokevirtual 48, 3) := by decide +kernel
theorem dL_law_495 : decode cL_law 495 = .ok (.aload_n 2, 1) := by decide +kernel
theorem dL_law_496 : decode cL_law 496 = .ok (.aload_n 0, 1) := by decide +kernel
theorem dL_law_497 : decode cL_law 497 = .ok (.iload_n 3, 1) := by decide +kernel
theorem dL_law_498 : decode cL_law 498 = .ok (.iconst 1, 1) := by decide +kernel
theorem dL_law_499 : decode cL_law 499 = .ok (.iadd, 1) := by decide +kernel
theorem dL_law_500 : decode cL_law 500 = .ok (.iaload, 1) := by decide +kernel
theorem dL_law_501 : decode cL_law 501 = .ok (.aload_n 0, 1) := by decide +kernel
theorem dL_law_502 : decode cL_law 502 = .ok (.iload_n 3, 1) := by decide +kernel
theorem dL_law_503 : decode cL_law 503 = .ok (.iconst 2, 1) := by decide +kernel
theorem dL_law_504 : decode cL_law 504 = .ok (.iadd, 1) := by decide +kernel
theorem dL_law_505 : decode cL_law 505 = .ok (.iaload, 1) := by decide +kernel
theorem dL_law_506 : decode cL_law 506 = .ok (.aload_n 0, 1) := by decide +kernel
theorem dL_law_507 : decode cL_law 507 = .ok (.iload_n 3, 1) := by decide +kernel
theorem dL_law_508 : decode cL_law 508 = .ok (.iconst 3, 1) := by decide +kernel
theorem dL_law_509 : decode cL_law 509 = .ok (.iadd, 1) := by decide +kernel
theorem dL_law_510 : decode cL_law 510 = .ok (.iaload, 1) := by decide +kernel
theorem dL_law_511 : decode cL_law 511 = .ok (.aload_n 0, 1) := by decide +kernel
theorem dL_law_512 : decode cL_law 512 = .ok (.iload_n 3, 1) := by decide +kernel
theorem dL_law_513 : decode cL_law 513 = .ok (.iconst 4, 1) := by decide +kernel
theorem dL_law_514 : decode cL_law 514 = .ok (.iadd, 1) := by decide +kernel
theorem dL_law_515 : decode cL_law 515 = .ok (.iaload, 1) := by decide +kernel
theorem dL_law_516 : decode cL_law 516 = .ok (.aload_n 0, 1) := by decide +kernel
theorem dL_law_517 : decode cL_law 517 = .ok (.iload_n 3, 1) := by decide +kernel
theorem dL_law_518 : decode cL_law 518 = .ok (.iconst 5, 1) := by decide +kernel
theorem dL_law_519 : decode cL_law 519 = .ok (.iadd, 1) := by decide +kernel
theorem dL_law_520 : decode cL_law 520 = .ok (.iaload, 1) := by decide +kernel
theorem dL_law_521 : decode cL_law 521 = .ok (.invokevirtual 52, 3) := by decide +kernel
theorem dL_law_524 : decode cL_law 524 = .ok (.if_icmp .eq 416, 3) := by decide +kernel
theorem dL_law_527 : decode cL_law 527 = .ok (.iconst 0, 1) := by decide +kernel
theorem dL_law_528 : decode cL_law 528 = .ok (.ireturn, 1) := by decide +kernel
theorem dL_law_529 : decode cL_law 529 = .ok (.aload_n 1, 1) := by decide +kernel
theorem dL_law_530 : decode cL_law 530 = .ok (.aload_n 0, 1) := by decide +kernel
theorem dL_law_531 : decode cL_law 531 = .ok (.iload_n 3, 1) := by decide +kernel
theorem dL_law_532 : decode cL_law 532 = .ok (.iconst 1, 1) := by decide +kernel
theorem dL_law_533 : decode cL_law 533 = .ok (.iadd, 1) := by decide +kernel
theorem dL_law_534 : decode cL_law 534 = .ok (.iaload, 1) := by decide +kernel
theorem dL_law_535 : decode cL_law 535 = .ok (.aload_n 0, 1) := by decide +kernel
theorem dL_law_536 : decode cL_law 536 = .ok (.iload_n 3, 1) := by decide +kernel
theorem dL_law_537 : decode cL_law 537 = .ok (.iconst 2, 1) := by decide +kernel
theorem dL_law_538 : decode cL_law 538 = .ok (.iadd, 1) := by decide +kernel
theorem dL_law_539 : decode cL_law 539 = .ok (.iaload, 1) := by decide +kernel
theorem dL_law_540 : decode cL_law 540 = .ok (.invokevirtual 53, 3) := by decide +kernel
theorem dL_law_543 : decode cL_law 543 = .ok (.aload_n 2, 1) := by decide +kernel
theorem dL_law_544 : decode cL_law 544 = .ok (.aload_n 0, 1) := by decide +kernel
theorem dL_law_545 : decode cL_law 545 = .ok (.iload_n 3, 1) := by decide +kernel
theorem dL_law_546 : decode cL_law 546 = .ok (.iconst 1, 1) := by decide +kernel
theorem dL_law_547 : decode cL_law 547 = .ok (.iadd, 1) := by decide +kernel
theorem dL_law_548 : decode cL_law 548 = .ok (.iaload, 1) := by decide +kernel
theorem dL_law_549 : decode cL_law 549 = .ok (.aload_n 0, 1) := by decide +kernel
theorem dL_law_550 : decode cL_law 550 = .ok (.iload_n 3, 1) := by decide +kernel
theorem dL_law_551 : decode cL_law 551 = .ok (.iconst 2, 1) := by decide +kernel
theorem dL_law_552 : decode cL_law 552 = .ok (.iadd, 1) := by decide +kernel
theorem dL_law_553 : decode cL_law 553 = .ok (.iaload, 1) := by decide +kernel
theorem dL_law_554 : decode cL_law 554 = .ok (.invokevirtual 56, 3) := by decide +kernel
theorem dL_law_557 : decode cL_law 557 = .ok (.if_icmp .eq 383, 3) := by decide +kernel
theorem dL_law_560 : decode cL_law 560 = .ok (.iconst 0, 1) := by decide +kernel
theorem dL_law_561 : decode cL_law 561 = .ok (.ireturn, 1) := by decide +kernel
theorem dL_law_562 : decode cL_law 562 = .ok (.aload_n 1, 1) := by decide +kernel
theorem dL_law_563 : decode cL_law 563 = .ok (.invokevirtual 57, 3) := by decide +kernel
theorem dL_law_566 : decode cL_law 566 = .ok (.aload_n 2, 1) := by decide +kernel
theorem dL_law_567 : decode cL_law 567 = .ok (.invokevirtual 61, 3) := by decide +kernel
theorem dL_law_570 : decode cL_law 570 = .ok (.if_icmp .eq 370, 3) := by decide +kernel
theorem dL_law_573 : decode cL_law 573 = .ok (.iconst 0, 1) := by decide +kernel
theorem dL_law_574 : decode cL_law 574 = .ok (.ireturn, 1) := by decide +kernel
theorem dL_law_575 : decode cL_law 575 = .ok (.aload_n 1, 1) := by decide +kernel
theorem dL_law_576 : decode cL_law 576 = .ok (.aload_n 0, 1) := by decide +kernel
theorem dL_law_577 : decode cL_law 577 = .ok (.iload_n 3, 1) := by decide +kernel
theorem dL_law_578 : decode cL_law 578 = .ok (.iconst 1, 1) := by decide +kernel
theorem dL_law_579 : decode cL_law 579 = .ok (.iadd, 1) := by decide +kernel
theorem dL_law_580 : decode cL_law 580 = .ok (.iaload, 1) := by decide +kernel
theorem dL_law_581 : decode cL_law 581 = .ok (.aload_n 0, 1) := by decide +kernel
theorem dL_law_582 : decode cL_law 582 = .ok (.iload_n 3, 1) := by decide +kernel
theorem dL_law_583 : decode cL_law 583 = .ok (.iconst 2, 1) := by decide +kernel
theorem dL_law_584 : decode cL_law 584 = .ok (.iadd, 1) := by decide +kernel
theorem dL_law_585 : decode cL_law 585 = .ok (.iaload, 1) := by decide +kernel
theorem dL_law_586 : decode cL_law 586 = .ok (.invokevirtual 62, 3) := by decide +kernel
theorem dL_law_589 : decode cL_law 589 = .ok (.aload_n 2, 1) := by decide +kernel
theorem dL_law_590 : decode cL_law 590 = .ok (.aload_n 0, 1) := by decide +kernel
theorem dL_law_591 : decode cL_law 591 = .ok (.iload_n 3, 1) := by decide +kernel
theorem dL_law_592 : decode cL_law 592 = .ok (.iconst 1, 1) := by decide +kernel
theorem dL_law_593 : decode cL_law 593 = .ok (.iadd, 1) := by decide +kernel
theorem dL_law_594 : decode cL_law 594 = .ok (.iaload, 1) := by decide +kernel
theorem dL_law_595 : decode cL_law 595 = .ok (.aload_n 0, 1) := by decide +kernel
theorem dL_law_596 : decode cL_law 596 = .ok (.iload_n 3, 1) := by decide +kernel
theorem dL_law_597 : decode cL_law 597 = .ok (.iconst 2, 1) := by decide +kernel
theorem dL_law_598 : decode cL_law 598 = .ok (.iadd, 1) := by decide +kernel
theorem dL_law_599 : decode cL_law 599 = .ok (.iaload, 1) := by decide +kernel
theorem dL_law_600 : decode cL_law 600 = .ok (.invokevirtual 65, 3) := by decide +kernel
theorem dL_law_603 : decode cL_law 603 = .ok (.if_icmp .eq 337, 3) := by decide +kernel
theorem dL_law_606 : decode cL_law 606 = .ok (.iconst 0, 1) := by decide +kernel
theorem dL_law_607 : decode cL_law 607 = .ok (.ireturn, 1) := by decide +kernel
theorem dL_law_608 : decode cL_law 608 = .ok (.aload_n 1, 1) := by decide +kernel
theorem dL_law_609 : decode cL_law 609 = .ok (.aload_n 0, 1) := by decide +kernel
theorem dL_law_610 : decode cL_law 610 = .ok (.iload_n 3, 1) := by decide +kernel
theorem dL_law_611 : decode cL_law 611 = .ok (.iconst 1, 1) := by decide +kernel
theorem dL_law_612 : decode cL_law 612 = .ok (.iadd, 1) := by decide +kernel
theorem dL_law_613 : decode cL_law 613 = .ok (.iaload, 1) := by decide +kernel
theorem dL_law_614 : decode cL_law 614 = .ok (.invokevirtual 66, 3) := by decide +kernel
theorem dL_law_617 : decode cL_law 617 = .ok (.aload_n 2, 1) := by decide +kernel
theorem dL_law_618 : decode cL_law 618 = .ok (.aload_n 0, 1) := by decide +kernel
theorem dL_law_619 : decode cL_law 619 = .ok (.iload_n 3, 1) := by decide +kernel
theorem dL_law_620 : decode cL_law 620 = .ok (.iconst 1, 1) := by decide +kernel
theorem dL_law_621 : decode cL_law 621 = .ok (.iadd, 1) := by decide +kernel
theorem dL_law_622 : decode cL_law 622 = .ok (.iaload, 1) := by decide +kernel
theorem dL_law_623 : decode cL_law 623 = .ok (.invokevirtual 70, 3) := by decide +kernel
theorem dL_law_626 : decode cL_law 626 = .ok (.if_icmp .eq 314, 3) := by decide +kernel
theorem dL_law_629 : decode cL_law 629 = .ok (.iconst 0, 1) := by decide +kernel
theorem dL_law_630 : decode cL_law 630 = .ok (.ireturn, 1) := by decide +kernel
theorem dL_law_631 : decode cL_law 631 = .ok (.aload_n 1, 1) := by decide +kernel
theorem dL_law_632 : decode cL_law 632 = .ok (.aload_n 0, 1) := by decide +kernel
theorem dL_law_633 : decode cL_law 633 = .ok (.iload_n 3, 1) := by decide +kernel
theorem dL_law_634 : decode cL_law 634 = .ok (.iconst 1, 1) := by decide +kernel
theorem dL_law_635 : decode cL_law 635 = .ok (.iadd, 1) := by decide +kernel
theorem dL_law_636 : decode cL_law 636 = .ok (.iaload, 1) := by decide +kernel
theorem dL_law_637 : decode cL_law 637 = .ok (.invokevirtual 71, 3) := by decide +kernel
theorem dL_law_640 : decode cL_law 640 = .ok (.aload_n 2, 1) := by decide +kernel
theorem dL_law_641 : decode cL_law 641 = .ok (.aload_n 0, 1) := by decide +kernel
theorem dL_law_642 : decode cL_law 642 = .ok (.iload_n 3, 1) := by decide +kernel
theorem dL_law_643 : decode cL_law 643 = .ok (.iconst 1, 1) := by decide +kernel
theorem dL_law_644 : decode cL_law 644 = .ok (.iadd, 1) := by decide +kernel
theorem dL_law_645 : decode cL_law 645 = .ok (.iaload, 1) := by decide +kernel
theorem dL_law_646 : decode cL_law 646 = .ok (.invokevirtual 74, 3) := by decide +kernel
theorem dL_law_649 : decode cL_law 649 = .ok (.if_icmp .eq 291, 3) := by decide +kernel
theorem dL_law_652 : decode cL_law 652 = .ok (.iconst 0, 1) := by decide +kernel
theorem dL_law_653 : decode cL_law 653 = .ok (.ireturn, 1) := by decide +kernel
theorem dL_law_654 : decode cL_law 654 = .ok (.aload_n 1, 1) := by decide +kernel
theorem dL_law_655 : decode cL_law 655 = .ok (.invokevirtual 75, 3) := by decide +kernel
theorem dL_law_658 : decode cL_law 658 = .ok (.aload_n 2, 1) := by decide +kernel
theorem dL_law_659 : decode cL_law 659 = .ok (.invokevirtual 78, 3) := by decide +kernel
theorem dL_law_662 : decode cL_law 662 = .ok (.if_icmp .eq 278, 3) := by decide +kernel
theorem dL_law_665 : decode cL_law 665 = .ok (.iconst 0, 1) := by decide +kernel
theorem dL_law_666 : decode cL_law 666 = .ok (.ireturn, 1) := by decide +kernel
theorem dL_law_667 : decode cL_law 667 = .ok (.aload_n 1, 1) := by decide +kernel
theorem dL_law_668 : decode cL_law 668 = .ok (.invokevirtual 79, 3) := by decide +kernel
theorem dL_law_671 : decode cL_law 671 = .ok (.aload_n 2, 1) := by decide +kernel
theorem dL_law_672 : decode cL_law 672 = .ok (.invokevirtual 82, 3) := by decide +kernel
theorem dL_law_675 : decode cL_law 675 = .ok (.if_icmp .eq 265, 3) := by decide +kernel
theorem dL_law_678 : decode cL_law 678 = .ok (.iconst 0, 1) := by decide +kernel
theorem dL_law_679 : decode cL_law 679 = .ok (.ireturn, 1) := by decide +kernel
theorem dL_law_680 : decode cL_law 680 = .ok (.aload_n 1, 1) := by decide +kernel
theorem dL_law_681 : decode cL_law 681 = .ok (.invokevirtual 83, 3) := by decide +kernel
theorem dL_law_684 : decode cL_law 684 = .ok (.aload_n 2, 1) := by decide +kernel
theorem dL_law_685 : decode cL_law 685 = .ok (.invokevirtual 86, 3) := by decide +kernel
theorem dL_law_688 : decode cL_law 688 = .ok (.if_icmp .eq 252, 3) := by decide +kernel
theorem dL_law_691 : decode cL_law 691 = .ok (.iconst 0, 1) := by decide +kernel
theorem dL_law_692 : decode cL_law 692 = .ok (.ireturn, 1) := by decide +kernel
theorem dL_law_693 : decode cL_law 693 = .ok (.aload_n 1, 1) := by decide +kernel
theorem dL_law_694 : decode cL_law 694 = .ok (.invokevirtual 87, 3) := by decide +kernel
theorem dL_law_697 : decode cL_law 697 = .ok (.aload_n 2, 1) := by decide +kernel
theorem dL_law_698 : decode cL_law 698 = .ok (.invokevirtual 90, 3) := by decide +kernel
theorem dL_law_701 : decode cL_law 701 = .ok (.if_icmp .eq 239, 3) := by decide +kernel
theorem dL_law_704 : decode cL_law 704 = .ok (.iconst 0, 1) := by decide +kernel
theorem dL_law_705 : decode cL_law 705 = .ok (.ireturn, 1) := by decide +kernel
theorem dL_law_706 : decode cL_law 706 = .ok (.aload_n 1, 1) := by decide +kernel
theorem dL_law_707 : decode cL_law 707 = .ok (.aload_n 0, 1) := by decide +kernel
theorem dL_law_708 : decode cL_law 708 = .ok (.iload_n 3, 1) := by decide +kernel
theorem dL_law_709 : decode cL_law 709 = .ok (.iconst 1, 1) := by decide +kernel
theorem dL_law_710 : decode cL_law 710 = .ok (.iadd, 1) := by decide +kernel
theorem dL_law_711 : decode cL_law 711 = .ok (.iaload, 1) := by decide +kernel
theorem dL_law_712 : decode cL_law 712 = .ok (.aload_n 0, 1) := by decide +kernel
theorem dL_law_713 : decode cL_law 713 = .ok (.iload_n 3, 1) := by decide +kernel
theorem dL_law_714 : decode cL_law 714 = .ok (.iconst 2, 1) := by decide +kernel
theorem dL_law_715 : decode cL_law 715 = .ok (.iadd, 1) := by decide +kernel
theorem dL_law_716 : decode cL_law 716 = .ok (.iaload, 1) := by decide +kernel
theorem dL_law_717 : decode cL_law 717 = .ok (.invokevirtual 91, 3) := by decide +kernel
theorem dL_law_720 : decode cL_law 720 = .ok (.aload_n 2, 1) := by decide +kernel
theorem dL_law_721 : decode cL_law 721 = .ok (.aload_n 0, 1) := by decide +kernel
theorem dL_law_722 : decode cL_law 722 = .ok (.iload_n 3, 1) := by decide +kernel
theorem dL_law_723 : decode cL_law 723 = .ok (.iconst 1, 1) := by decide +kernel
theorem dL_law_724 : decode cL_law 724 = .ok (.iadd, 1) := by decide +kernel
theorem dL_law_725 : decode cL_law 725 = .ok (.iaload, 1) := by decide +kernel
theorem dL_law_726 : decode cL_law 726 = .ok (.aload_n 0, 1) := by decide +kernel
theorem dL_law_727 : decode cL_law 727 = .ok (.iload_n 3, 1) := by decide +kernel
theorem dL_law_728 : decode cL_law 728 = .ok (.iconst 2, 1) := by decide +kernel
theorem dL_law_729 : decode cL_law 729 = .ok (.iadd, 1) := by decide +kernel
theorem dL_law_730 : decode cL_law 730 = .ok (.iaload, 1) := by decide +kernel
theorem dL_law_731 : decode cL_law 731 = .ok (.invokevirtual 94, 3) := by decide +kernel
theorem dL_law_734 : decode cL_law 734 = .ok (.if_icmp .eq 206, 3) := by decide +kernel
theorem dL_law_737 : decode cL_law 737 = .ok (.iconst 0, 1) := by decide +kernel
theorem dL_law_738 : decode cL_law 738 = .ok (.ireturn, 1) := by decide +kernel
theorem dL_law_739 : decode cL_law 739 = .ok (.aload_n 1, 1) := by decide +kernel
theorem dL_law_740 : decode cL_law 740 = .ok (.invokevirtual 95, 3) := by decide +kernel
theorem dL_law_743 : decode cL_law 743 = .ok (.aload_n 2, 1) := by decide +kernel
theorem dL_law_744 : decode cL_law 744 = .ok (.invokevirtual 98, 3) := by decide +kernel
theorem dL_law_747 : decode cL_law 747 = .ok (.if_icmp .eq 193, 3) := by decide +kernel
theorem dL_law_750 : decode cL_law 750 = .ok (.iconst 0, 1) := by decide +kernel
theorem dL_law_751 : decode cL_law 751 = .ok (.ireturn, 1) := by decide +kernel
theorem dL_law_752 : decode cL_law 752 = .ok (.aload_n 1, 1) := by decide +kernel
theorem dL_law_753 : decode cL_law 753 = .ok (.aload_n 0, 1) := by decide +kernel
theorem dL_law_754 : decode cL_law 754 = .ok (.iload_n 3, 1) := by decide +kernel
theorem dL_law_755 : decode cL_law 755 = .ok (.iconst 1, 1) := by decide +kernel
theorem dL_law_756 : decode cL_law 756 = .ok (.iadd, 1) := by decide +kernel
theorem dL_law_757 : decode cL_law 757 = .ok (.iaload, 1) := by decide +kernel
theorem dL_law_758 : decode cL_law 758 = .ok (.aload_n 0, 1) := by decide +kernel
theorem dL_law_759 : decode cL_law 759 = .ok (.iload_n 3, 1) := by decide +kernel
theorem dL_law_760 : decode cL_law 760 = .ok (.iconst 2, 1) := by decide +kernel
theorem dL_law_761 : decode cL_law 761 = .ok (.iadd, 1) := by decide +kernel
theorem dL_law_762 : decode cL_law 762 = .ok (.iaload, 1) := by decide +kernel
theorem dL_law_763 : decode cL_law 763 = .ok (.invokevirtual 99, 3) := by decide +kernel
theorem dL_law_766 : decode cL_law 766 = .ok (.aload_n 2, 1) := by decide +kernel
theorem dL_law_767 : decode cL_law 767 = .ok (.aload_n 0, 1) := by decide +kernel
theorem dL_law_768 : decode cL_law 768 = .ok (.iload_n 3, 1) := by decide +kernel
theorem dL_law_769 : decode cL_law 769 = .ok (.iconst 1, 1) := by decide +kernel
theorem dL_law_770 : decode cL_law 770 = .ok (.iadd, 1) := by decide +kernel
theorem dL_law_771 : decode cL_law 771 = .ok (.iaload, 1) := by decide +kernel
theorem dL_law_772 : decode cL_law 772 = .ok (.aload_n 0, 1) := by decide +kernel
theorem dL_law_773 : decode cL_law 773 = .ok (.iload_n 3, 1) := by decide +kernel
theorem dL_law_774 : decode cL_law 774 = .ok (.iconst 2, 1) := by decide +kernel
theorem dL_law_775 : decode cL_law 775 = .ok (.iadd, 1) := by decide +kernel
theorem dL_law_776 : decode cL_law 776 = .ok (.iaload, 1) := by decide +kernel
theorem dL_law_777 : decode cL_law 777 = .ok (.invokevirtual 102, 3) := by decide +kernel
theorem dL_law_780 : decode cL_law 780 = .ok (.if_icmp .eq 160, 3) := by decide +kernel
theorem dL_law_783 : decode cL_law 783 = .ok (.iconst 0, 1) := by decide +kernel
theorem dL_law_784 : decode cL_law 784 = .ok (.ireturn, 1) := by decide +kernel
theorem dL_law_785 : decode cL_law 785 = .ok (.aload_n 1, 1) := by decide +kernel
theorem dL_law_786 : decode cL_law 786 = .ok (.aload_n 0, 1) := by decide +kernel
theorem dL_law_787 : decode cL_law 787 = .ok (.iload_n 3, 1) := by decide +kernel
theorem dL_law_788 : decode cL_law 788 = .ok (.iconst 1, 1) := by decide +kernel
theorem dL_law_789 : decode cL_law 789 = .ok (.iadd, 1) := by decide +kernel
theorem dL_law_790 : decode cL_law 790 = .ok (.iaload, 1) := by decide +kernel
theorem dL_law_791 : decode cL_law 791 = .ok (.invokevirtual 103, 3) := by decide +kernel
theorem dL_law_794 : decode cL_law 794 = .ok (.aload_n 2, 1) := by decide +kernel
theorem dL_law_795 : decode cL_law 795 = .ok (.aload_n 0, 1) := by decide +kernel
theorem dL_law_796 : decode cL_law 796 = .ok (.iload_n 3, 1) := by decide +kernel
theorem dL_law_797 : decode cL_law 797 = .ok (.iconst 1, 1) := by decide +kernel
theorem dL_law_798 : decode cL_law 798 = .ok (.iadd, 1) := by decide +kernel
theorem dL_law_799 : decode cL_law 799 = .ok (.iaload, 1) := by decide +kernel
theorem dL_law_800 : decode cL_law 800 = .ok (.invokevirtual 106, 3) := by decide +kernel
theorem dL_law_803 : decode cL_law 803 = .ok (.if_icmp .eq 137, 3) := by decide +kernel
theorem dL_law_806 : decode cL_law 806 = .ok (.iconst 0, 1) := by decide +kernel
theorem dL_law_807 : decode cL_law 807 = .ok (.ireturn, 1) := by decide +kernel
theorem dL_law_808 : decode cL_law 808 = .ok (.aload_n 1, 1) := by decide +kernel
theorem dL_law_809 : decode cL_law 809 = .ok (.aload_n 0, 1) := by decide +kernel
theorem dL_law_810 : decode cL_law 810 = .ok (.iload_n 3, 1) := by decide +kernel
theorem dL_law_811 : decode cL_law 811 = .ok (.iconst 1, 1) := by decide +kernel
theorem dL_law_812 : decode cL_law 812 = .ok (.iadd, 1) := by decide +kernel
theorem dL_law_813 : decode cL_law 813 = .ok (.iaload, 1) := by decide +kernel
theorem dL_law_814 : decode cL_law 814 = .ok (.aload_n 0, 1) := by decide +kernel
theorem dL_law_815 : decode cL_law 815 = .ok (.iload_n 3, 1) := by decide +kernel
theorem dL_law_816 : decode cL_law 816 = .ok (.iconst 2, 1) := by decide +kernel
theorem dL_law_817 : decode cL_law 817 = .ok (.iadd, 1) := by decide +kernel
theorem dL_law_818 : decode cL_law 818 = .ok (.iaload, 1) := by decide +kernel
theorem dL_law_819 : decode cL_law 819 = .ok (.invokevirtual 107, 3) := by decide +kernel
theorem dL_law_822 : decode cL_law 822 = .ok (.aload_n 2, 1) := by decide +kernel
theorem dL_law_823 : decode cL_law 823 = .ok (.aload_n 0, 1) := by decide +kernel
theorem dL_law_824 : decode cL_law 824 = .ok (.iload_n 3, 1) := by decide +kernel
theorem dL_law_825 : decode cL_law 825 = .ok (.iconst 1, 1) := by decide +kernel
theorem dL_law_826 : decode cL_law 826 = .ok (.iadd, 1) := by decide +kernel
theorem dL_law_827 : decode cL_law 827 = .ok (.iaload, 1) := by decide +kernel
theorem dL_law_828 : decode cL_law 828 = .ok (.aload_n 0, 1) := by decide +kernel
theorem dL_law_829 : decode cL_law 829 = .ok (.iload_n 3, 1) := by decide +kernel
theorem dL_law_830 : decode cL_law 830 = .ok (.iconst 2, 1) := by decide +kernel
theorem dL_law_831 : decode cL_law 831 = .ok (.iadd, 1) := by decide +kernel
theorem dL_law_832 : decode cL_law 832 = .ok (.iaload, 1) := by decide +kernel
theorem dL_law_833 : decode cL_law 833 = .ok (.invokevirtual 110, 3) := by decide +kernel
theorem dL_law_836 : decode cL_law 836 = .ok (.if_icmp .eq 104, 3) := by decide +kernel
theorem dL_law_839 : decode cL_law 839 = .ok (.iconst 0, 1) := by decide +kernel
theorem dL_law_840 : decode cL_law 840 = .ok (.ireturn, 1) := by decide +kernel
theorem dL_law_841 : decode cL_law 841 = .ok (.aload_n 1, 1) := by decide +kernel
theorem dL_law_842 : decode cL_law 842 = .ok (.aload_n 0, 1) := by decide +kernel
theorem dL_law_843 : decode cL_law 843 = .ok (.iload_n 3, 1) := by decide +kernel
theorem dL_law_844 : decode cL_law 844 = .ok (.iconst 1, 1) := by decide +kernel
theorem dL_law_845 : decode cL_law 845 = .ok (.iadd, 1) := by decide +kernel
theorem dL_law_846 : decode cL_law 846 = .ok (.iaload, 1) := by decide +kernel
theorem dL_law_847 : decode cL_law 847 = .ok (.aload_n 0, 1) := by decide +kernel
theorem dL_law_848 : decode cL_law 848 = .ok (.iload_n 3, 1) := by decide +kernel
theorem dL_law_849 : decode cL_law 849 = .ok (.iconst 2, 1) := by decide +kernel
theorem dL_law_850 : decode cL_law 850 = .ok (.iadd, 1) := by decide +kernel
theorem dL_law_851 : decode cL_law 851 = .ok (.iaload, 1) := by decide +kernel
theorem dL_law_852 : decode cL_law 852 = .ok (.aload_n 0, 1) := by decide +kernel
theorem dL_law_853 : decode cL_law 853 = .ok (.iload_n 3, 1) := by decide +kernel
theorem dL_law_854 : decode cL_law 854 = .ok (.iconst 3, 1) := by decide +kernel
theorem dL_law_855 : decode cL_law 855 = .ok (.iadd, 1) := by decide +kernel
theorem dL_law_856 : decode cL_law 856 = .ok (.iaload, 1) := by decide +kernel
theorem dL_law_857 : decode cL_law 857 = .ok (.aload_n 0, 1) := by decide +kernel
theorem dL_law_858 : decode cL_law 858 = .ok (.iload_n 3, 1) := by decide +kernel
theorem dL_law_859 : decode cL_law 859 = .ok (.iconst 4, 1) := by decide +kernel
theorem dL_law_860 : decode cL_law 860 = .ok (.iadd, 1) := by decide +kernel
theorem dL_law_861 : decode cL_law 861 = .ok (.iaload, 1) := by decide +kernel
theorem dL_law_862 : decode cL_law 862 = .ok (.aload_n 0, 1) := by decide +kernel
theorem dL_law_863 : decode cL_law 863 = .ok (.iload_n 3, 1) := by decide +kernel
theorem dL_law_864 : decode cL_law 864 = .ok (.iconst 5, 1) := by decide +kernel
theorem dL_law_865 : decode cL_law 865 = .ok (.iadd, 1) := by decide +kernel
theorem dL_law_866 : decode cL_law 866 = .ok (.iaload, 1) := by decide +kernel
theorem dL_law_867 : decode cL_law 867 = .ok (.invokevirtual 111, 3) := by decide +kernel
theorem dL_law_870 : decode cL_law 870 = .ok (.aload_n 2, 1) := by decide +kernel
theorem dL_law_871 : decode cL_law 871 = .ok (.aload_n 0, 1) := by decide +kernel
theorem dL_law_872 : decode cL_law 872 = .ok (.iload_n 3, 1) := by decide +kernel
theorem dL_law_873 : decode cL_law 873 = .ok (.iconst 1, 1) := by decide +kernel
theorem dL_law_874 : decode cL_law 874 = .ok (.iadd, 1) := by decide +kernel
theorem dL_law_875 : decode cL_law 875 = .ok (.iaload, 1) := by decide +kernel
theorem dL_law_876 : decode cL_law 876 = .ok (.aload_n 0, 1) := by decide +kernel
theorem dL_law_877 : decode cL_law 877 = .ok (.iload_n 3, 1) := by decide +kernel
theorem dL_law_878 : decode cL_law 878 = .ok (.iconst 2, 1) := by decide +kernel
theorem dL_law_879 : decode cL_law 879 = .ok (.iadd, 1) := by decide +kernel
theorem dL_law_880 : decode cL_law 880 = .ok (.iaload, 1) := by decide +kernel
theorem dL_law_881 : decode cL_law 881 = .ok (.aload_n 0, 1) := by decide +kernel
theorem dL_law_882 : decode cL_law 882 = .ok (.iload_n 3, 1) := by decide +kernel
theorem dL_law_883 : decode cL_law 883 = .ok (.iconst 3, 1) := by decide +kernel
theorem dL_law_884 : decode cL_law 884 = .ok (.iadd, 1) := by decide +kernel
theorem dL_law_885 : decode cL_law 885 = .ok (.iaload, 1) := by decide +kernel
theorem dL_law_886 : decode cL_law 886 = .ok (.aload_n 0, 1) := by decide +kernel
theorem dL_law_887 : decode cL_law 887 = .ok (.iload_n 3, 1) := by decide +kernel
theorem dL_law_888 : decode cL_law 888 = .ok (.iconst 4, 1) := by decide +kernel
theorem dL_law_889 : decode cL_law 889 = .ok (.iadd, 1) := by decide +kernel
theorem dL_law_890 : decode cL_law 890 = .ok (.iaload, 1) := by decide +kernel
theorem dL_law_891 : decode cL_law 891 = .ok (.aload_n 0, 1) := by decide +kernel
theorem dL_law_892 : decode cL_law 892 = .ok (.iload_n 3, 1) := by decide +kernel
theorem dL_law_893 : decode cL_law 893 = .ok (.iconst 5, 1) := by decide +kernel
theorem dL_law_894 : decode cL_law 894 = .ok (.iadd, 1) := by decide +kernel
theorem dL_law_895 : decode cL_law 895 = .ok (.iaload, 1) := by decide +kernel
theorem dL_law_896 : decode cL_law 896 = .ok (.invokevirtual 114, 3) := by decide +kernel
theorem dL_law_899 : decode cL_law 899 = .ok (.if_icmp .eq 41, 3) := by decide +kernel
theorem dL_law_902 : decode cL_law 902 = .ok (.iconst 0, 1) := by decide +kernel
theorem dL_law_903 : decode cL_law 903 = .ok (.ireturn, 1) := by decide +kernel
theorem dL_law_904 : decode cL_law 904 = .ok (.aload_n 1, 1) := by decide +kernel
theorem dL_law_905 : decode cL_law 905 = .ok (.invokevirtual 115, 3) := by decide +kernel
theorem dL_law_908 : decode cL_law 908 = .ok (.aload_n 2, 1) := by decide +kernel
theorem dL_law_909 : decode cL_law 909 = .ok (.invokevirtual 118, 3) := by decide +kernel
theorem dL_law_912 : decode cL_law 912 = .ok (.if_icmp .eq 28, 3) := by decide +kernel
theorem dL_law_915 : decode cL_law 915 = .ok (.iconst 0, 1) := by decide +kernel
theorem dL_law_916 : decode cL_law 916 = .ok (.ireturn, 1) := by decide +kernel
theorem dL_law_917 : decode cL_law 917 = .ok (.aload_n 1, 1) := by decide +kernel
theorem dL_law_918 : decode cL_law 918 = .ok (.aload_n 0, 1) := by decide +kernel
theorem dL_law_919 : decode cL_law 919 = .ok (.iload_n 3, 1) := by decide +kernel
theorem dL_law_920 : decode cL_law 920 = .ok (.iconst 1, 1) := by decide +kernel
theorem dL_law_921 : decode cL_law 921 = .ok (.iadd, 1) := by decide +kernel
theorem dL_law_922 : decode cL_law 922 = .ok (.iaload, 1) := by decide +kernel
theorem dL_law_923 : decode cL_law 923 = .ok (.invokevirtual 119, 3) := by decide +kernel
theorem dL_law_926 : decode cL_law 926 = .ok (.aload_n 2, 1) := by decide +kernel
theorem dL_law_927 : decode cL_law 927 = .ok (.aload_n 0, 1) := by decide +kernel
theorem dL_law_928 : decode cL_law 928 = .ok (.iload_n 3, 1) := by decide +kernel
theorem dL_law_929 : decode cL_law 929 = .ok (.iconst 1, 1) := by decide +kernel
theorem dL_law_930 : decode cL_law 930 = .ok (.iadd, 1) := by decide +kernel
theorem dL_law_931 : decode cL_law 931 = .ok (.iaload, 1) := by decide +kernel
theorem dL_law_932 : decode cL_law 932 = .ok (.invokevirtual 122, 3) := by decide +kernel
theorem dL_law_935 : decode cL_law 935 = .ok (.if_icmp .eq 5, 3) := by decide +kernel
theorem dL_law_938 : decode cL_law 938 = .ok (.iconst 0, 1) := by decide +kernel
theorem dL_law_939 : decode cL_law 939 = .ok (.ireturn, 1) := by decide +kernel
theorem dL_law_940 : decode cL_law 940 = .ok (.iinc 3 6, 3) := by decide +kernel
theorem dL_law_943 : decode cL_law 943 = .ok (.goto (-925), 3) := by decide +kernel
theorem dL_law_946 : decode cL_law 946 = .ok (.iconst 1, 1) := by decide +kernel
theorem dL_law_947 : decode cL_law 947 = .ok (.ireturn, 1) := by decide +kernel
end
section
/-! THE MEMORY AND THE SHAPE: objects have numbers; what a number is (kd), how long an array is (ln), where its references go (rf) never changes behind the constructors; the memory holds the ints (and booleans) and the longs. -/
abbrev Me : Type := (Nat → Nat → Int32) × (Nat → Nat → Int64)
def si (m : Me) (o j : Nat) (v : Int32) : Me := (fun a b => if a = o ∧ b = j then v else m.1 a b, m.2)
def sl (m : Me) (o j : Nat) (v : Int64) : Me := (m.1, fun a b => if a = o ∧ b = j then v else m.2 a b)
def sr (m : Me) (o : Nat) (f : Nat → Int32) : Me := (fun a => if a = o then f else m.1 a, m.2)
/-- class (0 .. 8) or array (20 int, 21 long, 22 boolean, 23 Box, 24 Chart); 99: nothing -/
def kd (o : Nat) : Nat :=
  if o < 10 then [7, 2, 24, 3, 23, 20, 4, 20, 20, 6].getD o 99
  else if o < 100 then (if o % 10 = 0 then 1 else 20)
  else if o < 111 then [20, 22, 20, 21, 21, 5, 20, 20, 20, 20, 20].getD (o - 100) 99
  else if o < 200 then 99
  else if o < 223 then [8, 20, 20, 20, 20, 20, 20, 20, 20, 20, 20, 21, 21, 20, 22, 20, 20, 20, 20, 20, 20, 20, 20].getD (o - 200) 99
  else if o < 1000 then 99
  else if o < 1388 then 0 else 99
def ln (o : Nat) : Nat :=
  if o < 10 then [0, 0, 8, 0, 384, 24, 0, 24, 24, 0].getD o 0
  else if o < 100 then (if 8 ≤ o % 10 then 20 else 24)
  else if o < 111 then [7, 7, 119, 119, 119, 0, 24, 24, 24, 24, 24].getD (o - 100) 0
  else [0, 24, 24, 24, 24, 24, 24, 24, 20, 20, 1680, 8, 8, 24, 384, 24, 24, 24, 25, 24, 24, 24, 24].getD (o - 200) 0
def rf (o j : Nat) : Option Nat :=
  if o = 0 then [10, 1, 3, 6, 9, 105, 1384, 1385, 109, 110][j]?
  else if o = 1 then [2][j]?
  else if o = 2 then some (20 + 10 * j)
  else if o = 3 then [4, 5][j]?
  else if o = 4 then some (1000 + j)
  else if o = 6 then [7, 8][j]?
  else if o = 9 then [100, 101, 102, 103, 104][j]?
  else if o < 100 then some (o + j - 1)
  else if o = 105 then [106, 107, 108, 1386, 1387][j]?
  else [none, none, none, some 201, some 202, some 203, some 204, some 205, some 206, some 207, some 208, some 209, some 210, none, none, none, none, none, none, none, some 211, some 212, none, none, none, none, some 213, some 214, some 215, none, some 216, some 217, none, some 218, some 219, some 220, some 221, some 222].getD j none
/-- the slots of a class by their types: 0 int, 1 boolean, 2 long, 3 reference -/
def ftT : List (List Nat) := [[0, 0, 0, 0, 1, 0, 0, 0, 0], [0, 0, 3, 3, 3, 3, 3, 3, 3, 3, 3], [3, 0, 0], [3, 3, 1], [3, 3, 0, 0, 1], [3, 3, 3, 3, 3, 1], [3, 3, 3, 3, 3, 0, 2, 2, 0, 0], [3, 3, 3, 3, 3, 3, 3, 3, 3, 3], [0, 0, 0, 3, 3, 3, 3, 3, 3, 3, 3, 3, 3, 0, 0, 0, 0, 0, 0, 0, 3, 3, 2, 2, 2, 2, 3, 3, 3, 0, 3, 3, 0, 3, 3, 3, 3, 3]]
def ft (c j : Nat) : Nat := (ftT.getD c []).getD j 9
def nf (c : Nat) : Nat := (ftT.getD c []).length
def sv (ad : Nat → Nat) (m : Me) (o j t : Nat) : Value := if t < 2 then .int (m.1 o j) else if t = 2 then .long (m.2 o j) else va_rf ((rf o j).map ad)
def fsOf (ad : Nat → Nat) (m : Me) (o : Nat) : List Value := (List.range (nf (kd o))).map (fun j => sv ad m o j (ft (kd o) j))
def cel (cy : Nat → ClassId) (ad : Nat → Nat) (m : Me) (o : Nat) : va_E :=
  if kd o < 9 then .inr (kd o, fsOf ad m o)
  else if kd o = 20 then .inl (cy 0, ln o, .inl (m.1 o))
  else if kd o = 21 then .inl (cy 1, ln o, .inr (.inl (m.2 o)))
  else if kd o = 22 then .inl (cy 2, ln o, .inl (m.1 o))
  else if kd o = 23 then .inl (cy 3, ln o, .inr (.inr (.inr (.inr (fun i => (rf o i).map ad)))))
  else .inl (cy 4, ln o, .inr (.inr (.inr (.inr (fun i => (rf o i).map ad)))))
def Lv : List Nat := (List.range 1388).filter (fun o => kd o != 99)
theorem Lv_in {o : Nat} (h : kd o ≠ 99) : o ∈ Lv := by
  refine List.mem_filter.mpr ⟨List.mem_range.mpr ?_, by simpa using h⟩
  rcases Nat.lt_or_ge o 1388 with q | q
  · exact q
  · exact absurd (by unfold kd; rw [if_neg (by omega), if_neg (by omega), if_neg (by omega), if_neg (by omega), if_neg (by omega), if_neg (by omega), if_neg (by omega)]) h
theorem Lv_nd : Lv.Nodup := List.Pairwise.filter _ List.nodup_range
def wsW (cy : Nat → ClassId) (ad : Nat → Nat) (m : Me) : va_W := Lv.map (fun o => (ad o, cel cy ad m o))
theorem ws_get {cy : Nat → ClassId} {ad : Nat → Nat} {m : Me} {o : Nat} (h : kd o ≠ 99) : ∃ k : Nat, Lv[k]? = some o ∧ (wsW cy ad m)[k]? = some (ad o, cel cy ad m o) := by
  obtain ⟨k, hk⟩ := List.getElem?_of_mem (Lv_in h)
  exact ⟨k, hk, by unfold wsW; rw [List.getElem?_map, hk]; rfl⟩
theorem ws_set {cy : Nat → ClassId} {ad : Nat → Nat} {m m' : Me} {o k : Nat} {e : va_E} (hk : Lv[k]? = some o) (h1 : cel cy ad m' o = e) (h2 : ∀ o', o' ≠ o → cel cy ad m' o' = cel cy ad m o') : (wsW cy ad m).set k (ad o, e) = wsW cy ad m' := by
  apply List.ext_getElem?
  intro i
  unfold wsW
  rw [List.getElem?_set, List.getElem?_map, List.length_map]
  by_cases hi : k = i
  · subst hi
    have hl := (List.getElem?_eq_some_iff.mp hk).1
    rw [if_pos rfl, if_pos hl, List.getElem?_map, hk, ← h1]
    rfl
  · rw [if_neg hi, List.getElem?_map]
    cases hx : Lv[i]? with
    | none => rfl
    | some o' =>
      have hne : o' ≠ o := by
        intro q
        subst q
        have hl := (List.getElem?_eq_some_iff.mp hk).1
        have e1 := (List.getElem?_eq_some_iff.mp hk).2
        have hl2 := (List.getElem?_eq_some_iff.mp hx).1
        have e2 := (List.getElem?_eq_some_iff.mp hx).2
        exact hi ((List.getElem_inj Lv_nd).mp (e1.trans e2.symm))
      show some (ad o', cel cy ad m o') = some (ad o', cel cy ad m' o')
      rw [h2 o' hne]
/-- the addresses are apart, and of A -/
def Ap (A : Nat → Prop) (ad : Nat → Nat) : Prop := (∀ o o' : Nat, kd o ≠ 99 → kd o' ≠ 99 → ad o = ad o' → o = o') ∧ ∀ o : Nat, kd o ≠ 99 → A (ad o)
theorem Lv_kd {k o : Nat} (h : Lv[k]? = some o) : kd o ≠ 99 := by
  have h1 := (List.mem_filter.mp (List.mem_of_getElem? h)).2
  simpa using h1
theorem Ap.D {A : Nat → Prop} {ad : Nat → Nat} (h : Ap A ad) (cy : Nat → ClassId) (m : Me) : va_D A (wsW cy ad m) := by
  have at' : ∀ (i : Nat) (p : Nat × va_E), (wsW cy ad m)[i]? = some p → ∃ o, Lv[i]? = some o ∧ p.1 = ad o := by
    intro i p hp
    unfold wsW at hp
    rw [List.getElem?_map] at hp
    cases hx : Lv[i]? with
    | none => rw [hx] at hp; cases hp
    | some o => rw [hx] at hp; cases hp; exact ⟨o, rfl, rfl⟩
  refine ⟨fun i j p q hp hq hpq => ?_, fun k q hq => ?_⟩
  · obtain ⟨o, h1, h2⟩ := at' i p hp
    obtain ⟨o', h3, h4⟩ := at' j q hq
    have ho := h.1 o o' (Lv_kd h1) (Lv_kd h3) (by rw [← h2, ← h4, hpq])
    subst ho
    have e1 := (List.getElem?_eq_some_iff.mp h1).2
    have e2 := (List.getElem?_eq_some_iff.mp h3).2
    exact (List.getElem_inj Lv_nd).mp (e1.trans e2.symm)
  · obtain ⟨o, h1, h2⟩ := at' k q hq
    rw [h2]
    exact h.2 o (Lv_kd h1)
theorem fs_at {ad : Nat → Nat} {m : Me} {o j : Nat} (h : j < nf (kd o)) : (fsOf ad m o)[j]? = some (sv ad m o j (ft (kd o) j)) := by
  unfold fsOf
  rw [List.getElem?_map, List.getElem?_range h]
  rfl
theorem cel_o {cy : Nat → ClassId} {ad : Nat → Nat} {m : Me} {o : Nat} (h : kd o < 9) : cel cy ad m o = .inr (kd o, fsOf ad m o) := by
  unfold cel; rw [if_pos h]
theorem cel_i {cy : Nat → ClassId} {ad : Nat → Nat} {m : Me} {o : Nat} (h : kd o = 20) : cel cy ad m o = .inl (cy 0, ln o, .inl (m.1 o)) := by
  unfold cel; rw [if_neg (by omega), if_pos h]
theorem cel_l {cy : Nat → ClassId} {ad : Nat → Nat} {m : Me} {o : Nat} (h : kd o = 21) : cel cy ad m o = .inl (cy 1, ln o, .inr (.inl (m.2 o))) := by
  unfold cel; rw [if_neg (by omega), if_neg (by omega), if_pos h]
theorem cel_z {cy : Nat → ClassId} {ad : Nat → Nat} {m : Me} {o : Nat} (h : kd o = 22) : cel cy ad m o = .inl (cy 2, ln o, .inl (m.1 o)) := by
  unfold cel; rw [if_neg (by omega), if_neg (by omega), if_neg (by omega), if_pos h]
theorem cel_b {cy : Nat → ClassId} {ad : Nat → Nat} {m : Me} {o : Nat} (h : kd o = 23) : cel cy ad m o = .inl (cy 3, ln o, .inr (.inr (.inr (.inr (fun i => (rf o i).map ad))))) := by
  unfold cel; rw [if_neg (by omega), if_neg (by omega), if_neg (by omega), if_neg (by omega), if_pos h]
theorem cel_c {cy : Nat → ClassId} {ad : Nat → Nat} {m : Me} {o : Nat} (h : kd o = 24) : cel cy ad m o = .inl (cy 4, ln o, .inr (.inr (.inr (.inr (fun i => (rf o i).map ad))))) := by
  unfold cel; rw [if_neg (by omega), if_neg (by omega), if_neg (by omega), if_neg (by omega), if_neg (by omega)]
/-- two memories that agree on an object's ints and longs have the same cell there -/
theorem cel_eq {cy : Nat → ClassId} {ad : Nat → Nat} {m m' : Me} {o : Nat} (h1 : m'.1 o = m.1 o) (h2 : m'.2 o = m.2 o) : cel cy ad m' o = cel cy ad m o := by
  unfold cel fsOf sv
  rw [h1, h2]
theorem si_ne {m : Me} {o o' j : Nat} {v : Int32} (h : o' ≠ o) : (si m o j v).1 o' = m.1 o' := by
  funext b; unfold si; simp [h]
theorem sl_ne {m : Me} {o o' j : Nat} {v : Int64} (h : o' ≠ o) : (sl m o j v).2 o' = m.2 o' := by
  funext b; unfold sl; simp [h]
theorem sr_ne {m : Me} {o o' : Nat} {f : Nat → Int32} (h : o' ≠ o) : (sr m o f).1 o' = m.1 o' := by
  unfold sr; simp [h]
theorem si_upd {m : Me} {o j : Nat} {v : Int32} : (si m o j v).1 o = upd (m.1 o) j v := by
  funext b; unfold si upd; simp
theorem sl_upd {m : Me} {o j : Nat} {v : Int64} : (sl m o j v).2 o = vp_updL (m.2 o) j v := by
  funext b; unfold sl vp_updL; simp
theorem fs_si {ad : Nat → Nat} {m : Me} {o j : Nat} {v : Int32} (ht : ft (kd o) j < 2) : fsOf ad (si m o j v) o = (fsOf ad m o).set j (.int v) := by
  apply List.ext_getElem?
  intro i
  unfold fsOf
  rw [List.getElem?_set, List.getElem?_map, List.getElem?_map, List.length_map, List.length_range]
  by_cases hi : j = i
  · subst hi
    rw [if_pos rfl]
    by_cases hl : j < nf (kd o)
    · rw [if_pos hl, List.getElem?_range hl]
      show some (sv ad (si m o j v) o j (ft (kd o) j)) = _
      unfold sv
      rw [if_pos ht]
      simp [si]
    · rw [if_neg hl, List.getElem?_eq_none (by simpa using hl)]
      rfl
  · rw [if_neg hi]
    by_cases hl : i < nf (kd o)
    · rw [List.getElem?_range hl]
      show some (sv ad (si m o j v) o i (ft (kd o) i)) = some (sv ad m o i (ft (kd o) i))
      unfold sv si
      simp [Ne.symm hi]
    · rw [List.getElem?_eq_none (by simpa using hl)]
      rfl
theorem fs_sl {ad : Nat → Nat} {m : Me} {o j : Nat} {v : Int64} (ht : ft (kd o) j = 2) : fsOf ad (sl m o j v) o = (fsOf ad m o).set j (.long v) := by
  apply List.ext_getElem?
  intro i
  unfold fsOf
  rw [List.getElem?_set, List.getElem?_map, List.getElem?_map, List.length_map, List.length_range]
  by_cases hi : j = i
  · subst hi
    rw [if_pos rfl]
    by_cases hl : j < nf (kd o)
    · rw [if_pos hl, List.getElem?_range hl]
      show some (sv ad (sl m o j v) o j (ft (kd o) j)) = _
      unfold sv
      rw [if_neg (by omega), if_pos ht]
      simp [sl]
    · rw [if_neg hl, List.getElem?_eq_none (by simpa using hl)]
      rfl
  · rw [if_neg hi]
    by_cases hl : i < nf (kd o)
    · rw [List.getElem?_range hl]
      show some (sv ad (sl m o j v) o i (ft (kd o) i)) = some (sv ad m o i (ft (kd o) i))
      unfold sv sl
      simp [Ne.symm hi]
    · rw [List.getElem?_eq_none (by simpa using hl)]
      rfl
theorem ws_si {cy : Nat → ClassId} {ad : Nat → Nat} {m : Me} {o j k : Nat} {v : Int32} (hk : Lv[k]? = some o) (h9 : kd o < 9) (ht : ft (kd o) j < 2) : (wsW cy ad m).set k (ad o, .inr (kd o, (fsOf ad m o).set j (.int v))) = wsW cy ad (si m o j v) :=
  ws_set hk (by rw [cel_o h9, fs_si ht]) (fun _ h => cel_eq (si_ne h) rfl)
theorem ws_sl {cy : Nat → ClassId} {ad : Nat → Nat} {m : Me} {o j k : Nat} {v : Int64} (hk : Lv[k]? = some o) (h9 : kd o < 9) (ht : ft (kd o) j = 2) : (wsW cy ad m).set k (ad o, .inr (kd o, (fsOf ad m o).set j (.long v))) = wsW cy ad (sl m o j v) :=
  ws_set hk (by rw [cel_o h9, fs_sl ht]) (fun _ h => cel_eq rfl (sl_ne h))
end
section
/-- the words that stay through warming -/
def gtw (w : Cond) : Bool := k2_isCode w || goodWord w
def gt : List Cond := lw_tbl.filter gtw
theorem gt_in {w : Cond} (h : w ∈ lw_tbl) (hg : gtw w = true) : w ∈ gt := List.mem_filter.mpr ⟨h, hg⟩
theorem gt_sub {ws : List Cond} (h : ws.all (fun w => decide (w ∈ lw_tbl) && gtw w) = true) : ∀ w ∈ ws, w ∈ gt := by
  intro w hw
  have h1 := List.all_eq_true.mp h w hw
  simp only [Bool.and_eq_true, decide_eq_true_eq] at h1
  exact gt_in h1.1 h1.2
theorem gd_all : GoodIn gt gt := by
  intro w hw
  refine ⟨hw, ?_⟩
  have h2 := (List.mem_filter.mp hw).2
  by_cases hc : k2_isCode w = true
  · cases w <;> first | (simp [k2_isCode] at hc; done) | exact Or.inl rfl
  · unfold gtw at h2
    have hc' : k2_isCode w = false := by simpa using hc
    rw [hc', Bool.false_or] at h2
    exact good_of_word h2
theorem gd_y {y : MethodName} {cc : ByteArray} {nL : Nat} {ret : Option FieldType} (h : Cond.code y cc nL ret ∈ gt) : GoodIn gt (Cond.code y cc nL ret :: gt) := by
  intro w hw
  rcases List.mem_cons.mp hw with rfl | hw
  · exact gd_all _ h
  · exact gd_all _ hw
/-! the static arrays -/
def stt (k j : Nat) : Int32 := (([[1, -1, -1, 1, 1, -1, 0, 0], [-1, -1, 1, 1, 0, 0, -1, 1], [0, 1, 2, 3, 4, 8, 5, 9, 6, 10, 7, 11, 12, 13, 14, 15], [0, 1, 2, 3, 4, 6, 8, 10, 5, 7, 9, 11, 12, 13, 14, 15]] : List (List Int32)).getD k []).getD j 0
def stn (k : Nat) : String := ["ACROSS", "DOWN", "TURNED_BY_PRICE", "TURNED_RANK"].getD k ""
def stl (k : Nat) : Nat := [8, 8, 16, 16].getD k 0
def nsw (k : Nat) : Cond := ([.fieldLinkNest "NameChart$Box" 33 "NameChart" "ACROSS" "[I" "NameChart", .fieldLinkNest "NameChart$Box" 44 "NameChart" "DOWN" "[I" "NameChart", .fieldLinkNest "NameChart$Chart" 60 "NameChart" "TURNED_BY_PRICE" "[I" "NameChart", .fieldLinkNest "NameChart$Chart" 63 "NameChart" "TURNED_RANK" "[I" "NameChart"] : List Cond).getD k .tt
theorem nsw_warm {k : Nat} {s U : State} (hk : k < 4) (hW : s.WarmedH U.vm) (h : va_Nw (nsw k) s) : va_Nw (nsw k) U := by
  rcases (show k = 0 ∨ k = 1 ∨ k = 2 ∨ k = 3 by omega) with rfl | rfl | rfl | rfl <;> exact va_Nw.warmF hW h
def Sts (A : Nat → Prop) (sad : Nat → Nat) (s : State) (H : Heap) : Prop := ∀ k, k < 4 → va_Z "NameChart" (stn k) "[I" (.ref (sad k)) A s H ∧ va_T .int (sad k) (stl k) (fun j => .int (stt k j)) A s H ∧ va_Nw (nsw k) s
theorem Sts.kept {A : Nat → Prop} {sad : Nat → Nat} {s U : State} {H H1 : Heap} (h : Sts A sad s H) (hW : s.WarmedH U.vm) (hq : ∀ a : Nat, a < H.size → ¬ A a → H1[a]? = H[a]?) : Sts A sad U H1 :=
  fun k hk => ⟨((h k hk).1.moved hW.alike).kept hq, ((h k hk).2.1.moved hW.alike).kept hq, nsw_warm hk hW (h k hk).2.2⟩
def tys (cy : Nat → ClassId) : List (ClassId × FieldType) := [(cy 0, .int), (cy 1, .long), (cy 2, .boolean), (cy 3, .object RX0), (cy 4, .object RX1)]
/-! the judgement -/
abbrev Cx : Type := Program × Launch × Env × Room × State × MethodId × Array Value × List Frame × Method × Code × va_G × (Nat → ClassId) × (Nat → Nat) × (Nat → Prop) × (Nat → Nat) × Nat × Nat × (Option Value × Me) × (State → Prop)
def xad (X : Cx) : Nat → Nat := X.2.2.2.2.2.2.2.2.2.2.2.2.1
def xsa (X : Cx) : Nat → Nat := X.2.2.2.2.2.2.2.2.2.2.2.2.2.2.1
abbrev rX (X : Cx) (o : Nat) : Value := .ref (xad X o)
def J {ρ : Type} (X : Cx) (ov : ρ → Option Value × Me) (F : Option ρ) (mm : Me) (pc : Nat) (L : List (Nat × Value)) (st : List Value) : Prop :=
  match X with
  | (p, l, e, R, s, m, args, below, meth, c, D, cy, ad, A, _, kc, ks, fin, qq) =>
    ∀ res : ρ, F = some res → ov res = fin → ∀ (H : Heap) (locs : List Loc) (ls : Array Slot), va_P D vwCl (wsW cy ad mm) H → va_S A s.heap H locs → lv_has ls c.maxLocals L → W p l e R s m args below meth c H locs kc ks qq (F0 m pc ls st)
/-- what stands of the method: its code, its class, its locals; the room for fr frames more -/
def Gd (X : Cx) (cc : ByteArray) (own : String) (nL fr : Nat) : Prop :=
  match X with
  | (p, _, _, R, s, m, args, _, meth, c, D, cy, ad, A, sad, kc, ks, _, _) =>
    p.tables.exec = Jvm.exec ∧ c.code = cc ∧ c.maxLocals = nL ∧ s.vm.findClass own = some m.cls ∧ (∀ w ∈ gt, w.before args s = true) ∧ va_K D vwCl (tys cy) s ∧ Ap A ad ∧ Sts A sad s s.heap ∧ meth.locks = false ∧ fr ≤ R.frames ∧ 64 * fr ≤ R.locals ∧ kc ≤ R.cells ∧ ks ≤ R.slots
def Qf (D : va_G) (cy : Nat → ClassId) (ad : Nat → Nat) (A : Nat → Prop) (fin : Option Value × Me) : Array Value → State → Outcome → State → Prop := fun _ st oc t =>
  oc = .returned fin.1 ∧ va_P D vwCl (wsW cy ad fin.2) t.heap ∧ va_K D vwCl (tys cy) t ∧ va_F A st t
/-- the end of a method of ours -/
def Ge (X : Cx) (ret : Option FieldType) : Prop :=
  match X with
  | (_, _, _, _, s, _, args, below, meth, _, D, cy, ad, A, _, kc, ks, fin, qq) =>
    meth.sig.returnType = ret ∧ qq = MQ below (Qf D cy ad A fin) args s kc ks A
/-! what a method answers with: r an int and the memory, v the memory alone, p an int over a memory that stays -/
def oI : Int32 × Me → Option Value × Me := fun r => (some (.int r.1), r.2)
def oV : Me → Option Value × Me := fun r => (none, r)
def oP (m : Me) : Int32 → Option Value × Me := fun r => (some (.int r), m)
def oL (m : Me) : Int64 → Option Value × Me := fun r => (some (.long r), m)
def oR (ad : Nat → Nat) (m : Me) : Nat → Option Value × Me := fun r => (some (.ref (ad r)), m)
/-! the words of the pure text -/
def bd {α β : Type} (x : α) (k : α → β) : β := k x
def rd {α ρ : Type} (n : Nat) (i : Int32) (f : Nat → α) (K : α → Option ρ) : Option ρ := if i < 0 ∨ n ≤ i.toNatClampNeg then none else K (f i.toNatClampNeg)
def wi {ρ : Type} (m : Me) (o n : Nat) (i v : Int32) (K : Me → Option ρ) : Option ρ := if i < 0 ∨ n ≤ i.toNatClampNeg then none else K (si m o i.toNatClampNeg v)
def wl {ρ : Type} (m : Me) (o n : Nat) (i : Int32) (v : Int64) (K : Me → Option ρ) : Option ρ := if i < 0 ∨ n ≤ i.toNatClampNeg then none else K (sl m o i.toNatClampNeg v)
def wz {ρ : Type} (m : Me) (o n : Nat) (i v : Int32) (K : Me → Option ρ) : Option ρ := if i < 0 ∨ n ≤ i.toNatClampNeg then none else if v = 0 ∨ v = 1 then K (si m o i.toNatClampNeg v) else none
def pz {ρ : Type} (m : Me) (o j : Nat) (v : Int32) (K : Me → Option ρ) : Option ρ := if v = 0 ∨ v = 1 then K (si m o j v) else none
def zg {ρ : Type} (v : Int32) (r : ρ) : Option ρ := if v = 0 ∨ v = 1 then some r else none
def cI {α ρ : Type} (x : Option (α × Me)) (K : α → Me → Option ρ) : Option ρ := match x with
  | some r => K r.1 r.2
  | none => none
def cP {α ρ : Type} (x : Option α) (K : α → Option ρ) : Option ρ := match x with
  | some r => K r
  | none => none
section ROWS
variable {ρ : Type} {X : Cx} {ov : ρ → Option Value × Me} {F : Option ρ} {mm : Me} {pc : Nat} {L L' : List (Nat × Value)} {st : List Value} {cc : ByteArray} {own : String} {nL fr : Nat}
theorem r_sub (ks : List Nat) (hl : lv_pick L ks = L') (k : J X ov F mm pc L' st) : J X ov F mm pc L st := by
  obtain ⟨p, l, e, R, s, m, args, below, meth, c, D, cy, ad, A, sad, kc, ks', fin, qq⟩ := X
  intro res hF ho H locs ls hP hS h
  exact k res hF ho H locs ls hP hS (lv_sub h ks hl)
theorem r_none : J X ov (none : Option ρ) mm pc L st := by
  obtain ⟨p, l, e, R, s, m, args, below, meth, c, D, cy, ad, A, sad, kc, ks', fin, qq⟩ := X
  intro res hF
  cases hF
theorem r_ite {c : Prop} [Decidable c] {B C : Option ρ} (kt : c → J X ov B mm pc L st) (kf : ¬ c → J X ov C mm pc L st) : J X ov (if c then B else C) mm pc L st := by
  by_cases h : c
  · rw [if_pos h]; exact kt h
  · rw [if_neg h]; exact kf h
theorem r_join {κ : Type} {x : κ} {T : κ → Option ρ} (P : κ → Prop) (hx : P x) (ht : ∀ k, P k → J X ov (T k) mm pc L st) : J X ov (bd x T) mm pc L st := ht x hx
theorem r_name {α : Type} {x : α} {T : α → Option ρ} {f : α → List Value} (k : ∀ v, J X ov (T v) mm pc L (f v)) : J X ov (bd x T) mm pc L (f x) := k x

theorem r_iconst (hX : Gd X cc own nL fr) {n : Int} {v : Int32} (hd : decode cc pc = .ok (.iconst n, 1)) (hv : Int32.ofInt n = v) (k : J X ov F mm (pc + 1) L (.int v :: st)) : J X ov F mm pc L st := by
  obtain ⟨p, l, e, R, s, m, args, below, meth, c, D, cy, ad, A, sad, kc, ks, fin, qq⟩ := X
  obtain ⟨hx, hb, hml, hown, hts, hK, hA, hSt, hlk, hfr, hlo, hkc, hks⟩ := hX
  intro res hF ho H locs ls hP hS hl
  exact lv_iconst hx hb hd hv (k res hF ho H locs ls hP hS hl)
theorem r_bipush (hX : Gd X cc own nL fr) {n : Int} {v : Int32} (hd : decode cc pc = .ok (.bipush n, 2)) (hv : (Int8.ofInt n).toInt32 = v) (k : J X ov F mm (pc + 2) L (.int v :: st)) : J X ov F mm pc L st := by
  obtain ⟨p, l, e, R, s, m, args, below, meth, c, D, cy, ad, A, sad, kc, ks, fin, qq⟩ := X
  obtain ⟨hx, hb, hml, hown, hts, hK, hA, hSt, hlk, hfr, hlo, hkc, hks⟩ := hX
  intro res hF ho H locs ls hP hS hl
  exact lv_bipush hx hb hd hv (k res hF ho H locs ls hP hS hl)
theorem r_sipush (hX : Gd X cc own nL fr) {n : Int} {v : Int32} (hd : decode cc pc = .ok (.sipush n, 3)) (hv : (Int16.ofInt n).toInt32 = v) (k : J X ov F mm (pc + 3) L (.int v :: st)) : J X ov F mm pc L st := by
  obtain ⟨p, l, e, R, s, m, args, below, meth, c, D, cy, ad, A, sad, kc, ks, fin, qq⟩ := X
  obtain ⟨hx, hb, hml, hown, hts, hK, hA, hSt, hlk, hfr, hlo, hkc, hks⟩ := hX
  intro res hF ho H locs ls hP hS hl
  exact lv_sipush hx hb hd hv (k res hF ho H locs ls hP hS hl)
theorem r_lconst (hX : Gd X cc own nL fr) {n : Fin 2} {v : Int64} (hd : decode cc pc = .ok (.lconst n, 1)) (hv : Int64.ofNat (n : Nat) = v) (k : J X ov F mm (pc + 1) L (.long v :: st)) : J X ov F mm pc L st := by
  obtain ⟨p, l, e, R, s, m, args, below, meth, c, D, cy, ad, A, sad, kc, ks, fin, qq⟩ := X
  obtain ⟨hx, hb, hml, hown, hts, hK, hA, hSt, hlk, hfr, hlo, hkc, hks⟩ := hX
  intro res hF ho H locs ls hP hS hl
  exact lv_lconst hx hb hd hv (k res hF ho H locs ls hP hS hl)
theorem r_ldc (hX : Gd X cc own nL fr) {idx : Nat} {v : Int32} (hd : decode cc pc = .ok (.ldc idx, 2)) (hw : Cond.constant own idx v ∈ gt) (k : J X ov F mm (pc + 2) L (.int v :: st)) : J X ov F mm pc L st := by
  obtain ⟨p, l, e, R, s, m, args, below, meth, c, D, cy, ad, A, sad, kc, ks, fin, qq⟩ := X
  obtain ⟨hx, hb, hml, hown, hts, hK, hA, hSt, hlk, hfr, hlo, hkc, hks⟩ := hX
  intro res hF ho H locs ls hP hS hl
  exact lv_ldc hx hb hown (hts _ hw) hd (k res hF ho H locs ls hP hS hl)
theorem r_ldcw (hX : Gd X cc own nL fr) {idx : Nat} {v : Int32} (hd : decode cc pc = .ok (.ldc_w idx, 3)) (hw : Cond.constant own idx v ∈ gt) (k : J X ov F mm (pc + 3) L (.int v :: st)) : J X ov F mm pc L st := by
  obtain ⟨p, l, e, R, s, m, args, below, meth, c, D, cy, ad, A, sad, kc, ks, fin, qq⟩ := X
  obtain ⟨hx, hb, hml, hown, hts, hK, hA, hSt, hlk, hfr, hlo, hkc, hks⟩ := hX
  intro res hF ho H locs ls hP hS hl
  exact lv_ldcw hx hb hown (hts _ hw) hd (k res hF ho H locs ls hP hS hl)
theorem r_ldc2 (hX : Gd X cc own nL fr) {idx : Nat} {v : Int64} (hd : decode cc pc = .ok (.ldc2_w idx, 3)) (hw : Cond.constantLong own idx v ∈ gt) (k : J X ov F mm (pc + 3) L (.long v :: st)) : J X ov F mm pc L st := by
  obtain ⟨p, l, e, R, s, m, args, below, meth, c, D, cy, ad, A, sad, kc, ks, fin, qq⟩ := X
  obtain ⟨hx, hb, hml, hown, hts, hK, hA, hSt, hlk, hfr, hlo, hkc, hks⟩ := hX
  intro res hF ho H locs ls hP hS hl
  exact lv_ldc2 hx hb hown (hts _ hw) hd (k res hF ho H locs ls hP hS hl)
theorem r_iload_n (hX : Gd X cc own nL fr) {k4 : Fin 4} {i : Nat} {x : Int32} (q : Nat) (hd : decode cc pc = .ok (.iload_n k4, 1)) (hi : (k4 : Nat) = i) (hq : L[q]? = some (i, .int x)) (k : J X ov F mm (pc + 1) L (.int x :: st)) : J X ov F mm pc L st := by
  obtain ⟨p, l, e, R, s, m, args, below, meth, c, D, cy, ad, A, sad, kc, ks, fin, qq⟩ := X
  obtain ⟨hx, hb, hml, hown, hts, hK, hA, hSt, hlk, hfr, hlo, hkc, hks⟩ := hX
  intro res hF ho H locs ls hP hS hl
  exact lv_iload_n hx hb hd hi (lv_at hl q hq) (k res hF ho H locs ls hP hS hl)
theorem r_iload (hX : Gd X cc own nL fr) {i : Nat} {x : Int32} (q : Nat) (hd : decode cc pc = .ok (.iload i, 2)) (hq : L[q]? = some (i, .int x)) (k : J X ov F mm (pc + 2) L (.int x :: st)) : J X ov F mm pc L st := by
  obtain ⟨p, l, e, R, s, m, args, below, meth, c, D, cy, ad, A, sad, kc, ks, fin, qq⟩ := X
  obtain ⟨hx, hb, hml, hown, hts, hK, hA, hSt, hlk, hfr, hlo, hkc, hks⟩ := hX
  intro res hF ho H locs ls hP hS hl
  exact lv_iload hx hb hd (lv_at hl q hq) (k res hF ho H locs ls hP hS hl)
theorem r_istore_n (hX : Gd X cc own nL fr) {k4 : Fin 4} {i : Nat} {x : Int32} (hd : decode cc pc = .ok (.istore_n k4, 1)) (hi : (k4 : Nat) = i) (hn : i < nL) (hL : (i, Value.int x) :: L.filter (fun q => !(q.1 == i) && !(q.1 + 1 == i && q.2.category == 2)) = L') (k : J X ov F mm (pc + 1) L' st) : J X ov F mm pc L (.int x :: st) := by
  obtain ⟨p, l, e, R, s, m, args, below, meth, c, D, cy, ad, A, sad, kc, ks, fin, qq⟩ := X
  obtain ⟨hx, hb, hml, hown, hts, hK, hA, hSt, hlk, hfr, hlo, hkc, hks⟩ := hX
  intro res hF ho H locs ls hP hS hl
  refine lv_istore_n hx hb hd hi hl (by rw [hml]; exact hn) hL (fun ls hl => ?_)
  exact k res hF ho H locs ls hP hS hl
theorem r_istore (hX : Gd X cc own nL fr) {i : Nat} {x : Int32} (hd : decode cc pc = .ok (.istore i, 2)) (hn : i < nL) (hL : (i, Value.int x) :: L.filter (fun q => !(q.1 == i) && !(q.1 + 1 == i && q.2.category == 2)) = L') (k : J X ov F mm (pc + 2) L' st) : J X ov F mm pc L (.int x :: st) := by
  obtain ⟨p, l, e, R, s, m, args, below, meth, c, D, cy, ad, A, sad, kc, ks, fin, qq⟩ := X
  obtain ⟨hx, hb, hml, hown, hts, hK, hA, hSt, hlk, hfr, hlo, hkc, hks⟩ := hX
  intro res hF ho H locs ls hP hS hl
  refine lv_istore hx hb hd hl (by rw [hml]; exact hn) hL (fun ls hl => ?_)
  exact k res hF ho H locs ls hP hS hl
theorem r_lload_n (hX : Gd X cc own nL fr) {k4 : Fin 4} {i : Nat} {x : Int64} (q : Nat) (hd : decode cc pc = .ok (.lload_n k4, 1)) (hi : (k4 : Nat) = i) (hq : L[q]? = some (i, .long x)) (k : J X ov F mm (pc + 1) L (.long x :: st)) : J X ov F mm pc L st := by
  obtain ⟨p, l, e, R, s, m, args, below, meth, c, D, cy, ad, A, sad, kc, ks, fin, qq⟩ := X
  obtain ⟨hx, hb, hml, hown, hts, hK, hA, hSt, hlk, hfr, hlo, hkc, hks⟩ := hX
  intro res hF ho H locs ls hP hS hl
  exact lv_lload_n hx hb hd hi (lv_at hl q hq) (k res hF ho H locs ls hP hS hl)
theorem r_lload (hX : Gd X cc own nL fr) {i : Nat} {x : Int64} (q : Nat) (hd : decode cc pc = .ok (.lload i, 2)) (hq : L[q]? = some (i, .long x)) (k : J X ov F mm (pc + 2) L (.long x :: st)) : J X ov F mm pc L st := by
  obtain ⟨p, l, e, R, s, m, args, below, meth, c, D, cy, ad, A, sad, kc, ks, fin, qq⟩ := X
  obtain ⟨hx, hb, hml, hown, hts, hK, hA, hSt, hlk, hfr, hlo, hkc, hks⟩ := hX
  intro res hF ho H locs ls hP hS hl
  exact lv_lload hx hb hd (lv_at hl q hq) (k res hF ho H locs ls hP hS hl)
theorem r_lstore_n (hX : Gd X cc own nL fr) {k4 : Fin 4} {i : Nat} {x : Int64} (hd : decode cc pc = .ok (.lstore_n k4, 1)) (hi : (k4 : Nat) = i) (hn : i + 1 < nL) (hL : (i, Value.long x) :: L.filter (fun q => !(q.1 == i) && (!(q.1 == i + 1) && !(q.1 + 1 == i && q.2.category == 2))) = L') (k : J X ov F mm (pc + 1) L' st) : J X ov F mm pc L (.long x :: st) := by
  obtain ⟨p, l, e, R, s, m, args, below, meth, c, D, cy, ad, A, sad, kc, ks, fin, qq⟩ := X
  obtain ⟨hx, hb, hml, hown, hts, hK, hA, hSt, hlk, hfr, hlo, hkc, hks⟩ := hX
  intro res hF ho H locs ls hP hS hl
  refine lv_lstore_n hx hb hd hi hl (by rw [hml]; exact hn) hL (fun ls hl => ?_)
  exact k res hF ho H locs ls hP hS hl
theorem r_lstore (hX : Gd X cc own nL fr) {i : Nat} {x : Int64} (hd : decode cc pc = .ok (.lstore i, 2)) (hn : i + 1 < nL) (hL : (i, Value.long x) :: L.filter (fun q => !(q.1 == i) && (!(q.1 == i + 1) && !(q.1 + 1 == i && q.2.category == 2))) = L') (k : J X ov F mm (pc + 2) L' st) : J X ov F mm pc L (.long x :: st) := by
  obtain ⟨p, l, e, R, s, m, args, below, meth, c, D, cy, ad, A, sad, kc, ks, fin, qq⟩ := X
  obtain ⟨hx, hb, hml, hown, hts, hK, hA, hSt, hlk, hfr, hlo, hkc, hks⟩ := hX
  intro res hF ho H locs ls hP hS hl
  refine lv_lstore hx hb hd hl (by rw [hml]; exact hn) hL (fun ls hl => ?_)
  exact k res hF ho H locs ls hP hS hl
theorem r_aload_n (hX : Gd X cc own nL fr) {k4 : Fin 4} {i : Nat} {x : Nat} (q : Nat) (hd : decode cc pc = .ok (.aload_n k4, 1)) (hi : (k4 : Nat) = i) (hq : L[q]? = some (i, .ref x)) (k : J X ov F mm (pc + 1) L (.ref x :: st)) : J X ov F mm pc L st := by
  obtain ⟨p, l, e, R, s, m, args, below, meth, c, D, cy, ad, A, sad, kc, ks, fin, qq⟩ := X
  obtain ⟨hx, hb, hml, hown, hts, hK, hA, hSt, hlk, hfr, hlo, hkc, hks⟩ := hX
  intro res hF ho H locs ls hP hS hl
  exact lv_aload_n hx hb hd hi (lv_at hl q hq) (k res hF ho H locs ls hP hS hl)
theorem r_aload (hX : Gd X cc own nL fr) {i : Nat} {x : Nat} (q : Nat) (hd : decode cc pc = .ok (.aload i, 2)) (hq : L[q]? = some (i, .ref x)) (k : J X ov F mm (pc + 2) L (.ref x :: st)) : J X ov F mm pc L st := by
  obtain ⟨p, l, e, R, s, m, args, below, meth, c, D, cy, ad, A, sad, kc, ks, fin, qq⟩ := X
  obtain ⟨hx, hb, hml, hown, hts, hK, hA, hSt, hlk, hfr, hlo, hkc, hks⟩ := hX
  intro res hF ho H locs ls hP hS hl
  exact lv_aload hx hb hd (lv_at hl q hq) (k res hF ho H locs ls hP hS hl)
theorem r_astore_n (hX : Gd X cc own nL fr) {k4 : Fin 4} {i : Nat} {x : Nat} (hd : decode cc pc = .ok (.astore_n k4, 1)) (hi : (k4 : Nat) = i) (hn : i < nL) (hL : (i, Value.ref x) :: L.filter (fun q => !(q.1 == i) && !(q.1 + 1 == i && q.2.category == 2)) = L') (k : J X ov F mm (pc + 1) L' st) : J X ov F mm pc L (.ref x :: st) := by
  obtain ⟨p, l, e, R, s, m, args, below, meth, c, D, cy, ad, A, sad, kc, ks, fin, qq⟩ := X
  obtain ⟨hx, hb, hml, hown, hts, hK, hA, hSt, hlk, hfr, hlo, hkc, hks⟩ := hX
  intro res hF ho H locs ls hP hS hl
  refine lv_astore_n hx hb hd hi hl (by rw [hml]; exact hn) hL (fun ls hl => ?_)
  exact k res hF ho H locs ls hP hS hl
theorem r_astore (hX : Gd X cc own nL fr) {i : Nat} {x : Nat} (hd : decode cc pc = .ok (.astore i, 2)) (hn : i < nL) (hL : (i, Value.ref x) :: L.filter (fun q => !(q.1 == i) && !(q.1 + 1 == i && q.2.category == 2)) = L') (k : J X ov F mm (pc + 2) L' st) : J X ov F mm pc L (.ref x :: st) := by
  obtain ⟨p, l, e, R, s, m, args, below, meth, c, D, cy, ad, A, sad, kc, ks, fin, qq⟩ := X
  obtain ⟨hx, hb, hml, hown, hts, hK, hA, hSt, hlk, hfr, hlo, hkc, hks⟩ := hX
  intro res hF ho H locs ls hP hS hl
  refine lv_astore hx hb hd hl (by rw [hml]; exact hn) hL (fun ls hl => ?_)
  exact k res hF ho H locs ls hP hS hl
theorem r_iinc (hX : Gd X cc own nL fr) {i : Nat} {n : Int} {x v : Int32} (q : Nat) (hd : decode cc pc = .ok (.iinc i n, 3)) (hq : L[q]? = some (i, .int x)) (hv : x + Int32.ofInt n = v) (hn : i < nL) (hL : (i, Value.int v) :: L.filter (fun q => !(q.1 == i) && !(q.1 + 1 == i && q.2.category == 2)) = L') (k : J X ov F mm (pc + 3) L' st) : J X ov F mm pc L st := by
  obtain ⟨p, l, e, R, s, m, args, below, meth, c, D, cy, ad, A, sad, kc, ks, fin, qq⟩ := X
  obtain ⟨hx, hb, hml, hown, hts, hK, hA, hSt, hlk, hfr, hlo, hkc, hks⟩ := hX
  intro res hF ho H locs ls hP hS hl
  refine lv_iinc hx hb hd hl hq hv (by rw [hml]; exact hn) hL (fun ls hl => ?_)
  exact k res hF ho H locs ls hP hS hl
theorem r_iadd (hX : Gd X cc own nL fr) {x y : Int32} (hd : decode cc pc = .ok (.iadd, 1))  (k : J X ov F mm (pc + 1) L (.int (x + y) :: st)) : J X ov F mm pc L (.int y :: .int x :: st) := by
  obtain ⟨p, l, e, R, s, m, args, below, meth, c, D, cy, ad, A, sad, kc, ks, fin, qq⟩ := X
  obtain ⟨hx, hb, hml, hown, hts, hK, hA, hSt, hlk, hfr, hlo, hkc, hks⟩ := hX
  intro res hF ho H locs ls hP hS hl
  exact lv_iadd hx hb hd (k res hF ho H locs ls hP hS hl)
theorem r_isub (hX : Gd X cc own nL fr) {x y : Int32} (hd : decode cc pc = .ok (.isub, 1))  (k : J X ov F mm (pc + 1) L (.int (x - y) :: st)) : J X ov F mm pc L (.int y :: .int x :: st) := by
  obtain ⟨p, l, e, R, s, m, args, below, meth, c, D, cy, ad, A, sad, kc, ks, fin, qq⟩ := X
  obtain ⟨hx, hb, hml, hown, hts, hK, hA, hSt, hlk, hfr, hlo, hkc, hks⟩ := hX
  intro res hF ho H locs ls hP hS hl
  exact lv_isub hx hb hd (k res hF ho H locs ls hP hS hl)
theorem r_imul (hX : Gd X cc own nL fr) {x y : Int32} (hd : decode cc pc = .ok (.imul, 1))  (k : J X ov F mm (pc + 1) L (.int (x * y) :: st)) : J X ov F mm pc L (.int y :: .int x :: st) := by
  obtain ⟨p, l, e, R, s, m, args, below, meth, c, D, cy, ad, A, sad, kc, ks, fin, qq⟩ := X
  obtain ⟨hx, hb, hml, hown, hts, hK, hA, hSt, hlk, hfr, hlo, hkc, hks⟩ := hX
  intro res hF ho H locs ls hP hS hl
  exact lv_imul hx hb hd (k res hF ho H locs ls hP hS hl)
theorem r_iand (hX : Gd X cc own nL fr) {x y : Int32} (hd : decode cc pc = .ok (.iand, 1))  (k : J X ov F mm (pc + 1) L (.int (x &&& y) :: st)) : J X ov F mm pc L (.int y :: .int x :: st) := by
  obtain ⟨p, l, e, R, s, m, args, below, meth, c, D, cy, ad, A, sad, kc, ks, fin, qq⟩ := X
  obtain ⟨hx, hb, hml, hown, hts, hK, hA, hSt, hlk, hfr, hlo, hkc, hks⟩ := hX
  intro res hF ho H locs ls hP hS hl
  exact lv_iand hx hb hd (k res hF ho H locs ls hP hS hl)
theorem r_ior (hX : Gd X cc own nL fr) {x y : Int32} (hd : decode cc pc = .ok (.ior, 1))  (k : J X ov F mm (pc + 1) L (.int (x ||| y) :: st)) : J X ov F mm pc L (.int y :: .int x :: st) := by
  obtain ⟨p, l, e, R, s, m, args, below, meth, c, D, cy, ad, A, sad, kc, ks, fin, qq⟩ := X
  obtain ⟨hx, hb, hml, hown, hts, hK, hA, hSt, hlk, hfr, hlo, hkc, hks⟩ := hX
  intro res hF ho H locs ls hP hS hl
  exact lv_ior hx hb hd (k res hF ho H locs ls hP hS hl)
theorem r_ixor (hX : Gd X cc own nL fr) {x y : Int32} (hd : decode cc pc = .ok (.ixor, 1))  (k : J X ov F mm (pc + 1) L (.int (x ^^^ y) :: st)) : J X ov F mm pc L (.int y :: .int x :: st) := by
  obtain ⟨p, l, e, R, s, m, args, below, meth, c, D, cy, ad, A, sad, kc, ks, fin, qq⟩ := X
  obtain ⟨hx, hb, hml, hown, hts, hK, hA, hSt, hlk, hfr, hlo, hkc, hks⟩ := hX
  intro res hF ho H locs ls hP hS hl
  exact lv_ixor hx hb hd (k res hF ho H locs ls hP hS hl)
theorem r_ishl (hX : Gd X cc own nL fr) {x y : Int32} (hd : decode cc pc = .ok (.ishl, 1))  (k : J X ov F mm (pc + 1) L (.int (x <<< (y &&& 31)) :: st)) : J X ov F mm pc L (.int y :: .int x :: st) := by
  obtain ⟨p, l, e, R, s, m, args, below, meth, c, D, cy, ad, A, sad, kc, ks, fin, qq⟩ := X
  obtain ⟨hx, hb, hml, hown, hts, hK, hA, hSt, hlk, hfr, hlo, hkc, hks⟩ := hX
  intro res hF ho H locs ls hP hS hl
  exact lv_ishl hx hb hd (k res hF ho H locs ls hP hS hl)
theorem r_ishr (hX : Gd X cc own nL fr) {x y : Int32} (hd : decode cc pc = .ok (.ishr, 1))  (k : J X ov F mm (pc + 1) L (.int (x >>> (y &&& 31)) :: st)) : J X ov F mm pc L (.int y :: .int x :: st) := by
  obtain ⟨p, l, e, R, s, m, args, below, meth, c, D, cy, ad, A, sad, kc, ks, fin, qq⟩ := X
  obtain ⟨hx, hb, hml, hown, hts, hK, hA, hSt, hlk, hfr, hlo, hkc, hks⟩ := hX
  intro res hF ho H locs ls hP hS hl
  exact lv_ishr hx hb hd (k res hF ho H locs ls hP hS hl)
theorem r_idiv (hX : Gd X cc own nL fr) {x y : Int32} (hd : decode cc pc = .ok (.idiv, 1)) (hne : ¬ y = 0) (k : J X ov F mm (pc + 1) L (.int (x / y) :: st)) : J X ov F mm pc L (.int y :: .int x :: st) := by
  obtain ⟨p, l, e, R, s, m, args, below, meth, c, D, cy, ad, A, sad, kc, ks, fin, qq⟩ := X
  obtain ⟨hx, hb, hml, hown, hts, hK, hA, hSt, hlk, hfr, hlo, hkc, hks⟩ := hX
  intro res hF ho H locs ls hP hS hl
  exact lv_idiv hx hb hd hne (k res hF ho H locs ls hP hS hl)
theorem r_irem (hX : Gd X cc own nL fr) {x y : Int32} (hd : decode cc pc = .ok (.irem, 1)) (hne : ¬ y = 0) (k : J X ov F mm (pc + 1) L (.int (x - x / y * y) :: st)) : J X ov F mm pc L (.int y :: .int x :: st) := by
  obtain ⟨p, l, e, R, s, m, args, below, meth, c, D, cy, ad, A, sad, kc, ks, fin, qq⟩ := X
  obtain ⟨hx, hb, hml, hown, hts, hK, hA, hSt, hlk, hfr, hlo, hkc, hks⟩ := hX
  intro res hF ho H locs ls hP hS hl
  exact lv_irem hx hb hd hne (k res hF ho H locs ls hP hS hl)
def ush (x y : Int32) : Int32 := (x.toUInt32 >>> (y.toUInt32 &&& Int32.toUInt32 31)).toInt32
def lush (x : Int64) (y : Int32) : Int64 := (x.toUInt64 >>> (y.toInt64.toUInt64 &&& Int64.toUInt64 63)).toInt64
def lsh (x : Int64) (y : Int32) : Int64 := x <<< (y.toInt64 &&& 63)
theorem r_iushr (hX : Gd X cc own nL fr) {x y : Int32} (hd : decode cc pc = .ok (.iushr, 1))  (k : J X ov F mm (pc + 1) L (.int (ush x y) :: st)) : J X ov F mm pc L (.int y :: .int x :: st) := by
  obtain ⟨p, l, e, R, s, m, args, below, meth, c, D, cy, ad, A, sad, kc, ks, fin, qq⟩ := X
  obtain ⟨hx, hb, hml, hown, hts, hK, hA, hSt, hlk, hfr, hlo, hkc, hks⟩ := hX
  intro res hF ho H locs ls hP hS hl
  exact lv_iushr hx hb hd rfl (k res hF ho H locs ls hP hS hl)
theorem r_lushr (hX : Gd X cc own nL fr) {x : Int64} {y : Int32} (hd : decode cc pc = .ok (.lushr, 1))  (k : J X ov F mm (pc + 1) L (.long (lush x y) :: st)) : J X ov F mm pc L (.int y :: .long x :: st) := by
  obtain ⟨p, l, e, R, s, m, args, below, meth, c, D, cy, ad, A, sad, kc, ks, fin, qq⟩ := X
  obtain ⟨hx, hb, hml, hown, hts, hK, hA, hSt, hlk, hfr, hlo, hkc, hks⟩ := hX
  intro res hF ho H locs ls hP hS hl
  exact lv_lushr hx hb hd rfl (k res hF ho H locs ls hP hS hl)
theorem r_lshl (hX : Gd X cc own nL fr) {x : Int64} {y : Int32} (hd : decode cc pc = .ok (.lshl, 1))  (k : J X ov F mm (pc + 1) L (.long (lsh x y) :: st)) : J X ov F mm pc L (.int y :: .long x :: st) := by
  obtain ⟨p, l, e, R, s, m, args, below, meth, c, D, cy, ad, A, sad, kc, ks, fin, qq⟩ := X
  obtain ⟨hx, hb, hml, hown, hts, hK, hA, hSt, hlk, hfr, hlo, hkc, hks⟩ := hX
  intro res hF ho H locs ls hP hS hl
  exact lv_lshl hx hb hd rfl (k res hF ho H locs ls hP hS hl)
theorem r_ineg (hX : Gd X cc own nL fr) {x : Int32} (hd : decode cc pc = .ok (.ineg, 1))  (k : J X ov F mm (pc + 1) L (.int (-x) :: st)) : J X ov F mm pc L (.int x :: st) := by
  obtain ⟨p, l, e, R, s, m, args, below, meth, c, D, cy, ad, A, sad, kc, ks, fin, qq⟩ := X
  obtain ⟨hx, hb, hml, hown, hts, hK, hA, hSt, hlk, hfr, hlo, hkc, hks⟩ := hX
  intro res hF ho H locs ls hP hS hl
  exact lv_ineg hx hb hd (k res hF ho H locs ls hP hS hl)
theorem r_lneg (hX : Gd X cc own nL fr) {x : Int64} (hd : decode cc pc = .ok (.lneg, 1))  (k : J X ov F mm (pc + 1) L (.long (-x) :: st)) : J X ov F mm pc L (.long x :: st) := by
  obtain ⟨p, l, e, R, s, m, args, below, meth, c, D, cy, ad, A, sad, kc, ks, fin, qq⟩ := X
  obtain ⟨hx, hb, hml, hown, hts, hK, hA, hSt, hlk, hfr, hlo, hkc, hks⟩ := hX
  intro res hF ho H locs ls hP hS hl
  exact lv_lneg hx hb hd (k res hF ho H locs ls hP hS hl)
theorem r_ladd (hX : Gd X cc own nL fr) {x y : Int64} (hd : decode cc pc = .ok (.ladd, 1))  (k : J X ov F mm (pc + 1) L (.long (x + y) :: st)) : J X ov F mm pc L (.long y :: .long x :: st) := by
  obtain ⟨p, l, e, R, s, m, args, below, meth, c, D, cy, ad, A, sad, kc, ks, fin, qq⟩ := X
  obtain ⟨hx, hb, hml, hown, hts, hK, hA, hSt, hlk, hfr, hlo, hkc, hks⟩ := hX
  intro res hF ho H locs ls hP hS hl
  exact lv_ladd hx hb hd (k res hF ho H locs ls hP hS hl)
theorem r_lsub (hX : Gd X cc own nL fr) {x y : Int64} (hd : decode cc pc = .ok (.lsub, 1))  (k : J X ov F mm (pc + 1) L (.long (x - y) :: st)) : J X ov F mm pc L (.long y :: .long x :: st) := by
  obtain ⟨p, l, e, R, s, m, args, below, meth, c, D, cy, ad, A, sad, kc, ks, fin, qq⟩ := X
  obtain ⟨hx, hb, hml, hown, hts, hK, hA, hSt, hlk, hfr, hlo, hkc, hks⟩ := hX
  intro res hF ho H locs ls hP hS hl
  exact lv_lsub hx hb hd (k res hF ho H locs ls hP hS hl)
theorem r_lmul (hX : Gd X cc own nL fr) {x y : Int64} (hd : decode cc pc = .ok (.lmul, 1))  (k : J X ov F mm (pc + 1) L (.long (x * y) :: st)) : J X ov F mm pc L (.long y :: .long x :: st) := by
  obtain ⟨p, l, e, R, s, m, args, below, meth, c, D, cy, ad, A, sad, kc, ks, fin, qq⟩ := X
  obtain ⟨hx, hb, hml, hown, hts, hK, hA, hSt, hlk, hfr, hlo, hkc, hks⟩ := hX
  intro res hF ho H locs ls hP hS hl
  exact lv_lmul hx hb hd (k res hF ho H locs ls hP hS hl)
theorem r_land (hX : Gd X cc own nL fr) {x y : Int64} (hd : decode cc pc = .ok (.land, 1))  (k : J X ov F mm (pc + 1) L (.long (x &&& y) :: st)) : J X ov F mm pc L (.long y :: .long x :: st) := by
  obtain ⟨p, l, e, R, s, m, args, below, meth, c, D, cy, ad, A, sad, kc, ks, fin, qq⟩ := X
  obtain ⟨hx, hb, hml, hown, hts, hK, hA, hSt, hlk, hfr, hlo, hkc, hks⟩ := hX
  intro res hF ho H locs ls hP hS hl
  exact lv_land hx hb hd (k res hF ho H locs ls hP hS hl)
theorem r_lor (hX : Gd X cc own nL fr) {x y : Int64} (hd : decode cc pc = .ok (.lor, 1))  (k : J X ov F mm (pc + 1) L (.long (x ||| y) :: st)) : J X ov F mm pc L (.long y :: .long x :: st) := by
  obtain ⟨p, l, e, R, s, m, args, below, meth, c, D, cy, ad, A, sad, kc, ks, fin, qq⟩ := X
  obtain ⟨hx, hb, hml, hown, hts, hK, hA, hSt, hlk, hfr, hlo, hkc, hks⟩ := hX
  intro res hF ho H locs ls hP hS hl
  exact lv_lor hx hb hd (k res hF ho H locs ls hP hS hl)
theorem r_lxor (hX : Gd X cc own nL fr) {x y : Int64} (hd : decode cc pc = .ok (.lxor, 1))  (k : J X ov F mm (pc + 1) L (.long (x ^^^ y) :: st)) : J X ov F mm pc L (.long y :: .long x :: st) := by
  obtain ⟨p, l, e, R, s, m, args, below, meth, c, D, cy, ad, A, sad, kc, ks, fin, qq⟩ := X
  obtain ⟨hx, hb, hml, hown, hts, hK, hA, hSt, hlk, hfr, hlo, hkc, hks⟩ := hX
  intro res hF ho H locs ls hP hS hl
  exact lv_lxor hx hb hd (k res hF ho H locs ls hP hS hl)
theorem r_i2l (hX : Gd X cc own nL fr) {x : Int32} (hd : decode cc pc = .ok (.i2l, 1))  (k : J X ov F mm (pc + 1) L (.long x.toInt64 :: st)) : J X ov F mm pc L (.int x :: st) := by
  obtain ⟨p, l, e, R, s, m, args, below, meth, c, D, cy, ad, A, sad, kc, ks, fin, qq⟩ := X
  obtain ⟨hx, hb, hml, hown, hts, hK, hA, hSt, hlk, hfr, hlo, hkc, hks⟩ := hX
  intro res hF ho H locs ls hP hS hl
  exact lv_i2l hx hb hd rfl (k res hF ho H locs ls hP hS hl)
theorem r_l2i (hX : Gd X cc own nL fr) {x : Int64} (hd : decode cc pc = .ok (.l2i, 1))  (k : J X ov F mm (pc + 1) L (.int x.toInt32 :: st)) : J X ov F mm pc L (.long x :: st) := by
  obtain ⟨p, l, e, R, s, m, args, below, meth, c, D, cy, ad, A, sad, kc, ks, fin, qq⟩ := X
  obtain ⟨hx, hb, hml, hown, hts, hK, hA, hSt, hlk, hfr, hlo, hkc, hks⟩ := hX
  intro res hF ho H locs ls hP hS hl
  exact lv_l2i hx hb hd rfl (k res hF ho H locs ls hP hS hl)
theorem r_lcmp (hX : Gd X cc own nL fr) {x y : Int64} (hd : decode cc pc = .ok (.lcmp, 1))  (k : J X ov F mm (pc + 1) L (.int (lg_cmp x y) :: st)) : J X ov F mm pc L (.long y :: .long x :: st) := by
  obtain ⟨p, l, e, R, s, m, args, below, meth, c, D, cy, ad, A, sad, kc, ks, fin, qq⟩ := X
  obtain ⟨hx, hb, hml, hown, hts, hK, hA, hSt, hlk, hfr, hlo, hkc, hks⟩ := hX
  intro res hF ho H locs ls hP hS hl
  exact W.lcmp hx hb hd (k res hF ho H locs ls hP hS hl)
theorem r_dup (hX : Gd X cc own nL fr) {va : Value} (hd : decode cc pc = .ok (.dup, 1)) (hva : va.category = 1) (k : J X ov F mm (pc + 1) L (va :: va :: st)) : J X ov F mm pc L (va :: st) := by
  obtain ⟨p, l, e, R, s, m, args, below, meth, c, D, cy, ad, A, sad, kc, ks, fin, qq⟩ := X
  obtain ⟨hx, hb, hml, hown, hts, hK, hA, hSt, hlk, hfr, hlo, hkc, hks⟩ := hX
  intro res hF ho H locs ls hP hS hl
  exact lv_dup hx hb hd hva (k res hF ho H locs ls hP hS hl)
theorem r_dup_x1 (hX : Gd X cc own nL fr) {va vb : Value} (hd : decode cc pc = .ok (.dup_x1, 1)) (hva : va.category = 1) (hvb : vb.category = 1) (k : J X ov F mm (pc + 1) L (va :: vb :: va :: st)) : J X ov F mm pc L (va :: vb :: st) := by
  obtain ⟨p, l, e, R, s, m, args, below, meth, c, D, cy, ad, A, sad, kc, ks, fin, qq⟩ := X
  obtain ⟨hx, hb, hml, hown, hts, hK, hA, hSt, hlk, hfr, hlo, hkc, hks⟩ := hX
  intro res hF ho H locs ls hP hS hl
  exact lv_dup_x1 hx hb hd hva hvb (k res hF ho H locs ls hP hS hl)
theorem r_dup2 (hX : Gd X cc own nL fr) {va vb : Value} (hd : decode cc pc = .ok (.dup2, 1)) (hva : va.category = 1) (hvb : vb.category = 1) (k : J X ov F mm (pc + 1) L (va :: vb :: va :: vb :: st)) : J X ov F mm pc L (va :: vb :: st) := by
  obtain ⟨p, l, e, R, s, m, args, below, meth, c, D, cy, ad, A, sad, kc, ks, fin, qq⟩ := X
  obtain ⟨hx, hb, hml, hown, hts, hK, hA, hSt, hlk, hfr, hlo, hkc, hks⟩ := hX
  intro res hF ho H locs ls hP hS hl
  exact lv_dup2_11 hx hb hd hva hvb (k res hF ho H locs ls hP hS hl)
theorem r_if_eq (hX : Gd X cc own nL fr) {x : Int32} {off : Int} {tgt : Nat} {B C : Option ρ} (hd : decode cc pc = .ok (.ifCond .eq off, 3)) (ht : (pc : Int) + off = (tgt : Int)) (kt : J X ov B mm tgt L st) (kf : J X ov C mm (pc + 3) L st) : J X ov (if x = 0 then B else C) mm pc L (.int x :: st) := by
  obtain ⟨p, l, e, R, s, m, args, below, meth, c, D, cy, ad, A, sad, kc, ks, fin, qq⟩ := X
  obtain ⟨hx, hb, hml, hown, hts, hK, hA, hSt, hlk, hfr, hlo, hkc, hks⟩ := hX
  intro res hF ho H locs ls hP hS hl
  refine lv_if_eq hx hb hd ht (fun h => ?_) (fun h => ?_)
  · rw [if_pos h] at hF; exact kt res hF ho H locs ls hP hS hl
  · rw [if_neg h] at hF; exact kf res hF ho H locs ls hP hS hl
theorem r_icmp_eq (hX : Gd X cc own nL fr) {x y : Int32} {off : Int} {tgt : Nat} {B C : Option ρ} (hd : decode cc pc = .ok (.if_icmp .eq off, 3)) (ht : (pc : Int) + off = (tgt : Int)) (kt : J X ov B mm tgt L st) (kf : J X ov C mm (pc + 3) L st) : J X ov (if x = y then B else C) mm pc L (.int y :: .int x :: st) := by
  obtain ⟨p, l, e, R, s, m, args, below, meth, c, D, cy, ad, A, sad, kc, ks, fin, qq⟩ := X
  obtain ⟨hx, hb, hml, hown, hts, hK, hA, hSt, hlk, hfr, hlo, hkc, hks⟩ := hX
  intro res hF ho H locs ls hP hS hl
  refine lv_icmp_eq hx hb hd ht (fun h => ?_) (fun h => ?_)
  · rw [if_pos h] at hF; exact kt res hF ho H locs ls hP hS hl
  · rw [if_neg h] at hF; exact kf res hF ho H locs ls hP hS hl
theorem r_if_ne (hX : Gd X cc own nL fr) {x : Int32} {off : Int} {tgt : Nat} {B C : Option ρ} (hd : decode cc pc = .ok (.ifCond .ne off, 3)) (ht : (pc : Int) + off = (tgt : Int)) (kt : J X ov C mm tgt L st) (kf : J X ov B mm (pc + 3) L st) : J X ov (if x = 0 then B else C) mm pc L (.int x :: st) := by
  obtain ⟨p, l, e, R, s, m, args, below, meth, c, D, cy, ad, A, sad, kc, ks, fin, qq⟩ := X
  obtain ⟨hx, hb, hml, hown, hts, hK, hA, hSt, hlk, hfr, hlo, hkc, hks⟩ := hX
  intro res hF ho H locs ls hP hS hl
  refine lv_if_ne hx hb hd ht (fun h => ?_) (fun h => ?_)
  · rw [if_neg h] at hF; exact kt res hF ho H locs ls hP hS hl
  · rw [if_pos h] at hF; exact kf res hF ho H locs ls hP hS hl
theorem r_icmp_ne (hX : Gd X cc own nL fr) {x y : Int32} {off : Int} {tgt : Nat} {B C : Option ρ} (hd : decode cc pc = .ok (.if_icmp .ne off, 3)) (ht : (pc : Int) + off = (tgt : Int)) (kt : J X ov C mm tgt L st) (kf : J X ov B mm (pc + 3) L st) : J X ov (if x = y then B else C) mm pc L (.int y :: .int x :: st) := by
  obtain ⟨p, l, e, R, s, m, args, below, meth, c, D, cy, ad, A, sad, kc, ks, fin, qq⟩ := X
  obtain ⟨hx, hb, hml, hown, hts, hK, hA, hSt, hlk, hfr, hlo, hkc, hks⟩ := hX
  intro res hF ho H locs ls hP hS hl
  refine lv_icmp_ne hx hb hd ht (fun h => ?_) (fun h => ?_)
  · rw [if_neg h] at hF; exact kt res hF ho H locs ls hP hS hl
  · rw [if_pos h] at hF; exact kf res hF ho H locs ls hP hS hl
theorem r_if_lt (hX : Gd X cc own nL fr) {x : Int32} {off : Int} {tgt : Nat} {B C : Option ρ} (hd : decode cc pc = .ok (.ifCond .lt off, 3)) (ht : (pc : Int) + off = (tgt : Int)) (kt : J X ov B mm tgt L st) (kf : J X ov C mm (pc + 3) L st) : J X ov (if x < 0 then B else C) mm pc L (.int x :: st) := by
  obtain ⟨p, l, e, R, s, m, args, below, meth, c, D, cy, ad, A, sad, kc, ks, fin, qq⟩ := X
  obtain ⟨hx, hb, hml, hown, hts, hK, hA, hSt, hlk, hfr, hlo, hkc, hks⟩ := hX
  intro res hF ho H locs ls hP hS hl
  refine lv_if_lt hx hb hd ht (fun h => ?_) (fun h => ?_)
  · rw [if_pos h] at hF; exact kt res hF ho H locs ls hP hS hl
  · rw [if_neg h] at hF; exact kf res hF ho H locs ls hP hS hl
theorem r_icmp_lt (hX : Gd X cc own nL fr) {x y : Int32} {off : Int} {tgt : Nat} {B C : Option ρ} (hd : decode cc pc = .ok (.if_icmp .lt off, 3)) (ht : (pc : Int) + off = (tgt : Int)) (kt : J X ov B mm tgt L st) (kf : J X ov C mm (pc + 3) L st) : J X ov (if x < y then B else C) mm pc L (.int y :: .int x :: st) := by
  obtain ⟨p, l, e, R, s, m, args, below, meth, c, D, cy, ad, A, sad, kc, ks, fin, qq⟩ := X
  obtain ⟨hx, hb, hml, hown, hts, hK, hA, hSt, hlk, hfr, hlo, hkc, hks⟩ := hX
  intro res hF ho H locs ls hP hS hl
  refine lv_icmp_lt hx hb hd ht (fun h => ?_) (fun h => ?_)
  · rw [if_pos h] at hF; exact kt res hF ho H locs ls hP hS hl
  · rw [if_neg h] at hF; exact kf res hF ho H locs ls hP hS hl
theorem r_if_ge (hX : Gd X cc own nL fr) {x : Int32} {off : Int} {tgt : Nat} {B C : Option ρ} (hd : decode cc pc = .ok (.ifCond .ge off, 3)) (ht : (pc : Int) + off = (tgt : Int)) (kt : J X ov B mm tgt L st) (kf : J X ov C mm (pc + 3) L st) : J X ov (if 0 ≤ x then B else C) mm pc L (.int x :: st) := by
  obtain ⟨p, l, e, R, s, m, args, below, meth, c, D, cy, ad, A, sad, kc, ks, fin, qq⟩ := X
  obtain ⟨hx, hb, hml, hown, hts, hK, hA, hSt, hlk, hfr, hlo, hkc, hks⟩ := hX
  intro res hF ho H locs ls hP hS hl
  refine lv_if_ge hx hb hd ht (fun h => ?_) (fun h => ?_)
  · rw [if_pos h] at hF; exact kt res hF ho H locs ls hP hS hl
  · rw [if_neg h] at hF; exact kf res hF ho H locs ls hP hS hl
theorem r_icmp_ge (hX : Gd X cc own nL fr) {x y : Int32} {off : Int} {tgt : Nat} {B C : Option ρ} (hd : decode cc pc = .ok (.if_icmp .ge off, 3)) (ht : (pc : Int) + off = (tgt : Int)) (kt : J X ov B mm tgt L st) (kf : J X ov C mm (pc + 3) L st) : J X ov (if y ≤ x then B else C) mm pc L (.int y :: .int x :: st) := by
  obtain ⟨p, l, e, R, s, m, args, below, meth, c, D, cy, ad, A, sad, kc, ks, fin, qq⟩ := X
  obtain ⟨hx, hb, hml, hown, hts, hK, hA, hSt, hlk, hfr, hlo, hkc, hks⟩ := hX
  intro res hF ho H locs ls hP hS hl
  refine lv_icmp_ge hx hb hd ht (fun h => ?_) (fun h => ?_)
  · rw [if_pos h] at hF; exact kt res hF ho H locs ls hP hS hl
  · rw [if_neg h] at hF; exact kf res hF ho H locs ls hP hS hl
theorem r_if_gt (hX : Gd X cc own nL fr) {x : Int32} {off : Int} {tgt : Nat} {B C : Option ρ} (hd : decode cc pc = .ok (.ifCond .gt off, 3)) (ht : (pc : Int) + off = (tgt : Int)) (kt : J X ov B mm tgt L st) (kf : J X ov C mm (pc + 3) L st) : J X ov (if 0 < x then B else C) mm pc L (.int x :: st) := by
  obtain ⟨p, l, e, R, s, m, args, below, meth, c, D, cy, ad, A, sad, kc, ks, fin, qq⟩ := X
  obtain ⟨hx, hb, hml, hown, hts, hK, hA, hSt, hlk, hfr, hlo, hkc, hks⟩ := hX
  intro res hF ho H locs ls hP hS hl
  refine lv_if_gt hx hb hd ht (fun h => ?_) (fun h => ?_)
  · rw [if_pos h] at hF; exact kt res hF ho H locs ls hP hS hl
  · rw [if_neg h] at hF; exact kf res hF ho H locs ls hP hS hl
theorem r_icmp_gt (hX : Gd X cc own nL fr) {x y : Int32} {off : Int} {tgt : Nat} {B C : Option ρ} (hd : decode cc pc = .ok (.if_icmp .gt off, 3)) (ht : (pc : Int) + off = (tgt : Int)) (kt : J X ov B mm tgt L st) (kf : J X ov C mm (pc + 3) L st) : J X ov (if y < x then B else C) mm pc L (.int y :: .int x :: st) := by
  obtain ⟨p, l, e, R, s, m, args, below, meth, c, D, cy, ad, A, sad, kc, ks, fin, qq⟩ := X
  obtain ⟨hx, hb, hml, hown, hts, hK, hA, hSt, hlk, hfr, hlo, hkc, hks⟩ := hX
  intro res hF ho H locs ls hP hS hl
  refine lv_icmp_gt hx hb hd ht (fun h => ?_) (fun h => ?_)
  · rw [if_pos h] at hF; exact kt res hF ho H locs ls hP hS hl
  · rw [if_neg h] at hF; exact kf res hF ho H locs ls hP hS hl
theorem r_if_le (hX : Gd X cc own nL fr) {x : Int32} {off : Int} {tgt : Nat} {B C : Option ρ} (hd : decode cc pc = .ok (.ifCond .le off, 3)) (ht : (pc : Int) + off = (tgt : Int)) (kt : J X ov B mm tgt L st) (kf : J X ov C mm (pc + 3) L st) : J X ov (if x ≤ 0 then B else C) mm pc L (.int x :: st) := by
  obtain ⟨p, l, e, R, s, m, args, below, meth, c, D, cy, ad, A, sad, kc, ks, fin, qq⟩ := X
  obtain ⟨hx, hb, hml, hown, hts, hK, hA, hSt, hlk, hfr, hlo, hkc, hks⟩ := hX
  intro res hF ho H locs ls hP hS hl
  refine lv_if_le hx hb hd ht (fun h => ?_) (fun h => ?_)
  · rw [if_pos h] at hF; exact kt res hF ho H locs ls hP hS hl
  · rw [if_neg h] at hF; exact kf res hF ho H locs ls hP hS hl
theorem r_icmp_le (hX : Gd X cc own nL fr) {x y : Int32} {off : Int} {tgt : Nat} {B C : Option ρ} (hd : decode cc pc = .ok (.if_icmp .le off, 3)) (ht : (pc : Int) + off = (tgt : Int)) (kt : J X ov B mm tgt L st) (kf : J X ov C mm (pc + 3) L st) : J X ov (if x ≤ y then B else C) mm pc L (.int y :: .int x :: st) := by
  obtain ⟨p, l, e, R, s, m, args, below, meth, c, D, cy, ad, A, sad, kc, ks, fin, qq⟩ := X
  obtain ⟨hx, hb, hml, hown, hts, hK, hA, hSt, hlk, hfr, hlo, hkc, hks⟩ := hX
  intro res hF ho H locs ls hP hS hl
  refine lv_icmp_le hx hb hd ht (fun h => ?_) (fun h => ?_)
  · rw [if_pos h] at hF; exact kt res hF ho H locs ls hP hS hl
  · rw [if_neg h] at hF; exact kf res hF ho H locs ls hP hS hl
theorem r_goto (hX : Gd X cc own nL fr) {off : Int} {tgt : Nat} (hd : decode cc pc = .ok (.goto off, 3)) (ht : (pc : Int) + off = (tgt : Int)) (k : J X ov F mm tgt L st) : J X ov F mm pc L st := by
  obtain ⟨p, l, e, R, s, m, args, below, meth, c, D, cy, ad, A, sad, kc, ks, fin, qq⟩ := X
  obtain ⟨hx, hb, hml, hown, hts, hK, hA, hSt, hlk, hfr, hlo, hkc, hks⟩ := hX
  intro res hF ho H locs ls hP hS hl
  exact lv_goto hx hb hd ht (k res hF ho H locs ls hP hS hl)
theorem r_swIn (hX : Gd X cc own nL fr) {dflt lo hi : Int} {offs : Array Int} {len : Nat} {x : Int32} {off : Int} {tgt : Nat} (hd : decode cc pc = .ok (.tableswitch dflt lo hi offs, len)) (h1 : ¬ x.toInt < lo) (h2 : ¬ hi < x.toInt) (h3 : offs[(x.toInt - lo).toNat]? = some off) (ht : (pc : Int) + off = (tgt : Int)) (k : J X ov F mm tgt L st) : J X ov F mm pc L (.int x :: st) := by
  obtain ⟨p, l, e, R, s, m, args, below, meth, c, D, cy, ad, A, sad, kc, ks, fin, qq⟩ := X
  obtain ⟨hx, hb, hml, hown, hts, hK, hA, hSt, hlk, hfr, hlo, hkc, hks⟩ := hX
  intro res hF ho H locs ls hP hS hl
  exact lv_tableIn hx hb hd h1 h2 h3 ht (k res hF ho H locs ls hP hS hl)
theorem r_swOut (hX : Gd X cc own nL fr) {dflt lo hi : Int} {offs : Array Int} {len : Nat} {x : Int32} {tgt : Nat} (hd : decode cc pc = .ok (.tableswitch dflt lo hi offs, len)) (h : x.toInt < lo ∨ hi < x.toInt) (ht : (pc : Int) + dflt = (tgt : Int)) (k : J X ov F mm tgt L st) : J X ov F mm pc L (.int x :: st) := by
  obtain ⟨p, l, e, R, s, m, args, below, meth, c, D, cy, ad, A, sad, kc, ks, fin, qq⟩ := X
  obtain ⟨hx, hb, hml, hown, hts, hK, hA, hSt, hlk, hfr, hlo, hkc, hks⟩ := hX
  intro res hF ho H locs ls hP hS hl
  exact lv_tableOut hx hb hd h ht (k res hF ho H locs ls hP hS hl)
/-- a class of the system -/
def KC (ci : Nat) (C : String) (T : u_T) (N : Nat) (ty : Nat → FieldType) : Prop := vwCl[ci]? = some (C, T, N) ∧ (∀ w ∈ u_ws C T N, w ∈ gt) ∧ (∀ k, k < N → parseFieldDescriptor (T k).2.2.1 = some (ty k)) ∧ (∀ a, a < N → ∀ b, b < N → a ≠ b → (T a).2.1 ≠ (T b).2.1) ∧ N = nf ci ∧ ci < 9
/-- the entry idx of own's pool names slot j of class ci, of type t -/
def FP (own : String) (idx ci j t : Nat) (tv : FieldType) (fn : Bool) : Prop := ∃ (C : String) (T : u_T) (N : Nat) (ty : Nat → FieldType), KC ci C T N ty ∧ j < N ∧ ft ci j = t ∧ ty j = tv ∧ (T j).2.2.2 = fn ∧ Cond.fieldLink own idx C (T j).2.1 (T j).2.2.1 ∈ gt
theorem TX_own : ∀ q ∈ vwCl, ∀ j, j < q.2.2 → (q.2.1 j).1 = q.1 := by decide +kernel
theorem u_T_own {ci : Nat} {C : String} {T : u_T} {N : Nat} (h : vwCl[ci]? = some (C, T, N)) (j : Nat) (hj : j < N) : (T j).1 = C := TX_own _ (List.mem_of_getElem? h) j hj
theorem r_getI (hX : Gd X cc own nL fr) {idx ci j t o : Nat} {tv : FieldType} {fn : Bool}  (hd : decode cc pc = .ok (.getfield idx, 3)) (hf : FP own idx ci j t tv fn) (h9 : kd o = ci) (ht : t < 2) (k : J X ov F mm (pc + 3) L (.int (mm.1 o j) :: st)) : J X ov F mm pc L (rX X o :: st) := by
  obtain ⟨p, l, e, R, s, m, args, below, meth, c, D, cy, ad, A, sad, kc, ks, fin, qq⟩ := X
  obtain ⟨hx, hb, hml, hown, hts, hK, hA, hSt, hlk, hfr, hlo, hkc, hks⟩ := hX
  intro res hF ho H locs ls hP hS hl
  obtain ⟨C, T, N, ty, ⟨k1, k2, k3, k4, k5, k6⟩, f1, f2, f3, f4, f5⟩ := hf
  subst h9
  obtain ⟨q, hq1, hq2⟩ := ws_get (cy := cy) (ad := ad) (m := mm) (o := o) (by omega)
  rw [cel_o k6] at hq2
  have hv := fs_at (ad := ad) (m := mm) (o := o) (j := j) (by rw [← k5]; exact f1)
  unfold sv at hv
  rw [f2, if_pos ht] at hv
  exact va_get hx hb hts k2 hown hK hP q hq2 k1 j f1 (hts _ f5) (fun _ h => by rw [(u_T_own k1 j f1)] at h; exact h) hv hd (k res hF ho H locs ls hP hS hl)
theorem r_getL (hX : Gd X cc own nL fr) {idx ci j t o : Nat} {tv : FieldType} {fn : Bool}  (hd : decode cc pc = .ok (.getfield idx, 3)) (hf : FP own idx ci j t tv fn) (h9 : kd o = ci) (ht : t = 2) (k : J X ov F mm (pc + 3) L (.long (mm.2 o j) :: st)) : J X ov F mm pc L (rX X o :: st) := by
  obtain ⟨p, l, e, R, s, m, args, below, meth, c, D, cy, ad, A, sad, kc, ks, fin, qq⟩ := X
  obtain ⟨hx, hb, hml, hown, hts, hK, hA, hSt, hlk, hfr, hlo, hkc, hks⟩ := hX
  intro res hF ho H locs ls hP hS hl
  obtain ⟨C, T, N, ty, ⟨k1, k2, k3, k4, k5, k6⟩, f1, f2, f3, f4, f5⟩ := hf
  subst h9
  obtain ⟨q, hq1, hq2⟩ := ws_get (cy := cy) (ad := ad) (m := mm) (o := o) (by omega)
  rw [cel_o k6] at hq2
  have hv := fs_at (ad := ad) (m := mm) (o := o) (j := j) (by rw [← k5]; exact f1)
  unfold sv at hv
  rw [f2, if_neg (by omega), if_pos ht] at hv
  exact va_get hx hb hts k2 hown hK hP q hq2 k1 j f1 (hts _ f5) (fun _ h => by rw [(u_T_own k1 j f1)] at h; exact h) hv hd (k res hF ho H locs ls hP hS hl)
theorem r_getR (hX : Gd X cc own nL fr) {idx ci j t o : Nat} {tv : FieldType} {fn : Bool} {o2 : Nat} (hd : decode cc pc = .ok (.getfield idx, 3)) (hf : FP own idx ci j t tv fn) (h9 : kd o = ci) (ht : t = 3) (hr : rf o j = some o2) (k : J X ov F mm (pc + 3) L (rX X o2 :: st)) : J X ov F mm pc L (rX X o :: st) := by
  obtain ⟨p, l, e, R, s, m, args, below, meth, c, D, cy, ad, A, sad, kc, ks, fin, qq⟩ := X
  obtain ⟨hx, hb, hml, hown, hts, hK, hA, hSt, hlk, hfr, hlo, hkc, hks⟩ := hX
  intro res hF ho H locs ls hP hS hl
  obtain ⟨C, T, N, ty, ⟨k1, k2, k3, k4, k5, k6⟩, f1, f2, f3, f4, f5⟩ := hf
  subst h9
  obtain ⟨q, hq1, hq2⟩ := ws_get (cy := cy) (ad := ad) (m := mm) (o := o) (by omega)
  rw [cel_o k6] at hq2
  have hv := fs_at (ad := ad) (m := mm) (o := o) (j := j) (by rw [← k5]; exact f1)
  unfold sv at hv
  rw [f2, if_neg (by omega), if_neg (by omega), hr] at hv
  exact va_get hx hb hts k2 hown hK hP q hq2 k1 j f1 (hts _ f5) (fun _ h => by rw [(u_T_own k1 j f1)] at h; exact h) hv hd (k res hF ho H locs ls hP hS hl)
theorem r_putI (hX : Gd X cc own nL fr) {idx ci j o : Nat} {v : Int32} {K : Me → Option ρ} (hd : decode cc pc = .ok (.putfield idx, 3)) (hf : FP own idx ci j 0 .int false) (h9 : kd o = ci) (k : ∀ m', J X ov (K m') m' (pc + 3) L st) : J X ov (bd (si mm o j v) K) mm pc L (.int v :: rX X o :: st) := by
  obtain ⟨p, l, e, R, s, m, args, below, meth, c, D, cy, ad, A, sad, kc, ks, fin, qq⟩ := X
  obtain ⟨hx, hb, hml, hown, hts, hK, hA, hSt, hlk, hfr, hlo, hkc, hks⟩ := hX
  intro res hF ho H locs ls hP hS hl
  obtain ⟨C, T, N, ty, ⟨k1, k2, k3, k4, k5, k6⟩, f1, f2, f3, f4, f5⟩ := hf
  subst h9
  obtain ⟨q, hq1, hq2⟩ := ws_get (cy := cy) (ad := ad) (m := mm) (o := o) (by omega)
  rw [cel_o k6] at hq2
  refine va_put hx hb hts k2 ty k3 k4 hown hK hP (hA.D cy mm) hS q hq2 k1 j f1 (hts _ f5) (fun _ h => by rw [(u_T_own k1 j f1)] at h; exact h) f4 (ty := .int) (v := .int v) (by rw [k3 j f1, f3]) rfl rfl (by unfold fsOf; rw [List.length_map, List.length_range, ← k5]; exact f1) hd (fun H1 locs1 hP1 _ hS1 => ?_)
  rw [ws_si hq1 k6 (by rw [f2]; decide)] at hP1
  exact k _ res hF ho H1 locs1 ls hP1 hS1 hl
theorem r_putZ (hX : Gd X cc own nL fr) {idx ci j o : Nat} {v : Int32} {K : Me → Option ρ} (hd : decode cc pc = .ok (.putfield idx, 3)) (hf : FP own idx ci j 1 .boolean false) (h9 : kd o = ci) (k : ∀ m', J X ov (K m') m' (pc + 3) L st) : J X ov (pz mm o j v K) mm pc L (.int v :: rX X o :: st) := by
  obtain ⟨p, l, e, R, s, m, args, below, meth, c, D, cy, ad, A, sad, kc, ks, fin, qq⟩ := X
  obtain ⟨hx, hb, hml, hown, hts, hK, hA, hSt, hlk, hfr, hlo, hkc, hks⟩ := hX
  intro res hF ho H locs ls hP hS hl
  obtain ⟨C, T, N, ty, ⟨k1, k2, k3, k4, k5, k6⟩, f1, f2, f3, f4, f5⟩ := hf
  subst h9
  obtain ⟨q, hq1, hq2⟩ := ws_get (cy := cy) (ad := ad) (m := mm) (o := o) (by omega)
  rw [cel_o k6] at hq2
  unfold pz at hF
  by_cases hz : v = 0 ∨ v = 1
  case neg => rw [if_neg hz] at hF; cases hF
  rw [if_pos hz] at hF
  refine va_put hx hb hts k2 ty k3 k4 hown hK hP (hA.D cy mm) hS q hq2 k1 j f1 (hts _ f5) (fun _ h => by rw [(u_T_own k1 j f1)] at h; exact h) f4 (ty := .boolean) (v := .int v) (by rw [k3 j f1, f3]) (by rcases hz with rfl | rfl <;> rfl) (by rcases hz with rfl | rfl <;> rfl) (by unfold fsOf; rw [List.length_map, List.length_range, ← k5]; exact f1) hd (fun H1 locs1 hP1 _ hS1 => ?_)
  rw [ws_si hq1 k6 (by rw [f2]; decide)] at hP1
  exact k _ res hF ho H1 locs1 ls hP1 hS1 hl
theorem r_putL (hX : Gd X cc own nL fr) {idx ci j o : Nat} {v : Int64} {K : Me → Option ρ} (hd : decode cc pc = .ok (.putfield idx, 3)) (hf : FP own idx ci j 2 .long false) (h9 : kd o = ci) (k : ∀ m', J X ov (K m') m' (pc + 3) L st) : J X ov (bd (sl mm o j v) K) mm pc L (.long v :: rX X o :: st) := by
  obtain ⟨p, l, e, R, s, m, args, below, meth, c, D, cy, ad, A, sad, kc, ks, fin, qq⟩ := X
  obtain ⟨hx, hb, hml, hown, hts, hK, hA, hSt, hlk, hfr, hlo, hkc, hks⟩ := hX
  intro res hF ho H locs ls hP hS hl
  obtain ⟨C, T, N, ty, ⟨k1, k2, k3, k4, k5, k6⟩, f1, f2, f3, f4, f5⟩ := hf
  subst h9
  obtain ⟨q, hq1, hq2⟩ := ws_get (cy := cy) (ad := ad) (m := mm) (o := o) (by omega)
  rw [cel_o k6] at hq2
  refine va_put hx hb hts k2 ty k3 k4 hown hK hP (hA.D cy mm) hS q hq2 k1 j f1 (hts _ f5) (fun _ h => by rw [(u_T_own k1 j f1)] at h; exact h) f4 (ty := .long) (v := .long v) (by rw [k3 j f1, f3]) rfl rfl (by unfold fsOf; rw [List.length_map, List.length_range, ← k5]; exact f1) hd (fun H1 locs1 hP1 _ hS1 => ?_)
  rw [ws_sl hq1 k6 (by rw [f2])] at hP1
  exact k _ res hF ho H1 locs1 ls hP1 hS1 hl
theorem r_iald (hX : Gd X cc own nL fr) {o : Nat} {i : Int32} {K : Int32 → Option ρ} (hd : decode cc pc = .ok (.iaload, 1)) (h9 : kd o = 20) (k : ∀ v, J X ov (K v) mm (pc + 1) L (.int v :: st)) : J X ov (rd (ln o) i (mm.1 o) K) mm pc L (.int i :: rX X o :: st) := by
  obtain ⟨p, l, e, R, s, m, args, below, meth, c, D, cy, ad, A, sad, kc, ks, fin, qq⟩ := X
  obtain ⟨hx, hb, hml, hown, hts, hK, hA, hSt, hlk, hfr, hlo, hkc, hks⟩ := hX
  intro res hF ho H locs ls hP hS hl
  unfold rd at hF
  by_cases hi : i < 0 ∨ ln o ≤ i.toNatClampNeg
  case pos => rw [if_pos hi] at hF; cases hF
  rw [if_neg hi] at hF
  obtain ⟨q, hq1, hq2⟩ := ws_get (cy := cy) (ad := ad) (m := mm) (o := o) (by omega)
  rw [cel_i h9] at hq2
  exact va_iald hx hb hK hP q 0 hq2 rfl hi hd (k _ res hF ho H locs ls hP hS hl)
theorem r_lald (hX : Gd X cc own nL fr) {o : Nat} {i : Int32} {K : Int64 → Option ρ} (hd : decode cc pc = .ok (.laload, 1)) (h9 : kd o = 21) (k : ∀ v, J X ov (K v) mm (pc + 1) L (.long v :: st)) : J X ov (rd (ln o) i (mm.2 o) K) mm pc L (.int i :: rX X o :: st) := by
  obtain ⟨p, l, e, R, s, m, args, below, meth, c, D, cy, ad, A, sad, kc, ks, fin, qq⟩ := X
  obtain ⟨hx, hb, hml, hown, hts, hK, hA, hSt, hlk, hfr, hlo, hkc, hks⟩ := hX
  intro res hF ho H locs ls hP hS hl
  unfold rd at hF
  by_cases hi : i < 0 ∨ ln o ≤ i.toNatClampNeg
  case pos => rw [if_pos hi] at hF; cases hF
  rw [if_neg hi] at hF
  obtain ⟨q, hq1, hq2⟩ := ws_get (cy := cy) (ad := ad) (m := mm) (o := o) (by omega)
  rw [cel_l h9] at hq2
  exact va_lald hx hb hK hP q 1 hq2 rfl hi hd (k _ res hF ho H locs ls hP hS hl)
theorem r_zald (hX : Gd X cc own nL fr) {o : Nat} {i : Int32} {K : Int32 → Option ρ} (hd : decode cc pc = .ok (.baload, 1)) (h9 : kd o = 22) (k : ∀ v, J X ov (K v) mm (pc + 1) L (.int v :: st)) : J X ov (rd (ln o) i (mm.1 o) K) mm pc L (.int i :: rX X o :: st) := by
  obtain ⟨p, l, e, R, s, m, args, below, meth, c, D, cy, ad, A, sad, kc, ks, fin, qq⟩ := X
  obtain ⟨hx, hb, hml, hown, hts, hK, hA, hSt, hlk, hfr, hlo, hkc, hks⟩ := hX
  intro res hF ho H locs ls hP hS hl
  unfold rd at hF
  by_cases hi : i < 0 ∨ ln o ≤ i.toNatClampNeg
  case pos => rw [if_pos hi] at hF; cases hF
  rw [if_neg hi] at hF
  obtain ⟨q, hq1, hq2⟩ := ws_get (cy := cy) (ad := ad) (m := mm) (o := o) (by omega)
  rw [cel_z h9] at hq2
  exact va_zald hx hb hK hP q 2 hq2 rfl hi hd (k _ res hF ho H locs ls hP hS hl)
theorem r_iast (hX : Gd X cc own nL fr) {o : Nat} {i : Int32} {v : Int32} {K : Me → Option ρ} (hd : decode cc pc = .ok (.iastore, 1)) (h9 : kd o = 20) (k : ∀ m', J X ov (K m') m' (pc + 1) L st) : J X ov (wi mm o (ln o) i v K) mm pc L (.int v :: .int i :: rX X o :: st) := by
  obtain ⟨p, l, e, R, s, m, args, below, meth, c, D, cy, ad, A, sad, kc, ks, fin, qq⟩ := X
  obtain ⟨hx, hb, hml, hown, hts, hK, hA, hSt, hlk, hfr, hlo, hkc, hks⟩ := hX
  intro res hF ho H locs ls hP hS hl
  unfold wi at hF
  by_cases hi : i < 0 ∨ ln o ≤ i.toNatClampNeg
  case pos => rw [if_pos hi] at hF; cases hF
  rw [if_neg hi] at hF
  obtain ⟨q, hq1, hq2⟩ := ws_get (cy := cy) (ad := ad) (m := mm) (o := o) (by omega)
  rw [cel_i h9] at hq2
  refine va_iast hx hb hK hP (hA.D cy mm) hS q 0 hq2 rfl hi hd (fun H1 locs1 hP1 _ hS1 => ?_)
  rw [ws_set (m := mm) (m' := si mm o i.toNatClampNeg v) hq1 (by rw [cel_i h9, si_upd]) (fun _ h => cel_eq (si_ne h) rfl)] at hP1
  exact k _ res hF ho H1 locs1 ls hP1 hS1 hl
theorem r_last (hX : Gd X cc own nL fr) {o : Nat} {i : Int32} {v : Int64} {K : Me → Option ρ} (hd : decode cc pc = .ok (.lastore, 1)) (h9 : kd o = 21) (k : ∀ m', J X ov (K m') m' (pc + 1) L st) : J X ov (wl mm o (ln o) i v K) mm pc L (.long v :: .int i :: rX X o :: st) := by
  obtain ⟨p, l, e, R, s, m, args, below, meth, c, D, cy, ad, A, sad, kc, ks, fin, qq⟩ := X
  obtain ⟨hx, hb, hml, hown, hts, hK, hA, hSt, hlk, hfr, hlo, hkc, hks⟩ := hX
  intro res hF ho H locs ls hP hS hl
  unfold wl at hF
  by_cases hi : i < 0 ∨ ln o ≤ i.toNatClampNeg
  case pos => rw [if_pos hi] at hF; cases hF
  rw [if_neg hi] at hF
  obtain ⟨q, hq1, hq2⟩ := ws_get (cy := cy) (ad := ad) (m := mm) (o := o) (by omega)
  rw [cel_l h9] at hq2
  refine va_last hx hb hK hP (hA.D cy mm) hS q 1 hq2 rfl hi hd (fun H1 locs1 hP1 _ hS1 => ?_)
  rw [ws_set (m := mm) (m' := sl mm o i.toNatClampNeg v) hq1 (by rw [cel_l h9, sl_upd]) (fun _ h => cel_eq rfl (sl_ne h))] at hP1
  exact k _ res hF ho H1 locs1 ls hP1 hS1 hl
theorem r_zast (hX : Gd X cc own nL fr) {o : Nat} {i : Int32} {v : Int32} {K : Me → Option ρ} (hd : decode cc pc = .ok (.bastore, 1)) (h9 : kd o = 22) (k : ∀ m', J X ov (K m') m' (pc + 1) L st) : J X ov (wz mm o (ln o) i v K) mm pc L (.int v :: .int i :: rX X o :: st) := by
  obtain ⟨p, l, e, R, s, m, args, below, meth, c, D, cy, ad, A, sad, kc, ks, fin, qq⟩ := X
  obtain ⟨hx, hb, hml, hown, hts, hK, hA, hSt, hlk, hfr, hlo, hkc, hks⟩ := hX
  intro res hF ho H locs ls hP hS hl
  unfold wz at hF
  by_cases hi : i < 0 ∨ ln o ≤ i.toNatClampNeg
  case pos => rw [if_pos hi] at hF; cases hF
  rw [if_neg hi] at hF
  by_cases hz : v = 0 ∨ v = 1
  case neg => rw [if_neg hz] at hF; cases hF
  rw [if_pos hz] at hF
  obtain ⟨q, hq1, hq2⟩ := ws_get (cy := cy) (ad := ad) (m := mm) (o := o) (by omega)
  rw [cel_z h9] at hq2
  refine va_zast hx hb hK hP (hA.D cy mm) hS q 2 hq2 rfl hi hd (fun H1 locs1 hP1 _ hS1 => ?_)
  rw [ws_set (m := mm) (m' := si mm o i.toNatClampNeg v) hq1 (by rw [cel_z h9, si_upd, show vp_nar .boolean v = v by rcases hz with rfl | rfl <;> rfl]) (fun _ h => cel_eq (si_ne h) rfl)] at hP1
  exact k _ res hF ho H1 locs1 ls hP1 hS1 hl
theorem r_alen (hX : Gd X cc own nL fr) {o : Nat} (hd : decode cc pc = .ok (.arraylength, 1)) (h9 : kd o = 20) (k : J X ov F mm (pc + 1) L (.int (Int32.ofNat (ln o)) :: st)) : J X ov F mm pc L (rX X o :: st) := by
  obtain ⟨p, l, e, R, s, m, args, below, meth, c, D, cy, ad, A, sad, kc, ks, fin, qq⟩ := X
  obtain ⟨hx, hb, hml, hown, hts, hK, hA, hSt, hlk, hfr, hlo, hkc, hks⟩ := hX
  intro res hF ho H locs ls hP hS hl
  obtain ⟨q, hq1, hq2⟩ := ws_get (cy := cy) (ad := ad) (m := mm) (o := o) (by omega)
  rw [cel_i h9] at hq2
  exact va_alen hx hb hK hP q 0 hq2 rfl rfl hd (k res hF ho H locs ls hP hS hl)
theorem r_gets (hX : Gd X cc own nL fr) {idx : Nat} (n : Nat) (hn : n < 4) (hd : decode cc pc = .ok (.getstatic idx, 3)) (hw : nsw n = Cond.fieldLinkNest own idx "NameChart" (stn n) "[I" "NameChart") (k : J X ov F mm (pc + 3) L (.ref (xsa X n) :: st)) : J X ov F mm pc L st := by
  obtain ⟨p, l, e, R, s, m, args, below, meth, c, D, cy, ad, A, sad, kc, ks, fin, qq⟩ := X
  obtain ⟨hx, hb, hml, hown, hts, hK, hA, hSt, hlk, hfr, hlo, hkc, hks⟩ := hX
  intro res hF ho H locs ls hP hS hl
  exact va_getsN hx hb (hSt n hn).1 hS hown (va_Nw.use rfl (hw ▸ (hSt n hn).2.2)) (fun _ h => h) hd (k res hF ho H locs ls hP hS hl)
theorem r_sald (hX : Gd X cc own nL fr) {i : Int32} {K : Int32 → Option ρ} (n : Nat) (hn : n < 4) (hd : decode cc pc = .ok (.iaload, 1)) (k : ∀ v, J X ov (K v) mm (pc + 1) L (.int v :: st)) : J X ov (rd (stl n) i (stt n) K) mm pc L (.int i :: .ref (xsa X n) :: st) := by
  obtain ⟨p, l, e, R, s, m, args, below, meth, c, D, cy, ad, A, sad, kc, ks, fin, qq⟩ := X
  obtain ⟨hx, hb, hml, hown, hts, hK, hA, hSt, hlk, hfr, hlo, hkc, hks⟩ := hX
  intro res hF ho H locs ls hP hS hl
  unfold rd at hF
  by_cases hi : i < 0 ∨ stl n ≤ i.toNatClampNeg
  case pos => rw [if_pos hi] at hF; cases hF
  rw [if_neg hi] at hF
  exact va_ti hx hb (hSt n hn).2.1 hS hi rfl hd (k _ res hF ho H locs ls hP hS hl)
theorem r_iretI (hX : Gd X cc own nL fr) (hE : Ge X (some .int)) {v : Int32} (hd : decode cc pc = .ok (.ireturn, 1)) : J X oI (some (v, mm)) mm pc L [.int v] := by
  obtain ⟨p, l, e, R, s, m, args, below, meth, c, D, cy, ad, A, sad, kc, ks, fin, qq⟩ := X
  obtain ⟨hx, hb, hml, hown, hts, hK, hA, hSt, hlk, hfr, hlo, hkc, hks⟩ := hX
  intro res hF ho H locs ls hP hS hl
  obtain ⟨hr, hq⟩ := hE
  cases hF
  subst ho
  rw [hq]
  refine W.iret hx hb hr (fun t ht hW => ?_) hS.2.2 hd hlk
  exact ⟨rfl, by rw [ht]; exact hP, va_K.moved hW.alike hK, hS.F ht⟩
theorem r_iretP (hX : Gd X cc own nL fr) (hE : Ge X (some .int)) {v : Int32} (hd : decode cc pc = .ok (.ireturn, 1)) : J X (oP mm) (some v) mm pc L [.int v] := by
  obtain ⟨p, l, e, R, s, m, args, below, meth, c, D, cy, ad, A, sad, kc, ks, fin, qq⟩ := X
  obtain ⟨hx, hb, hml, hown, hts, hK, hA, hSt, hlk, hfr, hlo, hkc, hks⟩ := hX
  intro res hF ho H locs ls hP hS hl
  obtain ⟨hr, hq⟩ := hE
  cases hF
  subst ho
  rw [hq]
  refine W.iret hx hb hr (fun t ht hW => ?_) hS.2.2 hd hlk
  exact ⟨rfl, by rw [ht]; exact hP, va_K.moved hW.alike hK, hS.F ht⟩
theorem r_zretI (hX : Gd X cc own nL fr) (hE : Ge X (some .boolean)) {v : Int32} (hd : decode cc pc = .ok (.ireturn, 1)) : J X oI (zg v (v, mm)) mm pc L [.int v] := by
  obtain ⟨p, l, e, R, s, m, args, below, meth, c, D, cy, ad, A, sad, kc, ks, fin, qq⟩ := X
  obtain ⟨hx, hb, hml, hown, hts, hK, hA, hSt, hlk, hfr, hlo, hkc, hks⟩ := hX
  intro res hF ho H locs ls hP hS hl
  obtain ⟨hr, hq⟩ := hE
  unfold zg at hF
  by_cases hz : v = 0 ∨ v = 1
  case neg => rw [if_neg hz] at hF; cases hF
  rw [if_pos hz] at hF
  cases hF
  subst ho
  rw [hq]
  refine W.zret hx hb hr (by rcases hz with rfl | rfl <;> rfl) (fun t ht hW => ?_) hS.2.2 hd hlk
  exact ⟨rfl, by rw [ht]; exact hP, va_K.moved hW.alike hK, hS.F ht⟩
theorem r_zretP (hX : Gd X cc own nL fr) (hE : Ge X (some .boolean)) {v : Int32} (hd : decode cc pc = .ok (.ireturn, 1)) : J X (oP mm) (zg v v) mm pc L [.int v] := by
  obtain ⟨p, l, e, R, s, m, args, below, meth, c, D, cy, ad, A, sad, kc, ks, fin, qq⟩ := X
  obtain ⟨hx, hb, hml, hown, hts, hK, hA, hSt, hlk, hfr, hlo, hkc, hks⟩ := hX
  intro res hF ho H locs ls hP hS hl
  obtain ⟨hr, hq⟩ := hE
  unfold zg at hF
  by_cases hz : v = 0 ∨ v = 1
  case neg => rw [if_neg hz] at hF; cases hF
  rw [if_pos hz] at hF
  cases hF
  subst ho
  rw [hq]
  refine W.zret hx hb hr (by rcases hz with rfl | rfl <;> rfl) (fun t ht hW => ?_) hS.2.2 hd hlk
  exact ⟨rfl, by rw [ht]; exact hP, va_K.moved hW.alike hK, hS.F ht⟩
theorem r_vret (hX : Gd X cc own nL fr) (hE : Ge X none) (hd : decode cc pc = .ok (.return_, 1)) : J X oV (some mm) mm pc L [] := by
  obtain ⟨p, l, e, R, s, m, args, below, meth, c, D, cy, ad, A, sad, kc, ks, fin, qq⟩ := X
  obtain ⟨hx, hb, hml, hown, hts, hK, hA, hSt, hlk, hfr, hlo, hkc, hks⟩ := hX
  intro res hF ho H locs ls hP hS hl
  obtain ⟨hr, hq⟩ := hE
  cases hF
  subst ho
  rw [hq]
  refine W.vret hx hb hr (fun t ht hW => ?_) hS.2.2 hd hlk
  exact ⟨rfl, by rw [ht]; exact hP, va_K.moved hW.alike hK, hS.F ht⟩
theorem r_lretP (hX : Gd X cc own nL fr) (hE : Ge X (some .long)) {v : Int64} (hd : decode cc pc = .ok (.lreturn, 1)) : J X (oL mm) (some v) mm pc L [.long v] := by
  obtain ⟨p, l, e, R, s, m, args, below, meth, c, D, cy, ad, A, sad, kc, ks, fin, qq⟩ := X
  obtain ⟨hx, hb, hml, hown, hts, hK, hA, hSt, hlk, hfr, hlo, hkc, hks⟩ := hX
  intro res hF ho H locs ls hP hS hl
  obtain ⟨hr, hq⟩ := hE
  cases hF
  subst ho
  rw [hq]
  refine W.lret hx hb hr (fun t ht hW => ?_) hS.2.2 hd hlk
  exact ⟨rfl, by rw [ht]; exact hP, va_K.moved hW.alike hK, hS.F ht⟩
theorem r_aretR (hX : Gd X cc own nL fr) {C : String} (hE : Ge X (some (.object C))) {o : Nat} (hd : decode cc pc = .ok (.areturn, 1)) : J X (oR (xad X) mm) (some o) mm pc L [rX X o] := by
  obtain ⟨p, l, e, R, s, m, args, below, meth, c, D, cy, ad, A, sad, kc, ks, fin, qq⟩ := X
  obtain ⟨hx, hb, hml, hown, hts, hK, hA, hSt, hlk, hfr, hlo, hkc, hks⟩ := hX
  intro res hF ho H locs ls hP hS hl
  obtain ⟨hr, hq⟩ := hE
  cases hF
  have ho : (some (Value.ref (ad o)), mm) = fin := ho
  subst ho
  rw [hq]
  refine W.aret hx hb hr (Or.inl ⟨_, rfl⟩) (Or.inr ⟨_, rfl⟩) (fun t ht hW => ?_) hS.2.2 hd hlk
  exact ⟨rfl, by rw [ht]; exact hP, va_K.moved hW.alike hK, hS.F ht⟩
end ROWS
end
section
/-! CONTRACTS of the methods that make nothing: the arguments av, the memory m before; fin the answer and the memory behind -/
def rmOf (fr : Nat) : Room := { frames := fr, cells := 0, slots := 0, locals := 64 * fr }
def Pw (D : va_G) (cy : Nat → ClassId) (ad : Nat → Nat) (A : Nat → Prop) (sad : Nat → Nat) (m : Me) (U : State) : Prop := va_P D vwCl (wsW cy ad m) U.heap ∧ va_K D vwCl (tys cy) U ∧ Ap A ad ∧ Sts A sad U U.heap
def Ct (y : MethodName) (cc : ByteArray) (nL : Nat) (ret : Option FieldType) (fr : Nat) (av : (Nat → Nat) → List Value) (m : Me) (fin : (Nat → Nat) → Option Value × Me) : Prop :=
  ∀ (l : Launch) (D : va_G) (cy : Nat → ClassId) (ad : Nat → Nat) (A : Nat → Prop) (sad : Nat → Nat), Met l y (Cond.code y cc nL ret :: gt) (rmOf fr) (va_Pc (av ad) (Pw D cy ad A sad m)) (Qf D cy ad A (fin ad)) 0 0 A
/-- a contract out of a walk of the method's body -/
theorem mk_ct {ρ : Type} {y : MethodName} {cc : ByteArray} {nL : Nat} {ret : Option FieldType} {fr : Nat} {av : (Nat → Nat) → List Value} {m : Me} {fin : (Nat → Nat) → Option Value × Me} {F : Option ρ} (ov : (Nat → Nat) → ρ → Option Value × Me) (res : ρ) (hF : F = some res) (hov : ∀ ad, ov ad res = fin ad) (hy : plainName y.cls = true) (hlen : ∀ ad, (lg_sl (av ad)).length ≤ nL)
    (body : ∀ X : Cx, Gd X cc y.cls nL fr → Ge X ret → J X (ov (xad X)) F m 0 (lv_args 0 (av (xad X))) []) : Ct y cc nL ret fr av m fin := by
  intro l D cy ad A sad
  refine Met.ofW (cc := cc) (maxL := nL) (ret := ret) hy rfl ?_
  intro p e s mt args below meth c s₁ B hml hv
  obtain ⟨rfl, hP, hK, hA, hSt⟩ := hv
  have hts := atoms_spec (ws := Cond.code y cc nL ret :: gt) B.pre
  have hown : s.vm.findClass y.cls = some mt.cls := findClass_of_methodNamed B.named
  have hl := lv_entry (av ad) (n := nL) (hlen ad)
  rw [lg_entry_eq]
  have h := body (p, l, e, rmOf fr, s, mt, (av ad).toArray, below, meth, c, D, cy, ad, A, sad, 0, 0, fin ad, MQ below (Qf D cy ad A (fin ad)) (av ad).toArray s 0 0 A)
    ⟨B.exec, B.bytes, hml, hown, fun w hw => hts w (List.mem_cons_of_mem _ hw), hK, hA, hSt, B.notSynchronized, Nat.le_refl _, Nat.le_refl _, Nat.le_refl _, Nat.le_refl _⟩ ⟨B.returns, rfl⟩
  exact h res hF (hov ad) s.heap [] _ hP va_S.rf (by rw [hml]; exact hl)
/-- what the tables say of a method -/
def MI (y : MethodName) (cc : ByteArray) (nL : Nat) (ret : Option FieldType) (n : Nat) : Prop := Cond.code y cc nL ret ∈ gt ∧ Cond.initialized y.cls ∈ gt ∧ (y.cls ≠ "java/lang/invoke/MethodHandle" ∧ y.cls ≠ "java/lang/invoke/VarHandle" ∧ (parseMethodDescriptor y.desc).map (fun d => d.parameters.length) = some n) ∧ nL ≤ 45
def MV (y : MethodName) (ci : Nat) : Prop := Cond.instanceMethod y ∈ gt ∧ Cond.selects y.cls y y ∈ gt ∧ ∃ T N, vwCl[ci]? = some (y.cls, T, N)
theorem Pw.blind {D : va_G} {cy : Nat → ClassId} {ad : Nat → Nat} {A : Nat → Prop} {sad : Nat → Nat} {m : Me} {av : List Value} : FrameBlind (va_Pc av (Pw D cy ad A sad m)) := by
  intro a U g mk h
  obtain ⟨h1, h2, h3, h4, h5⟩ := h
  exact ⟨h1, h2, va_K.moved (u := U) (U := U.calling g mk a) (Vm.Alike.refl U.vm) h3, h4, fun k hk => ⟨(h5 k hk).1.moved (Vm.Alike.refl U.vm), (h5 k hk).2.1.moved (Vm.Alike.refl U.vm), va_Nw.same (u := U) (U := U.calling g mk a) (by rcases (show k = 0 ∨ k = 1 ∨ k = 2 ∨ k = 3 by omega) with rfl | rfl | rfl | rfl <;> rfl) rfl (h5 k hk).2.2⟩⟩
section CALLS
variable {p : Program} {l : Launch} {e : Env} {R : Room} {s : State} {m : MethodId} {args : Array Value} {below : List Frame} {meth : Method} {c : Code} {H : Heap} {locs : List Loc} {cells slots : Nat} {Q : State → Prop}
theorem call_any {pc : Nat} {ls : Array Slot} {rest st0 : List Value} {a : Array Value} {D : va_G} {cy : Nat → ClassId} {ad : Nat → Nat} {A : Nat → Prop} {fin : Option Value × Me} (hr : va_Run p l e R s m args below meth c H locs cells slots 0 0 (F0 m pc ls st0) rest (Qf D cy ad A fin a) A) (hS : va_S A s.heap H locs)
    (kk : ∀ (H1 : Heap) (locs1 : List Loc), va_P D vwCl (wsW cy ad fin.2) H1 → va_S A s.heap H1 locs1 → W p l e R s m args below meth c H1 locs1 cells slots Q (F0 m (pc + 3) ls (fin.1.toList ++ rest))) : W p l e R s m args below meth c H locs cells slots Q (F0 m pc ls st0) := by
  intro T hT X
  obtain ⟨v, st₀, t, T', L, h0, X', hL, e1, e2, ⟨hv, hb, -, hz, hk⟩, st⟩ := hr T hT X
  cases hv
  rw [h0] at hz hk
  obtain ⟨t2, a1, b1⟩ := kk T'.heap (locs ++ L) (by rw [e1]; exact hb)
    ⟨Nat.le_trans hS.1 (by rw [e1]; exact hz), fun q h1 h2 => by rw [e1, hk q (Nat.lt_of_lt_of_le h1 hS.1) h2]; exact hS.2.1 q h1 h2, fun q hq => by
      rcases List.mem_append.mp hq with h | h
      · exact hS.2.2 q h
      · exact hL q h⟩ T' rfl X'
  exact ⟨t2, st t2 a1, b1⟩
end CALLS
section ROWS2
variable {ρ : Type} {X : Cx} {ov : ρ → Option Value × Me} {F : Option ρ} {mm : Me} {pc : Nat} {L L' : List (Nat × Value)} {st stk : List Value} {cc : ByteArray} {own : String} {nL fr : Nat}
variable {y : MethodName} {cy : ByteArray} {nLy idx n ci o fy : Nat} {ret : Option FieldType} {As : (Nat → Nat) → List Value} {fin : (Nat → Nat) → Option Value × Me}
theorem r_callV (hX : Gd X cc own nL fr) (hd : decode cc pc = .ok (.invokevirtual idx, 3)) (hM : MI y cy nLy ret n) (hV : MV y ci) (hw : Cond.methodLink own idx y ∈ gt) (h9 : kd o = ci) (hct : Ct y cy nLy ret fy (fun ad => .ref (ad o) :: As ad) mm fin) (hn : (As (xad X)).length = n) (hst : stk = (As (xad X)).reverse ++ rX X o :: st) (hcat : (st.map fun v => v.category).sum ≤ 8) (hf : fy < fr)
    (k : J X ov F (fin (xad X)).2 (pc + 3) L ((fin (xad X)).1.toList ++ st)) : J X ov F mm pc L stk := by
  obtain ⟨p, l, e, R, s, m, args, below, meth, c, D, cy', ad, A, sad, kc, ks, fn, qq⟩ := X
  obtain ⟨hx, hb, hml, hown, hts, hK, hA, hSt, hlk, hfr, hlo, hkc, hks⟩ := hX
  intro res hF ho H locs ls hP hS hl
  obtain ⟨m1, m2, m3, m4⟩ := hM
  obtain ⟨v1, v2, T, N, v3⟩ := hV
  subst h9
  obtain ⟨q, hq1, hq2⟩ := ws_get (cy := cy') (ad := ad) (m := mm) (o := o) (fun h => by rw [h] at v3; simp at v3)
  have h99 : kd o < 9 := by
    have := (List.getElem?_eq_some_iff.mp v3).1
    simpa using this
  rw [cel_o h99] at hq2
  refine call_any (va_runV (As := As ad) (rest := st) (C := y.cls) (n := n) ⟨hx, hb, hml, hown, hts⟩ (hct l D cy' ad A sad) (cwV (C := y.cls) n hts (fun w h => ?_) rfl rfl rfl ⟨rfl, m3⟩ ⟨?_, ?_⟩) ⟨Pw.blind, va_recv hK hP v3 hq2, fun U hU hW => ⟨rfl, by rw [hU]; exact hP, va_K.moved hW.alike hK, hA, by rw [hU]; exact hSt.kept hW (fun a h1 h2 => hS.2.1 a h1 h2)⟩⟩ rfl hn (hl.1.trans hml) ?_ (lv_room hcat) hd ⟨?_, ?_⟩) hS (fun H1 locs1 hP1 hS1 => k res hF ho H1 locs1 ls hP1 hS1 hl)
  · have hm : w ∈ gt := by
      unfold wsV at h
      rcases List.mem_append.mp h with h | h
      · simp only [List.mem_cons, List.not_mem_nil, or_false] at h
        rcases h with rfl | rfl | rfl | rfl
        · exact hw
        · exact v1
        · exact v2
        · exact m2
      · rcases List.mem_cons.mp h with rfl | h
        · exact m1
        · exact h
    exact gd_all w hm
  · show fy + 1 ≤ R.frames
    omega
  · show 8 + (nLy + 11) + 64 * fy ≤ R.locals
    omega
  · show stk = _
    rw [hst]
    rfl
  · exact hkc
  · exact hks
theorem r_callS (hX : Gd X cc own nL fr) (hd : decode cc pc = .ok (.invokestatic idx, 3)) (hM : MI y cy nLy ret n) (hV : Cond.static y ∈ gt) (hw : Cond.methodLink own idx y ∈ gt) (hct : Ct y cy nLy ret fy As mm fin) (hn : (As (xad X)).length = n) (hst : stk = (As (xad X)).reverse ++ st) (hcat : (st.map fun v => v.category).sum ≤ 8) (hf : fy < fr)
    (k : J X ov F (fin (xad X)).2 (pc + 3) L ((fin (xad X)).1.toList ++ st)) : J X ov F mm pc L stk := by
  obtain ⟨p, l, e, R, s, m, args, below, meth, c, D, cy', ad, A, sad, kc, ks, fn, qq⟩ := X
  obtain ⟨hx, hb, hml, hown, hts, hK, hA, hSt, hlk, hfr, hlo, hkc, hks⟩ := hX
  intro res hF ho H locs ls hP hS hl
  obtain ⟨m1, m2, m3, m4⟩ := hM
  refine call_any (va_runS (As := As ad) (rest := st) (n := n) ⟨hx, hb, hml, hown, hts⟩ (hct l D cy' ad A sad) ⟨callB_of n hts (gd_y m1) rfl rfl rfl (hts _ m2) (hts _ hw) m3 ⟨?_, ?_⟩, hts _ hV⟩ ⟨Pw.blind, fun U hU hW => ⟨rfl, by rw [hU]; exact hP, va_K.moved hW.alike hK, hA, by rw [hU]; exact hSt.kept hW (fun a h1 h2 => hS.2.1 a h1 h2)⟩⟩ rfl hn (hl.1.trans hml) ?_ (lv_room hcat) hd ⟨?_, ?_⟩) hS (fun H1 locs1 hP1 hS1 => k res hF ho H1 locs1 ls hP1 hS1 hl)
  · show fy + 1 ≤ R.frames
    omega
  · show 8 + (nLy + 11) + 64 * fy ≤ R.locals
    omega
  · show stk = _
    rw [hst]
    rfl
  · exact hkc
  · exact hks
/-! the answers, taken apart -/
theorem r_cP {α : Type} {x : Option α} {K : α → Option ρ} (k : ∀ r, x = some r → J X ov (K r) mm pc L st) : J X ov (cP x K) mm pc L st := by
  cases x with
  | none => exact r_none
  | some r => exact k r rfl
theorem r_cI {α : Type} {x : Option (α × Me)} {K : α → Me → Option ρ} (k : ∀ r m', x = some (r, m') → J X ov (K r m') mm pc L st) : J X ov (cI x K) mm pc L st := by
  cases x with
  | none => exact r_none
  | some r => exact k r.1 r.2 rfl
end ROWS2
end
section
def fx {κ : Type} (B : κ → κ) (z : κ) : Nat → κ
  | 0 => z
  | n + 1 => B (fx B z n)
theorem fx_ind {κ : Type} {B : κ → κ} {z : κ} (P : κ → Prop) (h0 : P z) (hs : ∀ f, P f → P (B f)) : ∀ n, P (fx B z n) := by
  intro n
  induction n with
  | zero => exact h0
  | succ n ih => exact hs _ ih
def FU : Nat := 4000
def ac {ρ : Type} (m : Me) (o1 : Nat) (sp : Int32) (o2 : Nat) (dp n : Int32) (K : Me → Option ρ) : Option ρ := if sp < 0 ∨ dp < 0 ∨ n < 0 ∨ ln o1 < sp.toNatClampNeg + n.toNatClampNeg ∨ ln o2 < dp.toNatClampNeg + n.toNatClampNeg then none else K (sr m o2 (va_cpy (m.1 o1) (m.1 o2) sp.toNatClampNeg dp.toNatClampNeg n.toNatClampNeg))
theorem chart_no {c : Nat} (h : kd c = 1) : c = 10 ∨ c = 20 ∨ c = 30 ∨ c = 40 ∨ c = 50 ∨ c = 60 ∨ c = 70 ∨ c = 80 ∨ c = 90 := by
  have hl : c < 1388 := by
    rcases Nat.lt_or_ge c 1388 with q | q
    · exact q
    · exfalso
      revert h
      unfold kd
      rw [if_neg (by omega), if_neg (by omega), if_neg (by omega), if_neg (by omega), if_neg (by omega), if_neg (by omega), if_neg (by omega)]
      decide
  have key : ∀ c, c < 1388 → kd c = 1 → c = 10 ∨ c = 20 ∨ c = 30 ∨ c = 40 ∨ c = 50 ∨ c = 60 ∨ c = 70 ∨ c = 80 ∨ c = 90 := by decide +kernel
  exact key c hl h
theorem kdB {j : Nat} (h : j < ln 4) : kd (1000 + j) = 0 := by
  have h : j < 384 := h
  unfold kd
  rw [if_neg (by omega), if_neg (by omega), if_neg (by omega), if_neg (by omega), if_neg (by omega), if_neg (by omega), if_pos (by omega)]
theorem kdR {j : Nat} (h : j < ln 2) : kd (20 + 10 * j) = 1 := by
  have h : j < 8 := h
  rcases (show j = 0 ∨ j = 1 ∨ j = 2 ∨ j = 3 ∨ j = 4 ∨ j = 5 ∨ j = 6 ∨ j = 7 by omega) with rfl | rfl | rfl | rfl | rfl | rfl | rfl | rfl <;> rfl
theorem rfC2 {c : Nat} (h : kd c = 1) : rf c 2 = some (c + 1) := by
  rcases chart_no h with rfl | rfl | rfl | rfl | rfl | rfl | rfl | rfl | rfl <;> rfl
theorem kdC1 {c : Nat} (h : kd c = 1) : kd (c + 1) = 20 := by
  rcases chart_no h with rfl | rfl | rfl | rfl | rfl | rfl | rfl | rfl | rfl <;> rfl
theorem rfC3 {c : Nat} (h : kd c = 1) : rf c 3 = some (c + 2) := by
  rcases chart_no h with rfl | rfl | rfl | rfl | rfl | rfl | rfl | rfl | rfl <;> rfl
theorem kdC2 {c : Nat} (h : kd c = 1) : kd (c + 2) = 20 := by
  rcases chart_no h with rfl | rfl | rfl | rfl | rfl | rfl | rfl | rfl | rfl <;> rfl
theorem rfC4 {c : Nat} (h : kd c = 1) : rf c 4 = some (c + 3) := by
  rcases chart_no h with rfl | rfl | rfl | rfl | rfl | rfl | rfl | rfl | rfl <;> rfl
theorem kdC3 {c : Nat} (h : kd c = 1) : kd (c + 3) = 20 := by
  rcases chart_no h with rfl | rfl | rfl | rfl | rfl | rfl | rfl | rfl | rfl <;> rfl
theorem rfC5 {c : Nat} (h : kd c = 1) : rf c 5 = some (c + 4) := by
  rcases chart_no h with rfl | rfl | rfl | rfl | rfl | rfl | rfl | rfl | rfl <;> rfl
theorem kdC4 {c : Nat} (h : kd c = 1) : kd (c + 4) = 20 := by
  rcases chart_no h with rfl | rfl | rfl | rfl | rfl | rfl | rfl | rfl | rfl <;> rfl
theorem rfC6 {c : Nat} (h : kd c = 1) : rf c 6 = some (c + 5) := by
  rcases chart_no h with rfl | rfl | rfl | rfl | rfl | rfl | rfl | rfl | rfl <;> rfl
theorem kdC5 {c : Nat} (h : kd c = 1) : kd (c + 5) = 20 := by
  rcases chart_no h with rfl | rfl | rfl | rfl | rfl | rfl | rfl | rfl | rfl <;> rfl
theorem rfC7 {c : Nat} (h : kd c = 1) : rf c 7 = some (c + 6) := by
  rcases chart_no h with rfl | rfl | rfl | rfl | rfl | rfl | rfl | rfl | rfl <;> rfl
theorem kdC6 {c : Nat} (h : kd c = 1) : kd (c + 6) = 20 := by
  rcases chart_no h with rfl | rfl | rfl | rfl | rfl | rfl | rfl | rfl | rfl <;> rfl
theorem rfC8 {c : Nat} (h : kd c = 1) : rf c 8 = some (c + 7) := by
  rcases chart_no h with rfl | rfl | rfl | rfl | rfl | rfl | rfl | rfl | rfl <;> rfl
theorem kdC7 {c : Nat} (h : kd c = 1) : kd (c + 7) = 20 := by
  rcases chart_no h with rfl | rfl | rfl | rfl | rfl | rfl | rfl | rfl | rfl <;> rfl
theorem rfC9 {c : Nat} (h : kd c = 1) : rf c 9 = some (c + 8) := by
  rcases chart_no h with rfl | rfl | rfl | rfl | rfl | rfl | rfl | rfl | rfl <;> rfl
theorem kdC8 {c : Nat} (h : kd c = 1) : kd (c + 8) = 20 := by
  rcases chart_no h with rfl | rfl | rfl | rfl | rfl | rfl | rfl | rfl | rfl <;> rfl
theorem rfC10 {c : Nat} (h : kd c = 1) : rf c 10 = some (c + 9) := by
  rcases chart_no h with rfl | rfl | rfl | rfl | rfl | rfl | rfl | rfl | rfl <;> rfl
theorem kdC9 {c : Nat} (h : kd c = 1) : kd (c + 9) = 20 := by
  rcases chart_no h with rfl | rfl | rfl | rfl | rfl | rfl | rfl | rfl | rfl <;> rfl
theorem sw_def {x : Int32} {n : Nat} (hn : n < 2 ^ 30) (h : ∀ k, k ≤ n → ¬ x = nI k) : x.toInt < 0 ∨ (n : Int) < x.toInt := by
  rcases pk_ix x (n := n + 1) (by omega) with q | q | ⟨j, h1, h2⟩
  · exact Or.inl (by have := Int32.lt_iff_toInt_lt.mp q; simpa using this)
  · have h2 := Int32.le_iff_toInt_le.mp q
    rw [nI_toInt (by omega)] at h2
    exact Or.inr (by omega)
  · exact absurd h2 (h j (by omega))
theorem KC0 : KC 0 RX0 TX0 9 tyX0 := ⟨rfl, gt_sub (by decide +kernel), tyX0_ok, nmX0, by decide, by decide⟩
theorem KC1 : KC 1 RX1 TX1 11 tyX1 := ⟨rfl, gt_sub (by decide +kernel), tyX1_ok, nmX1, by decide, by decide⟩
theorem KC2 : KC 2 RX2 TX2 3 tyX2 := ⟨rfl, gt_sub (by decide +kernel), tyX2_ok, nmX2, by decide, by decide⟩
theorem KC3 : KC 3 RX3 TX3 3 tyX3 := ⟨rfl, gt_sub (by decide +kernel), tyX3_ok, nmX3, by decide, by decide⟩
theorem KC4 : KC 4 RX4 TX4 5 tyX4 := ⟨rfl, gt_sub (by decide +kernel), tyX4_ok, nmX4, by decide, by decide⟩
theorem KC5 : KC 5 RX5 TX5 6 tyX5 := ⟨rfl, gt_sub (by decide +kernel), tyX5_ok, nmX5, by decide, by decide⟩
theorem KC6 : KC 6 RX6 TX6 10 tyX6 := ⟨rfl, gt_sub (by decide +kernel), tyX6_ok, nmX6, by decide, by decide⟩
theorem KC7 : KC 7 RX7 TX7 10 tyX7 := ⟨rfl, gt_sub (by decide +kernel), tyX7_ok, nmX7, by decide, by decide⟩
theorem KC8 : KC 8 RX8 TX8 38 tyX8 := ⟨rfl, gt_sub (by decide +kernel), tyX8_ok, nmX8, by decide, by decide⟩
theorem acp_n : Cond.native arraycopyName ∈ gt := gt_in (by decide +kernel) rfl
theorem acp_s : Cond.static arraycopyName ∈ gt := gt_in (by decide +kernel) rfl
theorem acp_i : Cond.initialized "java/lang/System" ∈ gt := gt_in (by decide +kernel) rfl
def mx (x y : Int32) : Int32 := if x < y then y else x
def mn (x y : Int32) : Int32 := if y < x then y else x
def mb (x : Int32) : Int32 := if 0 ≤ x then x else 0 - x
theorem math_i : Cond.initialized "java/lang/Math" ∈ gt := gt_in (by decide +kernel) rfl
theorem math_s_max : Cond.static Lib.Math.max.name ∈ gt := gt_in (by decide +kernel) rfl
theorem math_c_max : Cond.code Lib.Math.max.name Lib.Math.max.code 2 (some .int) ∈ gt := gt_in (by decide +kernel) rfl
theorem math_s_min : Cond.static Lib.Math.min.name ∈ gt := gt_in (by decide +kernel) rfl
theorem math_c_min : Cond.code Lib.Math.min.name Lib.Math.min.code 2 (some .int) ∈ gt := gt_in (by decide +kernel) rfl
theorem math_s_abs : Cond.static Lib.Math.abs.name ∈ gt := gt_in (by decide +kernel) rfl
theorem math_c_abs : Cond.code Lib.Math.abs.name Lib.Math.abs.code 1 (some .int) ∈ gt := gt_in (by decide +kernel) rfl
section ROWS3
variable {ρ : Type} {X : Cx} {ov : ρ → Option Value × Me} {F : Option ρ} {mm : Me} {pc : Nat} {L : List (Nat × Value)} {st stk : List Value} {cc : ByteArray} {own : String} {nL fr : Nat}
theorem r_nmI {x : Int32} {T : Int32 → Option ρ} (k : ∀ v, J X ov (T v) mm pc L (.int v :: st)) : J X ov (bd x T) mm pc L (.int x :: st) := k x
theorem r_nmL {x : Int64} {T : Int64 → Option ρ} (k : ∀ v, J X ov (T v) mm pc L (.long v :: st)) : J X ov (bd x T) mm pc L (.long x :: st) := k x
theorem r_iincN {L' : Int32 → List (Nat × Value)} (hX : Gd X cc own nL fr) {i : Nat} {n : Int} {x e' : Int32} {K : Int32 → Option ρ} (q : Nat) (hd : decode cc pc = .ok (.iinc i n, 3)) (hq : L[q]? = some (i, .int x)) (hv : x + Int32.ofInt n = e') (hn : i < nL) (hL : ∀ w, (i, Value.int w) :: L.filter (fun q => !(q.1 == i) && !(q.1 + 1 == i && q.2.category == 2)) = L' w) (k : ∀ v, J X ov (K v) mm (pc + 3) (L' v) st) : J X ov (bd e' K) mm pc L st := by
  obtain ⟨p, l, e, R, s, m, args, below, meth, c, D, cy, ad, A, sad, kc, ks, fin, qq⟩ := X
  obtain ⟨hx, hb, hml, hown, hts, hK, hA, hSt, hlk, hfr, hlo, hkc, hks⟩ := hX
  intro res hF ho H locs ls hP hS hl
  refine lv_iinc hx hb hd hl hq hv (by rw [hml]; exact hn) (hL e') (fun ls hl => ?_)
  exact k e' res hF ho H locs ls hP hS hl
theorem r_aldB (hX : Gd X cc own nL fr) {i : Int32} {K : Nat → Option ρ} (hd : decode cc pc = .ok (.aaload, 1)) (k : ∀ b, kd b = 0 → J X ov (K b) mm (pc + 1) L (rX X b :: st)) : J X ov (rd (ln 4) i (fun j => 1000 + j) K) mm pc L (.int i :: rX X 4 :: st) := by
  obtain ⟨p, l, e, R, s, m, args, below, meth, c, D, cy, ad, A, sad, kc, ks, fin, qq⟩ := X
  obtain ⟨hx, hb, hml, hown, hts, hK, hA, hSt, hlk, hfr, hlo, hkc, hks⟩ := hX
  intro res hF ho H locs ls hP hS hl
  unfold rd at hF
  by_cases hi : i < 0 ∨ ln 4 ≤ i.toNatClampNeg
  case pos => rw [if_pos hi] at hF; cases hF
  rw [if_neg hi] at hF
  obtain ⟨q, hq1, hq2⟩ := ws_get (cy := cy) (ad := ad) (m := mm) (o := 4) (by decide)
  rw [cel_b (by decide)] at hq2
  have hj : i.toNatClampNeg < ln 4 := by omega
  have h2 := k _ (kdB hj) res hF ho H locs ls hP hS hl
  exact va_aldq hx hb hK hP q 3 hq2 rfl hi hd h2
theorem r_aldC (hX : Gd X cc own nL fr) {i : Int32} {K : Nat → Option ρ} (hd : decode cc pc = .ok (.aaload, 1)) (k : ∀ b, kd b = 1 → J X ov (K b) mm (pc + 1) L (rX X b :: st)) : J X ov (rd (ln 2) i (fun j => 20 + 10 * j) K) mm pc L (.int i :: rX X 2 :: st) := by
  obtain ⟨p, l, e, R, s, m, args, below, meth, c, D, cy, ad, A, sad, kc, ks, fin, qq⟩ := X
  obtain ⟨hx, hb, hml, hown, hts, hK, hA, hSt, hlk, hfr, hlo, hkc, hks⟩ := hX
  intro res hF ho H locs ls hP hS hl
  unfold rd at hF
  by_cases hi : i < 0 ∨ ln 2 ≤ i.toNatClampNeg
  case pos => rw [if_pos hi] at hF; cases hF
  rw [if_neg hi] at hF
  obtain ⟨q, hq1, hq2⟩ := ws_get (cy := cy) (ad := ad) (m := mm) (o := 2) (by decide)
  rw [cel_c (by decide)] at hq2
  have hj : i.toNatClampNeg < ln 2 := by omega
  have h2 := k _ (kdR hj) res hF ho H locs ls hP hS hl
  exact va_aldq hx hb hK hP q 4 hq2 rfl hi hd h2
theorem r_acp (hX : Gd X cc own nL fr) {idx o1 o2 : Nat} {sp dp n : Int32} {K : Me → Option ρ} (hd : decode cc pc = .ok (.invokestatic idx, 3)) (hw : Cond.methodLink own idx arraycopyName ∈ gt) (h1 : kd o1 = 20) (h2 : kd o2 = 20) (hcat : (st.map fun v => v.category).sum ≤ 8) (h3 : 1 ≤ fr) (k : ∀ m', J X ov (K m') m' (pc + 3) L st) : J X ov (ac mm o1 sp o2 dp n K) mm pc L (.int n :: .int dp :: rX X o2 :: .int sp :: rX X o1 :: st) := by
  obtain ⟨p, l, e, R, s, m, args, below, meth, c, D, cy, ad, A, sad, kc, ks, fin, qq⟩ := X
  obtain ⟨hx, hb, hml, hown, hts, hK, hA, hSt, hlk, hfr, hlo, hkc, hks⟩ := hX
  intro res hF ho H locs ls hP hS hl
  unfold ac at hF
  by_cases hi : sp < 0 ∨ dp < 0 ∨ n < 0 ∨ ln o1 < sp.toNatClampNeg + n.toNatClampNeg ∨ ln o2 < dp.toNatClampNeg + n.toNatClampNeg
  case pos => rw [if_pos hi] at hF; cases hF
  rw [if_neg hi] at hF
  obtain ⟨q1, hq1, hq2⟩ := ws_get (cy := cy) (ad := ad) (m := mm) (o := o1) (by omega)
  rw [cel_i h1] at hq2
  obtain ⟨q3, hq3, hq4⟩ := ws_get (cy := cy) (ad := ad) (m := mm) (o := o2) (by omega)
  rw [cel_i h2] at hq4
  refine va_copyi hx hb (hl.1.symm) hown (hts _ hw) (hts _ acp_n) (hts _ acp_s) (hts _ acp_i) hK hP (hA.D cy mm) hS q1 q3 0 0 hq2 hq4 rfl rfl rfl (fun z => hi (Or.inl z)) (fun z => hi (Or.inr (Or.inl z))) (fun z => hi (Or.inr (Or.inr (Or.inl z)))) (by omega) (by omega) (fun _ _ => rfl) (by omega) ?_ hd (fun H1 locs1 hP1 _ hS1 => ?_)
  · have : nativeFrameWords "java/lang/System" "arraycopy" 5 + 11 ≤ 56 := by decide +kernel
    omega
  · rw [ws_set (m := mm) (m' := sr mm o2 (va_cpy (mm.1 o1) (mm.1 o2) sp.toNatClampNeg dp.toNatClampNeg n.toNatClampNeg)) hq3 (by rw [cel_i h2]; unfold sr; simp) (fun _ h => cel_eq (sr_ne h) rfl)] at hP1
    exact k _ res hF ho H1 locs1 ls hP1 hS1 hl
theorem r_zretIk (hX : Gd X cc own nL fr) (hE : Ge X (some .boolean)) {v : Int32} (hd : decode cc pc = .ok (.ireturn, 1)) (hz : v = 0 ∨ v = 1) : J X oI (some (v, mm)) mm pc L [.int v] := by
  obtain ⟨p, l, e, R, s, m, args, below, meth, c, D, cy, ad, A, sad, kc, ks, fin, qq⟩ := X
  obtain ⟨hx, hb, hml, hown, hts, hK, hA, hSt, hlk, hfr, hlo, hkc, hks⟩ := hX
  intro res hF ho H locs ls hP hS hl
  obtain ⟨hr, hq⟩ := hE
  cases hF
  subst ho
  rw [hq]
  refine W.zret hx hb hr (by rcases hz with rfl | rfl <;> rfl) (fun t ht hW => ?_) hS.2.2 hd hlk
  exact ⟨rfl, by rw [ht]; exact hP, va_K.moved hW.alike hK, hS.F ht⟩
theorem r_zretPk (hX : Gd X cc own nL fr) (hE : Ge X (some .boolean)) {v : Int32} (hd : decode cc pc = .ok (.ireturn, 1)) (hz : v = 0 ∨ v = 1) : J X (oP mm) (some v) mm pc L [.int v] := by
  obtain ⟨p, l, e, R, s, m, args, below, meth, c, D, cy, ad, A, sad, kc, ks, fin, qq⟩ := X
  obtain ⟨hx, hb, hml, hown, hts, hK, hA, hSt, hlk, hfr, hlo, hkc, hks⟩ := hX
  intro res hF ho H locs ls hP hS hl
  obtain ⟨hr, hq⟩ := hE
  cases hF
  subst ho
  rw [hq]
  refine W.zret hx hb hr (by rcases hz with rfl | rfl <;> rfl) (fun t ht hW => ?_) hS.2.2 hd hlk
  exact ⟨rfl, by rw [ht]; exact hP, va_K.moved hW.alike hK, hS.F ht⟩
variable {y : MethodName} {cy : ByteArray} {nLy idx n ci o fy : Nat} {ret : Option FieldType} {As : (Nat → Nat) → List Value}
theorem r_cvP {f : Option Int32} {K : Int32 → Option ρ} (hX : Gd X cc own nL fr) (hd : decode cc pc = .ok (.invokevirtual idx, 3)) (hM : MI y cy nLy ret n) (hV : MV y ci) (hw : Cond.methodLink own idx y ∈ gt) (h9 : kd o = ci) (hct : ∀ (r : Int32), f = some r → Ct y cy nLy ret fy (fun ad => .ref (ad o) :: As ad) mm (fun _ => (some (.int r), mm))) (hn : (As (xad X)).length = n) (hst : stk = (As (xad X)).reverse ++ rX X o :: st) (hcat : (st.map fun v => v.category).sum ≤ 8) (hf : fy < fr) (k : ∀ r, J X ov (K r) mm (pc + 3) L (.int r :: st)) : J X ov (cP f K) mm pc L stk :=
  r_cP (fun r h => r_callV hX hd hM hV hw h9 (hct r h) hn hst hcat hf (k r))
theorem r_cvL {f : Option Int64} {K : Int64 → Option ρ} (hX : Gd X cc own nL fr) (hd : decode cc pc = .ok (.invokevirtual idx, 3)) (hM : MI y cy nLy ret n) (hV : MV y ci) (hw : Cond.methodLink own idx y ∈ gt) (h9 : kd o = ci) (hct : ∀ (r : Int64), f = some r → Ct y cy nLy ret fy (fun ad => .ref (ad o) :: As ad) mm (fun _ => (some (.long r), mm))) (hn : (As (xad X)).length = n) (hst : stk = (As (xad X)).reverse ++ rX X o :: st) (hcat : (st.map fun v => v.category).sum ≤ 8) (hf : fy < fr) (k : ∀ r, J X ov (K r) mm (pc + 3) L (.long r :: st)) : J X ov (cP f K) mm pc L stk :=
  r_cP (fun r h => r_callV hX hd hM hV hw h9 (hct r h) hn hst hcat hf (k r))
theorem r_cvR {f : Option Nat} {K : Nat → Option ρ} (hX : Gd X cc own nL fr) (hd : decode cc pc = .ok (.invokevirtual idx, 3)) (hM : MI y cy nLy ret n) (hV : MV y ci) (hw : Cond.methodLink own idx y ∈ gt) (h9 : kd o = ci) (hct : ∀ (r : Nat), f = some r → Ct y cy nLy ret fy (fun ad => .ref (ad o) :: As ad) mm (fun ad => (some (.ref (ad r)), mm))) (hn : (As (xad X)).length = n) (hst : stk = (As (xad X)).reverse ++ rX X o :: st) (hcat : (st.map fun v => v.category).sum ≤ 8) (hf : fy < fr) (k : ∀ r, f = some r → J X ov (K r) mm (pc + 3) L (rX X r :: st)) : J X ov (cP f K) mm pc L stk :=
  r_cP (fun r h => r_callV hX hd hM hV hw h9 (hct r h) hn hst hcat hf (k r h))
theorem r_cvV {f : Option Me} {K : Me → Option ρ} (hX : Gd X cc own nL fr) (hd : decode cc pc = .ok (.invokevirtual idx, 3)) (hM : MI y cy nLy ret n) (hV : MV y ci) (hw : Cond.methodLink own idx y ∈ gt) (h9 : kd o = ci) (hct : ∀ (r : Me), f = some r → Ct y cy nLy ret fy (fun ad => .ref (ad o) :: As ad) mm (fun _ => (none, r))) (hn : (As (xad X)).length = n) (hst : stk = (As (xad X)).reverse ++ rX X o :: st) (hcat : (st.map fun v => v.category).sum ≤ 8) (hf : fy < fr) (k : ∀ r, J X ov (K r) r (pc + 3) L st) : J X ov (cP f K) mm pc L stk :=
  r_cP (fun r h => r_callV hX hd hM hV hw h9 (hct r h) hn hst hcat hf (k r))
theorem r_cvI {f : Option (Int32 × Me)} {K : Int32 → Me → Option ρ} (hX : Gd X cc own nL fr) (hd : decode cc pc = .ok (.invokevirtual idx, 3)) (hM : MI y cy nLy ret n) (hV : MV y ci) (hw : Cond.methodLink own idx y ∈ gt) (h9 : kd o = ci) (hct : ∀ (r : Int32) (m' : Me), f = some (r, m') → Ct y cy nLy ret fy (fun ad => .ref (ad o) :: As ad) mm (fun _ => (some (.int r), m'))) (hn : (As (xad X)).length = n) (hst : stk = (As (xad X)).reverse ++ rX X o :: st) (hcat : (st.map fun v => v.category).sum ≤ 8) (hf : fy < fr) (k : ∀ r m', J X ov (K r m') m' (pc + 3) L (.int r :: st)) : J X ov (cI f K) mm pc L stk :=
  r_cI (fun r m' h => r_callV hX hd hM hV hw h9 (hct r m' h) hn hst hcat hf (k r m'))
theorem r_csP {f : Option Int32} {K : Int32 → Option ρ} (hX : Gd X cc own nL fr) (hd : decode cc pc = .ok (.invokestatic idx, 3)) (hM : MI y cy nLy ret n) (hV : Cond.static y ∈ gt) (hw : Cond.methodLink own idx y ∈ gt) (hct : ∀ (r : Int32), f = some r → Ct y cy nLy ret fy As mm (fun _ => (some (.int r), mm))) (hn : (As (xad X)).length = n) (hst : stk = (As (xad X)).reverse ++ st) (hcat : (st.map fun v => v.category).sum ≤ 8) (hf : fy < fr) (k : ∀ r, J X ov (K r) mm (pc + 3) L (.int r :: st)) : J X ov (cP f K) mm pc L stk :=
  r_cP (fun r h => r_callS hX hd hM hV hw (hct r h) hn hst hcat hf (k r))
theorem r_csL {f : Option Int64} {K : Int64 → Option ρ} (hX : Gd X cc own nL fr) (hd : decode cc pc = .ok (.invokestatic idx, 3)) (hM : MI y cy nLy ret n) (hV : Cond.static y ∈ gt) (hw : Cond.methodLink own idx y ∈ gt) (hct : ∀ (r : Int64), f = some r → Ct y cy nLy ret fy As mm (fun _ => (some (.long r), mm))) (hn : (As (xad X)).length = n) (hst : stk = (As (xad X)).reverse ++ st) (hcat : (st.map fun v => v.category).sum ≤ 8) (hf : fy < fr) (k : ∀ r, J X ov (K r) mm (pc + 3) L (.long r :: st)) : J X ov (cP f K) mm pc L stk :=
  r_cP (fun r h => r_callS hX hd hM hV hw (hct r h) hn hst hcat hf (k r))
theorem r_csR {f : Option Nat} {K : Nat → Option ρ} (hX : Gd X cc own nL fr) (hd : decode cc pc = .ok (.invokestatic idx, 3)) (hM : MI y cy nLy ret n) (hV : Cond.static y ∈ gt) (hw : Cond.methodLink own idx y ∈ gt) (hct : ∀ (r : Nat), f = some r → Ct y cy nLy ret fy As mm (fun ad => (some (.ref (ad r)), mm))) (hn : (As (xad X)).length = n) (hst : stk = (As (xad X)).reverse ++ st) (hcat : (st.map fun v => v.category).sum ≤ 8) (hf : fy < fr) (k : ∀ r, f = some r → J X ov (K r) mm (pc + 3) L (rX X r :: st)) : J X ov (cP f K) mm pc L stk :=
  r_cP (fun r h => r_callS hX hd hM hV hw (hct r h) hn hst hcat hf (k r h))
theorem r_csV {f : Option Me} {K : Me → Option ρ} (hX : Gd X cc own nL fr) (hd : decode cc pc = .ok (.invokestatic idx, 3)) (hM : MI y cy nLy ret n) (hV : Cond.static y ∈ gt) (hw : Cond.methodLink own idx y ∈ gt) (hct : ∀ (r : Me), f = some r → Ct y cy nLy ret fy As mm (fun _ => (none, r))) (hn : (As (xad X)).length = n) (hst : stk = (As (xad X)).reverse ++ st) (hcat : (st.map fun v => v.category).sum ≤ 8) (hf : fy < fr) (k : ∀ r, J X ov (K r) r (pc + 3) L st) : J X ov (cP f K) mm pc L stk :=
  r_cP (fun r h => r_callS hX hd hM hV hw (hct r h) hn hst hcat hf (k r))
theorem r_csI {f : Option (Int32 × Me)} {K : Int32 → Me → Option ρ} (hX : Gd X cc own nL fr) (hd : decode cc pc = .ok (.invokestatic idx, 3)) (hM : MI y cy nLy ret n) (hV : Cond.static y ∈ gt) (hw : Cond.methodLink own idx y ∈ gt) (hct : ∀ (r : Int32) (m' : Me), f = some (r, m') → Ct y cy nLy ret fy As mm (fun _ => (some (.int r), m'))) (hn : (As (xad X)).length = n) (hst : stk = (As (xad X)).reverse ++ st) (hcat : (st.map fun v => v.category).sum ≤ 8) (hf : fy < fr) (k : ∀ r m', J X ov (K r m') m' (pc + 3) L (.int r :: st)) : J X ov (cI f K) mm pc L stk :=
  r_cI (fun r m' h => r_callS hX hd hM hV hw (hct r m' h) hn hst hcat hf (k r m'))
theorem r_mmax (hX : Gd X cc own nL fr) {x y : Int32} (hd : decode cc pc = .ok (.invokestatic idx, 3)) (hw : Cond.methodLink own idx Lib.Math.max.name ∈ gt) (hcat : (st.map fun v => v.category).sum ≤ 8) (h3 : 1 ≤ fr) (k : J X ov F mm (pc + 3) L (.int (mx x y) :: st)) : J X ov F mm pc L (.int y :: .int x :: st) := by
  obtain ⟨p, l, e, R, s, m, args, below, meth, c, D, cy, ad, A, sad, kc, ks, fin, qq⟩ := X
  obtain ⟨hx, hb, hml, hown, hts, hK, hA, hSt, hlk, hfr, hlo, hkc, hks⟩ := hX
  intro res hF ho H locs ls hP hS hl
  exact va_mmax hx hb hl.1.symm hown (hts _ hw) (hts _ math_s_max) (hts _ math_i) (hts _ math_c_max) (by omega) (by omega) hkc hks hd (k res hF ho H locs ls hP hS hl)
theorem r_mmin (hX : Gd X cc own nL fr) {x y : Int32} (hd : decode cc pc = .ok (.invokestatic idx, 3)) (hw : Cond.methodLink own idx Lib.Math.min.name ∈ gt) (hcat : (st.map fun v => v.category).sum ≤ 8) (h3 : 1 ≤ fr) (k : J X ov F mm (pc + 3) L (.int (mn x y) :: st)) : J X ov F mm pc L (.int y :: .int x :: st) := by
  obtain ⟨p, l, e, R, s, m, args, below, meth, c, D, cy, ad, A, sad, kc, ks, fin, qq⟩ := X
  obtain ⟨hx, hb, hml, hown, hts, hK, hA, hSt, hlk, hfr, hlo, hkc, hks⟩ := hX
  intro res hF ho H locs ls hP hS hl
  exact va_mmin hx hb hl.1.symm hown (hts _ hw) (hts _ math_s_min) (hts _ math_i) (hts _ math_c_min) (by omega) (by omega) hkc hks hd (k res hF ho H locs ls hP hS hl)
theorem r_mabs (hX : Gd X cc own nL fr) {x : Int32} (hd : decode cc pc = .ok (.invokestatic idx, 3)) (hw : Cond.methodLink own idx Lib.Math.abs.name ∈ gt) (hcat : (st.map fun v => v.category).sum ≤ 8) (h3 : 1 ≤ fr) (k : J X ov F mm (pc + 3) L (.int (mb x) :: st)) : J X ov F mm pc L (.int x :: st) := by
  obtain ⟨p, l, e, R, s, m, args, below, meth, c, D, cy, ad, A, sad, kc, ks, fin, qq⟩ := X
  obtain ⟨hx, hb, hml, hown, hts, hK, hA, hSt, hlk, hfr, hlo, hkc, hks⟩ := hX
  intro res hF ho H locs ls hP hS hl
  exact va_mabs hx hb hl.1.symm hown (hts _ hw) (hts _ math_s_abs) (hts _ math_i) (hts _ math_c_abs) (by omega) (by omega) hkc hks hd (k res hF ho H locs ls hP hS hl)
end ROWS3
end
section
theorem MI_Box_covers : MI yX0_covers cX0_covers 3 (some .boolean) 2 := ⟨gt_in (by decide +kernel) rfl, gt_in (by decide +kernel) rfl, by decide +kernel, by decide⟩
theorem MI_Box_coversAny : MI yX0_coversAny cX0_coversAny 6 (some .boolean) 4 := ⟨gt_in (by decide +kernel) rfl, gt_in (by decide +kernel) rfl, by decide +kernel, by decide⟩
theorem MI_Box_lineEnters : MI yX0_lineEnters cX0_lineEnters 12 (some .boolean) 1 := ⟨gt_in (by decide +kernel) rfl, gt_in (by decide +kernel) rfl, by decide +kernel, by decide⟩
theorem MI_Box_linesMeet : MI yX0_linesMeet cX0_linesMeet 8 (some .boolean) 1 := ⟨gt_in (by decide +kernel) rfl, gt_in (by decide +kernel) rfl, by decide +kernel, by decide⟩
theorem MI_Box_overlaps : MI yX0_overlaps cX0_overlaps 5 (some .boolean) 4 := ⟨gt_in (by decide +kernel) rfl, gt_in (by decide +kernel) rfl, by decide +kernel, by decide⟩
theorem MI_Box_sideOf : MI yX0_sideOf cX0_sideOf 3 (some .int) 2 := ⟨gt_in (by decide +kernel) rfl, gt_in (by decide +kernel) rfl, by decide +kernel, by decide⟩
theorem MI_Box_start : MI yX0_start cX0_start 4 (some .int) 4 := ⟨gt_in (by decide +kernel) rfl, gt_in (by decide +kernel) rfl, by decide +kernel, by decide⟩
theorem MS_Box_start : Cond.static yX0_start ∈ gt := gt_in (by decide +kernel) rfl
theorem MV_Box_covers : MV yX0_covers 0 := ⟨gt_in (by decide +kernel) rfl, gt_in (by decide +kernel) rfl, _, _, rfl⟩
theorem MV_Box_coversAny : MV yX0_coversAny 0 := ⟨gt_in (by decide +kernel) rfl, gt_in (by decide +kernel) rfl, _, _, rfl⟩
theorem MV_Box_lineEnters : MV yX0_lineEnters 0 := ⟨gt_in (by decide +kernel) rfl, gt_in (by decide +kernel) rfl, _, _, rfl⟩
theorem MV_Box_linesMeet : MV yX0_linesMeet 0 := ⟨gt_in (by decide +kernel) rfl, gt_in (by decide +kernel) rfl, _, _, rfl⟩
theorem MV_Box_overlaps : MV yX0_overlaps 0 := ⟨gt_in (by decide +kernel) rfl, gt_in (by decide +kernel) rfl, _, _, rfl⟩
theorem MV_Box_sideOf : MV yX0_sideOf 0 := ⟨gt_in (by decide +kernel) rfl, gt_in (by decide +kernel) rfl, _, _, rfl⟩
theorem bp_40 : (Int8.ofInt (40)).toInt32 = (40 : Int32) := by decide
theorem bp_8 : (Int8.ofInt (8)).toInt32 = (8 : Int32) := by decide
theorem fp0_15 : FP RX0 15 0 4 1 .boolean false := ⟨_, _, _, _, KC0, by decide, rfl, rfl, rfl, gt_in (by decide +kernel) rfl⟩
theorem fp0_21 : FP RX0 21 1 5 3 (.array .int) true := ⟨_, _, _, _, KC1, by decide, rfl, rfl, rfl, gt_in (by decide +kernel) rfl⟩
theorem fp0_24 : FP RX0 24 1 6 3 (.array .int) true := ⟨_, _, _, _, KC1, by decide, rfl, rfl, rfl, gt_in (by decide +kernel) rfl⟩
theorem fp0_27 : FP RX0 27 1 3 3 (.array .int) true := ⟨_, _, _, _, KC1, by decide, rfl, rfl, rfl, gt_in (by decide +kernel) rfl⟩
theorem fp0_30 : FP RX0 30 1 4 3 (.array .int) true := ⟨_, _, _, _, KC1, by decide, rfl, rfl, rfl, gt_in (by decide +kernel) rfl⟩
theorem fp0_40 : FP RX0 40 0 0 0 .int false := ⟨_, _, _, _, KC0, by decide, rfl, rfl, rfl, gt_in (by decide +kernel) rfl⟩
theorem fp0_47 : FP RX0 47 0 1 0 .int false := ⟨_, _, _, _, KC0, by decide, rfl, rfl, rfl, gt_in (by decide +kernel) rfl⟩
theorem fp0_50 : FP RX0 50 0 2 0 .int false := ⟨_, _, _, _, KC0, by decide, rfl, rfl, rfl, gt_in (by decide +kernel) rfl⟩
theorem fp0_53 : FP RX0 53 0 3 0 .int false := ⟨_, _, _, _, KC0, by decide, rfl, rfl, rfl, gt_in (by decide +kernel) rfl⟩
theorem fp0_56 : FP RX0 56 0 5 0 .int false := ⟨_, _, _, _, KC0, by decide, rfl, rfl, rfl, gt_in (by decide +kernel) rfl⟩
theorem fp0_59 : FP RX0 59 0 6 0 .int false := ⟨_, _, _, _, KC0, by decide, rfl, rfl, rfl, gt_in (by decide +kernel) rfl⟩
theorem fp0_62 : FP RX0 62 0 7 0 .int false := ⟨_, _, _, _, KC0, by decide, rfl, rfl, rfl, gt_in (by decide +kernel) rfl⟩
theorem fp0_65 : FP RX0 65 0 8 0 .int false := ⟨_, _, _, _, KC0, by decide, rfl, rfl, rfl, gt_in (by decide +kernel) rfl⟩
theorem fp0_68 : FP RX0 68 1 9 3 (.array .int) true := ⟨_, _, _, _, KC1, by decide, rfl, rfl, rfl, gt_in (by decide +kernel) rfl⟩
theorem fp0_71 : FP RX0 71 1 10 3 (.array .int) true := ⟨_, _, _, _, KC1, by decide, rfl, rfl, rfl, gt_in (by decide +kernel) rfl⟩
theorem fp0_74 : FP RX0 74 1 1 0 .int false := ⟨_, _, _, _, KC1, by decide, rfl, rfl, rfl, gt_in (by decide +kernel) rfl⟩
theorem fp0_81 : FP RX0 81 1 0 0 .int false := ⟨_, _, _, _, KC1, by decide, rfl, rfl, rfl, gt_in (by decide +kernel) rfl⟩
theorem fp0_9 : FP RX0 9 1 2 3 (.array .int) true := ⟨_, _, _, _, KC1, by decide, rfl, rfl, rfl, gt_in (by decide +kernel) rfl⟩
theorem g10_10 : rf 10 10 = some 19 := by decide
theorem g10_2 : rf 10 2 = some 11 := by decide
theorem g10_3 : rf 10 3 = some 12 := by decide
theorem g10_4 : rf 10 4 = some 13 := by decide
theorem g10_5 : rf 10 5 = some 14 := by decide
theorem g10_6 : rf 10 6 = some 15 := by decide
theorem g10_9 : rf 10 9 = some 18 := by decide
theorem ic_0 : Int32.ofInt (0) = (0 : Int32) := by decide
theorem ic_1 : Int32.ofInt (1) = (1 : Int32) := by decide
theorem ic_2 : Int32.ofInt (2) = (2 : Int32) := by decide
theorem k10 : kd 10 = 1 := by decide
theorem k11 : kd 11 = 20 := by decide
theorem k12 : kd 12 = 20 := by decide
theorem k13 : kd 13 = 20 := by decide
theorem k14 : kd 14 = 20 := by decide
theorem k15 : kd 15 = 20 := by decide
theorem k18 : kd 18 = 20 := by decide
theorem k19 : kd 19 = 20 := by decide
theorem lkM0_105 : Cond.methodLink RX0 105 Lib.Math.min.name ∈ gt := gt_in (by decide +kernel) rfl
theorem lkM0_99 : Cond.methodLink RX0 99 Lib.Math.max.name ∈ gt := gt_in (by decide +kernel) rfl
theorem lkX0_108 : Cond.methodLink RX0 108 yX0_sideOf ∈ gt := gt_in (by decide +kernel) rfl
theorem lkX0_36 : Cond.methodLink RX0 36 yX0_start ∈ gt := gt_in (by decide +kernel) rfl
theorem lkX0_77 : Cond.methodLink RX0 77 yX0_coversAny ∈ gt := gt_in (by decide +kernel) rfl
theorem lkX0_84 : Cond.methodLink RX0 84 yX0_covers ∈ gt := gt_in (by decide +kernel) rfl
theorem lkX0_88 : Cond.methodLink RX0 88 yX0_overlaps ∈ gt := gt_in (by decide +kernel) rfl
theorem lkX0_92 : Cond.methodLink RX0 92 yX0_lineEnters ∈ gt := gt_in (by decide +kernel) rfl
theorem lkX0_96 : Cond.methodLink RX0 96 yX0_linesMeet ∈ gt := gt_in (by decide +kernel) rfl
theorem sp_1000 : (Int16.ofInt (1000)).toInt32 = (1000 : Int32) := by decide
end
section
def f_Box_start (a0 : Int32) (a1 : Int32) (a2 : Int32) (a3 : Int32) (m : Me) : Option Int32 := if a1 = 0 then some (a0 - ((a2 / (2 : Int32)))) else if a1 ≤ 0 then some (((a0 - a3)) - a2) else some (a0 + a3)
set_option maxHeartbeats 4000000 in
set_option maxRecDepth 100000 in
theorem c_Box_start (a0 : Int32) (a1 : Int32) (a2 : Int32) (a3 : Int32)  (m : Me) (r : Int32) (h : f_Box_start a0 a1 a2 a3 m = some r) : Ct yX0_start cX0_start 4 (some .int) 0 (fun ad => [.int a0, .int a1, .int a2, .int a3]) m (fun ad => (some (.int r), m)) := by
  refine mk_ct (F := f_Box_start a0 a1 a2 a3 m) (fun _ => oP m) r h (fun _ => rfl) (by decide) (fun _ => Nat.le_of_ble_eq_true rfl) ?_
  intro X hX hE
  show J X (oP m) (f_Box_start a0 a1 a2 a3 m) m 0 [(0, .int a0), (1, .int a1), (2, .int a2), (3, .int a3)] []
  unfold f_Box_start
  refine r_iload_n (pc := 0) hX 1 dX0_start_0 rfl rfl ?_
  refine r_if_ne (tgt := 10) (pc := 1) hX dX0_start_1 (by decide) ?_ ?_
  · skip
    refine r_iload_n (pc := 10) hX 1 dX0_start_10 rfl rfl ?_
    refine r_if_le (tgt := 20) (pc := 11) hX dX0_start_11 (by decide) ?_ ?_
    · skip
      refine r_iload_n (pc := 20) hX 0 dX0_start_20 rfl rfl ?_
      refine r_iload_n (pc := 21) hX 3 dX0_start_21 rfl rfl ?_
      refine r_isub (pc := 22) hX dX0_start_22 ?_
      refine r_iload_n (pc := 23) hX 2 dX0_start_23 rfl rfl ?_
      refine r_isub (pc := 24) hX dX0_start_24 ?_
      exact r_iretP (pc := 25) hX hE dX0_start_25
    · skip
      refine r_iload_n (pc := 14) hX 0 dX0_start_14 rfl rfl ?_
      refine r_iload_n (pc := 15) hX 3 dX0_start_15 rfl rfl ?_
      refine r_iadd (pc := 16) hX dX0_start_16 ?_
      refine r_goto (tgt := 25) (pc := 17) hX dX0_start_17 (by decide) ?_
      exact r_iretP (pc := 25) hX hE dX0_start_25
  · skip
    refine r_iload_n (pc := 4) hX 0 dX0_start_4 rfl rfl ?_
    refine r_iload_n (pc := 5) hX 2 dX0_start_5 rfl rfl ?_
    refine r_iconst (pc := 6) hX dX0_start_6 ic_2 ?_
    refine r_idiv (pc := 7) hX dX0_start_7 (by decide) ?_
    refine r_isub (pc := 8) hX dX0_start_8 ?_
    exact r_iretP (pc := 9) hX hE dX0_start_9
def f_Box_lay (o : Nat) (a1 : Int32) (a2 : Int32) (a3 : Int32) (m : Me) : Option Me := bd (fun (v1 : Int32) => bd (fun (v2 : Int32) => bd (fun (v3 : Int32) => pz m o 4 v3 (fun m4 => bd (fun (v5 : Int32) => bd (fun (v6 : Int32) => bd (fun (v7 : Int32) => bd (fun (v8 : Int32) => rd (ln 12) a1 (m4.1 12) (fun v9 => bd ((v9 <<< (a3 &&& 31))) (fun v10 => rd (ln 13) a1 (m4.1 13) (fun v11 => bd ((v11 <<< (a3 &&& 31))) (fun v12 => rd (stl 0) v8 (stt 0) (fun v13 => cP (f_Box_start v10 v13 v5 v7 m4) (fun v14 => bd (si m4 o 0 v14) (fun m15 => rd (stl 1) v8 (stt 1) (fun v16 => cP (f_Box_start v12 v16 v6 v7 m15) (fun v17 => bd (si m15 o 1 v17) (fun m18 => bd (si m18 o 2 (((m18.1 o 0)) + v5)) (fun m19 => bd (si m19 o 3 (((m19.1 o 1)) + v6)) (fun m20 => bd (si m20 o 5 ((2 : Int32) * v10)) (fun m21 => bd (si m21 o 6 ((2 : Int32) * v12)) (fun m22 => bd (si m22 o 7 (((m22.1 o 0)) + ((m22.1 o 2)))) (fun m23 => bd (si m23 o 8 (((m23.1 o 1)) + ((m23.1 o 3)))) (fun m24 => some m24))))))))))))))))) (fun k132_ => if v1 = 0 then (k132_ a2) else (k132_ ((a2 - (8 : Int32)))))) (fun k117_ => if (m4.1 o 4) = 0 then (k117_ (2 : Int32)) else (k117_ (40 : Int32)))) (fun k102_ => if v2 = 0 then rd (ln 15) a1 (m4.1 15) (fun v25 => (k102_ v25)) else rd (ln 15) a1 (m4.1 15) (fun v26 => (k102_ (((2 : Int32) * v26)))))) (fun k78_ => if v2 = 0 then rd (ln 14) a1 (m4.1 14) (fun v27 => (k78_ v27)) else rd (ln 14) a1 (m4.1 14) (fun v28 => (k78_ ((((v28 + (1 : Int32))) / (2 : Int32)))))))) (fun k51_ => bd ((k51_ (0 : Int32))) (fun k50_ => if v1 = 0 then (k50_) else if v2 = 0 then (k51_ (1 : Int32)) else (k50_)))) (fun k33_ => bd ((k33_ (0 : Int32))) (fun k32_ => if v1 = 0 then (k32_) else rd (ln 11) a1 (m.1 11) (fun v29 => if v29 = (1 : Int32) then (k33_ (1 : Int32)) else (k32_))))) (fun k11_ => if a2 < (8 : Int32) then (k11_ (0 : Int32)) else (k11_ (1 : Int32)))
set_option maxHeartbeats 4000000 in
set_option maxRecDepth 100000 in
theorem c_Box_lay (o : Nat) (a1 : Int32) (a2 : Int32) (a3 : Int32) (ho : kd o = 0) (m : Me) (r : Me) (h : f_Box_lay o a1 a2 a3 m = some r) : Ct yX0_lay cX0_lay 13 none 1 (fun ad => [.ref (ad o), .ref (ad 10), .int a1, .int a2, .int a3]) m (fun ad => (none, r)) := by
  refine mk_ct (F := f_Box_lay o a1 a2 a3 m) (fun _ => oV) r h (fun _ => rfl) (by decide) (fun _ => Nat.le_of_ble_eq_true rfl) ?_
  intro X hX hE
  show J X oV (f_Box_lay o a1 a2 a3 m) m 0 [(0, rX X o), (1, rX X 10), (2, .int a1), (3, .int a2), (4, .int a3)] []
  unfold f_Box_lay
  refine r_iload_n (pc := 0) hX 3 dX0_lay_0 rfl rfl ?_
  refine r_bipush (pc := 1) hX dX0_lay_1 bp_8 ?_
  refine r_join (P := fun k => ∀ (v1 : Int32), J X oV (k v1) m 11 [(0, rX X o), (1, rX X 10), (2, .int a1), (3, .int a2), (4, .int a3)] [.int v1]) ?_ ?_
  · intro v1
    refine r_istore (L' := [(5, .int v1), (0, rX X o), (1, rX X 10), (2, .int a1), (3, .int a2), (4, .int a3)]) (pc := 11) hX dX0_lay_11 (by decide) rfl ?_
    refine r_iload (pc := 13) hX 0 dX0_lay_13 rfl ?_
    refine r_join (P := fun k => ∀ (v2 : Int32), J X oV (k v2) m 33 [(0, rX X o), (1, rX X 10), (2, .int a1), (3, .int a2), (4, .int a3), (5, .int v1)] [.int v2]) ?_ ?_
    · intro v2
      refine r_istore (L' := [(6, .int v2), (0, rX X o), (1, rX X 10), (2, .int a1), (3, .int a2), (4, .int a3), (5, .int v1)]) (pc := 33) hX dX0_lay_33 (by decide) rfl ?_
      refine r_aload_n (pc := 35) hX 1 dX0_lay_35 rfl rfl ?_
      refine r_iload (pc := 36) hX 6 dX0_lay_36 rfl ?_
      refine r_join (P := fun k => ∀ (v3 : Int32), J X oV (k v3) m 51 [(0, rX X o), (1, rX X 10), (2, .int a1), (3, .int a2), (4, .int a3), (5, .int v1), (6, .int v2)] [.int v3, rX X o]) ?_ ?_
      · intro v3
        refine r_putZ (pc := 51) hX dX0_lay_51 fp0_15 ho (fun m4 => ?_)
        refine r_iload (pc := 54) hX 6 dX0_lay_54 rfl ?_
        refine r_join (P := fun k => ∀ (v5 : Int32), J X oV (k v5) m4 78 [(0, rX X o), (1, rX X 10), (2, .int a1), (3, .int a2), (4, .int a3), (5, .int v1), (6, .int v2)] [.int v5]) ?_ ?_
        · intro v5
          refine r_istore (L' := [(7, .int v5), (0, rX X o), (1, rX X 10), (2, .int a1), (3, .int a2), (4, .int a3), (5, .int v1), (6, .int v2)]) (pc := 78) hX dX0_lay_78 (by decide) rfl ?_
          refine r_iload (pc := 80) hX 7 dX0_lay_80 rfl ?_
          refine r_join (P := fun k => ∀ (v6 : Int32), J X oV (k v6) m4 102 [(0, rX X o), (1, rX X 10), (2, .int a1), (3, .int a2), (4, .int a3), (5, .int v1), (7, .int v5)] [.int v6]) ?_ ?_
          · intro v6
            refine r_istore (L' := [(8, .int v6), (0, rX X o), (1, rX X 10), (2, .int a1), (3, .int a2), (4, .int a3), (5, .int v1), (7, .int v5)]) (pc := 102) hX dX0_lay_102 (by decide) rfl ?_
            refine r_aload_n (pc := 104) hX 1 dX0_lay_104 rfl rfl ?_
            refine r_getI (pc := 105) hX dX0_lay_105 fp0_15 ho (by decide) ?_
            refine r_join (P := fun k => ∀ (v7 : Int32), J X oV (k v7) m4 117 [(0, rX X o), (1, rX X 10), (2, .int a1), (3, .int a2), (4, .int a3), (5, .int v1), (7, .int v5), (8, .int v6)] [.int v7]) ?_ ?_
            · intro v7
              refine r_istore (L' := [(9, .int v7), (0, rX X o), (1, rX X 10), (2, .int a1), (3, .int a2), (4, .int a3), (5, .int v1), (7, .int v5), (8, .int v6)]) (pc := 117) hX dX0_lay_117 (by decide) rfl ?_
              refine r_iload (pc := 119) hX 6 dX0_lay_119 rfl ?_
              refine r_join (P := fun k => ∀ (v8 : Int32), J X oV (k v8) m4 132 [(0, rX X o), (1, rX X 10), (2, .int a1), (4, .int a3), (7, .int v5), (8, .int v6), (9, .int v7)] [.int v8]) ?_ ?_
              · intro v8
                refine r_istore (L' := [(10, .int v8), (0, rX X o), (1, rX X 10), (2, .int a1), (4, .int a3), (7, .int v5), (8, .int v6), (9, .int v7)]) (pc := 132) hX dX0_lay_132 (by decide) rfl ?_
                refine r_aload_n (pc := 134) hX 2 dX0_lay_134 rfl rfl ?_
                refine r_getR (pc := 135) hX dX0_lay_135 fp0_27 k10 rfl g10_3 ?_
                refine r_iload_n (pc := 138) hX 3 dX0_lay_138 rfl rfl ?_
                refine r_iald (pc := 139) hX dX0_lay_139 k12 (fun v9 => ?_)
                refine r_iload (pc := 140) hX 4 dX0_lay_140 rfl ?_
                refine r_ishl (pc := 142) hX dX0_lay_142 ?_
                refine r_nmI (fun v10 => ?_)
                refine r_istore (L' := [(11, .int v10), (10, .int v8), (0, rX X o), (1, rX X 10), (2, .int a1), (4, .int a3), (7, .int v5), (8, .int v6), (9, .int v7)]) (pc := 143) hX dX0_lay_143 (by decide) rfl ?_
                refine r_aload_n (pc := 145) hX 3 dX0_lay_145 rfl rfl ?_
                refine r_getR (pc := 146) hX dX0_lay_146 fp0_30 k10 rfl g10_4 ?_
                refine r_iload_n (pc := 149) hX 4 dX0_lay_149 rfl rfl ?_
                refine r_iald (pc := 150) hX dX0_lay_150 k13 (fun v11 => ?_)
                refine r_iload (pc := 151) hX 5 dX0_lay_151 rfl ?_
                refine r_ishl (pc := 153) hX dX0_lay_153 ?_
                refine r_nmI (fun v12 => ?_)
                refine r_istore (L' := [(12, .int v12), (11, .int v10), (10, .int v8), (0, rX X o), (1, rX X 10), (2, .int a1), (4, .int a3), (7, .int v5), (8, .int v6), (9, .int v7)]) (pc := 154) hX dX0_lay_154 (by decide) rfl ?_
                refine r_aload_n (pc := 156) hX 3 dX0_lay_156 rfl rfl ?_
                refine r_iload (pc := 157) hX 1 dX0_lay_157 rfl ?_
                refine r_gets (pc := 159) hX 0 (by decide) dX0_lay_159 rfl ?_
                refine r_iload (pc := 162) hX 2 dX0_lay_162 rfl ?_
                refine r_sald (pc := 164) hX 0 (by decide) dX0_lay_164 (fun v13 => ?_)
                refine r_iload (pc := 165) hX 7 dX0_lay_165 rfl ?_
                refine r_iload (pc := 167) hX 9 dX0_lay_167 rfl ?_
                refine r_csP (st := [rX X o]) (pc := 169) hX dX0_lay_169 MI_Box_start MS_Box_start lkX0_36 (c_Box_start v10 v13 v5 v7 m4) rfl rfl (Nat.le_of_ble_eq_true rfl) (by decide) (fun v14 => ?_)
                refine r_putI (pc := 172) hX dX0_lay_172 fp0_40 ho (fun m15 => ?_)
                refine r_aload_n (pc := 175) hX 3 dX0_lay_175 rfl rfl ?_
                refine r_iload (pc := 176) hX 0 dX0_lay_176 rfl ?_
                refine r_gets (pc := 178) hX 1 (by decide) dX0_lay_178 rfl ?_
                refine r_iload (pc := 181) hX 2 dX0_lay_181 rfl ?_
                refine r_sald (pc := 183) hX 1 (by decide) dX0_lay_183 (fun v16 => ?_)
                refine r_iload (pc := 184) hX 8 dX0_lay_184 rfl ?_
                refine r_iload (pc := 186) hX 9 dX0_lay_186 rfl ?_
                refine r_csP (st := [rX X o]) (pc := 188) hX dX0_lay_188 MI_Box_start MS_Box_start lkX0_36 (c_Box_start v12 v16 v6 v7 m15) rfl rfl (Nat.le_of_ble_eq_true rfl) (by decide) (fun v17 => ?_)
                refine r_putI (pc := 191) hX dX0_lay_191 fp0_47 ho (fun m18 => ?_)
                refine r_aload_n (pc := 194) hX 3 dX0_lay_194 rfl rfl ?_
                refine r_aload_n (pc := 195) hX 3 dX0_lay_195 rfl rfl ?_
                refine r_getI (pc := 196) hX dX0_lay_196 fp0_40 ho (by decide) ?_
                refine r_iload (pc := 199) hX 7 dX0_lay_199 rfl ?_
                refine r_iadd (pc := 201) hX dX0_lay_201 ?_
                refine r_putI (pc := 202) hX dX0_lay_202 fp0_50 ho (fun m19 => ?_)
                refine r_aload_n (pc := 205) hX 3 dX0_lay_205 rfl rfl ?_
                refine r_aload_n (pc := 206) hX 3 dX0_lay_206 rfl rfl ?_
                refine r_getI (pc := 207) hX dX0_lay_207 fp0_47 ho (by decide) ?_
                refine r_iload (pc := 210) hX 8 dX0_lay_210 rfl ?_
                refine r_iadd (pc := 212) hX dX0_lay_212 ?_
                refine r_putI (pc := 213) hX dX0_lay_213 fp0_53 ho (fun m20 => ?_)
                refine r_aload_n (pc := 216) hX 3 dX0_lay_216 rfl rfl ?_
                refine r_iconst (pc := 217) hX dX0_lay_217 ic_2 ?_
                refine r_iload (pc := 218) hX 1 dX0_lay_218 rfl ?_
                refine r_imul (pc := 220) hX dX0_lay_220 ?_
                refine r_putI (pc := 221) hX dX0_lay_221 fp0_56 ho (fun m21 => ?_)
                refine r_aload_n (pc := 224) hX 3 dX0_lay_224 rfl rfl ?_
                refine r_iconst (pc := 225) hX dX0_lay_225 ic_2 ?_
                refine r_iload (pc := 226) hX 0 dX0_lay_226 rfl ?_
                refine r_imul (pc := 228) hX dX0_lay_228 ?_
                refine r_putI (pc := 229) hX dX0_lay_229 fp0_59 ho (fun m22 => ?_)
                refine r_aload_n (pc := 232) hX 3 dX0_lay_232 rfl rfl ?_
                refine r_aload_n (pc := 233) hX 3 dX0_lay_233 rfl rfl ?_
                refine r_getI (pc := 234) hX dX0_lay_234 fp0_40 ho (by decide) ?_
                refine r_aload_n (pc := 237) hX 3 dX0_lay_237 rfl rfl ?_
                refine r_getI (pc := 238) hX dX0_lay_238 fp0_50 ho (by decide) ?_
                refine r_iadd (pc := 241) hX dX0_lay_241 ?_
                refine r_putI (pc := 242) hX dX0_lay_242 fp0_62 ho (fun m23 => ?_)
                refine r_aload_n (pc := 245) hX 3 dX0_lay_245 rfl rfl ?_
                refine r_aload_n (pc := 246) hX 3 dX0_lay_246 rfl rfl ?_
                refine r_getI (pc := 247) hX dX0_lay_247 fp0_47 ho (by decide) ?_
                refine r_aload_n (pc := 250) hX 3 dX0_lay_250 rfl rfl ?_
                refine r_getI (pc := 251) hX dX0_lay_251 fp0_53 ho (by decide) ?_
                refine r_iadd (pc := 254) hX dX0_lay_254 ?_
                refine r_putI (pc := 255) hX dX0_lay_255 fp0_65 ho (fun m24 => ?_)
                exact r_vret (pc := 258) hX hE dX0_lay_258
              intro k132_ hk132_
              refine r_if_eq (tgt := 131) (pc := 121) hX dX0_lay_121 (by decide) ?_ ?_
              · skip
                refine r_iload_n (pc := 131) hX 4 dX0_lay_131 rfl rfl ?_
                exact r_sub [1, 2, 3, 5, 7, 8, 0] rfl (hk132_ a2)
              · skip
                refine r_iload_n (pc := 124) hX 4 dX0_lay_124 rfl rfl ?_
                refine r_bipush (pc := 125) hX dX0_lay_125 bp_8 ?_
                refine r_isub (pc := 127) hX dX0_lay_127 ?_
                refine r_goto (tgt := 132) (pc := 128) hX dX0_lay_128 (by decide) ?_
                exact r_sub [1, 2, 3, 5, 7, 8, 0] rfl (hk132_ ((a2 - (8 : Int32))))
            intro k117_ hk117_
            refine r_if_eq (tgt := 116) (pc := 108) hX dX0_lay_108 (by decide) ?_ ?_
            · skip
              refine r_iconst (pc := 116) hX dX0_lay_116 ic_2 ?_
              exact r_sub [1, 2, 3, 4, 5, 6, 7, 0] rfl (hk117_ (2 : Int32))
            · skip
              refine r_bipush (pc := 111) hX dX0_lay_111 bp_40 ?_
              refine r_goto (tgt := 117) (pc := 113) hX dX0_lay_113 (by decide) ?_
              exact r_sub [1, 2, 3, 4, 5, 6, 7, 0] rfl (hk117_ (40 : Int32))
          intro k102_ hk102_
          refine r_if_eq (tgt := 96) (pc := 82) hX dX0_lay_82 (by decide) ?_ ?_
          · skip
            refine r_aload_n (pc := 96) hX 2 dX0_lay_96 rfl rfl ?_
            refine r_getR (pc := 97) hX dX0_lay_97 fp0_24 k10 rfl g10_6 ?_
            refine r_iload_n (pc := 100) hX 3 dX0_lay_100 rfl rfl ?_
            refine r_iald (pc := 101) hX dX0_lay_101 k15 (fun v25 => ?_)
            exact r_sub [1, 2, 3, 4, 5, 6, 0] rfl (hk102_ v25)
          · skip
            refine r_iconst (pc := 85) hX dX0_lay_85 ic_2 ?_
            refine r_aload_n (pc := 86) hX 2 dX0_lay_86 rfl rfl ?_
            refine r_getR (pc := 87) hX dX0_lay_87 fp0_24 k10 rfl g10_6 ?_
            refine r_iload_n (pc := 90) hX 3 dX0_lay_90 rfl rfl ?_
            refine r_iald (pc := 91) hX dX0_lay_91 k15 (fun v26 => ?_)
            refine r_imul (pc := 92) hX dX0_lay_92 ?_
            refine r_goto (tgt := 102) (pc := 93) hX dX0_lay_93 (by decide) ?_
            exact r_sub [1, 2, 3, 4, 5, 6, 0] rfl (hk102_ (((2 : Int32) * v26)))
        intro k78_ hk78_
        refine r_if_eq (tgt := 72) (pc := 56) hX dX0_lay_56 (by decide) ?_ ?_
        · skip
          refine r_aload_n (pc := 72) hX 1 dX0_lay_72 rfl rfl ?_
          refine r_getR (pc := 73) hX dX0_lay_73 fp0_21 k10 rfl g10_5 ?_
          refine r_iload_n (pc := 76) hX 2 dX0_lay_76 rfl rfl ?_
          refine r_iald (pc := 77) hX dX0_lay_77 k14 (fun v27 => ?_)
          exact hk78_ v27
        · skip
          refine r_aload_n (pc := 59) hX 1 dX0_lay_59 rfl rfl ?_
          refine r_getR (pc := 60) hX dX0_lay_60 fp0_21 k10 rfl g10_5 ?_
          refine r_iload_n (pc := 63) hX 2 dX0_lay_63 rfl rfl ?_
          refine r_iald (pc := 64) hX dX0_lay_64 k14 (fun v28 => ?_)
          refine r_iconst (pc := 65) hX dX0_lay_65 ic_1 ?_
          refine r_iadd (pc := 66) hX dX0_lay_66 ?_
          refine r_iconst (pc := 67) hX dX0_lay_67 ic_2 ?_
          refine r_idiv (pc := 68) hX dX0_lay_68 (by decide) ?_
          refine r_goto (tgt := 78) (pc := 69) hX dX0_lay_69 (by decide) ?_
          exact hk78_ ((((v28 + (1 : Int32))) / (2 : Int32)))
      intro k51_ hk51_
      refine r_join (P := fun k => J X oV (k) m 50 [(0, rX X o), (1, rX X 10), (2, .int a1), (3, .int a2), (4, .int a3), (5, .int v1), (6, .int v2)] [rX X o]) ?_ ?_
      · skip
        refine r_iconst (pc := 50) hX dX0_lay_50 ic_0 ?_
        exact hk51_ (0 : Int32)
      intro k50_ hk50_
      refine r_if_eq (tgt := 50) (pc := 38) hX dX0_lay_38 (by decide) ?_ ?_
      · skip
        exact r_sub [1, 2, 3, 4, 5, 6, 0] rfl (hk50_)
      · skip
        refine r_iload (pc := 41) hX 0 dX0_lay_41 rfl ?_
        refine r_if_ne (tgt := 50) (pc := 43) hX dX0_lay_43 (by decide) ?_ ?_
        · skip
          exact r_sub [1, 2, 3, 4, 5, 6, 0] rfl (hk50_)
        · skip
          refine r_iconst (pc := 46) hX dX0_lay_46 ic_1 ?_
          refine r_goto (tgt := 51) (pc := 47) hX dX0_lay_47 (by decide) ?_
          exact r_sub [1, 2, 3, 4, 5, 6, 0] rfl (hk51_ (1 : Int32))
    intro k33_ hk33_
    refine r_join (P := fun k => J X oV (k) m 32 [(0, rX X o), (1, rX X 10), (2, .int a1), (3, .int a2), (4, .int a3), (5, .int v1)] []) ?_ ?_
    · skip
      refine r_iconst (pc := 32) hX dX0_lay_32 ic_0 ?_
      exact hk33_ (0 : Int32)
    intro k32_ hk32_
    refine r_if_eq (tgt := 32) (pc := 15) hX dX0_lay_15 (by decide) ?_ ?_
    · skip
      exact r_sub [1, 2, 3, 4, 5, 0] rfl (hk32_)
    · skip
      refine r_aload_n (pc := 18) hX 2 dX0_lay_18 rfl rfl ?_
      refine r_getR (pc := 19) hX dX0_lay_19 fp0_9 k10 rfl g10_2 ?_
      refine r_iload_n (pc := 22) hX 3 dX0_lay_22 rfl rfl ?_
      refine r_iald (pc := 23) hX dX0_lay_23 k11 (fun v29 => ?_)
      refine r_iconst (pc := 24) hX dX0_lay_24 ic_1 ?_
      refine r_icmp_ne (tgt := 32) (pc := 25) hX dX0_lay_25 (by decide) ?_ ?_
      · skip
        exact r_sub [1, 2, 3, 4, 5, 0] rfl (hk32_)
      · skip
        refine r_iconst (pc := 28) hX dX0_lay_28 ic_1 ?_
        refine r_goto (tgt := 33) (pc := 29) hX dX0_lay_29 (by decide) ?_
        exact r_sub [1, 2, 3, 4, 5, 0] rfl (hk33_ (1 : Int32))
  intro k11_ hk11_
  refine r_icmp_lt (tgt := 10) (pc := 3) hX dX0_lay_3 (by decide) ?_ ?_
  · skip
    refine r_iconst (pc := 10) hX dX0_lay_10 ic_0 ?_
    exact hk11_ (0 : Int32)
  · skip
    refine r_iconst (pc := 6) hX dX0_lay_6 ic_1 ?_
    refine r_goto (tgt := 11) (pc := 7) hX dX0_lay_7 (by decide) ?_
    exact hk11_ (1 : Int32)
def f_Box_covers (o : Nat) (a0 : Int32) (a1 : Int32) (m : Me) : Option Int32 := if a0 ≤ (m.1 o 0) then some (0 : Int32) else if (m.1 o 2) ≤ a0 then some (0 : Int32) else if a1 ≤ (m.1 o 1) then some (0 : Int32) else if (m.1 o 3) ≤ a1 then some (0 : Int32) else some (1 : Int32)
set_option maxHeartbeats 4000000 in
set_option maxRecDepth 100000 in
theorem c_Box_covers (o : Nat) (a0 : Int32) (a1 : Int32) (ho : kd o = 0) (m : Me) (r : Int32) (h : f_Box_covers o a0 a1 m = some r) : Ct yX0_covers cX0_covers 3 (some .boolean) 0 (fun ad => [.ref (ad o), .int a0, .int a1]) m (fun ad => (some (.int r), m)) := by
  refine mk_ct (F := f_Box_covers o a0 a1 m) (fun _ => oP m) r h (fun _ => rfl) (by decide) (fun _ => Nat.le_of_ble_eq_true rfl) ?_
  intro X hX hE
  show J X (oP m) (f_Box_covers o a0 a1 m) m 0 [(0, rX X o), (1, .int a0), (2, .int a1)] []
  unfold f_Box_covers
  refine r_aload_n (pc := 0) hX 0 dX0_covers_0 rfl rfl ?_
  refine r_getI (pc := 1) hX dX0_covers_1 fp0_40 ho (by decide) ?_
  refine r_iload_n (pc := 4) hX 1 dX0_covers_4 rfl rfl ?_
  refine r_icmp_ge (tgt := 36) (pc := 5) hX dX0_covers_5 (by decide) ?_ ?_
  · skip
    refine r_iconst (pc := 36) hX dX0_covers_36 ic_0 ?_
    exact r_zretPk (pc := 37) hX hE dX0_covers_37 (by decide)
  · skip
    refine r_iload_n (pc := 8) hX 1 dX0_covers_8 rfl rfl ?_
    refine r_aload_n (pc := 9) hX 0 dX0_covers_9 rfl rfl ?_
    refine r_getI (pc := 10) hX dX0_covers_10 fp0_50 ho (by decide) ?_
    refine r_icmp_ge (tgt := 36) (pc := 13) hX dX0_covers_13 (by decide) ?_ ?_
    · skip
      refine r_iconst (pc := 36) hX dX0_covers_36 ic_0 ?_
      exact r_zretPk (pc := 37) hX hE dX0_covers_37 (by decide)
    · skip
      refine r_aload_n (pc := 16) hX 0 dX0_covers_16 rfl rfl ?_
      refine r_getI (pc := 17) hX dX0_covers_17 fp0_47 ho (by decide) ?_
      refine r_iload_n (pc := 20) hX 2 dX0_covers_20 rfl rfl ?_
      refine r_icmp_ge (tgt := 36) (pc := 21) hX dX0_covers_21 (by decide) ?_ ?_
      · skip
        refine r_iconst (pc := 36) hX dX0_covers_36 ic_0 ?_
        exact r_zretPk (pc := 37) hX hE dX0_covers_37 (by decide)
      · skip
        refine r_iload_n (pc := 24) hX 2 dX0_covers_24 rfl rfl ?_
        refine r_aload_n (pc := 25) hX 0 dX0_covers_25 rfl rfl ?_
        refine r_getI (pc := 26) hX dX0_covers_26 fp0_53 ho (by decide) ?_
        refine r_icmp_ge (tgt := 36) (pc := 29) hX dX0_covers_29 (by decide) ?_ ?_
        · skip
          refine r_iconst (pc := 36) hX dX0_covers_36 ic_0 ?_
          exact r_zretPk (pc := 37) hX hE dX0_covers_37 (by decide)
        · skip
          refine r_iconst (pc := 32) hX dX0_covers_32 ic_1 ?_
          refine r_goto (tgt := 37) (pc := 33) hX dX0_covers_33 (by decide) ?_
          exact r_zretPk (pc := 37) hX hE dX0_covers_37 (by decide)
def f_Box_overlaps (o : Nat) (a0 : Int32) (a1 : Int32) (a2 : Int32) (a3 : Int32) (m : Me) : Option Int32 := if a2 ≤ (m.1 o 0) then some (0 : Int32) else if (m.1 o 2) ≤ a0 then some (0 : Int32) else if a3 ≤ (m.1 o 1) then some (0 : Int32) else if (m.1 o 3) ≤ a1 then some (0 : Int32) else some (1 : Int32)
set_option maxHeartbeats 4000000 in
set_option maxRecDepth 100000 in
theorem c_Box_overlaps (o : Nat) (a0 : Int32) (a1 : Int32) (a2 : Int32) (a3 : Int32) (ho : kd o = 0) (m : Me) (r : Int32) (h : f_Box_overlaps o a0 a1 a2 a3 m = some r) : Ct yX0_overlaps cX0_overlaps 5 (some .boolean) 0 (fun ad => [.ref (ad o), .int a0, .int a1, .int a2, .int a3]) m (fun ad => (some (.int r), m)) := by
  refine mk_ct (F := f_Box_overlaps o a0 a1 a2 a3 m) (fun _ => oP m) r h (fun _ => rfl) (by decide) (fun _ => Nat.le_of_ble_eq_true rfl) ?_
  intro X hX hE
  show J X (oP m) (f_Box_overlaps o a0 a1 a2 a3 m) m 0 [(0, rX X o), (1, .int a0), (2, .int a1), (3, .int a2), (4, .int a3)] []
  unfold f_Box_overlaps
  refine r_aload_n (pc := 0) hX 0 dX0_overlaps_0 rfl rfl ?_
  refine r_getI (pc := 1) hX dX0_overlaps_1 fp0_40 ho (by decide) ?_
  refine r_iload_n (pc := 4) hX 3 dX0_overlaps_4 rfl rfl ?_
  refine r_icmp_ge (tgt := 37) (pc := 5) hX dX0_overlaps_5 (by decide) ?_ ?_
  · skip
    refine r_iconst (pc := 37) hX dX0_overlaps_37 ic_0 ?_
    exact r_zretPk (pc := 38) hX hE dX0_overlaps_38 (by decide)
  · skip
    refine r_iload_n (pc := 8) hX 1 dX0_overlaps_8 rfl rfl ?_
    refine r_aload_n (pc := 9) hX 0 dX0_overlaps_9 rfl rfl ?_
    refine r_getI (pc := 10) hX dX0_overlaps_10 fp0_50 ho (by decide) ?_
    refine r_icmp_ge (tgt := 37) (pc := 13) hX dX0_overlaps_13 (by decide) ?_ ?_
    · skip
      refine r_iconst (pc := 37) hX dX0_overlaps_37 ic_0 ?_
      exact r_zretPk (pc := 38) hX hE dX0_overlaps_38 (by decide)
    · skip
      refine r_aload_n (pc := 16) hX 0 dX0_overlaps_16 rfl rfl ?_
      refine r_getI (pc := 17) hX dX0_overlaps_17 fp0_47 ho (by decide) ?_
      refine r_iload (pc := 20) hX 4 dX0_overlaps_20 rfl ?_
      refine r_icmp_ge (tgt := 37) (pc := 22) hX dX0_overlaps_22 (by decide) ?_ ?_
      · skip
        refine r_iconst (pc := 37) hX dX0_overlaps_37 ic_0 ?_
        exact r_zretPk (pc := 38) hX hE dX0_overlaps_38 (by decide)
      · skip
        refine r_iload_n (pc := 25) hX 2 dX0_overlaps_25 rfl rfl ?_
        refine r_aload_n (pc := 26) hX 0 dX0_overlaps_26 rfl rfl ?_
        refine r_getI (pc := 27) hX dX0_overlaps_27 fp0_53 ho (by decide) ?_
        refine r_icmp_ge (tgt := 37) (pc := 30) hX dX0_overlaps_30 (by decide) ?_ ?_
        · skip
          refine r_iconst (pc := 37) hX dX0_overlaps_37 ic_0 ?_
          exact r_zretPk (pc := 38) hX hE dX0_overlaps_38 (by decide)
        · skip
          refine r_iconst (pc := 33) hX dX0_overlaps_33 ic_1 ?_
          refine r_goto (tgt := 38) (pc := 34) hX dX0_overlaps_34 (by decide) ?_
          exact r_zretPk (pc := 38) hX hE dX0_overlaps_38 (by decide)
def lb_Box_coversAny_3 (o : Nat) (a0 : Nat) (a1 : Nat) (a2 : Int32) (a3 : Int32) (m : Me) (s3 : Int32 → Option Int32) (v1 : Int32) : Option Int32 := if a2 ≤ v1 then some (0 : Int32) else rd (ln a0) v1 (m.1 a0) (fun v2 => rd (ln a1) v1 (m.1 a1) (fun v3 => cP (f_Box_covers o (v2 <<< (a3 &&& 31)) (v3 <<< (a3 &&& 31)) m) (fun v4 => if v4 = 0 then bd (v1 + 1) (fun v5 => (s3 v5)) else some (1 : Int32))))
def f_Box_coversAny (o : Nat) (a0 : Nat) (a1 : Nat) (a2 : Int32) (a3 : Int32) (m : Me) : Option Int32 := ((fx (lb_Box_coversAny_3 o a0 a1 a2 a3 m) (fun _ => none) FU) (0 : Int32))
set_option maxHeartbeats 4000000 in
set_option maxRecDepth 100000 in
theorem c_Box_coversAny (o : Nat) (a0 : Nat) (a1 : Nat) (a2 : Int32) (a3 : Int32) (ho : kd o = 0) (ha0 : kd a0 = 20) (ha1 : kd a1 = 20) (m : Me) (r : Int32) (h : f_Box_coversAny o a0 a1 a2 a3 m = some r) : Ct yX0_coversAny cX0_coversAny 6 (some .boolean) 1 (fun ad => [.ref (ad o), .ref (ad a0), .ref (ad a1), .int a2, .int a3]) m (fun ad => (some (.int r), m)) := by
  refine mk_ct (F := f_Box_coversAny o a0 a1 a2 a3 m) (fun _ => oP m) r h (fun _ => rfl) (by decide) (fun _ => Nat.le_of_ble_eq_true rfl) ?_
  intro X hX hE
  show J X (oP m) (f_Box_coversAny o a0 a1 a2 a3 m) m 0 [(0, rX X o), (1, rX X a0), (2, rX X a1), (3, .int a2), (4, .int a3)] []
  unfold f_Box_coversAny
  refine r_iconst (pc := 0) hX dX0_coversAny_0 ic_0 ?_
  refine r_istore (L' := [(5, .int (0 : Int32)), (0, rX X o), (1, rX X a0), (2, rX X a1), (3, .int a2), (4, .int a3)]) (pc := 1) hX dX0_coversAny_1 (by decide) rfl ?_
  have hl3 : ∀ n : Nat, ∀ (v1 : Int32), J X (oP m) (fx (lb_Box_coversAny_3 o a0 a1 a2 a3 m) (fun _ => none) n v1) m 3 [(0, rX X o), (1, rX X a0), (2, rX X a1), (3, .int a2), (4, .int a3), (5, .int v1)] [] := by
    refine fx_ind (fun (f : Int32 → Option Int32) => ∀ (v1 : Int32), J X (oP m) (f v1) m 3 [(0, rX X o), (1, rX X a0), (2, rX X a1), (3, .int a2), (4, .int a3), (5, .int v1)] []) (fun _ => r_none) ?_
    intro s3 hs3 v1
    unfold lb_Box_coversAny_3
    refine r_iload (pc := 3) hX 5 dX0_coversAny_3 rfl ?_
    refine r_iload_n (pc := 5) hX 3 dX0_coversAny_5 rfl rfl ?_
    refine r_icmp_ge (tgt := 38) (pc := 6) hX dX0_coversAny_6 (by decide) ?_ ?_
    · skip
      refine r_iconst (pc := 38) hX dX0_coversAny_38 ic_0 ?_
      exact r_zretPk (pc := 39) hX hE dX0_coversAny_39 (by decide)
    · skip
      refine r_aload_n (pc := 9) hX 0 dX0_coversAny_9 rfl rfl ?_
      refine r_aload_n (pc := 10) hX 1 dX0_coversAny_10 rfl rfl ?_
      refine r_iload (pc := 11) hX 5 dX0_coversAny_11 rfl ?_
      refine r_iald (pc := 13) hX dX0_coversAny_13 ha0 (fun v2 => ?_)
      refine r_iload (pc := 14) hX 4 dX0_coversAny_14 rfl ?_
      refine r_ishl (pc := 16) hX dX0_coversAny_16 ?_
      refine r_aload_n (pc := 17) hX 2 dX0_coversAny_17 rfl rfl ?_
      refine r_iload (pc := 18) hX 5 dX0_coversAny_18 rfl ?_
      refine r_iald (pc := 20) hX dX0_coversAny_20 ha1 (fun v3 => ?_)
      refine r_iload (pc := 21) hX 4 dX0_coversAny_21 rfl ?_
      refine r_ishl (pc := 23) hX dX0_coversAny_23 ?_
      refine r_cvP (st := []) (pc := 24) hX dX0_coversAny_24 MI_Box_covers MV_Box_covers lkX0_84 ho (c_Box_covers o (v2 <<< (a3 &&& 31)) (v3 <<< (a3 &&& 31)) ho m) rfl rfl (Nat.le_of_ble_eq_true rfl) (by decide) (fun v4 => ?_)
      refine r_if_eq (tgt := 32) (pc := 27) hX dX0_coversAny_27 (by decide) ?_ ?_
      · skip
        refine r_iincN (L' := fun w => [(5, .int w), (0, rX X o), (1, rX X a0), (2, rX X a1), (3, .int a2), (4, .int a3)]) (pc := 32) hX 5 dX0_coversAny_32 rfl rfl (by decide) (fun _ => rfl) (fun v5 => ?_)
        refine r_goto (tgt := 3) (pc := 35) hX dX0_coversAny_35 (by decide) ?_
        exact r_sub [1, 2, 3, 4, 5, 0] rfl (hs3 v5)
      · skip
        refine r_iconst (pc := 30) hX dX0_coversAny_30 ic_1 ?_
        exact r_zretPk (pc := 31) hX hE dX0_coversAny_31 (by decide)
  exact r_sub [1, 2, 3, 4, 5, 0] rfl (hl3 FU (0 : Int32))
def f_Box_isOpen (o : Nat) (a1 : Int32) (m : Me) : Option Int32 := bd (((1000 : Int32) <<< (a1 &&& 31))) (fun v1 => if (m.1 o 0) < 0 then some (0 : Int32) else if (m.1 o 1) < 0 then some (0 : Int32) else if v1 < (m.1 o 2) then some (0 : Int32) else if (m.1 o 3) ≤ v1 then cP (f_Box_coversAny o 18 19 (m.1 10 1) a1 m) (fun v2 => if v2 = 0 then cP (f_Box_coversAny o 12 13 (m.1 10 0) a1 m) (fun v3 => if v3 = 0 then some (1 : Int32) else some (0 : Int32)) else some (0 : Int32)) else some (0 : Int32))
set_option maxHeartbeats 4000000 in
set_option maxRecDepth 100000 in
theorem c_Box_isOpen (o : Nat) (a1 : Int32) (ho : kd o = 0) (m : Me) (r : Int32) (h : f_Box_isOpen o a1 m = some r) : Ct yX0_isOpen cX0_isOpen 4 (some .boolean) 2 (fun ad => [.ref (ad o), .ref (ad 10), .int a1]) m (fun ad => (some (.int r), m)) := by
  refine mk_ct (F := f_Box_isOpen o a1 m) (fun _ => oP m) r h (fun _ => rfl) (by decide) (fun _ => Nat.le_of_ble_eq_true rfl) ?_
  intro X hX hE
  show J X (oP m) (f_Box_isOpen o a1 m) m 0 [(0, rX X o), (1, rX X 10), (2, .int a1)] []
  unfold f_Box_isOpen
  refine r_sipush (pc := 0) hX dX0_isOpen_0 sp_1000 ?_
  refine r_iload_n (pc := 3) hX 2 dX0_isOpen_3 rfl rfl ?_
  refine r_ishl (pc := 4) hX dX0_isOpen_4 ?_
  refine r_nmI (fun v1 => ?_)
  refine r_istore_n (L' := [(3, .int v1), (0, rX X o), (1, rX X 10), (2, .int a1)]) (pc := 5) hX dX0_isOpen_5 rfl (by decide) rfl ?_
  refine r_aload_n (pc := 6) hX 1 dX0_isOpen_6 rfl rfl ?_
  refine r_getI (pc := 7) hX dX0_isOpen_7 fp0_40 ho (by decide) ?_
  refine r_if_lt (tgt := 36) (pc := 10) hX dX0_isOpen_10 (by decide) ?_ ?_
  · skip
    refine r_iconst (pc := 36) hX dX0_isOpen_36 ic_0 ?_
    exact r_zretPk (pc := 37) hX hE dX0_isOpen_37 (by decide)
  · skip
    refine r_aload_n (pc := 13) hX 1 dX0_isOpen_13 rfl rfl ?_
    refine r_getI (pc := 14) hX dX0_isOpen_14 fp0_47 ho (by decide) ?_
    refine r_if_lt (tgt := 36) (pc := 17) hX dX0_isOpen_17 (by decide) ?_ ?_
    · skip
      refine r_iconst (pc := 36) hX dX0_isOpen_36 ic_0 ?_
      exact r_zretPk (pc := 37) hX hE dX0_isOpen_37 (by decide)
    · skip
      refine r_aload_n (pc := 20) hX 1 dX0_isOpen_20 rfl rfl ?_
      refine r_getI (pc := 21) hX dX0_isOpen_21 fp0_50 ho (by decide) ?_
      refine r_iload_n (pc := 24) hX 0 dX0_isOpen_24 rfl rfl ?_
      refine r_icmp_gt (tgt := 36) (pc := 25) hX dX0_isOpen_25 (by decide) ?_ ?_
      · skip
        refine r_iconst (pc := 36) hX dX0_isOpen_36 ic_0 ?_
        exact r_zretPk (pc := 37) hX hE dX0_isOpen_37 (by decide)
      · skip
        refine r_aload_n (pc := 28) hX 1 dX0_isOpen_28 rfl rfl ?_
        refine r_getI (pc := 29) hX dX0_isOpen_29 fp0_53 ho (by decide) ?_
        refine r_iload_n (pc := 32) hX 0 dX0_isOpen_32 rfl rfl ?_
        refine r_icmp_le (tgt := 38) (pc := 33) hX dX0_isOpen_33 (by decide) ?_ ?_
        · skip
          refine r_aload_n (pc := 38) hX 1 dX0_isOpen_38 rfl rfl ?_
          refine r_aload_n (pc := 39) hX 2 dX0_isOpen_39 rfl rfl ?_
          refine r_getR (pc := 40) hX dX0_isOpen_40 fp0_68 k10 rfl g10_9 ?_
          refine r_aload_n (pc := 43) hX 2 dX0_isOpen_43 rfl rfl ?_
          refine r_getR (pc := 44) hX dX0_isOpen_44 fp0_71 k10 rfl g10_10 ?_
          refine r_aload_n (pc := 47) hX 2 dX0_isOpen_47 rfl rfl ?_
          refine r_getI (pc := 48) hX dX0_isOpen_48 fp0_74 k10 (by decide) ?_
          refine r_iload_n (pc := 51) hX 3 dX0_isOpen_51 rfl rfl ?_
          refine r_cvP (st := []) (pc := 52) hX dX0_isOpen_52 MI_Box_coversAny MV_Box_coversAny lkX0_77 ho (c_Box_coversAny o 18 19 (m.1 10 1) a1 ho k18 k19 m) rfl rfl (Nat.le_of_ble_eq_true rfl) (by decide) (fun v2 => ?_)
          refine r_if_ne (tgt := 82) (pc := 55) hX dX0_isOpen_55 (by decide) ?_ ?_
          · skip
            refine r_iconst (pc := 82) hX dX0_isOpen_82 ic_0 ?_
            exact r_zretPk (pc := 83) hX hE dX0_isOpen_83 (by decide)
          · skip
            refine r_aload_n (pc := 58) hX 1 dX0_isOpen_58 rfl rfl ?_
            refine r_aload_n (pc := 59) hX 2 dX0_isOpen_59 rfl rfl ?_
            refine r_getR (pc := 60) hX dX0_isOpen_60 fp0_27 k10 rfl g10_3 ?_
            refine r_aload_n (pc := 63) hX 2 dX0_isOpen_63 rfl rfl ?_
            refine r_getR (pc := 64) hX dX0_isOpen_64 fp0_30 k10 rfl g10_4 ?_
            refine r_aload_n (pc := 67) hX 2 dX0_isOpen_67 rfl rfl ?_
            refine r_getI (pc := 68) hX dX0_isOpen_68 fp0_81 k10 (by decide) ?_
            refine r_iload_n (pc := 71) hX 3 dX0_isOpen_71 rfl rfl ?_
            refine r_cvP (st := []) (pc := 72) hX dX0_isOpen_72 MI_Box_coversAny MV_Box_coversAny lkX0_77 ho (c_Box_coversAny o 12 13 (m.1 10 0) a1 ho k12 k13 m) rfl rfl (Nat.le_of_ble_eq_true rfl) (by decide) (fun v3 => ?_)
            refine r_if_ne (tgt := 82) (pc := 75) hX dX0_isOpen_75 (by decide) ?_ ?_
            · skip
              refine r_iconst (pc := 82) hX dX0_isOpen_82 ic_0 ?_
              exact r_zretPk (pc := 83) hX hE dX0_isOpen_83 (by decide)
            · skip
              refine r_iconst (pc := 78) hX dX0_isOpen_78 ic_1 ?_
              refine r_goto (tgt := 83) (pc := 79) hX dX0_isOpen_79 (by decide) ?_
              exact r_zretPk (pc := 83) hX hE dX0_isOpen_83 (by decide)
        · skip
          refine r_iconst (pc := 36) hX dX0_isOpen_36 ic_0 ?_
          exact r_zretPk (pc := 37) hX hE dX0_isOpen_37 (by decide)
def f_Box_sideOf (o : Nat) (a0 : Int32) (a1 : Int32) (m : Me) : Option Int32 := some (((((((m.1 o 7)) - ((m.1 o 5)))) * ((a1 - ((m.1 o 6)))))) - ((((((m.1 o 8)) - ((m.1 o 6)))) * ((a0 - ((m.1 o 5)))))))
set_option maxHeartbeats 4000000 in
set_option maxRecDepth 100000 in
theorem c_Box_sideOf (o : Nat) (a0 : Int32) (a1 : Int32) (ho : kd o = 0) (m : Me) (r : Int32) (h : f_Box_sideOf o a0 a1 m = some r) : Ct yX0_sideOf cX0_sideOf 3 (some .int) 0 (fun ad => [.ref (ad o), .int a0, .int a1]) m (fun ad => (some (.int r), m)) := by
  refine mk_ct (F := f_Box_sideOf o a0 a1 m) (fun _ => oP m) r h (fun _ => rfl) (by decide) (fun _ => Nat.le_of_ble_eq_true rfl) ?_
  intro X hX hE
  show J X (oP m) (f_Box_sideOf o a0 a1 m) m 0 [(0, rX X o), (1, .int a0), (2, .int a1)] []
  unfold f_Box_sideOf
  refine r_aload_n (pc := 0) hX 0 dX0_sideOf_0 rfl rfl ?_
  refine r_getI (pc := 1) hX dX0_sideOf_1 fp0_62 ho (by decide) ?_
  refine r_aload_n (pc := 4) hX 0 dX0_sideOf_4 rfl rfl ?_
  refine r_getI (pc := 5) hX dX0_sideOf_5 fp0_56 ho (by decide) ?_
  refine r_isub (pc := 8) hX dX0_sideOf_8 ?_
  refine r_iload_n (pc := 9) hX 2 dX0_sideOf_9 rfl rfl ?_
  refine r_aload_n (pc := 10) hX 0 dX0_sideOf_10 rfl rfl ?_
  refine r_getI (pc := 11) hX dX0_sideOf_11 fp0_59 ho (by decide) ?_
  refine r_isub (pc := 14) hX dX0_sideOf_14 ?_
  refine r_imul (pc := 15) hX dX0_sideOf_15 ?_
  refine r_aload_n (pc := 16) hX 0 dX0_sideOf_16 rfl rfl ?_
  refine r_getI (pc := 17) hX dX0_sideOf_17 fp0_65 ho (by decide) ?_
  refine r_aload_n (pc := 20) hX 0 dX0_sideOf_20 rfl rfl ?_
  refine r_getI (pc := 21) hX dX0_sideOf_21 fp0_59 ho (by decide) ?_
  refine r_isub (pc := 24) hX dX0_sideOf_24 ?_
  refine r_iload_n (pc := 25) hX 1 dX0_sideOf_25 rfl rfl ?_
  refine r_aload_n (pc := 26) hX 0 dX0_sideOf_26 rfl rfl ?_
  refine r_getI (pc := 27) hX dX0_sideOf_27 fp0_56 ho (by decide) ?_
  refine r_isub (pc := 30) hX dX0_sideOf_30 ?_
  refine r_imul (pc := 31) hX dX0_sideOf_31 ?_
  refine r_isub (pc := 32) hX dX0_sideOf_32 ?_
  exact r_iretP (pc := 33) hX hE dX0_sideOf_33
def f_Box_lineEnters (o : Nat) (a0 : Nat) (m : Me) : Option Int32 := bd (((2 : Int32) * ((m.1 a0 0)))) (fun v1 => bd (((2 : Int32) * ((m.1 a0 1)))) (fun v2 => bd (((2 : Int32) * ((m.1 a0 2)))) (fun v3 => bd (((2 : Int32) * ((m.1 a0 3)))) (fun v4 => if (mx (m.1 o 5) (m.1 o 7)) ≤ v1 then some (0 : Int32) else if (mn (m.1 o 5) (m.1 o 7)) < v3 then if (mx (m.1 o 6) (m.1 o 8)) ≤ v2 then some (0 : Int32) else if (mn (m.1 o 6) (m.1 o 8)) < v4 then cP (f_Box_sideOf o v1 v2 m) (fun v5 => cP (f_Box_sideOf o v3 v2 m) (fun v6 => cP (f_Box_sideOf o v3 v4 m) (fun v7 => cP (f_Box_sideOf o v1 v4 m) (fun v8 => bd (fun (v9 : Int32) => bd (fun (v10 : Int32) => if v9 = 0 then some (0 : Int32) else if v10 = 0 then some (0 : Int32) else some (1 : Int32)) (fun k184_ => bd ((k184_ (1 : Int32))) (fun k179_ => if 0 < v5 then (k179_) else if 0 < v6 then (k179_) else if 0 < v7 then (k179_) else if v8 ≤ 0 then (k184_ (0 : Int32)) else (k179_)))) (fun k157_ => bd ((k157_ (1 : Int32))) (fun k152_ => if v5 < 0 then (k152_) else if v6 < 0 then (k152_) else if v7 < 0 then (k152_) else if 0 ≤ v8 then (k157_ (0 : Int32)) else (k152_))))))) else some (0 : Int32) else some (0 : Int32)))))
set_option maxHeartbeats 4000000 in
set_option maxRecDepth 100000 in
theorem c_Box_lineEnters (o : Nat) (a0 : Nat) (ho : kd o = 0) (ha0 : kd a0 = 0) (m : Me) (r : Int32) (h : f_Box_lineEnters o a0 m = some r) : Ct yX0_lineEnters cX0_lineEnters 12 (some .boolean) 1 (fun ad => [.ref (ad o), .ref (ad a0)]) m (fun ad => (some (.int r), m)) := by
  refine mk_ct (F := f_Box_lineEnters o a0 m) (fun _ => oP m) r h (fun _ => rfl) (by decide) (fun _ => Nat.le_of_ble_eq_true rfl) ?_
  intro X hX hE
  show J X (oP m) (f_Box_lineEnters o a0 m) m 0 [(0, rX X o), (1, rX X a0)] []
  unfold f_Box_lineEnters
  refine r_iconst (pc := 0) hX dX0_lineEnters_0 ic_2 ?_
  refine r_aload_n (pc := 1) hX 1 dX0_lineEnters_1 rfl rfl ?_
  refine r_getI (pc := 2) hX dX0_lineEnters_2 fp0_40 ha0 (by decide) ?_
  refine r_imul (pc := 5) hX dX0_lineEnters_5 ?_
  refine r_nmI (fun v1 => ?_)
  refine r_istore_n (L' := [(2, .int v1), (0, rX X o), (1, rX X a0)]) (pc := 6) hX dX0_lineEnters_6 rfl (by decide) rfl ?_
  refine r_iconst (pc := 7) hX dX0_lineEnters_7 ic_2 ?_
  refine r_aload_n (pc := 8) hX 2 dX0_lineEnters_8 rfl rfl ?_
  refine r_getI (pc := 9) hX dX0_lineEnters_9 fp0_47 ha0 (by decide) ?_
  refine r_imul (pc := 12) hX dX0_lineEnters_12 ?_
  refine r_nmI (fun v2 => ?_)
  refine r_istore_n (L' := [(3, .int v2), (2, .int v1), (0, rX X o), (1, rX X a0)]) (pc := 13) hX dX0_lineEnters_13 rfl (by decide) rfl ?_
  refine r_iconst (pc := 14) hX dX0_lineEnters_14 ic_2 ?_
  refine r_aload_n (pc := 15) hX 3 dX0_lineEnters_15 rfl rfl ?_
  refine r_getI (pc := 16) hX dX0_lineEnters_16 fp0_50 ha0 (by decide) ?_
  refine r_imul (pc := 19) hX dX0_lineEnters_19 ?_
  refine r_nmI (fun v3 => ?_)
  refine r_istore (L' := [(4, .int v3), (3, .int v2), (2, .int v1), (0, rX X o), (1, rX X a0)]) (pc := 20) hX dX0_lineEnters_20 (by decide) rfl ?_
  refine r_iconst (pc := 22) hX dX0_lineEnters_22 ic_2 ?_
  refine r_aload_n (pc := 23) hX 4 dX0_lineEnters_23 rfl rfl ?_
  refine r_getI (pc := 24) hX dX0_lineEnters_24 fp0_53 ha0 (by decide) ?_
  refine r_imul (pc := 27) hX dX0_lineEnters_27 ?_
  refine r_nmI (fun v4 => ?_)
  refine r_istore (L' := [(5, .int v4), (4, .int v3), (3, .int v2), (2, .int v1), (0, rX X o), (1, rX X a0)]) (pc := 28) hX dX0_lineEnters_28 (by decide) rfl ?_
  refine r_aload_n (pc := 30) hX 4 dX0_lineEnters_30 rfl rfl ?_
  refine r_getI (pc := 31) hX dX0_lineEnters_31 fp0_56 ho (by decide) ?_
  refine r_aload_n (pc := 34) hX 4 dX0_lineEnters_34 rfl rfl ?_
  refine r_getI (pc := 35) hX dX0_lineEnters_35 fp0_62 ho (by decide) ?_
  refine r_mmax (st := []) (pc := 38) hX dX0_lineEnters_38 lkM0_99 (Nat.le_of_ble_eq_true rfl) (by decide) ?_
  refine r_iload_n (pc := 41) hX 3 dX0_lineEnters_41 rfl rfl ?_
  refine r_icmp_le (tgt := 61) (pc := 42) hX dX0_lineEnters_42 (by decide) ?_ ?_
  · skip
    refine r_iconst (pc := 61) hX dX0_lineEnters_61 ic_0 ?_
    exact r_zretPk (pc := 62) hX hE dX0_lineEnters_62 (by decide)
  · skip
    refine r_aload_n (pc := 45) hX 4 dX0_lineEnters_45 rfl rfl ?_
    refine r_getI (pc := 46) hX dX0_lineEnters_46 fp0_56 ho (by decide) ?_
    refine r_aload_n (pc := 49) hX 4 dX0_lineEnters_49 rfl rfl ?_
    refine r_getI (pc := 50) hX dX0_lineEnters_50 fp0_62 ho (by decide) ?_
    refine r_mmin (st := []) (pc := 53) hX dX0_lineEnters_53 lkM0_105 (Nat.le_of_ble_eq_true rfl) (by decide) ?_
    refine r_iload (pc := 56) hX 1 dX0_lineEnters_56 rfl ?_
    refine r_icmp_lt (tgt := 63) (pc := 58) hX dX0_lineEnters_58 (by decide) ?_ ?_
    · skip
      refine r_aload_n (pc := 63) hX 4 dX0_lineEnters_63 rfl rfl ?_
      refine r_getI (pc := 64) hX dX0_lineEnters_64 fp0_59 ho (by decide) ?_
      refine r_aload_n (pc := 67) hX 4 dX0_lineEnters_67 rfl rfl ?_
      refine r_getI (pc := 68) hX dX0_lineEnters_68 fp0_65 ho (by decide) ?_
      refine r_mmax (st := []) (pc := 71) hX dX0_lineEnters_71 lkM0_99 (Nat.le_of_ble_eq_true rfl) (by decide) ?_
      refine r_iload_n (pc := 74) hX 2 dX0_lineEnters_74 rfl rfl ?_
      refine r_icmp_le (tgt := 94) (pc := 75) hX dX0_lineEnters_75 (by decide) ?_ ?_
      · skip
        refine r_iconst (pc := 94) hX dX0_lineEnters_94 ic_0 ?_
        exact r_zretPk (pc := 95) hX hE dX0_lineEnters_95 (by decide)
      · skip
        refine r_aload_n (pc := 78) hX 4 dX0_lineEnters_78 rfl rfl ?_
        refine r_getI (pc := 79) hX dX0_lineEnters_79 fp0_59 ho (by decide) ?_
        refine r_aload_n (pc := 82) hX 4 dX0_lineEnters_82 rfl rfl ?_
        refine r_getI (pc := 83) hX dX0_lineEnters_83 fp0_65 ho (by decide) ?_
        refine r_mmin (st := []) (pc := 86) hX dX0_lineEnters_86 lkM0_105 (Nat.le_of_ble_eq_true rfl) (by decide) ?_
        refine r_iload (pc := 89) hX 0 dX0_lineEnters_89 rfl ?_
        refine r_icmp_lt (tgt := 96) (pc := 91) hX dX0_lineEnters_91 (by decide) ?_ ?_
        · skip
          refine r_aload_n (pc := 96) hX 4 dX0_lineEnters_96 rfl rfl ?_
          refine r_iload_n (pc := 97) hX 3 dX0_lineEnters_97 rfl rfl ?_
          refine r_iload_n (pc := 98) hX 2 dX0_lineEnters_98 rfl rfl ?_
          refine r_cvP (st := []) (pc := 99) hX dX0_lineEnters_99 MI_Box_sideOf MV_Box_sideOf lkX0_108 ho (c_Box_sideOf o v1 v2 ho m) rfl rfl (Nat.le_of_ble_eq_true rfl) (by decide) (fun v5 => ?_)
          refine r_istore (L' := [(6, .int v5), (5, .int v4), (4, .int v3), (3, .int v2), (2, .int v1), (0, rX X o), (1, rX X a0)]) (pc := 102) hX dX0_lineEnters_102 (by decide) rfl ?_
          refine r_aload_n (pc := 104) hX 5 dX0_lineEnters_104 rfl rfl ?_
          refine r_iload (pc := 105) hX 2 dX0_lineEnters_105 rfl ?_
          refine r_iload_n (pc := 107) hX 3 dX0_lineEnters_107 rfl rfl ?_
          refine r_cvP (st := []) (pc := 108) hX dX0_lineEnters_108 MI_Box_sideOf MV_Box_sideOf lkX0_108 ho (c_Box_sideOf o v3 v2 ho m) rfl rfl (Nat.le_of_ble_eq_true rfl) (by decide) (fun v6 => ?_)
          refine r_istore (L' := [(7, .int v6), (6, .int v5), (5, .int v4), (4, .int v3), (3, .int v2), (2, .int v1), (0, rX X o), (1, rX X a0)]) (pc := 111) hX dX0_lineEnters_111 (by decide) rfl ?_
          refine r_aload_n (pc := 113) hX 6 dX0_lineEnters_113 rfl rfl ?_
          refine r_iload (pc := 114) hX 3 dX0_lineEnters_114 rfl ?_
          refine r_iload (pc := 116) hX 2 dX0_lineEnters_116 rfl ?_
          refine r_cvP (st := []) (pc := 118) hX dX0_lineEnters_118 MI_Box_sideOf MV_Box_sideOf lkX0_108 ho (c_Box_sideOf o v3 v4 ho m) rfl rfl (Nat.le_of_ble_eq_true rfl) (by decide) (fun v7 => ?_)
          refine r_istore (L' := [(8, .int v7), (7, .int v6), (6, .int v5), (5, .int v4), (4, .int v3), (3, .int v2), (2, .int v1), (0, rX X o), (1, rX X a0)]) (pc := 121) hX dX0_lineEnters_121 (by decide) rfl ?_
          refine r_aload_n (pc := 123) hX 7 dX0_lineEnters_123 rfl rfl ?_
          refine r_iload_n (pc := 124) hX 6 dX0_lineEnters_124 rfl rfl ?_
          refine r_iload (pc := 125) hX 3 dX0_lineEnters_125 rfl ?_
          refine r_cvP (st := []) (pc := 127) hX dX0_lineEnters_127 MI_Box_sideOf MV_Box_sideOf lkX0_108 ho (c_Box_sideOf o v1 v4 ho m) rfl rfl (Nat.le_of_ble_eq_true rfl) (by decide) (fun v8 => ?_)
          refine r_istore (L' := [(9, .int v8), (8, .int v7), (7, .int v6), (6, .int v5), (5, .int v4), (4, .int v3), (3, .int v2), (2, .int v1), (0, rX X o), (1, rX X a0)]) (pc := 130) hX dX0_lineEnters_130 (by decide) rfl ?_
          refine r_iload (pc := 132) hX 3 dX0_lineEnters_132 rfl ?_
          refine r_join (P := fun k => ∀ (v9 : Int32), J X (oP m) (k v9) m 157 [(6, .int v5), (7, .int v6), (8, .int v7), (9, .int v8)] [.int v9]) ?_ ?_
          · intro v9
            refine r_istore (L' := [(10, .int v9), (6, .int v5), (7, .int v6), (8, .int v7), (9, .int v8)]) (pc := 157) hX dX0_lineEnters_157 (by decide) rfl ?_
            refine r_iload (pc := 159) hX 1 dX0_lineEnters_159 rfl ?_
            refine r_join (P := fun k => ∀ (v10 : Int32), J X (oP m) (k v10) m 184 [(10, .int v9)] [.int v10]) ?_ ?_
            · intro v10
              refine r_istore (L' := [(11, .int v10), (10, .int v9)]) (pc := 184) hX dX0_lineEnters_184 (by decide) rfl ?_
              refine r_iload (pc := 186) hX 1 dX0_lineEnters_186 rfl ?_
              refine r_if_eq (tgt := 200) (pc := 188) hX dX0_lineEnters_188 (by decide) ?_ ?_
              · skip
                refine r_iconst (pc := 200) hX dX0_lineEnters_200 ic_0 ?_
                exact r_zretPk (pc := 201) hX hE dX0_lineEnters_201 (by decide)
              · skip
                refine r_iload (pc := 191) hX 0 dX0_lineEnters_191 rfl ?_
                refine r_if_eq (tgt := 200) (pc := 193) hX dX0_lineEnters_193 (by decide) ?_ ?_
                · skip
                  refine r_iconst (pc := 200) hX dX0_lineEnters_200 ic_0 ?_
                  exact r_zretPk (pc := 201) hX hE dX0_lineEnters_201 (by decide)
                · skip
                  refine r_iconst (pc := 196) hX dX0_lineEnters_196 ic_1 ?_
                  refine r_goto (tgt := 201) (pc := 197) hX dX0_lineEnters_197 (by decide) ?_
                  exact r_zretPk (pc := 201) hX hE dX0_lineEnters_201 (by decide)
            intro k184_ hk184_
            refine r_join (P := fun k => J X (oP m) (k) m 179 [(10, .int v9)] []) ?_ ?_
            · skip
              refine r_iconst (pc := 179) hX dX0_lineEnters_179 ic_1 ?_
              refine r_goto (tgt := 184) (pc := 180) hX dX0_lineEnters_180 (by decide) ?_
              exact hk184_ (1 : Int32)
            intro k179_ hk179_
            refine r_if_gt (tgt := 179) (pc := 161) hX dX0_lineEnters_161 (by decide) ?_ ?_
            · skip
              exact r_sub [0] rfl (hk179_)
            · skip
              refine r_iload (pc := 164) hX 2 dX0_lineEnters_164 rfl ?_
              refine r_if_gt (tgt := 179) (pc := 166) hX dX0_lineEnters_166 (by decide) ?_ ?_
              · skip
                exact r_sub [0] rfl (hk179_)
              · skip
                refine r_iload (pc := 169) hX 3 dX0_lineEnters_169 rfl ?_
                refine r_if_gt (tgt := 179) (pc := 171) hX dX0_lineEnters_171 (by decide) ?_ ?_
                · skip
                  exact r_sub [0] rfl (hk179_)
                · skip
                  refine r_iload (pc := 174) hX 4 dX0_lineEnters_174 rfl ?_
                  refine r_if_le (tgt := 183) (pc := 176) hX dX0_lineEnters_176 (by decide) ?_ ?_
                  · skip
                    refine r_iconst (pc := 183) hX dX0_lineEnters_183 ic_0 ?_
                    exact r_sub [0] rfl (hk184_ (0 : Int32))
                  · skip
                    exact r_sub [0] rfl (hk179_)
          intro k157_ hk157_
          refine r_join (P := fun k => J X (oP m) (k) m 152 [(6, .int v5), (7, .int v6), (8, .int v7), (9, .int v8)] []) ?_ ?_
          · skip
            refine r_iconst (pc := 152) hX dX0_lineEnters_152 ic_1 ?_
            refine r_goto (tgt := 157) (pc := 153) hX dX0_lineEnters_153 (by decide) ?_
            exact hk157_ (1 : Int32)
          intro k152_ hk152_
          refine r_if_lt (tgt := 152) (pc := 134) hX dX0_lineEnters_134 (by decide) ?_ ?_
          · skip
            exact r_sub [3, 2, 1, 0] rfl (hk152_)
          · skip
            refine r_iload (pc := 137) hX 2 dX0_lineEnters_137 rfl ?_
            refine r_if_lt (tgt := 152) (pc := 139) hX dX0_lineEnters_139 (by decide) ?_ ?_
            · skip
              exact r_sub [3, 2, 1, 0] rfl (hk152_)
            · skip
              refine r_iload (pc := 142) hX 1 dX0_lineEnters_142 rfl ?_
              refine r_if_lt (tgt := 152) (pc := 144) hX dX0_lineEnters_144 (by decide) ?_ ?_
              · skip
                exact r_sub [3, 2, 1, 0] rfl (hk152_)
              · skip
                refine r_iload (pc := 147) hX 0 dX0_lineEnters_147 rfl ?_
                refine r_if_ge (tgt := 156) (pc := 149) hX dX0_lineEnters_149 (by decide) ?_ ?_
                · skip
                  refine r_iconst (pc := 156) hX dX0_lineEnters_156 ic_0 ?_
                  exact r_sub [3, 2, 1, 0] rfl (hk157_ (0 : Int32))
                · skip
                  exact r_sub [3, 2, 1, 0] rfl (hk152_)
        · skip
          refine r_iconst (pc := 94) hX dX0_lineEnters_94 ic_0 ?_
          exact r_zretPk (pc := 95) hX hE dX0_lineEnters_95 (by decide)
    · skip
      refine r_iconst (pc := 61) hX dX0_lineEnters_61 ic_0 ?_
      exact r_zretPk (pc := 62) hX hE dX0_lineEnters_62 (by decide)
def f_Box_linesMeet (o : Nat) (a0 : Nat) (m : Me) : Option Int32 := if (mx (m.1 o 5) (m.1 o 7)) < (mn (m.1 a0 5) (m.1 a0 7)) then some (0 : Int32) else if (mn (m.1 o 5) (m.1 o 7)) ≤ (mx (m.1 a0 5) (m.1 a0 7)) then if (mx (m.1 o 6) (m.1 o 8)) < (mn (m.1 a0 6) (m.1 a0 8)) then some (0 : Int32) else if (mn (m.1 o 6) (m.1 o 8)) ≤ (mx (m.1 a0 6) (m.1 a0 8)) then cP (f_Box_sideOf o (m.1 a0 5) (m.1 a0 6) m) (fun v1 => cP (f_Box_sideOf o (m.1 a0 7) (m.1 a0 8) m) (fun v2 => cP (f_Box_sideOf a0 (m.1 o 5) (m.1 o 6) m) (fun v3 => cP (f_Box_sideOf a0 (m.1 o 7) (m.1 o 8) m) (fun v4 => bd (fun (v5 : Int32) => bd (fun (v6 : Int32) => if v5 = 0 then if v6 = 0 then some (1 : Int32) else some (0 : Int32) else some (0 : Int32)) (fun k206_ => bd ((k206_ (1 : Int32))) (fun k201_ => bd (bd ((k206_ (0 : Int32))) (fun k205_ => if v3 ≤ 0 then (k205_) else if v4 ≤ 0 then (k205_) else (k201_))) (fun k191_ => if 0 ≤ v3 then (k191_) else if v4 < 0 then (k201_) else (k191_))))) (fun k179_ => bd ((k179_ (1 : Int32))) (fun k174_ => bd (bd ((k179_ (0 : Int32))) (fun k178_ => if v1 ≤ 0 then (k178_) else if v2 ≤ 0 then (k178_) else (k174_))) (fun k166_ => if 0 ≤ v1 then (k166_) else if v2 < 0 then (k174_) else (k166_)))))))) else some (0 : Int32) else some (0 : Int32)
set_option maxHeartbeats 4000000 in
set_option maxRecDepth 100000 in
theorem c_Box_linesMeet (o : Nat) (a0 : Nat) (ho : kd o = 0) (ha0 : kd a0 = 0) (m : Me) (r : Int32) (h : f_Box_linesMeet o a0 m = some r) : Ct yX0_linesMeet cX0_linesMeet 8 (some .boolean) 1 (fun ad => [.ref (ad o), .ref (ad a0)]) m (fun ad => (some (.int r), m)) := by
  refine mk_ct (F := f_Box_linesMeet o a0 m) (fun _ => oP m) r h (fun _ => rfl) (by decide) (fun _ => Nat.le_of_ble_eq_true rfl) ?_
  intro X hX hE
  show J X (oP m) (f_Box_linesMeet o a0 m) m 0 [(0, rX X o), (1, rX X a0)] []
  unfold f_Box_linesMeet
  refine r_aload_n (pc := 0) hX 0 dX0_linesMeet_0 rfl rfl ?_
  refine r_getI (pc := 1) hX dX0_linesMeet_1 fp0_56 ho (by decide) ?_
  refine r_aload_n (pc := 4) hX 0 dX0_linesMeet_4 rfl rfl ?_
  refine r_getI (pc := 5) hX dX0_linesMeet_5 fp0_62 ho (by decide) ?_
  refine r_mmax (st := []) (pc := 8) hX dX0_linesMeet_8 lkM0_99 (Nat.le_of_ble_eq_true rfl) (by decide) ?_
  refine r_aload_n (pc := 11) hX 1 dX0_linesMeet_11 rfl rfl ?_
  refine r_getI (pc := 12) hX dX0_linesMeet_12 fp0_56 ha0 (by decide) ?_
  refine r_aload_n (pc := 15) hX 1 dX0_linesMeet_15 rfl rfl ?_
  refine r_getI (pc := 16) hX dX0_linesMeet_16 fp0_62 ha0 (by decide) ?_
  refine r_mmin (st := [.int (mx (m.1 o 5) (m.1 o 7))]) (pc := 19) hX dX0_linesMeet_19 lkM0_105 (Nat.le_of_ble_eq_true rfl) (by decide) ?_
  refine r_icmp_lt (tgt := 50) (pc := 22) hX dX0_linesMeet_22 (by decide) ?_ ?_
  · skip
    refine r_iconst (pc := 50) hX dX0_linesMeet_50 ic_0 ?_
    exact r_zretPk (pc := 51) hX hE dX0_linesMeet_51 (by decide)
  · skip
    refine r_aload_n (pc := 25) hX 1 dX0_linesMeet_25 rfl rfl ?_
    refine r_getI (pc := 26) hX dX0_linesMeet_26 fp0_56 ha0 (by decide) ?_
    refine r_aload_n (pc := 29) hX 1 dX0_linesMeet_29 rfl rfl ?_
    refine r_getI (pc := 30) hX dX0_linesMeet_30 fp0_62 ha0 (by decide) ?_
    refine r_mmax (st := []) (pc := 33) hX dX0_linesMeet_33 lkM0_99 (Nat.le_of_ble_eq_true rfl) (by decide) ?_
    refine r_aload_n (pc := 36) hX 0 dX0_linesMeet_36 rfl rfl ?_
    refine r_getI (pc := 37) hX dX0_linesMeet_37 fp0_56 ho (by decide) ?_
    refine r_aload_n (pc := 40) hX 0 dX0_linesMeet_40 rfl rfl ?_
    refine r_getI (pc := 41) hX dX0_linesMeet_41 fp0_62 ho (by decide) ?_
    refine r_mmin (st := [.int (mx (m.1 a0 5) (m.1 a0 7))]) (pc := 44) hX dX0_linesMeet_44 lkM0_105 (Nat.le_of_ble_eq_true rfl) (by decide) ?_
    refine r_icmp_ge (tgt := 52) (pc := 47) hX dX0_linesMeet_47 (by decide) ?_ ?_
    · skip
      refine r_aload_n (pc := 52) hX 0 dX0_linesMeet_52 rfl rfl ?_
      refine r_getI (pc := 53) hX dX0_linesMeet_53 fp0_59 ho (by decide) ?_
      refine r_aload_n (pc := 56) hX 0 dX0_linesMeet_56 rfl rfl ?_
      refine r_getI (pc := 57) hX dX0_linesMeet_57 fp0_65 ho (by decide) ?_
      refine r_mmax (st := []) (pc := 60) hX dX0_linesMeet_60 lkM0_99 (Nat.le_of_ble_eq_true rfl) (by decide) ?_
      refine r_aload_n (pc := 63) hX 1 dX0_linesMeet_63 rfl rfl ?_
      refine r_getI (pc := 64) hX dX0_linesMeet_64 fp0_59 ha0 (by decide) ?_
      refine r_aload_n (pc := 67) hX 1 dX0_linesMeet_67 rfl rfl ?_
      refine r_getI (pc := 68) hX dX0_linesMeet_68 fp0_65 ha0 (by decide) ?_
      refine r_mmin (st := [.int (mx (m.1 o 6) (m.1 o 8))]) (pc := 71) hX dX0_linesMeet_71 lkM0_105 (Nat.le_of_ble_eq_true rfl) (by decide) ?_
      refine r_icmp_lt (tgt := 102) (pc := 74) hX dX0_linesMeet_74 (by decide) ?_ ?_
      · skip
        refine r_iconst (pc := 102) hX dX0_linesMeet_102 ic_0 ?_
        exact r_zretPk (pc := 103) hX hE dX0_linesMeet_103 (by decide)
      · skip
        refine r_aload_n (pc := 77) hX 1 dX0_linesMeet_77 rfl rfl ?_
        refine r_getI (pc := 78) hX dX0_linesMeet_78 fp0_59 ha0 (by decide) ?_
        refine r_aload_n (pc := 81) hX 1 dX0_linesMeet_81 rfl rfl ?_
        refine r_getI (pc := 82) hX dX0_linesMeet_82 fp0_65 ha0 (by decide) ?_
        refine r_mmax (st := []) (pc := 85) hX dX0_linesMeet_85 lkM0_99 (Nat.le_of_ble_eq_true rfl) (by decide) ?_
        refine r_aload_n (pc := 88) hX 0 dX0_linesMeet_88 rfl rfl ?_
        refine r_getI (pc := 89) hX dX0_linesMeet_89 fp0_59 ho (by decide) ?_
        refine r_aload_n (pc := 92) hX 0 dX0_linesMeet_92 rfl rfl ?_
        refine r_getI (pc := 93) hX dX0_linesMeet_93 fp0_65 ho (by decide) ?_
        refine r_mmin (st := [.int (mx (m.1 a0 6) (m.1 a0 8))]) (pc := 96) hX dX0_linesMeet_96 lkM0_105 (Nat.le_of_ble_eq_true rfl) (by decide) ?_
        refine r_icmp_ge (tgt := 104) (pc := 99) hX dX0_linesMeet_99 (by decide) ?_ ?_
        · skip
          refine r_aload_n (pc := 104) hX 0 dX0_linesMeet_104 rfl rfl ?_
          refine r_aload_n (pc := 105) hX 1 dX0_linesMeet_105 rfl rfl ?_
          refine r_getI (pc := 106) hX dX0_linesMeet_106 fp0_56 ha0 (by decide) ?_
          refine r_aload_n (pc := 109) hX 1 dX0_linesMeet_109 rfl rfl ?_
          refine r_getI (pc := 110) hX dX0_linesMeet_110 fp0_59 ha0 (by decide) ?_
          refine r_cvP (st := []) (pc := 113) hX dX0_linesMeet_113 MI_Box_sideOf MV_Box_sideOf lkX0_108 ho (c_Box_sideOf o (m.1 a0 5) (m.1 a0 6) ho m) rfl rfl (Nat.le_of_ble_eq_true rfl) (by decide) (fun v1 => ?_)
          refine r_istore_n (L' := [(2, .int v1), (0, rX X o), (1, rX X a0)]) (pc := 116) hX dX0_linesMeet_116 rfl (by decide) rfl ?_
          refine r_aload_n (pc := 117) hX 1 dX0_linesMeet_117 rfl rfl ?_
          refine r_aload_n (pc := 118) hX 2 dX0_linesMeet_118 rfl rfl ?_
          refine r_getI (pc := 119) hX dX0_linesMeet_119 fp0_62 ha0 (by decide) ?_
          refine r_aload_n (pc := 122) hX 2 dX0_linesMeet_122 rfl rfl ?_
          refine r_getI (pc := 123) hX dX0_linesMeet_123 fp0_65 ha0 (by decide) ?_
          refine r_cvP (st := []) (pc := 126) hX dX0_linesMeet_126 MI_Box_sideOf MV_Box_sideOf lkX0_108 ho (c_Box_sideOf o (m.1 a0 7) (m.1 a0 8) ho m) rfl rfl (Nat.le_of_ble_eq_true rfl) (by decide) (fun v2 => ?_)
          refine r_istore_n (L' := [(3, .int v2), (2, .int v1), (0, rX X o), (1, rX X a0)]) (pc := 129) hX dX0_linesMeet_129 rfl (by decide) rfl ?_
          refine r_aload_n (pc := 130) hX 3 dX0_linesMeet_130 rfl rfl ?_
          refine r_aload_n (pc := 131) hX 2 dX0_linesMeet_131 rfl rfl ?_
          refine r_getI (pc := 132) hX dX0_linesMeet_132 fp0_56 ho (by decide) ?_
          refine r_aload_n (pc := 135) hX 2 dX0_linesMeet_135 rfl rfl ?_
          refine r_getI (pc := 136) hX dX0_linesMeet_136 fp0_59 ho (by decide) ?_
          refine r_cvP (st := []) (pc := 139) hX dX0_linesMeet_139 MI_Box_sideOf MV_Box_sideOf lkX0_108 ha0 (c_Box_sideOf a0 (m.1 o 5) (m.1 o 6) ha0 m) rfl rfl (Nat.le_of_ble_eq_true rfl) (by decide) (fun v3 => ?_)
          refine r_istore (L' := [(4, .int v3), (3, .int v2), (2, .int v1), (0, rX X o), (1, rX X a0)]) (pc := 142) hX dX0_linesMeet_142 (by decide) rfl ?_
          refine r_aload_n (pc := 144) hX 4 dX0_linesMeet_144 rfl rfl ?_
          refine r_aload_n (pc := 145) hX 3 dX0_linesMeet_145 rfl rfl ?_
          refine r_getI (pc := 146) hX dX0_linesMeet_146 fp0_62 ho (by decide) ?_
          refine r_aload_n (pc := 149) hX 3 dX0_linesMeet_149 rfl rfl ?_
          refine r_getI (pc := 150) hX dX0_linesMeet_150 fp0_65 ho (by decide) ?_
          refine r_cvP (st := []) (pc := 153) hX dX0_linesMeet_153 MI_Box_sideOf MV_Box_sideOf lkX0_108 ha0 (c_Box_sideOf a0 (m.1 o 7) (m.1 o 8) ha0 m) rfl rfl (Nat.le_of_ble_eq_true rfl) (by decide) (fun v4 => ?_)
          refine r_istore (L' := [(5, .int v4), (4, .int v3), (3, .int v2), (2, .int v1), (0, rX X o), (1, rX X a0)]) (pc := 156) hX dX0_linesMeet_156 (by decide) rfl ?_
          refine r_iload_n (pc := 158) hX 3 dX0_linesMeet_158 rfl rfl ?_
          refine r_join (P := fun k => ∀ (v5 : Int32), J X (oP m) (k v5) m 179 [(4, .int v3), (5, .int v4)] [.int v5]) ?_ ?_
          · intro v5
            refine r_istore (L' := [(6, .int v5), (4, .int v3), (5, .int v4)]) (pc := 179) hX dX0_linesMeet_179 (by decide) rfl ?_
            refine r_iload (pc := 181) hX 1 dX0_linesMeet_181 rfl ?_
            refine r_join (P := fun k => ∀ (v6 : Int32), J X (oP m) (k v6) m 206 [(6, .int v5)] [.int v6]) ?_ ?_
            · intro v6
              refine r_istore (L' := [(7, .int v6), (6, .int v5)]) (pc := 206) hX dX0_linesMeet_206 (by decide) rfl ?_
              refine r_iload (pc := 208) hX 1 dX0_linesMeet_208 rfl ?_
              refine r_if_ne (tgt := 222) (pc := 210) hX dX0_linesMeet_210 (by decide) ?_ ?_
              · skip
                refine r_iconst (pc := 222) hX dX0_linesMeet_222 ic_0 ?_
                exact r_zretPk (pc := 223) hX hE dX0_linesMeet_223 (by decide)
              · skip
                refine r_iload (pc := 213) hX 0 dX0_linesMeet_213 rfl ?_
                refine r_if_ne (tgt := 222) (pc := 215) hX dX0_linesMeet_215 (by decide) ?_ ?_
                · skip
                  refine r_iconst (pc := 222) hX dX0_linesMeet_222 ic_0 ?_
                  exact r_zretPk (pc := 223) hX hE dX0_linesMeet_223 (by decide)
                · skip
                  refine r_iconst (pc := 218) hX dX0_linesMeet_218 ic_1 ?_
                  refine r_goto (tgt := 223) (pc := 219) hX dX0_linesMeet_219 (by decide) ?_
                  exact r_zretPk (pc := 223) hX hE dX0_linesMeet_223 (by decide)
            intro k206_ hk206_
            refine r_join (P := fun k => J X (oP m) (k) m 201 [(6, .int v5)] []) ?_ ?_
            · skip
              refine r_iconst (pc := 201) hX dX0_linesMeet_201 ic_1 ?_
              refine r_goto (tgt := 206) (pc := 202) hX dX0_linesMeet_202 (by decide) ?_
              exact hk206_ (1 : Int32)
            intro k201_ hk201_
            refine r_join (P := fun k => J X (oP m) (k) m 191 [(4, .int v3), (5, .int v4), (6, .int v5)] []) ?_ ?_
            · skip
              refine r_iload (pc := 191) hX 0 dX0_linesMeet_191 rfl ?_
              refine r_join (P := fun k => J X (oP m) (k) m 205 [(6, .int v5)] []) ?_ ?_
              · skip
                refine r_iconst (pc := 205) hX dX0_linesMeet_205 ic_0 ?_
                exact hk206_ (0 : Int32)
              intro k205_ hk205_
              refine r_if_le (tgt := 205) (pc := 193) hX dX0_linesMeet_193 (by decide) ?_ ?_
              · skip
                exact r_sub [2] rfl (hk205_)
              · skip
                refine r_iload (pc := 196) hX 1 dX0_linesMeet_196 rfl ?_
                refine r_if_le (tgt := 205) (pc := 198) hX dX0_linesMeet_198 (by decide) ?_ ?_
                · skip
                  exact r_sub [2] rfl (hk205_)
                · skip
                  exact r_sub [2] rfl (hk201_)
            intro k191_ hk191_
            refine r_if_ge (tgt := 191) (pc := 183) hX dX0_linesMeet_183 (by decide) ?_ ?_
            · skip
              exact r_sub [1, 2, 0] rfl (hk191_)
            · skip
              refine r_iload (pc := 186) hX 2 dX0_linesMeet_186 rfl ?_
              refine r_if_lt (tgt := 201) (pc := 188) hX dX0_linesMeet_188 (by decide) ?_ ?_
              · skip
                exact r_sub [0] rfl (hk201_)
              · skip
                exact r_sub [1, 2, 0] rfl (hk191_)
          intro k179_ hk179_
          refine r_join (P := fun k => J X (oP m) (k) m 174 [(4, .int v3), (5, .int v4)] []) ?_ ?_
          · skip
            refine r_iconst (pc := 174) hX dX0_linesMeet_174 ic_1 ?_
            refine r_goto (tgt := 179) (pc := 175) hX dX0_linesMeet_175 (by decide) ?_
            exact hk179_ (1 : Int32)
          intro k174_ hk174_
          refine r_join (P := fun k => J X (oP m) (k) m 166 [(2, .int v1), (3, .int v2), (4, .int v3), (5, .int v4)] []) ?_ ?_
          · skip
            refine r_iload_n (pc := 166) hX 0 dX0_linesMeet_166 rfl rfl ?_
            refine r_join (P := fun k => J X (oP m) (k) m 178 [(4, .int v3), (5, .int v4)] []) ?_ ?_
            · skip
              refine r_iconst (pc := 178) hX dX0_linesMeet_178 ic_0 ?_
              exact hk179_ (0 : Int32)
            intro k178_ hk178_
            refine r_if_le (tgt := 178) (pc := 167) hX dX0_linesMeet_167 (by decide) ?_ ?_
            · skip
              exact r_sub [2, 3] rfl (hk178_)
            · skip
              refine r_iload_n (pc := 170) hX 1 dX0_linesMeet_170 rfl rfl ?_
              refine r_if_le (tgt := 178) (pc := 171) hX dX0_linesMeet_171 (by decide) ?_ ?_
              · skip
                exact r_sub [2, 3] rfl (hk178_)
              · skip
                exact r_sub [2, 3] rfl (hk174_)
          intro k166_ hk166_
          refine r_if_ge (tgt := 166) (pc := 159) hX dX0_linesMeet_159 (by decide) ?_ ?_
          · skip
            exact r_sub [3, 2, 1, 0] rfl (hk166_)
          · skip
            refine r_iload_n (pc := 162) hX 2 dX0_linesMeet_162 rfl rfl ?_
            refine r_if_lt (tgt := 174) (pc := 163) hX dX0_linesMeet_163 (by decide) ?_ ?_
            · skip
              exact r_sub [1, 0] rfl (hk174_)
            · skip
              exact r_sub [3, 2, 1, 0] rfl (hk166_)
        · skip
          refine r_iconst (pc := 102) hX dX0_linesMeet_102 ic_0 ?_
          exact r_zretPk (pc := 103) hX hE dX0_linesMeet_103 (by decide)
    · skip
      refine r_iconst (pc := 50) hX dX0_linesMeet_50 ic_0 ?_
      exact r_zretPk (pc := 51) hX hE dX0_linesMeet_51 (by decide)
def f_Box_hits (o : Nat) (a0 : Nat) (m : Me) : Option Int32 := cP (f_Box_overlaps o (m.1 a0 0) (m.1 a0 1) (m.1 a0 2) (m.1 a0 3) m) (fun v1 => if v1 = 0 then bd (bd (if (m.1 o 4) = 0 then some (0 : Int32) else if (m.1 a0 4) = 0 then some (0 : Int32) else cP (f_Box_linesMeet o a0 m) (fun v2 => if v2 = 0 then some (0 : Int32) else some (1 : Int32))) (fun k57_ => if (m.1 a0 4) = 0 then (k57_) else cP (f_Box_lineEnters a0 o m) (fun v3 => if v3 = 0 then (k57_) else some (1 : Int32)))) (fun k40_ => if (m.1 o 4) = 0 then (k40_) else cP (f_Box_lineEnters o a0 m) (fun v4 => if v4 = 0 then (k40_) else some (1 : Int32))) else some (1 : Int32))
set_option maxHeartbeats 4000000 in
set_option maxRecDepth 100000 in
theorem c_Box_hits (o : Nat) (a0 : Nat) (ho : kd o = 0) (ha0 : kd a0 = 0) (m : Me) (r : Int32) (h : f_Box_hits o a0 m = some r) : Ct yX0_hits cX0_hits 2 (some .boolean) 2 (fun ad => [.ref (ad o), .ref (ad a0)]) m (fun ad => (some (.int r), m)) := by
  refine mk_ct (F := f_Box_hits o a0 m) (fun _ => oP m) r h (fun _ => rfl) (by decide) (fun _ => Nat.le_of_ble_eq_true rfl) ?_
  intro X hX hE
  show J X (oP m) (f_Box_hits o a0 m) m 0 [(0, rX X o), (1, rX X a0)] []
  unfold f_Box_hits
  refine r_aload_n (pc := 0) hX 0 dX0_hits_0 rfl rfl ?_
  refine r_aload_n (pc := 1) hX 1 dX0_hits_1 rfl rfl ?_
  refine r_getI (pc := 2) hX dX0_hits_2 fp0_40 ha0 (by decide) ?_
  refine r_aload_n (pc := 5) hX 1 dX0_hits_5 rfl rfl ?_
  refine r_getI (pc := 6) hX dX0_hits_6 fp0_47 ha0 (by decide) ?_
  refine r_aload_n (pc := 9) hX 1 dX0_hits_9 rfl rfl ?_
  refine r_getI (pc := 10) hX dX0_hits_10 fp0_50 ha0 (by decide) ?_
  refine r_aload_n (pc := 13) hX 1 dX0_hits_13 rfl rfl ?_
  refine r_getI (pc := 14) hX dX0_hits_14 fp0_53 ha0 (by decide) ?_
  refine r_cvP (st := []) (pc := 17) hX dX0_hits_17 MI_Box_overlaps MV_Box_overlaps lkX0_88 ho (c_Box_overlaps o (m.1 a0 0) (m.1 a0 1) (m.1 a0 2) (m.1 a0 3) ho m) rfl rfl (Nat.le_of_ble_eq_true rfl) (by decide) (fun v1 => ?_)
  refine r_if_eq (tgt := 25) (pc := 20) hX dX0_hits_20 (by decide) ?_ ?_
  · skip
    refine r_aload_n (pc := 25) hX 0 dX0_hits_25 rfl rfl ?_
    refine r_getI (pc := 26) hX dX0_hits_26 fp0_15 ho (by decide) ?_
    refine r_join (P := fun k => J X (oP m) (k) m 40 [(0, rX X o), (1, rX X a0)] []) ?_ ?_
    · skip
      refine r_aload_n (pc := 40) hX 1 dX0_hits_40 rfl rfl ?_
      refine r_getI (pc := 41) hX dX0_hits_41 fp0_15 ha0 (by decide) ?_
      refine r_join (P := fun k => J X (oP m) (k) m 57 [(0, rX X o), (1, rX X a0)] []) ?_ ?_
      · skip
        refine r_aload_n (pc := 57) hX 0 dX0_hits_57 rfl rfl ?_
        refine r_getI (pc := 58) hX dX0_hits_58 fp0_15 ho (by decide) ?_
        refine r_if_eq (tgt := 83) (pc := 61) hX dX0_hits_61 (by decide) ?_ ?_
        · skip
          refine r_iconst (pc := 83) hX dX0_hits_83 ic_0 ?_
          exact r_zretPk (pc := 84) hX hE dX0_hits_84 (by decide)
        · skip
          refine r_aload_n (pc := 64) hX 1 dX0_hits_64 rfl rfl ?_
          refine r_getI (pc := 65) hX dX0_hits_65 fp0_15 ha0 (by decide) ?_
          refine r_if_eq (tgt := 83) (pc := 68) hX dX0_hits_68 (by decide) ?_ ?_
          · skip
            refine r_iconst (pc := 83) hX dX0_hits_83 ic_0 ?_
            exact r_zretPk (pc := 84) hX hE dX0_hits_84 (by decide)
          · skip
            refine r_aload_n (pc := 71) hX 0 dX0_hits_71 rfl rfl ?_
            refine r_aload_n (pc := 72) hX 1 dX0_hits_72 rfl rfl ?_
            refine r_cvP (st := []) (pc := 73) hX dX0_hits_73 MI_Box_linesMeet MV_Box_linesMeet lkX0_96 ho (c_Box_linesMeet o a0 ho ha0 m) rfl rfl (Nat.le_of_ble_eq_true rfl) (by decide) (fun v2 => ?_)
            refine r_if_eq (tgt := 83) (pc := 76) hX dX0_hits_76 (by decide) ?_ ?_
            · skip
              refine r_iconst (pc := 83) hX dX0_hits_83 ic_0 ?_
              exact r_zretPk (pc := 84) hX hE dX0_hits_84 (by decide)
            · skip
              refine r_iconst (pc := 79) hX dX0_hits_79 ic_1 ?_
              refine r_goto (tgt := 84) (pc := 80) hX dX0_hits_80 (by decide) ?_
              exact r_zretPk (pc := 84) hX hE dX0_hits_84 (by decide)
      intro k57_ hk57_
      refine r_if_eq (tgt := 57) (pc := 44) hX dX0_hits_44 (by decide) ?_ ?_
      · skip
        exact hk57_
      · skip
        refine r_aload_n (pc := 47) hX 1 dX0_hits_47 rfl rfl ?_
        refine r_aload_n (pc := 48) hX 0 dX0_hits_48 rfl rfl ?_
        refine r_cvP (st := []) (pc := 49) hX dX0_hits_49 MI_Box_lineEnters MV_Box_lineEnters lkX0_92 ha0 (c_Box_lineEnters a0 o ha0 ho m) rfl rfl (Nat.le_of_ble_eq_true rfl) (by decide) (fun v3 => ?_)
        refine r_if_eq (tgt := 57) (pc := 52) hX dX0_hits_52 (by decide) ?_ ?_
        · skip
          exact hk57_
        · skip
          refine r_iconst (pc := 55) hX dX0_hits_55 ic_1 ?_
          exact r_zretPk (pc := 56) hX hE dX0_hits_56 (by decide)
    intro k40_ hk40_
    refine r_if_eq (tgt := 40) (pc := 29) hX dX0_hits_29 (by decide) ?_ ?_
    · skip
      exact hk40_
    · skip
      refine r_aload_n (pc := 32) hX 0 dX0_hits_32 rfl rfl ?_
      refine r_aload_n (pc := 33) hX 1 dX0_hits_33 rfl rfl ?_
      refine r_cvP (st := []) (pc := 34) hX dX0_hits_34 MI_Box_lineEnters MV_Box_lineEnters lkX0_92 ho (c_Box_lineEnters o a0 ho ha0 m) rfl rfl (Nat.le_of_ble_eq_true rfl) (by decide) (fun v4 => ?_)
      refine r_if_ne (tgt := 55) (pc := 37) hX dX0_hits_37 (by decide) ?_ ?_
      · skip
        refine r_iconst (pc := 55) hX dX0_hits_55 ic_1 ?_
        exact r_zretPk (pc := 56) hX hE dX0_hits_56 (by decide)
      · skip
        exact hk40_
  · skip
    refine r_iconst (pc := 23) hX dX0_hits_23 ic_1 ?_
    exact r_zretPk (pc := 24) hX hE dX0_hits_24 (by decide)
end
