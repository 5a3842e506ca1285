section
-- ===== PART A: goes FIRST, ahead of the names: the tables' words, and 'selects' of the private methods out of them =====
/-- a private method of a class that the tables say can be made, by its rows of tables_1 -/
def lw_okq (q : MethodName × Nat) : Prop := (q.1.cls ≠ "java/lang/invoke/MethodHandle" ∧ q.1.cls ≠ "java/lang/invoke/VarHandle") ∧ Cond.instantiable q.1.cls q.2 ∈ tables_1 ∧ Cond.privateMethod q.1 ∈ tables_1 ∧ Cond.instanceMethod q.1 ∈ tables_1
theorem lw_p0 : lw_okq (⟨"NameChart", "redraw", "()V"⟩, 10) := ⟨⟨by decide +kernel, by decide +kernel⟩, List.mem_of_getElem? (i := 15) (by decide +kernel), List.mem_of_getElem? (i := 307) (by decide +kernel), List.mem_of_getElem? (i := 308) (by decide +kernel)⟩
theorem lw_p1 : lw_okq (⟨"NameChart", "forgetDrawing", "()V"⟩, 10) := ⟨⟨by decide +kernel, by decide +kernel⟩, List.mem_of_getElem? (i := 15) (by decide +kernel), List.mem_of_getElem? (i := 325) (by decide +kernel), List.mem_of_getElem? (i := 326) (by decide +kernel)⟩
theorem lw_p2 : lw_okq (⟨"NameChart", "openWays", "(I)I"⟩, 10) := ⟨⟨by decide +kernel, by decide +kernel⟩, List.mem_of_getElem? (i := 15) (by decide +kernel), List.mem_of_getElem? (i := 365) (by decide +kernel), List.mem_of_getElem? (i := 366) (by decide +kernel)⟩
theorem lw_p3 : lw_okq (⟨"NameChart", "layOut", "()V"⟩, 10) := ⟨⟨by decide +kernel, by decide +kernel⟩, List.mem_of_getElem? (i := 15) (by decide +kernel), List.mem_of_getElem? (i := 369) (by decide +kernel), List.mem_of_getElem? (i := 370) (by decide +kernel)⟩
theorem lw_p4 : lw_okq (⟨"NameChart$Box", "coversAny", "([I[III)Z"⟩, 9) := ⟨⟨by decide +kernel, by decide +kernel⟩, List.mem_of_getElem? (i := 114) (by decide +kernel), List.mem_of_getElem? (i := 397) (by decide +kernel), List.mem_of_getElem? (i := 398) (by decide +kernel)⟩
theorem lw_p5 : lw_okq (⟨"NameChart", "partOf", "(I)I"⟩, 10) := ⟨⟨by decide +kernel, by decide +kernel⟩, List.mem_of_getElem? (i := 15) (by decide +kernel), List.mem_of_getElem? (i := 411) (by decide +kernel), List.mem_of_getElem? (i := 412) (by decide +kernel)⟩
theorem lw_p6 : lw_okq (⟨"NameChart", "splitUp", "()V"⟩, 10) := ⟨⟨by decide +kernel, by decide +kernel⟩, List.mem_of_getElem? (i := 15) (by decide +kernel), List.mem_of_getElem? (i := 415) (by decide +kernel), List.mem_of_getElem? (i := 416) (by decide +kernel)⟩
theorem lw_p7 : lw_okq (⟨"NameChart$Parts", "joinBack", "(LNameChart$Chart;LNameChart$Layout;I)V"⟩, 5) := ⟨⟨by decide +kernel, by decide +kernel⟩, List.mem_of_getElem? (i := 165) (by decide +kernel), List.mem_of_getElem? (i := 423) (by decide +kernel), List.mem_of_getElem? (i := 424) (by decide +kernel)⟩
theorem lw_p8 : lw_okq (⟨"NameChart$Chart", "reachAcross", "(I)I"⟩, 11) := ⟨⟨by decide +kernel, by decide +kernel⟩, List.mem_of_getElem? (i := 23) (by decide +kernel), List.mem_of_getElem? (i := 434) (by decide +kernel), List.mem_of_getElem? (i := 435) (by decide +kernel)⟩
theorem lw_p9 : lw_okq (⟨"NameChart$Chart", "reachDown", "(I)I"⟩, 11) := ⟨⟨by decide +kernel, by decide +kernel⟩, List.mem_of_getElem? (i := 23) (by decide +kernel), List.mem_of_getElem? (i := 442) (by decide +kernel), List.mem_of_getElem? (i := 443) (by decide +kernel)⟩
theorem lw_p10 : lw_okq (⟨"NameChart$Box", "lineEnters", "(LNameChart$Box;)Z"⟩, 9) := ⟨⟨by decide +kernel, by decide +kernel⟩, List.mem_of_getElem? (i := 114) (by decide +kernel), List.mem_of_getElem? (i := 462) (by decide +kernel), List.mem_of_getElem? (i := 463) (by decide +kernel)⟩
theorem lw_p11 : lw_okq (⟨"NameChart$Box", "sideOf", "(II)I"⟩, 9) := ⟨⟨by decide +kernel, by decide +kernel⟩, List.mem_of_getElem? (i := 114) (by decide +kernel), List.mem_of_getElem? (i := 470) (by decide +kernel), List.mem_of_getElem? (i := 471) (by decide +kernel)⟩
theorem lw_p12 : lw_okq (⟨"NameChart$Box", "linesMeet", "(LNameChart$Box;)Z"⟩, 9) := ⟨⟨by decide +kernel, by decide +kernel⟩, List.mem_of_getElem? (i := 114) (by decide +kernel), List.mem_of_getElem? (i := 474) (by decide +kernel), List.mem_of_getElem? (i := 475) (by decide +kernel)⟩
theorem lw_p13 : lw_okq (⟨"NameChart$Parts", "join", "(III)V"⟩, 5) := ⟨⟨by decide +kernel, by decide +kernel⟩, List.mem_of_getElem? (i := 165) (by decide +kernel), List.mem_of_getElem? (i := 480) (by decide +kernel), List.mem_of_getElem? (i := 481) (by decide +kernel)⟩
theorem lw_p14 : lw_okq (⟨"NameChart$Parts", "giveNumbers", "(I)V"⟩, 5) := ⟨⟨by decide +kernel, by decide +kernel⟩, List.mem_of_getElem? (i := 165) (by decide +kernel), List.mem_of_getElem? (i := 484) (by decide +kernel), List.mem_of_getElem? (i := 485) (by decide +kernel)⟩
theorem lw_p15 : lw_okq (⟨"NameChart", "firstShut", "()I"⟩, 10) := ⟨⟨by decide +kernel, by decide +kernel⟩, List.mem_of_getElem? (i := 15) (by decide +kernel), List.mem_of_getElem? (i := 548) (by decide +kernel), List.mem_of_getElem? (i := 549) (by decide +kernel)⟩
def lw_privs_1 : List (MethodName × Nat) := [(⟨"NameChart", "redraw", "()V"⟩, 10), (⟨"NameChart", "forgetDrawing", "()V"⟩, 10), (⟨"NameChart", "openWays", "(I)I"⟩, 10), (⟨"NameChart", "layOut", "()V"⟩, 10), (⟨"NameChart$Box", "coversAny", "([I[III)Z"⟩, 9), (⟨"NameChart", "partOf", "(I)I"⟩, 10), (⟨"NameChart", "splitUp", "()V"⟩, 10), (⟨"NameChart$Parts", "joinBack", "(LNameChart$Chart;LNameChart$Layout;I)V"⟩, 5), (⟨"NameChart$Chart", "reachAcross", "(I)I"⟩, 11), (⟨"NameChart$Chart", "reachDown", "(I)I"⟩, 11), (⟨"NameChart$Box", "lineEnters", "(LNameChart$Box;)Z"⟩, 9), (⟨"NameChart$Box", "sideOf", "(II)I"⟩, 9), (⟨"NameChart$Box", "linesMeet", "(LNameChart$Box;)Z"⟩, 9), (⟨"NameChart$Parts", "join", "(III)V"⟩, 5), (⟨"NameChart$Parts", "giveNumbers", "(I)V"⟩, 5), (⟨"NameChart", "firstShut", "()I"⟩, 10)]
theorem lw_r1 : ∀ q ∈ lw_privs_1, lw_okq q := List.forall_mem_cons.mpr ⟨lw_p0, List.forall_mem_cons.mpr ⟨lw_p1, List.forall_mem_cons.mpr ⟨lw_p2, List.forall_mem_cons.mpr ⟨lw_p3, List.forall_mem_cons.mpr ⟨lw_p4, List.forall_mem_cons.mpr ⟨lw_p5, List.forall_mem_cons.mpr ⟨lw_p6, List.forall_mem_cons.mpr ⟨lw_p7, List.forall_mem_cons.mpr ⟨lw_p8, List.forall_mem_cons.mpr ⟨lw_p9, List.forall_mem_cons.mpr ⟨lw_p10, List.forall_mem_cons.mpr ⟨lw_p11, List.forall_mem_cons.mpr ⟨lw_p12, List.forall_mem_cons.mpr ⟨lw_p13, List.forall_mem_cons.mpr ⟨lw_p14, List.forall_mem_cons.mpr ⟨lw_p15, fun _ h => absurd h List.not_mem_nil⟩⟩⟩⟩⟩⟩⟩⟩⟩⟩⟩⟩⟩⟩⟩⟩
theorem lw_p16 : lw_okq (⟨"NameChart", "firstClashing", "()I"⟩, 10) := ⟨⟨by decide +kernel, by decide +kernel⟩, List.mem_of_getElem? (i := 15) (by decide +kernel), List.mem_of_getElem? (i := 553) (by decide +kernel), List.mem_of_getElem? (i := 554) (by decide +kernel)⟩
theorem lw_p17 : lw_okq (⟨"NameChart", "firstHit", "(II[I)I"⟩, 10) := ⟨⟨by decide +kernel, by decide +kernel⟩, List.mem_of_getElem? (i := 15) (by decide +kernel), List.mem_of_getElem? (i := 557) (by decide +kernel), List.mem_of_getElem? (i := 558) (by decide +kernel)⟩
theorem lw_p18 : lw_okq (⟨"NameChart", "firstMissing", "()I"⟩, 10) := ⟨⟨by decide +kernel, by decide +kernel⟩, List.mem_of_getElem? (i := 15) (by decide +kernel), List.mem_of_getElem? (i := 562) (by decide +kernel), List.mem_of_getElem? (i := 563) (by decide +kernel)⟩
theorem lw_p19 : lw_okq (⟨"NameChart$Chart", "isServedAhead", "(II)Z"⟩, 11) := ⟨⟨by decide +kernel, by decide +kernel⟩, List.mem_of_getElem? (i := 23) (by decide +kernel), List.mem_of_getElem? (i := 583) (by decide +kernel), List.mem_of_getElem? (i := 584) (by decide +kernel)⟩
theorem lw_p20 : lw_okq (⟨"NameChart$Search", "gatherOptions", "(LNameChart$Chart;LNameChart$Layout;I)V"⟩, 10) := ⟨⟨by decide +kernel, by decide +kernel⟩, List.mem_of_getElem? (i := 192) (by decide +kernel), List.mem_of_getElem? (i := 591) (by decide +kernel), List.mem_of_getElem? (i := 592) (by decide +kernel)⟩
theorem lw_p21 : lw_okq (⟨"NameChart$Search", "gatherBans", "(LNameChart$Chart;LNameChart$Layout;III)V"⟩, 10) := ⟨⟨by decide +kernel, by decide +kernel⟩, List.mem_of_getElem? (i := 192) (by decide +kernel), List.mem_of_getElem? (i := 618) (by decide +kernel), List.mem_of_getElem? (i := 619) (by decide +kernel)⟩
theorem lw_p22 : lw_okq (⟨"NameChart$Search", "descend", "(IJJI)V"⟩, 10) := ⟨⟨by decide +kernel, by decide +kernel⟩, List.mem_of_getElem? (i := 192) (by decide +kernel), List.mem_of_getElem? (i := 629) (by decide +kernel), List.mem_of_getElem? (i := 630) (by decide +kernel)⟩
theorem lw_p23 : lw_okq (⟨"NameChart$Search", "hope", "(IJJ)I"⟩, 10) := ⟨⟨by decide +kernel, by decide +kernel⟩, List.mem_of_getElem? (i := 192) (by decide +kernel), List.mem_of_getElem? (i := 634) (by decide +kernel), List.mem_of_getElem? (i := 635) (by decide +kernel)⟩
theorem lw_p24 : lw_okq (⟨"NameChart$Search", "isBeaten", "(IIIJJ)Z"⟩, 10) := ⟨⟨by decide +kernel, by decide +kernel⟩, List.mem_of_getElem? (i := 192) (by decide +kernel), List.mem_of_getElem? (i := 647) (by decide +kernel), List.mem_of_getElem? (i := 648) (by decide +kernel)⟩
theorem lw_p25 : lw_okq (⟨"NameChart$Search", "firstReaching", "(LNameChart$Chart;II)I"⟩, 10) := ⟨⟨by decide +kernel, by decide +kernel⟩, List.mem_of_getElem? (i := 192) (by decide +kernel), List.mem_of_getElem? (i := 656) (by decide +kernel), List.mem_of_getElem? (i := 657) (by decide +kernel)⟩
theorem lw_p26 : lw_okq (⟨"NameChart$Search", "fixIfReaching", "(III)Z"⟩, 10) := ⟨⟨by decide +kernel, by decide +kernel⟩, List.mem_of_getElem? (i := 192) (by decide +kernel), List.mem_of_getElem? (i := 660) (by decide +kernel), List.mem_of_getElem? (i := 661) (by decide +kernel)⟩
theorem lw_p27 : lw_okq (⟨"NameChart", "takeInHand", "()V"⟩, 10) := ⟨⟨by decide +kernel, by decide +kernel⟩, List.mem_of_getElem? (i := 15) (by decide +kernel), List.mem_of_getElem? (i := 664) (by decide +kernel), List.mem_of_getElem? (i := 665) (by decide +kernel)⟩
theorem lw_p28 : lw_okq (⟨"NameChart", "cheapestWay", "(I[I)I"⟩, 10) := ⟨⟨by decide +kernel, by decide +kernel⟩, List.mem_of_getElem? (i := 15) (by decide +kernel), List.mem_of_getElem? (i := 676) (by decide +kernel), List.mem_of_getElem? (i := 677) (by decide +kernel)⟩
theorem lw_p29 : lw_okq (⟨"NameChart", "leftInHand", "()I"⟩, 10) := ⟨⟨by decide +kernel, by decide +kernel⟩, List.mem_of_getElem? (i := 15) (by decide +kernel), List.mem_of_getElem? (i := 681) (by decide +kernel), List.mem_of_getElem? (i := 682) (by decide +kernel)⟩
theorem lw_p30 : lw_okq (⟨"NameChart$Plan", "settle", "(LNameChart$Chart;I)V"⟩, 6) := ⟨⟨by decide +kernel, by decide +kernel⟩, List.mem_of_getElem? (i := 231) (by decide +kernel), List.mem_of_getElem? (i := 703) (by decide +kernel), List.mem_of_getElem? (i := 704) (by decide +kernel)⟩
theorem lw_p31 : lw_okq (⟨"NameChart$Plan", "fits", "(LNameChart$Chart;III)Z"⟩, 6) := ⟨⟨by decide +kernel, by decide +kernel⟩, List.mem_of_getElem? (i := 231) (by decide +kernel), List.mem_of_getElem? (i := 708) (by decide +kernel), List.mem_of_getElem? (i := 709) (by decide +kernel)⟩
def lw_privs_2 : List (MethodName × Nat) := [(⟨"NameChart", "firstClashing", "()I"⟩, 10), (⟨"NameChart", "firstHit", "(II[I)I"⟩, 10), (⟨"NameChart", "firstMissing", "()I"⟩, 10), (⟨"NameChart$Chart", "isServedAhead", "(II)Z"⟩, 11), (⟨"NameChart$Search", "gatherOptions", "(LNameChart$Chart;LNameChart$Layout;I)V"⟩, 10), (⟨"NameChart$Search", "gatherBans", "(LNameChart$Chart;LNameChart$Layout;III)V"⟩, 10), (⟨"NameChart$Search", "descend", "(IJJI)V"⟩, 10), (⟨"NameChart$Search", "hope", "(IJJ)I"⟩, 10), (⟨"NameChart$Search", "isBeaten", "(IIIJJ)Z"⟩, 10), (⟨"NameChart$Search", "firstReaching", "(LNameChart$Chart;II)I"⟩, 10), (⟨"NameChart$Search", "fixIfReaching", "(III)Z"⟩, 10), (⟨"NameChart", "takeInHand", "()V"⟩, 10), (⟨"NameChart", "cheapestWay", "(I[I)I"⟩, 10), (⟨"NameChart", "leftInHand", "()I"⟩, 10), (⟨"NameChart$Plan", "settle", "(LNameChart$Chart;I)V"⟩, 6), (⟨"NameChart$Plan", "fits", "(LNameChart$Chart;III)Z"⟩, 6)]
theorem lw_r2 : ∀ q ∈ lw_privs_2, lw_okq q := List.forall_mem_cons.mpr ⟨lw_p16, List.forall_mem_cons.mpr ⟨lw_p17, List.forall_mem_cons.mpr ⟨lw_p18, List.forall_mem_cons.mpr ⟨lw_p19, List.forall_mem_cons.mpr ⟨lw_p20, List.forall_mem_cons.mpr ⟨lw_p21, List.forall_mem_cons.mpr ⟨lw_p22, List.forall_mem_cons.mpr ⟨lw_p23, List.forall_mem_cons.mpr ⟨lw_p24, List.forall_mem_cons.mpr ⟨lw_p25, List.forall_mem_cons.mpr ⟨lw_p26, List.forall_mem_cons.mpr ⟨lw_p27, List.forall_mem_cons.mpr ⟨lw_p28, List.forall_mem_cons.mpr ⟨lw_p29, List.forall_mem_cons.mpr ⟨lw_p30, List.forall_mem_cons.mpr ⟨lw_p31, fun _ h => absurd h List.not_mem_nil⟩⟩⟩⟩⟩⟩⟩⟩⟩⟩⟩⟩⟩⟩⟩⟩
theorem lw_p32 : lw_okq (⟨"NameChart", "musts", "()I"⟩, 10) := ⟨⟨by decide +kernel, by decide +kernel⟩, List.mem_of_getElem? (i := 15) (by decide +kernel), List.mem_of_getElem? (i := 746) (by decide +kernel), List.mem_of_getElem? (i := 747) (by decide +kernel)⟩
theorem lw_p33 : lw_okq (⟨"NameChart", "greatestPart", "()I"⟩, 10) := ⟨⟨by decide +kernel, by decide +kernel⟩, List.mem_of_getElem? (i := 15) (by decide +kernel), List.mem_of_getElem? (i := 750) (by decide +kernel), List.mem_of_getElem? (i := 751) (by decide +kernel)⟩
theorem lw_p34 : lw_okq (⟨"NameChartModel", "read", "([II)V"⟩, 38) := ⟨⟨by decide +kernel, by decide +kernel⟩, List.mem_of_getElem? (i := 754) (by decide +kernel), List.mem_of_getElem? (i := 879) (by decide +kernel), List.mem_of_getElem? (i := 880) (by decide +kernel)⟩
theorem lw_p35 : lw_okq (⟨"NameChartModel", "keep", "()V"⟩, 38) := ⟨⟨by decide +kernel, by decide +kernel⟩, List.mem_of_getElem? (i := 754) (by decide +kernel), List.mem_of_getElem? (i := 893) (by decide +kernel), List.mem_of_getElem? (i := 894) (by decide +kernel)⟩
theorem lw_p36 : lw_okq (⟨"NameChartModel", "write", "([II)V"⟩, 38) := ⟨⟨by decide +kernel, by decide +kernel⟩, List.mem_of_getElem? (i := 754) (by decide +kernel), List.mem_of_getElem? (i := 897) (by decide +kernel), List.mem_of_getElem? (i := 898) (by decide +kernel)⟩
theorem lw_p37 : lw_okq (⟨"NameChartModel", "isName", "(I)Z"⟩, 38) := ⟨⟨by decide +kernel, by decide +kernel⟩, List.mem_of_getElem? (i := 754) (by decide +kernel), List.mem_of_getElem? (i := 909) (by decide +kernel), List.mem_of_getElem? (i := 910) (by decide +kernel)⟩
theorem lw_p38 : lw_okq (⟨"NameChartModel", "isWay", "(II)Z"⟩, 38) := ⟨⟨by decide +kernel, by decide +kernel⟩, List.mem_of_getElem? (i := 754) (by decide +kernel), List.mem_of_getElem? (i := 925) (by decide +kernel), List.mem_of_getElem? (i := 926) (by decide +kernel)⟩
theorem lw_p39 : lw_okq (⟨"NameChartModel", "ways", "(I)I"⟩, 38) := ⟨⟨by decide +kernel, by decide +kernel⟩, List.mem_of_getElem? (i := 754) (by decide +kernel), List.mem_of_getElem? (i := 929) (by decide +kernel), List.mem_of_getElem? (i := 930) (by decide +kernel)⟩
theorem lw_p40 : lw_okq (⟨"NameChartModel", "box", "(III)V"⟩, 38) := ⟨⟨by decide +kernel, by decide +kernel⟩, List.mem_of_getElem? (i := 754) (by decide +kernel), List.mem_of_getElem? (i := 933) (by decide +kernel), List.mem_of_getElem? (i := 934) (by decide +kernel)⟩
theorem lw_p41 : lw_okq (⟨"NameChartModel", "isLed", "(II)Z"⟩, 38) := ⟨⟨by decide +kernel, by decide +kernel⟩, List.mem_of_getElem? (i := 754) (by decide +kernel), List.mem_of_getElem? (i := 937) (by decide +kernel), List.mem_of_getElem? (i := 938) (by decide +kernel)⟩
theorem lw_p42 : lw_okq (⟨"NameChartModel", "priceOf", "(II)I"⟩, 38) := ⟨⟨by decide +kernel, by decide +kernel⟩, List.mem_of_getElem? (i := 754) (by decide +kernel), List.mem_of_getElem? (i := 941) (by decide +kernel), List.mem_of_getElem? (i := 942) (by decide +kernel)⟩
theorem lw_p43 : lw_okq (⟨"NameChartModel", "isOpen", "(III)Z"⟩, 38) := ⟨⟨by decide +kernel, by decide +kernel⟩, List.mem_of_getElem? (i := 754) (by decide +kernel), List.mem_of_getElem? (i := 945) (by decide +kernel), List.mem_of_getElem? (i := 946) (by decide +kernel)⟩
theorem lw_p44 : lw_okq (⟨"NameChartModel", "covers", "(II)Z"⟩, 38) := ⟨⟨by decide +kernel, by decide +kernel⟩, List.mem_of_getElem? (i := 754) (by decide +kernel), List.mem_of_getElem? (i := 949) (by decide +kernel), List.mem_of_getElem? (i := 950) (by decide +kernel)⟩
theorem lw_p45 : lw_okq (⟨"NameChartModel", "doClash", "(IIIII)Z"⟩, 38) := ⟨⟨by decide +kernel, by decide +kernel⟩, List.mem_of_getElem? (i := 754) (by decide +kernel), List.mem_of_getElem? (i := 957) (by decide +kernel), List.mem_of_getElem? (i := 958) (by decide +kernel)⟩
theorem lw_p46 : lw_okq (⟨"NameChartModel", "take", "([JIII)V"⟩, 38) := ⟨⟨by decide +kernel, by decide +kernel⟩, List.mem_of_getElem? (i := 754) (by decide +kernel), List.mem_of_getElem? (i := 961) (by decide +kernel), List.mem_of_getElem? (i := 962) (by decide +kernel)⟩
theorem lw_p47 : lw_okq (⟨"NameChartModel", "linesMeet", "()Z"⟩, 38) := ⟨⟨by decide +kernel, by decide +kernel⟩, List.mem_of_getElem? (i := 754) (by decide +kernel), List.mem_of_getElem? (i := 966) (by decide +kernel), List.mem_of_getElem? (i := 967) (by decide +kernel)⟩
def lw_privs_3 : List (MethodName × Nat) := [(⟨"NameChart", "musts", "()I"⟩, 10), (⟨"NameChart", "greatestPart", "()I"⟩, 10), (⟨"NameChartModel", "read", "([II)V"⟩, 38), (⟨"NameChartModel", "keep", "()V"⟩, 38), (⟨"NameChartModel", "write", "([II)V"⟩, 38), (⟨"NameChartModel", "isName", "(I)Z"⟩, 38), (⟨"NameChartModel", "isWay", "(II)Z"⟩, 38), (⟨"NameChartModel", "ways", "(I)I"⟩, 38), (⟨"NameChartModel", "box", "(III)V"⟩, 38), (⟨"NameChartModel", "isLed", "(II)Z"⟩, 38), (⟨"NameChartModel", "priceOf", "(II)I"⟩, 38), (⟨"NameChartModel", "isOpen", "(III)Z"⟩, 38), (⟨"NameChartModel", "covers", "(II)Z"⟩, 38), (⟨"NameChartModel", "doClash", "(IIIII)Z"⟩, 38), (⟨"NameChartModel", "take", "([JIII)V"⟩, 38), (⟨"NameChartModel", "linesMeet", "()Z"⟩, 38)]
theorem lw_r3 : ∀ q ∈ lw_privs_3, lw_okq q := List.forall_mem_cons.mpr ⟨lw_p32, List.forall_mem_cons.mpr ⟨lw_p33, List.forall_mem_cons.mpr ⟨lw_p34, List.forall_mem_cons.mpr ⟨lw_p35, List.forall_mem_cons.mpr ⟨lw_p36, List.forall_mem_cons.mpr ⟨lw_p37, List.forall_mem_cons.mpr ⟨lw_p38, List.forall_mem_cons.mpr ⟨lw_p39, List.forall_mem_cons.mpr ⟨lw_p40, List.forall_mem_cons.mpr ⟨lw_p41, List.forall_mem_cons.mpr ⟨lw_p42, List.forall_mem_cons.mpr ⟨lw_p43, List.forall_mem_cons.mpr ⟨lw_p44, List.forall_mem_cons.mpr ⟨lw_p45, List.forall_mem_cons.mpr ⟨lw_p46, List.forall_mem_cons.mpr ⟨lw_p47, fun _ h => absurd h List.not_mem_nil⟩⟩⟩⟩⟩⟩⟩⟩⟩⟩⟩⟩⟩⟩⟩⟩
theorem lw_p48 : lw_okq (⟨"NameChartModel", "crosses", "([J[J)Z"⟩, 38) := ⟨⟨by decide +kernel, by decide +kernel⟩, List.mem_of_getElem? (i := 754) (by decide +kernel), List.mem_of_getElem? (i := 982) (by decide +kernel), List.mem_of_getElem? (i := 983) (by decide +kernel)⟩
theorem lw_p49 : lw_okq (⟨"NameChartModel", "cut", "(JJJJ)Z"⟩, 38) := ⟨⟨by decide +kernel, by decide +kernel⟩, List.mem_of_getElem? (i := 754) (by decide +kernel), List.mem_of_getElem? (i := 987) (by decide +kernel), List.mem_of_getElem? (i := 988) (by decide +kernel)⟩
theorem lw_p50 : lw_okq (⟨"NameChartModel", "findParts", "()I"⟩, 38) := ⟨⟨by decide +kernel, by decide +kernel⟩, List.mem_of_getElem? (i := 754) (by decide +kernel), List.mem_of_getElem? (i := 999) (by decide +kernel), List.mem_of_getElem? (i := 1000) (by decide +kernel)⟩
theorem lw_p51 : lw_okq (⟨"NameChartModel", "findOpen", "()V"⟩, 38) := ⟨⟨by decide +kernel, by decide +kernel⟩, List.mem_of_getElem? (i := 754) (by decide +kernel), List.mem_of_getElem? (i := 1003) (by decide +kernel), List.mem_of_getElem? (i := 1004) (by decide +kernel)⟩
theorem lw_p52 : lw_okq (⟨"NameChartModel", "touch", "(II)Z"⟩, 38) := ⟨⟨by decide +kernel, by decide +kernel⟩, List.mem_of_getElem? (i := 754) (by decide +kernel), List.mem_of_getElem? (i := 1007) (by decide +kernel), List.mem_of_getElem? (i := 1008) (by decide +kernel)⟩
theorem lw_p53 : lw_okq (⟨"NameChartModel", "clashInHand", "(II)I"⟩, 38) := ⟨⟨by decide +kernel, by decide +kernel⟩, List.mem_of_getElem? (i := 754) (by decide +kernel), List.mem_of_getElem? (i := 1035) (by decide +kernel), List.mem_of_getElem? (i := 1036) (by decide +kernel)⟩
theorem lw_p54 : lw_okq (⟨"NameChartModel", "worthInHand", "()I"⟩, 38) := ⟨⟨by decide +kernel, by decide +kernel⟩, List.mem_of_getElem? (i := 754) (by decide +kernel), List.mem_of_getElem? (i := 1043) (by decide +kernel), List.mem_of_getElem? (i := 1044) (by decide +kernel)⟩
theorem lw_p55 : lw_okq (⟨"NameChartModel", "worthOf", "(II)I"⟩, 38) := ⟨⟨by decide +kernel, by decide +kernel⟩, List.mem_of_getElem? (i := 754) (by decide +kernel), List.mem_of_getElem? (i := 1047) (by decide +kernel), List.mem_of_getElem? (i := 1048) (by decide +kernel)⟩
theorem lw_p56 : lw_okq (⟨"NameChartModel", "most", "()I"⟩, 38) := ⟨⟨by decide +kernel, by decide +kernel⟩, List.mem_of_getElem? (i := 754) (by decide +kernel), List.mem_of_getElem? (i := 1055) (by decide +kernel), List.mem_of_getElem? (i := 1056) (by decide +kernel)⟩
theorem lw_p57 : lw_okq (⟨"NameChartModel", "bestOf", "(I)Z"⟩, 38) := ⟨⟨by decide +kernel, by decide +kernel⟩, List.mem_of_getElem? (i := 754) (by decide +kernel), List.mem_of_getElem? (i := 1059) (by decide +kernel), List.mem_of_getElem? (i := 1060) (by decide +kernel)⟩
theorem lw_p58 : lw_okq (⟨"NameChartModel", "tryFrom", "(II)V"⟩, 38) := ⟨⟨by decide +kernel, by decide +kernel⟩, List.mem_of_getElem? (i := 754) (by decide +kernel), List.mem_of_getElem? (i := 1063) (by decide +kernel), List.mem_of_getElem? (i := 1064) (by decide +kernel)⟩
theorem lw_p59 : lw_okq (⟨"NameChartModel", "fits", "(II)Z"⟩, 38) := ⟨⟨by decide +kernel, by decide +kernel⟩, List.mem_of_getElem? (i := 754) (by decide +kernel), List.mem_of_getElem? (i := 1067) (by decide +kernel), List.mem_of_getElem? (i := 1068) (by decide +kernel)⟩
theorem lw_p60 : lw_okq (⟨"NameChartModel", "findOrder", "()V"⟩, 38) := ⟨⟨by decide +kernel, by decide +kernel⟩, List.mem_of_getElem? (i := 754) (by decide +kernel), List.mem_of_getElem? (i := 1075) (by decide +kernel), List.mem_of_getElem? (i := 1076) (by decide +kernel)⟩
theorem lw_p61 : lw_okq (⟨"NameChartModel", "isAhead", "(II)Z"⟩, 38) := ⟨⟨by decide +kernel, by decide +kernel⟩, List.mem_of_getElem? (i := 754) (by decide +kernel), List.mem_of_getElem? (i := 1079) (by decide +kernel), List.mem_of_getElem? (i := 1080) (by decide +kernel)⟩
theorem lw_p62 : lw_okq (⟨"NameChartModel", "findSteady", "()V"⟩, 38) := ⟨⟨by decide +kernel, by decide +kernel⟩, List.mem_of_getElem? (i := 754) (by decide +kernel), List.mem_of_getElem? (i := 1095) (by decide +kernel), List.mem_of_getElem? (i := 1096) (by decide +kernel)⟩
theorem lw_p63 : lw_okq (⟨"NameChartModel", "isSteady", "(III)Z"⟩, 38) := ⟨⟨by decide +kernel, by decide +kernel⟩, List.mem_of_getElem? (i := 754) (by decide +kernel), List.mem_of_getElem? (i := 1099) (by decide +kernel), List.mem_of_getElem? (i := 1100) (by decide +kernel)⟩
def lw_privs_4 : List (MethodName × Nat) := [(⟨"NameChartModel", "crosses", "([J[J)Z"⟩, 38), (⟨"NameChartModel", "cut", "(JJJJ)Z"⟩, 38), (⟨"NameChartModel", "findParts", "()I"⟩, 38), (⟨"NameChartModel", "findOpen", "()V"⟩, 38), (⟨"NameChartModel", "touch", "(II)Z"⟩, 38), (⟨"NameChartModel", "clashInHand", "(II)I"⟩, 38), (⟨"NameChartModel", "worthInHand", "()I"⟩, 38), (⟨"NameChartModel", "worthOf", "(II)I"⟩, 38), (⟨"NameChartModel", "most", "()I"⟩, 38), (⟨"NameChartModel", "bestOf", "(I)Z"⟩, 38), (⟨"NameChartModel", "tryFrom", "(II)V"⟩, 38), (⟨"NameChartModel", "fits", "(II)Z"⟩, 38), (⟨"NameChartModel", "findOrder", "()V"⟩, 38), (⟨"NameChartModel", "isAhead", "(II)Z"⟩, 38), (⟨"NameChartModel", "findSteady", "()V"⟩, 38), (⟨"NameChartModel", "isSteady", "(III)Z"⟩, 38)]
theorem lw_r4 : ∀ q ∈ lw_privs_4, lw_okq q := List.forall_mem_cons.mpr ⟨lw_p48, List.forall_mem_cons.mpr ⟨lw_p49, List.forall_mem_cons.mpr ⟨lw_p50, List.forall_mem_cons.mpr ⟨lw_p51, List.forall_mem_cons.mpr ⟨lw_p52, List.forall_mem_cons.mpr ⟨lw_p53, List.forall_mem_cons.mpr ⟨lw_p54, List.forall_mem_cons.mpr ⟨lw_p55, List.forall_mem_cons.mpr ⟨lw_p56, List.forall_mem_cons.mpr ⟨lw_p57, List.forall_mem_cons.mpr ⟨lw_p58, List.forall_mem_cons.mpr ⟨lw_p59, List.forall_mem_cons.mpr ⟨lw_p60, List.forall_mem_cons.mpr ⟨lw_p61, List.forall_mem_cons.mpr ⟨lw_p62, List.forall_mem_cons.mpr ⟨lw_p63, fun _ h => absurd h List.not_mem_nil⟩⟩⟩⟩⟩⟩⟩⟩⟩⟩⟩⟩⟩⟩⟩⟩
def lw_privs : List (MethodName × Nat) := lw_privs_1 ++ (lw_privs_2 ++ (lw_privs_3 ++ (lw_privs_4)))
def lw_tbl : List Cond := k2_sels lw_privs ++ tables_1
theorem lw_privs_ok : ∀ q ∈ lw_privs, lw_okq q := by
  show ∀ q ∈ lw_privs_1 ++ (lw_privs_2 ++ (lw_privs_3 ++ (lw_privs_4))), lw_okq q
  exact List.forall_mem_append.mpr ⟨lw_r1, List.forall_mem_append.mpr ⟨lw_r2, List.forall_mem_append.mpr ⟨lw_r3, lw_r4⟩⟩⟩

def RX0 : String := "NameChart$Box"
def TX0 : u_T := fun k => match k with
  | 0 => ("NameChart$Box", "left", "I", false)
  | 1 => ("NameChart$Box", "top", "I", false)
  | 2 => ("NameChart$Box", "right", "I", false)
  | 3 => ("NameChart$Box", "bottom", "I", false)
  | 4 => ("NameChart$Box", "led", "Z", false)
  | 5 => ("NameChart$Box", "fromX", "I", false)
  | 6 => ("NameChart$Box", "fromY", "I", false)
  | 7 => ("NameChart$Box", "toX", "I", false)
  | _ => ("NameChart$Box", "toY", "I", false)
def tyX0 : Nat → FieldType := fun k => match k with
  | 0 => .int
  | 1 => .int
  | 2 => .int
  | 3 => .int
  | 4 => .boolean
  | 5 => .int
  | 6 => .int
  | 7 => .int
  | _ => .int
abbrev wsX00 : List Cond := u_ws RX0 TX0 9
theorem nmX0 : ∀ a, a < 9 → ∀ b, b < 9 → a ≠ b → (TX0 a).2.1 ≠ (TX0 b).2.1 := by decide +kernel
theorem tyX0_ok : ∀ k, k < 9 → parseFieldDescriptor (TX0 k).2.2.1 = some (tyX0 k) := by decide +kernel
abbrev cX0_init : ByteArray := prog_2_method_1_code
def yX0_init : MethodName := ⟨RX0, "<init>", "()V"⟩
abbrev cX0_lay : ByteArray := prog_2_method_2_code
def yX0_lay : MethodName := ⟨RX0, "lay", "(LNameChart$Chart;III)V"⟩
abbrev cX0_start : ByteArray := prog_2_method_3_code
def yX0_start : MethodName := ⟨RX0, "start", "(IIII)I"⟩
abbrev cX0_covers : ByteArray := prog_2_method_4_code
def yX0_covers : MethodName := ⟨RX0, "covers", "(II)Z"⟩
abbrev cX0_overlaps : ByteArray := prog_2_method_5_code
def yX0_overlaps : MethodName := ⟨RX0, "overlaps", "(IIII)Z"⟩
abbrev cX0_isOpen : ByteArray := prog_2_method_6_code
def yX0_isOpen : MethodName := ⟨RX0, "isOpen", "(LNameChart$Chart;I)Z"⟩
abbrev cX0_coversAny : ByteArray := prog_2_method_7_code
def yX0_coversAny : MethodName := ⟨RX0, "coversAny", "([I[III)Z"⟩
abbrev cX0_hits : ByteArray := prog_2_method_8_code
def yX0_hits : MethodName := ⟨RX0, "hits", "(LNameChart$Box;)Z"⟩
abbrev cX0_lineEnters : ByteArray := prog_2_method_9_code
def yX0_lineEnters : MethodName := ⟨RX0, "lineEnters", "(LNameChart$Box;)Z"⟩
abbrev cX0_linesMeet : ByteArray := prog_2_method_10_code
def yX0_linesMeet : MethodName := ⟨RX0, "linesMeet", "(LNameChart$Box;)Z"⟩
abbrev cX0_sideOf : ByteArray := prog_2_method_11_code
def yX0_sideOf : MethodName := ⟨RX0, "sideOf", "(II)I"⟩
def RX1 : String := "NameChart$Chart"
def TX1 : u_T := fun k => match k with
  | 0 => ("NameChart$Chart", "names", "I", false)
  | 1 => ("NameChart$Chart", "dots", "I", false)
  | 2 => ("NameChart$Chart", "kind", "[I", true)
  | 3 => ("NameChart$Chart", "x", "[I", true)
  | 4 => ("NameChart$Chart", "y", "[I", true)
  | 5 => ("NameChart$Chart", "wide", "[I", true)
  | 6 => ("NameChart$Chart", "high", "[I", true)
  | 7 => ("NameChart$Chart", "weight", "[I", true)
  | 8 => ("NameChart$Chart", "hand", "[I", true)
  | 9 => ("NameChart$Chart", "dotX", "[I", true)
  | _ => ("NameChart$Chart", "dotY", "[I", true)
def tyX1 : Nat → FieldType := fun k => match k with
  | 0 => .int
  | 1 => .int
  | 2 => .array .int
  | 3 => .array .int
  | 4 => .array .int
  | 5 => .array .int
  | 6 => .array .int
  | 7 => .array .int
  | 8 => .array .int
  | 9 => .array .int
  | _ => .array .int
abbrev wsX10 : List Cond := u_ws RX1 TX1 11
theorem nmX1 : ∀ a, a < 11 → ∀ b, b < 11 → a ≠ b → (TX1 a).2.1 ≠ (TX1 b).2.1 := by decide +kernel
theorem tyX1_ok : ∀ k, k < 11 → parseFieldDescriptor (TX1 k).2.2.1 = some (tyX1 k) := by decide +kernel
abbrev cX1_init : ByteArray := prog_3_method_1_code
def yX1_init : MethodName := ⟨RX1, "<init>", "()V"⟩
abbrev cX1_copyFrom : ByteArray := prog_3_method_2_code
def yX1_copyFrom : MethodName := ⟨RX1, "copyFrom", "(LNameChart$Chart;)V"⟩
abbrev cX1_addName : ByteArray := prog_3_method_3_code
def yX1_addName : MethodName := ⟨RX1, "addName", "(III)I"⟩
abbrev cX1_addDot : ByteArray := prog_3_method_4_code
def yX1_addDot : MethodName := ⟨RX1, "addDot", "(II)I"⟩
abbrev cX1_has : ByteArray := prog_3_method_5_code
def yX1_has : MethodName := ⟨RX1, "has", "(I)Z"⟩
abbrev cX1_hasWay : ByteArray := prog_3_method_6_code
def yX1_hasWay : MethodName := ⟨RX1, "hasWay", "(II)Z"⟩
abbrev cX1_waysOf : ByteArray := prog_3_method_7_code
def yX1_waysOf : MethodName := ⟨RX1, "waysOf", "(I)I"⟩
abbrev cX1_isOfKind : ByteArray := prog_3_method_8_code
def yX1_isOfKind : MethodName := ⟨RX1, "isOfKind", "(II)Z"⟩
abbrev cX1_priceOf : ByteArray := prog_3_method_9_code
def yX1_priceOf : MethodName := ⟨RX1, "priceOf", "(II)I"⟩
abbrev cX1_wayByPrice : ByteArray := prog_3_method_10_code
def yX1_wayByPrice : MethodName := ⟨RX1, "wayByPrice", "(II)I"⟩
abbrev cX1_rankOf : ByteArray := prog_3_method_11_code
def yX1_rankOf : MethodName := ⟨RX1, "rankOf", "(II)I"⟩
abbrev cX1_gainOf : ByteArray := prog_3_method_12_code
def yX1_gainOf : MethodName := ⟨RX1, "gainOf", "(II)I"⟩
abbrev cX1_areNear : ByteArray := prog_3_method_13_code
def yX1_areNear : MethodName := ⟨RX1, "areNear", "(II)Z"⟩
abbrev cX1_reachAcross : ByteArray := prog_3_method_14_code
def yX1_reachAcross : MethodName := ⟨RX1, "reachAcross", "(I)I"⟩
abbrev cX1_reachDown : ByteArray := prog_3_method_15_code
def yX1_reachDown : MethodName := ⟨RX1, "reachDown", "(I)I"⟩
abbrev cX1_queue : ByteArray := prog_3_method_16_code
def yX1_queue : MethodName := ⟨RX1, "queue", "([I)V"⟩
abbrev cX1_isServedAhead : ByteArray := prog_3_method_17_code
def yX1_isServedAhead : MethodName := ⟨RX1, "isServedAhead", "(II)Z"⟩
def RX2 : String := "NameChart$History"
def TX2 : u_T := fun k => match k with
  | 0 => ("NameChart$History", "ring", "[LNameChart$Chart;", true)
  | 1 => ("NameChart$History", "next", "I", false)
  | _ => ("NameChart$History", "held", "I", false)
def tyX2 : Nat → FieldType := fun k => match k with
  | 0 => .array (.object "NameChart$Chart")
  | 1 => .int
  | _ => .int
abbrev wsX20 : List Cond := u_ws RX2 TX2 3
theorem nmX2 : ∀ a, a < 3 → ∀ b, b < 3 → a ≠ b → (TX2 a).2.1 ≠ (TX2 b).2.1 := by decide +kernel
theorem tyX2_ok : ∀ k, k < 3 → parseFieldDescriptor (TX2 k).2.2.1 = some (tyX2 k) := by decide +kernel
abbrev cX2_init : ByteArray := prog_4_method_1_code
def yX2_init : MethodName := ⟨RX2, "<init>", "()V"⟩
abbrev cX2_keep : ByteArray := prog_4_method_2_code
def yX2_keep : MethodName := ⟨RX2, "keep", "(LNameChart$Chart;)V"⟩
abbrev cX2_takeBack : ByteArray := prog_4_method_3_code
def yX2_takeBack : MethodName := ⟨RX2, "takeBack", "(LNameChart$Chart;)V"⟩
def RX3 : String := "NameChart$Layout"
def TX3 : u_T := fun k => match k with
  | 0 => ("NameChart$Layout", "boxes", "[LNameChart$Box;", true)
  | 1 => ("NameChart$Layout", "open", "[I", true)
  | _ => ("NameChart$Layout", "fresh", "Z", false)
def tyX3 : Nat → FieldType := fun k => match k with
  | 0 => .array (.object "NameChart$Box")
  | 1 => .array .int
  | _ => .boolean
abbrev wsX30 : List Cond := u_ws RX3 TX3 3
theorem nmX3 : ∀ a, a < 3 → ∀ b, b < 3 → a ≠ b → (TX3 a).2.1 ≠ (TX3 b).2.1 := by decide +kernel
theorem tyX3_ok : ∀ k, k < 3 → parseFieldDescriptor (TX3 k).2.2.1 = some (tyX3 k) := by decide +kernel
abbrev cX3_init : ByteArray := prog_5_method_1_code
def yX3_init : MethodName := ⟨RX3, "<init>", "()V"⟩
abbrev cX3_refresh : ByteArray := prog_5_method_2_code
def yX3_refresh : MethodName := ⟨RX3, "refresh", "(LNameChart$Chart;)V"⟩
abbrev cX3_boxOf : ByteArray := prog_5_method_3_code
def yX3_boxOf : MethodName := ⟨RX3, "boxOf", "(II)LNameChart$Box;"⟩
abbrev cX3_isOpen : ByteArray := prog_5_method_4_code
def yX3_isOpen : MethodName := ⟨RX3, "isOpen", "(II)Z"⟩
abbrev cX3_openHits : ByteArray := prog_5_method_5_code
def yX3_openHits : MethodName := ⟨RX3, "openHits", "(III)I"⟩
abbrev cX3_openWaysClash : ByteArray := prog_5_method_6_code
def yX3_openWaysClash : MethodName := ⟨RX3, "openWaysClash", "(II)Z"⟩
def RX4 : String := "NameChart$Parts"
def TX4 : u_T := fun k => match k with
  | 0 => ("NameChart$Parts", "of", "[I", true)
  | 1 => ("NameChart$Parts", "members", "[I", true)
  | 2 => ("NameChart$Parts", "found", "I", false)
  | 3 => ("NameChart$Parts", "greatest", "I", false)
  | _ => ("NameChart$Parts", "fresh", "Z", false)
def tyX4 : Nat → FieldType := fun k => match k with
  | 0 => .array .int
  | 1 => .array .int
  | 2 => .int
  | 3 => .int
  | _ => .boolean
abbrev wsX40 : List Cond := u_ws RX4 TX4 5
theorem nmX4 : ∀ a, a < 5 → ∀ b, b < 5 → a ≠ b → (TX4 a).2.1 ≠ (TX4 b).2.1 := by decide +kernel
theorem tyX4_ok : ∀ k, k < 5 → parseFieldDescriptor (TX4 k).2.2.1 = some (tyX4 k) := by decide +kernel
abbrev cX4_init : ByteArray := prog_6_method_1_code
def yX4_init : MethodName := ⟨RX4, "<init>", "()V"⟩
abbrev cX4_refresh : ByteArray := prog_6_method_2_code
def yX4_refresh : MethodName := ⟨RX4, "refresh", "(LNameChart$Chart;LNameChart$Layout;)V"⟩
abbrev cX4_joinBack : ByteArray := prog_6_method_3_code
def yX4_joinBack : MethodName := ⟨RX4, "joinBack", "(LNameChart$Chart;LNameChart$Layout;I)V"⟩
abbrev cX4_join : ByteArray := prog_6_method_4_code
def yX4_join : MethodName := ⟨RX4, "join", "(III)V"⟩
abbrev cX4_giveNumbers : ByteArray := prog_6_method_5_code
def yX4_giveNumbers : MethodName := ⟨RX4, "giveNumbers", "(I)V"⟩
def RX5 : String := "NameChart$Plan"
def TX5 : u_T := fun k => match k with
  | 0 => ("NameChart$Plan", "from", "[I", true)
  | 1 => ("NameChart$Plan", "by", "[I", true)
  | 2 => ("NameChart$Plan", "order", "[I", true)
  | 3 => ("NameChart$Plan", "box", "LNameChart$Box;", true)
  | 4 => ("NameChart$Plan", "second", "LNameChart$Box;", true)
  | _ => ("NameChart$Plan", "fresh", "Z", false)
def tyX5 : Nat → FieldType := fun k => match k with
  | 0 => .array .int
  | 1 => .array .int
  | 2 => .array .int
  | 3 => .object "NameChart$Box"
  | 4 => .object "NameChart$Box"
  | _ => .boolean
abbrev wsX50 : List Cond := u_ws RX5 TX5 6
theorem nmX5 : ∀ a, a < 6 → ∀ b, b < 6 → a ≠ b → (TX5 a).2.1 ≠ (TX5 b).2.1 := by decide +kernel
theorem tyX5_ok : ∀ k, k < 6 → parseFieldDescriptor (TX5 k).2.2.1 = some (tyX5 k) := by decide +kernel
abbrev cX5_init : ByteArray := prog_7_method_1_code
def yX5_init : MethodName := ⟨RX5, "<init>", "()V"⟩
abbrev cX5_refresh : ByteArray := prog_7_method_2_code
def yX5_refresh : MethodName := ⟨RX5, "refresh", "(LNameChart$Chart;)V"⟩
abbrev cX5_isThere : ByteArray := prog_7_method_3_code
def yX5_isThere : MethodName := ⟨RX5, "isThere", "(II)Z"⟩
abbrev cX5_settle : ByteArray := prog_7_method_4_code
def yX5_settle : MethodName := ⟨RX5, "settle", "(LNameChart$Chart;I)V"⟩
abbrev cX5_fits : ByteArray := prog_7_method_5_code
def yX5_fits : MethodName := ⟨RX5, "fits", "(LNameChart$Chart;III)Z"⟩
def RX6 : String := "NameChart$Search"
def TX6 : u_T := fun k => match k with
  | 0 => ("NameChart$Search", "member", "[I", true)
  | 1 => ("NameChart$Search", "must", "[Z", true)
  | 2 => ("NameChart$Search", "gain", "[I", true)
  | 3 => ("NameChart$Search", "banFront", "[J", true)
  | 4 => ("NameChart$Search", "banBack", "[J", true)
  | 5 => ("NameChart$Search", "members", "I", false)
  | 6 => ("NameChart$Search", "openFront", "J", false)
  | 7 => ("NameChart$Search", "openBack", "J", false)
  | 8 => ("NameChart$Search", "most", "I", false)
  | _ => ("NameChart$Search", "goal", "I", false)
def tyX6 : Nat → FieldType := fun k => match k with
  | 0 => .array .int
  | 1 => .array .boolean
  | 2 => .array .int
  | 3 => .array .long
  | 4 => .array .long
  | 5 => .int
  | 6 => .long
  | 7 => .long
  | 8 => .int
  | _ => .int
abbrev wsX60 : List Cond := u_ws RX6 TX6 10
theorem nmX6 : ∀ a, a < 10 → ∀ b, b < 10 → a ≠ b → (TX6 a).2.1 ≠ (TX6 b).2.1 := by decide +kernel
theorem tyX6_ok : ∀ k, k < 10 → parseFieldDescriptor (TX6 k).2.2.1 = some (tyX6 k) := by decide +kernel
abbrev cX6_init : ByteArray := prog_8_method_1_code
def yX6_init : MethodName := ⟨RX6, "<init>", "()V"⟩
abbrev cX6_seat : ByteArray := prog_8_method_2_code
def yX6_seat : MethodName := ⟨RX6, "seat", "(LNameChart$Chart;LNameChart$Layout;LNameChart$Parts;I[I)V"⟩
abbrev cX6_mostWorth : ByteArray := prog_8_method_3_code
def yX6_mostWorth : MethodName := ⟨RX6, "mostWorth", "()I"⟩
abbrev cX6_pickFirst : ByteArray := prog_8_method_4_code
def yX6_pickFirst : MethodName := ⟨RX6, "pickFirst", "(LNameChart$Chart;I[I)V"⟩
abbrev cX6_firstReaching : ByteArray := prog_8_method_5_code
def yX6_firstReaching : MethodName := ⟨RX6, "firstReaching", "(LNameChart$Chart;II)I"⟩
abbrev cX6_fixIfReaching : ByteArray := prog_8_method_6_code
def yX6_fixIfReaching : MethodName := ⟨RX6, "fixIfReaching", "(III)Z"⟩
abbrev cX6_gatherOptions : ByteArray := prog_8_method_7_code
def yX6_gatherOptions : MethodName := ⟨RX6, "gatherOptions", "(LNameChart$Chart;LNameChart$Layout;I)V"⟩
abbrev cX6_gatherBans : ByteArray := prog_8_method_8_code
def yX6_gatherBans : MethodName := ⟨RX6, "gatherBans", "(LNameChart$Chart;LNameChart$Layout;III)V"⟩
abbrev cX6_byRank : ByteArray := prog_8_method_9_code
def yX6_byRank : MethodName := ⟨RX6, "byRank", "(LNameChart$Chart;II)I"⟩
abbrev cX6_inFront : ByteArray := prog_8_method_10_code
def yX6_inFront : MethodName := ⟨RX6, "inFront", "(II)J"⟩
abbrev cX6_inBack : ByteArray := prog_8_method_11_code
def yX6_inBack : MethodName := ⟨RX6, "inBack", "(II)J"⟩
abbrev cX6_bitsOf : ByteArray := prog_8_method_12_code
def yX6_bitsOf : MethodName := ⟨RX6, "bitsOf", "(IJJ)I"⟩
abbrev cX6_descend : ByteArray := prog_8_method_13_code
def yX6_descend : MethodName := ⟨RX6, "descend", "(IJJI)V"⟩
abbrev cX6_hope : ByteArray := prog_8_method_14_code
def yX6_hope : MethodName := ⟨RX6, "hope", "(IJJ)I"⟩
abbrev cX6_isBeaten : ByteArray := prog_8_method_15_code
def yX6_isBeaten : MethodName := ⟨RX6, "isBeaten", "(IIIJJ)Z"⟩
def RX7 : String := "NameChart"
def TX7 : u_T := fun k => match k with
  | 0 => ("NameChart", "chart", "LNameChart$Chart;", true)
  | 1 => ("NameChart", "history", "LNameChart$History;", true)
  | 2 => ("NameChart", "layout", "LNameChart$Layout;", true)
  | 3 => ("NameChart", "split", "LNameChart$Parts;", true)
  | 4 => ("NameChart", "search", "LNameChart$Search;", true)
  | 5 => ("NameChart", "plan", "LNameChart$Plan;", true)
  | 6 => ("NameChart", "box", "LNameChart$Box;", true)
  | 7 => ("NameChart", "second", "LNameChart$Box;", true)
  | 8 => ("NameChart", "given", "[I", true)
  | _ => ("NameChart", "order", "[I", true)
def tyX7 : Nat → FieldType := fun k => match k with
  | 0 => .object "NameChart$Chart"
  | 1 => .object "NameChart$History"
  | 2 => .object "NameChart$Layout"
  | 3 => .object "NameChart$Parts"
  | 4 => .object "NameChart$Search"
  | 5 => .object "NameChart$Plan"
  | 6 => .object "NameChart$Box"
  | 7 => .object "NameChart$Box"
  | 8 => .array .int
  | _ => .array .int
abbrev wsX70 : List Cond := u_ws RX7 TX7 10
theorem nmX7 : ∀ a, a < 10 → ∀ b, b < 10 → a ≠ b → (TX7 a).2.1 ≠ (TX7 b).2.1 := by decide +kernel
theorem tyX7_ok : ∀ k, k < 10 → parseFieldDescriptor (TX7 k).2.2.1 = some (tyX7 k) := by decide +kernel
abbrev cX7_init : ByteArray := prog_1_method_1_code
def yX7_init : MethodName := ⟨RX7, "<init>", "()V"⟩
abbrev cX7_name : ByteArray := prog_1_method_2_code
def yX7_name : MethodName := ⟨RX7, "name", "(III)I"⟩
abbrev cX7_dot : ByteArray := prog_1_method_3_code
def yX7_dot : MethodName := ⟨RX7, "dot", "(II)I"⟩
abbrev cX7_move : ByteArray := prog_1_method_4_code
def yX7_move : MethodName := ⟨RX7, "move", "(III)I"⟩
abbrev cX7_weigh : ByteArray := prog_1_method_5_code
def yX7_weigh : MethodName := ⟨RX7, "weigh", "(II)I"⟩
abbrev cX7_size : ByteArray := prog_1_method_6_code
def yX7_size : MethodName := ⟨RX7, "size", "(III)I"⟩
abbrev cX7_about : ByteArray := prog_1_method_7_code
def yX7_about : MethodName := ⟨RX7, "about", "(II)I"⟩
abbrev cX7_isOf : ByteArray := prog_1_method_8_code
def yX7_isOf : MethodName := ⟨RX7, "isOf", "(II)I"⟩
abbrev cX7_way : ByteArray := prog_1_method_9_code
def yX7_way : MethodName := ⟨RX7, "way", "(IIII)I"⟩
abbrev cX7_clash : ByteArray := prog_1_method_10_code
def yX7_clash : MethodName := ⟨RX7, "clash", "(IIIII)I"⟩
abbrev cX7_clashes : ByteArray := prog_1_method_11_code
def yX7_clashes : MethodName := ⟨RX7, "clashes", "(II)I"⟩
abbrev cX7_parts : ByteArray := prog_1_method_12_code
def yX7_parts : MethodName := ⟨RX7, "parts", "()I"⟩
abbrev cX7_set : ByteArray := prog_1_method_13_code
def yX7_set : MethodName := ⟨RX7, "set", "(II)I"⟩
abbrev cX7_free : ByteArray := prog_1_method_14_code
def yX7_free : MethodName := ⟨RX7, "free", "(I)I"⟩
abbrev cX7_chosen : ByteArray := prog_1_method_15_code
def yX7_chosen : MethodName := ⟨RX7, "chosen", "(I)I"⟩
abbrev cX7_check : ByteArray := prog_1_method_16_code
def yX7_check : MethodName := ⟨RX7, "check", "()I"⟩
abbrev cX7_worth : ByteArray := prog_1_method_17_code
def yX7_worth : MethodName := ⟨RX7, "worth", "()I"⟩
abbrev cX7_best : ByteArray := prog_1_method_18_code
def yX7_best : MethodName := ⟨RX7, "best", "()I"⟩
abbrev cX7_quick : ByteArray := prog_1_method_19_code
def yX7_quick : MethodName := ⟨RX7, "quick", "()I"⟩
abbrev cX7_why : ByteArray := prog_1_method_20_code
def yX7_why : MethodName := ⟨RX7, "why", "(II)I"⟩
abbrev cX7_slack : ByteArray := prog_1_method_21_code
def yX7_slack : MethodName := ⟨RX7, "slack", "()I"⟩
abbrev cX7_steady : ByteArray := prog_1_method_22_code
def yX7_steady : MethodName := ⟨RX7, "steady", "(II)I"⟩
abbrev cX7_there : ByteArray := prog_1_method_23_code
def yX7_there : MethodName := ⟨RX7, "there", "(I)I"⟩
abbrev cX7_at : ByteArray := prog_1_method_24_code
def yX7_at : MethodName := ⟨RX7, "at", "(II)I"⟩
abbrev cX7_find : ByteArray := prog_1_method_25_code
def yX7_find : MethodName := ⟨RX7, "find", "(IIIII)I"⟩
abbrev cX7_undo : ByteArray := prog_1_method_26_code
def yX7_undo : MethodName := ⟨RX7, "undo", "()I"⟩
abbrev cX7_count : ByteArray := prog_1_method_27_code
def yX7_count : MethodName := ⟨RX7, "count", "(I)I"⟩
abbrev cX7_within : ByteArray := prog_1_method_28_code
def yX7_within : MethodName := ⟨RX7, "within", "(III)Z"⟩
abbrev cX7_isPlace : ByteArray := prog_1_method_29_code
def yX7_isPlace : MethodName := ⟨RX7, "isPlace", "(II)Z"⟩
abbrev cX7_isKind : ByteArray := prog_1_method_30_code
def yX7_isKind : MethodName := ⟨RX7, "isKind", "(I)Z"⟩
abbrev cX7_isZoom : ByteArray := prog_1_method_31_code
def yX7_isZoom : MethodName := ⟨RX7, "isZoom", "(I)Z"⟩
abbrev cX7_yes : ByteArray := prog_1_method_32_code
def yX7_yes : MethodName := ⟨RX7, "yes", "(Z)I"⟩
abbrev cX7_redraw : ByteArray := prog_1_method_33_code
def yX7_redraw : MethodName := ⟨RX7, "redraw", "()V"⟩
abbrev cX7_forgetDrawing : ByteArray := prog_1_method_34_code
def yX7_forgetDrawing : MethodName := ⟨RX7, "forgetDrawing", "()V"⟩
abbrev cX7_layOut : ByteArray := prog_1_method_35_code
def yX7_layOut : MethodName := ⟨RX7, "layOut", "()V"⟩
abbrev cX7_splitUp : ByteArray := prog_1_method_36_code
def yX7_splitUp : MethodName := ⟨RX7, "splitUp", "()V"⟩
abbrev cX7_openWays : ByteArray := prog_1_method_37_code
def yX7_openWays : MethodName := ⟨RX7, "openWays", "(I)I"⟩
abbrev cX7_partOf : ByteArray := prog_1_method_38_code
def yX7_partOf : MethodName := ⟨RX7, "partOf", "(I)I"⟩
abbrev cX7_greatestPart : ByteArray := prog_1_method_39_code
def yX7_greatestPart : MethodName := ⟨RX7, "greatestPart", "()I"⟩
abbrev cX7_musts : ByteArray := prog_1_method_40_code
def yX7_musts : MethodName := ⟨RX7, "musts", "()I"⟩
abbrev cX7_leftInHand : ByteArray := prog_1_method_41_code
def yX7_leftInHand : MethodName := ⟨RX7, "leftInHand", "()I"⟩
abbrev cX7_takeInHand : ByteArray := prog_1_method_42_code
def yX7_takeInHand : MethodName := ⟨RX7, "takeInHand", "()V"⟩
abbrev cX7_firstShut : ByteArray := prog_1_method_43_code
def yX7_firstShut : MethodName := ⟨RX7, "firstShut", "()I"⟩
abbrev cX7_firstClashing : ByteArray := prog_1_method_44_code
def yX7_firstClashing : MethodName := ⟨RX7, "firstClashing", "()I"⟩
abbrev cX7_firstMissing : ByteArray := prog_1_method_45_code
def yX7_firstMissing : MethodName := ⟨RX7, "firstMissing", "()I"⟩
abbrev cX7_firstHit : ByteArray := prog_1_method_46_code
def yX7_firstHit : MethodName := ⟨RX7, "firstHit", "(II[I)I"⟩
abbrev cX7_cheapestWay : ByteArray := prog_1_method_47_code
def yX7_cheapestWay : MethodName := ⟨RX7, "cheapestWay", "(I[I)I"⟩
def RX8 : String := "NameChartModel"
def TX8 : u_T := fun k => match k with
  | 0 => ("NameChartModel", "thrown", "I", false)
  | 1 => ("NameChartModel", "names", "I", false)
  | 2 => ("NameChartModel", "dots", "I", false)
  | 3 => ("NameChartModel", "kind", "[I", true)
  | 4 => ("NameChartModel", "px", "[I", true)
  | 5 => ("NameChartModel", "py", "[I", true)
  | 6 => ("NameChartModel", "wide", "[I", true)
  | 7 => ("NameChartModel", "high", "[I", true)
  | 8 => ("NameChartModel", "weight", "[I", true)
  | 9 => ("NameChartModel", "chosen", "[I", true)
  | 10 => ("NameChartModel", "dotX", "[I", true)
  | 11 => ("NameChartModel", "dotY", "[I", true)
  | 12 => ("NameChartModel", "old", "[I", true)
  | 13 => ("NameChartModel", "keptEnd", "I", false)
  | 14 => ("NameChartModel", "kept", "I", false)
  | 15 => ("NameChartModel", "pen", "I", false)
  | 16 => ("NameChartModel", "left", "I", false)
  | 17 => ("NameChartModel", "top", "I", false)
  | 18 => ("NameChartModel", "boxWide", "I", false)
  | 19 => ("NameChartModel", "boxHigh", "I", false)
  | 20 => ("NameChartModel", "one", "[J", true)
  | 21 => ("NameChartModel", "two", "[J", true)
  | 22 => ("NameChartModel", "fromUp", "J", false)
  | 23 => ("NameChartModel", "fromDown", "J", false)
  | 24 => ("NameChartModel", "toUp", "J", false)
  | 25 => ("NameChartModel", "toDown", "J", false)
  | 26 => ("NameChartModel", "part", "[I", true)
  | 27 => ("NameChartModel", "open", "[Z", true)
  | 28 => ("NameChartModel", "member", "[I", true)
  | 29 => ("NameChartModel", "members", "I", false)
  | 30 => ("NameChartModel", "tried", "[I", true)
  | 31 => ("NameChartModel", "best", "[I", true)
  | 32 => ("NameChartModel", "bestWorth", "I", false)
  | 33 => ("NameChartModel", "canBe", "[I", true)
  | 34 => ("NameChartModel", "all", "[I", true)
  | 35 => ("NameChartModel", "order", "[I", true)
  | 36 => ("NameChartModel", "zooms", "[I", true)
  | _ => ("NameChartModel", "zoomWays", "[I", true)
def tyX8 : Nat → FieldType := fun k => match k with
  | 0 => .int
  | 1 => .int
  | 2 => .int
  | 3 => .array .int
  | 4 => .array .int
  | 5 => .array .int
  | 6 => .array .int
  | 7 => .array .int
  | 8 => .array .int
  | 9 => .array .int
  | 10 => .array .int
  | 11 => .array .int
  | 12 => .array .int
  | 13 => .int
  | 14 => .int
  | 15 => .int
  | 16 => .int
  | 17 => .int
  | 18 => .int
  | 19 => .int
  | 20 => .array .long
  | 21 => .array .long
  | 22 => .long
  | 23 => .long
  | 24 => .long
  | 25 => .long
  | 26 => .array .int
  | 27 => .array .boolean
  | 28 => .array .int
  | 29 => .int
  | 30 => .array .int
  | 31 => .array .int
  | 32 => .int
  | 33 => .array .int
  | 34 => .array .int
  | 35 => .array .int
  | 36 => .array .int
  | _ => .array .int
abbrev wsX80 : List Cond := u_ws RX8 TX8 38
theorem nmX8 : ∀ a, a < 38 → ∀ b, b < 38 → a ≠ b → (TX8 a).2.1 ≠ (TX8 b).2.1 := by decide +kernel
theorem tyX8_ok : ∀ k, k < 38 → parseFieldDescriptor (TX8 k).2.2.1 = some (tyX8 k) := by decide +kernel
abbrev cX8_init : ByteArray := prog_10_method_1_code
def yX8_init : MethodName := ⟨RX8, "<init>", "()V"⟩
abbrev cX8_in : ByteArray := prog_10_method_3_code
def yX8_in : MethodName := ⟨RX8, "in", "(III)Z"⟩
abbrev cX8_write : ByteArray := prog_10_method_4_code
def yX8_write : MethodName := ⟨RX8, "write", "([II)V"⟩
abbrev cX8_read : ByteArray := prog_10_method_5_code
def yX8_read : MethodName := ⟨RX8, "read", "([II)V"⟩
abbrev cX8_keep : ByteArray := prog_10_method_6_code
def yX8_keep : MethodName := ⟨RX8, "keep", "()V"⟩
abbrev cX8_undo : ByteArray := prog_10_method_7_code
def yX8_undo : MethodName := ⟨RX8, "undo", "()I"⟩
abbrev cX8_isPlace : ByteArray := prog_10_method_8_code
def yX8_isPlace : MethodName := ⟨RX8, "isPlace", "(II)Z"⟩
abbrev cX8_isName : ByteArray := prog_10_method_9_code
def yX8_isName : MethodName := ⟨RX8, "isName", "(I)Z"⟩
abbrev cX8_name : ByteArray := prog_10_method_10_code
def yX8_name : MethodName := ⟨RX8, "name", "(III)I"⟩
abbrev cX8_dot : ByteArray := prog_10_method_11_code
def yX8_dot : MethodName := ⟨RX8, "dot", "(II)I"⟩
abbrev cX8_move : ByteArray := prog_10_method_12_code
def yX8_move : MethodName := ⟨RX8, "move", "(III)I"⟩
abbrev cX8_weigh : ByteArray := prog_10_method_13_code
def yX8_weigh : MethodName := ⟨RX8, "weigh", "(II)I"⟩
abbrev cX8_size : ByteArray := prog_10_method_14_code
def yX8_size : MethodName := ⟨RX8, "size", "(III)I"⟩
abbrev cX8_ways : ByteArray := prog_10_method_15_code
def yX8_ways : MethodName := ⟨RX8, "ways", "(I)I"⟩
abbrev cX8_isLed : ByteArray := prog_10_method_16_code
def yX8_isLed : MethodName := ⟨RX8, "isLed", "(II)Z"⟩
abbrev cX8_box : ByteArray := prog_10_method_17_code
def yX8_box : MethodName := ⟨RX8, "box", "(III)V"⟩
abbrev cX8_priceOf : ByteArray := prog_10_method_18_code
def yX8_priceOf : MethodName := ⟨RX8, "priceOf", "(II)I"⟩
abbrev cX8_covers : ByteArray := prog_10_method_19_code
def yX8_covers : MethodName := ⟨RX8, "covers", "(II)Z"⟩
abbrev cX8_isOpen : ByteArray := prog_10_method_20_code
def yX8_isOpen : MethodName := ⟨RX8, "isOpen", "(III)Z"⟩
abbrev cX8_take : ByteArray := prog_10_method_21_code
def yX8_take : MethodName := ⟨RX8, "take", "([JIII)V"⟩
abbrev cX8_signOf : ByteArray := prog_10_method_22_code
def yX8_signOf : MethodName := ⟨RX8, "signOf", "(J)I"⟩
abbrev cX8_side : ByteArray := prog_10_method_23_code
def yX8_side : MethodName := ⟨RX8, "side", "([JII[JI)I"⟩
abbrev cX8_isBetween : ByteArray := prog_10_method_24_code
def yX8_isBetween : MethodName := ⟨RX8, "isBetween", "(JJJ)Z"⟩
abbrev cX8_isOn : ByteArray := prog_10_method_25_code
def yX8_isOn : MethodName := ⟨RX8, "isOn", "([J[JI)Z"⟩
abbrev cX8_linesMeet : ByteArray := prog_10_method_26_code
def yX8_linesMeet : MethodName := ⟨RX8, "linesMeet", "()Z"⟩
abbrev cX8_cut : ByteArray := prog_10_method_27_code
def yX8_cut : MethodName := ⟨RX8, "cut", "(JJJJ)Z"⟩
abbrev cX8_crosses : ByteArray := prog_10_method_28_code
def yX8_crosses : MethodName := ⟨RX8, "crosses", "([J[J)Z"⟩
abbrev cX8_doClash : ByteArray := prog_10_method_29_code
def yX8_doClash : MethodName := ⟨RX8, "doClash", "(IIIII)Z"⟩
abbrev cX8_isWay : ByteArray := prog_10_method_30_code
def yX8_isWay : MethodName := ⟨RX8, "isWay", "(II)Z"⟩
abbrev cX8_way : ByteArray := prog_10_method_31_code
def yX8_way : MethodName := ⟨RX8, "way", "(IIII)I"⟩
abbrev cX8_clash : ByteArray := prog_10_method_32_code
def yX8_clash : MethodName := ⟨RX8, "clash", "(IIIII)I"⟩
abbrev cX8_clashes : ByteArray := prog_10_method_33_code
def yX8_clashes : MethodName := ⟨RX8, "clashes", "(II)I"⟩
abbrev cX8_findOpen : ByteArray := prog_10_method_34_code
def yX8_findOpen : MethodName := ⟨RX8, "findOpen", "()V"⟩
abbrev cX8_touch : ByteArray := prog_10_method_35_code
def yX8_touch : MethodName := ⟨RX8, "touch", "(II)Z"⟩
abbrev cX8_findParts : ByteArray := prog_10_method_36_code
def yX8_findParts : MethodName := ⟨RX8, "findParts", "()I"⟩
abbrev cX8_parts : ByteArray := prog_10_method_37_code
def yX8_parts : MethodName := ⟨RX8, "parts", "()I"⟩
abbrev cX8_most : ByteArray := prog_10_method_38_code
def yX8_most : MethodName := ⟨RX8, "most", "()I"⟩
abbrev cX8_about : ByteArray := prog_10_method_39_code
def yX8_about : MethodName := ⟨RX8, "about", "(II)I"⟩
abbrev cX8_isOf : ByteArray := prog_10_method_40_code
def yX8_isOf : MethodName := ⟨RX8, "isOf", "(II)I"⟩
abbrev cX8_set : ByteArray := prog_10_method_41_code
def yX8_set : MethodName := ⟨RX8, "set", "(II)I"⟩
abbrev cX8_free : ByteArray := prog_10_method_42_code
def yX8_free : MethodName := ⟨RX8, "free", "(I)I"⟩
abbrev cX8_chosen : ByteArray := prog_10_method_43_code
def yX8_chosen : MethodName := ⟨RX8, "chosen", "(I)I"⟩
abbrev cX8_clashInHand : ByteArray := prog_10_method_44_code
def yX8_clashInHand : MethodName := ⟨RX8, "clashInHand", "(II)I"⟩
abbrev cX8_check : ByteArray := prog_10_method_45_code
def yX8_check : MethodName := ⟨RX8, "check", "()I"⟩
abbrev cX8_worthOf : ByteArray := prog_10_method_46_code
def yX8_worthOf : MethodName := ⟨RX8, "worthOf", "(II)I"⟩
abbrev cX8_worthInHand : ByteArray := prog_10_method_47_code
def yX8_worthInHand : MethodName := ⟨RX8, "worthInHand", "()I"⟩
abbrev cX8_worth : ByteArray := prog_10_method_48_code
def yX8_worth : MethodName := ⟨RX8, "worth", "()I"⟩
abbrev cX8_fits : ByteArray := prog_10_method_49_code
def yX8_fits : MethodName := ⟨RX8, "fits", "(II)Z"⟩
abbrev cX8_tryFrom : ByteArray := prog_10_method_50_code
def yX8_tryFrom : MethodName := ⟨RX8, "tryFrom", "(II)V"⟩
abbrev cX8_bestOf : ByteArray := prog_10_method_51_code
def yX8_bestOf : MethodName := ⟨RX8, "bestOf", "(I)Z"⟩
abbrev cX8_best : ByteArray := prog_10_method_52_code
def yX8_best : MethodName := ⟨RX8, "best", "()I"⟩
abbrev cX8_isAhead : ByteArray := prog_10_method_53_code
def yX8_isAhead : MethodName := ⟨RX8, "isAhead", "(II)Z"⟩
abbrev cX8_findOrder : ByteArray := prog_10_method_54_code
def yX8_findOrder : MethodName := ⟨RX8, "findOrder", "()V"⟩
abbrev cX8_quick : ByteArray := prog_10_method_55_code
def yX8_quick : MethodName := ⟨RX8, "quick", "()I"⟩
abbrev cX8_why : ByteArray := prog_10_method_56_code
def yX8_why : MethodName := ⟨RX8, "why", "(II)I"⟩
abbrev cX8_slack : ByteArray := prog_10_method_57_code
def yX8_slack : MethodName := ⟨RX8, "slack", "()I"⟩
abbrev cX8_isSteady : ByteArray := prog_10_method_58_code
def yX8_isSteady : MethodName := ⟨RX8, "isSteady", "(III)Z"⟩
abbrev cX8_findSteady : ByteArray := prog_10_method_59_code
def yX8_findSteady : MethodName := ⟨RX8, "findSteady", "()V"⟩
abbrev cX8_steady : ByteArray := prog_10_method_60_code
def yX8_steady : MethodName := ⟨RX8, "steady", "(II)I"⟩
abbrev cX8_there : ByteArray := prog_10_method_61_code
def yX8_there : MethodName := ⟨RX8, "there", "(I)I"⟩
abbrev cX8_at : ByteArray := prog_10_method_62_code
def yX8_at : MethodName := ⟨RX8, "at", "(II)I"⟩
abbrev cX8_find : ByteArray := prog_10_method_63_code
def yX8_find : MethodName := ⟨RX8, "find", "(IIIII)I"⟩
abbrev cX8_count : ByteArray := prog_10_method_64_code
def yX8_count : MethodName := ⟨RX8, "count", "(I)I"⟩
def RJ6 : String := "java/lang/Integer"
abbrev cJ6_numberOfTrailingZeros_0f7a4 : ByteArray := prog_11_method_48_code
def yJ6_numberOfTrailingZeros_0f7a4 : MethodName := ⟨RJ6, "numberOfTrailingZeros", "(I)I"⟩
abbrev cJ6_bitCount_0f7a4 : ByteArray := prog_11_method_49_code
def yJ6_bitCount_0f7a4 : MethodName := ⟨RJ6, "bitCount", "(I)I"⟩
def RJ9 : String := "java/lang/Math"
abbrev cJ9_abs_0f7a4 : ByteArray := prog_12_method_59_code
def yJ9_abs_0f7a4 : MethodName := ⟨RJ9, "abs", "(I)I"⟩
abbrev cJ9_max_7cf53 : ByteArray := prog_12_method_65_code
def yJ9_max_7cf53 : MethodName := ⟨RJ9, "max", "(II)I"⟩
abbrev cJ9_min_7cf53 : ByteArray := prog_12_method_69_code
def yJ9_min_7cf53 : MethodName := ⟨RJ9, "min", "(II)I"⟩
def RJ10 : String := "java/lang/System"
def RJ7 : String := "java/util/Arrays"
abbrev cJ7_fill_53178 : ByteArray := prog_14_method_103_code
def yJ7_fill_53178 : MethodName := ⟨RJ7, "fill", "([II)V"⟩
def RL : String := "NameChartLaw"
abbrev cL_law : ByteArray := code
def yL_law : MethodName := ⟨RL, "law", "([I)Z"⟩
abbrev vwCl : List vw_C := [(RX0, TX0, 9), (RX1, TX1, 11), (RX2, TX2, 3), (RX3, TX3, 3), (RX4, TX4, 5), (RX5, TX5, 6), (RX6, TX6, 10), (RX7, TX7, 10), (RX8, TX8, 38)]
end
section
theorem dX0_init_0 : decode cX0_init 0 = .ok (.aload_n 0, 1) := by decide +kernel
theorem dX0_init_1 : decode cX0_init 1 = .ok (.invokespecial 3, 3) := by decide +kernel
theorem dX0_init_4 : decode cX0_init 4 = .ok (.return_, 1) := by decide +kernel
theorem dX0_lay_0 : decode cX0_lay 0 = .ok (.iload_n 3, 1) := by decide +kernel
theorem dX0_lay_1 : decode cX0_lay 1 = .ok (.bipush 8, 2) := by decide +kernel
theorem dX0_lay_3 : decode cX0_lay 3 = .ok (.if_icmp .lt 7, 3) := by decide +kernel
theorem dX0_lay_6 : decode cX0_lay 6 = .ok (.iconst 1, 1) := by decide +kernel
theorem dX0_lay_7 : decode cX0_lay 7 = .ok (.goto 4, 3) := by decide +kernel
theorem dX0_lay_10 : decode cX0_lay 10 = .ok (.iconst 0, 1) := by decide +kernel
theorem dX0_lay_11 : decode cX0_lay 11 = .ok (.istore 5, 2) := by decide +kernel
theorem dX0_lay_13 : decode cX0_lay 13 = .ok (.iload 5, 2) := by decide +kernel
theorem dX0_lay_15 : decode cX0_lay 15 = .ok (.ifCond .eq 17, 3) := by decide +kernel
theorem dX0_lay_18 : decode cX0_lay 18 = .ok (.aload_n 1, 1) := by decide +kernel
theorem dX0_lay_19 : decode cX0_lay 19 = .ok (.getfield 9, 3) := by decide +kernel
theorem dX0_lay_22 : decode cX0_lay 22 = .ok (.iload_n 2, 1) := by decide +kernel
theorem dX0_lay_23 : decode cX0_lay 23 = .ok (.iaload, 1) := by decide +kernel
theorem dX0_lay_24 : decode cX0_lay 24 = .ok (.iconst 1, 1) := by decide +kernel
theorem dX0_lay_25 : decode cX0_lay 25 = .ok (.if_icmp .ne 7, 3) := by decide +kernel
theorem dX0_lay_28 : decode cX0_lay 28 = .ok (.iconst 1, 1) := by decide +kernel
theorem dX0_lay_29 : decode cX0_lay 29 = .ok (.goto 4, 3) := by decide +kernel
theorem dX0_lay_32 : decode cX0_lay 32 = .ok (.iconst 0, 1) := by decide +kernel
theorem dX0_lay_33 : decode cX0_lay 33 = .ok (.istore 6, 2) := by decide +kernel
theorem dX0_lay_35 : decode cX0_lay 35 = .ok (.aload_n 0, 1) := by decide +kernel
theorem dX0_lay_36 : decode cX0_lay 36 = .ok (.iload 5, 2) := by decide +kernel
theorem dX0_lay_38 : decode cX0_lay 38 = .ok (.ifCond .eq 12, 3) := by decide +kernel
theorem dX0_lay_41 : decode cX0_lay 41 = .ok (.iload 6, 2) := by decide +kernel
theorem dX0_lay_43 : decode cX0_lay 43 = .ok (.ifCond .ne 7, 3) := by decide +kernel
theorem dX0_lay_46 : decode cX0_lay 46 = .ok (.iconst 1, 1) := by decide +kernel
theorem dX0_lay_47 : decode cX0_lay 47 = .ok (.goto 4, 3) := by decide +kernel
theorem dX0_lay_50 : decode cX0_lay 50 = .ok (.iconst 0, 1) := by decide +kernel
theorem dX0_lay_51 : decode cX0_lay 51 = .ok (.putfield 15, 3) := by decide +kernel
theorem dX0_lay_54 : decode cX0_lay 54 = .ok (.iload 6, 2) := by decide +kernel
theorem dX0_lay_56 : decode cX0_lay 56 = .ok (.ifCond .eq 16, 3) := by decide +kernel
theorem dX0_lay_59 : decode cX0_lay 59 = .ok (.aload_n 1, 1) := by decide +kernel
theorem dX0_lay_60 : decode cX0_lay 60 = .ok (.getfield 21, 3) := by decide +kernel
theorem dX0_lay_63 : decode cX0_lay 63 = .ok (.iload_n 2, 1) := by decide +kernel
theorem dX0_lay_64 : decode cX0_lay 64 = .ok (.iaload, 1) := by decide +kernel
theorem dX0_lay_65 : decode cX0_lay 65 = .ok (.iconst 1, 1) := by decide +kernel
theorem dX0_lay_66 : decode cX0_lay 66 = .ok (.iadd, 1) := by decide +kernel
theorem dX0_lay_67 : decode cX0_lay 67 = .ok (.iconst 2, 1) := by decide +kernel
theorem dX0_lay_68 : decode cX0_lay 68 = .ok (.idiv, 1) := by decide +kernel
theorem dX0_lay_69 : decode cX0_lay 69 = .ok (.goto 9, 3) := by decide +kernel
theorem dX0_lay_72 : decode cX0_lay 72 = .ok (.aload_n 1, 1) := by decide +kernel
theorem dX0_lay_73 : decode cX0_lay 73 = .ok (.getfield 21, 3) := by decide +kernel
theorem dX0_lay_76 : decode cX0_lay 76 = .ok (.iload_n 2, 1) := by decide +kernel
theorem dX0_lay_77 : decode cX0_lay 77 = .ok (.iaload, 1) := by decide +kernel
theorem dX0_lay_78 : decode cX0_lay 78 = .ok (.istore 7, 2) := by decide +kernel
theorem dX0_lay_80 : decode cX0_lay 80 = .ok (.iload 6, 2) := by decide +kernel
theorem dX0_lay_82 : decode cX0_lay 82 = .ok (.ifCond .eq 14, 3) := by decide +kernel
theorem dX0_lay_85 : decode cX0_lay 85 = .ok (.iconst 2, 1) := by decide +kernel
theorem dX0_lay_86 : decode cX0_lay 86 = .ok (.aload_n 1, 1) := by decide +kernel
theorem dX0_lay_87 : decode cX0_lay 87 = .ok (.getfield 24, 3) := by decide +kernel
theorem dX0_lay_90 : decode cX0_lay 90 = .ok (.iload_n 2, 1) := by decide +kernel
theorem dX0_lay_91 : decode cX0_lay 91 = .ok (.iaload, 1) := by decide +kernel
theorem dX0_lay_92 : decode cX0_lay 92 = .ok (.imul, 1) := by decide +kernel
theorem dX0_lay_93 : decode cX0_lay 93 = .ok (.goto 9, 3) := by decide +kernel
theorem dX0_lay_96 : decode cX0_lay 96 = .ok (.aload_n 1, 1) := by decide +kernel
theorem dX0_lay_97 : decode cX0_lay 97 = .ok (.getfield 24, 3) := by decide +kernel
theorem dX0_lay_100 : decode cX0_lay 100 = .ok (.iload_n 2, 1) := by decide +kernel
theorem dX0_lay_101 : decode cX0_lay 101 = .ok (.iaload, 1) := by decide +kernel
theorem dX0_lay_102 : decode cX0_lay 102 = .ok (.istore 8, 2) := by decide +kernel
theorem dX0_lay_104 : decode cX0_lay 104 = .ok (.aload_n 0, 1) := by decide +kernel
theorem dX0_lay_105 : decode cX0_lay 105 = .ok (.getfield 15, 3) := by decide +kernel
theorem dX0_lay_108 : decode cX0_lay 108 = .ok (.ifCond .eq 8, 3) := by decide +kernel
theorem dX0_lay_111 : decode cX0_lay 111 = .ok (.bipush 40, 2) := by decide +kernel
theorem dX0_lay_113 : decode cX0_lay 113 = .ok (.goto 4, 3) := by decide +kernel
theorem dX0_lay_116 : decode cX0_lay 116 = .ok (.iconst 2, 1) := by decide +kernel
theorem dX0_lay_117 : decode cX0_lay 117 = .ok (.istore 9, 2) := by decide +kernel
theorem dX0_lay_119 : decode cX0_lay 119 = .ok (.iload 5, 2) := by decide +kernel
theorem dX0_lay_121 : decode cX0_lay 121 = .ok (.ifCond .eq 10, 3) := by decide +kernel
theorem dX0_lay_124 : decode cX0_lay 124 = .ok (.iload_n 3, 1) := by decide +kernel
theorem dX0_lay_125 : decode cX0_lay 125 = .ok (.bipush 8, 2) := by decide +kernel
theorem dX0_lay_127 : decode cX0_lay 127 = .ok (.isub, 1) := by decide +kernel
theorem dX0_lay_128 : decode cX0_lay 128 = .ok (.goto 4, 3) := by decide +kernel
theorem dX0_lay_131 : decode cX0_lay 131 = .ok (.iload_n 3, 1) := by decide +kernel
theorem dX0_lay_132 : decode cX0_lay 132 = .ok (.istore 10, 2) := by decide +kernel
theorem dX0_lay_134 : decode cX0_lay 134 = .ok (.aload_n 1, 1) := by decide +kernel
theorem dX0_lay_135 : decode cX0_lay 135 = .ok (.getfield 27, 3) := by decide +kernel
theorem dX0_lay_138 : decode cX0_lay 138 = .ok (.iload_n 2, 1) := by decide +kernel
theorem dX0_lay_139 : decode cX0_lay 139 = .ok (.iaload, 1) := by decide +kernel
theorem dX0_lay_140 : decode cX0_lay 140 = .ok (.iload 4, 2) := by decide +kernel
theorem dX0_lay_142 : decode cX0_lay 142 = .ok (.ishl, 1) := by decide +kernel
theorem dX0_lay_143 : decode cX0_lay 143 = .ok (.istore 11, 2) := by decide +kernel
theorem dX0_lay_145 : decode cX0_lay 145 = .ok (.aload_n 1, 1) := by decide +kernel
theorem dX0_lay_146 : decode cX0_lay 146 = .ok (.getfield 30, 3) := by decide +kernel
theorem dX0_lay_149 : decode cX0_lay 149 = .ok (.iload_n 2, 1) := by decide +kernel
theorem dX0_lay_150 : decode cX0_lay 150 = .ok (.iaload, 1) := by decide +kernel
theorem dX0_lay_151 : decode cX0_lay 151 = .ok (.iload 4, 2) := by decide +kernel
theorem dX0_lay_153 : decode cX0_lay 153 = .ok (.ishl, 1) := by decide +kernel
theorem dX0_lay_154 : decode cX0_lay 154 = .ok (.istore 12, 2) := by decide +kernel
theorem dX0_lay_156 : decode cX0_lay 156 = .ok (.aload_n 0, 1) := by decide +kernel
theorem dX0_lay_157 : decode cX0_lay 157 = .ok (.iload 11, 2) := by decide +kernel
theorem dX0_lay_159 : decode cX0_lay 159 = .ok (.getstatic 33, 3) := by decide +kernel
theorem dX0_lay_162 : decode cX0_lay 162 = .ok (.iload 10, 2) := by decide +kernel
theorem dX0_lay_164 : decode cX0_lay 164 = .ok (.iaload, 1) := by decide +kernel
theorem dX0_lay_165 : decode cX0_lay 165 = .ok (.iload 7, 2) := by decide +kernel
theorem dX0_lay_167 : decode cX0_lay 167 = .ok (.iload 9, 2) := by decide +kernel
theorem dX0_lay_169 : decode cX0_lay 169 = .ok (.invokestatic 36, 3) := by decide +kernel
theorem dX0_lay_172 : decode cX0_lay 172 = .ok (.putfield 40, 3) := by decide +kernel
theorem dX0_lay_175 : decode cX0_lay 175 = .ok (.aload_n 0, 1) := by decide +kernel
theorem dX0_lay_176 : decode cX0_lay 176 = .ok (.iload 12, 2) := by decide +kernel
theorem dX0_lay_178 : decode cX0_lay 178 = .ok (.getstatic 44, 3) := by decide +kernel
theorem dX0_lay_181 : decode cX0_lay 181 = .ok (.iload 10, 2) := by decide +kernel
theorem dX0_lay_183 : decode cX0_lay 183 = .ok (.iaload, 1) := by decide +kernel
theorem dX0_lay_184 : decode cX0_lay 184 = .ok (.iload 8, 2) := by decide +kernel
theorem dX0_lay_186 : decode cX0_lay 186 = .ok (.iload 9, 2) := by decide +kernel
theorem dX0_lay_188 : decode cX0_lay 188 = .ok (.invokestatic 36, 3) := by decide +kernel
theorem dX0_lay_191 : decode cX0_lay 191 = .ok (.putfield 47, 3) := by decide +kernel
theorem dX0_lay_194 : decode cX0_lay 194 = .ok (.aload_n 0, 1) := by decide +kernel
theorem dX0_lay_195 : decode cX0_lay 195 = .ok (.aload_n 0, 1) := by decide +kernel
theorem dX0_lay_196 : decode cX0_lay 196 = .ok (.getfield 40, 3) := by decide +kernel
theorem dX0_lay_199 : decode cX0_lay 199 = .ok (.iload 7, 2) := by decide +kernel
theorem dX0_lay_201 : decode cX0_lay 201 = .ok (.iadd, 1) := by decide +kernel
theorem dX0_lay_202 : decode cX0_lay 202 = .ok (.putfield 50, 3) := by decide +kernel
theorem dX0_lay_205 : decode cX0_lay 205 = .ok (.aload_n 0, 1) := by decide +kernel
theorem dX0_lay_206 : decode cX0_lay 206 = .ok (.aload_n 0, 1) := by decide +kernel
theorem dX0_lay_207 : decode cX0_lay 207 = .ok (.getfield 47, 3) := by decide +kernel
theorem dX0_lay_210 : decode cX0_lay 210 = .ok (.iload 8, 2) := by decide +kernel
theorem dX0_lay_212 : decode cX0_lay 212 = .ok (.iadd, 1) := by decide +kernel
theorem dX0_lay_213 : decode cX0_lay 213 = .ok (.putfield 53, 3) := by decide +kernel
theorem dX0_lay_216 : decode cX0_lay 216 = .ok (.aload_n 0, 1) := by decide +kernel
theorem dX0_lay_217 : decode cX0_lay 217 = .ok (.iconst 2, 1) := by decide +kernel
theorem dX0_lay_218 : decode cX0_lay 218 = .ok (.iload 11, 2) := by decide +kernel
theorem dX0_lay_220 : decode cX0_lay 220 = .ok (.imul, 1) := by decide +kernel
theorem dX0_lay_221 : decode cX0_lay 221 = .ok (.putfield 56, 3) := by decide +kernel
theorem dX0_lay_224 : decode cX0_lay 224 = .ok (.aload_n 0, 1) := by decide +kernel
theorem dX0_lay_225 : decode cX0_lay 225 = .ok (.iconst 2, 1) := by decide +kernel
theorem dX0_lay_226 : decode cX0_lay 226 = .ok (.iload 12, 2) := by decide +kernel
theorem dX0_lay_228 : decode cX0_lay 228 = .ok (.imul, 1) := by decide +kernel
theorem dX0_lay_229 : decode cX0_lay 229 = .ok (.putfield 59, 3) := by decide +kernel
theorem dX0_lay_232 : decode cX0_lay 232 = .ok (.aload_n 0, 1) := by decide +kernel
theorem dX0_lay_233 : decode cX0_lay 233 = .ok (.aload_n 0, 1) := by decide +kernel
theorem dX0_lay_234 : decode cX0_lay 234 = .ok (.getfield 40, 3) := by decide +kernel
theorem dX0_lay_237 : decode cX0_lay 237 = .ok (.aload_n 0, 1) := by decide +kernel
theorem dX0_lay_238 : decode cX0_lay 238 = .ok (.getfield 50, 3) := by decide +kernel
theorem dX0_lay_241 : decode cX0_lay 241 = .ok (.iadd, 1) := by decide +kernel
theorem dX0_lay_242 : decode cX0_lay 242 = .ok (.putfield 62, 3) := by decide +kernel
theorem dX0_lay_245 : decode cX0_lay 245 = .ok (.aload_n 0, 1) := by decide +kernel
theorem dX0_lay_246 : decode cX0_lay 246 = .ok (.aload_n 0, 1) := by decide +kernel
theorem dX0_lay_247 : decode cX0_lay 247 = .ok (.getfield 47, 3) := by decide +kernel
theorem dX0_lay_250 : decode cX0_lay 250 = .ok (.aload_n 0, 1) := by decide +kernel
theorem dX0_lay_251 : decode cX0_lay 251 = .ok (.getfield 53, 3) := by decide +kernel
theorem dX0_lay_254 : decode cX0_lay 254 = .ok (.iadd, 1) := by decide +kernel
theorem dX0_lay_255 : decode cX0_lay 255 = .ok (.putfield 65, 3) := by decide +kernel
theorem dX0_lay_258 : decode cX0_lay 258 = .ok (.return_, 1) := by decide +kernel
theorem dX0_start_0 : decode cX0_start 0 = .ok (.iload_n 1, 1) := by decide +kernel
theorem dX0_start_1 : decode cX0_start 1 = .ok (.ifCond .ne 9, 3) := by decide +kernel
theorem dX0_start_4 : decode cX0_start 4 = .ok (.iload_n 0, 1) := by decide +kernel
theorem dX0_start_5 : decode cX0_start 5 = .ok (.iload_n 2, 1) := by decide +kernel
theorem dX0_start_6 : decode cX0_start 6 = .ok (.iconst 2, 1) := by decide +kernel
theorem dX0_start_7 : decode cX0_start 7 = .ok (.idiv, 1) := by decide +kernel
theorem dX0_start_8 : decode cX0_start 8 = .ok (.isub, 1) := by decide +kernel
theorem dX0_start_9 : decode cX0_start 9 = .ok (.ireturn, 1) := by decide +kernel
theorem dX0_start_10 : decode cX0_start 10 = .ok (.iload_n 1, 1) := by decide +kernel
theorem dX0_start_11 : decode cX0_start 11 = .ok (.ifCond .le 9, 3) := by decide +kernel
theorem dX0_start_14 : decode cX0_start 14 = .ok (.iload_n 0, 1) := by decide +kernel
theorem dX0_start_15 : decode cX0_start 15 = .ok (.iload_n 3, 1) := by decide +kernel
theorem dX0_start_16 : decode cX0_start 16 = .ok (.iadd, 1) := by decide +kernel
theorem dX0_start_17 : decode cX0_start 17 = .ok (.goto 8, 3) := by decide +kernel
theorem dX0_start_20 : decode cX0_start 20 = .ok (.iload_n 0, 1) := by decide +kernel
theorem dX0_start_21 : decode cX0_start 21 = .ok (.iload_n 3, 1) := by decide +kernel
theorem dX0_start_22 : decode cX0_start 22 = .ok (.isub, 1) := by decide +kernel
theorem dX0_start_23 : decode cX0_start 23 = .ok (.iload_n 2, 1) := by decide +kernel
theorem dX0_start_24 : decode cX0_start 24 = .ok (.isub, 1) := by decide +kernel
theorem dX0_start_25 : decode cX0_start 25 = .ok (.ireturn, 1) := by decide +kernel
theorem dX0_covers_0 : decode cX0_covers 0 = .ok (.aload_n 0, 1) := by decide +kernel
theorem dX0_covers_1 : decode cX0_covers 1 = .ok (.getfield 40, 3) := by decide +kernel
theorem dX0_covers_4 : decode cX0_covers 4 = .ok (.iload_n 1, 1) := by decide +kernel
theorem dX0_covers_5 : decode cX0_covers 5 = .ok (.if_icmp .ge 31, 3) := by decide +kernel
theorem dX0_covers_8 : decode cX0_covers 8 = .ok (.iload_n 1, 1) := by decide +kernel
theorem dX0_covers_9 : decode cX0_covers 9 = .ok (.aload_n 0, 1) := by decide +kernel
theorem dX0_covers_10 : decode cX0_covers 10 = .ok (.getfield 50, 3) := by decide +kernel
theorem dX0_covers_13 : decode cX0_covers 13 = .ok (.if_icmp .ge 23, 3) := by decide +kernel
theorem dX0_covers_16 : decode cX0_covers 16 = .ok (.aload_n 0, 1) := by decide +kernel
theorem dX0_covers_17 : decode cX0_covers 17 = .ok (.getfield 47, 3) := by decide +kernel
theorem dX0_covers_20 : decode cX0_covers 20 = .ok (.iload_n 2, 1) := by decide +kernel
theorem dX0_covers_21 : decode cX0_covers 21 = .ok (.if_icmp .ge 15, 3) := by decide +kernel
theorem dX0_covers_24 : decode cX0_covers 24 = .ok (.iload_n 2, 1) := by decide +kernel
theorem dX0_covers_25 : decode cX0_covers 25 = .ok (.aload_n 0, 1) := by decide +kernel
theorem dX0_covers_26 : decode cX0_covers 26 = .ok (.getfield 53, 3) := by decide +kernel
theorem dX0_covers_29 : decode cX0_covers 29 = .ok (.if_icmp .ge 7, 3) := by decide +kernel
theorem dX0_covers_32 : decode cX0_covers 32 = .ok (.iconst 1, 1) := by decide +kernel
theorem dX0_covers_33 : decode cX0_covers 33 = .ok (.goto 4, 3) := by decide +kernel
theorem dX0_covers_36 : decode cX0_covers 36 = .ok (.iconst 0, 1) := by decide +kernel
theorem dX0_covers_37 : decode cX0_covers 37 = .ok (.ireturn, 1) := by decide +kernel
theorem dX0_overlaps_0 : decode cX0_overlaps 0 = .ok (.aload_n 0, 1) := by decide +kernel
theorem dX0_overlaps_1 : decode cX0_overlaps 1 = .ok (.getfield 40, 3) := by decide +kernel
theorem dX0_overlaps_4 : decode cX0_overlaps 4 = .ok (.iload_n 3, 1) := by decide +kernel
theorem dX0_overlaps_5 : decode cX0_overlaps 5 = .ok (.if_icmp .ge 32, 3) := by decide +kernel
theorem dX0_overlaps_8 : decode cX0_overlaps 8 = .ok (.iload_n 1, 1) := by decide +kernel
theorem dX0_overlaps_9 : decode cX0_overlaps 9 = .ok (.aload_n 0, 1) := by decide +kernel
theorem dX0_overlaps_10 : decode cX0_overlaps 10 = .ok (.getfield 50, 3) := by decide +kernel
theorem dX0_overlaps_13 : decode cX0_overlaps 13 = .ok (.if_icmp .ge 24, 3) := by decide +kernel
theorem dX0_overlaps_16 : decode cX0_overlaps 16 = .ok (.aload_n 0, 1) := by decide +kernel
theorem dX0_overlaps_17 : decode cX0_overlaps 17 = .ok (.getfield 47, 3) := by decide +kernel
theorem dX0_overlaps_20 : decode cX0_overlaps 20 = .ok (.iload 4, 2) := by decide +kernel
theorem dX0_overlaps_22 : decode cX0_overlaps 22 = .ok (.if_icmp .ge 15, 3) := by decide +kernel
theorem dX0_overlaps_25 : decode cX0_overlaps 25 = .ok (.iload_n 2, 1) := by decide +kernel
theorem dX0_overlaps_26 : decode cX0_overlaps 26 = .ok (.aload_n 0, 1) := by decide +kernel
theorem dX0_overlaps_27 : decode cX0_overlaps 27 = .ok (.getfield 53, 3) := by decide +kernel
theorem dX0_overlaps_30 : decode cX0_overlaps 30 = .ok (.if_icmp .ge 7, 3) := by decide +kernel
theorem dX0_overlaps_33 : decode cX0_overlaps 33 = .ok (.iconst 1, 1) := by decide +kernel
theorem dX0_overlaps_34 : decode cX0_overlaps 34 = .ok (.goto 4, 3) := by decide +kernel
theorem dX0_overlaps_37 : decode cX0_overlaps 37 = .ok (.iconst 0, 1) := by decide +kernel
theorem dX0_overlaps_38 : decode cX0_overlaps 38 = .ok (.ireturn, 1) := by decide +kernel
theorem dX0_isOpen_0 : decode cX0_isOpen 0 = .ok (.sipush 1000, 3) := by decide +kernel
theorem dX0_isOpen_3 : decode cX0_isOpen 3 = .ok (.iload_n 2, 1) := by decide +kernel
theorem dX0_isOpen_4 : decode cX0_isOpen 4 = .ok (.ishl, 1) := by decide +kernel
theorem dX0_isOpen_5 : decode cX0_isOpen 5 = .ok (.istore_n 3, 1) := by decide +kernel
theorem dX0_isOpen_6 : decode cX0_isOpen 6 = .ok (.aload_n 0, 1) := by decide +kernel
theorem dX0_isOpen_7 : decode cX0_isOpen 7 = .ok (.getfield 40, 3) := by decide +kernel
theorem dX0_isOpen_10 : decode cX0_isOpen 10 = .ok (.ifCond .lt 26, 3) := by decide +kernel
theorem dX0_isOpen_13 : decode cX0_isOpen 13 = .ok (.aload_n 0, 1) := by decide +kernel
theorem dX0_isOpen_14 : decode cX0_isOpen 14 = .ok (.getfield 47, 3) := by decide +kernel
theorem dX0_isOpen_17 : decode cX0_isOpen 17 = .ok (.ifCond .lt 19, 3) := by decide +kernel
theorem dX0_isOpen_20 : decode cX0_isOpen 20 = .ok (.aload_n 0, 1) := by decide +kernel
theorem dX0_isOpen_21 : decode cX0_isOpen 21 = .ok (.getfield 50, 3) := by decide +kernel
theorem dX0_isOpen_24 : decode cX0_isOpen 24 = .ok (.iload_n 3, 1) := by decide +kernel
theorem dX0_isOpen_25 : decode cX0_isOpen 25 = .ok (.if_icmp .gt 11, 3) := by decide +kernel
theorem dX0_isOpen_28 : decode cX0_isOpen 28 = .ok (.aload_n 0, 1) := by decide +kernel
theorem dX0_isOpen_29 : decode cX0_isOpen 29 = .ok (.getfield 53, 3) := by decide +kernel
theorem dX0_isOpen_32 : decode cX0_isOpen 32 = .ok (.iload_n 3, 1) := by decide +kernel
theorem dX0_isOpen_33 : decode cX0_isOpen 33 = .ok (.if_icmp .le 5, 3) := by decide +kernel
theorem dX0_isOpen_36 : decode cX0_isOpen 36 = .ok (.iconst 0, 1) := by decide +kernel
theorem dX0_isOpen_37 : decode cX0_isOpen 37 = .ok (.ireturn, 1) := by decide +kernel
theorem dX0_isOpen_38 : decode cX0_isOpen 38 = .ok (.aload_n 0, 1) := by decide +kernel
theorem dX0_isOpen_39 : decode cX0_isOpen 39 = .ok (.aload_n 1, 1) := by decide +kernel
theorem dX0_isOpen_40 : decode cX0_isOpen 40 = .ok (.getfield 68, 3) := by decide +kernel
theorem dX0_isOpen_43 : decode cX0_isOpen 43 = .ok (.aload_n 1, 1) := by decide +kernel
theorem dX0_isOpen_44 : decode cX0_isOpen 44 = .ok (.getfield 71, 3) := by decide +kernel
theorem dX0_isOpen_47 : decode cX0_isOpen 47 = .ok (.aload_n 1, 1) := by decide +kernel
theorem dX0_isOpen_48 : decode cX0_isOpen 48 = .ok (.getfield 74, 3) := by decide +kernel
theorem dX0_isOpen_51 : decode cX0_isOpen 51 = .ok (.iload_n 2, 1) := by decide +kernel
theorem dX0_isOpen_52 : decode cX0_isOpen 52 = .ok (.invokevirtual 77, 3) := by decide +kernel
theorem dX0_isOpen_55 : decode cX0_isOpen 55 = .ok (.ifCond .ne 27, 3) := by decide +kernel
theorem dX0_isOpen_58 : decode cX0_isOpen 58 = .ok (.aload_n 0, 1) := by decide +kernel
theorem dX0_isOpen_59 : decode cX0_isOpen 59 = .ok (.aload_n 1, 1) := by decide +kernel
theorem dX0_isOpen_60 : decode cX0_isOpen 60 = .ok (.getfield 27, 3) := by decide +kernel
theorem dX0_isOpen_63 : decode cX0_isOpen 63 = .ok (.aload_n 1, 1) := by decide +kernel
theorem dX0_isOpen_64 : decode cX0_isOpen 64 = .ok (.getfield 30, 3) := by decide +kernel
theorem dX0_isOpen_67 : decode cX0_isOpen 67 = .ok (.aload_n 1, 1) := by decide +kernel
theorem dX0_isOpen_68 : decode cX0_isOpen 68 = .ok (.getfield 81, 3) := by decide +kernel
theorem dX0_isOpen_71 : decode cX0_isOpen 71 = .ok (.iload_n 2, 1) := by decide +kernel
theorem dX0_isOpen_72 : decode cX0_isOpen 72 = .ok (.invokevirtual 77, 3) := by decide +kernel
theorem dX0_isOpen_75 : decode cX0_isOpen 75 = .ok (.ifCond .ne 7, 3) := by decide +kernel
theorem dX0_isOpen_78 : decode cX0_isOpen 78 = .ok (.iconst 1, 1) := by decide +kernel
theorem dX0_isOpen_79 : decode cX0_isOpen 79 = .ok (.goto 4, 3) := by decide +kernel
theorem dX0_isOpen_82 : decode cX0_isOpen 82 = .ok (.iconst 0, 1) := by decide +kernel
theorem dX0_isOpen_83 : decode cX0_isOpen 83 = .ok (.ireturn, 1) := by decide +kernel
theorem dX0_coversAny_0 : decode cX0_coversAny 0 = .ok (.iconst 0, 1) := by decide +kernel
theorem dX0_coversAny_1 : decode cX0_coversAny 1 = .ok (.istore 5, 2) := by decide +kernel
theorem dX0_coversAny_3 : decode cX0_coversAny 3 = .ok (.iload 5, 2) := by decide +kernel
theorem dX0_coversAny_5 : decode cX0_coversAny 5 = .ok (.iload_n 3, 1) := by decide +kernel
theorem dX0_coversAny_6 : decode cX0_coversAny 6 = .ok (.if_icmp .ge 32, 3) := by decide +kernel
theorem dX0_coversAny_9 : decode cX0_coversAny 9 = .ok (.aload_n 0, 1) := by decide +kernel
theorem dX0_coversAny_10 : decode cX0_coversAny 10 = .ok (.aload_n 1, 1) := by decide +kernel
theorem dX0_coversAny_11 : decode cX0_coversAny 11 = .ok (.iload 5, 2) := by decide +kernel
theorem dX0_coversAny_13 : decode cX0_coversAny 13 = .ok (.iaload, 1) := by decide +kernel
theorem dX0_coversAny_14 : decode cX0_coversAny 14 = .ok (.iload 4, 2) := by decide +kernel
theorem dX0_coversAny_16 : decode cX0_coversAny 16 = .ok (.ishl, 1) := by decide +kernel
theorem dX0_coversAny_17 : decode cX0_coversAny 17 = .ok (.aload_n 2, 1) := by decide +kernel
theorem dX0_coversAny_18 : decode cX0_coversAny 18 = .ok (.iload 5, 2) := by decide +kernel
theorem dX0_coversAny_20 : decode cX0_coversAny 20 = .ok (.iaload, 1) := by decide +kernel
theorem dX0_coversAny_21 : decode cX0_coversAny 21 = .ok (.iload 4, 2) := by decide +kernel
theorem dX0_coversAny_23 : decode cX0_coversAny 23 = .ok (.ishl, 1) := by decide +kernel
theorem dX0_coversAny_24 : decode cX0_coversAny 24 = .ok (.invokevirtual 84, 3) := by decide +kernel
theorem dX0_coversAny_27 : decode cX0_coversAny 27 = .ok (.ifCond .eq 5, 3) := by decide +kernel
theorem dX0_coversAny_30 : decode cX0_coversAny 30 = .ok (.iconst 1, 1) := by decide +kernel
theorem dX0_coversAny_31 : decode cX0_coversAny 31 = .ok (.ireturn, 1) := by decide +kernel
theorem dX0_coversAny_32 : decode cX0_coversAny 32 = .ok (.iinc 5 1, 3) := by decide +kernel
theorem dX0_coversAny_35 : decode cX0_coversAny 35 = .ok (.goto (-32), 3) := by decide +kernel
theorem dX0_coversAny_38 : decode cX0_coversAny 38 = .ok (.iconst 0, 1) := by decide +kernel
theorem dX0_coversAny_39 : decode cX0_coversAny 39 = .ok (.ireturn, 1) := by decide +kernel
theorem dX0_hits_0 : decode cX0_hits 0 = .ok (.aload_n 0, 1) := by decide +kernel
theorem dX0_hits_1 : decode cX0_hits 1 = .ok (.aload_n 1, 1) := by decide +kernel
theorem dX0_hits_2 : decode cX0_hits 2 = .ok (.getfield 40, 3) := by decide +kernel
theorem dX0_hits_5 : decode cX0_hits 5 = .ok (.aload_n 1, 1) := by decide +kernel
theorem dX0_hits_6 : decode cX0_hits 6 = .ok (.getfield 47, 3) := by decide +kernel
theorem dX0_hits_9 : decode cX0_hits 9 = .ok (.aload_n 1, 1) := by decide +kernel
theorem dX0_hits_10 : decode cX0_hits 10 = .ok (.getfield 50, 3) := by decide +kernel
theorem dX0_hits_13 : decode cX0_hits 13 = .ok (.aload_n 1, 1) := by decide +kernel
theorem dX0_hits_14 : decode cX0_hits 14 = .ok (.getfield 53, 3) := by decide +kernel
theorem dX0_hits_17 : decode cX0_hits 17 = .ok (.invokevirtual 88, 3) := by decide +kernel
theorem dX0_hits_20 : decode cX0_hits 20 = .ok (.ifCond .eq 5, 3) := by decide +kernel
theorem dX0_hits_23 : decode cX0_hits 23 = .ok (.iconst 1, 1) := by decide +kernel
theorem dX0_hits_24 : decode cX0_hits 24 = .ok (.ireturn, 1) := by decide +kernel
theorem dX0_hits_25 : decode cX0_hits 25 = .ok (.aload_n 0, 1) := by decide +kernel
theorem dX0_hits_26 : decode cX0_hits 26 = .ok (.getfield 15, 3) := by decide +kernel
theorem dX0_hits_29 : decode cX0_hits 29 = .ok (.ifCond .eq 11, 3) := by decide +kernel
theorem dX0_hits_32 : decode cX0_hits 32 = .ok (.aload_n 0, 1) := by decide +kernel
theorem dX0_hits_33 : decode cX0_hits 33 = .ok (.aload_n 1, 1) := by decide +kernel
theorem dX0_hits_34 : decode cX0_hits 34 = .ok (.invokevirtual 92, 3) := by decide +kernel
theorem dX0_hits_37 : decode cX0_hits 37 = .ok (.ifCond .ne 18, 3) := by decide +kernel
theorem dX0_hits_40 : decode cX0_hits 40 = .ok (.aload_n 1, 1) := by decide +kernel
theorem dX0_hits_41 : decode cX0_hits 41 = .ok (.getfield 15, 3) := by decide +kernel
theorem dX0_hits_44 : decode cX0_hits 44 = .ok (.ifCond .eq 13, 3) := by decide +kernel
theorem dX0_hits_47 : decode cX0_hits 47 = .ok (.aload_n 1, 1) := by decide +kernel
theorem dX0_hits_48 : decode cX0_hits 48 = .ok (.aload_n 0, 1) := by decide +kernel
theorem dX0_hits_49 : decode cX0_hits 49 = .ok (.invokevirtual 92, 3) := by decide +kernel
theorem dX0_hits_52 : decode cX0_hits 52 = .ok (.ifCond .eq 5, 3) := by decide +kernel
theorem dX0_hits_55 : decode cX0_hits 55 = .ok (.iconst 1, 1) := by decide +kernel
theorem dX0_hits_56 : decode cX0_hits 56 = .ok (.ireturn, 1) := by decide +kernel
theorem dX0_hits_57 : decode cX0_hits 57 = .ok (.aload_n 0, 1) := by decide +kernel
theorem dX0_hits_58 : decode cX0_hits 58 = .ok (.getfield 15, 3) := by decide +kernel
theorem dX0_hits_61 : decode cX0_hits 61 = .ok (.ifCond .eq 22, 3) := by decide +kernel
theorem dX0_hits_64 : decode cX0_hits 64 = .ok (.aload_n 1, 1) := by decide +kernel
theorem dX0_hits_65 : decode cX0_hits 65 = .ok (.getfield 15, 3) := by decide +kernel
theorem dX0_hits_68 : decode cX0_hits 68 = .ok (.ifCond .eq 15, 3) := by decide +kernel
theorem dX0_hits_71 : decode cX0_hits 71 = .ok (.aload_n 0, 1) := by decide +kernel
theorem dX0_hits_72 : decode cX0_hits 72 = .ok (.aload_n 1, 1) := by decide +kernel
theorem dX0_hits_73 : decode cX0_hits 73 = .ok (.invokevirtual 96, 3) := by decide +kernel
theorem dX0_hits_76 : decode cX0_hits 76 = .ok (.ifCond .eq 7, 3) := by decide +kernel
theorem dX0_hits_79 : decode cX0_hits 79 = .ok (.iconst 1, 1) := by decide +kernel
theorem dX0_hits_80 : decode cX0_hits 80 = .ok (.goto 4, 3) := by decide +kernel
theorem dX0_hits_83 : decode cX0_hits 83 = .ok (.iconst 0, 1) := by decide +kernel
theorem dX0_hits_84 : decode cX0_hits 84 = .ok (.ireturn, 1) := by decide +kernel
theorem dX0_lineEnters_0 : decode cX0_lineEnters 0 = .ok (.iconst 2, 1) := by decide +kernel
theorem dX0_lineEnters_1 : decode cX0_lineEnters 1 = .ok (.aload_n 1, 1) := by decide +kernel
theorem dX0_lineEnters_2 : decode cX0_lineEnters 2 = .ok (.getfield 40, 3) := by decide +kernel
theorem dX0_lineEnters_5 : decode cX0_lineEnters 5 = .ok (.imul, 1) := by decide +kernel
theorem dX0_lineEnters_6 : decode cX0_lineEnters 6 = .ok (.istore_n 2, 1) := by decide +kernel
theorem dX0_lineEnters_7 : decode cX0_lineEnters 7 = .ok (.iconst 2, 1) := by decide +kernel
theorem dX0_lineEnters_8 : decode cX0_lineEnters 8 = .ok (.aload_n 1, 1) := by decide +kernel
theorem dX0_lineEnters_9 : decode cX0_lineEnters 9 = .ok (.getfield 47, 3) := by decide +kernel
theorem dX0_lineEnters_12 : decode cX0_lineEnters 12 = .ok (.imul, 1) := by decide +kernel
theorem dX0_lineEnters_13 : decode cX0_lineEnters 13 = .ok (.istore_n 3, 1) := by decide +kernel
theorem dX0_lineEnters_14 : decode cX0_lineEnters 14 = .ok (.iconst 2, 1) := by decide +kernel
theorem dX0_lineEnters_15 : decode cX0_lineEnters 15 = .ok (.aload_n 1, 1) := by decide +kernel
theorem dX0_lineEnters_16 : decode cX0_lineEnters 16 = .ok (.getfield 50, 3) := by decide +kernel
theorem dX0_lineEnters_19 : decode cX0_lineEnters 19 = .ok (.imul, 1) := by decide +kernel
theorem dX0_lineEnters_20 : decode cX0_lineEnters 20 = .ok (.istore 4, 2) := by decide +kernel
theorem dX0_lineEnters_22 : decode cX0_lineEnters 22 = .ok (.iconst 2, 1) := by decide +kernel
theorem dX0_lineEnters_23 : decode cX0_lineEnters 23 = .ok (.aload_n 1, 1) := by decide +kernel
theorem dX0_lineEnters_24 : decode cX0_lineEnters 24 = .ok (.getfield 53, 3) := by decide +kernel
theorem dX0_lineEnters_27 : decode cX0_lineEnters 27 = .ok (.imul, 1) := by decide +kernel
theorem dX0_lineEnters_28 : decode cX0_lineEnters 28 = .ok (.istore 5, 2) := by decide +kernel
theorem dX0_lineEnters_30 : decode cX0_lineEnters 30 = .ok (.aload_n 0, 1) := by decide +kernel
theorem dX0_lineEnters_31 : decode cX0_lineEnters 31 = .ok (.getfield 56, 3) := by decide +kernel
theorem dX0_lineEnters_34 : decode cX0_lineEnters 34 = .ok (.aload_n 0, 1) := by decide +kernel
theorem dX0_lineEnters_35 : decode cX0_lineEnters 35 = .ok (.getfield 62, 3) := by decide +kernel
theorem dX0_lineEnters_38 : decode cX0_lineEnters 38 = .ok (.invokestatic 99, 3) := by decide +kernel
theorem dX0_lineEnters_41 : decode cX0_lineEnters 41 = .ok (.iload_n 2, 1) := by decide +kernel
theorem dX0_lineEnters_42 : decode cX0_lineEnters 42 = .ok (.if_icmp .le 19, 3) := by decide +kernel
theorem dX0_lineEnters_45 : decode cX0_lineEnters 45 = .ok (.aload_n 0, 1) := by decide +kernel
theorem dX0_lineEnters_46 : decode cX0_lineEnters 46 = .ok (.getfield 56, 3) := by decide +kernel
theorem dX0_lineEnters_49 : decode cX0_lineEnters 49 = .ok (.aload_n 0, 1) := by decide +kernel
theorem dX0_lineEnters_50 : decode cX0_lineEnters 50 = .ok (.getfield 62, 3) := by decide +kernel
theorem dX0_lineEnters_53 : decode cX0_lineEnters 53 = .ok (.invokestatic 105, 3) := by decide +kernel
theorem dX0_lineEnters_56 : decode cX0_lineEnters 56 = .ok (.iload 4, 2) := by decide +kernel
theorem dX0_lineEnters_58 : decode cX0_lineEnters 58 = .ok (.if_icmp .lt 5, 3) := by decide +kernel
theorem dX0_lineEnters_61 : decode cX0_lineEnters 61 = .ok (.iconst 0, 1) := by decide +kernel
theorem dX0_lineEnters_62 : decode cX0_lineEnters 62 = .ok (.ireturn, 1) := by decide +kernel
theorem dX0_lineEnters_63 : decode cX0_lineEnters 63 = .ok (.aload_n 0, 1) := by decide +kernel
theorem dX0_lineEnters_64 : decode cX0_lineEnters 64 = .ok (.getfield 59, 3) := by decide +kernel
theorem dX0_lineEnters_67 : decode cX0_lineEnters 67 = .ok (.aload_n 0, 1) := by decide +kernel
theorem dX0_lineEnters_68 : decode cX0_lineEnters 68 = .ok (.getfield 65, 3) := by decide +kernel
theorem dX0_lineEnters_71 : decode cX0_lineEnters 71 = .ok (.invokestatic 99, 3) := by decide +kernel
theorem dX0_lineEnters_74 : decode cX0_lineEnters 74 = .ok (.iload_n 3, 1) := by decide +kernel
theorem dX0_lineEnters_75 : decode cX0_lineEnters 75 = .ok (.if_icmp .le 19, 3) := by decide +kernel
theorem dX0_lineEnters_78 : decode cX0_lineEnters 78 = .ok (.aload_n 0, 1) := by decide +kernel
theorem dX0_lineEnters_79 : decode cX0_lineEnters 79 = .ok (.getfield 59, 3) := by decide +kernel
theorem dX0_lineEnters_82 : decode cX0_lineEnters 82 = .ok (.aload_n 0, 1) := by decide +kernel
theorem dX0_lineEnters_83 : decode cX0_lineEnters 83 = .ok (.getfield 65, 3) := by decide +kernel
theorem dX0_lineEnters_86 : decode cX0_lineEnters 86 = .ok (.invokestatic 105, 3) := by decide +kernel
theorem dX0_lineEnters_89 : decode cX0_lineEnters 89 = .ok (.iload 5, 2) := by decide +kernel
theorem dX0_lineEnters_91 : decode cX0_lineEnters 91 = .ok (.if_icmp .lt 5, 3) := by decide +kernel
theorem dX0_lineEnters_94 : decode cX0_lineEnters 94 = .ok (.iconst 0, 1) := by decide +kernel
theorem dX0_lineEnters_95 : decode cX0_lineEnters 95 = .ok (.ireturn, 1) := by decide +kernel
theorem dX0_lineEnters_96 : decode cX0_lineEnters 96 = .ok (.aload_n 0, 1) := by decide +kernel
theorem dX0_lineEnters_97 : decode cX0_lineEnters 97 = .ok (.iload_n 2, 1) := by decide +kernel
theorem dX0_lineEnters_98 : decode cX0_lineEnters 98 = .ok (.iload_n 3, 1) := by decide +kernel
theorem dX0_lineEnters_99 : decode cX0_lineEnters 99 = .ok (.invokevirtual 108, 3) := by decide +kernel
theorem dX0_lineEnters_102 : decode cX0_lineEnters 102 = .ok (.istore 6, 2) := by decide +kernel
theorem dX0_lineEnters_104 : decode cX0_lineEnters 104 = .ok (.aload_n 0, 1) := by decide +kernel
theorem dX0_lineEnters_105 : decode cX0_lineEnters 105 = .ok (.iload 4, 2) := by decide +kernel
theorem dX0_lineEnters_107 : decode cX0_lineEnters 107 = .ok (.iload_n 3, 1) := by decide +kernel
theorem dX0_lineEnters_108 : decode cX0_lineEnters 108 = .ok (.invokevirtual 108, 3) := by decide +kernel
theorem dX0_lineEnters_111 : decode cX0_lineEnters 111 = .ok (.istore 7, 2) := by decide +kernel
theorem dX0_lineEnters_113 : decode cX0_lineEnters 113 = .ok (.aload_n 0, 1) := by decide +kernel
theorem dX0_lineEnters_114 : decode cX0_lineEnters 114 = .ok (.iload 4, 2) := by decide +kernel
theorem dX0_lineEnters_116 : decode cX0_lineEnters 116 = .ok (.iload 5, 2) := by decide +kernel
theorem dX0_lineEnters_118 : decode cX0_lineEnters 118 = .ok (.invokevirtual 108, 3) := by decide +kernel
theorem dX0_lineEnters_121 : decode cX0_lineEnters 121 = .ok (.istore 8, 2) := by decide +kernel
theorem dX0_lineEnters_123 : decode cX0_lineEnters 123 = .ok (.aload_n 0, 1) := by decide +kernel
theorem dX0_lineEnters_124 : decode cX0_lineEnters 124 = .ok (.iload_n 2, 1) := by decide +kernel
theorem dX0_lineEnters_125 : decode cX0_lineEnters 125 = .ok (.iload 5, 2) := by decide +kernel
theorem dX0_lineEnters_127 : decode cX0_lineEnters 127 = .ok (.invokevirtual 108, 3) := by decide +kernel
theorem dX0_lineEnters_130 : decode cX0_lineEnters 130 = .ok (.istore 9, 2) := by decide +kernel
theorem dX0_lineEnters_132 : decode cX0_lineEnters 132 = .ok (.iload 6, 2) := by decide +kernel
theorem dX0_lineEnters_134 : decode cX0_lineEnters 134 = .ok (.ifCond .lt 18, 3) := by decide +kernel
theorem dX0_lineEnters_137 : decode cX0_lineEnters 137 = .ok (.iload 7, 2) := by decide +kernel
theorem dX0_lineEnters_139 : decode cX0_lineEnters 139 = .ok (.ifCond .lt 13, 3) := by decide +kernel
theorem dX0_lineEnters_142 : decode cX0_lineEnters 142 = .ok (.iload 8, 2) := by decide +kernel
theorem dX0_lineEnters_144 : decode cX0_lineEnters 144 = .ok (.ifCond .lt 8, 3) := by decide +kernel
theorem dX0_lineEnters_147 : decode cX0_lineEnters 147 = .ok (.iload 9, 2) := by decide +kernel
theorem dX0_lineEnters_149 : decode cX0_lineEnters 149 = .ok (.ifCond .ge 7, 3) := by decide +kernel
theorem dX0_lineEnters_152 : decode cX0_lineEnters 152 = .ok (.iconst 1, 1) := by decide +kernel
theorem dX0_lineEnters_153 : decode cX0_lineEnters 153 = .ok (.goto 4, 3) := by decide +kernel
theorem dX0_lineEnters_156 : decode cX0_lineEnters 156 = .ok (.iconst 0, 1) := by decide +kernel
theorem dX0_lineEnters_157 : decode cX0_lineEnters 157 = .ok (.istore 10, 2) := by decide +kernel
theorem dX0_lineEnters_159 : decode cX0_lineEnters 159 = .ok (.iload 6, 2) := by decide +kernel
theorem dX0_lineEnters_161 : decode cX0_lineEnters 161 = .ok (.ifCond .gt 18, 3) := by decide +kernel
theorem dX0_lineEnters_164 : decode cX0_lineEnters 164 = .ok (.iload 7, 2) := by decide +kernel
theorem dX0_lineEnters_166 : decode cX0_lineEnters 166 = .ok (.ifCond .gt 13, 3) := by decide +kernel
theorem dX0_lineEnters_169 : decode cX0_lineEnters 169 = .ok (.iload 8, 2) := by decide +kernel
theorem dX0_lineEnters_171 : decode cX0_lineEnters 171 = .ok (.ifCond .gt 8, 3) := by decide +kernel
theorem dX0_lineEnters_174 : decode cX0_lineEnters 174 = .ok (.iload 9, 2) := by decide +kernel
theorem dX0_lineEnters_176 : decode cX0_lineEnters 176 = .ok (.ifCond .le 7, 3) := by decide +kernel
theorem dX0_lineEnters_179 : decode cX0_lineEnters 179 = .ok (.iconst 1, 1) := by decide +kernel
theorem dX0_lineEnters_180 : decode cX0_lineEnters 180 = .ok (.goto 4, 3) := by decide +kernel
theorem dX0_lineEnters_183 : decode cX0_lineEnters 183 = .ok (.iconst 0, 1) := by decide +kernel
theorem dX0_lineEnters_184 : decode cX0_lineEnters 184 = .ok (.istore 11, 2) := by decide +kernel
theorem dX0_lineEnters_186 : decode cX0_lineEnters 186 = .ok (.iload 10, 2) := by decide +kernel
theorem dX0_lineEnters_188 : decode cX0_lineEnters 188 = .ok (.ifCond .eq 12, 3) := by decide +kernel
theorem dX0_lineEnters_191 : decode cX0_lineEnters 191 = .ok (.iload 11, 2) := by decide +kernel
theorem dX0_lineEnters_193 : decode cX0_lineEnters 193 = .ok (.ifCond .eq 7, 3) := by decide +kernel
theorem dX0_lineEnters_196 : decode cX0_lineEnters 196 = .ok (.iconst 1, 1) := by decide +kernel
theorem dX0_lineEnters_197 : decode cX0_lineEnters 197 = .ok (.goto 4, 3) := by decide +kernel
theorem dX0_lineEnters_200 : decode cX0_lineEnters 200 = .ok (.iconst 0, 1) := by decide +kernel
theorem dX0_lineEnters_201 : decode cX0_lineEnters 201 = .ok (.ireturn, 1) := by decide +kernel
theorem dX0_linesMeet_0 : decode cX0_linesMeet 0 = .ok (.aload_n 0, 1) := by decide +kernel
theorem dX0_linesMeet_1 : decode cX0_linesMeet 1 = .ok (.getfield 56, 3) := by decide +kernel
theorem dX0_linesMeet_4 : decode cX0_linesMeet 4 = .ok (.aload_n 0, 1) := by decide +kernel
theorem dX0_linesMeet_5 : decode cX0_linesMeet 5 = .ok (.getfield 62, 3) := by decide +kernel
theorem dX0_linesMeet_8 : decode cX0_linesMeet 8 = .ok (.invokestatic 99, 3) := by decide +kernel
theorem dX0_linesMeet_11 : decode cX0_linesMeet 11 = .ok (.aload_n 1, 1) := by decide +kernel
theorem dX0_linesMeet_12 : decode cX0_linesMeet 12 = .ok (.getfield 56, 3) := by decide +kernel
theorem dX0_linesMeet_15 : decode cX0_linesMeet 15 = .ok (.aload_n 1, 1) := by decide +kernel
theorem dX0_linesMeet_16 : decode cX0_linesMeet 16 = .ok (.getfield 62, 3) := by decide +kernel
theorem dX0_linesMeet_19 : decode cX0_linesMeet 19 = .ok (.invokestatic 105, 3) := by decide +kernel
theorem dX0_linesMeet_22 : decode cX0_linesMeet 22 = .ok (.if_icmp .lt 28, 3) := by decide +kernel
theorem dX0_linesMeet_25 : decode cX0_linesMeet 25 = .ok (.aload_n 1, 1) := by decide +kernel
theorem dX0_linesMeet_26 : decode cX0_linesMeet 26 = .ok (.getfield 56, 3) := by decide +kernel
theorem dX0_linesMeet_29 : decode cX0_linesMeet 29 = .ok (.aload_n 1, 1) := by decide +kernel
theorem dX0_linesMeet_30 : decode cX0_linesMeet 30 = .ok (.getfield 62, 3) := by decide +kernel
theorem dX0_linesMeet_33 : decode cX0_linesMeet 33 = .ok (.invokestatic 99, 3) := by decide +kernel
theorem dX0_linesMeet_36 : decode cX0_linesMeet 36 = .ok (.aload_n 0, 1) := by decide +kernel
theorem dX0_linesMeet_37 : decode cX0_linesMeet 37 = .ok (.getfield 56, 3) := by decide +kernel
theorem dX0_linesMeet_40 : decode cX0_linesMeet 40 = .ok (.aload_n 0, 1) := by decide +kernel
theorem dX0_linesMeet_41 : decode cX0_linesMeet 41 = .ok (.getfield 62, 3) := by decide +kernel
theorem dX0_linesMeet_44 : decode cX0_linesMeet 44 = .ok (.invokestatic 105, 3) := by decide +kernel
theorem dX0_linesMeet_47 : decode cX0_linesMeet 47 = .ok (.if_icmp .ge 5, 3) := by decide +kernel
theorem dX0_linesMeet_50 : decode cX0_linesMeet 50 = .ok (.iconst 0, 1) := by decide +kernel
theorem dX0_linesMeet_51 : decode cX0_linesMeet 51 = .ok (.ireturn, 1) := by decide +kernel
theorem dX0_linesMeet_52 : decode cX0_linesMeet 52 = .ok (.aload_n 0, 1) := by decide +kernel
theorem dX0_linesMeet_53 : decode cX0_linesMeet 53 = .ok (.getfield 59, 3) := by decide +kernel
theorem dX0_linesMeet_56 : decode cX0_linesMeet 56 = .ok (.aload_n 0, 1) := by decide +kernel
theorem dX0_linesMeet_57 : decode cX0_linesMeet 57 = .ok (.getfield 65, 3) := by decide +kernel
theorem dX0_linesMeet_60 : decode cX0_linesMeet 60 = .ok (.invokestatic 99, 3) := by decide +kernel
theorem dX0_linesMeet_63 : decode cX0_linesMeet 63 = .ok (.aload_n 1, 1) := by decide +kernel
theorem dX0_linesMeet_64 : decode cX0_linesMeet 64 = .ok (.getfield 59, 3) := by decide +kernel
theorem dX0_linesMeet_67 : decode cX0_linesMeet 67 = .ok (.aload_n 1, 1) := by decide +kernel
theorem dX0_linesMeet_68 : decode cX0_linesMeet 68 = .ok (.getfield 65, 3) := by decide +kernel
theorem dX0_linesMeet_71 : decode cX0_linesMeet 71 = .ok (.invokestatic 105, 3) := by decide +kernel
theorem dX0_linesMeet_74 : decode cX0_linesMeet 74 = .ok (.if_icmp .lt 28, 3) := by decide +kernel
theorem dX0_linesMeet_77 : decode cX0_linesMeet 77 = .ok (.aload_n 1, 1) := by decide +kernel
theorem dX0_linesMeet_78 : decode cX0_linesMeet 78 = .ok (.getfield 59, 3) := by decide +kernel
theorem dX0_linesMeet_81 : decode cX0_linesMeet 81 = .ok (.aload_n 1, 1) := by decide +kernel
theorem dX0_linesMeet_82 : decode cX0_linesMeet 82 = .ok (.getfield 65, 3) := by decide +kernel
theorem dX0_linesMeet_85 : decode cX0_linesMeet 85 = .ok (.invokestatic 99, 3) := by decide +kernel
theorem dX0_linesMeet_88 : decode cX0_linesMeet 88 = .ok (.aload_n 0, 1) := by decide +kernel
theorem dX0_linesMeet_89 : decode cX0_linesMeet 89 = .ok (.getfield 59, 3) := by decide +kernel
theorem dX0_linesMeet_92 : decode cX0_linesMeet 92 = .ok (.aload_n 0, 1) := by decide +kernel
theorem dX0_linesMeet_93 : decode cX0_linesMeet 93 = .ok (.getfield 65, 3) := by decide +kernel
theorem dX0_linesMeet_96 : decode cX0_linesMeet 96 = .ok (.invokestatic 105, 3) := by decide +kernel
theorem dX0_linesMeet_99 : decode cX0_linesMeet 99 = .ok (.if_icmp .ge 5, 3) := by decide +kernel
theorem dX0_linesMeet_102 : decode cX0_linesMeet 102 = .ok (.iconst 0, 1) := by decide +kernel
theorem dX0_linesMeet_103 : decode cX0_linesMeet 103 = .ok (.ireturn, 1) := by decide +kernel
theorem dX0_linesMeet_104 : decode cX0_linesMeet 104 = .ok (.aload_n 0, 1) := by decide +kernel
theorem dX0_linesMeet_105 : decode cX0_linesMeet 105 = .ok (.aload_n 1, 1) := by decide +kernel
theorem dX0_linesMeet_106 : decode cX0_linesMeet 106 = .ok (.getfield 56, 3) := by decide +kernel
theorem dX0_linesMeet_109 : decode cX0_linesMeet 109 = .ok (.aload_n 1, 1) := by decide +kernel
theorem dX0_linesMeet_110 : decode cX0_linesMeet 110 = .ok (.getfield 59, 3) := by decide +kernel
theorem dX0_linesMeet_113 : decode cX0_linesMeet 113 = .ok (.invokevirtual 108, 3) := by decide +kernel
theorem dX0_linesMeet_116 : decode cX0_linesMeet 116 = .ok (.istore_n 2, 1) := by decide +kernel
theorem dX0_linesMeet_117 : decode cX0_linesMeet 117 = .ok (.aload_n 0, 1) := by decide +kernel
theorem dX0_linesMeet_118 : decode cX0_linesMeet 118 = .ok (.aload_n 1, 1) := by decide +kernel
theorem dX0_linesMeet_119 : decode cX0_linesMeet 119 = .ok (.getfield 62, 3) := by decide +kernel
theorem dX0_linesMeet_122 : decode cX0_linesMeet 122 = .ok (.aload_n 1, 1) := by decide +kernel
theorem dX0_linesMeet_123 : decode cX0_linesMeet 123 = .ok (.getfield 65, 3) := by decide +kernel
theorem dX0_linesMeet_126 : decode cX0_linesMeet 126 = .ok (.invokevirtual 108, 3) := by decide +kernel
theorem dX0_linesMeet_129 : decode cX0_linesMeet 129 = .ok (.istore_n 3, 1) := by decide +kernel
theorem dX0_linesMeet_130 : decode cX0_linesMeet 130 = .ok (.aload_n 1, 1) := by decide +kernel
theorem dX0_linesMeet_131 : decode cX0_linesMeet 131 = .ok (.aload_n 0, 1) := by decide +kernel
theorem dX0_linesMeet_132 : decode cX0_linesMeet 132 = .ok (.getfield 56, 3) := by decide +kernel
theorem dX0_linesMeet_135 : decode cX0_linesMeet 135 = .ok (.aload_n 0, 1) := by decide +kernel
theorem dX0_linesMeet_136 : decode cX0_linesMeet 136 = .ok (.getfield 59, 3) := by decide +kernel
theorem dX0_linesMeet_139 : decode cX0_linesMeet 139 = .ok (.invokevirtual 108, 3) := by decide +kernel
theorem dX0_linesMeet_142 : decode cX0_linesMeet 142 = .ok (.istore 4, 2) := by decide +kernel
theorem dX0_linesMeet_144 : decode cX0_linesMeet 144 = .ok (.aload_n 1, 1) := by decide +kernel
theorem dX0_linesMeet_145 : decode cX0_linesMeet 145 = .ok (.aload_n 0, 1) := by decide +kernel
theorem dX0_linesMeet_146 : decode cX0_linesMeet 146 = .ok (.getfield 62, 3) := by decide +kernel
theorem dX0_linesMeet_149 : decode cX0_linesMeet 149 = .ok (.aload_n 0, 1) := by decide +kernel
theorem dX0_linesMeet_150 : decode cX0_linesMeet 150 = .ok (.getfield 65, 3) := by decide +kernel
theorem dX0_linesMeet_153 : decode cX0_linesMeet 153 = .ok (.invokevirtual 108, 3) := by decide +kernel
theorem dX0_linesMeet_156 : decode cX0_linesMeet 156 = .ok (.istore 5, 2) := by decide +kernel
theorem dX0_linesMeet_158 : decode cX0_linesMeet 158 = .ok (.iload_n 2, 1) := by decide +kernel
theorem dX0_linesMeet_159 : decode cX0_linesMeet 159 = .ok (.ifCond .ge 7, 3) := by decide +kernel
theorem dX0_linesMeet_162 : decode cX0_linesMeet 162 = .ok (.iload_n 3, 1) := by decide +kernel
theorem dX0_linesMeet_163 : decode cX0_linesMeet 163 = .ok (.ifCond .lt 11, 3) := by decide +kernel
theorem dX0_linesMeet_166 : decode cX0_linesMeet 166 = .ok (.iload_n 2, 1) := by decide +kernel
theorem dX0_linesMeet_167 : decode cX0_linesMeet 167 = .ok (.ifCond .le 11, 3) := by decide +kernel
theorem dX0_linesMeet_170 : decode cX0_linesMeet 170 = .ok (.iload_n 3, 1) := by decide +kernel
theorem dX0_linesMeet_171 : decode cX0_linesMeet 171 = .ok (.ifCond .le 7, 3) := by decide +kernel
theorem dX0_linesMeet_174 : decode cX0_linesMeet 174 = .ok (.iconst 1, 1) := by decide +kernel
theorem dX0_linesMeet_175 : decode cX0_linesMeet 175 = .ok (.goto 4, 3) := by decide +kernel
theorem dX0_linesMeet_178 : decode cX0_linesMeet 178 = .ok (.iconst 0, 1) := by decide +kernel
theorem dX0_linesMeet_179 : decode cX0_linesMeet 179 = .ok (.istore 6, 2) := by decide +kernel
theorem dX0_linesMeet_181 : decode cX0_linesMeet 181 = .ok (.iload 4, 2) := by decide +kernel
theorem dX0_linesMeet_183 : decode cX0_linesMeet 183 = .ok (.ifCond .ge 8, 3) := by decide +kernel
theorem dX0_linesMeet_186 : decode cX0_linesMeet 186 = .ok (.iload 5, 2) := by decide +kernel
theorem dX0_linesMeet_188 : decode cX0_linesMeet 188 = .ok (.ifCond .lt 13, 3) := by decide +kernel
theorem dX0_linesMeet_191 : decode cX0_linesMeet 191 = .ok (.iload 4, 2) := by decide +kernel
theorem dX0_linesMeet_193 : decode cX0_linesMeet 193 = .ok (.ifCond .le 12, 3) := by decide +kernel
theorem dX0_linesMeet_196 : decode cX0_linesMeet 196 = .ok (.iload 5, 2) := by decide +kernel
theorem dX0_linesMeet_198 : decode cX0_linesMeet 198 = .ok (.ifCond .le 7, 3) := by decide +kernel
theorem dX0_linesMeet_201 : decode cX0_linesMeet 201 = .ok (.iconst 1, 1) := by decide +kernel
theorem dX0_linesMeet_202 : decode cX0_linesMeet 202 = .ok (.goto 4, 3) := by decide +kernel
theorem dX0_linesMeet_205 : decode cX0_linesMeet 205 = .ok (.iconst 0, 1) := by decide +kernel
theorem dX0_linesMeet_206 : decode cX0_linesMeet 206 = .ok (.istore 7, 2) := by decide +kernel
theorem dX0_linesMeet_208 : decode cX0_linesMeet 208 = .ok (.iload 6, 2) := by decide +kernel
theorem dX0_linesMeet_210 : decode cX0_linesMeet 210 = .ok (.ifCond .ne 12, 3) := by decide +kernel
theorem dX0_linesMeet_213 : decode cX0_linesMeet 213 = .ok (.iload 7, 2) := by decide +kernel
theorem dX0_linesMeet_215 : decode cX0_linesMeet 215 = .ok (.ifCond .ne 7, 3) := by decide +kernel
theorem dX0_linesMeet_218 : decode cX0_linesMeet 218 = .ok (.iconst 1, 1) := by decide +kernel
theorem dX0_linesMeet_219 : decode cX0_linesMeet 219 = .ok (.goto 4, 3) := by decide +kernel
theorem dX0_linesMeet_222 : decode cX0_linesMeet 222 = .ok (.iconst 0, 1) := by decide +kernel
theorem dX0_linesMeet_223 : decode cX0_linesMeet 223 = .ok (.ireturn, 1) := by decide +kernel
theorem dX0_sideOf_0 : decode cX0_sideOf 0 = .ok (.aload_n 0, 1) := by decide +kernel
theorem dX0_sideOf_1 : decode cX0_sideOf 1 = .ok (.getfield 62, 3) := by decide +kernel
theorem dX0_sideOf_4 : decode cX0_sideOf 4 = .ok (.aload_n 0, 1) := by decide +kernel
theorem dX0_sideOf_5 : decode cX0_sideOf 5 = .ok (.getfield 56, 3) := by decide +kernel
theorem dX0_sideOf_8 : decode cX0_sideOf 8 = .ok (.isub, 1) := by decide +kernel
theorem dX0_sideOf_9 : decode cX0_sideOf 9 = .ok (.iload_n 2, 1) := by decide +kernel
theorem dX0_sideOf_10 : decode cX0_sideOf 10 = .ok (.aload_n 0, 1) := by decide +kernel
theorem dX0_sideOf_11 : decode cX0_sideOf 11 = .ok (.getfield 59, 3) := by decide +kernel
theorem dX0_sideOf_14 : decode cX0_sideOf 14 = .ok (.isub, 1) := by decide +kernel
theorem dX0_sideOf_15 : decode cX0_sideOf 15 = .ok (.imul, 1) := by decide +kernel
theorem dX0_sideOf_16 : decode cX0_sideOf 16 = .ok (.aload_n 0, 1) := by decide +kernel
theorem dX0_sideOf_17 : decode cX0_sideOf 17 = .ok (.getfield 65, 3) := by decide +kernel
theorem dX0_sideOf_20 : decode cX0_sideOf 20 = .ok (.aload_n 0, 1) := by decide +kernel
theorem dX0_sideOf_21 : decode cX0_sideOf 21 = .ok (.getfield 59, 3) := by decide +kernel
theorem dX0_sideOf_24 : decode cX0_sideOf 24 = .ok (.isub, 1) := by decide +kernel
theorem dX0_sideOf_25 : decode cX0_sideOf 25 = .ok (.iload_n 1, 1) := by decide +kernel
theorem dX0_sideOf_26 : decode cX0_sideOf 26 = .ok (.aload_n 0, 1) := by decide +kernel
theorem dX0_sideOf_27 : decode cX0_sideOf 27 = .ok (.getfield 56, 3) := by decide +kernel
theorem dX0_sideOf_30 : decode cX0_sideOf 30 = .ok (.isub, 1) := by decide +kernel
theorem dX0_sideOf_31 : decode cX0_sideOf 31 = .ok (.imul, 1) := by decide +kernel
theorem dX0_sideOf_32 : decode cX0_sideOf 32 = .ok (.isub, 1) := by decide +kernel
theorem dX0_sideOf_33 : decode cX0_sideOf 33 = .ok (.ireturn, 1) := by decide +kernel
theorem dX1_init_0 : decode cX1_init 0 = .ok (.aload_n 0, 1) := by decide +kernel
theorem dX1_init_1 : decode cX1_init 1 = .ok (.invokespecial 3, 3) := by decide +kernel
theorem dX1_init_4 : decode cX1_init 4 = .ok (.aload_n 0, 1) := by decide +kernel
theorem dX1_init_5 : decode cX1_init 5 = .ok (.bipush 24, 2) := by decide +kernel
theorem dX1_init_7 : decode cX1_init 7 = .ok (.newarray .int, 2) := by decide +kernel
theorem dX1_init_9 : decode cX1_init 9 = .ok (.putfield 9, 3) := by decide +kernel
theorem dX1_init_12 : decode cX1_init 12 = .ok (.aload_n 0, 1) := by decide +kernel
theorem dX1_init_13 : decode cX1_init 13 = .ok (.bipush 24, 2) := by decide +kernel
theorem dX1_init_15 : decode cX1_init 15 = .ok (.newarray .int, 2) := by decide +kernel
theorem dX1_init_17 : decode cX1_init 17 = .ok (.putfield 15, 3) := by decide +kernel
theorem dX1_init_20 : decode cX1_init 20 = .ok (.aload_n 0, 1) := by decide +kernel
theorem dX1_init_21 : decode cX1_init 21 = .ok (.bipush 24, 2) := by decide +kernel
theorem dX1_init_23 : decode cX1_init 23 = .ok (.newarray .int, 2) := by decide +kernel
theorem dX1_init_25 : decode cX1_init 25 = .ok (.putfield 18, 3) := by decide +kernel
theorem dX1_init_28 : decode cX1_init 28 = .ok (.aload_n 0, 1) := by decide +kernel
theorem dX1_init_29 : decode cX1_init 29 = .ok (.bipush 24, 2) := by decide +kernel
theorem dX1_init_31 : decode cX1_init 31 = .ok (.newarray .int, 2) := by decide +kernel
theorem dX1_init_33 : decode cX1_init 33 = .ok (.putfield 21, 3) := by decide +kernel
theorem dX1_init_36 : decode cX1_init 36 = .ok (.aload_n 0, 1) := by decide +kernel
theorem dX1_init_37 : decode cX1_init 37 = .ok (.bipush 24, 2) := by decide +kernel
theorem dX1_init_39 : decode cX1_init 39 = .ok (.newarray .int, 2) := by decide +kernel
theorem dX1_init_41 : decode cX1_init 41 = .ok (.putfield 24, 3) := by decide +kernel
theorem dX1_init_44 : decode cX1_init 44 = .ok (.aload_n 0, 1) := by decide +kernel
theorem dX1_init_45 : decode cX1_init 45 = .ok (.bipush 24, 2) := by decide +kernel
theorem dX1_init_47 : decode cX1_init 47 = .ok (.newarray .int, 2) := by decide +kernel
theorem dX1_init_49 : decode cX1_init 49 = .ok (.putfield 27, 3) := by decide +kernel
theorem dX1_init_52 : decode cX1_init 52 = .ok (.aload_n 0, 1) := by decide +kernel
theorem dX1_init_53 : decode cX1_init 53 = .ok (.bipush 24, 2) := by decide +kernel
theorem dX1_init_55 : decode cX1_init 55 = .ok (.newarray .int, 2) := by decide +kernel
theorem dX1_init_57 : decode cX1_init 57 = .ok (.putfield 30, 3) := by decide +kernel
theorem dX1_init_60 : decode cX1_init 60 = .ok (.aload_n 0, 1) := by decide +kernel
theorem dX1_init_61 : decode cX1_init 61 = .ok (.bipush 20, 2) := by decide +kernel
theorem dX1_init_63 : decode cX1_init 63 = .ok (.newarray .int, 2) := by decide +kernel
theorem dX1_init_65 : decode cX1_init 65 = .ok (.putfield 33, 3) := by decide +kernel
theorem dX1_init_68 : decode cX1_init 68 = .ok (.aload_n 0, 1) := by decide +kernel
theorem dX1_init_69 : decode cX1_init 69 = .ok (.bipush 20, 2) := by decide +kernel
theorem dX1_init_71 : decode cX1_init 71 = .ok (.newarray .int, 2) := by decide +kernel
theorem dX1_init_73 : decode cX1_init 73 = .ok (.putfield 36, 3) := by decide +kernel
theorem dX1_init_76 : decode cX1_init 76 = .ok (.return_, 1) := by decide +kernel
theorem dX1_copyFrom_0 : decode cX1_copyFrom 0 = .ok (.aload_n 0, 1) := by decide +kernel
theorem dX1_copyFrom_1 : decode cX1_copyFrom 1 = .ok (.aload_n 1, 1) := by decide +kernel
theorem dX1_copyFrom_2 : decode cX1_copyFrom 2 = .ok (.getfield 39, 3) := by decide +kernel
theorem dX1_copyFrom_5 : decode cX1_copyFrom 5 = .ok (.putfield 39, 3) := by decide +kernel
theorem dX1_copyFrom_8 : decode cX1_copyFrom 8 = .ok (.aload_n 0, 1) := by decide +kernel
theorem dX1_copyFrom_9 : decode cX1_copyFrom 9 = .ok (.aload_n 1, 1) := by decide +kernel
theorem dX1_copyFrom_10 : decode cX1_copyFrom 10 = .ok (.getfield 43, 3) := by decide +kernel
theorem dX1_copyFrom_13 : decode cX1_copyFrom 13 = .ok (.putfield 43, 3) := by decide +kernel
theorem dX1_copyFrom_16 : decode cX1_copyFrom 16 = .ok (.aload_n 1, 1) := by decide +kernel
theorem dX1_copyFrom_17 : decode cX1_copyFrom 17 = .ok (.getfield 9, 3) := by decide +kernel
theorem dX1_copyFrom_20 : decode cX1_copyFrom 20 = .ok (.iconst 0, 1) := by decide +kernel
theorem dX1_copyFrom_21 : decode cX1_copyFrom 21 = .ok (.aload_n 0, 1) := by decide +kernel
theorem dX1_copyFrom_22 : decode cX1_copyFrom 22 = .ok (.getfield 9, 3) := by decide +kernel
theorem dX1_copyFrom_25 : decode cX1_copyFrom 25 = .ok (.iconst 0, 1) := by decide +kernel
theorem dX1_copyFrom_26 : decode cX1_copyFrom 26 = .ok (.aload_n 0, 1) := by decide +kernel
theorem dX1_copyFrom_27 : decode cX1_copyFrom 27 = .ok (.getfield 39, 3) := by decide +kernel
theorem dX1_copyFrom_30 : decode cX1_copyFrom 30 = .ok (.invokestatic 46, 3) := by decide +kernel
theorem dX1_copyFrom_33 : decode cX1_copyFrom 33 = .ok (.aload_n 1, 1) := by decide +kernel
theorem dX1_copyFrom_34 : decode cX1_copyFrom 34 = .ok (.getfield 15, 3) := by decide +kernel
theorem dX1_copyFrom_37 : decode cX1_copyFrom 37 = .ok (.iconst 0, 1) := by decide +kernel
theorem dX1_copyFrom_38 : decode cX1_copyFrom 38 = .ok (.aload_n 0, 1) := by decide +kernel
theorem dX1_copyFrom_39 : decode cX1_copyFrom 39 = .ok (.getfield 15, 3) := by decide +kernel
theorem dX1_copyFrom_42 : decode cX1_copyFrom 42 = .ok (.iconst 0, 1) := by decide +kernel
theorem dX1_copyFrom_43 : decode cX1_copyFrom 43 = .ok (.aload_n 0, 1) := by decide +kernel
theorem dX1_copyFrom_44 : decode cX1_copyFrom 44 = .ok (.getfield 39, 3) := by decide +kernel
theorem dX1_copyFrom_47 : decode cX1_copyFrom 47 = .ok (.invokestatic 46, 3) := by decide +kernel
theorem dX1_copyFrom_50 : decode cX1_copyFrom 50 = .ok (.aload_n 1, 1) := by decide +kernel
theorem dX1_copyFrom_51 : decode cX1_copyFrom 51 = .ok (.getfield 18, 3) := by decide +kernel
theorem dX1_copyFrom_54 : decode cX1_copyFrom 54 = .ok (.iconst 0, 1) := by decide +kernel
theorem dX1_copyFrom_55 : decode cX1_copyFrom 55 = .ok (.aload_n 0, 1) := by decide +kernel
theorem dX1_copyFrom_56 : decode cX1_copyFrom 56 = .ok (.getfield 18, 3) := by decide +kernel
theorem dX1_copyFrom_59 : decode cX1_copyFrom 59 = .ok (.iconst 0, 1) := by decide +kernel
theorem dX1_copyFrom_60 : decode cX1_copyFrom 60 = .ok (.aload_n 0, 1) := by decide +kernel
theorem dX1_copyFrom_61 : decode cX1_copyFrom 61 = .ok (.getfield 39, 3) := by decide +kernel
theorem dX1_copyFrom_64 : decode cX1_copyFrom 64 = .ok (.invokestatic 46, 3) := by decide +kernel
theorem dX1_copyFrom_67 : decode cX1_copyFrom 67 = .ok (.aload_n 1, 1) := by decide +kernel
theorem dX1_copyFrom_68 : decode cX1_copyFrom 68 = .ok (.getfield 21, 3) := by decide +kernel
theorem dX1_copyFrom_71 : decode cX1_copyFrom 71 = .ok (.iconst 0, 1) := by decide +kernel
theorem dX1_copyFrom_72 : decode cX1_copyFrom 72 = .ok (.aload_n 0, 1) := by decide +kernel
theorem dX1_copyFrom_73 : decode cX1_copyFrom 73 = .ok (.getfield 21, 3) := by decide +kernel
theorem dX1_copyFrom_76 : decode cX1_copyFrom 76 = .ok (.iconst 0, 1) := by decide +kernel
theorem dX1_copyFrom_77 : decode cX1_copyFrom 77 = .ok (.aload_n 0, 1) := by decide +kernel
theorem dX1_copyFrom_78 : decode cX1_copyFrom 78 = .ok (.getfield 39, 3) := by decide +kernel
theorem dX1_copyFrom_81 : decode cX1_copyFrom 81 = .ok (.invokestatic 46, 3) := by decide +kernel
theorem dX1_copyFrom_84 : decode cX1_copyFrom 84 = .ok (.aload_n 1, 1) := by decide +kernel
theorem dX1_copyFrom_85 : decode cX1_copyFrom 85 = .ok (.getfield 24, 3) := by decide +kernel
theorem dX1_copyFrom_88 : decode cX1_copyFrom 88 = .ok (.iconst 0, 1) := by decide +kernel
theorem dX1_copyFrom_89 : decode cX1_copyFrom 89 = .ok (.aload_n 0, 1) := by decide +kernel
theorem dX1_copyFrom_90 : decode cX1_copyFrom 90 = .ok (.getfield 24, 3) := by decide +kernel
theorem dX1_copyFrom_93 : decode cX1_copyFrom 93 = .ok (.iconst 0, 1) := by decide +kernel
theorem dX1_copyFrom_94 : decode cX1_copyFrom 94 = .ok (.aload_n 0, 1) := by decide +kernel
theorem dX1_copyFrom_95 : decode cX1_copyFrom 95 = .ok (.getfield 39, 3) := by decide +kernel
theorem dX1_copyFrom_98 : decode cX1_copyFrom 98 = .ok (.invokestatic 46, 3) := by decide +kernel
theorem dX1_copyFrom_101 : decode cX1_copyFrom 101 = .ok (.aload_n 1, 1) := by decide +kernel
theorem dX1_copyFrom_102 : decode cX1_copyFrom 102 = .ok (.getfield 27, 3) := by decide +kernel
theorem dX1_copyFrom_105 : decode cX1_copyFrom 105 = .ok (.iconst 0, 1) := by decide +kernel
theorem dX1_copyFrom_106 : decode cX1_copyFrom 106 = .ok (.aload_n 0, 1) := by decide +kernel
theorem dX1_copyFrom_107 : decode cX1_copyFrom 107 = .ok (.getfield 27, 3) := by decide +kernel
theorem dX1_copyFrom_110 : decode cX1_copyFrom 110 = .ok (.iconst 0, 1) := by decide +kernel
theorem dX1_copyFrom_111 : decode cX1_copyFrom 111 = .ok (.aload_n 0, 1) := by decide +kernel
theorem dX1_copyFrom_112 : decode cX1_copyFrom 112 = .ok (.getfield 39, 3) := by decide +kernel
theorem dX1_copyFrom_115 : decode cX1_copyFrom 115 = .ok (.invokestatic 46, 3) := by decide +kernel
theorem dX1_copyFrom_118 : decode cX1_copyFrom 118 = .ok (.aload_n 1, 1) := by decide +kernel
theorem dX1_copyFrom_119 : decode cX1_copyFrom 119 = .ok (.getfield 30, 3) := by decide +kernel
theorem dX1_copyFrom_122 : decode cX1_copyFrom 122 = .ok (.iconst 0, 1) := by decide +kernel
theorem dX1_copyFrom_123 : decode cX1_copyFrom 123 = .ok (.aload_n 0, 1) := by decide +kernel
theorem dX1_copyFrom_124 : decode cX1_copyFrom 124 = .ok (.getfield 30, 3) := by decide +kernel
theorem dX1_copyFrom_127 : decode cX1_copyFrom 127 = .ok (.iconst 0, 1) := by decide +kernel
theorem dX1_copyFrom_128 : decode cX1_copyFrom 128 = .ok (.aload_n 0, 1) := by decide +kernel
theorem dX1_copyFrom_129 : decode cX1_copyFrom 129 = .ok (.getfield 39, 3) := by decide +kernel
theorem dX1_copyFrom_132 : decode cX1_copyFrom 132 = .ok (.invokestatic 46, 3) := by decide +kernel
theorem dX1_copyFrom_135 : decode cX1_copyFrom 135 = .ok (.aload_n 1, 1) := by decide +kernel
theorem dX1_copyFrom_136 : decode cX1_copyFrom 136 = .ok (.getfield 33, 3) := by decide +kernel
theorem dX1_copyFrom_139 : decode cX1_copyFrom 139 = .ok (.iconst 0, 1) := by decide +kernel
theorem dX1_copyFrom_140 : decode cX1_copyFrom 140 = .ok (.aload_n 0, 1) := by decide +kernel
theorem dX1_copyFrom_141 : decode cX1_copyFrom 141 = .ok (.getfield 33, 3) := by decide +kernel
theorem dX1_copyFrom_144 : decode cX1_copyFrom 144 = .ok (.iconst 0, 1) := by decide +kernel
theorem dX1_copyFrom_145 : decode cX1_copyFrom 145 = .ok (.aload_n 0, 1) := by decide +kernel
theorem dX1_copyFrom_146 : decode cX1_copyFrom 146 = .ok (.getfield 43, 3) := by decide +kernel
theorem dX1_copyFrom_149 : decode cX1_copyFrom 149 = .ok (.invokestatic 46, 3) := by decide +kernel
theorem dX1_copyFrom_152 : decode cX1_copyFrom 152 = .ok (.aload_n 1, 1) := by decide +kernel
theorem dX1_copyFrom_153 : decode cX1_copyFrom 153 = .ok (.getfield 36, 3) := by decide +kernel
theorem dX1_copyFrom_156 : decode cX1_copyFrom 156 = .ok (.iconst 0, 1) := by decide +kernel
theorem dX1_copyFrom_157 : decode cX1_copyFrom 157 = .ok (.aload_n 0, 1) := by decide +kernel
theorem dX1_copyFrom_158 : decode cX1_copyFrom 158 = .ok (.getfield 36, 3) := by decide +kernel
theorem dX1_copyFrom_161 : decode cX1_copyFrom 161 = .ok (.iconst 0, 1) := by decide +kernel
theorem dX1_copyFrom_162 : decode cX1_copyFrom 162 = .ok (.aload_n 0, 1) := by decide +kernel
theorem dX1_copyFrom_163 : decode cX1_copyFrom 163 = .ok (.getfield 43, 3) := by decide +kernel
theorem dX1_copyFrom_166 : decode cX1_copyFrom 166 = .ok (.invokestatic 46, 3) := by decide +kernel
theorem dX1_copyFrom_169 : decode cX1_copyFrom 169 = .ok (.return_, 1) := by decide +kernel
theorem dX1_addName_0 : decode cX1_addName 0 = .ok (.aload_n 0, 1) := by decide +kernel
theorem dX1_addName_1 : decode cX1_addName 1 = .ok (.getfield 9, 3) := by decide +kernel
theorem dX1_addName_4 : decode cX1_addName 4 = .ok (.aload_n 0, 1) := by decide +kernel
theorem dX1_addName_5 : decode cX1_addName 5 = .ok (.getfield 39, 3) := by decide +kernel
theorem dX1_addName_8 : decode cX1_addName 8 = .ok (.iload_n 1, 1) := by decide +kernel
theorem dX1_addName_9 : decode cX1_addName 9 = .ok (.iastore, 1) := by decide +kernel
theorem dX1_addName_10 : decode cX1_addName 10 = .ok (.aload_n 0, 1) := by decide +kernel
theorem dX1_addName_11 : decode cX1_addName 11 = .ok (.getfield 15, 3) := by decide +kernel
theorem dX1_addName_14 : decode cX1_addName 14 = .ok (.aload_n 0, 1) := by decide +kernel
theorem dX1_addName_15 : decode cX1_addName 15 = .ok (.getfield 39, 3) := by decide +kernel
theorem dX1_addName_18 : decode cX1_addName 18 = .ok (.iload_n 2, 1) := by decide +kernel
theorem dX1_addName_19 : decode cX1_addName 19 = .ok (.iastore, 1) := by decide +kernel
theorem dX1_addName_20 : decode cX1_addName 20 = .ok (.aload_n 0, 1) := by decide +kernel
theorem dX1_addName_21 : decode cX1_addName 21 = .ok (.getfield 18, 3) := by decide +kernel
theorem dX1_addName_24 : decode cX1_addName 24 = .ok (.aload_n 0, 1) := by decide +kernel
theorem dX1_addName_25 : decode cX1_addName 25 = .ok (.getfield 39, 3) := by decide +kernel
theorem dX1_addName_28 : decode cX1_addName 28 = .ok (.iload_n 3, 1) := by decide +kernel
theorem dX1_addName_29 : decode cX1_addName 29 = .ok (.iastore, 1) := by decide +kernel
theorem dX1_addName_30 : decode cX1_addName 30 = .ok (.aload_n 0, 1) := by decide +kernel
theorem dX1_addName_31 : decode cX1_addName 31 = .ok (.getfield 21, 3) := by decide +kernel
theorem dX1_addName_34 : decode cX1_addName 34 = .ok (.aload_n 0, 1) := by decide +kernel
theorem dX1_addName_35 : decode cX1_addName 35 = .ok (.getfield 39, 3) := by decide +kernel
theorem dX1_addName_38 : decode cX1_addName 38 = .ok (.bipush 20, 2) := by decide +kernel
theorem dX1_addName_40 : decode cX1_addName 40 = .ok (.iastore, 1) := by decide +kernel
theorem dX1_addName_41 : decode cX1_addName 41 = .ok (.aload_n 0, 1) := by decide +kernel
theorem dX1_addName_42 : decode cX1_addName 42 = .ok (.getfield 24, 3) := by decide +kernel
theorem dX1_addName_45 : decode cX1_addName 45 = .ok (.aload_n 0, 1) := by decide +kernel
theorem dX1_addName_46 : decode cX1_addName 46 = .ok (.getfield 39, 3) := by decide +kernel
theorem dX1_addName_49 : decode cX1_addName 49 = .ok (.bipush 8, 2) := by decide +kernel
theorem dX1_addName_51 : decode cX1_addName 51 = .ok (.iastore, 1) := by decide +kernel
theorem dX1_addName_52 : decode cX1_addName 52 = .ok (.aload_n 0, 1) := by decide +kernel
theorem dX1_addName_53 : decode cX1_addName 53 = .ok (.getfield 27, 3) := by decide +kernel
theorem dX1_addName_56 : decode cX1_addName 56 = .ok (.aload_n 0, 1) := by decide +kernel
theorem dX1_addName_57 : decode cX1_addName 57 = .ok (.getfield 39, 3) := by decide +kernel
theorem dX1_addName_60 : decode cX1_addName 60 = .ok (.bipush 100, 2) := by decide +kernel
theorem dX1_addName_62 : decode cX1_addName 62 = .ok (.iastore, 1) := by decide +kernel
theorem dX1_addName_63 : decode cX1_addName 63 = .ok (.aload_n 0, 1) := by decide +kernel
theorem dX1_addName_64 : decode cX1_addName 64 = .ok (.getfield 30, 3) := by decide +kernel
theorem dX1_addName_67 : decode cX1_addName 67 = .ok (.aload_n 0, 1) := by decide +kernel
theorem dX1_addName_68 : decode cX1_addName 68 = .ok (.getfield 39, 3) := by decide +kernel
theorem dX1_addName_71 : decode cX1_addName 71 = .ok (.iconst (-1), 1) := by decide +kernel
theorem dX1_addName_72 : decode cX1_addName 72 = .ok (.iastore, 1) := by decide +kernel
theorem dX1_addName_73 : decode cX1_addName 73 = .ok (.aload_n 0, 1) := by decide +kernel
theorem dX1_addName_74 : decode cX1_addName 74 = .ok (.dup, 1) := by decide +kernel
theorem dX1_addName_75 : decode cX1_addName 75 = .ok (.getfield 39, 3) := by decide +kernel
theorem dX1_addName_78 : decode cX1_addName 78 = .ok (.dup_x1, 1) := by decide +kernel
theorem dX1_addName_79 : decode cX1_addName 79 = .ok (.iconst 1, 1) := by decide +kernel
theorem dX1_addName_80 : decode cX1_addName 80 = .ok (.iadd, 1) := by decide +kernel
theorem dX1_addName_81 : decode cX1_addName 81 = .ok (.putfield 39, 3) := by decide +kernel
theorem dX1_addName_84 : decode cX1_addName 84 = .ok (.ireturn, 1) := by decide +kernel
theorem dX1_addDot_0 : decode cX1_addDot 0 = .ok (.aload_n 0, 1) := by decide +kernel
theorem dX1_addDot_1 : decode cX1_addDot 1 = .ok (.getfield 33, 3) := by decide +kernel
theorem dX1_addDot_4 : decode cX1_addDot 4 = .ok (.aload_n 0, 1) := by decide +kernel
theorem dX1_addDot_5 : decode cX1_addDot 5 = .ok (.getfield 43, 3) := by decide +kernel
theorem dX1_addDot_8 : decode cX1_addDot 8 = .ok (.iload_n 1, 1) := by decide +kernel
theorem dX1_addDot_9 : decode cX1_addDot 9 = .ok (.iastore, 1) := by decide +kernel
theorem dX1_addDot_10 : decode cX1_addDot 10 = .ok (.aload_n 0, 1) := by decide +kernel
theorem dX1_addDot_11 : decode cX1_addDot 11 = .ok (.getfield 36, 3) := by decide +kernel
theorem dX1_addDot_14 : decode cX1_addDot 14 = .ok (.aload_n 0, 1) := by decide +kernel
theorem dX1_addDot_15 : decode cX1_addDot 15 = .ok (.getfield 43, 3) := by decide +kernel
theorem dX1_addDot_18 : decode cX1_addDot 18 = .ok (.iload_n 2, 1) := by decide +kernel
theorem dX1_addDot_19 : decode cX1_addDot 19 = .ok (.iastore, 1) := by decide +kernel
theorem dX1_addDot_20 : decode cX1_addDot 20 = .ok (.aload_n 0, 1) := by decide +kernel
theorem dX1_addDot_21 : decode cX1_addDot 21 = .ok (.dup, 1) := by decide +kernel
theorem dX1_addDot_22 : decode cX1_addDot 22 = .ok (.getfield 43, 3) := by decide +kernel
theorem dX1_addDot_25 : decode cX1_addDot 25 = .ok (.dup_x1, 1) := by decide +kernel
theorem dX1_addDot_26 : decode cX1_addDot 26 = .ok (.iconst 1, 1) := by decide +kernel
theorem dX1_addDot_27 : decode cX1_addDot 27 = .ok (.iadd, 1) := by decide +kernel
theorem dX1_addDot_28 : decode cX1_addDot 28 = .ok (.putfield 43, 3) := by decide +kernel
theorem dX1_addDot_31 : decode cX1_addDot 31 = .ok (.ireturn, 1) := by decide +kernel
theorem dX1_has_0 : decode cX1_has 0 = .ok (.iload_n 1, 1) := by decide +kernel
theorem dX1_has_1 : decode cX1_has 1 = .ok (.ifCond .lt 15, 3) := by decide +kernel
theorem dX1_has_4 : decode cX1_has 4 = .ok (.iload_n 1, 1) := by decide +kernel
theorem dX1_has_5 : decode cX1_has 5 = .ok (.aload_n 0, 1) := by decide +kernel
theorem dX1_has_6 : decode cX1_has 6 = .ok (.getfield 39, 3) := by decide +kernel
theorem dX1_has_9 : decode cX1_has 9 = .ok (.if_icmp .ge 7, 3) := by decide +kernel
theorem dX1_has_12 : decode cX1_has 12 = .ok (.iconst 1, 1) := by decide +kernel
theorem dX1_has_13 : decode cX1_has 13 = .ok (.goto 4, 3) := by decide +kernel
theorem dX1_has_16 : decode cX1_has 16 = .ok (.iconst 0, 1) := by decide +kernel
theorem dX1_has_17 : decode cX1_has 17 = .ok (.ireturn, 1) := by decide +kernel
theorem dX1_hasWay_0 : decode cX1_hasWay 0 = .ok (.aload_n 0, 1) := by decide +kernel
theorem dX1_hasWay_1 : decode cX1_hasWay 1 = .ok (.iload_n 1, 1) := by decide +kernel
theorem dX1_hasWay_2 : decode cX1_hasWay 2 = .ok (.invokevirtual 52, 3) := by decide +kernel
theorem dX1_hasWay_5 : decode cX1_hasWay 5 = .ok (.ifCond .eq 20, 3) := by decide +kernel
theorem dX1_hasWay_8 : decode cX1_hasWay 8 = .ok (.iload_n 2, 1) := by decide +kernel
theorem dX1_hasWay_9 : decode cX1_hasWay 9 = .ok (.ifCond .lt 16, 3) := by decide +kernel
theorem dX1_hasWay_12 : decode cX1_hasWay 12 = .ok (.iload_n 2, 1) := by decide +kernel
theorem dX1_hasWay_13 : decode cX1_hasWay 13 = .ok (.aload_n 0, 1) := by decide +kernel
theorem dX1_hasWay_14 : decode cX1_hasWay 14 = .ok (.iload_n 1, 1) := by decide +kernel
theorem dX1_hasWay_15 : decode cX1_hasWay 15 = .ok (.invokevirtual 56, 3) := by decide +kernel
theorem dX1_hasWay_18 : decode cX1_hasWay 18 = .ok (.if_icmp .ge 7, 3) := by decide +kernel
theorem dX1_hasWay_21 : decode cX1_hasWay 21 = .ok (.iconst 1, 1) := by decide +kernel
theorem dX1_hasWay_22 : decode cX1_hasWay 22 = .ok (.goto 4, 3) := by decide +kernel
theorem dX1_hasWay_25 : decode cX1_hasWay 25 = .ok (.iconst 0, 1) := by decide +kernel
theorem dX1_hasWay_26 : decode cX1_hasWay 26 = .ok (.ireturn, 1) := by decide +kernel
theorem dX1_waysOf_0 : decode cX1_waysOf 0 = .ok (.aload_n 0, 1) := by decide +kernel
theorem dX1_waysOf_1 : decode cX1_waysOf 1 = .ok (.getfield 9, 3) := by decide +kernel
theorem dX1_waysOf_4 : decode cX1_waysOf 4 = .ok (.iload_n 1, 1) := by decide +kernel
theorem dX1_waysOf_5 : decode cX1_waysOf 5 = .ok (.iaload, 1) := by decide +kernel
theorem dX1_waysOf_6 : decode cX1_waysOf 6 = .ok (.ifCond .ne 8, 3) := by decide +kernel
theorem dX1_waysOf_9 : decode cX1_waysOf 9 = .ok (.bipush 8, 2) := by decide +kernel
theorem dX1_waysOf_11 : decode cX1_waysOf 11 = .ok (.goto 5, 3) := by decide +kernel
theorem dX1_waysOf_14 : decode cX1_waysOf 14 = .ok (.bipush 16, 2) := by decide +kernel
theorem dX1_waysOf_16 : decode cX1_waysOf 16 = .ok (.ireturn, 1) := by decide +kernel
theorem dX1_isOfKind_0 : decode cX1_isOfKind 0 = .ok (.iload_n 2, 1) := by decide +kernel
theorem dX1_isOfKind_1 : decode cX1_isOfKind 1 = .ok (.ifCond .eq 28, 3) := by decide +kernel
theorem dX1_isOfKind_4 : decode cX1_isOfKind 4 = .ok (.iload_n 2, 1) := by decide +kernel
theorem dX1_isOfKind_5 : decode cX1_isOfKind 5 = .ok (.aload_n 0, 1) := by decide +kernel
theorem dX1_isOfKind_6 : decode cX1_isOfKind 6 = .ok (.getfield 9, 3) := by decide +kernel
theorem dX1_isOfKind_9 : decode cX1_isOfKind 9 = .ok (.iload_n 1, 1) := by decide +kernel
theorem dX1_isOfKind_10 : decode cX1_isOfKind 10 = .ok (.iaload, 1) := by decide +kernel
theorem dX1_isOfKind_11 : decode cX1_isOfKind 11 = .ok (.if_icmp .eq 18, 3) := by decide +kernel
theorem dX1_isOfKind_14 : decode cX1_isOfKind 14 = .ok (.iload_n 2, 1) := by decide +kernel
theorem dX1_isOfKind_15 : decode cX1_isOfKind 15 = .ok (.iconst 2, 1) := by decide +kernel
theorem dX1_isOfKind_16 : decode cX1_isOfKind 16 = .ok (.if_icmp .ne 17, 3) := by decide +kernel
theorem dX1_isOfKind_19 : decode cX1_isOfKind 19 = .ok (.aload_n 0, 1) := by decide +kernel
theorem dX1_isOfKind_20 : decode cX1_isOfKind 20 = .ok (.getfield 9, 3) := by decide +kernel
theorem dX1_isOfKind_23 : decode cX1_isOfKind 23 = .ok (.iload_n 1, 1) := by decide +kernel
theorem dX1_isOfKind_24 : decode cX1_isOfKind 24 = .ok (.iaload, 1) := by decide +kernel
theorem dX1_isOfKind_25 : decode cX1_isOfKind 25 = .ok (.iconst 3, 1) := by decide +kernel
theorem dX1_isOfKind_26 : decode cX1_isOfKind 26 = .ok (.if_icmp .ne 7, 3) := by decide +kernel
theorem dX1_isOfKind_29 : decode cX1_isOfKind 29 = .ok (.iconst 1, 1) := by decide +kernel
theorem dX1_isOfKind_30 : decode cX1_isOfKind 30 = .ok (.goto 4, 3) := by decide +kernel
theorem dX1_isOfKind_33 : decode cX1_isOfKind 33 = .ok (.iconst 0, 1) := by decide +kernel
theorem dX1_isOfKind_34 : decode cX1_isOfKind 34 = .ok (.ireturn, 1) := by decide +kernel
theorem dX1_priceOf_0 : decode cX1_priceOf 0 = .ok (.iload_n 2, 1) := by decide +kernel
theorem dX1_priceOf_1 : decode cX1_priceOf 1 = .ok (.bipush 8, 2) := by decide +kernel
theorem dX1_priceOf_3 : decode cX1_priceOf 3 = .ok (.if_icmp .ge 7, 3) := by decide +kernel
theorem dX1_priceOf_6 : decode cX1_priceOf 6 = .ok (.iconst 5, 1) := by decide +kernel
theorem dX1_priceOf_7 : decode cX1_priceOf 7 = .ok (.iload_n 2, 1) := by decide +kernel
theorem dX1_priceOf_8 : decode cX1_priceOf 8 = .ok (.imul, 1) := by decide +kernel
theorem dX1_priceOf_9 : decode cX1_priceOf 9 = .ok (.ireturn, 1) := by decide +kernel
theorem dX1_priceOf_10 : decode cX1_priceOf 10 = .ok (.iconst 5, 1) := by decide +kernel
theorem dX1_priceOf_11 : decode cX1_priceOf 11 = .ok (.iload_n 2, 1) := by decide +kernel
theorem dX1_priceOf_12 : decode cX1_priceOf 12 = .ok (.bipush 8, 2) := by decide +kernel
theorem dX1_priceOf_14 : decode cX1_priceOf 14 = .ok (.isub, 1) := by decide +kernel
theorem dX1_priceOf_15 : decode cX1_priceOf 15 = .ok (.imul, 1) := by decide +kernel
theorem dX1_priceOf_16 : decode cX1_priceOf 16 = .ok (.aload_n 0, 1) := by decide +kernel
theorem dX1_priceOf_17 : decode cX1_priceOf 17 = .ok (.getfield 9, 3) := by decide +kernel
theorem dX1_priceOf_20 : decode cX1_priceOf 20 = .ok (.iload_n 1, 1) := by decide +kernel
theorem dX1_priceOf_21 : decode cX1_priceOf 21 = .ok (.iaload, 1) := by decide +kernel
theorem dX1_priceOf_22 : decode cX1_priceOf 22 = .ok (.iconst 1, 1) := by decide +kernel
theorem dX1_priceOf_23 : decode cX1_priceOf 23 = .ok (.if_icmp .ne 8, 3) := by decide +kernel
theorem dX1_priceOf_26 : decode cX1_priceOf 26 = .ok (.bipush 20, 2) := by decide +kernel
theorem dX1_priceOf_28 : decode cX1_priceOf 28 = .ok (.goto 5, 3) := by decide +kernel
theorem dX1_priceOf_31 : decode cX1_priceOf 31 = .ok (.bipush 50, 2) := by decide +kernel
theorem dX1_priceOf_33 : decode cX1_priceOf 33 = .ok (.iadd, 1) := by decide +kernel
theorem dX1_priceOf_34 : decode cX1_priceOf 34 = .ok (.ireturn, 1) := by decide +kernel
theorem dX1_wayByPrice_0 : decode cX1_wayByPrice 0 = .ok (.aload_n 0, 1) := by decide +kernel
theorem dX1_wayByPrice_1 : decode cX1_wayByPrice 1 = .ok (.getfield 9, 3) := by decide +kernel
theorem dX1_wayByPrice_4 : decode cX1_wayByPrice 4 = .ok (.iload_n 1, 1) := by decide +kernel
theorem dX1_wayByPrice_5 : decode cX1_wayByPrice 5 = .ok (.iaload, 1) := by decide +kernel
theorem dX1_wayByPrice_6 : decode cX1_wayByPrice 6 = .ok (.iconst 1, 1) := by decide +kernel
theorem dX1_wayByPrice_7 : decode cX1_wayByPrice 7 = .ok (.if_icmp .ne 11, 3) := by decide +kernel
theorem dX1_wayByPrice_10 : decode cX1_wayByPrice 10 = .ok (.getstatic 60, 3) := by decide +kernel
theorem dX1_wayByPrice_13 : decode cX1_wayByPrice 13 = .ok (.iload_n 2, 1) := by decide +kernel
theorem dX1_wayByPrice_14 : decode cX1_wayByPrice 14 = .ok (.iaload, 1) := by decide +kernel
theorem dX1_wayByPrice_15 : decode cX1_wayByPrice 15 = .ok (.goto 4, 3) := by decide +kernel
theorem dX1_wayByPrice_18 : decode cX1_wayByPrice 18 = .ok (.iload_n 2, 1) := by decide +kernel
theorem dX1_wayByPrice_19 : decode cX1_wayByPrice 19 = .ok (.ireturn, 1) := by decide +kernel
theorem dX1_rankOf_0 : decode cX1_rankOf 0 = .ok (.aload_n 0, 1) := by decide +kernel
theorem dX1_rankOf_1 : decode cX1_rankOf 1 = .ok (.getfield 9, 3) := by decide +kernel
theorem dX1_rankOf_4 : decode cX1_rankOf 4 = .ok (.iload_n 1, 1) := by decide +kernel
theorem dX1_rankOf_5 : decode cX1_rankOf 5 = .ok (.iaload, 1) := by decide +kernel
theorem dX1_rankOf_6 : decode cX1_rankOf 6 = .ok (.iconst 1, 1) := by decide +kernel
theorem dX1_rankOf_7 : decode cX1_rankOf 7 = .ok (.if_icmp .ne 11, 3) := by decide +kernel
theorem dX1_rankOf_10 : decode cX1_rankOf 10 = .ok (.getstatic 63, 3) := by decide +kernel
theorem dX1_rankOf_13 : decode cX1_rankOf 13 = .ok (.iload_n 2, 1) := by decide +kernel
theorem dX1_rankOf_14 : decode cX1_rankOf 14 = .ok (.iaload, 1) := by decide +kernel
theorem dX1_rankOf_15 : decode cX1_rankOf 15 = .ok (.goto 4, 3) := by decide +kernel
theorem dX1_rankOf_18 : decode cX1_rankOf 18 = .ok (.iload_n 2, 1) := by decide +kernel
theorem dX1_rankOf_19 : decode cX1_rankOf 19 = .ok (.ireturn, 1) := by decide +kernel
theorem dX1_gainOf_0 : decode cX1_gainOf 0 = .ok (.aload_n 0, 1) := by decide +kernel
theorem dX1_gainOf_1 : decode cX1_gainOf 1 = .ok (.getfield 27, 3) := by decide +kernel
theorem dX1_gainOf_4 : decode cX1_gainOf 4 = .ok (.iload_n 1, 1) := by decide +kernel
theorem dX1_gainOf_5 : decode cX1_gainOf 5 = .ok (.iaload, 1) := by decide +kernel
theorem dX1_gainOf_6 : decode cX1_gainOf 6 = .ok (.sipush 200, 3) := by decide +kernel
theorem dX1_gainOf_9 : decode cX1_gainOf 9 = .ok (.aload_n 0, 1) := by decide +kernel
theorem dX1_gainOf_10 : decode cX1_gainOf 10 = .ok (.iload_n 1, 1) := by decide +kernel
theorem dX1_gainOf_11 : decode cX1_gainOf 11 = .ok (.iload_n 2, 1) := by decide +kernel
theorem dX1_gainOf_12 : decode cX1_gainOf 12 = .ok (.invokevirtual 66, 3) := by decide +kernel
theorem dX1_gainOf_15 : decode cX1_gainOf 15 = .ok (.isub, 1) := by decide +kernel
theorem dX1_gainOf_16 : decode cX1_gainOf 16 = .ok (.imul, 1) := by decide +kernel
theorem dX1_gainOf_17 : decode cX1_gainOf 17 = .ok (.ireturn, 1) := by decide +kernel
theorem dX1_areNear_0 : decode cX1_areNear 0 = .ok (.aload_n 0, 1) := by decide +kernel
theorem dX1_areNear_1 : decode cX1_areNear 1 = .ok (.getfield 15, 3) := by decide +kernel
theorem dX1_areNear_4 : decode cX1_areNear 4 = .ok (.iload_n 1, 1) := by decide +kernel
theorem dX1_areNear_5 : decode cX1_areNear 5 = .ok (.iaload, 1) := by decide +kernel
theorem dX1_areNear_6 : decode cX1_areNear 6 = .ok (.aload_n 0, 1) := by decide +kernel
theorem dX1_areNear_7 : decode cX1_areNear 7 = .ok (.getfield 15, 3) := by decide +kernel
theorem dX1_areNear_10 : decode cX1_areNear 10 = .ok (.iload_n 2, 1) := by decide +kernel
theorem dX1_areNear_11 : decode cX1_areNear 11 = .ok (.iaload, 1) := by decide +kernel
theorem dX1_areNear_12 : decode cX1_areNear 12 = .ok (.isub, 1) := by decide +kernel
theorem dX1_areNear_13 : decode cX1_areNear 13 = .ok (.invokestatic 70, 3) := by decide +kernel
theorem dX1_areNear_16 : decode cX1_areNear 16 = .ok (.aload_n 0, 1) := by decide +kernel
theorem dX1_areNear_17 : decode cX1_areNear 17 = .ok (.iload_n 1, 1) := by decide +kernel
theorem dX1_areNear_18 : decode cX1_areNear 18 = .ok (.invokevirtual 75, 3) := by decide +kernel
theorem dX1_areNear_21 : decode cX1_areNear 21 = .ok (.aload_n 0, 1) := by decide +kernel
theorem dX1_areNear_22 : decode cX1_areNear 22 = .ok (.iload_n 2, 1) := by decide +kernel
theorem dX1_areNear_23 : decode cX1_areNear 23 = .ok (.invokevirtual 75, 3) := by decide +kernel
theorem dX1_areNear_26 : decode cX1_areNear 26 = .ok (.iadd, 1) := by decide +kernel
theorem dX1_areNear_27 : decode cX1_areNear 27 = .ok (.if_icmp .ge 37, 3) := by decide +kernel
theorem dX1_areNear_30 : decode cX1_areNear 30 = .ok (.aload_n 0, 1) := by decide +kernel
theorem dX1_areNear_31 : decode cX1_areNear 31 = .ok (.getfield 18, 3) := by decide +kernel
theorem dX1_areNear_34 : decode cX1_areNear 34 = .ok (.iload_n 1, 1) := by decide +kernel
theorem dX1_areNear_35 : decode cX1_areNear 35 = .ok (.iaload, 1) := by decide +kernel
theorem dX1_areNear_36 : decode cX1_areNear 36 = .ok (.aload_n 0, 1) := by decide +kernel
theorem dX1_areNear_37 : decode cX1_areNear 37 = .ok (.getfield 18, 3) := by decide +kernel
theorem dX1_areNear_40 : decode cX1_areNear 40 = .ok (.iload_n 2, 1) := by decide +kernel
theorem dX1_areNear_41 : decode cX1_areNear 41 = .ok (.iaload, 1) := by decide +kernel
theorem dX1_areNear_42 : decode cX1_areNear 42 = .ok (.isub, 1) := by decide +kernel
theorem dX1_areNear_43 : decode cX1_areNear 43 = .ok (.invokestatic 70, 3) := by decide +kernel
theorem dX1_areNear_46 : decode cX1_areNear 46 = .ok (.aload_n 0, 1) := by decide +kernel
theorem dX1_areNear_47 : decode cX1_areNear 47 = .ok (.iload_n 1, 1) := by decide +kernel
theorem dX1_areNear_48 : decode cX1_areNear 48 = .ok (.invokevirtual 78, 3) := by decide +kernel
theorem dX1_areNear_51 : decode cX1_areNear 51 = .ok (.aload_n 0, 1) := by decide +kernel
theorem dX1_areNear_52 : decode cX1_areNear 52 = .ok (.iload_n 2, 1) := by decide +kernel
theorem dX1_areNear_53 : decode cX1_areNear 53 = .ok (.invokevirtual 78, 3) := by decide +kernel
theorem dX1_areNear_56 : decode cX1_areNear 56 = .ok (.iadd, 1) := by decide +kernel
theorem dX1_areNear_57 : decode cX1_areNear 57 = .ok (.if_icmp .ge 7, 3) := by decide +kernel
theorem dX1_areNear_60 : decode cX1_areNear 60 = .ok (.iconst 1, 1) := by decide +kernel
theorem dX1_areNear_61 : decode cX1_areNear 61 = .ok (.goto 4, 3) := by decide +kernel
theorem dX1_areNear_64 : decode cX1_areNear 64 = .ok (.iconst 0, 1) := by decide +kernel
theorem dX1_areNear_65 : decode cX1_areNear 65 = .ok (.ireturn, 1) := by decide +kernel
theorem dX1_reachAcross_0 : decode cX1_reachAcross 0 = .ok (.aload_n 0, 1) := by decide +kernel
theorem dX1_reachAcross_1 : decode cX1_reachAcross 1 = .ok (.getfield 21, 3) := by decide +kernel
theorem dX1_reachAcross_4 : decode cX1_reachAcross 4 = .ok (.iload_n 1, 1) := by decide +kernel
theorem dX1_reachAcross_5 : decode cX1_reachAcross 5 = .ok (.iaload, 1) := by decide +kernel
theorem dX1_reachAcross_6 : decode cX1_reachAcross 6 = .ok (.aload_n 0, 1) := by decide +kernel
theorem dX1_reachAcross_7 : decode cX1_reachAcross 7 = .ok (.iload_n 1, 1) := by decide +kernel
theorem dX1_reachAcross_8 : decode cX1_reachAcross 8 = .ok (.iconst 2, 1) := by decide +kernel
theorem dX1_reachAcross_9 : decode cX1_reachAcross 9 = .ok (.invokevirtual 81, 3) := by decide +kernel
theorem dX1_reachAcross_12 : decode cX1_reachAcross 12 = .ok (.ifCond .eq 8, 3) := by decide +kernel
theorem dX1_reachAcross_15 : decode cX1_reachAcross 15 = .ok (.bipush 40, 2) := by decide +kernel
theorem dX1_reachAcross_17 : decode cX1_reachAcross 17 = .ok (.goto 4, 3) := by decide +kernel
theorem dX1_reachAcross_20 : decode cX1_reachAcross 20 = .ok (.iconst 2, 1) := by decide +kernel
theorem dX1_reachAcross_21 : decode cX1_reachAcross 21 = .ok (.iadd, 1) := by decide +kernel
theorem dX1_reachAcross_22 : decode cX1_reachAcross 22 = .ok (.ireturn, 1) := by decide +kernel
theorem dX1_reachDown_0 : decode cX1_reachDown 0 = .ok (.aload_n 0, 1) := by decide +kernel
theorem dX1_reachDown_1 : decode cX1_reachDown 1 = .ok (.getfield 9, 3) := by decide +kernel
theorem dX1_reachDown_4 : decode cX1_reachDown 4 = .ok (.iload_n 1, 1) := by decide +kernel
theorem dX1_reachDown_5 : decode cX1_reachDown 5 = .ok (.iaload, 1) := by decide +kernel
theorem dX1_reachDown_6 : decode cX1_reachDown 6 = .ok (.iconst 1, 1) := by decide +kernel
theorem dX1_reachDown_7 : decode cX1_reachDown 7 = .ok (.if_icmp .ne 14, 3) := by decide +kernel
theorem dX1_reachDown_10 : decode cX1_reachDown 10 = .ok (.iconst 2, 1) := by decide +kernel
theorem dX1_reachDown_11 : decode cX1_reachDown 11 = .ok (.aload_n 0, 1) := by decide +kernel
theorem dX1_reachDown_12 : decode cX1_reachDown 12 = .ok (.getfield 24, 3) := by decide +kernel
theorem dX1_reachDown_15 : decode cX1_reachDown 15 = .ok (.iload_n 1, 1) := by decide +kernel
theorem dX1_reachDown_16 : decode cX1_reachDown 16 = .ok (.iaload, 1) := by decide +kernel
theorem dX1_reachDown_17 : decode cX1_reachDown 17 = .ok (.imul, 1) := by decide +kernel
theorem dX1_reachDown_18 : decode cX1_reachDown 18 = .ok (.goto 9, 3) := by decide +kernel
theorem dX1_reachDown_21 : decode cX1_reachDown 21 = .ok (.aload_n 0, 1) := by decide +kernel
theorem dX1_reachDown_22 : decode cX1_reachDown 22 = .ok (.getfield 24, 3) := by decide +kernel
theorem dX1_reachDown_25 : decode cX1_reachDown 25 = .ok (.iload_n 1, 1) := by decide +kernel
theorem dX1_reachDown_26 : decode cX1_reachDown 26 = .ok (.iaload, 1) := by decide +kernel
theorem dX1_reachDown_27 : decode cX1_reachDown 27 = .ok (.aload_n 0, 1) := by decide +kernel
theorem dX1_reachDown_28 : decode cX1_reachDown 28 = .ok (.iload_n 1, 1) := by decide +kernel
theorem dX1_reachDown_29 : decode cX1_reachDown 29 = .ok (.iconst 2, 1) := by decide +kernel
theorem dX1_reachDown_30 : decode cX1_reachDown 30 = .ok (.invokevirtual 81, 3) := by decide +kernel
theorem dX1_reachDown_33 : decode cX1_reachDown 33 = .ok (.ifCond .eq 8, 3) := by decide +kernel
theorem dX1_reachDown_36 : decode cX1_reachDown 36 = .ok (.bipush 40, 2) := by decide +kernel
theorem dX1_reachDown_38 : decode cX1_reachDown 38 = .ok (.goto 4, 3) := by decide +kernel
theorem dX1_reachDown_41 : decode cX1_reachDown 41 = .ok (.iconst 2, 1) := by decide +kernel
theorem dX1_reachDown_42 : decode cX1_reachDown 42 = .ok (.iadd, 1) := by decide +kernel
theorem dX1_reachDown_43 : decode cX1_reachDown 43 = .ok (.ireturn, 1) := by decide +kernel
theorem dX1_queue_0 : decode cX1_queue 0 = .ok (.iconst 0, 1) := by decide +kernel
theorem dX1_queue_1 : decode cX1_queue 1 = .ok (.istore_n 2, 1) := by decide +kernel
theorem dX1_queue_2 : decode cX1_queue 2 = .ok (.iload_n 2, 1) := by decide +kernel
theorem dX1_queue_3 : decode cX1_queue 3 = .ok (.aload_n 0, 1) := by decide +kernel
theorem dX1_queue_4 : decode cX1_queue 4 = .ok (.getfield 39, 3) := by decide +kernel
theorem dX1_queue_7 : decode cX1_queue 7 = .ok (.if_icmp .ge 46, 3) := by decide +kernel
theorem dX1_queue_10 : decode cX1_queue 10 = .ok (.iload_n 2, 1) := by decide +kernel
theorem dX1_queue_11 : decode cX1_queue 11 = .ok (.istore_n 3, 1) := by decide +kernel
theorem dX1_queue_12 : decode cX1_queue 12 = .ok (.iload_n 3, 1) := by decide +kernel
theorem dX1_queue_13 : decode cX1_queue 13 = .ok (.ifCond .le 30, 3) := by decide +kernel
theorem dX1_queue_16 : decode cX1_queue 16 = .ok (.aload_n 0, 1) := by decide +kernel
theorem dX1_queue_17 : decode cX1_queue 17 = .ok (.iload_n 2, 1) := by decide +kernel
theorem dX1_queue_18 : decode cX1_queue 18 = .ok (.aload_n 1, 1) := by decide +kernel
theorem dX1_queue_19 : decode cX1_queue 19 = .ok (.iload_n 3, 1) := by decide +kernel
theorem dX1_queue_20 : decode cX1_queue 20 = .ok (.iconst 1, 1) := by decide +kernel
theorem dX1_queue_21 : decode cX1_queue 21 = .ok (.isub, 1) := by decide +kernel
theorem dX1_queue_22 : decode cX1_queue 22 = .ok (.iaload, 1) := by decide +kernel
theorem dX1_queue_23 : decode cX1_queue 23 = .ok (.invokevirtual 85, 3) := by decide +kernel
theorem dX1_queue_26 : decode cX1_queue 26 = .ok (.ifCond .eq 17, 3) := by decide +kernel
theorem dX1_queue_29 : decode cX1_queue 29 = .ok (.aload_n 1, 1) := by decide +kernel
theorem dX1_queue_30 : decode cX1_queue 30 = .ok (.iload_n 3, 1) := by decide +kernel
theorem dX1_queue_31 : decode cX1_queue 31 = .ok (.aload_n 1, 1) := by decide +kernel
theorem dX1_queue_32 : decode cX1_queue 32 = .ok (.iload_n 3, 1) := by decide +kernel
theorem dX1_queue_33 : decode cX1_queue 33 = .ok (.iconst 1, 1) := by decide +kernel
theorem dX1_queue_34 : decode cX1_queue 34 = .ok (.isub, 1) := by decide +kernel
theorem dX1_queue_35 : decode cX1_queue 35 = .ok (.iaload, 1) := by decide +kernel
theorem dX1_queue_36 : decode cX1_queue 36 = .ok (.iastore, 1) := by decide +kernel
theorem dX1_queue_37 : decode cX1_queue 37 = .ok (.iinc 3 (-1), 3) := by decide +kernel
theorem dX1_queue_40 : decode cX1_queue 40 = .ok (.goto (-28), 3) := by decide +kernel
theorem dX1_queue_43 : decode cX1_queue 43 = .ok (.aload_n 1, 1) := by decide +kernel
theorem dX1_queue_44 : decode cX1_queue 44 = .ok (.iload_n 3, 1) := by decide +kernel
theorem dX1_queue_45 : decode cX1_queue 45 = .ok (.iload_n 2, 1) := by decide +kernel
theorem dX1_queue_46 : decode cX1_queue 46 = .ok (.iastore, 1) := by decide +kernel
theorem dX1_queue_47 : decode cX1_queue 47 = .ok (.iinc 2 1, 3) := by decide +kernel
theorem dX1_queue_50 : decode cX1_queue 50 = .ok (.goto (-48), 3) := by decide +kernel
theorem dX1_queue_53 : decode cX1_queue 53 = .ok (.return_, 1) := by decide +kernel
theorem dX1_isServedAhead_0 : decode cX1_isServedAhead 0 = .ok (.aload_n 0, 1) := by decide +kernel
theorem dX1_isServedAhead_1 : decode cX1_isServedAhead 1 = .ok (.getfield 9, 3) := by decide +kernel
theorem dX1_isServedAhead_4 : decode cX1_isServedAhead 4 = .ok (.iload_n 1, 1) := by decide +kernel
theorem dX1_isServedAhead_5 : decode cX1_isServedAhead 5 = .ok (.iaload, 1) := by decide +kernel
theorem dX1_isServedAhead_6 : decode cX1_isServedAhead 6 = .ok (.iconst 3, 1) := by decide +kernel
theorem dX1_isServedAhead_7 : decode cX1_isServedAhead 7 = .ok (.if_icmp .ne 7, 3) := by decide +kernel
theorem dX1_isServedAhead_10 : decode cX1_isServedAhead 10 = .ok (.iconst 1, 1) := by decide +kernel
theorem dX1_isServedAhead_11 : decode cX1_isServedAhead 11 = .ok (.goto 4, 3) := by decide +kernel
theorem dX1_isServedAhead_14 : decode cX1_isServedAhead 14 = .ok (.iconst 0, 1) := by decide +kernel
theorem dX1_isServedAhead_15 : decode cX1_isServedAhead 15 = .ok (.istore_n 3, 1) := by decide +kernel
theorem dX1_isServedAhead_16 : decode cX1_isServedAhead 16 = .ok (.iload_n 3, 1) := by decide +kernel
theorem dX1_isServedAhead_17 : decode cX1_isServedAhead 17 = .ok (.aload_n 0, 1) := by decide +kernel
theorem dX1_isServedAhead_18 : decode cX1_isServedAhead 18 = .ok (.getfield 9, 3) := by decide +kernel
theorem dX1_isServedAhead_21 : decode cX1_isServedAhead 21 = .ok (.iload_n 2, 1) := by decide +kernel
theorem dX1_isServedAhead_22 : decode cX1_isServedAhead 22 = .ok (.iaload, 1) := by decide +kernel
theorem dX1_isServedAhead_23 : decode cX1_isServedAhead 23 = .ok (.iconst 3, 1) := by decide +kernel
theorem dX1_isServedAhead_24 : decode cX1_isServedAhead 24 = .ok (.if_icmp .ne 7, 3) := by decide +kernel
theorem dX1_isServedAhead_27 : decode cX1_isServedAhead 27 = .ok (.iconst 1, 1) := by decide +kernel
theorem dX1_isServedAhead_28 : decode cX1_isServedAhead 28 = .ok (.goto 4, 3) := by decide +kernel
theorem dX1_isServedAhead_31 : decode cX1_isServedAhead 31 = .ok (.iconst 0, 1) := by decide +kernel
theorem dX1_isServedAhead_32 : decode cX1_isServedAhead 32 = .ok (.if_icmp .eq 5, 3) := by decide +kernel
theorem dX1_isServedAhead_35 : decode cX1_isServedAhead 35 = .ok (.iload_n 3, 1) := by decide +kernel
theorem dX1_isServedAhead_36 : decode cX1_isServedAhead 36 = .ok (.ireturn, 1) := by decide +kernel
theorem dX1_isServedAhead_37 : decode cX1_isServedAhead 37 = .ok (.aload_n 0, 1) := by decide +kernel
theorem dX1_isServedAhead_38 : decode cX1_isServedAhead 38 = .ok (.getfield 27, 3) := by decide +kernel
theorem dX1_isServedAhead_41 : decode cX1_isServedAhead 41 = .ok (.iload_n 1, 1) := by decide +kernel
theorem dX1_isServedAhead_42 : decode cX1_isServedAhead 42 = .ok (.iaload, 1) := by decide +kernel
theorem dX1_isServedAhead_43 : decode cX1_isServedAhead 43 = .ok (.aload_n 0, 1) := by decide +kernel
theorem dX1_isServedAhead_44 : decode cX1_isServedAhead 44 = .ok (.getfield 27, 3) := by decide +kernel
theorem dX1_isServedAhead_47 : decode cX1_isServedAhead 47 = .ok (.iload_n 2, 1) := by decide +kernel
theorem dX1_isServedAhead_48 : decode cX1_isServedAhead 48 = .ok (.iaload, 1) := by decide +kernel
theorem dX1_isServedAhead_49 : decode cX1_isServedAhead 49 = .ok (.if_icmp .le 7, 3) := by decide +kernel
theorem dX1_isServedAhead_52 : decode cX1_isServedAhead 52 = .ok (.iconst 1, 1) := by decide +kernel
theorem dX1_isServedAhead_53 : decode cX1_isServedAhead 53 = .ok (.goto 4, 3) := by decide +kernel
theorem dX1_isServedAhead_56 : decode cX1_isServedAhead 56 = .ok (.iconst 0, 1) := by decide +kernel
theorem dX1_isServedAhead_57 : decode cX1_isServedAhead 57 = .ok (.ireturn, 1) := by decide +kernel
end
section
/-! THE MEMORY AND THE SHAPE: objects have numbers; what a number is (kd), how long an array is (ln), where its references go (rf) never changes behind the constructors; the memory holds the ints (and booleans) and the longs. -/
abbrev Me : Type := (Nat → Nat → Int32) × (Nat → Nat → Int64)
def si (m : Me) (o j : Nat) (v : Int32) : Me := (fun a b => if a = o ∧ b = j then v else m.1 a b, m.2)
def sl (m : Me) (o j : Nat) (v : Int64) : Me := (m.1, fun a b => if a = o ∧ b = j then v else m.2 a b)
def sr (m : Me) (o : Nat) (f : Nat → Int32) : Me := (fun a => if a = o then f else m.1 a, m.2)
/-- class (0 .. 8) or array (20 int, 21 long, 22 boolean, 23 Box, 24 Chart); 99: nothing -/
def kd (o : Nat) : Nat :=
  if o < 10 then [7, 2, 24, 3, 23, 20, 4, 20, 20, 6].getD o 99
  else if o < 100 then (if o % 10 = 0 then 1 else 20)
  else if o < 111 then [20, 22, 20, 21, 21, 5, 20, 20, 20, 20, 20].getD (o - 100) 99
  else if o < 200 then 99
  else if o < 223 then [8, 20, 20, 20, 20, 20, 20, 20, 20, 20, 20, 21, 21, 20, 22, 20, 20, 20, 20, 20, 20, 20, 20].getD (o - 200) 99
  else if o < 1000 then 99
  else if o < 1388 then 0 else 99
def ln (o : Nat) : Nat :=
  if o < 10 then [0, 0, 8, 0, 384, 24, 0, 24, 24, 0].getD o 0
  else if o < 100 then (if 8 ≤ o % 10 then 20 else 24)
  else if o < 111 then [7, 7, 119, 119, 119, 0, 24, 24, 24, 24, 24].getD (o - 100) 0
  else [0, 24, 24, 24, 24, 24, 24, 24, 20, 20, 1680, 8, 8, 24, 384, 24, 24, 24, 25, 24, 24, 24, 24].getD (o - 200) 0
def rf (o j : Nat) : Option Nat :=
  if o = 0 then [10, 1, 3, 6, 9, 105, 1384, 1385, 109, 110][j]?
  else if o = 1 then [2][j]?
  else if o = 2 then some (20 + 10 * j)
  else if o = 3 then [4, 5][j]?
  else if o = 4 then some (1000 + j)
  else if o = 6 then [7, 8][j]?
  else if o = 9 then [100, 101, 102, 103, 104][j]?
  else if o < 100 then some (o + j - 1)
  else if o = 105 then [106, 107, 108, 1386, 1387][j]?
  else [none, none, none, some 201, some 202, some 203, some 204, some 205, some 206, some 207, some 208, some 209, some 210, none, none, none, none, none, none, none, some 211, some 212, none, none, none, none, some 213, some 214, some 215, none, some 216, some 217, none, some 218, some 219, some 220, some 221, some 222].getD j none
/-- the slots of a class by their types: 0 int, 1 boolean, 2 long, 3 reference -/
def ftT : List (List Nat) := [[0, 0, 0, 0, 1, 0, 0, 0, 0], [0, 0, 3, 3, 3, 3, 3, 3, 3, 3, 3], [3, 0, 0], [3, 3, 1], [3, 3, 0, 0, 1], [3, 3, 3, 3, 3, 1], [3, 3, 3, 3, 3, 0, 2, 2, 0, 0], [3, 3, 3, 3, 3, 3, 3, 3, 3, 3], [0, 0, 0, 3, 3, 3, 3, 3, 3, 3, 3, 3, 3, 0, 0, 0, 0, 0, 0, 0, 3, 3, 2, 2, 2, 2, 3, 3, 3, 0, 3, 3, 0, 3, 3, 3, 3, 3]]
def ft (c j : Nat) : Nat := (ftT.getD c []).getD j 9
def nf (c : Nat) : Nat := (ftT.getD c []).length
def sv (ad : Nat → Nat) (m : Me) (o j t : Nat) : Value := if t < 2 then .int (m.1 o j) else if t = 2 then .long (m.2 o j) else va_rf ((rf o j).map ad)
def fsOf (ad : Nat → Nat) (m : Me) (o : Nat) : List Value := (List.range (nf (kd o))).map (fun j => sv ad m o j (ft (kd o) j))
def cel (cy : Nat → ClassId) (ad : Nat → Nat) (m : Me) (o : Nat) : va_E :=
  if kd o < 9 then .inr (kd o, fsOf ad m o)
  else if kd o = 20 then .inl (cy 0, ln o, .inl (m.1 o))
  else if kd o = 21 then .inl (cy 1, ln o, .inr (.inl (m.2 o)))
  else if kd o = 22 then .inl (cy 2, ln o, .inl (m.1 o))
  else if kd o = 23 then .inl (cy 3, ln o, .inr (.inr (.inr (.inr (fun i => (rf o i).map ad)))))
  else .inl (cy 4, ln o, .inr (.inr (.inr (.inr (fun i => (rf o i).map ad)))))
def Lv : List Nat := (List.range 1388).filter (fun o => kd o != 99)
theorem Lv_in {o : Nat} (h : kd o ≠ 99) : o ∈ Lv := by
  refine List.mem_filter.mpr ⟨List.mem_range.mpr ?_, by simpa using h⟩
  rcases Nat.lt_or_ge o 1388 with q | q
  · exact q
  · exact absurd (by unfold kd; rw [if_neg (by omega), if_neg (by omega), if_neg (by omega), if_neg (by omega), if_neg (by omega), if_neg (by omega), if_neg (by omega)]) h
theorem Lv_nd : Lv.Nodup := List.Pairwise.filter _ List.nodup_range
def wsW (cy : Nat → ClassId) (ad : Nat → Nat) (m : Me) : va_W := Lv.map (fun o => (ad o, cel cy ad m o))
theorem ws_get {cy : Nat → ClassId} {ad : Nat → Nat} {m : Me} {o : Nat} (h : kd o ≠ 99) : ∃ k : Nat, Lv[k]? = some o ∧ (wsW cy ad m)[k]? = some (ad o, cel cy ad m o) := by
  obtain ⟨k, hk⟩ := List.getElem?_of_mem (Lv_in h)
  exact ⟨k, hk, by unfold wsW; rw [List.getElem?_map, hk]; rfl⟩
theorem ws_set {cy : Nat → ClassId} {ad : Nat → Nat} {m m' : Me} {o k : Nat} {e : va_E} (hk : Lv[k]? = some o) (h1 : cel cy ad m' o = e) (h2 : ∀ o', o' ≠ o → cel cy ad m' o' = cel cy ad m o') : (wsW cy ad m).set k (ad o, e) = wsW cy ad m' := by
  apply List.ext_getElem?
  intro i
  unfold wsW
  rw [List.getElem?_set, List.getElem?_map, List.length_map]
  by_cases hi : k = i
  · subst hi
    have hl := (List.getElem?_eq_some_iff.mp hk).1
    rw [if_pos rfl, if_pos hl, List.getElem?_map, hk, ← h1]
    rfl
  · rw [if_neg hi, List.getElem?_map]
    cases hx : Lv[i]? with
    | none => rfl
    | some o' =>
      have hne : o' ≠ o := by
        intro q
        subst q
        have hl := (List.getElem?_eq_some_iff.mp hk).1
        have e1 := (List.getElem?_eq_some_iff.mp hk).2
        have hl2 := (List.getElem?_eq_some_iff.mp hx).1
        have e2 := (List.getElem?_eq_some_iff.mp hx).2
        exact hi ((List.getElem_inj Lv_nd).mp (e1.trans e2.symm))
      show some (ad o', cel cy ad m o') = some (ad o', cel cy ad m' o')
      rw [h2 o' hne]
/-- the addresses are apart, and of A -/
def Ap (A : Nat → Prop) (ad : Nat → Nat) : Prop := (∀ o o' : Nat, kd o ≠ 99 → kd o' ≠ 99 → ad o = ad o' → o = o') ∧ ∀ o : Nat, kd o ≠ 99 → A (ad o)
theorem Lv_kd {k o : Nat} (h : Lv[k]? = some o) : kd o ≠ 99 := by
  have h1 := (List.mem_filter.mp (List.mem_of_getElem? h)).2
  simpa using h1
theorem Ap.D {A : Nat → Prop} {ad : Nat → Nat} (h : Ap A ad) (cy : Nat → ClassId) (m : Me) : va_D A (wsW cy ad m) := by
  have at' : ∀ (i : Nat) (p : Nat × va_E), (wsW cy ad m)[i]? = some p → ∃ o, Lv[i]? = some o ∧ p.1 = ad o := by
    intro i p hp
    unfold wsW at hp
    rw [List.getElem?_map] at hp
    cases hx : Lv[i]? with
    | none => rw [hx] at hp; cases hp
    | some o => rw [hx] at hp; cases hp; exact ⟨o, rfl, rfl⟩
  refine ⟨fun i j p q hp hq hpq => ?_, fun k q hq => ?_⟩
  · obtain ⟨o, h1, h2⟩ := at' i p hp
    obtain ⟨o', h3, h4⟩ := at' j q hq
    have ho := h.1 o o' (Lv_kd h1) (Lv_kd h3) (by rw [← h2, ← h4, hpq])
    subst ho
    have e1 := (List.getElem?_eq_some_iff.mp h1).2
    have e2 := (List.getElem?_eq_some_iff.mp h3).2
    exact (List.getElem_inj Lv_nd).mp (e1.trans e2.symm)
  · obtain ⟨o, h1, h2⟩ := at' k q hq
    rw [h2]
    exact h.2 o (Lv_kd h1)
theorem fs_at {ad : Nat → Nat} {m : Me} {o j : Nat} (h : j < nf (kd o)) : (fsOf ad m o)[j]? = some (sv ad m o j (ft (kd o) j)) := by
  unfold fsOf
  rw [List.getElem?_map, List.getElem?_range h]
  rfl
theorem cel_o {cy : Nat → ClassId} {ad : Nat → Nat} {m : Me} {o : Nat} (h : kd o < 9) : cel cy ad m o = .inr (kd o, fsOf ad m o) := by
  unfold cel; rw [if_pos h]
theorem cel_i {cy : Nat → ClassId} {ad : Nat → Nat} {m : Me} {o : Nat} (h : kd o = 20) : cel cy ad m o = .inl (cy 0, ln o, .inl (m.1 o)) := by
  unfold cel; rw [if_neg (by omega), if_pos h]
theorem cel_l {cy : Nat → ClassId} {ad : Nat → Nat} {m : Me} {o : Nat} (h : kd o = 21) : cel cy ad m o = .inl (cy 1, ln o, .inr (.inl (m.2 o))) := by
  unfold cel; rw [if_neg (by omega), if_neg (by omega), if_pos h]
theorem cel_z {cy : Nat → ClassId} {ad : Nat → Nat} {m : Me} {o : Nat} (h : kd o = 22) : cel cy ad m o = .inl (cy 2, ln o, .inl (m.1 o)) := by
  unfold cel; rw [if_neg (by omega), if_neg (by omega), if_neg (by omega), if_pos h]
theorem cel_b {cy : Nat → ClassId} {ad : Nat → Nat} {m : Me} {o : Nat} (h : kd o = 23) : cel cy ad m o = .inl (cy 3, ln o, .inr (.inr (.inr (.inr (fun i => (rf o i).map ad))))) := by
  unfold cel; rw [if_neg (by omega), if_neg (by omega), if_neg (by omega), if_neg (by omega), if_pos h]
theorem cel_c {cy : Nat → ClassId} {ad : Nat → Nat} {m : Me} {o : Nat} (h : kd o = 24) : cel cy ad m o = .inl (cy 4, ln o, .inr (.inr (.inr (.inr (fun i => (rf o i).map ad))))) := by
  unfold cel; rw [if_neg (by omega), if_neg (by omega), if_neg (by omega), if_neg (by omega), if_neg (by omega)]
/-- two memories that agree on an object's ints and longs have the same cell there -/
theorem cel_eq {cy : Nat → ClassId} {ad : Nat → Nat} {m m' : Me} {o : Nat} (h1 : m'.1 o = m.1 o) (h2 : m'.2 o = m.2 o) : cel cy ad m' o = cel cy ad m o := by
  unfold cel fsOf sv
  rw [h1, h2]
theorem si_ne {m : Me} {o o' j : Nat} {v : Int32} (h : o' ≠ o) : (si m o j v).1 o' = m.1 o' := by
  funext b; unfold si; simp [h]
theorem sl_ne {m : Me} {o o' j : Nat} {v : Int64} (h : o' ≠ o) : (sl m o j v).2 o' = m.2 o' := by
  funext b; unfold sl; simp [h]
theorem sr_ne {m : Me} {o o' : Nat} {f : Nat → Int32} (h : o' ≠ o) : (sr m o f).1 o' = m.1 o' := by
  unfold sr; simp [h]
theorem si_upd {m : Me} {o j : Nat} {v : Int32} : (si m o j v).1 o = upd (m.1 o) j v := by
  funext b; unfold si upd; simp
theorem sl_upd {m : Me} {o j : Nat} {v : Int64} : (sl m o j v).2 o = vp_updL (m.2 o) j v := by
  funext b; unfold sl vp_updL; simp
theorem fs_si {ad : Nat → Nat} {m : Me} {o j : Nat} {v : Int32} (ht : ft (kd o) j < 2) : fsOf ad (si m o j v) o = (fsOf ad m o).set j (.int v) := by
  apply List.ext_getElem?
  intro i
  unfold fsOf
  rw [List.getElem?_set, List.getElem?_map, List.getElem?_map, List.length_map, List.length_range]
  by_cases hi : j = i
  · subst hi
    rw [if_pos rfl]
    by_cases hl : j < nf (kd o)
    · rw [if_pos hl, List.getElem?_range hl]
      show some (sv ad (si m o j v) o j (ft (kd o) j)) = _
      unfold sv
      rw [if_pos ht]
      simp [si]
    · rw [if_neg hl, List.getElem?_eq_none (by simpa using hl)]
      rfl
  · rw [if_neg hi]
    by_cases hl : i < nf (kd o)
    · rw [List.getElem?_range hl]
      show some (sv ad (si m o j v) o i (ft (kd o) i)) = some (sv ad m o i (ft (kd o) i))
      unfold sv si
      simp [Ne.symm hi]
    · rw [List.getElem?_eq_none (by simpa using hl)]
      rfl
theorem fs_sl {ad : Nat → Nat} {m : Me} {o j : Nat} {v : Int64} (ht : ft (kd o) j = 2) : fsOf ad (sl m o j v) o = (fsOf ad m o).set j (.long v) := by
  apply List.ext_getElem?
  intro i
  unfold fsOf
  rw [List.getElem?_set, List.getElem?_map, List.getElem?_map, List.length_map, List.length_range]
  by_cases hi : j = i
  · subst hi
    rw [if_pos rfl]
    by_cases hl : j < nf (kd o)
    · rw [if_pos hl, List.getElem?_range hl]
      show some (sv ad (sl m o j v) o j (ft (kd o) j)) = _
      unfold sv
      rw [if_neg (by omega), if_pos ht]
      simp [sl]
    · rw [if_neg hl, List.getElem?_eq_none (by simpa using hl)]
      rfl
  · rw [if_neg hi]
    by_cases hl : i < nf (kd o)
    · rw [List.getElem?_range hl]
      show some (sv ad (sl m o j v) o i (ft (kd o) i)) = some (sv ad m o i (ft (kd o) i))
      unfold sv sl
      simp [Ne.symm hi]
    · rw [List.getElem?_eq_none (by simpa using hl)]
      rfl
theorem ws_si {cy : Nat → ClassId} {ad : Nat → Nat} {m : Me} {o j k : Nat} {v : Int32} (hk : Lv[k]? = some o) (h9 : kd o < 9) (ht : ft (kd o) j < 2) : (wsW cy ad m).set k (ad o, .inr (kd o, (fsOf ad m o).set j (.int v))) = wsW cy ad (si m o j v) :=
  ws_set hk (by rw [cel_o h9, fs_si ht]) (fun _ h => cel_eq (si_ne h) rfl)
theorem ws_sl {cy : Nat → ClassId} {ad : Nat → Nat} {m : Me} {o j k : Nat} {v : Int64} (hk : Lv[k]? = some o) (h9 : kd o < 9) (ht : ft (kd o) j = 2) : (wsW cy ad m).set k (ad o, .inr (kd o, (fsOf ad m o).set j (.long v))) = wsW cy ad (sl m o j v) :=
  ws_set hk (by rw [cel_o h9, fs_sl ht]) (fun _ h => cel_eq rfl (sl_ne h))
end
section
/-- the words that stay through warming -/
def gtw (w : Cond) : Bool := k2_isCode w || goodWord w
def gt : List Cond := lw_tbl.filter gtw
theorem gt_in {w : Cond} (h : w ∈ lw_tbl) (hg : gtw w = true) : w ∈ gt := List.mem_filter.mpr ⟨h, hg⟩
theorem gt_sub {ws : List Cond} (h : ws.all (fun w => decide (w ∈ lw_tbl) && gtw w) = true) : ∀ w ∈ ws, w ∈ gt := by
  intro w hw
  have h1 := List.all_eq_true.mp h w hw
  simp only [Bool.and_eq_true, decide_eq_true_eq] at h1
  exact gt_in h1.1 h1.2
theorem gd_all : GoodIn gt gt := by
  intro w hw
  refine ⟨hw, ?_⟩
  have h2 := (List.mem_filter.mp hw).2
  by_cases hc : k2_isCode w = true
  · cases w <;> first | (simp [k2_isCode] at hc; done) | exact Or.inl rfl
  · unfold gtw at h2
    have hc' : k2_isCode w = false := by simpa using hc
    rw [hc', Bool.false_or] at h2
    exact good_of_word h2
theorem gd_y {y : MethodName} {cc : ByteArray} {nL : Nat} {ret : Option FieldType} (h : Cond.code y cc nL ret ∈ gt) : GoodIn gt (Cond.code y cc nL ret :: gt) := by
  intro w hw
  rcases List.mem_cons.mp hw with rfl | hw
  · exact gd_all _ h
  · exact gd_all _ hw
/-! the static arrays -/
def stt (k j : Nat) : Int32 := (([[1, -1, -1, 1, 1, -1, 0, 0], [-1, -1, 1, 1, 0, 0, -1, 1], [0, 1, 2, 3, 4, 8, 5, 9, 6, 10, 7, 11, 12, 13, 14, 15], [0, 1, 2, 3, 4, 6, 8, 10, 5, 7, 9, 11, 12, 13, 14, 15]] : List (List Int32)).getD k []).getD j 0
def stn (k : Nat) : String := ["ACROSS", "DOWN", "TURNED_BY_PRICE", "TURNED_RANK"].getD k ""
def stl (k : Nat) : Nat := [8, 8, 16, 16].getD k 0
def nsw (k : Nat) : Cond := ([.fieldLinkNest "NameChart$Box" 33 "NameChart" "ACROSS" "[I" "NameChart", .fieldLinkNest "NameChart$Box" 44 "NameChart" "DOWN" "[I" "NameChart", .fieldLinkNest "NameChart$Chart" 60 "NameChart" "TURNED_BY_PRICE" "[I" "NameChart", .fieldLinkNest "NameChart$Chart" 63 "NameChart" "TURNED_RANK" "[I" "NameChart"] : List Cond).getD k .tt
theorem nsw_warm {k : Nat} {s U : State} (hk : k < 4) (hW : s.WarmedH U.vm) (h : va_Nw (nsw k) s) : va_Nw (nsw k) U := by
  rcases (show k = 0 ∨ k = 1 ∨ k = 2 ∨ k = 3 by omega) with rfl | rfl | rfl | rfl <;> exact va_Nw.warmF hW h
def Sts (A : Nat → Prop) (sad : Nat → Nat) (s : State) (H : Heap) : Prop := ∀ k, k < 4 → va_Z "NameChart" (stn k) "[I" (.ref (sad k)) A s H ∧ va_T .int (sad k) (stl k) (fun j => .int (stt k j)) A s H ∧ va_Nw (nsw k) s
theorem Sts.kept {A : Nat → Prop} {sad : Nat → Nat} {s U : State} {H H1 : Heap} (h : Sts A sad s H) (hW : s.WarmedH U.vm) (hq : ∀ a : Nat, a < H.size → ¬ A a → H1[a]? = H[a]?) : Sts A sad U H1 :=
  fun k hk => ⟨((h k hk).1.moved hW.alike).kept hq, ((h k hk).2.1.moved hW.alike).kept hq, nsw_warm hk hW (h k hk).2.2⟩
def tys (cy : Nat → ClassId) : List (ClassId × FieldType) := [(cy 0, .int), (cy 1, .long), (cy 2, .boolean), (cy 3, .object RX0), (cy 4, .object RX1)]
/-! the judgement -/
abbrev Cx : Type := Program × Launch × Env × Room × State × MethodId × Array Value × List Frame × Method × Code × va_G × (Nat → ClassId) × (Nat → Nat) × (Nat → Prop) × (Nat → Nat) × Nat × Nat × (Option Value × Me) × (State → Prop)
def xad (X : Cx) : Nat → Nat := X.2.2.2.2.2.2.2.2.2.2.2.2.1
def xsa (X : Cx) : Nat → Nat := X.2.2.2.2.2.2.2.2.2.2.2.2.2.2.1
abbrev rX (X : Cx) (o : Nat) : Value := .ref (xad X o)
def J {ρ : Type} (X : Cx) (ov : ρ → Option Value × Me) (F : Option ρ) (mm : Me) (pc : Nat) (L : List (Nat × Value)) (st : List Value) : Prop :=
  match X with
  | (p, l, e, R, s, m, args, below, meth, c, D, cy, ad, A, _, kc, ks, fin, qq) =>
    ∀ res : ρ, F = some res → ov res = fin → ∀ (H : Heap) (locs : List Loc) (ls : Array Slot), va_P D vwCl (wsW cy ad mm) H → va_S A s.heap H locs → lv_has ls c.maxLocals L → W p l e R s m args below meth c H locs kc ks qq (F0 m pc ls st)
/-- what stands of the method: its code, its class, its locals; the room for fr frames more -/
def Gd (X : Cx) (cc : ByteArray) (own : String) (nL fr : Nat) : Prop :=
  match X with
  | (p, _, _, R, s, m, args, _, meth, c, D, cy, ad, A, sad, kc, ks, _, _) =>
    p.tables.exec = Jvm.exec ∧ c.code = cc ∧ c.maxLocals = nL ∧ s.vm.findClass own = some m.cls ∧ (∀ w ∈ gt, w.before args s = true) ∧ va_K D vwCl (tys cy) s ∧ Ap A ad ∧ Sts A sad s s.heap ∧ meth.locks = false ∧ fr ≤ R.frames ∧ 64 * fr ≤ R.locals ∧ kc ≤ R.cells ∧ ks ≤ R.slots
def Qf (D : va_G) (cy : Nat → ClassId) (ad : Nat → Nat) (A : Nat → Prop) (fin : Option Value × Me) : Array Value → State → Outcome → State → Prop := fun _ st oc t =>
  oc = .returned fin.1 ∧ va_P D vwCl (wsW cy ad fin.2) t.heap ∧ va_K D vwCl (tys cy) t ∧ va_F A st t
/-- the end of a method of ours -/
def Ge (X : Cx) (ret : Option FieldType) : Prop :=
  match X with
  | (_, _, _, _, s, _, args, below, meth, _, D, cy, ad, A, _, kc, ks, fin, qq) =>
    meth.sig.returnType = ret ∧ qq = MQ below (Qf D cy ad A fin) args s kc ks A
/-! what a method answers with: r an int and the memory, v the memory alone, p an int over a memory that stays -/
def oI : Int32 × Me → Option Value × Me := fun r => (some (.int r.1), r.2)
def oV : Me → Option Value × Me := fun r => (none, r)
def oP (m : Me) : Int32 → Option Value × Me := fun r => (some (.int r), m)
def oL (m : Me) : Int64 → Option Value × Me := fun r => (some (.long r), m)
def oR (ad : Nat → Nat) (m : Me) : Nat → Option Value × Me := fun r => (some (.ref (ad r)), m)
/-! the words of the pure text -/
def bd {α β : Type} (x : α) (k : α → β) : β := k x
def rd {α ρ : Type} (n : Nat) (i : Int32) (f : Nat → α) (K : α → Option ρ) : Option ρ := if i < 0 ∨ n ≤ i.toNatClampNeg then none else K (f i.toNatClampNeg)
def wi {ρ : Type} (m : Me) (o n : Nat) (i v : Int32) (K : Me → Option ρ) : Option ρ := if i < 0 ∨ n ≤ i.toNatClampNeg then none else K (si m o i.toNatClampNeg v)
def wl {ρ : Type} (m : Me) (o n : Nat) (i : Int32) (v : Int64) (K : Me → Option ρ) : Option ρ := if i < 0 ∨ n ≤ i.toNatClampNeg then none else K (sl m o i.toNatClampNeg v)
def wz {ρ : Type} (m : Me) (o n : Nat) (i v : Int32) (K : Me → Option ρ) : Option ρ := if i < 0 ∨ n ≤ i.toNatClampNeg then none else if v = 0 ∨ v = 1 then K (si m o i.toNatClampNeg v) else none
def pz {ρ : Type} (m : Me) (o j : Nat) (v : Int32) (K : Me → Option ρ) : Option ρ := if v = 0 ∨ v = 1 then K (si m o j v) else none
def zg {ρ : Type} (v : Int32) (r : ρ) : Option ρ := if v = 0 ∨ v = 1 then some r else none
def cI {α ρ : Type} (x : Option (α × Me)) (K : α → Me → Option ρ) : Option ρ := match x with
  | some r => K r.1 r.2
  | none => none
def cP {α ρ : Type} (x : Option α) (K : α → Option ρ) : Option ρ := match x with
  | some r => K r
  | none => none
section ROWS
variable {ρ : Type} {X : Cx} {ov : ρ → Option Value × Me} {F : Option ρ} {mm : Me} {pc : Nat} {L L' : List (Nat × Value)} {st : List Value} {cc : ByteArray} {own : String} {nL fr : Nat}
theorem r_sub (ks : List Nat) (hl : lv_pick L ks = L') (k : J X ov F mm pc L' st) : J X ov F mm pc L st := by
  obtain ⟨p, l, e, R, s, m, args, below, meth, c, D, cy, ad, A, sad, kc, ks', fin, qq⟩ := X
  intro res hF ho H locs ls hP hS h
  exact k res hF ho H locs ls hP hS (lv_sub h ks hl)
theorem r_none : J X ov (none : Option ρ) mm pc L st := by
  obtain ⟨p, l, e, R, s, m, args, below, meth, c, D, cy, ad, A, sad, kc, ks', fin, qq⟩ := X
  intro res hF
  cases hF
theorem r_ite {c : Prop} [Decidable c] {B C : Option ρ} (kt : c → J X ov B mm pc L st) (kf : ¬ c → J X ov C mm pc L st) : J X ov (if c then B else C) mm pc L st := by
  by_cases h : c
  · rw [if_pos h]; exact kt h
  · rw [if_neg h]; exact kf h
theorem r_join {κ : Type} {x : κ} {T : κ → Option ρ} (P : κ → Prop) (hx : P x) (ht : ∀ k, P k → J X ov (T k) mm pc L st) : J X ov (bd x T) mm pc L st := ht x hx
theorem r_name {α : Type} {x : α} {T : α → Option ρ} {f : α → List Value} (k : ∀ v, J X ov (T v) mm pc L (f v)) : J X ov (bd x T) mm pc L (f x) := k x

theorem r_iconst (hX : Gd X cc own nL fr) {n : Int} {v : Int32} (hd : decode cc pc = .ok (.iconst n, 1)) (hv : Int32.ofInt n = v) (k : J X ov F mm (pc + 1) L (.int v :: st)) : J X ov F mm pc L st := by
  obtain ⟨p, l, e, R, s, m, args, below, meth, c, D, cy, ad, A, sad, kc, ks, fin, qq⟩ := X
  obtain ⟨hx, hb, hml, hown, hts, hK, hA, hSt, hlk, hfr, hlo, hkc, hks⟩ := hX
  intro res hF ho H locs ls hP hS hl
  exact lv_iconst hx hb hd hv (k res hF ho H locs ls hP hS hl)
theorem r_bipush (hX : Gd X cc own nL fr) {n : Int} {v : Int32} (hd : decode cc pc = .ok (.bipush n, 2)) (hv : (Int8.ofInt n).toInt32 = v) (k : J X ov F mm (pc + 2) L (.int v :: st)) : J X ov F mm pc L st := by
  obtain ⟨p, l, e, R, s, m, args, below, meth, c, D, cy, ad, A, sad, kc, ks, fin, qq⟩ := X
  obtain ⟨hx, hb, hml, hown, hts, hK, hA, hSt, hlk, hfr, hlo, hkc, hks⟩ := hX
  intro res hF ho H locs ls hP hS hl
  exact lv_bipush hx hb hd hv (k res hF ho H locs ls hP hS hl)
theorem r_sipush (hX : Gd X cc own nL fr) {n : Int} {v : Int32} (hd : decode cc pc = .ok (.sipush n, 3)) (hv : (Int16.ofInt n).toInt32 = v) (k : J X ov F mm (pc + 3) L (.int v :: st)) : J X ov F mm pc L st := by
  obtain ⟨p, l, e, R, s, m, args, below, meth, c, D, cy, ad, A, sad, kc, ks, fin, qq⟩ := X
  obtain ⟨hx, hb, hml, hown, hts, hK, hA, hSt, hlk, hfr, hlo, hkc, hks⟩ := hX
  intro res hF ho H locs ls hP hS hl
  exact lv_sipush hx hb hd hv (k res hF ho H locs ls hP hS hl)
theorem r_lconst (hX : Gd X cc own nL fr) {n : Fin 2} {v : Int64} (hd : decode cc pc = .ok (.lconst n, 1)) (hv : Int64.ofNat (n : Nat) = v) (k : J X ov F mm (pc + 1) L (.long v :: st)) : J X ov F mm pc L st := by
  obtain ⟨p, l, e, R, s, m, args, below, meth, c, D, cy, ad, A, sad, kc, ks, fin, qq⟩ := X
  obtain ⟨hx, hb, hml, hown, hts, hK, hA, hSt, hlk, hfr, hlo, hkc, hks⟩ := hX
  intro res hF ho H locs ls hP hS hl
  exact lv_lconst hx hb hd hv (k res hF ho H locs ls hP hS hl)
theorem r_ldc (hX : Gd X cc own nL fr) {idx : Nat} {v : Int32} (hd : decode cc pc = .ok (.ldc idx, 2)) (hw : Cond.constant own idx v ∈ gt) (k : J X ov F mm (pc + 2) L (.int v :: st)) : J X ov F mm pc L st := by
  obtain ⟨p, l, e, R, s, m, args, below, meth, c, D, cy, ad, A, sad, kc, ks, fin, qq⟩ := X
  obtain ⟨hx, hb, hml, hown, hts, hK, hA, hSt, hlk, hfr, hlo, hkc, hks⟩ := hX
  intro res hF ho H locs ls hP hS hl
  exact lv_ldc hx hb hown (hts _ hw) hd (k res hF ho H locs ls hP hS hl)
theorem r_ldcw (hX : Gd X cc own nL fr) {idx : Nat} {v : Int32} (hd : decode cc pc = .ok (.ldc_w idx, 3)) (hw : Cond.constant own idx v ∈ gt) (k : J X ov F mm (pc + 3) L (.int v :: st)) : J X ov F mm pc L st := by
  obtain ⟨p, l, e, R, s, m, args, below, meth, c, D, cy, ad, A, sad, kc, ks, fin, qq⟩ := X
  obtain ⟨hx, hb, hml, hown, hts, hK, hA, hSt, hlk, hfr, hlo, hkc, hks⟩ := hX
  intro res hF ho H locs ls hP hS hl
  exact lv_ldcw hx hb hown (hts _ hw) hd (k res hF ho H locs ls hP hS hl)
theorem r_ldc2 (hX : Gd X cc own nL fr) {idx : Nat} {v : Int64} (hd : decode cc pc = .ok (.ldc2_w idx, 3)) (hw : Cond.constantLong own idx v ∈ gt) (k : J X ov F mm (pc + 3) L (.long v :: st)) : J X ov F mm pc L st := by
  obtain ⟨p, l, e, R, s, m, args, below, meth, c, D, cy, ad, A, sad, kc, ks, fin, qq⟩ := X
  obtain ⟨hx, hb, hml, hown, hts, hK, hA, hSt, hlk, hfr, hlo, hkc, hks⟩ := hX
  intro res hF ho H locs ls hP hS hl
  exact lv_ldc2 hx hb hown (hts _ hw) hd (k res hF ho H locs ls hP hS hl)
theorem r_iload_n (hX : Gd X cc own nL fr) {k4 : Fin 4} {i : Nat} {x : Int32} (q : Nat) (hd : decode cc pc = .ok (.iload_n k4, 1)) (hi : (k4 : Nat) = i) (hq : L[q]? = some (i, .int x)) (k : J X ov F mm (pc + 1) L (.int x :: st)) : J X ov F mm pc L st := by
  obtain ⟨p, l, e, R, s, m, args, below, meth, c, D, cy, ad, A, sad, kc, ks, fin, qq⟩ := X
  obtain ⟨hx, hb, hml, hown, hts, hK, hA, hSt, hlk, hfr, hlo, hkc, hks⟩ := hX
  intro res hF ho H locs ls hP hS hl
  exact lv_iload_n hx hb hd hi (lv_at hl q hq) (k res hF ho H locs ls hP hS hl)
theorem r_iload (hX : Gd X cc own nL fr) {i : Nat} {x : Int32} (q : Nat) (hd : decode cc pc = .ok (.iload i, 2)) (hq : L[q]? = some (i, .int x)) (k : J X ov F mm (pc + 2) L (.int x :: st)) : J X ov F mm pc L st := by
  obtain ⟨p, l, e, R, s, m, args, below, meth, c, D, cy, ad, A, sad, kc, ks, fin, qq⟩ := X
  obtain ⟨hx, hb, hml, hown, hts, hK, hA, hSt, hlk, hfr, hlo, hkc, hks⟩ := hX
  intro res hF ho H locs ls hP hS hl
  exact lv_iload hx hb hd (lv_at hl q hq) (k res hF ho H locs ls hP hS hl)
theorem r_istore_n (hX : Gd X cc own nL fr) {k4 : Fin 4} {i : Nat} {x : Int32} (hd : decode cc pc = .ok (.istore_n k4, 1)) (hi : (k4 : Nat) = i) (hn : i < nL) (hL : (i, Value.int x) :: L.filter (fun q => !(q.1 == i) && !(q.1 + 1 == i && q.2.category == 2)) = L') (k : J X ov F mm (pc + 1) L' st) : J X ov F mm pc L (.int x :: st) := by
  obtain ⟨p, l, e, R, s, m, args, below, meth, c, D, cy, ad, A, sad, kc, ks, fin, qq⟩ := X
  obtain ⟨hx, hb, hml, hown, hts, hK, hA, hSt, hlk, hfr, hlo, hkc, hks⟩ := hX
  intro res hF ho H locs ls hP hS hl
  refine lv_istore_n hx hb hd hi hl (by rw [hml]; exact hn) hL (fun ls hl => ?_)
  exact k res hF ho H locs ls hP hS hl
theorem r_istore (hX : Gd X cc own nL fr) {i : Nat} {x : Int32} (hd : decode cc pc = .ok (.istore i, 2)) (hn : i < nL) (hL : (i, Value.int x) :: L.filter (fun q => !(q.1 == i) && !(q.1 + 1 == i && q.2.category == 2)) = L') (k : J X ov F mm (pc + 2) L' st) : J X ov F mm pc L (.int x :: st) := by
  obtain ⟨p, l, e, R, s, m, args, below, meth, c, D, cy, ad, A, sad, kc, ks, fin, qq⟩ := X
  obtain ⟨hx, hb, hml, hown, hts, hK, hA, hSt, hlk, hfr, hlo, hkc, hks⟩ := hX
  intro res hF ho H locs ls hP hS hl
  refine lv_istore hx hb hd hl (by rw [hml]; exact hn) hL (fun ls hl => ?_)
  exact k res hF ho H locs ls hP hS hl
theorem r_lload_n (hX : Gd X cc own nL fr) {k4 : Fin 4} {i : Nat} {x : Int64} (q : Nat) (hd : decode cc pc = .ok (.lload_n k4, 1)) (hi : (k4 : Nat) = i) (hq : L[q]? = some (i, .long x)) (k : J X ov F mm (pc + 1) L (.long x :: st)) : J X ov F mm pc L st := by
  obtain ⟨p, l, e, R, s, m, args, below, meth, c, D, cy, ad, A, sad, kc, ks, fin, qq⟩ := X
  obtain ⟨hx, hb, hml, hown, hts, hK, hA, hSt, hlk, hfr, hlo, hkc, hks⟩ := hX
  intro res hF ho H locs ls hP hS hl
  exact lv_lload_n hx hb hd hi (lv_at hl q hq) (k res hF ho H locs ls hP hS hl)
theorem r_lload (hX : Gd X cc own nL fr) {i : Nat} {x : Int64} (q : Nat) (hd : decode cc pc = .ok (.lload i, 2)) (hq : L[q]? = some (i, .long x)) (k : J X ov F mm (pc + 2) L (.long x :: st)) : J X ov F mm pc L st := by
  obtain ⟨p, l, e, R, s, m, args, below, meth, c, D, cy, ad, A, sad, kc, ks, fin, qq⟩ := X
  obtain ⟨hx, hb, hml, hown, hts, hK, hA, hSt, hlk, hfr, hlo, hkc, hks⟩ := hX
  intro res hF ho H locs ls hP hS hl
  exact lv_lload hx hb hd (lv_at hl q hq) (k res hF ho H locs ls hP hS hl)
theorem r_lstore_n (hX : Gd X cc own nL fr) {k4 : Fin 4} {i : Nat} {x : Int64} (hd : decode cc pc = .ok (.lstore_n k4, 1)) (hi : (k4 : Nat) = i) (hn : i + 1 < nL) (hL : (i, Value.long x) :: L.filter (fun q => !(q.1 == i) && (!(q.1 == i + 1) && !(q.1 + 1 == i && q.2.category == 2))) = L') (k : J X ov F mm (pc + 1) L' st) : J X ov F mm pc L (.long x :: st) := by
  obtain ⟨p, l, e, R, s, m, args, below, meth, c, D, cy, ad, A, sad, kc, ks, fin, qq⟩ := X
  obtain ⟨hx, hb, hml, hown, hts, hK, hA, hSt, hlk, hfr, hlo, hkc, hks⟩ := hX
  intro res hF ho H locs ls hP hS hl
  refine lv_lstore_n hx hb hd hi hl (by rw [hml]; exact hn) hL (fun ls hl => ?_)
  exact k res hF ho H locs ls hP hS hl
theorem r_lstore (hX : Gd X cc own nL fr) {i : Nat} {x : Int64} (hd : decode cc pc = .ok (.lstore i, 2)) (hn : i + 1 < nL) (hL : (i, Value.long x) :: L.filter (fun q => !(q.1 == i) && (!(q.1 == i + 1) && !(q.1 + 1 == i && q.2.category == 2))) = L') (k : J X ov F mm (pc + 2) L' st) : J X ov F mm pc L (.long x :: st) := by
  obtain ⟨p, l, e, R, s, m, args, below, meth, c, D, cy, ad, A, sad, kc, ks, fin, qq⟩ := X
  obtain ⟨hx, hb, hml, hown, hts, hK, hA, hSt, hlk, hfr, hlo, hkc, hks⟩ := hX
  intro res hF ho H locs ls hP hS hl
  refine lv_lstore hx hb hd hl (by rw [hml]; exact hn) hL (fun ls hl => ?_)
  exact k res hF ho H locs ls hP hS hl
theorem r_aload_n (hX : Gd X cc own nL fr) {k4 : Fin 4} {i : Nat} {x : Nat} (q : Nat) (hd : decode cc pc = .ok (.aload_n k4, 1)) (hi : (k4 : Nat) = i) (hq : L[q]? = some (i, .ref x)) (k : J X ov F mm (pc + 1) L (.ref x :: st)) : J X ov F mm pc L st := by
  obtain ⟨p, l, e, R, s, m, args, below, meth, c, D, cy, ad, A, sad, kc, ks, fin, qq⟩ := X
  obtain ⟨hx, hb, hml, hown, hts, hK, hA, hSt, hlk, hfr, hlo, hkc, hks⟩ := hX
  intro res hF ho H locs ls hP hS hl
  exact lv_aload_n hx hb hd hi (lv_at hl q hq) (k res hF ho H locs ls hP hS hl)
theorem r_aload (hX : Gd X cc own nL fr) {i : Nat} {x : Nat} (q : Nat) (hd : decode cc pc = .ok (.aload i, 2)) (hq : L[q]? = some (i, .ref x)) (k : J X ov F mm (pc + 2) L (.ref x :: st)) : J X ov F mm pc L st := by
  obtain ⟨p, l, e, R, s, m, args, below, meth, c, D, cy, ad, A, sad, kc, ks, fin, qq⟩ := X
  obtain ⟨hx, hb, hml, hown, hts, hK, hA, hSt, hlk, hfr, hlo, hkc, hks⟩ := hX
  intro res hF ho H locs ls hP hS hl
  exact lv_aload hx hb hd (lv_at hl q hq) (k res hF ho H locs ls hP hS hl)
theorem r_astore_n (hX : Gd X cc own nL fr) {k4 : Fin 4} {i : Nat} {x : Nat} (hd : decode cc pc = .ok (.astore_n k4, 1)) (hi : (k4 : Nat) = i) (hn : i < nL) (hL : (i, Value.ref x) :: L.filter (fun q => !(q.1 == i) && !(q.1 + 1 == i && q.2.category == 2)) = L') (k : J X ov F mm (pc + 1) L' st) : J X ov F mm pc L (.ref x :: st) := by
  obtain ⟨p, l, e, R, s, m, args, below, meth, c, D, cy, ad, A, sad, kc, ks, fin, qq⟩ := X
  obtain ⟨hx, hb, hml, hown, hts, hK, hA, hSt, hlk, hfr, hlo, hkc, hks⟩ := hX
  intro res hF ho H locs ls hP hS hl
  refine lv_astore_n hx hb hd hi hl (by rw [hml]; exact hn) hL (fun ls hl => ?_)
  exact k res hF ho H locs ls hP hS hl
theorem r_astore (hX : Gd X cc own nL fr) {i : Nat} {x : Nat} (hd : decode cc pc = .ok (.astore i, 2)) (hn : i < nL) (hL : (i, Value.ref x) :: L.filter (fun q => !(q.1 == i) && !(q.1 + 1 == i && q.2.category == 2)) = L') (k : J X ov F mm (pc + 2) L' st) : J X ov F mm pc L (.ref x :: st) := by
  obtain ⟨p, l, e, R, s, m, args, below, meth, c, D, cy, ad, A, sad, kc, ks, fin, qq⟩ := X
  obtain ⟨hx, hb, hml, hown, hts, hK, hA, hSt, hlk, hfr, hlo, hkc, hks⟩ := hX
  intro res hF ho H locs ls hP hS hl
  refine lv_astore hx hb hd hl (by rw [hml]; exact hn) hL (fun ls hl => ?_)
  exact k res hF ho H locs ls hP hS hl
theorem r_iinc (hX : Gd X cc own nL fr) {i : Nat} {n : Int} {x v : Int32} (q : Nat) (hd : decode cc pc = .ok (.iinc i n, 3)) (hq : L[q]? = some (i, .int x)) (hv : x + Int32.ofInt n = v) (hn : i < nL) (hL : (i, Value.int v) :: L.filter (fun q => !(q.1 == i) && !(q.1 + 1 == i && q.2.category == 2)) = L') (k : J X ov F mm (pc + 3) L' st) : J X ov F mm pc L st := by
  obtain ⟨p, l, e, R, s, m, args, below, meth, c, D, cy, ad, A, sad, kc, ks, fin, qq⟩ := X
  obtain ⟨hx, hb, hml, hown, hts, hK, hA, hSt, hlk, hfr, hlo, hkc, hks⟩ := hX
  intro res hF ho H locs ls hP hS hl
  refine lv_iinc hx hb hd hl hq hv (by rw [hml]; exact hn) hL (fun ls hl => ?_)
  exact k res hF ho H locs ls hP hS hl
theorem r_iadd (hX : Gd X cc own nL fr) {x y : Int32} (hd : decode cc pc = .ok (.iadd, 1))  (k : J X ov F mm (pc + 1) L (.int (x + y) :: st)) : J X ov F mm pc L (.int y :: .int x :: st) := by
  obtain ⟨p, l, e, R, s, m, args, below, meth, c, D, cy, ad, A, sad, kc, ks, fin, qq⟩ := X
  obtain ⟨hx, hb, hml, hown, hts, hK, hA, hSt, hlk, hfr, hlo, hkc, hks⟩ := hX
  intro res hF ho H locs ls hP hS hl
  exact lv_iadd hx hb hd (k res hF ho H locs ls hP hS hl)
theorem r_isub (hX : Gd X cc own nL fr) {x y : Int32} (hd : decode cc pc = .ok (.isub, 1))  (k : J X ov F mm (pc + 1) L (.int (x - y) :: st)) : J X ov F mm pc L (.int y :: .int x :: st) := by
  obtain ⟨p, l, e, R, s, m, args, below, meth, c, D, cy, ad, A, sad, kc, ks, fin, qq⟩ := X
  obtain ⟨hx, hb, hml, hown, hts, hK, hA, hSt, hlk, hfr, hlo, hkc, hks⟩ := hX
  intro res hF ho H locs ls hP hS hl
  exact lv_isub hx hb hd (k res hF ho H locs ls hP hS hl)
theorem r_imul (hX : Gd X cc own nL fr) {x y : Int32} (hd : decode cc pc = .ok (.imul, 1))  (k : J X ov F mm (pc + 1) L (.int (x * y) :: st)) : J X ov F mm pc L (.int y :: .int x :: st) := by
  obtain ⟨p, l, e, R, s, m, args, below, meth, c, D, cy, ad, A, sad, kc, ks, fin, qq⟩ := X
  obtain ⟨hx, hb, hml, hown, hts, hK, hA, hSt, hlk, hfr, hlo, hkc, hks⟩ := hX
  intro res hF ho H locs ls hP hS hl
  exact lv_imul hx hb hd (k res hF ho H locs ls hP hS hl)
theorem r_iand (hX : Gd X cc own nL fr) {x y : Int32} (hd : decode cc pc = .ok (.iand, 1))  (k : J X ov F mm (pc + 1) L (.int (x &&& y) :: st)) : J X ov F mm pc L (.int y :: .int x :: st) := by
  obtain ⟨p, l, e, R, s, m, args, below, meth, c, D, cy, ad, A, sad, kc, ks, fin, qq⟩ := X
  obtain ⟨hx, hb, hml, hown, hts, hK, hA, hSt, hlk, hfr, hlo, hkc, hks⟩ := hX
  intro res hF ho H locs ls hP hS hl
  exact lv_iand hx hb hd (k res hF ho H locs ls hP hS hl)
theorem r_ior (hX : Gd X cc own nL fr) {x y : Int32} (hd : decode cc pc = .ok (.ior, 1))  (k : J X ov F mm (pc + 1) L (.int (x ||| y) :: st)) : J X ov F mm pc L (.int y :: .int x :: st) := by
  obtain ⟨p, l, e, R, s, m, args, below, meth, c, D, cy, ad, A, sad, kc, ks, fin, qq⟩ := X
  obtain ⟨hx, hb, hml, hown, hts, hK, hA, hSt, hlk, hfr, hlo, hkc, hks⟩ := hX
  intro res hF ho H locs ls hP hS hl
  exact lv_ior hx hb hd (k res hF ho H locs ls hP hS hl)
theorem r_ixor (hX : Gd X cc own nL fr) {x y : Int32} (hd : decode cc pc = .ok (.ixor, 1))  (k : J X ov F mm (pc + 1) L (.int (x ^^^ y) :: st)) : J X ov F mm pc L (.int y :: .int x :: st) := by
  obtain ⟨p, l, e, R, s, m, args, below, meth, c, D, cy, ad, A, sad, kc, ks, fin, qq⟩ := X
  obtain ⟨hx, hb, hml, hown, hts, hK, hA, hSt, hlk, hfr, hlo, hkc, hks⟩ := hX
  intro res hF ho H locs ls hP hS hl
  exact lv_ixor hx hb hd (k res hF ho H locs ls hP hS hl)
theorem r_ishl (hX : Gd X cc own nL fr) {x y : Int32} (hd : decode cc pc = .ok (.ishl, 1))  (k : J X ov F mm (pc + 1) L (.int (x <<< (y &&& 31)) :: st)) : J X ov F mm pc L (.int y :: .int x :: st) := by
  obtain ⟨p, l, e, R, s, m, args, below, meth, c, D, cy, ad, A, sad, kc, ks, fin, qq⟩ := X
  obtain ⟨hx, hb, hml, hown, hts, hK, hA, hSt, hlk, hfr, hlo, hkc, hks⟩ := hX
  intro res hF ho H locs ls hP hS hl
  exact lv_ishl hx hb hd (k res hF ho H locs ls hP hS hl)
theorem r_ishr (hX : Gd X cc own nL fr) {x y : Int32} (hd : decode cc pc = .ok (.ishr, 1))  (k : J X ov F mm (pc + 1) L (.int (x >>> (y &&& 31)) :: st)) : J X ov F mm pc L (.int y :: .int x :: st) := by
  obtain ⟨p, l, e, R, s, m, args, below, meth, c, D, cy, ad, A, sad, kc, ks, fin, qq⟩ := X
  obtain ⟨hx, hb, hml, hown, hts, hK, hA, hSt, hlk, hfr, hlo, hkc, hks⟩ := hX
  intro res hF ho H locs ls hP hS hl
  exact lv_ishr hx hb hd (k res hF ho H locs ls hP hS hl)
theorem r_idiv (hX : Gd X cc own nL fr) {x y : Int32} (hd : decode cc pc = .ok (.idiv, 1)) (hne : ¬ y = 0) (k : J X ov F mm (pc + 1) L (.int (x / y) :: st)) : J X ov F mm pc L (.int y :: .int x :: st) := by
  obtain ⟨p, l, e, R, s, m, args, below, meth, c, D, cy, ad, A, sad, kc, ks, fin, qq⟩ := X
  obtain ⟨hx, hb, hml, hown, hts, hK, hA, hSt, hlk, hfr, hlo, hkc, hks⟩ := hX
  intro res hF ho H locs ls hP hS hl
  exact lv_idiv hx hb hd hne (k res hF ho H locs ls hP hS hl)
theorem r_irem (hX : Gd X cc own nL fr) {x y : Int32} (hd : decode cc pc = .ok (.irem, 1)) (hne : ¬ y = 0) (k : J X ov F mm (pc + 1) L (.int (x - x / y * y) :: st)) : J X ov F mm pc L (.int y :: .int x :: st) := by
  obtain ⟨p, l, e, R, s, m, args, below, meth, c, D, cy, ad, A, sad, kc, ks, fin, qq⟩ := X
  obtain ⟨hx, hb, hml, hown, hts, hK, hA, hSt, hlk, hfr, hlo, hkc, hks⟩ := hX
  intro res hF ho H locs ls hP hS hl
  exact lv_irem hx hb hd hne (k res hF ho H locs ls hP hS hl)
def ush (x y : Int32) : Int32 := (x.toUInt32 >>> (y.toUInt32 &&& Int32.toUInt32 31)).toInt32
def lush (x : Int64) (y : Int32) : Int64 := (x.toUInt64 >>> (y.toInt64.toUInt64 &&& Int64.toUInt64 63)).toInt64
def lsh (x : Int64) (y : Int32) : Int64 := x <<< (y.toInt64 &&& 63)
theorem r_iushr (hX : Gd X cc own nL fr) {x y : Int32} (hd : decode cc pc = .ok (.iushr, 1))  (k : J X ov F mm (pc + 1) L (.int (ush x y) :: st)) : J X ov F mm pc L (.int y :: .int x :: st) := by
  obtain ⟨p, l, e, R, s, m, args, below, meth, c, D, cy, ad, A, sad, kc, ks, fin, qq⟩ := X
  obtain ⟨hx, hb, hml, hown, hts, hK, hA, hSt, hlk, hfr, hlo, hkc, hks⟩ := hX
  intro res hF ho H locs ls hP hS hl
  exact lv_iushr hx hb hd rfl (k res hF ho H locs ls hP hS hl)
theorem r_lushr (hX : Gd X cc own nL fr) {x : Int64} {y : Int32} (hd : decode cc pc = .ok (.lushr, 1))  (k : J X ov F mm (pc + 1) L (.long (lush x y) :: st)) : J X ov F mm pc L (.int y :: .long x :: st) := by
  obtain ⟨p, l, e, R, s, m, args, below, meth, c, D, cy, ad, A, sad, kc, ks, fin, qq⟩ := X
  obtain ⟨hx, hb, hml, hown, hts, hK, hA, hSt, hlk, hfr, hlo, hkc, hks⟩ := hX
  intro res hF ho H locs ls hP hS hl
  exact lv_lushr hx hb hd rfl (k res hF ho H locs ls hP hS hl)
theorem r_lshl (hX : Gd X cc own nL fr) {x : Int64} {y : Int32} (hd : decode cc pc = .ok (.lshl, 1))  (k : J X ov F mm (pc + 1) L (.long (lsh x y) :: st)) : J X ov F mm pc L (.int y :: .long x :: st) := by
  obtain ⟨p, l, e, R, s, m, args, below, meth, c, D, cy, ad, A, sad, kc, ks, fin, qq⟩ := X
  obtain ⟨hx, hb, hml, hown, hts, hK, hA, hSt, hlk, hfr, hlo, hkc, hks⟩ := hX
  intro res hF ho H locs ls hP hS hl
  exact lv_lshl hx hb hd rfl (k res hF ho H locs ls hP hS hl)
theorem r_ineg (hX : Gd X cc own nL fr) {x : Int32} (hd : decode cc pc = .ok (.ineg, 1))  (k : J X ov F mm (pc + 1) L (.int (-x) :: st)) : J X ov F mm pc L (.int x :: st) := by
  obtain ⟨p, l, e, R, s, m, args, below, meth, c, D, cy, ad, A, sad, kc, ks, fin, qq⟩ := X
  obtain ⟨hx, hb, hml, hown, hts, hK, hA, hSt, hlk, hfr, hlo, hkc, hks⟩ := hX
  intro res hF ho H locs ls hP hS hl
  exact lv_ineg hx hb hd (k res hF ho H locs ls hP hS hl)
theorem r_lneg (hX : Gd X cc own nL fr) {x : Int64} (hd : decode cc pc = .ok (.lneg, 1))  (k : J X ov F mm (pc + 1) L (.long (-x) :: st)) : J X ov F mm pc L (.long x :: st) := by
  obtain ⟨p, l, e, R, s, m, args, below, meth, c, D, cy, ad, A, sad, kc, ks, fin, qq⟩ := X
  obtain ⟨hx, hb, hml, hown, hts, hK, hA, hSt, hlk, hfr, hlo, hkc, hks⟩ := hX
  intro res hF ho H locs ls hP hS hl
  exact lv_lneg hx hb hd (k res hF ho H locs ls hP hS hl)
theorem r_ladd (hX : Gd X cc own nL fr) {x y : Int64} (hd : decode cc pc = .ok (.ladd, 1))  (k : J X ov F mm (pc + 1) L (.long (x + y) :: st)) : J X ov F mm pc L (.long y :: .long x :: st) := by
  obtain ⟨p, l, e, R, s, m, args, below, meth, c, D, cy, ad, A, sad, kc, ks, fin, qq⟩ := X
  obtain ⟨hx, hb, hml, hown, hts, hK, hA, hSt, hlk, hfr, hlo, hkc, hks⟩ := hX
  intro res hF ho H locs ls hP hS hl
  exact lv_ladd hx hb hd (k res hF ho H locs ls hP hS hl)
theorem r_lsub (hX : Gd X cc own nL fr) {x y : Int64} (hd : decode cc pc = .ok (.lsub, 1))  (k : J X ov F mm (pc + 1) L (.long (x - y) :: st)) : J X ov F mm pc L (.long y :: .long x :: st) := by
  obtain ⟨p, l, e, R, s, m, args, below, meth, c, D, cy, ad, A, sad, kc, ks, fin, qq⟩ := X
  obtain ⟨hx, hb, hml, hown, hts, hK, hA, hSt, hlk, hfr, hlo, hkc, hks⟩ := hX
  intro res hF ho H locs ls hP hS hl
  exact lv_lsub hx hb hd (k res hF ho H locs ls hP hS hl)
theorem r_lmul (hX : Gd X cc own nL fr) {x y : Int64} (hd : decode cc pc = .ok (.lmul, 1))  (k : J X ov F mm (pc + 1) L (.long (x * y) :: st)) : J X ov F mm pc L (.long y :: .long x :: st) := by
  obtain ⟨p, l, e, R, s, m, args, below, meth, c, D, cy, ad, A, sad, kc, ks, fin, qq⟩ := X
  obtain ⟨hx, hb, hml, hown, hts, hK, hA, hSt, hlk, hfr, hlo, hkc, hks⟩ := hX
  intro res hF ho H locs ls hP hS hl
  exact lv_lmul hx hb hd (k res hF ho H locs ls hP hS hl)
theorem r_land (hX : Gd X cc own nL fr) {x y : Int64} (hd : decode cc pc = .ok (.land, 1))  (k : J X ov F mm (pc + 1) L (.long (x &&& y) :: st)) : J X ov F mm pc L (.long y :: .long x :: st) := by
  obtain ⟨p, l, e, R, s, m, args, below, meth, c, D, cy, ad, A, sad, kc, ks, fin, qq⟩ := X
  obtain ⟨hx, hb, hml, hown, hts, hK, hA, hSt, hlk, hfr, hlo, hkc, hks⟩ := hX
  intro res hF ho H locs ls hP hS hl
  exact lv_land hx hb hd (k res hF ho H locs ls hP hS hl)
theorem r_lor (hX : Gd X cc own nL fr) {x y : Int64} (hd : decode cc pc = .ok (.lor, 1))  (k : J X ov F mm (pc + 1) L (.long (x ||| y) :: st)) : J X ov F mm pc L (.long y :: .long x :: st) := by
  obtain ⟨p, l, e, R, s, m, args, below, meth, c, D, cy, ad, A, sad, kc, ks, fin, qq⟩ := X
  obtain ⟨hx, hb, hml, hown, hts, hK, hA, hSt, hlk, hfr, hlo, hkc, hks⟩ := hX
  intro res hF ho H locs ls hP hS hl
  exact lv_lor hx hb hd (k res hF ho H locs ls hP hS hl)
theorem r_lxor (hX : Gd X cc own nL fr) {x y : Int64} (hd : decode cc pc = .ok (.lxor, 1))  (k : J X ov F mm (pc + 1) L (.long (x ^^^ y) :: st)) : J X ov F mm pc L (.long y :: .long x :: st) := by
  obtain ⟨p, l, e, R, s, m, args, below, meth, c, D, cy, ad, A, sad, kc, ks, fin, qq⟩ := X
  obtain ⟨hx, hb, hml, hown, hts, hK, hA, hSt, hlk, hfr, hlo, hkc, hks⟩ := hX
  intro res hF ho H locs ls hP hS hl
  exact lv_lxor hx hb hd (k res hF ho H locs ls hP hS hl)
theorem r_i2l (hX : Gd X cc own nL fr) {x : Int32} (hd : decode cc pc = .ok (.i2l, 1))  (k : J X ov F mm (pc + 1) L (.long x.toInt64 :: st)) : J X ov F mm pc L (.int x :: st) := by
  obtain ⟨p, l, e, R, s, m, args, below, meth, c, D, cy, ad, A, sad, kc, ks, fin, qq⟩ := X
  obtain ⟨hx, hb, hml, hown, hts, hK, hA, hSt, hlk, hfr, hlo, hkc, hks⟩ := hX
  intro res hF ho H locs ls hP hS hl
  exact lv_i2l hx hb hd rfl (k res hF ho H locs ls hP hS hl)
theorem r_l2i (hX : Gd X cc own nL fr) {x : Int64} (hd : decode cc pc = .ok (.l2i, 1))  (k : J X ov F mm (pc + 1) L (.int x.toInt32 :: st)) : J X ov F mm pc L (.long x :: st) := by
  obtain ⟨p, l, e, R, s, m, args, below, meth, c, D, cy, ad, A, sad, kc, ks, fin, qq⟩ := X
  obtain ⟨hx, hb, hml, hown, hts, hK, hA, hSt, hlk, hfr, hlo, hkc, hks⟩ := hX
  intro res hF ho H locs ls hP hS hl
  exact lv_l2i hx hb hd rfl (k res hF ho H locs ls hP hS hl)
theorem r_lcmp (hX : Gd X cc own nL fr) {x y : Int64} (hd : decode cc pc = .ok (.lcmp, 1))  (k : J X ov F mm (pc + 1) L (.int (lg_cmp x y) :: st)) : J X ov F mm pc L (.long y :: .long x :: st) := by
  obtain ⟨p, l, e, R, s, m, args, below, meth, c, D, cy, ad, A, sad, kc, ks, fin, qq⟩ := X
  obtain ⟨hx, hb, hml, hown, hts, hK, hA, hSt, hlk, hfr, hlo, hkc, hks⟩ := hX
  intro res hF ho H locs ls hP hS hl
  exact W.lcmp hx hb hd (k res hF ho H locs ls hP hS hl)
theorem r_dup (hX : Gd X cc own nL fr) {va : Value} (hd : decode cc pc = .ok (.dup, 1)) (hva : va.category = 1) (k : J X ov F mm (pc + 1) L (va :: va :: st)) : J X ov F mm pc L (va :: st) := by
  obtain ⟨p, l, e, R, s, m, args, below, meth, c, D, cy, ad, A, sad, kc, ks, fin, qq⟩ := X
  obtain ⟨hx, hb, hml, hown, hts, hK, hA, hSt, hlk, hfr, hlo, hkc, hks⟩ := hX
  intro res hF ho H locs ls hP hS hl
  exact lv_dup hx hb hd hva (k res hF ho H locs ls hP hS hl)
theorem r_dup_x1 (hX : Gd X cc own nL fr) {va vb : Value} (hd : decode cc pc = .ok (.dup_x1, 1)) (hva : va.category = 1) (hvb : vb.category = 1) (k : J X ov F mm (pc + 1) L (va :: vb :: va :: st)) : J X ov F mm pc L (va :: vb :: st) := by
  obtain ⟨p, l, e, R, s, m, args, below, meth, c, D, cy, ad, A, sad, kc, ks, fin, qq⟩ := X
  obtain ⟨hx, hb, hml, hown, hts, hK, hA, hSt, hlk, hfr, hlo, hkc, hks⟩ := hX
  intro res hF ho H locs ls hP hS hl
  exact lv_dup_x1 hx hb hd hva hvb (k res hF ho H locs ls hP hS hl)
theorem r_dup2 (hX : Gd X cc own nL fr) {va vb : Value} (hd : decode cc pc = .ok (.dup2, 1)) (hva : va.category = 1) (hvb : vb.category = 1) (k : J X ov F mm (pc + 1) L (va :: vb :: va :: vb :: st)) : J X ov F mm pc L (va :: vb :: st) := by
  obtain ⟨p, l, e, R, s, m, args, below, meth, c, D, cy, ad, A, sad, kc, ks, fin, qq⟩ := X
  obtain ⟨hx, hb, hml, hown, hts, hK, hA, hSt, hlk, hfr, hlo, hkc, hks⟩ := hX
  intro res hF ho H locs ls hP hS hl
  exact lv_dup2_11 hx hb hd hva hvb (k res hF ho H locs ls hP hS hl)
theorem r_if_eq (hX : Gd X cc own nL fr) {x : Int32} {off : Int} {tgt : Nat} {B C : Option ρ} (hd : decode cc pc = .ok (.ifCond .eq off, 3)) (ht : (pc : Int) + off = (tgt : Int)) (kt : J X ov B mm tgt L st) (kf : J X ov C mm (pc + 3) L st) : J X ov (if x = 0 then B else C) mm pc L (.int x :: st) := by
  obtain ⟨p, l, e, R, s, m, args, below, meth, c, D, cy, ad, A, sad, kc, ks, fin, qq⟩ := X
  obtain ⟨hx, hb, hml, hown, hts, hK, hA, hSt, hlk, hfr, hlo, hkc, hks⟩ := hX
  intro res hF ho H locs ls hP hS hl
  refine lv_if_eq hx hb hd ht (fun h => ?_) (fun h => ?_)
  · rw [if_pos h] at hF; exact kt res hF ho H locs ls hP hS hl
  · rw [if_neg h] at hF; exact kf res hF ho H locs ls hP hS hl
theorem r_icmp_eq (hX : Gd X cc own nL fr) {x y : Int32} {off : Int} {tgt : Nat} {B C : Option ρ} (hd : decode cc pc = .ok (.if_icmp .eq off, 3)) (ht : (pc : Int) + off = (tgt : Int)) (kt : J X ov B mm tgt L st) (kf : J X ov C mm (pc + 3) L st) : J X ov (if x = y then B else C) mm pc L (.int y :: .int x :: st) := by
  obtain ⟨p, l, e, R, s, m, args, below, meth, c, D, cy, ad, A, sad, kc, ks, fin, qq⟩ := X
  obtain ⟨hx, hb, hml, hown, hts, hK, hA, hSt, hlk, hfr, hlo, hkc, hks⟩ := hX
  intro res hF ho H locs ls hP hS hl
  refine lv_icmp_eq hx hb hd ht (fun h => ?_) (fun h => ?_)
  · rw [if_pos h] at hF; exact kt res hF ho H locs ls hP hS hl
  · rw [if_neg h] at hF; exact kf res hF ho H locs ls hP hS hl
theorem r_if_ne (hX : Gd X cc own nL fr) {x : Int32} {off : Int} {tgt : Nat} {B C : Option ρ} (hd : decode cc pc = .ok (.ifCond .ne off, 3)) (ht : (pc : Int) + off = (tgt : Int)) (kt : J X ov C mm tgt L st) (kf : J X ov B mm (pc + 3) L st) : J X ov (if x = 0 then B else C) mm pc L (.int x :: st) := by
  obtain ⟨p, l, e, R, s, m, args, below, meth, c, D, cy, ad, A, sad, kc, ks, fin, qq⟩ := X
  obtain ⟨hx, hb, hml, hown, hts, hK, hA, hSt, hlk, hfr, hlo, hkc, hks⟩ := hX
  intro res hF ho H locs ls hP hS hl
  refine lv_if_ne hx hb hd ht (fun h => ?_) (fun h => ?_)
  · rw [if_neg h] at hF; exact kt res hF ho H locs ls hP hS hl
  · rw [if_pos h] at hF; exact kf res hF ho H locs ls hP hS hl
theorem r_icmp_ne (hX : Gd X cc own nL fr) {x y : Int32} {off : Int} {tgt : Nat} {B C : Option ρ} (hd : decode cc pc = .ok (.if_icmp .ne off, 3)) (ht : (pc : Int) + off = (tgt : Int)) (kt : J X ov C mm tgt L st) (kf : J X ov B mm (pc + 3) L st) : J X ov (if x = y then B else C) mm pc L (.int y :: .int x :: st) := by
  obtain ⟨p, l, e, R, s, m, args, below, meth, c, D, cy, ad, A, sad, kc, ks, fin, qq⟩ := X
  obtain ⟨hx, hb, hml, hown, hts, hK, hA, hSt, hlk, hfr, hlo, hkc, hks⟩ := hX
  intro res hF ho H locs ls hP hS hl
  refine lv_icmp_ne hx hb hd ht (fun h => ?_) (fun h => ?_)
  · rw [if_neg h] at hF; exact kt res hF ho H locs ls hP hS hl
  · rw [if_pos h] at hF; exact kf res hF ho H locs ls hP hS hl
theorem r_if_lt (hX : Gd X cc own nL fr) {x : Int32} {off : Int} {tgt : Nat} {B C : Option ρ} (hd : decode cc pc = .ok (.ifCond .lt off, 3)) (ht : (pc : Int) + off = (tgt : Int)) (kt : J X ov B mm tgt L st) (kf : J X ov C mm (pc + 3) L st) : J X ov (if x < 0 then B else C) mm pc L (.int x :: st) := by
  obtain ⟨p, l, e, R, s, m, args, below, meth, c, D, cy, ad, A, sad, kc, ks, fin, qq⟩ := X
  obtain ⟨hx, hb, hml, hown, hts, hK, hA, hSt, hlk, hfr, hlo, hkc, hks⟩ := hX
  intro res hF ho H locs ls hP hS hl
  refine lv_if_lt hx hb hd ht (fun h => ?_) (fun h => ?_)
  · rw [if_pos h] at hF; exact kt res hF ho H locs ls hP hS hl
  · rw [if_neg h] at hF; exact kf res hF ho H locs ls hP hS hl
theorem r_icmp_lt (hX : Gd X cc own nL fr) {x y : Int32} {off : Int} {tgt : Nat} {B C : Option ρ} (hd : decode cc pc = .ok (.if_icmp .lt off, 3)) (ht : (pc : Int) + off = (tgt : Int)) (kt : J X ov B mm tgt L st) (kf : J X ov C mm (pc + 3) L st) : J X ov (if x < y then B else C) mm pc L (.int y :: .int x :: st) := by
  obtain ⟨p, l, e, R, s, m, args, below, meth, c, D, cy, ad, A, sad, kc, ks, fin, qq⟩ := X
  obtain ⟨hx, hb, hml, hown, hts, hK, hA, hSt, hlk, hfr, hlo, hkc, hks⟩ := hX
  intro res hF ho H locs ls hP hS hl
  refine lv_icmp_lt hx hb hd ht (fun h => ?_) (fun h => ?_)
  · rw [if_pos h] at hF; exact kt res hF ho H locs ls hP hS hl
  · rw [if_neg h] at hF; exact kf res hF ho H locs ls hP hS hl
theorem r_if_ge (hX : Gd X cc own nL fr) {x : Int32} {off : Int} {tgt : Nat} {B C : Option ρ} (hd : decode cc pc = .ok (.ifCond .ge off, 3)) (ht : (pc : Int) + off = (tgt : Int)) (kt : J X ov B mm tgt L st) (kf : J X ov C mm (pc + 3) L st) : J X ov (if 0 ≤ x then B else C) mm pc L (.int x :: st) := by
  obtain ⟨p, l, e, R, s, m, args, below, meth, c, D, cy, ad, A, sad, kc, ks, fin, qq⟩ := X
  obtain ⟨hx, hb, hml, hown, hts, hK, hA, hSt, hlk, hfr, hlo, hkc, hks⟩ := hX
  intro res hF ho H locs ls hP hS hl
  refine lv_if_ge hx hb hd ht (fun h => ?_) (fun h => ?_)
  · rw [if_pos h] at hF; exact kt res hF ho H locs ls hP hS hl
  · rw [if_neg h] at hF; exact kf res hF ho H locs ls hP hS hl
theorem r_icmp_ge (hX : Gd X cc own nL fr) {x y : Int32} {off : Int} {tgt : Nat} {B C : Option ρ} (hd : decode cc pc = .ok (.if_icmp .ge off, 3)) (ht : (pc : Int) + off = (tgt : Int)) (kt : J X ov B mm tgt L st) (kf : J X ov C mm (pc + 3) L st) : J X ov (if y ≤ x then B else C) mm pc L (.int y :: .int x :: st) := by
  obtain ⟨p, l, e, R, s, m, args, below, meth, c, D, cy, ad, A, sad, kc, ks, fin, qq⟩ := X
  obtain ⟨hx, hb, hml, hown, hts, hK, hA, hSt, hlk, hfr, hlo, hkc, hks⟩ := hX
  intro res hF ho H locs ls hP hS hl
  refine lv_icmp_ge hx hb hd ht (fun h => ?_) (fun h => ?_)
  · rw [if_pos h] at hF; exact kt res hF ho H locs ls hP hS hl
  · rw [if_neg h] at hF; exact kf res hF ho H locs ls hP hS hl
theorem r_if_gt (hX : Gd X cc own nL fr) {x : Int32} {off : Int} {tgt : Nat} {B C : Option ρ} (hd : decode cc pc = .ok (.ifCond .gt off, 3)) (ht : (pc : Int) + off = (tgt : Int)) (kt : J X ov B mm tgt L st) (kf : J X ov C mm (pc + 3) L st) : J X ov (if 0 < x then B else C) mm pc L (.int x :: st) := by
  obtain ⟨p, l, e, R, s, m, args, below, meth, c, D, cy, ad, A, sad, kc, ks, fin, qq⟩ := X
  obtain ⟨hx, hb, hml, hown, hts, hK, hA, hSt, hlk, hfr, hlo, hkc, hks⟩ := hX
  intro res hF ho H locs ls hP hS hl
  refine lv_if_gt hx hb hd ht (fun h => ?_) (fun h => ?_)
  · rw [if_pos h] at hF; exact kt res hF ho H locs ls hP hS hl
  · rw [if_neg h] at hF; exact kf res hF ho H locs ls hP hS hl
theorem r_icmp_gt (hX : Gd X cc own nL fr) {x y : Int32} {off : Int} {tgt : Nat} {B C : Option ρ} (hd : decode cc pc = .ok (.if_icmp .gt off, 3)) (ht : (pc : Int) + off = (tgt : Int)) (kt : J X ov B mm tgt L st) (kf : J X ov C mm (pc + 3) L st) : J X ov (if y < x then B else C) mm pc L (.int y :: .int x :: st) := by
  obtain ⟨p, l, e, R, s, m, args, below, meth, c, D, cy, ad, A, sad, kc, ks, fin, qq⟩ := X
  obtain ⟨hx, hb, hml, hown, hts, hK, hA, hSt, hlk, hfr, hlo, hkc, hks⟩ := hX
  intro res hF ho H locs ls hP hS hl
  refine lv_icmp_gt hx hb hd ht (fun h => ?_) (fun h => ?_)
  · rw [if_pos h] at hF; exact kt res hF ho H locs ls hP hS hl
  · rw [if_neg h] at hF; exact kf res hF ho H locs ls hP hS hl
theorem r_if_le (hX : Gd X cc own nL fr) {x : Int32} {off : Int} {tgt : Nat} {B C : Option ρ} (hd : decode cc pc = .ok (.ifCond .le off, 3)) (ht : (pc : Int) + off = (tgt : Int)) (kt : J X ov B mm tgt L st) (kf : J X ov C mm (pc + 3) L st) : J X ov (if x ≤ 0 then B else C) mm pc L (.int x :: st) := by
  obtain ⟨p, l, e, R, s, m, args, below, meth, c, D, cy, ad, A, sad, kc, ks, fin, qq⟩ := X
  obtain ⟨hx, hb, hml, hown, hts, hK, hA, hSt, hlk, hfr, hlo, hkc, hks⟩ := hX
  intro res hF ho H locs ls hP hS hl
  refine lv_if_le hx hb hd ht (fun h => ?_) (fun h => ?_)
  · rw [if_pos h] at hF; exact kt res hF ho H locs ls hP hS hl
  · rw [if_neg h] at hF; exact kf res hF ho H locs ls hP hS hl
theorem r_icmp_le (hX : Gd X cc own nL fr) {x y : Int32} {off : Int} {tgt : Nat} {B C : Option ρ} (hd : decode cc pc = .ok (.if_icmp .le off, 3)) (ht : (pc : Int) + off = (tgt : Int)) (kt : J X ov B mm tgt L st) (kf : J X ov C mm (pc + 3) L st) : J X ov (if x ≤ y then B else C) mm pc L (.int y :: .int x :: st) := by
  obtain ⟨p, l, e, R, s, m, args, below, meth, c, D, cy, ad, A, sad, kc, ks, fin, qq⟩ := X
  obtain ⟨hx, hb, hml, hown, hts, hK, hA, hSt, hlk, hfr, hlo, hkc, hks⟩ := hX
  intro res hF ho H locs ls hP hS hl
  refine lv_icmp_le hx hb hd ht (fun h => ?_) (fun h => ?_)
  · rw [if_pos h] at hF; exact kt res hF ho H locs ls hP hS hl
  · rw [if_neg h] at hF; exact kf res hF ho H locs ls hP hS hl
theorem r_goto (hX : Gd X cc own nL fr) {off : Int} {tgt : Nat} (hd : decode cc pc = .ok (.goto off, 3)) (ht : (pc : Int) + off = (tgt : Int)) (k : J X ov F mm tgt L st) : J X ov F mm pc L st := by
  obtain ⟨p, l, e, R, s, m, args, below, meth, c, D, cy, ad, A, sad, kc, ks, fin, qq⟩ := X
  obtain ⟨hx, hb, hml, hown, hts, hK, hA, hSt, hlk, hfr, hlo, hkc, hks⟩ := hX
  intro res hF ho H locs ls hP hS hl
  exact lv_goto hx hb hd ht (k res hF ho H locs ls hP hS hl)
theorem r_swIn (hX : Gd X cc own nL fr) {dflt lo hi : Int} {offs : Array Int} {len : Nat} {x : Int32} {off : Int} {tgt : Nat} (hd : decode cc pc = .ok (.tableswitch dflt lo hi offs, len)) (h1 : ¬ x.toInt < lo) (h2 : ¬ hi < x.toInt) (h3 : offs[(x.toInt - lo).toNat]? = some off) (ht : (pc : Int) + off = (tgt : Int)) (k : J X ov F mm tgt L st) : J X ov F mm pc L (.int x :: st) := by
  obtain ⟨p, l, e, R, s, m, args, below, meth, c, D, cy, ad, A, sad, kc, ks, fin, qq⟩ := X
  obtain ⟨hx, hb, hml, hown, hts, hK, hA, hSt, hlk, hfr, hlo, hkc, hks⟩ := hX
  intro res hF ho H locs ls hP hS hl
  exact lv_tableIn hx hb hd h1 h2 h3 ht (k res hF ho H locs ls hP hS hl)
theorem r_swOut (hX : Gd X cc own nL fr) {dflt lo hi : Int} {offs : Array Int} {len : Nat} {x : Int32} {tgt : Nat} (hd : decode cc pc = .ok (.tableswitch dflt lo hi offs, len)) (h : x.toInt < lo ∨ hi < x.toInt) (ht : (pc : Int) + dflt = (tgt : Int)) (k : J X ov F mm tgt L st) : J X ov F mm pc L (.int x :: st) := by
  obtain ⟨p, l, e, R, s, m, args, below, meth, c, D, cy, ad, A, sad, kc, ks, fin, qq⟩ := X
  obtain ⟨hx, hb, hml, hown, hts, hK, hA, hSt, hlk, hfr, hlo, hkc, hks⟩ := hX
  intro res hF ho H locs ls hP hS hl
  exact lv_tableOut hx hb hd h ht (k res hF ho H locs ls hP hS hl)
/-- a class of the system -/
def KC (ci : Nat) (C : String) (T : u_T) (N : Nat) (ty : Nat → FieldType) : Prop := vwCl[ci]? = some (C, T, N) ∧ (∀ w ∈ u_ws C T N, w ∈ gt) ∧ (∀ k, k < N → parseFieldDescriptor (T k).2.2.1 = some (ty k)) ∧ (∀ a, a < N → ∀ b, b < N → a ≠ b → (T a).2.1 ≠ (T b).2.1) ∧ N = nf ci ∧ ci < 9
/-- the entry idx of own's pool names slot j of class ci, of type t -/
def FP (own : String) (idx ci j t : Nat) (tv : FieldType) (fn : Bool) : Prop := ∃ (C : String) (T : u_T) (N : Nat) (ty : Nat → FieldType), KC ci C T N ty ∧ j < N ∧ ft ci j = t ∧ ty j = tv ∧ (T j).2.2.2 = fn ∧ Cond.fieldLink own idx C (T j).2.1 (T j).2.2.1 ∈ gt
theorem TX_own : ∀ q ∈ vwCl, ∀ j, j < q.2.2 → (q.2.1 j).1 = q.1 := by decide +kernel
theorem u_T_own {ci : Nat} {C : String} {T : u_T} {N : Nat} (h : vwCl[ci]? = some (C, T, N)) (j : Nat) (hj : j < N) : (T j).1 = C := TX_own _ (List.mem_of_getElem? h) j hj
theorem r_getI (hX : Gd X cc own nL fr) {idx ci j t o : Nat} {tv : FieldType} {fn : Bool}  (hd : decode cc pc = .ok (.getfield idx, 3)) (hf : FP own idx ci j t tv fn) (h9 : kd o = ci) (ht : t < 2) (k : J X ov F mm (pc + 3) L (.int (mm.1 o j) :: st)) : J X ov F mm pc L (rX X o :: st) := by
  obtain ⟨p, l, e, R, s, m, args, below, meth, c, D, cy, ad, A, sad, kc, ks, fin, qq⟩ := X
  obtain ⟨hx, hb, hml, hown, hts, hK, hA, hSt, hlk, hfr, hlo, hkc, hks⟩ := hX
  intro res hF ho H locs ls hP hS hl
  obtain ⟨C, T, N, ty, ⟨k1, k2, k3, k4, k5, k6⟩, f1, f2, f3, f4, f5⟩ := hf
  subst h9
  obtain ⟨q, hq1, hq2⟩ := ws_get (cy := cy) (ad := ad) (m := mm) (o := o) (by omega)
  rw [cel_o k6] at hq2
  have hv := fs_at (ad := ad) (m := mm) (o := o) (j := j) (by rw [← k5]; exact f1)
  unfold sv at hv
  rw [f2, if_pos ht] at hv
  exact va_get hx hb hts k2 hown hK hP q hq2 k1 j f1 (hts _ f5) (fun _ h => by rw [(u_T_own k1 j f1)] at h; exact h) hv hd (k res hF ho H locs ls hP hS hl)
theorem r_getL (hX : Gd X cc own nL fr) {idx ci j t o : Nat} {tv : FieldType} {fn : Bool}  (hd : decode cc pc = .ok (.getfield idx, 3)) (hf : FP own idx ci j t tv fn) (h9 : kd o = ci) (ht : t = 2) (k : J X ov F mm (pc + 3) L (.long (mm.2 o j) :: st)) : J X ov F mm pc L (rX X o :: st) := by
  obtain ⟨p, l, e, R, s, m, args, below, meth, c, D, cy, ad, A, sad, kc, ks, fin, qq⟩ := X
  obtain ⟨hx, hb, hml, hown, hts, hK, hA, hSt, hlk, hfr, hlo, hkc, hks⟩ := hX
  intro res hF ho H locs ls hP hS hl
  obtain ⟨C, T, N, ty, ⟨k1, k2, k3, k4, k5, k6⟩, f1, f2, f3, f4, f5⟩ := hf
  subst h9
  obtain ⟨q, hq1, hq2⟩ := ws_get (cy := cy) (ad := ad) (m := mm) (o := o) (by omega)
  rw [cel_o k6] at hq2
  have hv := fs_at (ad := ad) (m := mm) (o := o) (j := j) (by rw [← k5]; exact f1)
  unfold sv at hv
  rw [f2, if_neg (by omega), if_pos ht] at hv
  exact va_get hx hb hts k2 hown hK hP q hq2 k1 j f1 (hts _ f5) (fun _ h => by rw [(u_T_own k1 j f1)] at h; exact h) hv hd (k res hF ho H locs ls hP hS hl)
theorem r_getR (hX : Gd X cc own nL fr) {idx ci j t o : Nat} {tv : FieldType} {fn : Bool} {o2 : Nat} (hd : decode cc pc = .ok (.getfield idx, 3)) (hf : FP own idx ci j t tv fn) (h9 : kd o = ci) (ht : t = 3) (hr : rf o j = some o2) (k : J X ov F mm (pc + 3) L (rX X o2 :: st)) : J X ov F mm pc L (rX X o :: st) := by
  obtain ⟨p, l, e, R, s, m, args, below, meth, c, D, cy, ad, A, sad, kc, ks, fin, qq⟩ := X
  obtain ⟨hx, hb, hml, hown, hts, hK, hA, hSt, hlk, hfr, hlo, hkc, hks⟩ := hX
  intro res hF ho H locs ls hP hS hl
  obtain ⟨C, T, N, ty, ⟨k1, k2, k3, k4, k5, k6⟩, f1, f2, f3, f4, f5⟩ := hf
  subst h9
  obtain ⟨q, hq1, hq2⟩ := ws_get (cy := cy) (ad := ad) (m := mm) (o := o) (by omega)
  rw [cel_o k6] at hq2
  have hv := fs_at (ad := ad) (m := mm) (o := o) (j := j) (by rw [← k5]; exact f1)
  unfold sv at hv
  rw [f2, if_neg (by omega), if_neg (by omega), hr] at hv
  exact va_get hx hb hts k2 hown hK hP q hq2 k1 j f1 (hts _ f5) (fun _ h => by rw [(u_T_own k1 j f1)] at h; exact h) hv hd (k res hF ho H locs ls hP hS hl)
theorem r_putI (hX : Gd X cc own nL fr) {idx ci j o : Nat} {v : Int32} {K : Me → Option ρ} (hd : decode cc pc = .ok (.putfield idx, 3)) (hf : FP own idx ci j 0 .int false) (h9 : kd o = ci) (k : ∀ m', J X ov (K m') m' (pc + 3) L st) : J X ov (bd (si mm o j v) K) mm pc L (.int v :: rX X o :: st) := by
  obtain ⟨p, l, e, R, s, m, args, below, meth, c, D, cy, ad, A, sad, kc, ks, fin, qq⟩ := X
  obtain ⟨hx, hb, hml, hown, hts, hK, hA, hSt, hlk, hfr, hlo, hkc, hks⟩ := hX
  intro res hF ho H locs ls hP hS hl
  obtain ⟨C, T, N, ty, ⟨k1, k2, k3, k4, k5, k6⟩, f1, f2, f3, f4, f5⟩ := hf
  subst h9
  obtain ⟨q, hq1, hq2⟩ := ws_get (cy := cy) (ad := ad) (m := mm) (o := o) (by omega)
  rw [cel_o k6] at hq2
  refine va_put hx hb hts k2 ty k3 k4 hown hK hP (hA.D cy mm) hS q hq2 k1 j f1 (hts _ f5) (fun _ h => by rw [(u_T_own k1 j f1)] at h; exact h) f4 (ty := .int) (v := .int v) (by rw [k3 j f1, f3]) rfl rfl (by unfold fsOf; rw [List.length_map, List.length_range, ← k5]; exact f1) hd (fun H1 locs1 hP1 _ hS1 => ?_)
  rw [ws_si hq1 k6 (by rw [f2]; decide)] at hP1
  exact k _ res hF ho H1 locs1 ls hP1 hS1 hl
theorem r_putZ (hX : Gd X cc own nL fr) {idx ci j o : Nat} {v : Int32} {K : Me → Option ρ} (hd : decode cc pc = .ok (.putfield idx, 3)) (hf : FP own idx ci j 1 .boolean false) (h9 : kd o = ci) (k : ∀ m', J X ov (K m') m' (pc + 3) L st) : J X ov (pz mm o j v K) mm pc L (.int v :: rX X o :: st) := by
  obtain ⟨p, l, e, R, s, m, args, below, meth, c, D, cy, ad, A, sad, kc, ks, fin, qq⟩ := X
  obtain ⟨hx, hb, hml, hown, hts, hK, hA, hSt, hlk, hfr, hlo, hkc, hks⟩ := hX
  intro res hF ho H locs ls hP hS hl
  obtain ⟨C, T, N, ty, ⟨k1, k2, k3, k4, k5, k6⟩, f1, f2, f3, f4, f5⟩ := hf
  subst h9
  obtain ⟨q, hq1, hq2⟩ := ws_get (cy := cy) (ad := ad) (m := mm) (o := o) (by omega)
  rw [cel_o k6] at hq2
  unfold pz at hF
  by_cases hz : v = 0 ∨ v = 1
  case neg => rw [if_neg hz] at hF; cases hF
  rw [if_pos hz] at hF
  refine va_put hx hb hts k2 ty k3 k4 hown hK hP (hA.D cy mm) hS q hq2 k1 j f1 (hts _ f5) (fun _ h => by rw [(u_T_own k1 j f1)] at h; exact h) f4 (ty := .boolean) (v := .int v) (by rw [k3 j f1, f3]) (by rcases hz with rfl | rfl <;> rfl) (by rcases hz with rfl | rfl <;> rfl) (by unfold fsOf; rw [List.length_map, List.length_range, ← k5]; exact f1) hd (fun H1 locs1 hP1 _ hS1 => ?_)
  rw [ws_si hq1 k6 (by rw [f2]; decide)] at hP1
  exact k _ res hF ho H1 locs1 ls hP1 hS1 hl
theorem r_putL (hX : Gd X cc own nL fr) {idx ci j o : Nat} {v : Int64} {K : Me → Option ρ} (hd : decode cc pc = .ok (.putfield idx, 3)) (hf : FP own idx ci j 2 .long false) (h9 : kd o = ci) (k : ∀ m', J X ov (K m') m' (pc + 3) L st) : J X ov (bd (sl mm o j v) K) mm pc L (.long v :: rX X o :: st) := by
  obtain ⟨p, l, e, R, s, m, args, below, meth, c, D, cy, ad, A, sad, kc, ks, fin, qq⟩ := X
  obtain ⟨hx, hb, hml, hown, hts, hK, hA, hSt, hlk, hfr, hlo, hkc, hks⟩ := hX
  intro res hF ho H locs ls hP hS hl
  obtain ⟨C, T, N, ty, ⟨k1, k2, k3, k4, k5, k6⟩, f1, f2, f3, f4, f5⟩ := hf
  subst h9
  obtain ⟨q, hq1, hq2⟩ := ws_get (cy := cy) (ad := ad) (m := mm) (o := o) (by omega)
  rw [cel_o k6] at hq2
  refine va_put hx hb hts k2 ty k3 k4 hown hK hP (hA.D cy mm) hS q hq2 k1 j f1 (hts _ f5) (fun _ h => by rw [(u_T_own k1 j f1)] at h; exact h) f4 (ty := .long) (v := .long v) (by rw [k3 j f1, f3]) rfl rfl (by unfold fsOf; rw [List.length_map, List.length_range, ← k5]; exact f1) hd (fun H1 locs1 hP1 _ hS1 => ?_)
  rw [ws_sl hq1 k6 (by rw [f2])] at hP1
  exact k _ res hF ho H1 locs1 ls hP1 hS1 hl
theorem r_iald (hX : Gd X cc own nL fr) {o : Nat} {i : Int32} {K : Int32 → Option ρ} (hd : decode cc pc = .ok (.iaload, 1)) (h9 : kd o = 20) (k : ∀ v, J X ov (K v) mm (pc + 1) L (.int v :: st)) : J X ov (rd (ln o) i (mm.1 o) K) mm pc L (.int i :: rX X o :: st) := by
  obtain ⟨p, l, e, R, s, m, args, below, meth, c, D, cy, ad, A, sad, kc, ks, fin, qq⟩ := X
  obtain ⟨hx, hb, hml, hown, hts, hK, hA, hSt, hlk, hfr, hlo, hkc, hks⟩ := hX
  intro res hF ho H locs ls hP hS hl
  unfold rd at hF
  by_cases hi : i < 0 ∨ ln o ≤ i.toNatClampNeg
  case pos => rw [if_pos hi] at hF; cases hF
  rw [if_neg hi] at hF
  obtain ⟨q, hq1, hq2⟩ := ws_get (cy := cy) (ad := ad) (m := mm) (o := o) (by omega)
  rw [cel_i h9] at hq2
  exact va_iald hx hb hK hP q 0 hq2 rfl hi hd (k _ res hF ho H locs ls hP hS hl)
theorem r_lald (hX : Gd X cc own nL fr) {o : Nat} {i : Int32} {K : Int64 → Option ρ} (hd : decode cc pc = .ok (.laload, 1)) (h9 : kd o = 21) (k : ∀ v, J X ov (K v) mm (pc + 1) L (.long v :: st)) : J X ov (rd (ln o) i (mm.2 o) K) mm pc L (.int i :: rX X o :: st) := by
  obtain ⟨p, l, e, R, s, m, args, below, meth, c, D, cy, ad, A, sad, kc, ks, fin, qq⟩ := X
  obtain ⟨hx, hb, hml, hown, hts, hK, hA, hSt, hlk, hfr, hlo, hkc, hks⟩ := hX
  intro res hF ho H locs ls hP hS hl
  unfold rd at hF
  by_cases hi : i < 0 ∨ ln o ≤ i.toNatClampNeg
  case pos => rw [if_pos hi] at hF; cases hF
  rw [if_neg hi] at hF
  obtain ⟨q, hq1, hq2⟩ := ws_get (cy := cy) (ad := ad) (m := mm) (o := o) (by omega)
  rw [cel_l h9] at hq2
  exact va_lald hx hb hK hP q 1 hq2 rfl hi hd (k _ res hF ho H locs ls hP hS hl)
theorem r_zald (hX : Gd X cc own nL fr) {o : Nat} {i : Int32} {K : Int32 → Option ρ} (hd : decode cc pc = .ok (.baload, 1)) (h9 : kd o = 22) (k : ∀ v, J X ov (K v) mm (pc + 1) L (.int v :: st)) : J X ov (rd (ln o) i (mm.1 o) K) mm pc L (.int i :: rX X o :: st) := by
  obtain ⟨p, l, e, R, s, m, args, below, meth, c, D, cy, ad, A, sad, kc, ks, fin, qq⟩ := X
  obtain ⟨hx, hb, hml, hown, hts, hK, hA, hSt, hlk, hfr, hlo, hkc, hks⟩ := hX
  intro res hF ho H locs ls hP hS hl
  unfold rd at hF
  by_cases hi : i < 0 ∨ ln o ≤ i.toNatClampNeg
  case pos => rw [if_pos hi] at hF; cases hF
  rw [if_neg hi] at hF
  obtain ⟨q, hq1, hq2⟩ := ws_get (cy := cy) (ad := ad) (m := mm) (o := o) (by omega)
  rw [cel_z h9] at hq2
  exact va_zald hx hb hK hP q 2 hq2 rfl hi hd (k _ res hF ho H locs ls hP hS hl)
theorem r_iast (hX : Gd X cc own nL fr) {o : Nat} {i : Int32} {v : Int32} {K : Me → Option ρ} (hd : decode cc pc = .ok (.iastore, 1)) (h9 : kd o = 20) (k : ∀ m', J X ov (K m') m' (pc + 1) L st) : J X ov (wi mm o (ln o) i v K) mm pc L (.int v :: .int i :: rX X o :: st) := by
  obtain ⟨p, l, e, R, s, m, args, below, meth, c, D, cy, ad, A, sad, kc, ks, fin, qq⟩ := X
  obtain ⟨hx, hb, hml, hown, hts, hK, hA, hSt, hlk, hfr, hlo, hkc, hks⟩ := hX
  intro res hF ho H locs ls hP hS hl
  unfold wi at hF
  by_cases hi : i < 0 ∨ ln o ≤ i.toNatClampNeg
  case pos => rw [if_pos hi] at hF; cases hF
  rw [if_neg hi] at hF
  obtain ⟨q, hq1, hq2⟩ := ws_get (cy := cy) (ad := ad) (m := mm) (o := o) (by omega)
  rw [cel_i h9] at hq2
  refine va_iast hx hb hK hP (hA.D cy mm) hS q 0 hq2 rfl hi hd (fun H1 locs1 hP1 _ hS1 => ?_)
  rw [ws_set (m := mm) (m' := si mm o i.toNatClampNeg v) hq1 (by rw [cel_i h9, si_upd]) (fun _ h => cel_eq (si_ne h) rfl)] at hP1
  exact k _ res hF ho H1 locs1 ls hP1 hS1 hl
theorem r_last (hX : Gd X cc own nL fr) {o : Nat} {i : Int32} {v : Int64} {K : Me → Option ρ} (hd : decode cc pc = .ok (.lastore, 1)) (h9 : kd o = 21) (k : ∀ m', J X ov (K m') m' (pc + 1) L st) : J X ov (wl mm o (ln o) i v K) mm pc L (.long v :: .int i :: rX X o :: st) := by
  obtain ⟨p, l, e, R, s, m, args, below, meth, c, D, cy, ad, A, sad, kc, ks, fin, qq⟩ := X
  obtain ⟨hx, hb, hml, hown, hts, hK, hA, hSt, hlk, hfr, hlo, hkc, hks⟩ := hX
  intro res hF ho H locs ls hP hS hl
  unfold wl at hF
  by_cases hi : i < 0 ∨ ln o ≤ i.toNatClampNeg
  case pos => rw [if_pos hi] at hF; cases hF
  rw [if_neg hi] at hF
  obtain ⟨q, hq1, hq2⟩ := ws_get (cy := cy) (ad := ad) (m := mm) (o := o) (by omega)
  rw [cel_l h9] at hq2
  refine va_last hx hb hK hP (hA.D cy mm) hS q 1 hq2 rfl hi hd (fun H1 locs1 hP1 _ hS1 => ?_)
  rw [ws_set (m := mm) (m' := sl mm o i.toNatClampNeg v) hq1 (by rw [cel_l h9, sl_upd]) (fun _ h => cel_eq rfl (sl_ne h))] at hP1
  exact k _ res hF ho H1 locs1 ls hP1 hS1 hl
theorem r_zast (hX : Gd X cc own nL fr) {o : Nat} {i : Int32} {v : Int32} {K : Me → Option ρ} (hd : decode cc pc = .ok (.bastore, 1)) (h9 : kd o = 22) (k : ∀ m', J X ov (K m') m' (pc + 1) L st) : J X ov (wz mm o (ln o) i v K) mm pc L (.int v :: .int i :: rX X o :: st) := by
  obtain ⟨p, l, e, R, s, m, args, below, meth, c, D, cy, ad, A, sad, kc, ks, fin, qq⟩ := X
  obtain ⟨hx, hb, hml, hown, hts, hK, hA, hSt, hlk, hfr, hlo, hkc, hks⟩ := hX
  intro res hF ho H locs ls hP hS hl
  unfold wz at hF
  by_cases hi : i < 0 ∨ ln o ≤ i.toNatClampNeg
  case pos => rw [if_pos hi] at hF; cases hF
  rw [if_neg hi] at hF
  by_cases hz : v = 0 ∨ v = 1
  case neg => rw [if_neg hz] at hF; cases hF
  rw [if_pos hz] at hF
  obtain ⟨q, hq1, hq2⟩ := ws_get (cy := cy) (ad := ad) (m := mm) (o := o) (by omega)
  rw [cel_z h9] at hq2
  refine va_zast hx hb hK hP (hA.D cy mm) hS q 2 hq2 rfl hi hd (fun H1 locs1 hP1 _ hS1 => ?_)
  rw [ws_set (m := mm) (m' := si mm o i.toNatClampNeg v) hq1 (by rw [cel_z h9, si_upd, show vp_nar .boolean v = v by rcases hz with rfl | rfl <;> rfl]) (fun _ h => cel_eq (si_ne h) rfl)] at hP1
  exact k _ res hF ho H1 locs1 ls hP1 hS1 hl
theorem r_alen (hX : Gd X cc own nL fr) {o : Nat} (hd : decode cc pc = .ok (.arraylength, 1)) (h9 : kd o = 20) (k : J X ov F mm (pc + 1) L (.int (Int32.ofNat (ln o)) :: st)) : J X ov F mm pc L (rX X o :: st) := by
  obtain ⟨p, l, e, R, s, m, args, below, meth, c, D, cy, ad, A, sad, kc, ks, fin, qq⟩ := X
  obtain ⟨hx, hb, hml, hown, hts, hK, hA, hSt, hlk, hfr, hlo, hkc, hks⟩ := hX
  intro res hF ho H locs ls hP hS hl
  obtain ⟨q, hq1, hq2⟩ := ws_get (cy := cy) (ad := ad) (m := mm) (o := o) (by omega)
  rw [cel_i h9] at hq2
  exact va_alen hx hb hK hP q 0 hq2 rfl rfl hd (k res hF ho H locs ls hP hS hl)
theorem r_aldB (hX : Gd X cc own nL fr) {o : Nat} {i : Int32} {K : Nat → Option ρ} (hd : decode cc pc = .ok (.aaload, 1)) (h9 : kd o = 23) (g : Nat → Nat) (hg : ∀ j, j < ln o → rf o j = some (g j)) (k : ∀ j, j < ln o → J X ov (K (g j)) mm (pc + 1) L (rX X (g j) :: st)) : J X ov (rd (ln o) i g K) mm pc L (.int i :: rX X o :: st) := by
  obtain ⟨p, l, e, R, s, m, args, below, meth, c, D, cy, ad, A, sad, kc, ks, fin, qq⟩ := X
  obtain ⟨hx, hb, hml, hown, hts, hK, hA, hSt, hlk, hfr, hlo, hkc, hks⟩ := hX
  intro res hF ho H locs ls hP hS hl
  unfold rd at hF
  by_cases hi : i < 0 ∨ ln o ≤ i.toNatClampNeg
  case pos => rw [if_pos hi] at hF; cases hF
  rw [if_neg hi] at hF
  obtain ⟨q, hq1, hq2⟩ := ws_get (cy := cy) (ad := ad) (m := mm) (o := o) (by omega)
  rw [cel_b h9] at hq2
  have hj : i.toNatClampNeg < ln o := by omega
  have h2 := k _ hj res hF ho H locs ls hP hS hl
  refine va_aldq hx hb hK hP q 3 hq2 rfl hi hd ?_
  rw [hg _ hj]
  exact h2
theorem r_aldC (hX : Gd X cc own nL fr) {o : Nat} {i : Int32} {K : Nat → Option ρ} (hd : decode cc pc = .ok (.aaload, 1)) (h9 : kd o = 24) (g : Nat → Nat) (hg : ∀ j, j < ln o → rf o j = some (g j)) (k : ∀ j, j < ln o → J X ov (K (g j)) mm (pc + 1) L (rX X (g j) :: st)) : J X ov (rd (ln o) i g K) mm pc L (.int i :: rX X o :: st) := by
  obtain ⟨p, l, e, R, s, m, args, below, meth, c, D, cy, ad, A, sad, kc, ks, fin, qq⟩ := X
  obtain ⟨hx, hb, hml, hown, hts, hK, hA, hSt, hlk, hfr, hlo, hkc, hks⟩ := hX
  intro res hF ho H locs ls hP hS hl
  unfold rd at hF
  by_cases hi : i < 0 ∨ ln o ≤ i.toNatClampNeg
  case pos => rw [if_pos hi] at hF; cases hF
  rw [if_neg hi] at hF
  obtain ⟨q, hq1, hq2⟩ := ws_get (cy := cy) (ad := ad) (m := mm) (o := o) (by omega)
  rw [cel_c h9] at hq2
  have hj : i.toNatClampNeg < ln o := by omega
  have h2 := k _ hj res hF ho H locs ls hP hS hl
  refine va_aldq hx hb hK hP q 4 hq2 rfl hi hd ?_
  rw [hg _ hj]
  exact h2
theorem r_gets (hX : Gd X cc own nL fr) {idx : Nat} (n : Nat) (hn : n < 4) (hd : decode cc pc = .ok (.getstatic idx, 3)) (hw : nsw n = Cond.fieldLinkNest own idx "NameChart" (stn n) "[I" "NameChart") (k : J X ov F mm (pc + 3) L (.ref (xsa X n) :: st)) : J X ov F mm pc L st := by
  obtain ⟨p, l, e, R, s, m, args, below, meth, c, D, cy, ad, A, sad, kc, ks, fin, qq⟩ := X
  obtain ⟨hx, hb, hml, hown, hts, hK, hA, hSt, hlk, hfr, hlo, hkc, hks⟩ := hX
  intro res hF ho H locs ls hP hS hl
  exact va_getsN hx hb (hSt n hn).1 hS hown (va_Nw.use rfl (hw ▸ (hSt n hn).2.2)) (fun _ h => h) hd (k res hF ho H locs ls hP hS hl)
theorem r_sald (hX : Gd X cc own nL fr) {i : Int32} {K : Int32 → Option ρ} (n : Nat) (hn : n < 4) (hd : decode cc pc = .ok (.iaload, 1)) (k : ∀ v, J X ov (K v) mm (pc + 1) L (.int v :: st)) : J X ov (rd (stl n) i (stt n) K) mm pc L (.int i :: .ref (xsa X n) :: st) := by
  obtain ⟨p, l, e, R, s, m, args, below, meth, c, D, cy, ad, A, sad, kc, ks, fin, qq⟩ := X
  obtain ⟨hx, hb, hml, hown, hts, hK, hA, hSt, hlk, hfr, hlo, hkc, hks⟩ := hX
  intro res hF ho H locs ls hP hS hl
  unfold rd at hF
  by_cases hi : i < 0 ∨ stl n ≤ i.toNatClampNeg
  case pos => rw [if_pos hi] at hF; cases hF
  rw [if_neg hi] at hF
  exact va_ti hx hb (hSt n hn).2.1 hS hi rfl hd (k _ res hF ho H locs ls hP hS hl)
theorem r_iretI (hX : Gd X cc own nL fr) (hE : Ge X (some .int)) {v : Int32} (hd : decode cc pc = .ok (.ireturn, 1)) : J X oI (some (v, mm)) mm pc L [.int v] := by
  obtain ⟨p, l, e, R, s, m, args, below, meth, c, D, cy, ad, A, sad, kc, ks, fin, qq⟩ := X
  obtain ⟨hx, hb, hml, hown, hts, hK, hA, hSt, hlk, hfr, hlo, hkc, hks⟩ := hX
  intro res hF ho H locs ls hP hS hl
  obtain ⟨hr, hq⟩ := hE
  cases hF
  subst ho
  rw [hq]
  refine W.iret hx hb hr (fun t ht hW => ?_) hS.2.2 hd hlk
  exact ⟨rfl, by rw [ht]; exact hP, va_K.moved hW.alike hK, hS.F ht⟩
theorem r_iretP (hX : Gd X cc own nL fr) (hE : Ge X (some .int)) {v : Int32} (hd : decode cc pc = .ok (.ireturn, 1)) : J X (oP mm) (some v) mm pc L [.int v] := by
  obtain ⟨p, l, e, R, s, m, args, below, meth, c, D, cy, ad, A, sad, kc, ks, fin, qq⟩ := X
  obtain ⟨hx, hb, hml, hown, hts, hK, hA, hSt, hlk, hfr, hlo, hkc, hks⟩ := hX
  intro res hF ho H locs ls hP hS hl
  obtain ⟨hr, hq⟩ := hE
  cases hF
  subst ho
  rw [hq]
  refine W.iret hx hb hr (fun t ht hW => ?_) hS.2.2 hd hlk
  exact ⟨rfl, by rw [ht]; exact hP, va_K.moved hW.alike hK, hS.F ht⟩
theorem r_zretI (hX : Gd X cc own nL fr) (hE : Ge X (some .boolean)) {v : Int32} (hd : decode cc pc = .ok (.ireturn, 1)) : J X oI (zg v (v, mm)) mm pc L [.int v] := by
  obtain ⟨p, l, e, R, s, m, args, below, meth, c, D, cy, ad, A, sad, kc, ks, fin, qq⟩ := X
  obtain ⟨hx, hb, hml, hown, hts, hK, hA, hSt, hlk, hfr, hlo, hkc, hks⟩ := hX
  intro res hF ho H locs ls hP hS hl
  obtain ⟨hr, hq⟩ := hE
  unfold zg at hF
  by_cases hz : v = 0 ∨ v = 1
  case neg => rw [if_neg hz] at hF; cases hF
  rw [if_pos hz] at hF
  cases hF
  subst ho
  rw [hq]
  refine W.zret hx hb hr (by rcases hz with rfl | rfl <;> rfl) (fun t ht hW => ?_) hS.2.2 hd hlk
  exact ⟨rfl, by rw [ht]; exact hP, va_K.moved hW.alike hK, hS.F ht⟩
theorem r_zretP (hX : Gd X cc own nL fr) (hE : Ge X (some .boolean)) {v : Int32} (hd : decode cc pc = .ok (.ireturn, 1)) : J X (oP mm) (zg v v) mm pc L [.int v] := by
  obtain ⟨p, l, e, R, s, m, args, below, meth, c, D, cy, ad, A, sad, kc, ks, fin, qq⟩ := X
  obtain ⟨hx, hb, hml, hown, hts, hK, hA, hSt, hlk, hfr, hlo, hkc, hks⟩ := hX
  intro res hF ho H locs ls hP hS hl
  obtain ⟨hr, hq⟩ := hE
  unfold zg at hF
  by_cases hz : v = 0 ∨ v = 1
  case neg => rw [if_neg hz] at hF; cases hF
  rw [if_pos hz] at hF
  cases hF
  subst ho
  rw [hq]
  refine W.zret hx hb hr (by rcases hz with rfl | rfl <;> rfl) (fun t ht hW => ?_) hS.2.2 hd hlk
  exact ⟨rfl, by rw [ht]; exact hP, va_K.moved hW.alike hK, hS.F ht⟩
theorem r_vret (hX : Gd X cc own nL fr) (hE : Ge X none) (hd : decode cc pc = .ok (.return_, 1)) : J X oV (some mm) mm pc L [] := by
  obtain ⟨p, l, e, R, s, m, args, below, meth, c, D, cy, ad, A, sad, kc, ks, fin, qq⟩ := X
  obtain ⟨hx, hb, hml, hown, hts, hK, hA, hSt, hlk, hfr, hlo, hkc, hks⟩ := hX
  intro res hF ho H locs ls hP hS hl
  obtain ⟨hr, hq⟩ := hE
  cases hF
  subst ho
  rw [hq]
  refine W.vret hx hb hr (fun t ht hW => ?_) hS.2.2 hd hlk
  exact ⟨rfl, by rw [ht]; exact hP, va_K.moved hW.alike hK, hS.F ht⟩
theorem r_lretP (hX : Gd X cc own nL fr) (hE : Ge X (some .long)) {v : Int64} (hd : decode cc pc = .ok (.lreturn, 1)) : J X (oL mm) (some v) mm pc L [.long v] := by
  obtain ⟨p, l, e, R, s, m, args, below, meth, c, D, cy, ad, A, sad, kc, ks, fin, qq⟩ := X
  obtain ⟨hx, hb, hml, hown, hts, hK, hA, hSt, hlk, hfr, hlo, hkc, hks⟩ := hX
  intro res hF ho H locs ls hP hS hl
  obtain ⟨hr, hq⟩ := hE
  cases hF
  subst ho
  rw [hq]
  refine W.lret hx hb hr (fun t ht hW => ?_) hS.2.2 hd hlk
  exact ⟨rfl, by rw [ht]; exact hP, va_K.moved hW.alike hK, hS.F ht⟩
theorem r_aretR (hX : Gd X cc own nL fr) {C : String} (hE : Ge X (some (.object C))) {o : Nat} (hd : decode cc pc = .ok (.areturn, 1)) : J X (oR (xad X) mm) (some o) mm pc L [rX X o] := by
  obtain ⟨p, l, e, R, s, m, args, below, meth, c, D, cy, ad, A, sad, kc, ks, fin, qq⟩ := X
  obtain ⟨hx, hb, hml, hown, hts, hK, hA, hSt, hlk, hfr, hlo, hkc, hks⟩ := hX
  intro res hF ho H locs ls hP hS hl
  obtain ⟨hr, hq⟩ := hE
  cases hF
  have ho : (some (Value.ref (ad o)), mm) = fin := ho
  subst ho
  rw [hq]
  refine W.aret hx hb hr (Or.inl ⟨_, rfl⟩) (Or.inr ⟨_, rfl⟩) (fun t ht hW => ?_) hS.2.2 hd hlk
  exact ⟨rfl, by rw [ht]; exact hP, va_K.moved hW.alike hK, hS.F ht⟩
end ROWS
end
