-- ===== PART A: goes FIRST, ahead of the names: the tables' words, and 'selects' of the private methods out of them =====
/-- a private method of a class that the tables say can be made, by its rows of tables_1 -/
def lw_okq (q : MethodName × Nat) : Prop := (q.1.cls ≠ "java/lang/invoke/MethodHandle" ∧ q.1.cls ≠ "java/lang/invoke/VarHandle") ∧ Cond.instantiable q.1.cls q.2 ∈ tables_1 ∧ Cond.privateMethod q.1 ∈ tables_1 ∧ Cond.instanceMethod q.1 ∈ tables_1
theorem lw_p0 : lw_okq (⟨"NameChart", "redraw", "()V"⟩, 10) := ⟨⟨by decide +kernel, by decide +kernel⟩, List.mem_of_getElem? (i := 15) (by decide +kernel), List.mem_of_getElem? (i := 307) (by decide +kernel), List.mem_of_getElem? (i := 308) (by decide +kernel)⟩
theorem lw_p1 : lw_okq (⟨"NameChart", "forgetDrawing", "()V"⟩, 10) := ⟨⟨by decide +kernel, by decide +kernel⟩, List.mem_of_getElem? (i := 15) (by decide +kernel), List.mem_of_getElem? (i := 325) (by decide +kernel), List.mem_of_getElem? (i := 326) (by decide +kernel)⟩
theorem lw_p2 : lw_okq (⟨"NameChart", "openWays", "(I)I"⟩, 10) := ⟨⟨by decide +kernel, by decide +kernel⟩, List.mem_of_getElem? (i := 15) (by decide +kernel), List.mem_of_getElem? (i := 365) (by decide +kernel), List.mem_of_getElem? (i := 366) (by decide +kernel)⟩
theorem lw_p3 : lw_okq (⟨"NameChart", "layOut", "()V"⟩, 10) := ⟨⟨by decide +kernel, by decide +kernel⟩, List.mem_of_getElem? (i := 15) (by decide +kernel), List.mem_of_getElem? (i := 369) (by decide +kernel), List.mem_of_getElem? (i := 370) (by decide +kernel)⟩
theorem lw_p4 : lw_okq (⟨"NameChart$Box", "coversAny", "([I[III)Z"⟩, 9) := ⟨⟨by decide +kernel, by decide +kernel⟩, List.mem_of_getElem? (i := 114) (by decide +kernel), List.mem_of_getElem? (i := 397) (by decide +kernel), List.mem_of_getElem? (i := 398) (by decide +kernel)⟩
theorem lw_p5 : lw_okq (⟨"NameChart", "splitUp", "()V"⟩, 10) := ⟨⟨by decide +kernel, by decide +kernel⟩, List.mem_of_getElem? (i := 15) (by decide +kernel), List.mem_of_getElem? (i := 411) (by decide +kernel), List.mem_of_getElem? (i := 412) (by decide +kernel)⟩
theorem lw_p6 : lw_okq (⟨"NameChart$Parts", "joinBack", "(LNameChart$Chart;LNameChart$Layout;I)V"⟩, 5) := ⟨⟨by decide +kernel, by decide +kernel⟩, List.mem_of_getElem? (i := 165) (by decide +kernel), List.mem_of_getElem? (i := 419) (by decide +kernel), List.mem_of_getElem? (i := 420) (by decide +kernel)⟩
theorem lw_p7 : lw_okq (⟨"NameChart$Chart", "reachAcross", "(I)I"⟩, 11) := ⟨⟨by decide +kernel, by decide +kernel⟩, List.mem_of_getElem? (i := 23) (by decide +kernel), List.mem_of_getElem? (i := 430) (by decide +kernel), List.mem_of_getElem? (i := 431) (by decide +kernel)⟩
theorem lw_p8 : lw_okq (⟨"NameChart$Chart", "reachDown", "(I)I"⟩, 11) := ⟨⟨by decide +kernel, by decide +kernel⟩, List.mem_of_getElem? (i := 23) (by decide +kernel), List.mem_of_getElem? (i := 438) (by decide +kernel), List.mem_of_getElem? (i := 439) (by decide +kernel)⟩
theorem lw_p9 : lw_okq (⟨"NameChart$Box", "lineEnters", "(LNameChart$Box;)Z"⟩, 9) := ⟨⟨by decide +kernel, by decide +kernel⟩, List.mem_of_getElem? (i := 114) (by decide +kernel), List.mem_of_getElem? (i := 458) (by decide +kernel), List.mem_of_getElem? (i := 459) (by decide +kernel)⟩
theorem lw_p10 : lw_okq (⟨"NameChart$Box", "sideOf", "(II)I"⟩, 9) := ⟨⟨by decide +kernel, by decide +kernel⟩, List.mem_of_getElem? (i := 114) (by decide +kernel), List.mem_of_getElem? (i := 466) (by decide +kernel), List.mem_of_getElem? (i := 467) (by decide +kernel)⟩
theorem lw_p11 : lw_okq (⟨"NameChart$Box", "linesMeet", "(LNameChart$Box;)Z"⟩, 9) := ⟨⟨by decide +kernel, by decide +kernel⟩, List.mem_of_getElem? (i := 114) (by decide +kernel), List.mem_of_getElem? (i := 470) (by decide +kernel), List.mem_of_getElem? (i := 471) (by decide +kernel)⟩
theorem lw_p12 : lw_okq (⟨"NameChart$Parts", "join", "(III)V"⟩, 5) := ⟨⟨by decide +kernel, by decide +kernel⟩, List.mem_of_getElem? (i := 165) (by decide +kernel), List.mem_of_getElem? (i := 476) (by decide +kernel), List.mem_of_getElem? (i := 477) (by decide +kernel)⟩
theorem lw_p13 : lw_okq (⟨"NameChart$Parts", "giveNumbers", "(I)V"⟩, 5) := ⟨⟨by decide +kernel, by decide +kernel⟩, List.mem_of_getElem? (i := 165) (by decide +kernel), List.mem_of_getElem? (i := 480) (by decide +kernel), List.mem_of_getElem? (i := 481) (by decide +kernel)⟩
theorem lw_p14 : lw_okq (⟨"NameChart", "firstShut", "()I"⟩, 10) := ⟨⟨by decide +kernel, by decide +kernel⟩, List.mem_of_getElem? (i := 15) (by decide +kernel), List.mem_of_getElem? (i := 544) (by decide +kernel), List.mem_of_getElem? (i := 545) (by decide +kernel)⟩
theorem lw_p15 : lw_okq (⟨"NameChart", "firstClashing", "()I"⟩, 10) := ⟨⟨by decide +kernel, by decide +kernel⟩, List.mem_of_getElem? (i := 15) (by decide +kernel), List.mem_of_getElem? (i := 549) (by decide +kernel), List.mem_of_getElem? (i := 550) (by decide +kernel)⟩
def lw_privs_1 : List (MethodName × Nat) := [(⟨"NameChart", "redraw", "()V"⟩, 10), (⟨"NameChart", "forgetDrawing", "()V"⟩, 10), (⟨"NameChart", "openWays", "(I)I"⟩, 10), (⟨"NameChart", "layOut", "()V"⟩, 10), (⟨"NameChart$Box", "coversAny", "([I[III)Z"⟩, 9), (⟨"NameChart", "splitUp", "()V"⟩, 10), (⟨"NameChart$Parts", "joinBack", "(LNameChart$Chart;LNameChart$Layout;I)V"⟩, 5), (⟨"NameChart$Chart", "reachAcross", "(I)I"⟩, 11), (⟨"NameChart$Chart", "reachDown", "(I)I"⟩, 11), (⟨"NameChart$Box", "lineEnters", "(LNameChart$Box;)Z"⟩, 9), (⟨"NameChart$Box", "sideOf", "(II)I"⟩, 9), (⟨"NameChart$Box", "linesMeet", "(LNameChart$Box;)Z"⟩, 9), (⟨"NameChart$Parts", "join", "(III)V"⟩, 5), (⟨"NameChart$Parts", "giveNumbers", "(I)V"⟩, 5), (⟨"NameChart", "firstShut", "()I"⟩, 10), (⟨"NameChart", "firstClashing", "()I"⟩, 10)]
theorem lw_r1 : ∀ q ∈ lw_privs_1, lw_okq q := List.forall_mem_cons.mpr ⟨lw_p0, List.forall_mem_cons.mpr ⟨lw_p1, List.forall_mem_cons.mpr ⟨lw_p2, List.forall_mem_cons.mpr ⟨lw_p3, List.forall_mem_cons.mpr ⟨lw_p4, List.forall_mem_cons.mpr ⟨lw_p5, List.forall_mem_cons.mpr ⟨lw_p6, List.forall_mem_cons.mpr ⟨lw_p7, List.forall_mem_cons.mpr ⟨lw_p8, List.forall_mem_cons.mpr ⟨lw_p9, List.forall_mem_cons.mpr ⟨lw_p10, List.forall_mem_cons.mpr ⟨lw_p11, List.forall_mem_cons.mpr ⟨lw_p12, List.forall_mem_cons.mpr ⟨lw_p13, List.forall_mem_cons.mpr ⟨lw_p14, List.forall_mem_cons.mpr ⟨lw_p15, fun _ h => absurd h List.not_mem_nil⟩⟩⟩⟩⟩⟩⟩⟩⟩⟩⟩⟩⟩⟩⟩⟩
theorem lw_p16 : lw_okq (⟨"NameChart", "firstHit", "(II[I)I"⟩, 10) := ⟨⟨by decide +kernel, by decide +kernel⟩, List.mem_of_getElem? (i := 15) (by decide +kernel), List.mem_of_getElem? (i := 553) (by decide +kernel), List.mem_of_getElem? (i := 554) (by decide +kernel)⟩
theorem lw_p17 : lw_okq (⟨"NameChart", "firstMissing", "()I"⟩, 10) := ⟨⟨by decide +kernel, by decide +kernel⟩, List.mem_of_getElem? (i := 15) (by decide +kernel), List.mem_of_getElem? (i := 558) (by decide +kernel), List.mem_of_getElem? (i := 559) (by decide +kernel)⟩
theorem lw_p18 : lw_okq (⟨"NameChart$Chart", "isServedAhead", "(II)Z"⟩, 11) := ⟨⟨by decide +kernel, by decide +kernel⟩, List.mem_of_getElem? (i := 23) (by decide +kernel), List.mem_of_getElem? (i := 579) (by decide +kernel), List.mem_of_getElem? (i := 580) (by decide +kernel)⟩
theorem lw_p19 : lw_okq (⟨"NameChart$Search", "gatherOptions", "(LNameChart$Chart;LNameChart$Layout;I)V"⟩, 10) := ⟨⟨by decide +kernel, by decide +kernel⟩, List.mem_of_getElem? (i := 192) (by decide +kernel), List.mem_of_getElem? (i := 587) (by decide +kernel), List.mem_of_getElem? (i := 588) (by decide +kernel)⟩
theorem lw_p20 : lw_okq (⟨"NameChart$Search", "gatherBans", "(LNameChart$Chart;LNameChart$Layout;III)V"⟩, 10) := ⟨⟨by decide +kernel, by decide +kernel⟩, List.mem_of_getElem? (i := 192) (by decide +kernel), List.mem_of_getElem? (i := 614) (by decide +kernel), List.mem_of_getElem? (i := 615) (by decide +kernel)⟩
theorem lw_p21 : lw_okq (⟨"NameChart$Search", "descend", "(IJJI)V"⟩, 10) := ⟨⟨by decide +kernel, by decide +kernel⟩, List.mem_of_getElem? (i := 192) (by decide +kernel), List.mem_of_getElem? (i := 625) (by decide +kernel), List.mem_of_getElem? (i := 626) (by decide +kernel)⟩
theorem lw_p22 : lw_okq (⟨"NameChart$Search", "hope", "(IJJ)I"⟩, 10) := ⟨⟨by decide +kernel, by decide +kernel⟩, List.mem_of_getElem? (i := 192) (by decide +kernel), List.mem_of_getElem? (i := 630) (by decide +kernel), List.mem_of_getElem? (i := 631) (by decide +kernel)⟩
theorem lw_p23 : lw_okq (⟨"NameChart$Search", "isBeaten", "(IIIJJ)Z"⟩, 10) := ⟨⟨by decide +kernel, by decide +kernel⟩, List.mem_of_getElem? (i := 192) (by decide +kernel), List.mem_of_getElem? (i := 643) (by decide +kernel), List.mem_of_getElem? (i := 644) (by decide +kernel)⟩
theorem lw_p24 : lw_okq (⟨"NameChart$Search", "firstReaching", "(LNameChart$Chart;II)I"⟩, 10) := ⟨⟨by decide +kernel, by decide +kernel⟩, List.mem_of_getElem? (i := 192) (by decide +kernel), List.mem_of_getElem? (i := 652) (by decide +kernel), List.mem_of_getElem? (i := 653) (by decide +kernel)⟩
theorem lw_p25 : lw_okq (⟨"NameChart$Search", "fixIfReaching", "(III)Z"⟩, 10) := ⟨⟨by decide +kernel, by decide +kernel⟩, List.mem_of_getElem? (i := 192) (by decide +kernel), List.mem_of_getElem? (i := 656) (by decide +kernel), List.mem_of_getElem? (i := 657) (by decide +kernel)⟩
theorem lw_p26 : lw_okq (⟨"NameChart", "takeInHand", "()V"⟩, 10) := ⟨⟨by decide +kernel, by decide +kernel⟩, List.mem_of_getElem? (i := 15) (by decide +kernel), List.mem_of_getElem? (i := 660) (by decide +kernel), List.mem_of_getElem? (i := 661) (by decide +kernel)⟩
theorem lw_p27 : lw_okq (⟨"NameChart", "cheapestWay", "(I[I)I"⟩, 10) := ⟨⟨by decide +kernel, by decide +kernel⟩, List.mem_of_getElem? (i := 15) (by decide +kernel), List.mem_of_getElem? (i := 672) (by decide +kernel), List.mem_of_getElem? (i := 673) (by decide +kernel)⟩
theorem lw_p28 : lw_okq (⟨"NameChart", "leftInHand", "()I"⟩, 10) := ⟨⟨by decide +kernel, by decide +kernel⟩, List.mem_of_getElem? (i := 15) (by decide +kernel), List.mem_of_getElem? (i := 677) (by decide +kernel), List.mem_of_getElem? (i := 678) (by decide +kernel)⟩
theorem lw_p29 : lw_okq (⟨"NameChart$Plan", "settle", "(LNameChart$Chart;I)V"⟩, 6) := ⟨⟨by decide +kernel, by decide +kernel⟩, List.mem_of_getElem? (i := 231) (by decide +kernel), List.mem_of_getElem? (i := 699) (by decide +kernel), List.mem_of_getElem? (i := 700) (by decide +kernel)⟩
theorem lw_p30 : lw_okq (⟨"NameChart$Plan", "fits", "(LNameChart$Chart;III)Z"⟩, 6) := ⟨⟨by decide +kernel, by decide +kernel⟩, List.mem_of_getElem? (i := 231) (by decide +kernel), List.mem_of_getElem? (i := 704) (by decide +kernel), List.mem_of_getElem? (i := 705) (by decide +kernel)⟩
theorem lw_p31 : lw_okq (⟨"NameChart", "musts", "()I"⟩, 10) := ⟨⟨by decide +kernel, by decide +kernel⟩, List.mem_of_getElem? (i := 15) (by decide +kernel), List.mem_of_getElem? (i := 742) (by decide +kernel), List.mem_of_getElem? (i := 743) (by decide +kernel)⟩
def lw_privs_2 : List (MethodName × Nat) := [(⟨"NameChart", "firstHit", "(II[I)I"⟩, 10), (⟨"NameChart", "firstMissing", "()I"⟩, 10), (⟨"NameChart$Chart", "isServedAhead", "(II)Z"⟩, 11), (⟨"NameChart$Search", "gatherOptions", "(LNameChart$Chart;LNameChart$Layout;I)V"⟩, 10), (⟨"NameChart$Search", "gatherBans", "(LNameChart$Chart;LNameChart$Layout;III)V"⟩, 10), (⟨"NameChart$Search", "descend", "(IJJI)V"⟩, 10), (⟨"NameChart$Search", "hope", "(IJJ)I"⟩, 10), (⟨"NameChart$Search", "isBeaten", "(IIIJJ)Z"⟩, 10), (⟨"NameChart$Search", "firstReaching", "(LNameChart$Chart;II)I"⟩, 10), (⟨"NameChart$Search", "fixIfReaching", "(III)Z"⟩, 10), (⟨"NameChart", "takeInHand", "()V"⟩, 10), (⟨"NameChart", "cheapestWay", "(I[I)I"⟩, 10), (⟨"NameChart", "leftInHand", "()I"⟩, 10), (⟨"NameChart$Plan", "settle", "(LNameChart$Chart;I)V"⟩, 6), (⟨"NameChart$Plan", "fits", "(LNameChart$Chart;III)Z"⟩, 6), (⟨"NameChart", "musts", "()I"⟩, 10)]
theorem lw_r2 : ∀ q ∈ lw_privs_2, lw_okq q := List.forall_mem_cons.mpr ⟨lw_p16, List.forall_mem_cons.mpr ⟨lw_p17, List.forall_mem_cons.mpr ⟨lw_p18, List.forall_mem_cons.mpr ⟨lw_p19, List.forall_mem_cons.mpr ⟨lw_p20, List.forall_mem_cons.mpr ⟨lw_p21, List.forall_mem_cons.mpr ⟨lw_p22, List.forall_mem_cons.mpr ⟨lw_p23, List.forall_mem_cons.mpr ⟨lw_p24, List.forall_mem_cons.mpr ⟨lw_p25, List.forall_mem_cons.mpr ⟨lw_p26, List.forall_mem_cons.mpr ⟨lw_p27, List.forall_mem_cons.mpr ⟨lw_p28, List.forall_mem_cons.mpr ⟨lw_p29, List.forall_mem_cons.mpr ⟨lw_p30, List.forall_mem_cons.mpr ⟨lw_p31, fun _ h => absurd h List.not_mem_nil⟩⟩⟩⟩⟩⟩⟩⟩⟩⟩⟩⟩⟩⟩⟩⟩
theorem lw_p32 : lw_okq (⟨"NameChartModel", "read", "([II)V"⟩, 38) := ⟨⟨by decide +kernel, by decide +kernel⟩, List.mem_of_getElem? (i := 746) (by decide +kernel), List.mem_of_getElem? (i := 871) (by decide +kernel), List.mem_of_getElem? (i := 872) (by decide +kernel)⟩
theorem lw_p33 : lw_okq (⟨"NameChartModel", "keep", "()V"⟩, 38) := ⟨⟨by decide +kernel, by decide +kernel⟩, List.mem_of_getElem? (i := 746) (by decide +kernel), List.mem_of_getElem? (i := 885) (by decide +kernel), List.mem_of_getElem? (i := 886) (by decide +kernel)⟩
theorem lw_p34 : lw_okq (⟨"NameChartModel", "write", "([II)V"⟩, 38) := ⟨⟨by decide +kernel, by decide +kernel⟩, List.mem_of_getElem? (i := 746) (by decide +kernel), List.mem_of_getElem? (i := 889) (by decide +kernel), List.mem_of_getElem? (i := 890) (by decide +kernel)⟩
theorem lw_p35 : lw_okq (⟨"NameChartModel", "isName", "(I)Z"⟩, 38) := ⟨⟨by decide +kernel, by decide +kernel⟩, List.mem_of_getElem? (i := 746) (by decide +kernel), List.mem_of_getElem? (i := 901) (by decide +kernel), List.mem_of_getElem? (i := 902) (by decide +kernel)⟩
theorem lw_p36 : lw_okq (⟨"NameChartModel", "isWay", "(II)Z"⟩, 38) := ⟨⟨by decide +kernel, by decide +kernel⟩, List.mem_of_getElem? (i := 746) (by decide +kernel), List.mem_of_getElem? (i := 917) (by decide +kernel), List.mem_of_getElem? (i := 918) (by decide +kernel)⟩
theorem lw_p37 : lw_okq (⟨"NameChartModel", "ways", "(I)I"⟩, 38) := ⟨⟨by decide +kernel, by decide +kernel⟩, List.mem_of_getElem? (i := 746) (by decide +kernel), List.mem_of_getElem? (i := 921) (by decide +kernel), List.mem_of_getElem? (i := 922) (by decide +kernel)⟩
theorem lw_p38 : lw_okq (⟨"NameChartModel", "box", "(III)V"⟩, 38) := ⟨⟨by decide +kernel, by decide +kernel⟩, List.mem_of_getElem? (i := 746) (by decide +kernel), List.mem_of_getElem? (i := 925) (by decide +kernel), List.mem_of_getElem? (i := 926) (by decide +kernel)⟩
theorem lw_p39 : lw_okq (⟨"NameChartModel", "isLed", "(II)Z"⟩, 38) := ⟨⟨by decide +kernel, by decide +kernel⟩, List.mem_of_getElem? (i := 746) (by decide +kernel), List.mem_of_getElem? (i := 929) (by decide +kernel), List.mem_of_getElem? (i := 930) (by decide +kernel)⟩
theorem lw_p40 : lw_okq (⟨"NameChartModel", "priceOf", "(II)I"⟩, 38) := ⟨⟨by decide +kernel, by decide +kernel⟩, List.mem_of_getElem? (i := 746) (by decide +kernel), List.mem_of_getElem? (i := 933) (by decide +kernel), List.mem_of_getElem? (i := 934) (by decide +kernel)⟩
theorem lw_p41 : lw_okq (⟨"NameChartModel", "isOpen", "(III)Z"⟩, 38) := ⟨⟨by decide +kernel, by decide +kernel⟩, List.mem_of_getElem? (i := 746) (by decide +kernel), List.mem_of_getElem? (i := 937) (by decide +kernel), List.mem_of_getElem? (i := 938) (by decide +kernel)⟩
theorem lw_p42 : lw_okq (⟨"NameChartModel", "covers", "(II)Z"⟩, 38) := ⟨⟨by decide +kernel, by decide +kernel⟩, List.mem_of_getElem? (i := 746) (by decide +kernel), List.mem_of_getElem? (i := 941) (by decide +kernel), List.mem_of_getElem? (i := 942) (by decide +kernel)⟩
theorem lw_p43 : lw_okq (⟨"NameChartModel", "doClash", "(IIIII)Z"⟩, 38) := ⟨⟨by decide +kernel, by decide +kernel⟩, List.mem_of_getElem? (i := 746) (by decide +kernel), List.mem_of_getElem? (i := 949) (by decide +kernel), List.mem_of_getElem? (i := 950) (by decide +kernel)⟩
theorem lw_p44 : lw_okq (⟨"NameChartModel", "take", "([JIII)V"⟩, 38) := ⟨⟨by decide +kernel, by decide +kernel⟩, List.mem_of_getElem? (i := 746) (by decide +kernel), List.mem_of_getElem? (i := 953) (by decide +kernel), List.mem_of_getElem? (i := 954) (by decide +kernel)⟩
theorem lw_p45 : lw_okq (⟨"NameChartModel", "linesMeet", "()Z"⟩, 38) := ⟨⟨by decide +kernel, by decide +kernel⟩, List.mem_of_getElem? (i := 746) (by decide +kernel), List.mem_of_getElem? (i := 958) (by decide +kernel), List.mem_of_getElem? (i := 959) (by decide +kernel)⟩
theorem lw_p46 : lw_okq (⟨"NameChartModel", "crosses", "([J[J)Z"⟩, 38) := ⟨⟨by decide +kernel, by decide +kernel⟩, List.mem_of_getElem? (i := 746) (by decide +kernel), List.mem_of_getElem? (i := 974) (by decide +kernel), List.mem_of_getElem? (i := 975) (by decide +kernel)⟩
theorem lw_p47 : lw_okq (⟨"NameChartModel", "cut", "(JJJJ)Z"⟩, 38) := ⟨⟨by decide +kernel, by decide +kernel⟩, List.mem_of_getElem? (i := 746) (by decide +kernel), List.mem_of_getElem? (i := 979) (by decide +kernel), List.mem_of_getElem? (i := 980) (by decide +kernel)⟩
def lw_privs_3 : List (MethodName × Nat) := [(⟨"NameChartModel", "read", "([II)V"⟩, 38), (⟨"NameChartModel", "keep", "()V"⟩, 38), (⟨"NameChartModel", "write", "([II)V"⟩, 38), (⟨"NameChartModel", "isName", "(I)Z"⟩, 38), (⟨"NameChartModel", "isWay", "(II)Z"⟩, 38), (⟨"NameChartModel", "ways", "(I)I"⟩, 38), (⟨"NameChartModel", "box", "(III)V"⟩, 38), (⟨"NameChartModel", "isLed", "(II)Z"⟩, 38), (⟨"NameChartModel", "priceOf", "(II)I"⟩, 38), (⟨"NameChartModel", "isOpen", "(III)Z"⟩, 38), (⟨"NameChartModel", "covers", "(II)Z"⟩, 38), (⟨"NameChartModel", "doClash", "(IIIII)Z"⟩, 38), (⟨"NameChartModel", "take", "([JIII)V"⟩, 38), (⟨"NameChartModel", "linesMeet", "()Z"⟩, 38), (⟨"NameChartModel", "crosses", "([J[J)Z"⟩, 38), (⟨"NameChartModel", "cut", "(JJJJ)Z"⟩, 38)]
theorem lw_r3 : ∀ q ∈ lw_privs_3, lw_okq q := List.forall_mem_cons.mpr ⟨lw_p32, List.forall_mem_cons.mpr ⟨lw_p33, List.forall_mem_cons.mpr ⟨lw_p34, List.forall_mem_cons.mpr ⟨lw_p35, List.forall_mem_cons.mpr ⟨lw_p36, List.forall_mem_cons.mpr ⟨lw_p37, List.forall_mem_cons.mpr ⟨lw_p38, List.forall_mem_cons.mpr ⟨lw_p39, List.forall_mem_cons.mpr ⟨lw_p40, List.forall_mem_cons.mpr ⟨lw_p41, List.forall_mem_cons.mpr ⟨lw_p42, List.forall_mem_cons.mpr ⟨lw_p43, List.forall_mem_cons.mpr ⟨lw_p44, List.forall_mem_cons.mpr ⟨lw_p45, List.forall_mem_cons.mpr ⟨lw_p46, List.forall_mem_cons.mpr ⟨lw_p47, fun _ h => absurd h List.not_mem_nil⟩⟩⟩⟩⟩⟩⟩⟩⟩⟩⟩⟩⟩⟩⟩⟩
theorem lw_p48 : lw_okq (⟨"NameChartModel", "findParts", "()I"⟩, 38) := ⟨⟨by decide +kernel, by decide +kernel⟩, List.mem_of_getElem? (i := 746) (by decide +kernel), List.mem_of_getElem? (i := 991) (by decide +kernel), List.mem_of_getElem? (i := 992) (by decide +kernel)⟩
theorem lw_p49 : lw_okq (⟨"NameChartModel", "findOpen", "()V"⟩, 38) := ⟨⟨by decide +kernel, by decide +kernel⟩, List.mem_of_getElem? (i := 746) (by decide +kernel), List.mem_of_getElem? (i := 995) (by decide +kernel), List.mem_of_getElem? (i := 996) (by decide +kernel)⟩
theorem lw_p50 : lw_okq (⟨"NameChartModel", "touch", "(II)Z"⟩, 38) := ⟨⟨by decide +kernel, by decide +kernel⟩, List.mem_of_getElem? (i := 746) (by decide +kernel), List.mem_of_getElem? (i := 999) (by decide +kernel), List.mem_of_getElem? (i := 1000) (by decide +kernel)⟩
theorem lw_p51 : lw_okq (⟨"NameChartModel", "clashInHand", "(II)I"⟩, 38) := ⟨⟨by decide +kernel, by decide +kernel⟩, List.mem_of_getElem? (i := 746) (by decide +kernel), List.mem_of_getElem? (i := 1027) (by decide +kernel), List.mem_of_getElem? (i := 1028) (by decide +kernel)⟩
theorem lw_p52 : lw_okq (⟨"NameChartModel", "worthInHand", "()I"⟩, 38) := ⟨⟨by decide +kernel, by decide +kernel⟩, List.mem_of_getElem? (i := 746) (by decide +kernel), List.mem_of_getElem? (i := 1035) (by decide +kernel), List.mem_of_getElem? (i := 1036) (by decide +kernel)⟩
theorem lw_p53 : lw_okq (⟨"NameChartModel", "worthOf", "(II)I"⟩, 38) := ⟨⟨by decide +kernel, by decide +kernel⟩, List.mem_of_getElem? (i := 746) (by decide +kernel), List.mem_of_getElem? (i := 1039) (by decide +kernel), List.mem_of_getElem? (i := 1040) (by decide +kernel)⟩
theorem lw_p54 : lw_okq (⟨"NameChartModel", "most", "()I"⟩, 38) := ⟨⟨by decide +kernel, by decide +kernel⟩, List.mem_of_getElem? (i := 746) (by decide +kernel), List.mem_of_getElem? (i := 1047) (by decide +kernel), List.mem_of_getElem? (i := 1048) (by decide +kernel)⟩
theorem lw_p55 : lw_okq (⟨"NameChartModel", "bestOf", "(I)Z"⟩, 38) := ⟨⟨by decide +kernel, by decide +kernel⟩, List.mem_of_getElem? (i := 746) (by decide +kernel), List.mem_of_getElem? (i := 1051) (by decide +kernel), List.mem_of_getElem? (i := 1052) (by decide +kernel)⟩
theorem lw_p56 : lw_okq (⟨"NameChartModel", "tryFrom", "(II)V"⟩, 38) := ⟨⟨by decide +kernel, by decide +kernel⟩, List.mem_of_getElem? (i := 746) (by decide +kernel), List.mem_of_getElem? (i := 1055) (by decide +kernel), List.mem_of_getElem? (i := 1056) (by decide +kernel)⟩
theorem lw_p57 : lw_okq (⟨"NameChartModel", "fits", "(II)Z"⟩, 38) := ⟨⟨by decide +kernel, by decide +kernel⟩, List.mem_of_getElem? (i := 746) (by decide +kernel), List.mem_of_getElem? (i := 1059) (by decide +kernel), List.mem_of_getElem? (i := 1060) (by decide +kernel)⟩
theorem lw_p58 : lw_okq (⟨"NameChartModel", "findOrder", "()V"⟩, 38) := ⟨⟨by decide +kernel, by decide +kernel⟩, List.mem_of_getElem? (i := 746) (by decide +kernel), List.mem_of_getElem? (i := 1067) (by decide +kernel), List.mem_of_getElem? (i := 1068) (by decide +kernel)⟩
theorem lw_p59 : lw_okq (⟨"NameChartModel", "isAhead", "(II)Z"⟩, 38) := ⟨⟨by decide +kernel, by decide +kernel⟩, List.mem_of_getElem? (i := 746) (by decide +kernel), List.mem_of_getElem? (i := 1071) (by decide +kernel), List.mem_of_getElem? (i := 1072) (by decide +kernel)⟩
theorem lw_p60 : lw_okq (⟨"NameChartModel", "findSteady", "()V"⟩, 38) := ⟨⟨by decide +kernel, by decide +kernel⟩, List.mem_of_getElem? (i := 746) (by decide +kernel), List.mem_of_getElem? (i := 1087) (by decide +kernel), List.mem_of_getElem? (i := 1088) (by decide +kernel)⟩
theorem lw_p61 : lw_okq (⟨"NameChartModel", "isSteady", "(III)Z"⟩, 38) := ⟨⟨by decide +kernel, by decide +kernel⟩, List.mem_of_getElem? (i := 746) (by decide +kernel), List.mem_of_getElem? (i := 1091) (by decide +kernel), List.mem_of_getElem? (i := 1092) (by decide +kernel)⟩
def lw_privs_4 : List (MethodName × Nat) := [(⟨"NameChartModel", "findParts", "()I"⟩, 38), (⟨"NameChartModel", "findOpen", "()V"⟩, 38), (⟨"NameChartModel", "touch", "(II)Z"⟩, 38), (⟨"NameChartModel", "clashInHand", "(II)I"⟩, 38), (⟨"NameChartModel", "worthInHand", "()I"⟩, 38), (⟨"NameChartModel", "worthOf", "(II)I"⟩, 38), (⟨"NameChartModel", "most", "()I"⟩, 38), (⟨"NameChartModel", "bestOf", "(I)Z"⟩, 38), (⟨"NameChartModel", "tryFrom", "(II)V"⟩, 38), (⟨"NameChartModel", "fits", "(II)Z"⟩, 38), (⟨"NameChartModel", "findOrder", "()V"⟩, 38), (⟨"NameChartModel", "isAhead", "(II)Z"⟩, 38), (⟨"NameChartModel", "findSteady", "()V"⟩, 38), (⟨"NameChartModel", "isSteady", "(III)Z"⟩, 38)]
theorem lw_r4 : ∀ q ∈ lw_privs_4, lw_okq q := List.forall_mem_cons.mpr ⟨lw_p48, List.forall_mem_cons.mpr ⟨lw_p49, List.forall_mem_cons.mpr ⟨lw_p50, List.forall_mem_cons.mpr ⟨lw_p51, List.forall_mem_cons.mpr ⟨lw_p52, List.forall_mem_cons.mpr ⟨lw_p53, List.forall_mem_cons.mpr ⟨lw_p54, List.forall_mem_cons.mpr ⟨lw_p55, List.forall_mem_cons.mpr ⟨lw_p56, List.forall_mem_cons.mpr ⟨lw_p57, List.forall_mem_cons.mpr ⟨lw_p58, List.forall_mem_cons.mpr ⟨lw_p59, List.forall_mem_cons.mpr ⟨lw_p60, List.forall_mem_cons.mpr ⟨lw_p61, fun _ h => absurd h List.not_mem_nil⟩⟩⟩⟩⟩⟩⟩⟩⟩⟩⟩⟩⟩⟩
def lw_privs : List (MethodName × Nat) := lw_privs_1 ++ (lw_privs_2 ++ (lw_privs_3 ++ (lw_privs_4)))
def lw_tbl : List Cond := k2_sels lw_privs ++ tables_1
theorem lw_privs_ok : ∀ q ∈ lw_privs, lw_okq q := by
  show ∀ q ∈ lw_privs_1 ++ (lw_privs_2 ++ (lw_privs_3 ++ (lw_privs_4))), lw_okq q
  exact List.forall_mem_append.mpr ⟨lw_r1, List.forall_mem_append.mpr ⟨lw_r2, List.forall_mem_append.mpr ⟨lw_r3, lw_r4⟩⟩⟩

def RX0 : String := "NameChart$Box"
def TX0 : u_T := fun k => match k with
  | 0 => ("NameChart$Box", "left", "I", false)
  | 1 => ("NameChart$Box", "top", "I", false)
  | 2 => ("NameChart$Box", "right", "I", false)
  | 3 => ("NameChart$Box", "bottom", "I", false)
  | 4 => ("NameChart$Box", "led", "Z", false)
  | 5 => ("NameChart$Box", "fromX", "I", false)
  | 6 => ("NameChart$Box", "fromY", "I", false)
  | 7 => ("NameChart$Box", "toX", "I", false)
  | _ => ("NameChart$Box", "toY", "I", false)
def tyX0 : Nat → FieldType := fun k => match k with
  | 0 => .int
  | 1 => .int
  | 2 => .int
  | 3 => .int
  | 4 => .boolean
  | 5 => .int
  | 6 => .int
  | 7 => .int
  | _ => .int
abbrev wsX00 : List Cond := u_ws RX0 TX0 9
theorem nmX0 : ∀ a, a < 9 → ∀ b, b < 9 → a ≠ b → (TX0 a).2.1 ≠ (TX0 b).2.1 := by decide +kernel
theorem tyX0_ok : ∀ k, k < 9 → parseFieldDescriptor (TX0 k).2.2.1 = some (tyX0 k) := by decide +kernel
abbrev cX0_init : ByteArray := prog_2_method_1_code
def yX0_init : MethodName := ⟨RX0, "<init>", "()V"⟩
abbrev cX0_lay : ByteArray := prog_2_method_2_code
def yX0_lay : MethodName := ⟨RX0, "lay", "(LNameChart$Chart;III)V"⟩
abbrev cX0_start : ByteArray := prog_2_method_3_code
def yX0_start : MethodName := ⟨RX0, "start", "(IIII)I"⟩
abbrev cX0_covers : ByteArray := prog_2_method_4_code
def yX0_covers : MethodName := ⟨RX0, "covers", "(II)Z"⟩
abbrev cX0_overlaps : ByteArray := prog_2_method_5_code
def yX0_overlaps : MethodName := ⟨RX0, "overlaps", "(IIII)Z"⟩
abbrev cX0_isOpen : ByteArray := prog_2_method_6_code
def yX0_isOpen : MethodName := ⟨RX0, "isOpen", "(LNameChart$Chart;I)Z"⟩
abbrev cX0_coversAny : ByteArray := prog_2_method_7_code
def yX0_coversAny : MethodName := ⟨RX0, "coversAny", "([I[III)Z"⟩
abbrev cX0_hits : ByteArray := prog_2_method_8_code
def yX0_hits : MethodName := ⟨RX0, "hits", "(LNameChart$Box;)Z"⟩
abbrev cX0_lineEnters : ByteArray := prog_2_method_9_code
def yX0_lineEnters : MethodName := ⟨RX0, "lineEnters", "(LNameChart$Box;)Z"⟩
abbrev cX0_linesMeet : ByteArray := prog_2_method_10_code
def yX0_linesMeet : MethodName := ⟨RX0, "linesMeet", "(LNameChart$Box;)Z"⟩
abbrev cX0_sideOf : ByteArray := prog_2_method_11_code
def yX0_sideOf : MethodName := ⟨RX0, "sideOf", "(II)I"⟩
def RX1 : String := "NameChart$Chart"
def TX1 : u_T := fun k => match k with
  | 0 => ("NameChart$Chart", "names", "I", false)
  | 1 => ("NameChart$Chart", "dots", "I", false)
  | 2 => ("NameChart$Chart", "kind", "[I", true)
  | 3 => ("NameChart$Chart", "x", "[I", true)
  | 4 => ("NameChart$Chart", "y", "[I", true)
  | 5 => ("NameChart$Chart", "wide", "[I", true)
  | 6 => ("NameChart$Chart", "high", "[I", true)
  | 7 => ("NameChart$Chart", "weight", "[I", true)
  | 8 => ("NameChart$Chart", "hand", "[I", true)
  | 9 => ("NameChart$Chart", "dotX", "[I", true)
  | _ => ("NameChart$Chart", "dotY", "[I", true)
def tyX1 : Nat → FieldType := fun k => match k with
  | 0 => .int
  | 1 => .int
  | 2 => .array .int
  | 3 => .array .int
  | 4 => .array .int
  | 5 => .array .int
  | 6 => .array .int
  | 7 => .array .int
  | 8 => .array .int
  | 9 => .array .int
  | _ => .array .int
abbrev wsX10 : List Cond := u_ws RX1 TX1 11
theorem nmX1 : ∀ a, a < 11 → ∀ b, b < 11 → a ≠ b → (TX1 a).2.1 ≠ (TX1 b).2.1 := by decide +kernel
theorem tyX1_ok : ∀ k, k < 11 → parseFieldDescriptor (TX1 k).2.2.1 = some (tyX1 k) := by decide +kernel
abbrev cX1_init : ByteArray := prog_3_method_1_code
def yX1_init : MethodName := ⟨RX1, "<init>", "()V"⟩
abbrev cX1_copyFrom : ByteArray := prog_3_method_2_code
def yX1_copyFrom : MethodName := ⟨RX1, "copyFrom", "(LNameChart$Chart;)V"⟩
abbrev cX1_addName : ByteArray := prog_3_method_3_code
def yX1_addName : MethodName := ⟨RX1, "addName", "(III)I"⟩
abbrev cX1_addDot : ByteArray := prog_3_method_4_code
def yX1_addDot : MethodName := ⟨RX1, "addDot", "(II)I"⟩
abbrev cX1_has : ByteArray := prog_3_method_5_code
def yX1_has : MethodName := ⟨RX1, "has", "(I)Z"⟩
abbrev cX1_hasWay : ByteArray := prog_3_method_6_code
def yX1_hasWay : MethodName := ⟨RX1, "hasWay", "(II)Z"⟩
abbrev cX1_waysOf : ByteArray := prog_3_method_7_code
def yX1_waysOf : MethodName := ⟨RX1, "waysOf", "(I)I"⟩
abbrev cX1_isOfKind : ByteArray := prog_3_method_8_code
def yX1_isOfKind : MethodName := ⟨RX1, "isOfKind", "(II)Z"⟩
abbrev cX1_priceOf : ByteArray := prog_3_method_9_code
def yX1_priceOf : MethodName := ⟨RX1, "priceOf", "(II)I"⟩
abbrev cX1_wayByPrice : ByteArray := prog_3_method_10_code
def yX1_wayByPrice : MethodName := ⟨RX1, "wayByPrice", "(II)I"⟩
abbrev cX1_rankOf : ByteArray := prog_3_method_11_code
def yX1_rankOf : MethodName := ⟨RX1, "rankOf", "(II)I"⟩
abbrev cX1_gainOf : ByteArray := prog_3_method_12_code
def yX1_gainOf : MethodName := ⟨RX1, "gainOf", "(II)I"⟩
abbrev cX1_areNear : ByteArray := prog_3_method_13_code
def yX1_areNear : MethodName := ⟨RX1, "areNear", "(II)Z"⟩
abbrev cX1_reachAcross : ByteArray := prog_3_method_14_code
def yX1_reachAcross : MethodName := ⟨RX1, "reachAcross", "(I)I"⟩
abbrev cX1_reachDown : ByteArray := prog_3_method_15_code
def yX1_reachDown : MethodName := ⟨RX1, "reachDown", "(I)I"⟩
abbrev cX1_queue : ByteArray := prog_3_method_16_code
def yX1_queue : MethodName := ⟨RX1, "queue", "([I)V"⟩
abbrev cX1_isServedAhead : ByteArray := prog_3_method_17_code
def yX1_isServedAhead : MethodName := ⟨RX1, "isServedAhead", "(II)Z"⟩
def RX2 : String := "NameChart$History"
def TX2 : u_T := fun k => match k with
  | 0 => ("NameChart$History", "ring", "[LNameChart$Chart;", true)
  | 1 => ("NameChart$History", "next", "I", false)
  | _ => ("NameChart$History", "held", "I", false)
def tyX2 : Nat → FieldType := fun k => match k with
  | 0 => .array (.object "NameChart$Chart")
  | 1 => .int
  | _ => .int
abbrev wsX20 : List Cond := u_ws RX2 TX2 3
theorem nmX2 : ∀ a, a < 3 → ∀ b, b < 3 → a ≠ b → (TX2 a).2.1 ≠ (TX2 b).2.1 := by decide +kernel
theorem tyX2_ok : ∀ k, k < 3 → parseFieldDescriptor (TX2 k).2.2.1 = some (tyX2 k) := by decide +kernel
abbrev cX2_init : ByteArray := prog_4_method_1_code
def yX2_init : MethodName := ⟨RX2, "<init>", "()V"⟩
abbrev cX2_keep : ByteArray := prog_4_method_2_code
def yX2_keep : MethodName := ⟨RX2, "keep", "(LNameChart$Chart;)V"⟩
abbrev cX2_takeBack : ByteArray := prog_4_method_3_code
def yX2_takeBack : MethodName := ⟨RX2, "takeBack", "(LNameChart$Chart;)V"⟩
def RX3 : String := "NameChart$Layout"
def TX3 : u_T := fun k => match k with
  | 0 => ("NameChart$Layout", "boxes", "[LNameChart$Box;", true)
  | 1 => ("NameChart$Layout", "open", "[I", true)
  | _ => ("NameChart$Layout", "fresh", "Z", false)
def tyX3 : Nat → FieldType := fun k => match k with
  | 0 => .array (.object "NameChart$Box")
  | 1 => .array .int
  | _ => .boolean
abbrev wsX30 : List Cond := u_ws RX3 TX3 3
theorem nmX3 : ∀ a, a < 3 → ∀ b, b < 3 → a ≠ b → (TX3 a).2.1 ≠ (TX3 b).2.1 := by decide +kernel
theorem tyX3_ok : ∀ k, k < 3 → parseFieldDescriptor (TX3 k).2.2.1 = some (tyX3 k) := by decide +kernel
abbrev cX3_init : ByteArray := prog_5_method_1_code
def yX3_init : MethodName := ⟨RX3, "<init>", "()V"⟩
abbrev cX3_refresh : ByteArray := prog_5_method_2_code
def yX3_refresh : MethodName := ⟨RX3, "refresh", "(LNameChart$Chart;)V"⟩
abbrev cX3_boxOf : ByteArray := prog_5_method_3_code
def yX3_boxOf : MethodName := ⟨RX3, "boxOf", "(II)LNameChart$Box;"⟩
abbrev cX3_isOpen : ByteArray := prog_5_method_4_code
def yX3_isOpen : MethodName := ⟨RX3, "isOpen", "(II)Z"⟩
abbrev cX3_openHits : ByteArray := prog_5_method_5_code
def yX3_openHits : MethodName := ⟨RX3, "openHits", "(III)I"⟩
abbrev cX3_openWaysClash : ByteArray := prog_5_method_6_code
def yX3_openWaysClash : MethodName := ⟨RX3, "openWaysClash", "(II)Z"⟩
def RX4 : String := "NameChart$Parts"
def TX4 : u_T := fun k => match k with
  | 0 => ("NameChart$Parts", "of", "[I", true)
  | 1 => ("NameChart$Parts", "members", "[I", true)
  | 2 => ("NameChart$Parts", "found", "I", false)
  | 3 => ("NameChart$Parts", "greatest", "I", false)
  | _ => ("NameChart$Parts", "fresh", "Z", false)
def tyX4 : Nat → FieldType := fun k => match k with
  | 0 => .array .int
  | 1 => .array .int
  | 2 => .int
  | 3 => .int
  | _ => .boolean
abbrev wsX40 : List Cond := u_ws RX4 TX4 5
theorem nmX4 : ∀ a, a < 5 → ∀ b, b < 5 → a ≠ b → (TX4 a).2.1 ≠ (TX4 b).2.1 := by decide +kernel
theorem tyX4_ok : ∀ k, k < 5 → parseFieldDescriptor (TX4 k).2.2.1 = some (tyX4 k) := by decide +kernel
abbrev cX4_init : ByteArray := prog_6_method_1_code
def yX4_init : MethodName := ⟨RX4, "<init>", "()V"⟩
abbrev cX4_refresh : ByteArray := prog_6_method_2_code
def yX4_refresh : MethodName := ⟨RX4, "refresh", "(LNameChart$Chart;LNameChart$Layout;)V"⟩
abbrev cX4_joinBack : ByteArray := prog_6_method_3_code
def yX4_joinBack : MethodName := ⟨RX4, "joinBack", "(LNameChart$Chart;LNameChart$Layout;I)V"⟩
abbrev cX4_join : ByteArray := prog_6_method_4_code
def yX4_join : MethodName := ⟨RX4, "join", "(III)V"⟩
abbrev cX4_giveNumbers : ByteArray := prog_6_method_5_code
def yX4_giveNumbers : MethodName := ⟨RX4, "giveNumbers", "(I)V"⟩
def RX5 : String := "NameChart$Plan"
def TX5 : u_T := fun k => match k with
  | 0 => ("NameChart$Plan", "from", "[I", true)
  | 1 => ("NameChart$Plan", "by", "[I", true)
  | 2 => ("NameChart$Plan", "order", "[I", true)
  | 3 => ("NameChart$Plan", "box", "LNameChart$Box;", true)
  | 4 => ("NameChart$Plan", "second", "LNameChart$Box;", true)
  | _ => ("NameChart$Plan", "fresh", "Z", false)
def tyX5 : Nat → FieldType := fun k => match k with
  | 0 => .array .int
  | 1 => .array .int
  | 2 => .array .int
  | 3 => .object "NameChart$Box"
  | 4 => .object "NameChart$Box"
  | _ => .boolean
abbrev wsX50 : List Cond := u_ws RX5 TX5 6
theorem nmX5 : ∀ a, a < 6 → ∀ b, b < 6 → a ≠ b → (TX5 a).2.1 ≠ (TX5 b).2.1 := by decide +kernel
theorem tyX5_ok : ∀ k, k < 6 → parseFieldDescriptor (TX5 k).2.2.1 = some (tyX5 k) := by decide +kernel
abbrev cX5_init : ByteArray := prog_7_method_1_code
def yX5_init : MethodName := ⟨RX5, "<init>", "()V"⟩
abbrev cX5_refresh : ByteArray := prog_7_method_2_code
def yX5_refresh : MethodName := ⟨RX5, "refresh", "(LNameChart$Chart;)V"⟩
abbrev cX5_isThere : ByteArray := prog_7_method_3_code
def yX5_isThere : MethodName := ⟨RX5, "isThere", "(II)Z"⟩
abbrev cX5_settle : ByteArray := prog_7_method_4_code
def yX5_settle : MethodName := ⟨RX5, "settle", "(LNameChart$Chart;I)V"⟩
abbrev cX5_fits : ByteArray := prog_7_method_5_code
def yX5_fits : MethodName := ⟨RX5, "fits", "(LNameChart$Chart;III)Z"⟩
def RX6 : String := "NameChart$Search"
def TX6 : u_T := fun k => match k with
  | 0 => ("NameChart$Search", "member", "[I", true)
  | 1 => ("NameChart$Search", "must", "[Z", true)
  | 2 => ("NameChart$Search", "gain", "[I", true)
  | 3 => ("NameChart$Search", "banFront", "[J", true)
  | 4 => ("NameChart$Search", "banBack", "[J", true)
  | 5 => ("NameChart$Search", "members", "I", false)
  | 6 => ("NameChart$Search", "openFront", "J", false)
  | 7 => ("NameChart$Search", "openBack", "J", false)
  | 8 => ("NameChart$Search", "most", "I", false)
  | _ => ("NameChart$Search", "goal", "I", false)
def tyX6 : Nat → FieldType := fun k => match k with
  | 0 => .array .int
  | 1 => .array .boolean
  | 2 => .array .int
  | 3 => .array .long
  | 4 => .array .long
  | 5 => .int
  | 6 => .long
  | 7 => .long
  | 8 => .int
  | _ => .int
abbrev wsX60 : List Cond := u_ws RX6 TX6 10
theorem nmX6 : ∀ a, a < 10 → ∀ b, b < 10 → a ≠ b → (TX6 a).2.1 ≠ (TX6 b).2.1 := by decide +kernel
theorem tyX6_ok : ∀ k, k < 10 → parseFieldDescriptor (TX6 k).2.2.1 = some (tyX6 k) := by decide +kernel
abbrev cX6_init : ByteArray := prog_8_method_1_code
def yX6_init : MethodName := ⟨RX6, "<init>", "()V"⟩
abbrev cX6_seat : ByteArray := prog_8_method_2_code
def yX6_seat : MethodName := ⟨RX6, "seat", "(LNameChart$Chart;LNameChart$Layout;LNameChart$Parts;I[I)V"⟩
abbrev cX6_mostWorth : ByteArray := prog_8_method_3_code
def yX6_mostWorth : MethodName := ⟨RX6, "mostWorth", "()I"⟩
abbrev cX6_pickFirst : ByteArray := prog_8_method_4_code
def yX6_pickFirst : MethodName := ⟨RX6, "pickFirst", "(LNameChart$Chart;I[I)V"⟩
abbrev cX6_firstReaching : ByteArray := prog_8_method_5_code
def yX6_firstReaching : MethodName := ⟨RX6, "firstReaching", "(LNameChart$Chart;II)I"⟩
abbrev cX6_fixIfReaching : ByteArray := prog_8_method_6_code
def yX6_fixIfReaching : MethodName := ⟨RX6, "fixIfReaching", "(III)Z"⟩
abbrev cX6_gatherOptions : ByteArray := prog_8_method_7_code
def yX6_gatherOptions : MethodName := ⟨RX6, "gatherOptions", "(LNameChart$Chart;LNameChart$Layout;I)V"⟩
abbrev cX6_gatherBans : ByteArray := prog_8_method_8_code
def yX6_gatherBans : MethodName := ⟨RX6, "gatherBans", "(LNameChart$Chart;LNameChart$Layout;III)V"⟩
abbrev cX6_byRank : ByteArray := prog_8_method_9_code
def yX6_byRank : MethodName := ⟨RX6, "byRank", "(LNameChart$Chart;II)I"⟩
abbrev cX6_inFront : ByteArray := prog_8_method_10_code
def yX6_inFront : MethodName := ⟨RX6, "inFront", "(II)J"⟩
abbrev cX6_inBack : ByteArray := prog_8_method_11_code
def yX6_inBack : MethodName := ⟨RX6, "inBack", "(II)J"⟩
abbrev cX6_bitsOf : ByteArray := prog_8_method_12_code
def yX6_bitsOf : MethodName := ⟨RX6, "bitsOf", "(IJJ)I"⟩
abbrev cX6_descend : ByteArray := prog_8_method_13_code
def yX6_descend : MethodName := ⟨RX6, "descend", "(IJJI)V"⟩
abbrev cX6_hope : ByteArray := prog_8_method_14_code
def yX6_hope : MethodName := ⟨RX6, "hope", "(IJJ)I"⟩
abbrev cX6_isBeaten : ByteArray := prog_8_method_15_code
def yX6_isBeaten : MethodName := ⟨RX6, "isBeaten", "(IIIJJ)Z"⟩
def RX7 : String := "NameChart"
def TX7 : u_T := fun k => match k with
  | 0 => ("NameChart", "chart", "LNameChart$Chart;", true)
  | 1 => ("NameChart", "history", "LNameChart$History;", true)
  | 2 => ("NameChart", "layout", "LNameChart$Layout;", true)
  | 3 => ("NameChart", "split", "LNameChart$Parts;", true)
  | 4 => ("NameChart", "search", "LNameChart$Search;", true)
  | 5 => ("NameChart", "plan", "LNameChart$Plan;", true)
  | 6 => ("NameChart", "box", "LNameChart$Box;", true)
  | 7 => ("NameChart", "second", "LNameChart$Box;", true)
  | 8 => ("NameChart", "given", "[I", true)
  | _ => ("NameChart", "order", "[I", true)
def tyX7 : Nat → FieldType := fun k => match k with
  | 0 => .object "NameChart$Chart"
  | 1 => .object "NameChart$History"
  | 2 => .object "NameChart$Layout"
  | 3 => .object "NameChart$Parts"
  | 4 => .object "NameChart$Search"
  | 5 => .object "NameChart$Plan"
  | 6 => .object "NameChart$Box"
  | 7 => .object "NameChart$Box"
  | 8 => .array .int
  | _ => .array .int
abbrev wsX70 : List Cond := u_ws RX7 TX7 10
theorem nmX7 : ∀ a, a < 10 → ∀ b, b < 10 → a ≠ b → (TX7 a).2.1 ≠ (TX7 b).2.1 := by decide +kernel
theorem tyX7_ok : ∀ k, k < 10 → parseFieldDescriptor (TX7 k).2.2.1 = some (tyX7 k) := by decide +kernel
abbrev cX7_init : ByteArray := prog_1_method_1_code
def yX7_init : MethodName := ⟨RX7, "<init>", "()V"⟩
abbrev cX7_name : ByteArray := prog_1_method_2_code
def yX7_name : MethodName := ⟨RX7, "name", "(III)I"⟩
abbrev cX7_dot : ByteArray := prog_1_method_3_code
def yX7_dot : MethodName := ⟨RX7, "dot", "(II)I"⟩
abbrev cX7_move : ByteArray := prog_1_method_4_code
def yX7_move : MethodName := ⟨RX7, "move", "(III)I"⟩
abbrev cX7_weigh : ByteArray := prog_1_method_5_code
def yX7_weigh : MethodName := ⟨RX7, "weigh", "(II)I"⟩
abbrev cX7_size : ByteArray := prog_1_method_6_code
def yX7_size : MethodName := ⟨RX7, "size", "(III)I"⟩
abbrev cX7_about : ByteArray := prog_1_method_7_code
def yX7_about : MethodName := ⟨RX7, "about", "(II)I"⟩
abbrev cX7_isOf : ByteArray := prog_1_method_8_code
def yX7_isOf : MethodName := ⟨RX7, "isOf", "(II)I"⟩
abbrev cX7_way : ByteArray := prog_1_method_9_code
def yX7_way : MethodName := ⟨RX7, "way", "(IIII)I"⟩
abbrev cX7_clash : ByteArray := prog_1_method_10_code
def yX7_clash : MethodName := ⟨RX7, "clash", "(IIIII)I"⟩
abbrev cX7_clashes : ByteArray := prog_1_method_11_code
def yX7_clashes : MethodName := ⟨RX7, "clashes", "(II)I"⟩
abbrev cX7_parts : ByteArray := prog_1_method_12_code
def yX7_parts : MethodName := ⟨RX7, "parts", "()I"⟩
abbrev cX7_set : ByteArray := prog_1_method_13_code
def yX7_set : MethodName := ⟨RX7, "set", "(II)I"⟩
abbrev cX7_free : ByteArray := prog_1_method_14_code
def yX7_free : MethodName := ⟨RX7, "free", "(I)I"⟩
abbrev cX7_chosen : ByteArray := prog_1_method_15_code
def yX7_chosen : MethodName := ⟨RX7, "chosen", "(I)I"⟩
abbrev cX7_check : ByteArray := prog_1_method_16_code
def yX7_check : MethodName := ⟨RX7, "check", "()I"⟩
abbrev cX7_worth : ByteArray := prog_1_method_17_code
def yX7_worth : MethodName := ⟨RX7, "worth", "()I"⟩
abbrev cX7_best : ByteArray := prog_1_method_18_code
def yX7_best : MethodName := ⟨RX7, "best", "()I"⟩
abbrev cX7_quick : ByteArray := prog_1_method_19_code
def yX7_quick : MethodName := ⟨RX7, "quick", "()I"⟩
abbrev cX7_why : ByteArray := prog_1_method_20_code
def yX7_why : MethodName := ⟨RX7, "why", "(II)I"⟩
abbrev cX7_slack : ByteArray := prog_1_method_21_code
def yX7_slack : MethodName := ⟨RX7, "slack", "()I"⟩
abbrev cX7_steady : ByteArray := prog_1_method_22_code
def yX7_steady : MethodName := ⟨RX7, "steady", "(II)I"⟩
abbrev cX7_there : ByteArray := prog_1_method_23_code
def yX7_there : MethodName := ⟨RX7, "there", "(I)I"⟩
abbrev cX7_at : ByteArray := prog_1_method_24_code
def yX7_at : MethodName := ⟨RX7, "at", "(II)I"⟩
abbrev cX7_find : ByteArray := prog_1_method_25_code
def yX7_find : MethodName := ⟨RX7, "find", "(IIIII)I"⟩
abbrev cX7_undo : ByteArray := prog_1_method_26_code
def yX7_undo : MethodName := ⟨RX7, "undo", "()I"⟩
abbrev cX7_count : ByteArray := prog_1_method_27_code
def yX7_count : MethodName := ⟨RX7, "count", "(I)I"⟩
abbrev cX7_within : ByteArray := prog_1_method_28_code
def yX7_within : MethodName := ⟨RX7, "within", "(III)Z"⟩
abbrev cX7_isPlace : ByteArray := prog_1_method_29_code
def yX7_isPlace : MethodName := ⟨RX7, "isPlace", "(II)Z"⟩
abbrev cX7_isKind : ByteArray := prog_1_method_30_code
def yX7_isKind : MethodName := ⟨RX7, "isKind", "(I)Z"⟩
abbrev cX7_isZoom : ByteArray := prog_1_method_31_code
def yX7_isZoom : MethodName := ⟨RX7, "isZoom", "(I)Z"⟩
abbrev cX7_yes : ByteArray := prog_1_method_32_code
def yX7_yes : MethodName := ⟨RX7, "yes", "(Z)I"⟩
abbrev cX7_redraw : ByteArray := prog_1_method_33_code
def yX7_redraw : MethodName := ⟨RX7, "redraw", "()V"⟩
abbrev cX7_forgetDrawing : ByteArray := prog_1_method_34_code
def yX7_forgetDrawing : MethodName := ⟨RX7, "forgetDrawing", "()V"⟩
abbrev cX7_layOut : ByteArray := prog_1_method_35_code
def yX7_layOut : MethodName := ⟨RX7, "layOut", "()V"⟩
abbrev cX7_splitUp : ByteArray := prog_1_method_36_code
def yX7_splitUp : MethodName := ⟨RX7, "splitUp", "()V"⟩
abbrev cX7_openWays : ByteArray := prog_1_method_37_code
def yX7_openWays : MethodName := ⟨RX7, "openWays", "(I)I"⟩
abbrev cX7_musts : ByteArray := prog_1_method_38_code
def yX7_musts : MethodName := ⟨RX7, "musts", "()I"⟩
abbrev cX7_leftInHand : ByteArray := prog_1_method_39_code
def yX7_leftInHand : MethodName := ⟨RX7, "leftInHand", "()I"⟩
abbrev cX7_takeInHand : ByteArray := prog_1_method_40_code
def yX7_takeInHand : MethodName := ⟨RX7, "takeInHand", "()V"⟩
abbrev cX7_firstShut : ByteArray := prog_1_method_41_code
def yX7_firstShut : MethodName := ⟨RX7, "firstShut", "()I"⟩
abbrev cX7_firstClashing : ByteArray := prog_1_method_42_code
def yX7_firstClashing : MethodName := ⟨RX7, "firstClashing", "()I"⟩
abbrev cX7_firstMissing : ByteArray := prog_1_method_43_code
def yX7_firstMissing : MethodName := ⟨RX7, "firstMissing", "()I"⟩
abbrev cX7_firstHit : ByteArray := prog_1_method_44_code
def yX7_firstHit : MethodName := ⟨RX7, "firstHit", "(II[I)I"⟩
abbrev cX7_cheapestWay : ByteArray := prog_1_method_45_code
def yX7_cheapestWay : MethodName := ⟨RX7, "cheapestWay", "(I[I)I"⟩
def RX8 : String := "NameChartModel"
def TX8 : u_T := fun k => match k with
  | 0 => ("NameChartModel", "thrown", "I", false)
  | 1 => ("NameChartModel", "names", "I", false)
  | 2 => ("NameChartModel", "dots", "I", false)
  | 3 => ("NameChartModel", "kind", "[I", true)
  | 4 => ("NameChartModel", "px", "[I", true)
  | 5 => ("NameChartModel", "py", "[I", true)
  | 6 => ("NameChartModel", "wide", "[I", true)
  | 7 => ("NameChartModel", "high", "[I", true)
  | 8 => ("NameChartModel", "weight", "[I", true)
  | 9 => ("NameChartModel", "chosen", "[I", true)
  | 10 => ("NameChartModel", "dotX", "[I", true)
  | 11 => ("NameChartModel", "dotY", "[I", true)
  | 12 => ("NameChartModel", "old", "[I", true)
  | 13 => ("NameChartModel", "keptEnd", "I", false)
  | 14 => ("NameChartModel", "kept", "I", false)
  | 15 => ("NameChartModel", "pen", "I", false)
  | 16 => ("NameChartModel", "left", "I", false)
  | 17 => ("NameChartModel", "top", "I", false)
  | 18 => ("NameChartModel", "boxWide", "I", false)
  | 19 => ("NameChartModel", "boxHigh", "I", false)
  | 20 => ("NameChartModel", "one", "[J", true)
  | 21 => ("NameChartModel", "two", "[J", true)
  | 22 => ("NameChartModel", "fromUp", "J", false)
  | 23 => ("NameChartModel", "fromDown", "J", false)
  | 24 => ("NameChartModel", "toUp", "J", false)
  | 25 => ("NameChartModel", "toDown", "J", false)
  | 26 => ("NameChartModel", "part", "[I", true)
  | 27 => ("NameChartModel", "open", "[Z", true)
  | 28 => ("NameChartModel", "member", "[I", true)
  | 29 => ("NameChartModel", "members", "I", false)
  | 30 => ("NameChartModel", "tried", "[I", true)
  | 31 => ("NameChartModel", "best", "[I", true)
  | 32 => ("NameChartModel", "bestWorth", "I", false)
  | 33 => ("NameChartModel", "canBe", "[I", true)
  | 34 => ("NameChartModel", "all", "[I", true)
  | 35 => ("NameChartModel", "order", "[I", true)
  | 36 => ("NameChartModel", "zooms", "[I", true)
  | _ => ("NameChartModel", "zoomWays", "[I", true)
def tyX8 : Nat → FieldType := fun k => match k with
  | 0 => .int
  | 1 => .int
  | 2 => .int
  | 3 => .array .int
  | 4 => .array .int
  | 5 => .array .int
  | 6 => .array .int
  | 7 => .array .int
  | 8 => .array .int
  | 9 => .array .int
  | 10 => .array .int
  | 11 => .array .int
  | 12 => .array .int
  | 13 => .int
  | 14 => .int
  | 15 => .int
  | 16 => .int
  | 17 => .int
  | 18 => .int
  | 19 => .int
  | 20 => .array .long
  | 21 => .array .long
  | 22 => .long
  | 23 => .long
  | 24 => .long
  | 25 => .long
  | 26 => .array .int
  | 27 => .array .boolean
  | 28 => .array .int
  | 29 => .int
  | 30 => .array .int
  | 31 => .array .int
  | 32 => .int
  | 33 => .array .int
  | 34 => .array .int
  | 35 => .array .int
  | 36 => .array .int
  | _ => .array .int
abbrev wsX80 : List Cond := u_ws RX8 TX8 38
theorem nmX8 : ∀ a, a < 38 → ∀ b, b < 38 → a ≠ b → (TX8 a).2.1 ≠ (TX8 b).2.1 := by decide +kernel
theorem tyX8_ok : ∀ k, k < 38 → parseFieldDescriptor (TX8 k).2.2.1 = some (tyX8 k) := by decide +kernel
abbrev cX8_init : ByteArray := prog_10_method_1_code
def yX8_init : MethodName := ⟨RX8, "<init>", "()V"⟩
abbrev cX8_in : ByteArray := prog_10_method_3_code
def yX8_in : MethodName := ⟨RX8, "in", "(III)Z"⟩
abbrev cX8_write : ByteArray := prog_10_method_4_code
def yX8_write : MethodName := ⟨RX8, "write", "([II)V"⟩
abbrev cX8_read : ByteArray := prog_10_method_5_code
def yX8_read : MethodName := ⟨RX8, "read", "([II)V"⟩
abbrev cX8_keep : ByteArray := prog_10_method_6_code
def yX8_keep : MethodName := ⟨RX8, "keep", "()V"⟩
abbrev cX8_undo : ByteArray := prog_10_method_7_code
def yX8_undo : MethodName := ⟨RX8, "undo", "()I"⟩
abbrev cX8_isPlace : ByteArray := prog_10_method_8_code
def yX8_isPlace : MethodName := ⟨RX8, "isPlace", "(II)Z"⟩
abbrev cX8_isName : ByteArray := prog_10_method_9_code
def yX8_isName : MethodName := ⟨RX8, "isName", "(I)Z"⟩
abbrev cX8_name : ByteArray := prog_10_method_10_code
def yX8_name : MethodName := ⟨RX8, "name", "(III)I"⟩
abbrev cX8_dot : ByteArray := prog_10_method_11_code
def yX8_dot : MethodName := ⟨RX8, "dot", "(II)I"⟩
abbrev cX8_move : ByteArray := prog_10_method_12_code
def yX8_move : MethodName := ⟨RX8, "move", "(III)I"⟩
abbrev cX8_weigh : ByteArray := prog_10_method_13_code
def yX8_weigh : MethodName := ⟨RX8, "weigh", "(II)I"⟩
abbrev cX8_size : ByteArray := prog_10_method_14_code
def yX8_size : MethodName := ⟨RX8, "size", "(III)I"⟩
abbrev cX8_ways : ByteArray := prog_10_method_15_code
def yX8_ways : MethodName := ⟨RX8, "ways", "(I)I"⟩
abbrev cX8_isLed : ByteArray := prog_10_method_16_code
def yX8_isLed : MethodName := ⟨RX8, "isLed", "(II)Z"⟩
abbrev cX8_box : ByteArray := prog_10_method_17_code
def yX8_box : MethodName := ⟨RX8, "box", "(III)V"⟩
abbrev cX8_priceOf : ByteArray := prog_10_method_18_code
def yX8_priceOf : MethodName := ⟨RX8, "priceOf", "(II)I"⟩
abbrev cX8_covers : ByteArray := prog_10_method_19_code
def yX8_covers : MethodName := ⟨RX8, "covers", "(II)Z"⟩
abbrev cX8_isOpen : ByteArray := prog_10_method_20_code
def yX8_isOpen : MethodName := ⟨RX8, "isOpen", "(III)Z"⟩
abbrev cX8_take : ByteArray := prog_10_method_21_code
def yX8_take : MethodName := ⟨RX8, "take", "([JIII)V"⟩
abbrev cX8_signOf : ByteArray := prog_10_method_22_code
def yX8_signOf : MethodName := ⟨RX8, "signOf", "(J)I"⟩
abbrev cX8_side : ByteArray := prog_10_method_23_code
def yX8_side : MethodName := ⟨RX8, "side", "([JII[JI)I"⟩
abbrev cX8_isBetween : ByteArray := prog_10_method_24_code
def yX8_isBetween : MethodName := ⟨RX8, "isBetween", "(JJJ)Z"⟩
abbrev cX8_isOn : ByteArray := prog_10_method_25_code
def yX8_isOn : MethodName := ⟨RX8, "isOn", "([J[JI)Z"⟩
abbrev cX8_linesMeet : ByteArray := prog_10_method_26_code
def yX8_linesMeet : MethodName := ⟨RX8, "linesMeet", "()Z"⟩
abbrev cX8_cut : ByteArray := prog_10_method_27_code
def yX8_cut : MethodName := ⟨RX8, "cut", "(JJJJ)Z"⟩
abbrev cX8_crosses : ByteArray := prog_10_method_28_code
def yX8_crosses : MethodName := ⟨RX8, "crosses", "([J[J)Z"⟩
abbrev cX8_doClash : ByteArray := prog_10_method_29_code
def yX8_doClash : MethodName := ⟨RX8, "doClash", "(IIIII)Z"⟩
abbrev cX8_isWay : ByteArray := prog_10_method_30_code
def yX8_isWay : MethodName := ⟨RX8, "isWay", "(II)Z"⟩
abbrev cX8_way : ByteArray := prog_10_method_31_code
def yX8_way : MethodName := ⟨RX8, "way", "(IIII)I"⟩
abbrev cX8_clash : ByteArray := prog_10_method_32_code
def yX8_clash : MethodName := ⟨RX8, "clash", "(IIIII)I"⟩
abbrev cX8_clashes : ByteArray := prog_10_method_33_code
def yX8_clashes : MethodName := ⟨RX8, "clashes", "(II)I"⟩
abbrev cX8_findOpen : ByteArray := prog_10_method_34_code
def yX8_findOpen : MethodName := ⟨RX8, "findOpen", "()V"⟩
abbrev cX8_touch : ByteArray := prog_10_method_35_code
def yX8_touch : MethodName := ⟨RX8, "touch", "(II)Z"⟩
abbrev cX8_findParts : ByteArray := prog_10_method_36_code
def yX8_findParts : MethodName := ⟨RX8, "findParts", "()I"⟩
abbrev cX8_parts : ByteArray := prog_10_method_37_code
def yX8_parts : MethodName := ⟨RX8, "parts", "()I"⟩
abbrev cX8_most : ByteArray := prog_10_method_38_code
def yX8_most : MethodName := ⟨RX8, "most", "()I"⟩
abbrev cX8_about : ByteArray := prog_10_method_39_code
def yX8_about : MethodName := ⟨RX8, "about", "(II)I"⟩
abbrev cX8_isOf : ByteArray := prog_10_method_40_code
def yX8_isOf : MethodName := ⟨RX8, "isOf", "(II)I"⟩
abbrev cX8_set : ByteArray := prog_10_method_41_code
def yX8_set : MethodName := ⟨RX8, "set", "(II)I"⟩
abbrev cX8_free : ByteArray := prog_10_method_42_code
def yX8_free : MethodName := ⟨RX8, "free", "(I)I"⟩
abbrev cX8_chosen : ByteArray := prog_10_method_43_code
def yX8_chosen : MethodName := ⟨RX8, "chosen", "(I)I"⟩
abbrev cX8_clashInHand : ByteArray := prog_10_method_44_code
def yX8_clashInHand : MethodName := ⟨RX8, "clashInHand", "(II)I"⟩
abbrev cX8_check : ByteArray := prog_10_method_45_code
def yX8_check : MethodName := ⟨RX8, "check", "()I"⟩
abbrev cX8_worthOf : ByteArray := prog_10_method_46_code
def yX8_worthOf : MethodName := ⟨RX8, "worthOf", "(II)I"⟩
abbrev cX8_worthInHand : ByteArray := prog_10_method_47_code
def yX8_worthInHand : MethodName := ⟨RX8, "worthInHand", "()I"⟩
abbrev cX8_worth : ByteArray := prog_10_method_48_code
def yX8_worth : MethodName := ⟨RX8, "worth", "()I"⟩
abbrev cX8_fits : ByteArray := prog_10_method_49_code
def yX8_fits : MethodName := ⟨RX8, "fits", "(II)Z"⟩
abbrev cX8_tryFrom : ByteArray := prog_10_method_50_code
def yX8_tryFrom : MethodName := ⟨RX8, "tryFrom", "(II)V"⟩
abbrev cX8_bestOf : ByteArray := prog_10_method_51_code
def yX8_bestOf : MethodName := ⟨RX8, "bestOf", "(I)Z"⟩
abbrev cX8_best : ByteArray := prog_10_method_52_code
def yX8_best : MethodName := ⟨RX8, "best", "()I"⟩
abbrev cX8_isAhead : ByteArray := prog_10_method_53_code
def yX8_isAhead : MethodName := ⟨RX8, "isAhead", "(II)Z"⟩
abbrev cX8_findOrder : ByteArray := prog_10_method_54_code
def yX8_findOrder : MethodName := ⟨RX8, "findOrder", "()V"⟩
abbrev cX8_quick : ByteArray := prog_10_method_55_code
def yX8_quick : MethodName := ⟨RX8, "quick", "()I"⟩
abbrev cX8_why : ByteArray := prog_10_method_56_code
def yX8_why : MethodName := ⟨RX8, "why", "(II)I"⟩
abbrev cX8_slack : ByteArray := prog_10_method_57_code
def yX8_slack : MethodName := ⟨RX8, "slack", "()I"⟩
abbrev cX8_isSteady : ByteArray := prog_10_method_58_code
def yX8_isSteady : MethodName := ⟨RX8, "isSteady", "(III)Z"⟩
abbrev cX8_findSteady : ByteArray := prog_10_method_59_code
def yX8_findSteady : MethodName := ⟨RX8, "findSteady", "()V"⟩
abbrev cX8_steady : ByteArray := prog_10_method_60_code
def yX8_steady : MethodName := ⟨RX8, "steady", "(II)I"⟩
abbrev cX8_there : ByteArray := prog_10_method_61_code
def yX8_there : MethodName := ⟨RX8, "there", "(I)I"⟩
abbrev cX8_at : ByteArray := prog_10_method_62_code
def yX8_at : MethodName := ⟨RX8, "at", "(II)I"⟩
abbrev cX8_find : ByteArray := prog_10_method_63_code
def yX8_find : MethodName := ⟨RX8, "find", "(IIIII)I"⟩
abbrev cX8_count : ByteArray := prog_10_method_64_code
def yX8_count : MethodName := ⟨RX8, "count", "(I)I"⟩
def RJ6 : String := "java/lang/Integer"
abbrev cJ6_numberOfTrailingZeros_0f7a4 : ByteArray := prog_11_method_48_code
def yJ6_numberOfTrailingZeros_0f7a4 : MethodName := ⟨RJ6, "numberOfTrailingZeros", "(I)I"⟩
abbrev cJ6_bitCount_0f7a4 : ByteArray := prog_11_method_49_code
def yJ6_bitCount_0f7a4 : MethodName := ⟨RJ6, "bitCount", "(I)I"⟩
def RJ9 : String := "java/lang/Math"
abbrev cJ9_abs_0f7a4 : ByteArray := prog_12_method_59_code
def yJ9_abs_0f7a4 : MethodName := ⟨RJ9, "abs", "(I)I"⟩
abbrev cJ9_max_7cf53 : ByteArray := prog_12_method_65_code
def yJ9_max_7cf53 : MethodName := ⟨RJ9, "max", "(II)I"⟩
abbrev cJ9_min_7cf53 : ByteArray := prog_12_method_69_code
def yJ9_min_7cf53 : MethodName := ⟨RJ9, "min", "(II)I"⟩
def RJ10 : String := "java/lang/System"
def RJ7 : String := "java/util/Arrays"
abbrev cJ7_fill_53178 : ByteArray := prog_14_method_103_code
def yJ7_fill_53178 : MethodName := ⟨RJ7, "fill", "([II)V"⟩
def RL : String := "NameChartLaw"
abbrev cL_law : ByteArray := code
def yL_law : MethodName := ⟨RL, "law", "([I)Z"⟩
abbrev vwCl : List vw_C := [(RX0, TX0, 9), (RX1, TX1, 11), (RX2, TX2, 3), (RX3, TX3, 3), (RX4, TX4, 5), (RX5, TX5, 6), (RX6, TX6, 10), (RX7, TX7, 10), (RX8, TX8, 38)]
