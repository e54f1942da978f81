-- ===== PART A: goes FIRST, ahead of the names: the tables' words, and 'selects' of the private methods out of them =====
/-- a private method of a class that the tables say can be made, by its rows of tables_1 -/
def lw_okq (q : MethodName × Nat) : Prop := (q.1.cls ≠ "java/lang/invoke/MethodHandle" ∧ q.1.cls ≠ "java/lang/invoke/VarHandle") ∧ Cond.instantiable q.1.cls q.2 ∈ tables_1 ∧ Cond.privateMethod q.1 ∈ tables_1 ∧ Cond.instanceMethod q.1 ∈ tables_1
theorem lw_p0 : lw_okq (⟨"CountyPrint$Reader", "begin", "(LCountyPrint$County;)V"⟩, 3) := ⟨⟨by decide +kernel, by decide +kernel⟩, List.mem_of_getElem? (i := 201) (by decide +kernel), List.mem_of_getElem? (i := 420) (by decide +kernel), List.mem_of_getElem? (i := 421) (by decide +kernel)⟩
theorem lw_p1 : lw_okq (⟨"CountyPrint$Tape", "takeWord", "()V"⟩, 10) := ⟨⟨by decide +kernel, by decide +kernel⟩, List.mem_of_getElem? (i := 105) (by decide +kernel), List.mem_of_getElem? (i := 435) (by decide +kernel), List.mem_of_getElem? (i := 436) (by decide +kernel)⟩
theorem lw_p2 : lw_okq (⟨"CountyPrint$Tape", "takeNumber", "()V"⟩, 10) := ⟨⟨by decide +kernel, by decide +kernel⟩, List.mem_of_getElem? (i := 105) (by decide +kernel), List.mem_of_getElem? (i := 442) (by decide +kernel), List.mem_of_getElem? (i := 443) (by decide +kernel)⟩
theorem lw_p3 : lw_okq (⟨"CountyPrint$Tape", "takeSign", "()V"⟩, 10) := ⟨⟨by decide +kernel, by decide +kernel⟩, List.mem_of_getElem? (i := 105) (by decide +kernel), List.mem_of_getElem? (i := 446) (by decide +kernel), List.mem_of_getElem? (i := 447) (by decide +kernel)⟩
theorem lw_p4 : lw_okq (⟨"CountyPrint$Reader", "readShot", "()Z"⟩, 3) := ⟨⟨by decide +kernel, by decide +kernel⟩, List.mem_of_getElem? (i := 201) (by decide +kernel), List.mem_of_getElem? (i := 454) (by decide +kernel), List.mem_of_getElem? (i := 455) (by decide +kernel)⟩
theorem lw_p5 : lw_okq (⟨"CountyPrint$Reader", "fail", "(I)Z"⟩, 3) := ⟨⟨by decide +kernel, by decide +kernel⟩, List.mem_of_getElem? (i := 201) (by decide +kernel), List.mem_of_getElem? (i := 458) (by decide +kernel), List.mem_of_getElem? (i := 459) (by decide +kernel)⟩
theorem lw_p6 : lw_okq (⟨"CountyPrint$Reader", "takeNewName", "()Z"⟩, 3) := ⟨⟨by decide +kernel, by decide +kernel⟩, List.mem_of_getElem? (i := 201) (by decide +kernel), List.mem_of_getElem? (i := 463) (by decide +kernel), List.mem_of_getElem? (i := 464) (by decide +kernel)⟩
theorem lw_p7 : lw_okq (⟨"CountyPrint$Reader", "isName", "()Z"⟩, 3) := ⟨⟨by decide +kernel, by decide +kernel⟩, List.mem_of_getElem? (i := 201) (by decide +kernel), List.mem_of_getElem? (i := 467) (by decide +kernel), List.mem_of_getElem? (i := 468) (by decide +kernel)⟩
theorem lw_p8 : lw_okq (⟨"CountyPrint$Reader", "takeKeyword", "(I)Z"⟩, 3) := ⟨⟨by decide +kernel, by decide +kernel⟩, List.mem_of_getElem? (i := 201) (by decide +kernel), List.mem_of_getElem? (i := 479) (by decide +kernel), List.mem_of_getElem? (i := 480) (by decide +kernel)⟩
theorem lw_p9 : lw_okq (⟨"CountyPrint$Reader", "takeNumber", "(II)Z"⟩, 3) := ⟨⟨by decide +kernel, by decide +kernel⟩, List.mem_of_getElem? (i := 201) (by decide +kernel), List.mem_of_getElem? (i := 483) (by decide +kernel), List.mem_of_getElem? (i := 484) (by decide +kernel)⟩
theorem lw_p10 : lw_okq (⟨"CountyPrint$Reader", "takeSemicolon", "()Z"⟩, 3) := ⟨⟨by decide +kernel, by decide +kernel⟩, List.mem_of_getElem? (i := 201) (by decide +kernel), List.mem_of_getElem? (i := 487) (by decide +kernel), List.mem_of_getElem? (i := 488) (by decide +kernel)⟩
theorem lw_p11 : lw_okq (⟨"CountyPrint$Reader", "readNeeds", "()Z"⟩, 3) := ⟨⟨by decide +kernel, by decide +kernel⟩, List.mem_of_getElem? (i := 201) (by decide +kernel), List.mem_of_getElem? (i := 499) (by decide +kernel), List.mem_of_getElem? (i := 500) (by decide +kernel)⟩
theorem lw_p12 : lw_okq (⟨"CountyPrint$Reader", "takeTold", "(I)Z"⟩, 3) := ⟨⟨by decide +kernel, by decide +kernel⟩, List.mem_of_getElem? (i := 201) (by decide +kernel), List.mem_of_getElem? (i := 503) (by decide +kernel), List.mem_of_getElem? (i := 504) (by decide +kernel)⟩
theorem lw_p13 : lw_okq (⟨"CountyPrint$Reader", "readHall", "()Z"⟩, 3) := ⟨⟨by decide +kernel, by decide +kernel⟩, List.mem_of_getElem? (i := 201) (by decide +kernel), List.mem_of_getElem? (i := 519) (by decide +kernel), List.mem_of_getElem? (i := 520) (by decide +kernel)⟩
theorem lw_p14 : lw_okq (⟨"CountyPrint$Reader", "readExpression", "(I)Z"⟩, 3) := ⟨⟨by decide +kernel, by decide +kernel⟩, List.mem_of_getElem? (i := 201) (by decide +kernel), List.mem_of_getElem? (i := 523) (by decide +kernel), List.mem_of_getElem? (i := 524) (by decide +kernel)⟩
theorem lw_p15 : lw_okq (⟨"CountyPrint$Reader", "readTest", "(I)Z"⟩, 3) := ⟨⟨by decide +kernel, by decide +kernel⟩, List.mem_of_getElem? (i := 201) (by decide +kernel), List.mem_of_getElem? (i := 527) (by decide +kernel), List.mem_of_getElem? (i := 528) (by decide +kernel)⟩
def lw_privs_1 : List (MethodName × Nat) := [(⟨"CountyPrint$Reader", "begin", "(LCountyPrint$County;)V"⟩, 3), (⟨"CountyPrint$Tape", "takeWord", "()V"⟩, 10), (⟨"CountyPrint$Tape", "takeNumber", "()V"⟩, 10), (⟨"CountyPrint$Tape", "takeSign", "()V"⟩, 10), (⟨"CountyPrint$Reader", "readShot", "()Z"⟩, 3), (⟨"CountyPrint$Reader", "fail", "(I)Z"⟩, 3), (⟨"CountyPrint$Reader", "takeNewName", "()Z"⟩, 3), (⟨"CountyPrint$Reader", "isName", "()Z"⟩, 3), (⟨"CountyPrint$Reader", "takeKeyword", "(I)Z"⟩, 3), (⟨"CountyPrint$Reader", "takeNumber", "(II)Z"⟩, 3), (⟨"CountyPrint$Reader", "takeSemicolon", "()Z"⟩, 3), (⟨"CountyPrint$Reader", "readNeeds", "()Z"⟩, 3), (⟨"CountyPrint$Reader", "takeTold", "(I)Z"⟩, 3), (⟨"CountyPrint$Reader", "readHall", "()Z"⟩, 3), (⟨"CountyPrint$Reader", "readExpression", "(I)Z"⟩, 3), (⟨"CountyPrint$Reader", "readTest", "(I)Z"⟩, 3)]
theorem lw_r1 : ∀ q ∈ lw_privs_1, lw_okq q := List.forall_mem_cons.mpr ⟨lw_p0, List.forall_mem_cons.mpr ⟨lw_p1, List.forall_mem_cons.mpr ⟨lw_p2, List.forall_mem_cons.mpr ⟨lw_p3, List.forall_mem_cons.mpr ⟨lw_p4, List.forall_mem_cons.mpr ⟨lw_p5, List.forall_mem_cons.mpr ⟨lw_p6, List.forall_mem_cons.mpr ⟨lw_p7, List.forall_mem_cons.mpr ⟨lw_p8, List.forall_mem_cons.mpr ⟨lw_p9, List.forall_mem_cons.mpr ⟨lw_p10, List.forall_mem_cons.mpr ⟨lw_p11, List.forall_mem_cons.mpr ⟨lw_p12, List.forall_mem_cons.mpr ⟨lw_p13, List.forall_mem_cons.mpr ⟨lw_p14, List.forall_mem_cons.mpr ⟨lw_p15, fun _ h => absurd h List.not_mem_nil⟩⟩⟩⟩⟩⟩⟩⟩⟩⟩⟩⟩⟩⟩⟩⟩
theorem lw_p16 : lw_okq (⟨"CountyPrint$Reader", "readSum", "(I)Z"⟩, 3) := ⟨⟨by decide +kernel, by decide +kernel⟩, List.mem_of_getElem? (i := 201) (by decide +kernel), List.mem_of_getElem? (i := 531) (by decide +kernel), List.mem_of_getElem? (i := 532) (by decide +kernel)⟩
theorem lw_p17 : lw_okq (⟨"CountyPrint$Reader", "readProduct", "(I)Z"⟩, 3) := ⟨⟨by decide +kernel, by decide +kernel⟩, List.mem_of_getElem? (i := 201) (by decide +kernel), List.mem_of_getElem? (i := 535) (by decide +kernel), List.mem_of_getElem? (i := 536) (by decide +kernel)⟩
theorem lw_p18 : lw_okq (⟨"CountyPrint$Reader", "readPart", "(I)Z"⟩, 3) := ⟨⟨by decide +kernel, by decide +kernel⟩, List.mem_of_getElem? (i := 201) (by decide +kernel), List.mem_of_getElem? (i := 539) (by decide +kernel), List.mem_of_getElem? (i := 540) (by decide +kernel)⟩
theorem lw_p19 : lw_okq (⟨"CountyPrint$Reader", "readBracketed", "(I)Z"⟩, 3) := ⟨⟨by decide +kernel, by decide +kernel⟩, List.mem_of_getElem? (i := 201) (by decide +kernel), List.mem_of_getElem? (i := 547) (by decide +kernel), List.mem_of_getElem? (i := 548) (by decide +kernel)⟩
theorem lw_p20 : lw_okq (⟨"CountyPrint$Reader", "readNegated", "(I)Z"⟩, 3) := ⟨⟨by decide +kernel, by decide +kernel⟩, List.mem_of_getElem? (i := 201) (by decide +kernel), List.mem_of_getElem? (i := 551) (by decide +kernel), List.mem_of_getElem? (i := 552) (by decide +kernel)⟩
theorem lw_p21 : lw_okq (⟨"CountyPrint$County", "judge", "(IIII)V"⟩, 10) := ⟨⟨by decide +kernel, by decide +kernel⟩, List.mem_of_getElem? (i := 33) (by decide +kernel), List.mem_of_getElem? (i := 563) (by decide +kernel), List.mem_of_getElem? (i := 564) (by decide +kernel)⟩
theorem lw_p22 : lw_okq (⟨"CountyPrint$County", "keyOf", "(III)I"⟩, 10) := ⟨⟨by decide +kernel, by decide +kernel⟩, List.mem_of_getElem? (i := 33) (by decide +kernel), List.mem_of_getElem? (i := 567) (by decide +kernel), List.mem_of_getElem? (i := 568) (by decide +kernel)⟩
theorem lw_p23 : lw_okq (⟨"CountyPrint", "beginAnew", "()V"⟩, 14) := ⟨⟨by decide +kernel, by decide +kernel⟩, List.mem_of_getElem? (i := 25) (by decide +kernel), List.mem_of_getElem? (i := 582) (by decide +kernel), List.mem_of_getElem? (i := 583) (by decide +kernel)⟩
theorem lw_p24 : lw_okq (⟨"CountyPrint$Reader", "readPlanLine", "(LCountyPrint$Plan;)Z"⟩, 3) := ⟨⟨by decide +kernel, by decide +kernel⟩, List.mem_of_getElem? (i := 201) (by decide +kernel), List.mem_of_getElem? (i := 611) (by decide +kernel), List.mem_of_getElem? (i := 612) (by decide +kernel)⟩
theorem lw_p25 : lw_okq (⟨"CountyPrint$Reader", "readHandling", "(LCountyPrint$Plan;I)Z"⟩, 3) := ⟨⟨by decide +kernel, by decide +kernel⟩, List.mem_of_getElem? (i := 201) (by decide +kernel), List.mem_of_getElem? (i := 615) (by decide +kernel), List.mem_of_getElem? (i := 616) (by decide +kernel)⟩
theorem lw_p26 : lw_okq (⟨"CountyPrint$Reader", "readBare", "(LCountyPrint$Plan;I)Z"⟩, 3) := ⟨⟨by decide +kernel, by decide +kernel⟩, List.mem_of_getElem? (i := 201) (by decide +kernel), List.mem_of_getElem? (i := 623) (by decide +kernel), List.mem_of_getElem? (i := 624) (by decide +kernel)⟩
theorem lw_p27 : lw_okq (⟨"CountyPrint$County", "behind", "(II)I"⟩, 10) := ⟨⟨by decide +kernel, by decide +kernel⟩, List.mem_of_getElem? (i := 33) (by decide +kernel), List.mem_of_getElem? (i := 649) (by decide +kernel), List.mem_of_getElem? (i := 650) (by decide +kernel)⟩
theorem lw_p28 : lw_okq (⟨"CountyPrint$County", "lastOf", "(I)I"⟩, 10) := ⟨⟨by decide +kernel, by decide +kernel⟩, List.mem_of_getElem? (i := 33) (by decide +kernel), List.mem_of_getElem? (i := 653) (by decide +kernel), List.mem_of_getElem? (i := 654) (by decide +kernel)⟩
theorem lw_p29 : lw_okq (⟨"CountyPrint", "liesIn", "(II)Z"⟩, 14) := ⟨⟨by decide +kernel, by decide +kernel⟩, List.mem_of_getElem? (i := 25) (by decide +kernel), List.mem_of_getElem? (i := 690) (by decide +kernel), List.mem_of_getElem? (i := 691) (by decide +kernel)⟩
theorem lw_p30 : lw_okq (⟨"CountyPrint", "nextHall", "()I"⟩, 14) := ⟨⟨by decide +kernel, by decide +kernel⟩, List.mem_of_getElem? (i := 25) (by decide +kernel), List.mem_of_getElem? (i := 725) (by decide +kernel), List.mem_of_getElem? (i := 726) (by decide +kernel)⟩
theorem lw_p31 : lw_okq (⟨"CountyPrint", "rowShownAt", "(I)I"⟩, 14) := ⟨⟨by decide +kernel, by decide +kernel⟩, List.mem_of_getElem? (i := 25) (by decide +kernel), List.mem_of_getElem? (i := 762) (by decide +kernel), List.mem_of_getElem? (i := 763) (by decide +kernel)⟩
def lw_privs_2 : List (MethodName × Nat) := [(⟨"CountyPrint$Reader", "readSum", "(I)Z"⟩, 3), (⟨"CountyPrint$Reader", "readProduct", "(I)Z"⟩, 3), (⟨"CountyPrint$Reader", "readPart", "(I)Z"⟩, 3), (⟨"CountyPrint$Reader", "readBracketed", "(I)Z"⟩, 3), (⟨"CountyPrint$Reader", "readNegated", "(I)Z"⟩, 3), (⟨"CountyPrint$County", "judge", "(IIII)V"⟩, 10), (⟨"CountyPrint$County", "keyOf", "(III)I"⟩, 10), (⟨"CountyPrint", "beginAnew", "()V"⟩, 14), (⟨"CountyPrint$Reader", "readPlanLine", "(LCountyPrint$Plan;)Z"⟩, 3), (⟨"CountyPrint$Reader", "readHandling", "(LCountyPrint$Plan;I)Z"⟩, 3), (⟨"CountyPrint$Reader", "readBare", "(LCountyPrint$Plan;I)Z"⟩, 3), (⟨"CountyPrint$County", "behind", "(II)I"⟩, 10), (⟨"CountyPrint$County", "lastOf", "(I)I"⟩, 10), (⟨"CountyPrint", "liesIn", "(II)Z"⟩, 14), (⟨"CountyPrint", "nextHall", "()I"⟩, 14), (⟨"CountyPrint", "rowShownAt", "(I)I"⟩, 14)]
theorem lw_r2 : ∀ q ∈ lw_privs_2, lw_okq q := List.forall_mem_cons.mpr ⟨lw_p16, List.forall_mem_cons.mpr ⟨lw_p17, List.forall_mem_cons.mpr ⟨lw_p18, List.forall_mem_cons.mpr ⟨lw_p19, List.forall_mem_cons.mpr ⟨lw_p20, List.forall_mem_cons.mpr ⟨lw_p21, List.forall_mem_cons.mpr ⟨lw_p22, List.forall_mem_cons.mpr ⟨lw_p23, List.forall_mem_cons.mpr ⟨lw_p24, List.forall_mem_cons.mpr ⟨lw_p25, List.forall_mem_cons.mpr ⟨lw_p26, List.forall_mem_cons.mpr ⟨lw_p27, List.forall_mem_cons.mpr ⟨lw_p28, List.forall_mem_cons.mpr ⟨lw_p29, List.forall_mem_cons.mpr ⟨lw_p30, List.forall_mem_cons.mpr ⟨lw_p31, fun _ h => absurd h List.not_mem_nil⟩⟩⟩⟩⟩⟩⟩⟩⟩⟩⟩⟩⟩⟩⟩⟩
theorem lw_p32 : lw_okq (⟨"CountyPrint", "isAhead", "(I)Z"⟩, 14) := ⟨⟨by decide +kernel, by decide +kernel⟩, List.mem_of_getElem? (i := 25) (by decide +kernel), List.mem_of_getElem? (i := 766) (by decide +kernel), List.mem_of_getElem? (i := 767) (by decide +kernel)⟩
theorem lw_p33 : lw_okq (⟨"CountyPrint", "nextPlace", "()I"⟩, 14) := ⟨⟨by decide +kernel, by decide +kernel⟩, List.mem_of_getElem? (i := 25) (by decide +kernel), List.mem_of_getElem? (i := 770) (by decide +kernel), List.mem_of_getElem? (i := 771) (by decide +kernel)⟩
theorem lw_p34 : lw_okq (⟨"CountyPrint", "hallsAhead", "()I"⟩, 14) := ⟨⟨by decide +kernel, by decide +kernel⟩, List.mem_of_getElem? (i := 25) (by decide +kernel), List.mem_of_getElem? (i := 832) (by decide +kernel), List.mem_of_getElem? (i := 833) (by decide +kernel)⟩
theorem lw_p35 : lw_okq (⟨"CountyPrint$Ranking", "search", "(LCountyPrint$County;IIII)V"⟩, 3) := ⟨⟨by decide +kernel, by decide +kernel⟩, List.mem_of_getElem? (i := 333) (by decide +kernel), List.mem_of_getElem? (i := 840) (by decide +kernel), List.mem_of_getElem? (i := 841) (by decide +kernel)⟩
theorem lw_p36 : lw_okq (⟨"CountyPrint$Ranking", "keepPath", "()V"⟩, 3) := ⟨⟨by decide +kernel, by decide +kernel⟩, List.mem_of_getElem? (i := 333) (by decide +kernel), List.mem_of_getElem? (i := 844) (by decide +kernel), List.mem_of_getElem? (i := 845) (by decide +kernel)⟩
theorem lw_p37 : lw_okq (⟨"CountyPrint", "fillRows", "()V"⟩, 14) := ⟨⟨by decide +kernel, by decide +kernel⟩, List.mem_of_getElem? (i := 25) (by decide +kernel), List.mem_of_getElem? (i := 855) (by decide +kernel), List.mem_of_getElem? (i := 856) (by decide +kernel)⟩
theorem lw_p38 : lw_okq (⟨"CountyPrint", "seenBy", "(I)I"⟩, 14) := ⟨⟨by decide +kernel, by decide +kernel⟩, List.mem_of_getElem? (i := 25) (by decide +kernel), List.mem_of_getElem? (i := 859) (by decide +kernel), List.mem_of_getElem? (i := 860) (by decide +kernel)⟩
theorem lw_p39 : lw_okq (⟨"CountyPrint", "greaterPart", "(II)I"⟩, 14) := ⟨⟨by decide +kernel, by decide +kernel⟩, List.mem_of_getElem? (i := 25) (by decide +kernel), List.mem_of_getElem? (i := 918) (by decide +kernel), List.mem_of_getElem? (i := 919) (by decide +kernel)⟩
theorem lw_p40 : lw_okq (⟨"CountyPrint", "giveBackByDraw", "()V"⟩, 14) := ⟨⟨by decide +kernel, by decide +kernel⟩, List.mem_of_getElem? (i := 25) (by decide +kernel), List.mem_of_getElem? (i := 943) (by decide +kernel), List.mem_of_getElem? (i := 944) (by decide +kernel)⟩
theorem lw_p41 : lw_okq (⟨"java/lang/Throwable", "fillInStackTrace", "(I)Ljava/lang/Throwable;"⟩, 6) := ⟨⟨by decide +kernel, by decide +kernel⟩, List.mem_of_getElem? (i := 1016) (by decide +kernel), List.mem_of_getElem? (i := 1014) (by decide +kernel), List.mem_of_getElem? (i := 1015) (by decide +kernel)⟩
theorem lw_p42 : lw_okq (⟨"CountyPrint", "minutesTogether", "(I)I"⟩, 14) := ⟨⟨by decide +kernel, by decide +kernel⟩, List.mem_of_getElem? (i := 25) (by decide +kernel), List.mem_of_getElem? (i := 1045) (by decide +kernel), List.mem_of_getElem? (i := 1046) (by decide +kernel)⟩
theorem lw_p43 : lw_okq (⟨"CountyPrintModel", "fresh", "()V"⟩, 58) := ⟨⟨by decide +kernel, by decide +kernel⟩, List.mem_of_getElem? (i := 1067) (by decide +kernel), List.mem_of_getElem? (i := 1073) (by decide +kernel), List.mem_of_getElem? (i := 1074) (by decide +kernel)⟩
theorem lw_p44 : lw_okq (⟨"CountyPrintModel", "allShots", "()I"⟩, 58) := ⟨⟨by decide +kernel, by decide +kernel⟩, List.mem_of_getElem? (i := 1067) (by decide +kernel), List.mem_of_getElem? (i := 1077) (by decide +kernel), List.mem_of_getElem? (i := 1078) (by decide +kernel)⟩
theorem lw_p45 : lw_okq (⟨"CountyPrintModel", "readsAll", "()Z"⟩, 58) := ⟨⟨by decide +kernel, by decide +kernel⟩, List.mem_of_getElem? (i := 1067) (by decide +kernel), List.mem_of_getElem? (i := 1269) (by decide +kernel), List.mem_of_getElem? (i := 1270) (by decide +kernel)⟩
theorem lw_p46 : lw_okq (⟨"CountyPrintModel", "begins", "()V"⟩, 58) := ⟨⟨by decide +kernel, by decide +kernel⟩, List.mem_of_getElem? (i := 1067) (by decide +kernel), List.mem_of_getElem? (i := 1273) (by decide +kernel), List.mem_of_getElem? (i := 1274) (by decide +kernel)⟩
theorem lw_p47 : lw_okq (⟨"CountyPrintModel", "nextToken", "()V"⟩, 58) := ⟨⟨by decide +kernel, by decide +kernel⟩, List.mem_of_getElem? (i := 1067) (by decide +kernel), List.mem_of_getElem? (i := 1277) (by decide +kernel), List.mem_of_getElem? (i := 1278) (by decide +kernel)⟩
def lw_privs_3 : List (MethodName × Nat) := [(⟨"CountyPrint", "isAhead", "(I)Z"⟩, 14), (⟨"CountyPrint", "nextPlace", "()I"⟩, 14), (⟨"CountyPrint", "hallsAhead", "()I"⟩, 14), (⟨"CountyPrint$Ranking", "search", "(LCountyPrint$County;IIII)V"⟩, 3), (⟨"CountyPrint$Ranking", "keepPath", "()V"⟩, 3), (⟨"CountyPrint", "fillRows", "()V"⟩, 14), (⟨"CountyPrint", "seenBy", "(I)I"⟩, 14), (⟨"CountyPrint", "greaterPart", "(II)I"⟩, 14), (⟨"CountyPrint", "giveBackByDraw", "()V"⟩, 14), (⟨"java/lang/Throwable", "fillInStackTrace", "(I)Ljava/lang/Throwable;"⟩, 6), (⟨"CountyPrint", "minutesTogether", "(I)I"⟩, 14), (⟨"CountyPrintModel", "fresh", "()V"⟩, 58), (⟨"CountyPrintModel", "allShots", "()I"⟩, 58), (⟨"CountyPrintModel", "readsAll", "()Z"⟩, 58), (⟨"CountyPrintModel", "begins", "()V"⟩, 58), (⟨"CountyPrintModel", "nextToken", "()V"⟩, 58)]
theorem lw_r3 : ∀ q ∈ lw_privs_3, lw_okq q := List.forall_mem_cons.mpr ⟨lw_p32, List.forall_mem_cons.mpr ⟨lw_p33, List.forall_mem_cons.mpr ⟨lw_p34, List.forall_mem_cons.mpr ⟨lw_p35, List.forall_mem_cons.mpr ⟨lw_p36, List.forall_mem_cons.mpr ⟨lw_p37, List.forall_mem_cons.mpr ⟨lw_p38, List.forall_mem_cons.mpr ⟨lw_p39, List.forall_mem_cons.mpr ⟨lw_p40, List.forall_mem_cons.mpr ⟨lw_p41, List.forall_mem_cons.mpr ⟨lw_p42, List.forall_mem_cons.mpr ⟨lw_p43, List.forall_mem_cons.mpr ⟨lw_p44, List.forall_mem_cons.mpr ⟨lw_p45, List.forall_mem_cons.mpr ⟨lw_p46, List.forall_mem_cons.mpr ⟨lw_p47, fun _ h => absurd h List.not_mem_nil⟩⟩⟩⟩⟩⟩⟩⟩⟩⟩⟩⟩⟩⟩⟩⟩
theorem lw_p48 : lw_okq (⟨"CountyPrintModel", "signAt", "(I)I"⟩, 58) := ⟨⟨by decide +kernel, by decide +kernel⟩, List.mem_of_getElem? (i := 1067) (by decide +kernel), List.mem_of_getElem? (i := 1281) (by decide +kernel), List.mem_of_getElem? (i := 1282) (by decide +kernel)⟩
theorem lw_p49 : lw_okq (⟨"CountyPrintModel", "isWord", "(J)Z"⟩, 58) := ⟨⟨by decide +kernel, by decide +kernel⟩, List.mem_of_getElem? (i := 1067) (by decide +kernel), List.mem_of_getElem? (i := 1288) (by decide +kernel), List.mem_of_getElem? (i := 1289) (by decide +kernel)⟩
theorem lw_p50 : lw_okq (⟨"CountyPrintModel", "readsShot", "()Z"⟩, 58) := ⟨⟨by decide +kernel, by decide +kernel⟩, List.mem_of_getElem? (i := 1067) (by decide +kernel), List.mem_of_getElem? (i := 1292) (by decide +kernel), List.mem_of_getElem? (i := 1293) (by decide +kernel)⟩
theorem lw_p51 : lw_okq (⟨"CountyPrintModel", "fails", "(I)Z"⟩, 58) := ⟨⟨by decide +kernel, by decide +kernel⟩, List.mem_of_getElem? (i := 1067) (by decide +kernel), List.mem_of_getElem? (i := 1296) (by decide +kernel), List.mem_of_getElem? (i := 1297) (by decide +kernel)⟩
theorem lw_p52 : lw_okq (⟨"CountyPrintModel", "needsNew", "()Z"⟩, 58) := ⟨⟨by decide +kernel, by decide +kernel⟩, List.mem_of_getElem? (i := 1067) (by decide +kernel), List.mem_of_getElem? (i := 1300) (by decide +kernel), List.mem_of_getElem? (i := 1301) (by decide +kernel)⟩
theorem lw_p53 : lw_okq (⟨"CountyPrintModel", "isKept", "()Z"⟩, 58) := ⟨⟨by decide +kernel, by decide +kernel⟩, List.mem_of_getElem? (i := 1067) (by decide +kernel), List.mem_of_getElem? (i := 1304) (by decide +kernel), List.mem_of_getElem? (i := 1305) (by decide +kernel)⟩
theorem lw_p54 : lw_okq (⟨"CountyPrintModel", "shotNamed", "(I)I"⟩, 58) := ⟨⟨by decide +kernel, by decide +kernel⟩, List.mem_of_getElem? (i := 1067) (by decide +kernel), List.mem_of_getElem? (i := 1324) (by decide +kernel), List.mem_of_getElem? (i := 1325) (by decide +kernel)⟩
theorem lw_p55 : lw_okq (⟨"CountyPrintModel", "hallNamed", "(I)I"⟩, 58) := ⟨⟨by decide +kernel, by decide +kernel⟩, List.mem_of_getElem? (i := 1067) (by decide +kernel), List.mem_of_getElem? (i := 1328) (by decide +kernel), List.mem_of_getElem? (i := 1329) (by decide +kernel)⟩
theorem lw_p56 : lw_okq (⟨"CountyPrintModel", "needsWord", "(J)Z"⟩, 58) := ⟨⟨by decide +kernel, by decide +kernel⟩, List.mem_of_getElem? (i := 1067) (by decide +kernel), List.mem_of_getElem? (i := 1332) (by decide +kernel), List.mem_of_getElem? (i := 1333) (by decide +kernel)⟩
theorem lw_p57 : lw_okq (⟨"CountyPrintModel", "needsNumber", "(II)Z"⟩, 58) := ⟨⟨by decide +kernel, by decide +kernel⟩, List.mem_of_getElem? (i := 1067) (by decide +kernel), List.mem_of_getElem? (i := 1336) (by decide +kernel), List.mem_of_getElem? (i := 1337) (by decide +kernel)⟩
theorem lw_p58 : lw_okq (⟨"CountyPrintModel", "closes", "()Z"⟩, 58) := ⟨⟨by decide +kernel, by decide +kernel⟩, List.mem_of_getElem? (i := 1067) (by decide +kernel), List.mem_of_getElem? (i := 1343) (by decide +kernel), List.mem_of_getElem? (i := 1344) (by decide +kernel)⟩
theorem lw_p59 : lw_okq (⟨"CountyPrintModel", "isSign", "(I)Z"⟩, 58) := ⟨⟨by decide +kernel, by decide +kernel⟩, List.mem_of_getElem? (i := 1067) (by decide +kernel), List.mem_of_getElem? (i := 1347) (by decide +kernel), List.mem_of_getElem? (i := 1348) (by decide +kernel)⟩
theorem lw_p60 : lw_okq (⟨"CountyPrintModel", "readsNeeds", "()Z"⟩, 58) := ⟨⟨by decide +kernel, by decide +kernel⟩, List.mem_of_getElem? (i := 1067) (by decide +kernel), List.mem_of_getElem? (i := 1351) (by decide +kernel), List.mem_of_getElem? (i := 1352) (by decide +kernel)⟩
theorem lw_p61 : lw_okq (⟨"CountyPrintModel", "needsShot", "(I)Z"⟩, 58) := ⟨⟨by decide +kernel, by decide +kernel⟩, List.mem_of_getElem? (i := 1067) (by decide +kernel), List.mem_of_getElem? (i := 1355) (by decide +kernel), List.mem_of_getElem? (i := 1356) (by decide +kernel)⟩
theorem lw_p62 : lw_okq (⟨"CountyPrintModel", "readsHall", "()Z"⟩, 58) := ⟨⟨by decide +kernel, by decide +kernel⟩, List.mem_of_getElem? (i := 1067) (by decide +kernel), List.mem_of_getElem? (i := 1359) (by decide +kernel), List.mem_of_getElem? (i := 1360) (by decide +kernel)⟩
theorem lw_p63 : lw_okq (⟨"CountyPrintModel", "reads", "()Z"⟩, 58) := ⟨⟨by decide +kernel, by decide +kernel⟩, List.mem_of_getElem? (i := 1067) (by decide +kernel), List.mem_of_getElem? (i := 1363) (by decide +kernel), List.mem_of_getElem? (i := 1364) (by decide +kernel)⟩
def lw_privs_4 : List (MethodName × Nat) := [(⟨"CountyPrintModel", "signAt", "(I)I"⟩, 58), (⟨"CountyPrintModel", "isWord", "(J)Z"⟩, 58), (⟨"CountyPrintModel", "readsShot", "()Z"⟩, 58), (⟨"CountyPrintModel", "fails", "(I)Z"⟩, 58), (⟨"CountyPrintModel", "needsNew", "()Z"⟩, 58), (⟨"CountyPrintModel", "isKept", "()Z"⟩, 58), (⟨"CountyPrintModel", "shotNamed", "(I)I"⟩, 58), (⟨"CountyPrintModel", "hallNamed", "(I)I"⟩, 58), (⟨"CountyPrintModel", "needsWord", "(J)Z"⟩, 58), (⟨"CountyPrintModel", "needsNumber", "(II)Z"⟩, 58), (⟨"CountyPrintModel", "closes", "()Z"⟩, 58), (⟨"CountyPrintModel", "isSign", "(I)Z"⟩, 58), (⟨"CountyPrintModel", "readsNeeds", "()Z"⟩, 58), (⟨"CountyPrintModel", "needsShot", "(I)Z"⟩, 58), (⟨"CountyPrintModel", "readsHall", "()Z"⟩, 58), (⟨"CountyPrintModel", "reads", "()Z"⟩, 58)]
theorem lw_r4 : ∀ q ∈ lw_privs_4, lw_okq q := List.forall_mem_cons.mpr ⟨lw_p48, List.forall_mem_cons.mpr ⟨lw_p49, List.forall_mem_cons.mpr ⟨lw_p50, List.forall_mem_cons.mpr ⟨lw_p51, List.forall_mem_cons.mpr ⟨lw_p52, List.forall_mem_cons.mpr ⟨lw_p53, List.forall_mem_cons.mpr ⟨lw_p54, List.forall_mem_cons.mpr ⟨lw_p55, List.forall_mem_cons.mpr ⟨lw_p56, List.forall_mem_cons.mpr ⟨lw_p57, List.forall_mem_cons.mpr ⟨lw_p58, List.forall_mem_cons.mpr ⟨lw_p59, List.forall_mem_cons.mpr ⟨lw_p60, List.forall_mem_cons.mpr ⟨lw_p61, List.forall_mem_cons.mpr ⟨lw_p62, List.forall_mem_cons.mpr ⟨lw_p63, fun _ h => absurd h List.not_mem_nil⟩⟩⟩⟩⟩⟩⟩⟩⟩⟩⟩⟩⟩⟩⟩⟩
theorem lw_p64 : lw_okq (⟨"CountyPrintModel", "fact", "()I"⟩, 58) := ⟨⟨by decide +kernel, by decide +kernel⟩, List.mem_of_getElem? (i := 1067) (by decide +kernel), List.mem_of_getElem? (i := 1367) (by decide +kernel), List.mem_of_getElem? (i := 1368) (by decide +kernel)⟩
theorem lw_p65 : lw_okq (⟨"CountyPrintModel", "puts", "(I)V"⟩, 58) := ⟨⟨by decide +kernel, by decide +kernel⟩, List.mem_of_getElem? (i := 1067) (by decide +kernel), List.mem_of_getElem? (i := 1375) (by decide +kernel), List.mem_of_getElem? (i := 1376) (by decide +kernel)⟩
theorem lw_p66 : lw_okq (⟨"CountyPrintModel", "lays", "()V"⟩, 58) := ⟨⟨by decide +kernel, by decide +kernel⟩, List.mem_of_getElem? (i := 1067) (by decide +kernel), List.mem_of_getElem? (i := 1379) (by decide +kernel), List.mem_of_getElem? (i := 1380) (by decide +kernel)⟩
theorem lw_p67 : lw_okq (⟨"CountyPrintModel", "readsLine", "()Z"⟩, 58) := ⟨⟨by decide +kernel, by decide +kernel⟩, List.mem_of_getElem? (i := 1067) (by decide +kernel), List.mem_of_getElem? (i := 1393) (by decide +kernel), List.mem_of_getElem? (i := 1394) (by decide +kernel)⟩
theorem lw_p68 : lw_okq (⟨"CountyPrintModel", "needsHall", "()Z"⟩, 58) := ⟨⟨by decide +kernel, by decide +kernel⟩, List.mem_of_getElem? (i := 1067) (by decide +kernel), List.mem_of_getElem? (i := 1397) (by decide +kernel), List.mem_of_getElem? (i := 1398) (by decide +kernel)⟩
theorem lw_p69 : lw_okq (⟨"CountyPrintModel", "laysLines", "(II)V"⟩, 58) := ⟨⟨by decide +kernel, by decide +kernel⟩, List.mem_of_getElem? (i := 1067) (by decide +kernel), List.mem_of_getElem? (i := 1401) (by decide +kernel), List.mem_of_getElem? (i := 1402) (by decide +kernel)⟩
theorem lw_p70 : lw_okq (⟨"CountyPrintModel", "isShot", "(I)Z"⟩, 58) := ⟨⟨by decide +kernel, by decide +kernel⟩, List.mem_of_getElem? (i := 1067) (by decide +kernel), List.mem_of_getElem? (i := 1409) (by decide +kernel), List.mem_of_getElem? (i := 1410) (by decide +kernel)⟩
theorem lw_p71 : lw_okq (⟨"CountyPrintModel", "isHall", "(I)Z"⟩, 58) := ⟨⟨by decide +kernel, by decide +kernel⟩, List.mem_of_getElem? (i := 1067) (by decide +kernel), List.mem_of_getElem? (i := 1417) (by decide +kernel), List.mem_of_getElem? (i := 1418) (by decide +kernel)⟩
theorem lw_p72 : lw_okq (⟨"CountyPrintModel", "drawerOf", "(I)I"⟩, 58) := ⟨⟨by decide +kernel, by decide +kernel⟩, List.mem_of_getElem? (i := 1067) (by decide +kernel), List.mem_of_getElem? (i := 1421) (by decide +kernel), List.mem_of_getElem? (i := 1422) (by decide +kernel)⟩
theorem lw_p73 : lw_okq (⟨"CountyPrintModel", "placeOf", "(I)I"⟩, 58) := ⟨⟨by decide +kernel, by decide +kernel⟩, List.mem_of_getElem? (i := 1067) (by decide +kernel), List.mem_of_getElem? (i := 1425) (by decide +kernel), List.mem_of_getElem? (i := 1426) (by decide +kernel)⟩
theorem lw_p74 : lw_okq (⟨"CountyPrintModel", "takesOut", "(II)I"⟩, 58) := ⟨⟨by decide +kernel, by decide +kernel⟩, List.mem_of_getElem? (i := 1067) (by decide +kernel), List.mem_of_getElem? (i := 1429) (by decide +kernel), List.mem_of_getElem? (i := 1430) (by decide +kernel)⟩
theorem lw_p75 : lw_okq (⟨"CountyPrintModel", "hates", "(IIII)Z"⟩, 58) := ⟨⟨by decide +kernel, by decide +kernel⟩, List.mem_of_getElem? (i := 1067) (by decide +kernel), List.mem_of_getElem? (i := 1433) (by decide +kernel), List.mem_of_getElem? (i := 1434) (by decide +kernel)⟩
theorem lw_p76 : lw_okq (⟨"CountyPrintModel", "worked", "(I)I"⟩, 58) := ⟨⟨by decide +kernel, by decide +kernel⟩, List.mem_of_getElem? (i := 1067) (by decide +kernel), List.mem_of_getElem? (i := 1437) (by decide +kernel), List.mem_of_getElem? (i := 1438) (by decide +kernel)⟩
theorem lw_p77 : lw_okq (⟨"CountyPrintModel", "opens", "(I)V"⟩, 58) := ⟨⟨by decide +kernel, by decide +kernel⟩, List.mem_of_getElem? (i := 1067) (by decide +kernel), List.mem_of_getElem? (i := 1441) (by decide +kernel), List.mem_of_getElem? (i := 1442) (by decide +kernel)⟩
theorem lw_p78 : lw_okq (⟨"CountyPrintModel", "sums", "(I)V"⟩, 58) := ⟨⟨by decide +kernel, by decide +kernel⟩, List.mem_of_getElem? (i := 1067) (by decide +kernel), List.mem_of_getElem? (i := 1445) (by decide +kernel), List.mem_of_getElem? (i := 1446) (by decide +kernel)⟩
theorem lw_p79 : lw_okq (⟨"CountyPrintModel", "tests", "(I)V"⟩, 58) := ⟨⟨by decide +kernel, by decide +kernel⟩, List.mem_of_getElem? (i := 1067) (by decide +kernel), List.mem_of_getElem? (i := 1449) (by decide +kernel), List.mem_of_getElem? (i := 1450) (by decide +kernel)⟩
def lw_privs_5 : List (MethodName × Nat) := [(⟨"CountyPrintModel", "fact", "()I"⟩, 58), (⟨"CountyPrintModel", "puts", "(I)V"⟩, 58), (⟨"CountyPrintModel", "lays", "()V"⟩, 58), (⟨"CountyPrintModel", "readsLine", "()Z"⟩, 58), (⟨"CountyPrintModel", "needsHall", "()Z"⟩, 58), (⟨"CountyPrintModel", "laysLines", "(II)V"⟩, 58), (⟨"CountyPrintModel", "isShot", "(I)Z"⟩, 58), (⟨"CountyPrintModel", "isHall", "(I)Z"⟩, 58), (⟨"CountyPrintModel", "drawerOf", "(I)I"⟩, 58), (⟨"CountyPrintModel", "placeOf", "(I)I"⟩, 58), (⟨"CountyPrintModel", "takesOut", "(II)I"⟩, 58), (⟨"CountyPrintModel", "hates", "(IIII)Z"⟩, 58), (⟨"CountyPrintModel", "worked", "(I)I"⟩, 58), (⟨"CountyPrintModel", "opens", "(I)V"⟩, 58), (⟨"CountyPrintModel", "sums", "(I)V"⟩, 58), (⟨"CountyPrintModel", "tests", "(I)V"⟩, 58)]
theorem lw_r5 : ∀ q ∈ lw_privs_5, lw_okq q := List.forall_mem_cons.mpr ⟨lw_p64, List.forall_mem_cons.mpr ⟨lw_p65, List.forall_mem_cons.mpr ⟨lw_p66, List.forall_mem_cons.mpr ⟨lw_p67, List.forall_mem_cons.mpr ⟨lw_p68, List.forall_mem_cons.mpr ⟨lw_p69, List.forall_mem_cons.mpr ⟨lw_p70, List.forall_mem_cons.mpr ⟨lw_p71, List.forall_mem_cons.mpr ⟨lw_p72, List.forall_mem_cons.mpr ⟨lw_p73, List.forall_mem_cons.mpr ⟨lw_p74, List.forall_mem_cons.mpr ⟨lw_p75, List.forall_mem_cons.mpr ⟨lw_p76, List.forall_mem_cons.mpr ⟨lw_p77, List.forall_mem_cons.mpr ⟨lw_p78, List.forall_mem_cons.mpr ⟨lw_p79, fun _ h => absurd h List.not_mem_nil⟩⟩⟩⟩⟩⟩⟩⟩⟩⟩⟩⟩⟩⟩⟩⟩
theorem lw_p80 : lw_okq (⟨"CountyPrintModel", "keeps", "()V"⟩, 58) := ⟨⟨by decide +kernel, by decide +kernel⟩, List.mem_of_getElem? (i := 1067) (by decide +kernel), List.mem_of_getElem? (i := 1457) (by decide +kernel), List.mem_of_getElem? (i := 1458) (by decide +kernel)⟩
theorem lw_p81 : lw_okq (⟨"CountyPrintModel", "shows", "()V"⟩, 58) := ⟨⟨by decide +kernel, by decide +kernel⟩, List.mem_of_getElem? (i := 1067) (by decide +kernel), List.mem_of_getElem? (i := 1464) (by decide +kernel), List.mem_of_getElem? (i := 1465) (by decide +kernel)⟩
theorem lw_p82 : lw_okq (⟨"CountyPrintModel", "cuts", "(I)V"⟩, 58) := ⟨⟨by decide +kernel, by decide +kernel⟩, List.mem_of_getElem? (i := 1067) (by decide +kernel), List.mem_of_getElem? (i := 1468) (by decide +kernel), List.mem_of_getElem? (i := 1469) (by decide +kernel)⟩
theorem lw_p83 : lw_okq (⟨"CountyPrintModel", "minutesOf", "(I)I"⟩, 58) := ⟨⟨by decide +kernel, by decide +kernel⟩, List.mem_of_getElem? (i := 1067) (by decide +kernel), List.mem_of_getElem? (i := 1472) (by decide +kernel), List.mem_of_getElem? (i := 1473) (by decide +kernel)⟩
theorem lw_p84 : lw_okq (⟨"CountyPrintModel", "goesBack", "(I)V"⟩, 58) := ⟨⟨by decide +kernel, by decide +kernel⟩, List.mem_of_getElem? (i := 1067) (by decide +kernel), List.mem_of_getElem? (i := 1480) (by decide +kernel), List.mem_of_getElem? (i := 1481) (by decide +kernel)⟩
theorem lw_p85 : lw_okq (⟨"CountyPrintModel", "turns", "()V"⟩, 58) := ⟨⟨by decide +kernel, by decide +kernel⟩, List.mem_of_getElem? (i := 1067) (by decide +kernel), List.mem_of_getElem? (i := 1495) (by decide +kernel), List.mem_of_getElem? (i := 1496) (by decide +kernel)⟩
theorem lw_p86 : lw_okq (⟨"CountyPrintModel", "nextHall", "()I"⟩, 58) := ⟨⟨by decide +kernel, by decide +kernel⟩, List.mem_of_getElem? (i := 1067) (by decide +kernel), List.mem_of_getElem? (i := 1499) (by decide +kernel), List.mem_of_getElem? (i := 1500) (by decide +kernel)⟩
theorem lw_p87 : lw_okq (⟨"CountyPrintModel", "goes", "(I)Z"⟩, 58) := ⟨⟨by decide +kernel, by decide +kernel⟩, List.mem_of_getElem? (i := 1067) (by decide +kernel), List.mem_of_getElem? (i := 1511) (by decide +kernel), List.mem_of_getElem? (i := 1512) (by decide +kernel)⟩
theorem lw_p88 : lw_okq (⟨"CountyPrintModel", "makesSense", "(I)Z"⟩, 58) := ⟨⟨by decide +kernel, by decide +kernel⟩, List.mem_of_getElem? (i := 1067) (by decide +kernel), List.mem_of_getElem? (i := 1515) (by decide +kernel), List.mem_of_getElem? (i := 1516) (by decide +kernel)⟩
theorem lw_p89 : lw_okq (⟨"CountyPrintModel", "goesOn", "(I)V"⟩, 58) := ⟨⟨by decide +kernel, by decide +kernel⟩, List.mem_of_getElem? (i := 1067) (by decide +kernel), List.mem_of_getElem? (i := 1523) (by decide +kernel), List.mem_of_getElem? (i := 1524) (by decide +kernel)⟩
theorem lw_p90 : lw_okq (⟨"CountyPrintModel", "ofSort", "(II)I"⟩, 58) := ⟨⟨by decide +kernel, by decide +kernel⟩, List.mem_of_getElem? (i := 1067) (by decide +kernel), List.mem_of_getElem? (i := 1551) (by decide +kernel), List.mem_of_getElem? (i := 1552) (by decide +kernel)⟩
theorem lw_p91 : lw_okq (⟨"CountyPrintModel", "unlikeFrom", "(I)I"⟩, 58) := ⟨⟨by decide +kernel, by decide +kernel⟩, List.mem_of_getElem? (i := 1067) (by decide +kernel), List.mem_of_getElem? (i := 1559) (by decide +kernel), List.mem_of_getElem? (i := 1560) (by decide +kernel)⟩
theorem lw_p92 : lw_okq (⟨"CountyPrintModel", "orders", "(IIII)V"⟩, 58) := ⟨⟨by decide +kernel, by decide +kernel⟩, List.mem_of_getElem? (i := 1067) (by decide +kernel), List.mem_of_getElem? (i := 1576) (by decide +kernel), List.mem_of_getElem? (i := 1577) (by decide +kernel)⟩
theorem lw_p93 : lw_okq (⟨"CountyPrintModel", "otherFilm", "()I"⟩, 58) := ⟨⟨by decide +kernel, by decide +kernel⟩, List.mem_of_getElem? (i := 1067) (by decide +kernel), List.mem_of_getElem? (i := 1588) (by decide +kernel), List.mem_of_getElem? (i := 1589) (by decide +kernel)⟩
theorem lw_p94 : lw_okq (⟨"CountyPrintModel", "inDrawers", "()I"⟩, 58) := ⟨⟨by decide +kernel, by decide +kernel⟩, List.mem_of_getElem? (i := 1067) (by decide +kernel), List.mem_of_getElem? (i := 1592) (by decide +kernel), List.mem_of_getElem? (i := 1593) (by decide +kernel)⟩
theorem lw_p95 : lw_okq (⟨"CountyPrintModel", "hallsAsSeen", "()I"⟩, 58) := ⟨⟨by decide +kernel, by decide +kernel⟩, List.mem_of_getElem? (i := 1067) (by decide +kernel), List.mem_of_getElem? (i := 1620) (by decide +kernel), List.mem_of_getElem? (i := 1621) (by decide +kernel)⟩
def lw_privs_6 : List (MethodName × Nat) := [(⟨"CountyPrintModel", "keeps", "()V"⟩, 58), (⟨"CountyPrintModel", "shows", "()V"⟩, 58), (⟨"CountyPrintModel", "cuts", "(I)V"⟩, 58), (⟨"CountyPrintModel", "minutesOf", "(I)I"⟩, 58), (⟨"CountyPrintModel", "goesBack", "(I)V"⟩, 58), (⟨"CountyPrintModel", "turns", "()V"⟩, 58), (⟨"CountyPrintModel", "nextHall", "()I"⟩, 58), (⟨"CountyPrintModel", "goes", "(I)Z"⟩, 58), (⟨"CountyPrintModel", "makesSense", "(I)Z"⟩, 58), (⟨"CountyPrintModel", "goesOn", "(I)V"⟩, 58), (⟨"CountyPrintModel", "ofSort", "(II)I"⟩, 58), (⟨"CountyPrintModel", "unlikeFrom", "(I)I"⟩, 58), (⟨"CountyPrintModel", "orders", "(IIII)V"⟩, 58), (⟨"CountyPrintModel", "otherFilm", "()I"⟩, 58), (⟨"CountyPrintModel", "inDrawers", "()I"⟩, 58), (⟨"CountyPrintModel", "hallsAsSeen", "()I"⟩, 58)]
theorem lw_r6 : ∀ q ∈ lw_privs_6, lw_okq q := List.forall_mem_cons.mpr ⟨lw_p80, List.forall_mem_cons.mpr ⟨lw_p81, List.forall_mem_cons.mpr ⟨lw_p82, List.forall_mem_cons.mpr ⟨lw_p83, List.forall_mem_cons.mpr ⟨lw_p84, List.forall_mem_cons.mpr ⟨lw_p85, List.forall_mem_cons.mpr ⟨lw_p86, List.forall_mem_cons.mpr ⟨lw_p87, List.forall_mem_cons.mpr ⟨lw_p88, List.forall_mem_cons.mpr ⟨lw_p89, List.forall_mem_cons.mpr ⟨lw_p90, List.forall_mem_cons.mpr ⟨lw_p91, List.forall_mem_cons.mpr ⟨lw_p92, List.forall_mem_cons.mpr ⟨lw_p93, List.forall_mem_cons.mpr ⟨lw_p94, List.forall_mem_cons.mpr ⟨lw_p95, fun _ h => absurd h List.not_mem_nil⟩⟩⟩⟩⟩⟩⟩⟩⟩⟩⟩⟩⟩⟩⟩⟩
theorem lw_p96 : lw_okq (⟨"CountyPrintModel", "draws", "(I)I"⟩, 58) := ⟨⟨by decide +kernel, by decide +kernel⟩, List.mem_of_getElem? (i := 1067) (by decide +kernel), List.mem_of_getElem? (i := 1643) (by decide +kernel), List.mem_of_getElem? (i := 1644) (by decide +kernel)⟩
theorem lw_p97 : lw_okq (⟨"CountyPrintModel", "givesSome", "()V"⟩, 58) := ⟨⟨by decide +kernel, by decide +kernel⟩, List.mem_of_getElem? (i := 1067) (by decide +kernel), List.mem_of_getElem? (i := 1651) (by decide +kernel), List.mem_of_getElem? (i := 1652) (by decide +kernel)⟩
theorem lw_p98 : lw_okq (⟨"CountyPrintModel", "nth", "(II)I"⟩, 58) := ⟨⟨by decide +kernel, by decide +kernel⟩, List.mem_of_getElem? (i := 1067) (by decide +kernel), List.mem_of_getElem? (i := 1655) (by decide +kernel), List.mem_of_getElem? (i := 1656) (by decide +kernel)⟩
theorem lw_p99 : lw_okq (⟨"CountyPrintModel", "laysSeen", "(II)V"⟩, 58) := ⟨⟨by decide +kernel, by decide +kernel⟩, List.mem_of_getElem? (i := 1067) (by decide +kernel), List.mem_of_getElem? (i := 1663) (by decide +kernel), List.mem_of_getElem? (i := 1664) (by decide +kernel)⟩
def lw_privs_7 : List (MethodName × Nat) := [(⟨"CountyPrintModel", "draws", "(I)I"⟩, 58), (⟨"CountyPrintModel", "givesSome", "()V"⟩, 58), (⟨"CountyPrintModel", "nth", "(II)I"⟩, 58), (⟨"CountyPrintModel", "laysSeen", "(II)V"⟩, 58)]
theorem lw_r7 : ∀ q ∈ lw_privs_7, lw_okq q := List.forall_mem_cons.mpr ⟨lw_p96, List.forall_mem_cons.mpr ⟨lw_p97, List.forall_mem_cons.mpr ⟨lw_p98, List.forall_mem_cons.mpr ⟨lw_p99, fun _ h => absurd h List.not_mem_nil⟩⟩⟩⟩
def lw_privs : List (MethodName × Nat) := lw_privs_1 ++ (lw_privs_2 ++ (lw_privs_3 ++ (lw_privs_4 ++ (lw_privs_5 ++ (lw_privs_6 ++ (lw_privs_7))))))
def lw_tbl : List Cond := k2_sels lw_privs ++ tables_1
theorem lw_privs_ok : ∀ q ∈ lw_privs, lw_okq q := by
  show ∀ q ∈ lw_privs_1 ++ (lw_privs_2 ++ (lw_privs_3 ++ (lw_privs_4 ++ (lw_privs_5 ++ (lw_privs_6 ++ (lw_privs_7)))))), lw_okq q
  exact List.forall_mem_append.mpr ⟨lw_r1, List.forall_mem_append.mpr ⟨lw_r2, List.forall_mem_append.mpr ⟨lw_r3, List.forall_mem_append.mpr ⟨lw_r4, List.forall_mem_append.mpr ⟨lw_r5, List.forall_mem_append.mpr ⟨lw_r6, lw_r7⟩⟩⟩⟩⟩⟩

def RX0 : String := "CountyPrint$County"
def TX0 : u_T := fun k => match k with
  | 0 => ("CountyPrint$County", "shotCount", "I", false)
  | 1 => ("CountyPrint$County", "shotNames", "[J", true)
  | 2 => ("CountyPrint$County", "sorts", "[I", true)
  | 3 => ("CountyPrint$County", "lengths", "[I", true)
  | 4 => ("CountyPrint$County", "needs", "[I", true)
  | 5 => ("CountyPrint$County", "hallCount", "I", false)
  | 6 => ("CountyPrint$County", "hallNames", "[J", true)
  | 7 => ("CountyPrint$County", "kinds", "[I", true)
  | 8 => ("CountyPrint$County", "laws", "LCountyPrint$Laws;", true)
  | _ => ("CountyPrint$County", "verdicts", "[I", true)
def tyX0 : Nat → FieldType := fun k => match k with
  | 0 => .int
  | 1 => .array .long
  | 2 => .array .int
  | 3 => .array .int
  | 4 => .array .int
  | 5 => .int
  | 6 => .array .long
  | 7 => .array .int
  | 8 => .object "CountyPrint$Laws"
  | _ => .array .int
abbrev wsX00 : List Cond := u_ws RX0 TX0 10
theorem nmX0 : ∀ a, a < 10 → ∀ b, b < 10 → a ≠ b → (TX0 a).2.1 ≠ (TX0 b).2.1 := by decide +kernel
theorem tyX0_ok : ∀ k, k < 10 → parseFieldDescriptor (TX0 k).2.2.1 = some (tyX0 k) := by decide +kernel
abbrev cX0_init : ByteArray := prog_2_method_1_code
def yX0_init : MethodName := ⟨RX0, "<init>", "()V"⟩
abbrev cX0_clear : ByteArray := prog_2_method_2_code
def yX0_clear : MethodName := ⟨RX0, "clear", "()V"⟩
abbrev cX0_addShot : ByteArray := prog_2_method_3_code
def yX0_addShot : MethodName := ⟨RX0, "addShot", "(JII)V"⟩
abbrev cX0_addNeed : ByteArray := prog_2_method_4_code
def yX0_addNeed : MethodName := ⟨RX0, "addNeed", "(II)V"⟩
abbrev cX0_addHall : ByteArray := prog_2_method_5_code
def yX0_addHall : MethodName := ⟨RX0, "addHall", "(JI)V"⟩
abbrev cX0_isShot : ByteArray := prog_2_method_6_code
def yX0_isShot : MethodName := ⟨RX0, "isShot", "(I)Z"⟩
abbrev cX0_isHall : ByteArray := prog_2_method_7_code
def yX0_isHall : MethodName := ⟨RX0, "isHall", "(I)Z"⟩
abbrev cX0_isNeeded : ByteArray := prog_2_method_8_code
def yX0_isNeeded : MethodName := ⟨RX0, "isNeeded", "(II)Z"⟩
abbrev cX0_shotNamed : ByteArray := prog_2_method_9_code
def yX0_shotNamed : MethodName := ⟨RX0, "shotNamed", "(J)I"⟩
abbrev cX0_hallNamed : ByteArray := prog_2_method_10_code
def yX0_hallNamed : MethodName := ⟨RX0, "hallNamed", "(J)I"⟩
abbrev cX0_film : ByteArray := prog_2_method_11_code
def yX0_film : MethodName := ⟨RX0, "film", "()I"⟩
abbrev cX0_minutesOf : ByteArray := prog_2_method_12_code
def yX0_minutesOf : MethodName := ⟨RX0, "minutesOf", "(I)I"⟩
abbrev cX0_isLonger : ByteArray := prog_2_method_13_code
def yX0_isLonger : MethodName := ⟨RX0, "isLonger", "(II)Z"⟩
abbrev cX0_shotAt : ByteArray := prog_2_method_14_code
def yX0_shotAt : MethodName := ⟨RX0, "shotAt", "(II)I"⟩
abbrev cX0_makesSense : ByteArray := prog_2_method_15_code
def yX0_makesSense : MethodName := ⟨RX0, "makesSense", "(I)Z"⟩
abbrev cX0_allNeeds : ByteArray := prog_2_method_16_code
def yX0_allNeeds : MethodName := ⟨RX0, "allNeeds", "(I)I"⟩
abbrev cX0_shotsOfSort : ByteArray := prog_2_method_17_code
def yX0_shotsOfSort : MethodName := ⟨RX0, "shotsOfSort", "(I)I"⟩
abbrev cX0_unlikeFrom : ByteArray := prog_2_method_18_code
def yX0_unlikeFrom : MethodName := ⟨RX0, "unlikeFrom", "(II)I"⟩
abbrev cX0_takenOut : ByteArray := prog_2_method_19_code
def yX0_takenOut : MethodName := ⟨RX0, "takenOut", "(II)I"⟩
abbrev cX0_hatedIn : ByteArray := prog_2_method_20_code
def yX0_hatedIn : MethodName := ⟨RX0, "hatedIn", "(II)I"⟩
abbrev cX0_judgeAll : ByteArray := prog_2_method_21_code
def yX0_judgeAll : MethodName := ⟨RX0, "judgeAll", "()V"⟩
abbrev cX0_judge : ByteArray := prog_2_method_22_code
def yX0_judge : MethodName := ⟨RX0, "judge", "(IIII)V"⟩
abbrev cX0_keyOf : ByteArray := prog_2_method_23_code
def yX0_keyOf : MethodName := ⟨RX0, "keyOf", "(III)I"⟩
abbrev cX0_lastOf : ByteArray := prog_2_method_24_code
def yX0_lastOf : MethodName := ⟨RX0, "lastOf", "(I)I"⟩
abbrev cX0_behind : ByteArray := prog_2_method_25_code
def yX0_behind : MethodName := ⟨RX0, "behind", "(II)I"⟩
def RX1 : String := "CountyPrint$Draws"
def TX1 : u_T := fun k => match k with
  | _ => ("CountyPrint$Draws", "state", "J", false)
def tyX1 : Nat → FieldType := fun k => match k with
  | _ => .long
abbrev wsX10 : List Cond := u_ws RX1 TX1 1
theorem nmX1 : ∀ a, a < 1 → ∀ b, b < 1 → a ≠ b → (TX1 a).2.1 ≠ (TX1 b).2.1 := by decide +kernel
theorem tyX1_ok : ∀ k, k < 1 → parseFieldDescriptor (TX1 k).2.2.1 = some (tyX1 k) := by decide +kernel
abbrev cX1_init : ByteArray := prog_3_method_1_code
def yX1_init : MethodName := ⟨RX1, "<init>", "()V"⟩
abbrev cX1_begin : ByteArray := prog_3_method_2_code
def yX1_begin : MethodName := ⟨RX1, "begin", "(I)V"⟩
abbrev cX1_below : ByteArray := prog_3_method_3_code
def yX1_below : MethodName := ⟨RX1, "below", "(I)I"⟩
def RX2 : String := "CountyPrint$Laws"
def TX2 : u_T := fun k => match k with
  | 0 => ("CountyPrint$Laws", "code", "[I", true)
  | 1 => ("CountyPrint$Laws", "size", "I", false)
  | 2 => ("CountyPrint$Laws", "ends", "[I", true)
  | _ => ("CountyPrint$Laws", "stack", "[I", true)
def tyX2 : Nat → FieldType := fun k => match k with
  | 0 => .array .int
  | 1 => .int
  | 2 => .array .int
  | _ => .array .int
abbrev wsX20 : List Cond := u_ws RX2 TX2 4
theorem nmX2 : ∀ a, a < 4 → ∀ b, b < 4 → a ≠ b → (TX2 a).2.1 ≠ (TX2 b).2.1 := by decide +kernel
theorem tyX2_ok : ∀ k, k < 4 → parseFieldDescriptor (TX2 k).2.2.1 = some (tyX2 k) := by decide +kernel
abbrev cX2_init : ByteArray := prog_4_method_1_code
def yX2_init : MethodName := ⟨RX2, "<init>", "()V"⟩
abbrev cX2_add : ByteArray := prog_4_method_2_code
def yX2_add : MethodName := ⟨RX2, "add", "(I)V"⟩
abbrev cX2_valueFor : ByteArray := prog_4_method_3_code
def yX2_valueFor : MethodName := ⟨RX2, "valueFor", "(IIIII)I"⟩
abbrev cX2_join : ByteArray := prog_4_method_4_code
def yX2_join : MethodName := ⟨RX2, "join", "(III)I"⟩
def RX3 : String := "CountyPrint$Mark"
def TX3 : u_T := fun k => match k with
  | 0 => ("CountyPrint$Mark", "isLaid", "Z", false)
  | 1 => ("CountyPrint$Mark", "travel", "LCountyPrint$Travel;", true)
  | 2 => ("CountyPrint$Mark", "plan", "LCountyPrint$Plan;", true)
  | _ => ("CountyPrint$Mark", "sightings", "LCountyPrint$Sightings;", true)
def tyX3 : Nat → FieldType := fun k => match k with
  | 0 => .boolean
  | 1 => .object "CountyPrint$Travel"
  | 2 => .object "CountyPrint$Plan"
  | _ => .object "CountyPrint$Sightings"
abbrev wsX30 : List Cond := u_ws RX3 TX3 4
theorem nmX3 : ∀ a, a < 4 → ∀ b, b < 4 → a ≠ b → (TX3 a).2.1 ≠ (TX3 b).2.1 := by decide +kernel
theorem tyX3_ok : ∀ k, k < 4 → parseFieldDescriptor (TX3 k).2.2.1 = some (tyX3 k) := by decide +kernel
abbrev cX3_init : ByteArray := prog_5_method_1_code
def yX3_init : MethodName := ⟨RX3, "<init>", "()V"⟩
abbrev cX3_lay : ByteArray := prog_5_method_2_code
def yX3_lay : MethodName := ⟨RX3, "lay", "(LCountyPrint$Travel;LCountyPrint$Plan;LCountyPrint$Sightings;)V"⟩
abbrev cX3_goBack : ByteArray := prog_5_method_3_code
def yX3_goBack : MethodName := ⟨RX3, "goBack", "(LCountyPrint$Travel;LCountyPrint$Plan;LCountyPrint$Sightings;)V"⟩
def RX4 : String := "CountyPrint$Past"
def TX4 : u_T := fun k => match k with
  | 0 => ("CountyPrint$Past", "kept", "[LCountyPrint$Travel;", true)
  | 1 => ("CountyPrint$Past", "top", "I", false)
  | _ => ("CountyPrint$Past", "size", "I", false)
def tyX4 : Nat → FieldType := fun k => match k with
  | 0 => .array (.object "CountyPrint$Travel")
  | 1 => .int
  | _ => .int
abbrev wsX40 : List Cond := u_ws RX4 TX4 3
theorem nmX4 : ∀ a, a < 3 → ∀ b, b < 3 → a ≠ b → (TX4 a).2.1 ≠ (TX4 b).2.1 := by decide +kernel
theorem tyX4_ok : ∀ k, k < 3 → parseFieldDescriptor (TX4 k).2.2.1 = some (tyX4 k) := by decide +kernel
abbrev cX4_init : ByteArray := prog_6_method_1_code
def yX4_init : MethodName := ⟨RX4, "<init>", "()V"⟩
abbrev cX4_keep : ByteArray := prog_6_method_2_code
def yX4_keep : MethodName := ⟨RX4, "keep", "(LCountyPrint$Travel;)V"⟩
abbrev cX4_takeBack : ByteArray := prog_6_method_3_code
def yX4_takeBack : MethodName := ⟨RX4, "takeBack", "(LCountyPrint$Travel;)Z"⟩
abbrev cX4_forget : ByteArray := prog_6_method_4_code
def yX4_forget : MethodName := ⟨RX4, "forget", "()V"⟩
def RX5 : String := "CountyPrint$Plan"
def TX5 : u_T := fun k => match k with
  | 0 => ("CountyPrint$Plan", "lines", "I", false)
  | 1 => ("CountyPrint$Plan", "deeds", "[I", true)
  | 2 => ("CountyPrint$Plan", "givers", "[I", true)
  | 3 => ("CountyPrint$Plan", "takers", "[I", true)
  | _ => ("CountyPrint$Plan", "shots", "[I", true)
def tyX5 : Nat → FieldType := fun k => match k with
  | 0 => .int
  | 1 => .array .int
  | 2 => .array .int
  | 3 => .array .int
  | _ => .array .int
abbrev wsX50 : List Cond := u_ws RX5 TX5 5
theorem nmX5 : ∀ a, a < 5 → ∀ b, b < 5 → a ≠ b → (TX5 a).2.1 ≠ (TX5 b).2.1 := by decide +kernel
theorem tyX5_ok : ∀ k, k < 5 → parseFieldDescriptor (TX5 k).2.2.1 = some (tyX5 k) := by decide +kernel
abbrev cX5_init : ByteArray := prog_7_method_1_code
def yX5_init : MethodName := ⟨RX5, "<init>", "()V"⟩
abbrev cX5_clear : ByteArray := prog_7_method_2_code
def yX5_clear : MethodName := ⟨RX5, "clear", "()V"⟩
abbrev cX5_add : ByteArray := prog_7_method_3_code
def yX5_add : MethodName := ⟨RX5, "add", "(IIII)V"⟩
abbrev cX5_copy : ByteArray := prog_7_method_4_code
def yX5_copy : MethodName := ⟨RX5, "copy", "(LCountyPrint$Plan;)V"⟩
abbrev cX5_isPossible : ByteArray := prog_7_method_5_code
def yX5_isPossible : MethodName := ⟨RX5, "isPossible", "(ILCountyPrint$County;LCountyPrint$Travel;)Z"⟩
abbrev cX5_follow : ByteArray := prog_7_method_6_code
def yX5_follow : MethodName := ⟨RX5, "follow", "(ILCountyPrint$County;LCountyPrint$Travel;)V"⟩
def RX6 : String := "CountyPrint$Ranking"
def TX6 : u_T := fun k => match k with
  | 0 => ("CountyPrint$Ranking", "path", "[I", true)
  | 1 => ("CountyPrint$Ranking", "best", "[I", true)
  | _ => ("CountyPrint$Ranking", "most", "I", false)
def tyX6 : Nat → FieldType := fun k => match k with
  | 0 => .array .int
  | 1 => .array .int
  | _ => .int
abbrev wsX60 : List Cond := u_ws RX6 TX6 3
theorem nmX6 : ∀ a, a < 3 → ∀ b, b < 3 → a ≠ b → (TX6 a).2.1 ≠ (TX6 b).2.1 := by decide +kernel
theorem tyX6_ok : ∀ k, k < 3 → parseFieldDescriptor (TX6 k).2.2.1 = some (tyX6 k) := by decide +kernel
abbrev cX6_init : ByteArray := prog_8_method_1_code
def yX6_init : MethodName := ⟨RX6, "<init>", "()V"⟩
abbrev cX6_find : ByteArray := prog_8_method_2_code
def yX6_find : MethodName := ⟨RX6, "find", "(LCountyPrint$County;II)V"⟩
abbrev cX6_search : ByteArray := prog_8_method_3_code
def yX6_search : MethodName := ⟨RX6, "search", "(LCountyPrint$County;IIII)V"⟩
abbrev cX6_keepPath : ByteArray := prog_8_method_4_code
def yX6_keepPath : MethodName := ⟨RX6, "keepPath", "()V"⟩
def RX7 : String := "CountyPrint$Reader"
def TX7 : u_T := fun k => match k with
  | 0 => ("CountyPrint$Reader", "tape", "LCountyPrint$Tape;", true)
  | 1 => ("CountyPrint$Reader", "land", "LCountyPrint$County;", false)
  | _ => ("CountyPrint$Reader", "fault", "I", false)
def tyX7 : Nat → FieldType := fun k => match k with
  | 0 => .object "CountyPrint$Tape"
  | 1 => .object "CountyPrint$County"
  | _ => .int
abbrev wsX70 : List Cond := u_ws RX7 TX7 3
theorem nmX7 : ∀ a, a < 3 → ∀ b, b < 3 → a ≠ b → (TX7 a).2.1 ≠ (TX7 b).2.1 := by decide +kernel
theorem tyX7_ok : ∀ k, k < 3 → parseFieldDescriptor (TX7 k).2.2.1 = some (tyX7 k) := by decide +kernel
abbrev cX7_init : ByteArray := prog_9_method_1_code
def yX7_init : MethodName := ⟨RX7, "<init>", "(LCountyPrint$Tape;LCountyPrint$County;)V"⟩
abbrev cX7_readCounty : ByteArray := prog_9_method_2_code
def yX7_readCounty : MethodName := ⟨RX7, "readCounty", "(LCountyPrint$County;)I"⟩
abbrev cX7_readPlan : ByteArray := prog_9_method_3_code
def yX7_readPlan : MethodName := ⟨RX7, "readPlan", "(LCountyPrint$County;LCountyPrint$Plan;)I"⟩
abbrev cX7_begin : ByteArray := prog_9_method_4_code
def yX7_begin : MethodName := ⟨RX7, "begin", "(LCountyPrint$County;)V"⟩
abbrev cX7_fail : ByteArray := prog_9_method_5_code
def yX7_fail : MethodName := ⟨RX7, "fail", "(I)Z"⟩
abbrev cX7_readShot : ByteArray := prog_9_method_6_code
def yX7_readShot : MethodName := ⟨RX7, "readShot", "()Z"⟩
abbrev cX7_readNeeds : ByteArray := prog_9_method_7_code
def yX7_readNeeds : MethodName := ⟨RX7, "readNeeds", "()Z"⟩
abbrev cX7_readHall : ByteArray := prog_9_method_8_code
def yX7_readHall : MethodName := ⟨RX7, "readHall", "()Z"⟩
abbrev cX7_readPlanLine : ByteArray := prog_9_method_9_code
def yX7_readPlanLine : MethodName := ⟨RX7, "readPlanLine", "(LCountyPrint$Plan;)Z"⟩
abbrev cX7_readBare : ByteArray := prog_9_method_10_code
def yX7_readBare : MethodName := ⟨RX7, "readBare", "(LCountyPrint$Plan;I)Z"⟩
abbrev cX7_readHandling : ByteArray := prog_9_method_11_code
def yX7_readHandling : MethodName := ⟨RX7, "readHandling", "(LCountyPrint$Plan;I)Z"⟩
abbrev cX7_isName : ByteArray := prog_9_method_12_code
def yX7_isName : MethodName := ⟨RX7, "isName", "()Z"⟩
abbrev cX7_takeNewName : ByteArray := prog_9_method_13_code
def yX7_takeNewName : MethodName := ⟨RX7, "takeNewName", "()Z"⟩
abbrev cX7_takeTold : ByteArray := prog_9_method_14_code
def yX7_takeTold : MethodName := ⟨RX7, "takeTold", "(I)Z"⟩
abbrev cX7_takeKeyword : ByteArray := prog_9_method_15_code
def yX7_takeKeyword : MethodName := ⟨RX7, "takeKeyword", "(I)Z"⟩
abbrev cX7_takeNumber : ByteArray := prog_9_method_16_code
def yX7_takeNumber : MethodName := ⟨RX7, "takeNumber", "(II)Z"⟩
abbrev cX7_takeSemicolon : ByteArray := prog_9_method_17_code
def yX7_takeSemicolon : MethodName := ⟨RX7, "takeSemicolon", "()Z"⟩
abbrev cX7_readExpression : ByteArray := prog_9_method_18_code
def yX7_readExpression : MethodName := ⟨RX7, "readExpression", "(I)Z"⟩
abbrev cX7_readTest : ByteArray := prog_9_method_19_code
def yX7_readTest : MethodName := ⟨RX7, "readTest", "(I)Z"⟩
abbrev cX7_readSum : ByteArray := prog_9_method_20_code
def yX7_readSum : MethodName := ⟨RX7, "readSum", "(I)Z"⟩
abbrev cX7_readProduct : ByteArray := prog_9_method_21_code
def yX7_readProduct : MethodName := ⟨RX7, "readProduct", "(I)Z"⟩
abbrev cX7_readPart : ByteArray := prog_9_method_22_code
def yX7_readPart : MethodName := ⟨RX7, "readPart", "(I)Z"⟩
abbrev cX7_readBracketed : ByteArray := prog_9_method_23_code
def yX7_readBracketed : MethodName := ⟨RX7, "readBracketed", "(I)Z"⟩
abbrev cX7_readNegated : ByteArray := prog_9_method_24_code
def yX7_readNegated : MethodName := ⟨RX7, "readNegated", "(I)Z"⟩
def RX8 : String := "CountyPrint$Sightings"
def TX8 : u_T := fun k => match k with
  | 0 => ("CountyPrint$Sightings", "shots", "[I", true)
  | 1 => ("CountyPrint$Sightings", "isShown", "[Z", true)
  | _ => ("CountyPrint$Sightings", "size", "I", false)
def tyX8 : Nat → FieldType := fun k => match k with
  | 0 => .array .int
  | 1 => .array .boolean
  | _ => .int
abbrev wsX80 : List Cond := u_ws RX8 TX8 3
theorem nmX8 : ∀ a, a < 3 → ∀ b, b < 3 → a ≠ b → (TX8 a).2.1 ≠ (TX8 b).2.1 := by decide +kernel
theorem tyX8_ok : ∀ k, k < 3 → parseFieldDescriptor (TX8 k).2.2.1 = some (tyX8 k) := by decide +kernel
abbrev cX8_init : ByteArray := prog_10_method_1_code
def yX8_init : MethodName := ⟨RX8, "<init>", "()V"⟩
abbrev cX8_add : ByteArray := prog_10_method_2_code
def yX8_add : MethodName := ⟨RX8, "add", "(IZ)Z"⟩
abbrev cX8_copy : ByteArray := prog_10_method_3_code
def yX8_copy : MethodName := ⟨RX8, "copy", "(LCountyPrint$Sightings;)V"⟩
abbrev cX8_fit : ByteArray := prog_10_method_4_code
def yX8_fit : MethodName := ⟨RX8, "fit", "(I)Z"⟩
def RX9 : String := "CountyPrint$Tape"
def TX9 : u_T := fun k => match k with
  | 0 => ("CountyPrint$Tape", "words", "[J", true)
  | 1 => ("CountyPrint$Tape", "signs", "[C", true)
  | 2 => ("CountyPrint$Tape", "size", "I", false)
  | 3 => ("CountyPrint$Tape", "at", "I", false)
  | 4 => ("CountyPrint$Tape", "end", "I", false)
  | 5 => ("CountyPrint$Tape", "type", "I", false)
  | 6 => ("CountyPrint$Tape", "word", "J", false)
  | 7 => ("CountyPrint$Tape", "keyword", "I", false)
  | 8 => ("CountyPrint$Tape", "number", "I", false)
  | _ => ("CountyPrint$Tape", "sign", "C", false)
def tyX9 : Nat → FieldType := fun k => match k with
  | 0 => .array .long
  | 1 => .array .char
  | 2 => .int
  | 3 => .int
  | 4 => .int
  | 5 => .int
  | 6 => .long
  | 7 => .int
  | 8 => .int
  | _ => .char
abbrev wsX90 : List Cond := u_ws RX9 TX9 10
theorem nmX9 : ∀ a, a < 10 → ∀ b, b < 10 → a ≠ b → (TX9 a).2.1 ≠ (TX9 b).2.1 := by decide +kernel
theorem tyX9_ok : ∀ k, k < 10 → parseFieldDescriptor (TX9 k).2.2.1 = some (tyX9 k) := by decide +kernel
abbrev cX9_init : ByteArray := prog_11_method_1_code
def yX9_init : MethodName := ⟨RX9, "<init>", "()V"⟩
abbrev cX9_addBytes : ByteArray := prog_11_method_2_code
def yX9_addBytes : MethodName := ⟨RX9, "addBytes", "(J)V"⟩
abbrev cX9_start : ByteArray := prog_11_method_3_code
def yX9_start : MethodName := ⟨RX9, "start", "()V"⟩
abbrev cX9_advance : ByteArray := prog_11_method_4_code
def yX9_advance : MethodName := ⟨RX9, "advance", "()V"⟩
abbrev cX9_takeWord : ByteArray := prog_11_method_5_code
def yX9_takeWord : MethodName := ⟨RX9, "takeWord", "()V"⟩
abbrev cX9_takeNumber : ByteArray := prog_11_method_6_code
def yX9_takeNumber : MethodName := ⟨RX9, "takeNumber", "()V"⟩
abbrev cX9_takeSign : ByteArray := prog_11_method_7_code
def yX9_takeSign : MethodName := ⟨RX9, "takeSign", "()V"⟩
abbrev cX9_isSign : ByteArray := prog_11_method_8_code
def yX9_isSign : MethodName := ⟨RX9, "isSign", "(C)Z"⟩
abbrev cX9_isLetter : ByteArray := prog_11_method_9_code
def yX9_isLetter : MethodName := ⟨RX9, "isLetter", "(C)Z"⟩
abbrev cX9_isDigit : ByteArray := prog_11_method_10_code
def yX9_isDigit : MethodName := ⟨RX9, "isDigit", "(C)Z"⟩
def RX10 : String := "CountyPrint$Travel"
def TX10 : u_T := fun k => match k with
  | 0 => ("CountyPrint$Travel", "print", "I", false)
  | 1 => ("CountyPrint$Travel", "drawers", "[I", true)
  | 2 => ("CountyPrint$Travel", "isTurned", "Z", false)
  | 3 => ("CountyPrint$Travel", "next", "I", false)
  | _ => ("CountyPrint$Travel", "toursOver", "I", false)
def tyX10 : Nat → FieldType := fun k => match k with
  | 0 => .int
  | 1 => .array .int
  | 2 => .boolean
  | 3 => .int
  | _ => .int
abbrev wsX100 : List Cond := u_ws RX10 TX10 5
theorem nmX10 : ∀ a, a < 5 → ∀ b, b < 5 → a ≠ b → (TX10 a).2.1 ≠ (TX10 b).2.1 := by decide +kernel
theorem tyX10_ok : ∀ k, k < 5 → parseFieldDescriptor (TX10 k).2.2.1 = some (tyX10 k) := by decide +kernel
abbrev cX10_init : ByteArray := prog_12_method_1_code
def yX10_init : MethodName := ⟨RX10, "<init>", "()V"⟩
abbrev cX10_begin : ByteArray := prog_12_method_2_code
def yX10_begin : MethodName := ⟨RX10, "begin", "(I)V"⟩
abbrev cX10_copy : ByteArray := prog_12_method_3_code
def yX10_copy : MethodName := ⟨RX10, "copy", "(LCountyPrint$Travel;)V"⟩
abbrev cX10_swapPlace : ByteArray := prog_12_method_4_code
def yX10_swapPlace : MethodName := ⟨RX10, "swapPlace", "(LCountyPrint$County;I)I"⟩
abbrev cX10_drawn : ByteArray := prog_12_method_5_code
def yX10_drawn : MethodName := ⟨RX10, "drawn", "()I"⟩
abbrev cX10_holds : ByteArray := prog_12_method_6_code
def yX10_holds : MethodName := ⟨RX10, "holds", "(II)Z"⟩
abbrev cX10_holderOf : ByteArray := prog_12_method_7_code
def yX10_holderOf : MethodName := ⟨RX10, "holderOf", "(I)I"⟩
abbrev cX10_showAt : ByteArray := prog_12_method_8_code
def yX10_showAt : MethodName := ⟨RX10, "showAt", "(LCountyPrint$County;I)V"⟩
abbrev cX10_showNext : ByteArray := prog_12_method_9_code
def yX10_showNext : MethodName := ⟨RX10, "showNext", "(LCountyPrint$County;)I"⟩
abbrev cX10_giveBack : ByteArray := prog_12_method_10_code
def yX10_giveBack : MethodName := ⟨RX10, "giveBack", "(II)V"⟩
abbrev cX10_handOver : ByteArray := prog_12_method_11_code
def yX10_handOver : MethodName := ⟨RX10, "handOver", "(III)V"⟩
abbrev cX10_turnRound : ByteArray := prog_12_method_12_code
def yX10_turnRound : MethodName := ⟨RX10, "turnRound", "()V"⟩
def RX11 : String := "CountyPrint"
def TX11 : u_T := fun k => match k with
  | 0 => ("CountyPrint", "tape", "LCountyPrint$Tape;", true)
  | 1 => ("CountyPrint", "reader", "LCountyPrint$Reader;", true)
  | 2 => ("CountyPrint", "land", "LCountyPrint$County;", false)
  | 3 => ("CountyPrint", "landDraft", "LCountyPrint$County;", false)
  | 4 => ("CountyPrint", "plan", "LCountyPrint$Plan;", false)
  | 5 => ("CountyPrint", "planDraft", "LCountyPrint$Plan;", false)
  | 6 => ("CountyPrint", "now", "LCountyPrint$Travel;", true)
  | 7 => ("CountyPrint", "trial", "LCountyPrint$Travel;", true)
  | 8 => ("CountyPrint", "past", "LCountyPrint$Past;", true)
  | 9 => ("CountyPrint", "sightings", "LCountyPrint$Sightings;", true)
  | 10 => ("CountyPrint", "marks", "[LCountyPrint$Mark;", true)
  | 11 => ("CountyPrint", "ranking", "LCountyPrint$Ranking;", true)
  | 12 => ("CountyPrint", "draws", "LCountyPrint$Draws;", true)
  | _ => ("CountyPrint", "rows", "[I", true)
def tyX11 : Nat → FieldType := fun k => match k with
  | 0 => .object "CountyPrint$Tape"
  | 1 => .object "CountyPrint$Reader"
  | 2 => .object "CountyPrint$County"
  | 3 => .object "CountyPrint$County"
  | 4 => .object "CountyPrint$Plan"
  | 5 => .object "CountyPrint$Plan"
  | 6 => .object "CountyPrint$Travel"
  | 7 => .object "CountyPrint$Travel"
  | 8 => .object "CountyPrint$Past"
  | 9 => .object "CountyPrint$Sightings"
  | 10 => .array (.object "CountyPrint$Mark")
  | 11 => .object "CountyPrint$Ranking"
  | 12 => .object "CountyPrint$Draws"
  | _ => .array .int
abbrev wsX110 : List Cond := u_ws RX11 TX11 14
theorem nmX11 : ∀ a, a < 14 → ∀ b, b < 14 → a ≠ b → (TX11 a).2.1 ≠ (TX11 b).2.1 := by decide +kernel
theorem tyX11_ok : ∀ k, k < 14 → parseFieldDescriptor (TX11 k).2.2.1 = some (tyX11 k) := by decide +kernel
abbrev cX11_init : ByteArray := prog_1_method_1_code
def yX11_init : MethodName := ⟨RX11, "<init>", "()V"⟩
abbrev cX11_feed : ByteArray := prog_1_method_2_code
def yX11_feed : MethodName := ⟨RX11, "feed", "(JJJ)I"⟩
abbrev cX11_county : ByteArray := prog_1_method_3_code
def yX11_county : MethodName := ⟨RX11, "county", "()I"⟩
abbrev cX11_round : ByteArray := prog_1_method_4_code
def yX11_round : MethodName := ⟨RX11, "round", "()I"⟩
abbrev cX11_shot : ByteArray := prog_1_method_5_code
def yX11_shot : MethodName := ⟨RX11, "shot", "(II)I"⟩
abbrev cX11_hall : ByteArray := prog_1_method_6_code
def yX11_hall : MethodName := ⟨RX11, "hall", "(II)I"⟩
abbrev cX11_show : ByteArray := prog_1_method_7_code
def yX11_show : MethodName := ⟨RX11, "show", "()I"⟩
abbrev cX11_give : ByteArray := prog_1_method_8_code
def yX11_give : MethodName := ⟨RX11, "give", "(II)I"⟩
abbrev cX11_trade : ByteArray := prog_1_method_9_code
def yX11_trade : MethodName := ⟨RX11, "trade", "(III)Z"⟩
abbrev cX11_turn : ByteArray := prog_1_method_10_code
def yX11_turn : MethodName := ⟨RX11, "turn", "()I"⟩
abbrev cX11_undo : ByteArray := prog_1_method_11_code
def yX11_undo : MethodName := ⟨RX11, "undo", "()Z"⟩
abbrev cX11_judged : ByteArray := prog_1_method_12_code
def yX11_judged : MethodName := ⟨RX11, "judged", "(I)I"⟩
abbrev cX11_shown : ByteArray := prog_1_method_13_code
def yX11_shown : MethodName := ⟨RX11, "shown", "(II)I"⟩
abbrev cX11_minutes : ByteArray := prog_1_method_14_code
def yX11_minutes : MethodName := ⟨RX11, "minutes", "(I)I"⟩
abbrev cX11_silly : ByteArray := prog_1_method_15_code
def yX11_silly : MethodName := ⟨RX11, "silly", "()I"⟩
abbrev cX11_lasts : ByteArray := prog_1_method_16_code
def yX11_lasts : MethodName := ⟨RX11, "lasts", "()I"⟩
abbrev cX11_sense : ByteArray := prog_1_method_17_code
def yX11_sense : MethodName := ⟨RX11, "sense", "()Z"⟩
abbrev cX11_gone : ByteArray := prog_1_method_18_code
def yX11_gone : MethodName := ⟨RX11, "gone", "(I)I"⟩
abbrev cX11_saves : ByteArray := prog_1_method_19_code
def yX11_saves : MethodName := ⟨RX11, "saves", "(I)I"⟩
abbrev cX11_kin : ByteArray := prog_1_method_20_code
def yX11_kin : MethodName := ⟨RX11, "kin", "(I)I"⟩
abbrev cX11_hoard : ByteArray := prog_1_method_21_code
def yX11_hoard : MethodName := ⟨RX11, "hoard", "(I)I"⟩
abbrev cX11_longest : ByteArray := prog_1_method_22_code
def yX11_longest : MethodName := ⟨RX11, "longest", "()I"⟩
abbrev cX11_order : ByteArray := prog_1_method_23_code
def yX11_order : MethodName := ⟨RX11, "order", "(I)I"⟩
abbrev cX11_ride : ByteArray := prog_1_method_24_code
def yX11_ride : MethodName := ⟨RX11, "ride", "()I"⟩
abbrev cX11_other : ByteArray := prog_1_method_25_code
def yX11_other : MethodName := ⟨RX11, "other", "(I)I"⟩
abbrev cX11_mends : ByteArray := prog_1_method_26_code
def yX11_mends : MethodName := ⟨RX11, "mends", "()I"⟩
abbrev cX11_where : ByteArray := prog_1_method_27_code
def yX11_where : MethodName := ⟨RX11, "where", "(I)I"⟩
abbrev cX11_taste : ByteArray := prog_1_method_28_code
def yX11_taste : MethodName := ⟨RX11, "taste", "(II)I"⟩
abbrev cX11_mild : ByteArray := prog_1_method_29_code
def yX11_mild : MethodName := ⟨RX11, "mild", "()I"⟩
abbrev cX11_see : ByteArray := prog_1_method_30_code
def yX11_see : MethodName := ⟨RX11, "see", "(IZ)Z"⟩
abbrev cX11_halls : ByteArray := prog_1_method_31_code
def yX11_halls : MethodName := ⟨RX11, "halls", "()I"⟩
abbrev cX11_ask : ByteArray := prog_1_method_32_code
def yX11_ask : MethodName := ⟨RX11, "ask", "()I"⟩
abbrev cX11_rests : ByteArray := prog_1_method_33_code
def yX11_rests : MethodName := ⟨RX11, "rests", "(IIII)I"⟩
abbrev cX11_share : ByteArray := prog_1_method_34_code
def yX11_share : MethodName := ⟨RX11, "share", "(I)I"⟩
abbrev cX11_tours : ByteArray := prog_1_method_35_code
def yX11_tours : MethodName := ⟨RX11, "tours", "(III)I"⟩
abbrev cX11_mark : ByteArray := prog_1_method_36_code
def yX11_mark : MethodName := ⟨RX11, "mark", "(IZ)Z"⟩
abbrev cX11_count : ByteArray := prog_1_method_37_code
def yX11_count : MethodName := ⟨RX11, "count", "(I)I"⟩
abbrev cX11_beginAnew : ByteArray := prog_1_method_38_code
def yX11_beginAnew : MethodName := ⟨RX11, "beginAnew", "()V"⟩
abbrev cX11_liesIn : ByteArray := prog_1_method_39_code
def yX11_liesIn : MethodName := ⟨RX11, "liesIn", "(II)Z"⟩
abbrev cX11_nextHall : ByteArray := prog_1_method_40_code
def yX11_nextHall : MethodName := ⟨RX11, "nextHall", "()I"⟩
abbrev cX11_nextPlace : ByteArray := prog_1_method_41_code
def yX11_nextPlace : MethodName := ⟨RX11, "nextPlace", "()I"⟩
abbrev cX11_isAhead : ByteArray := prog_1_method_42_code
def yX11_isAhead : MethodName := ⟨RX11, "isAhead", "(I)Z"⟩
abbrev cX11_hallsAhead : ByteArray := prog_1_method_43_code
def yX11_hallsAhead : MethodName := ⟨RX11, "hallsAhead", "()I"⟩
abbrev cX11_rowShownAt : ByteArray := prog_1_method_44_code
def yX11_rowShownAt : MethodName := ⟨RX11, "rowShownAt", "(I)I"⟩
abbrev cX11_minutesTogether : ByteArray := prog_1_method_45_code
def yX11_minutesTogether : MethodName := ⟨RX11, "minutesTogether", "(I)I"⟩
abbrev cX11_fillRows : ByteArray := prog_1_method_46_code
def yX11_fillRows : MethodName := ⟨RX11, "fillRows", "()V"⟩
abbrev cX11_seenBy : ByteArray := prog_1_method_47_code
def yX11_seenBy : MethodName := ⟨RX11, "seenBy", "(I)I"⟩
abbrev cX11_greaterPart : ByteArray := prog_1_method_48_code
def yX11_greaterPart : MethodName := ⟨RX11, "greaterPart", "(II)I"⟩
abbrev cX11_giveBackByDraw : ByteArray := prog_1_method_49_code
def yX11_giveBackByDraw : MethodName := ⟨RX11, "giveBackByDraw", "()V"⟩
abbrev cX11_isBid : ByteArray := prog_1_method_50_code
def yX11_isBid : MethodName := ⟨RX11, "isBid", "(I)Z"⟩
abbrev cX11_isAtRest : ByteArray := prog_1_method_51_code
def yX11_isAtRest : MethodName := ⟨RX11, "isAtRest", "(IIII)Z"⟩
abbrev cX11_gain : ByteArray := prog_1_method_52_code
def yX11_gain : MethodName := ⟨RX11, "gain", "(IIIII)I"⟩
def RX12 : String := "CountyPrintModel"
def TX12 : u_T := fun k => match k with
  | 0 => ("CountyPrintModel", "thrown", "I", false)
  | 1 => ("CountyPrintModel", "taped", "I", false)
  | 2 => ("CountyPrintModel", "tape", "[I", true)
  | 3 => ("CountyPrintModel", "size", "I", false)
  | 4 => ("CountyPrintModel", "place", "I", false)
  | 5 => ("CountyPrintModel", "begin", "I", false)
  | 6 => ("CountyPrintModel", "token", "I", false)
  | 7 => ("CountyPrintModel", "word", "J", false)
  | 8 => ("CountyPrintModel", "told", "I", false)
  | 9 => ("CountyPrintModel", "wrong", "I", false)
  | 10 => ("CountyPrintModel", "county", "[I", true)
  | 11 => ("CountyPrintModel", "shotName", "[J", true)
  | 12 => ("CountyPrintModel", "hallName", "[J", true)
  | 13 => ("CountyPrintModel", "sort", "[I", true)
  | 14 => ("CountyPrintModel", "long0", "[I", true)
  | 15 => ("CountyPrintModel", "needs", "[I", true)
  | 16 => ("CountyPrintModel", "kind", "[I", true)
  | 17 => ("CountyPrintModel", "lineFrom", "[I", true)
  | 18 => ("CountyPrintModel", "lineTo", "[I", true)
  | 19 => ("CountyPrintModel", "codes", "[I", true)
  | 20 => ("CountyPrintModel", "code", "I", false)
  | 21 => ("CountyPrintModel", "opened", "[I", true)
  | 22 => ("CountyPrintModel", "compared", "[Z", true)
  | 23 => ("CountyPrintModel", "kept", "[I", true)
  | 24 => ("CountyPrintModel", "keptBy", "[I", true)
  | 25 => ("CountyPrintModel", "ahead", "[I", true)
  | 26 => ("CountyPrintModel", "against", "[I", true)
  | 27 => ("CountyPrintModel", "sum", "[I", true)
  | 28 => ("CountyPrintModel", "sumBy", "[I", true)
  | 29 => ("CountyPrintModel", "term", "[I", true)
  | 30 => ("CountyPrintModel", "termBy", "[I", true)
  | 31 => ("CountyPrintModel", "byNot", "[I", true)
  | 32 => ("CountyPrintModel", "valueOf", "[I", true)
  | 33 => ("CountyPrintModel", "given", "I", false)
  | 34 => ("CountyPrintModel", "fresh", "J", false)
  | 35 => ("CountyPrintModel", "lines", "[I", true)
  | 36 => ("CountyPrintModel", "lineWhat", "[I", true)
  | 37 => ("CountyPrintModel", "lineA", "[I", true)
  | 38 => ("CountyPrintModel", "lineB", "[I", true)
  | 39 => ("CountyPrintModel", "lineShot", "[I", true)
  | 40 => ("CountyPrintModel", "seens", "[I", true)
  | 41 => ("CountyPrintModel", "seenShot", "[I", true)
  | 42 => ("CountyPrintModel", "seenShown", "[Z", true)
  | 43 => ("CountyPrintModel", "s", "[I", true)
  | 44 => ("CountyPrintModel", "aside", "[I", true)
  | 45 => ("CountyPrintModel", "before", "[I", true)
  | 46 => ("CountyPrintModel", "marked", "[I", true)
  | 47 => ("CountyPrintModel", "undone", "[I", true)
  | 48 => ("CountyPrintModel", "isLaid", "[Z", true)
  | 49 => ("CountyPrintModel", "done", "I", false)
  | 50 => ("CountyPrintModel", "showsBy", "[I", true)
  | 51 => ("CountyPrintModel", "goneBy", "[I", true)
  | 52 => ("CountyPrintModel", "silliest", "I", false)
  | 53 => ("CountyPrintModel", "together", "I", false)
  | 54 => ("CountyPrintModel", "row", "[I", true)
  | 55 => ("CountyPrintModel", "bestRow", "[I", true)
  | 56 => ("CountyPrintModel", "mostShown", "I", false)
  | _ => ("CountyPrintModel", "g", "J", false)
def tyX12 : Nat → FieldType := fun k => match k with
  | 0 => .int
  | 1 => .int
  | 2 => .array .int
  | 3 => .int
  | 4 => .int
  | 5 => .int
  | 6 => .int
  | 7 => .long
  | 8 => .int
  | 9 => .int
  | 10 => .array .int
  | 11 => .array .long
  | 12 => .array .long
  | 13 => .array .int
  | 14 => .array .int
  | 15 => .array .int
  | 16 => .array .int
  | 17 => .array .int
  | 18 => .array .int
  | 19 => .array .int
  | 20 => .int
  | 21 => .array .int
  | 22 => .array .boolean
  | 23 => .array .int
  | 24 => .array .int
  | 25 => .array .int
  | 26 => .array .int
  | 27 => .array .int
  | 28 => .array .int
  | 29 => .array .int
  | 30 => .array .int
  | 31 => .array .int
  | 32 => .array .int
  | 33 => .int
  | 34 => .long
  | 35 => .array .int
  | 36 => .array .int
  | 37 => .array .int
  | 38 => .array .int
  | 39 => .array .int
  | 40 => .array .int
  | 41 => .array .int
  | 42 => .array .boolean
  | 43 => .array .int
  | 44 => .array .int
  | 45 => .array .int
  | 46 => .array .int
  | 47 => .array .int
  | 48 => .array .boolean
  | 49 => .int
  | 50 => .array .int
  | 51 => .array .int
  | 52 => .int
  | 53 => .int
  | 54 => .array .int
  | 55 => .array .int
  | 56 => .int
  | _ => .long
abbrev wsX120 : List Cond := u_ws RX12 TX12 58
theorem nmX12 : ∀ a, a < 58 → ∀ b, b < 58 → a ≠ b → (TX12 a).2.1 ≠ (TX12 b).2.1 := by decide +kernel
theorem tyX12_ok : ∀ k, k < 58 → parseFieldDescriptor (TX12 k).2.2.1 = some (tyX12 k) := by decide +kernel
abbrev cX12_init : ByteArray := prog_14_method_1_code
def yX12_init : MethodName := ⟨RX12, "<init>", "()V"⟩
abbrev cX12_thrown : ByteArray := prog_14_method_2_code
def yX12_thrown : MethodName := ⟨RX12, "thrown", "()I"⟩
abbrev cX12_within : ByteArray := prog_14_method_3_code
def yX12_within : MethodName := ⟨RX12, "within", "(III)Z"⟩
abbrev cX12_bits : ByteArray := prog_14_method_4_code
def yX12_bits : MethodName := ⟨RX12, "bits", "(I)I"⟩
abbrev cX12_feed : ByteArray := prog_14_method_5_code
def yX12_feed : MethodName := ⟨RX12, "feed", "(JJJ)I"⟩
abbrev cX12_signAt : ByteArray := prog_14_method_6_code
def yX12_signAt : MethodName := ⟨RX12, "signAt", "(I)I"⟩
abbrev cX12_nextToken : ByteArray := prog_14_method_7_code
def yX12_nextToken : MethodName := ⟨RX12, "nextToken", "()V"⟩
abbrev cX12_isWord : ByteArray := prog_14_method_8_code
def yX12_isWord : MethodName := ⟨RX12, "isWord", "(J)Z"⟩
abbrev cX12_isSign : ByteArray := prog_14_method_9_code
def yX12_isSign : MethodName := ⟨RX12, "isSign", "(I)Z"⟩
abbrev cX12_fails : ByteArray := prog_14_method_10_code
def yX12_fails : MethodName := ⟨RX12, "fails", "(I)Z"⟩
abbrev cX12_puts : ByteArray := prog_14_method_11_code
def yX12_puts : MethodName := ⟨RX12, "puts", "(I)V"⟩
abbrev cX12_fact : ByteArray := prog_14_method_12_code
def yX12_fact : MethodName := ⟨RX12, "fact", "()I"⟩
abbrev cX12_reads : ByteArray := prog_14_method_13_code
def yX12_reads : MethodName := ⟨RX12, "reads", "()Z"⟩
abbrev cX12_opens : ByteArray := prog_14_method_14_code
def yX12_opens : MethodName := ⟨RX12, "opens", "(I)V"⟩
abbrev cX12_sums : ByteArray := prog_14_method_15_code
def yX12_sums : MethodName := ⟨RX12, "sums", "(I)V"⟩
abbrev cX12_tests : ByteArray := prog_14_method_16_code
def yX12_tests : MethodName := ⟨RX12, "tests", "(I)V"⟩
abbrev cX12_worked : ByteArray := prog_14_method_17_code
def yX12_worked : MethodName := ⟨RX12, "worked", "(I)I"⟩
abbrev cX12_isKept : ByteArray := prog_14_method_18_code
def yX12_isKept : MethodName := ⟨RX12, "isKept", "()Z"⟩
abbrev cX12_shotNamed : ByteArray := prog_14_method_19_code
def yX12_shotNamed : MethodName := ⟨RX12, "shotNamed", "(I)I"⟩
abbrev cX12_hallNamed : ByteArray := prog_14_method_20_code
def yX12_hallNamed : MethodName := ⟨RX12, "hallNamed", "(I)I"⟩
abbrev cX12_needsNumber : ByteArray := prog_14_method_21_code
def yX12_needsNumber : MethodName := ⟨RX12, "needsNumber", "(II)Z"⟩
abbrev cX12_needsWord : ByteArray := prog_14_method_22_code
def yX12_needsWord : MethodName := ⟨RX12, "needsWord", "(J)Z"⟩
abbrev cX12_closes : ByteArray := prog_14_method_23_code
def yX12_closes : MethodName := ⟨RX12, "closes", "()Z"⟩
abbrev cX12_needsNew : ByteArray := prog_14_method_24_code
def yX12_needsNew : MethodName := ⟨RX12, "needsNew", "()Z"⟩
abbrev cX12_needsShot : ByteArray := prog_14_method_25_code
def yX12_needsShot : MethodName := ⟨RX12, "needsShot", "(I)Z"⟩
abbrev cX12_needsHall : ByteArray := prog_14_method_26_code
def yX12_needsHall : MethodName := ⟨RX12, "needsHall", "()Z"⟩
abbrev cX12_readsShot : ByteArray := prog_14_method_27_code
def yX12_readsShot : MethodName := ⟨RX12, "readsShot", "()Z"⟩
abbrev cX12_readsNeeds : ByteArray := prog_14_method_28_code
def yX12_readsNeeds : MethodName := ⟨RX12, "readsNeeds", "()Z"⟩
abbrev cX12_readsHall : ByteArray := prog_14_method_29_code
def yX12_readsHall : MethodName := ⟨RX12, "readsHall", "()Z"⟩
abbrev cX12_begins : ByteArray := prog_14_method_30_code
def yX12_begins : MethodName := ⟨RX12, "begins", "()V"⟩
abbrev cX12_readsAll : ByteArray := prog_14_method_31_code
def yX12_readsAll : MethodName := ⟨RX12, "readsAll", "()Z"⟩
abbrev cX12_shifts : ByteArray := prog_14_method_32_code
def yX12_shifts : MethodName := ⟨RX12, "shifts", "([II)V"⟩
abbrev cX12_shiftsNames : ByteArray := prog_14_method_33_code
def yX12_shiftsNames : MethodName := ⟨RX12, "shiftsNames", "([JI)V"⟩
abbrev cX12_lays : ByteArray := prog_14_method_34_code
def yX12_lays : MethodName := ⟨RX12, "lays", "()V"⟩
abbrev cX12_copies : ByteArray := prog_14_method_35_code
def yX12_copies : MethodName := ⟨RX12, "copies", "([II[II)V"⟩
abbrev cX12_readsLine : ByteArray := prog_14_method_36_code
def yX12_readsLine : MethodName := ⟨RX12, "readsLine", "()Z"⟩
abbrev cX12_laysLines : ByteArray := prog_14_method_37_code
def yX12_laysLines : MethodName := ⟨RX12, "laysLines", "(II)V"⟩
abbrev cX12_laysSeen : ByteArray := prog_14_method_38_code
def yX12_laysSeen : MethodName := ⟨RX12, "laysSeen", "(II)V"⟩
abbrev cX12_fresh : ByteArray := prog_14_method_39_code
def yX12_fresh : MethodName := ⟨RX12, "fresh", "()V"⟩
abbrev cX12_county : ByteArray := prog_14_method_40_code
def yX12_county : MethodName := ⟨RX12, "county", "()I"⟩
abbrev cX12_round : ByteArray := prog_14_method_41_code
def yX12_round : MethodName := ⟨RX12, "round", "()I"⟩
abbrev cX12_allShots : ByteArray := prog_14_method_42_code
def yX12_allShots : MethodName := ⟨RX12, "allShots", "()I"⟩
abbrev cX12_isShot : ByteArray := prog_14_method_43_code
def yX12_isShot : MethodName := ⟨RX12, "isShot", "(I)Z"⟩
abbrev cX12_isHall : ByteArray := prog_14_method_44_code
def yX12_isHall : MethodName := ⟨RX12, "isHall", "(I)Z"⟩
abbrev cX12_minutesOf : ByteArray := prog_14_method_45_code
def yX12_minutesOf : MethodName := ⟨RX12, "minutesOf", "(I)I"⟩
abbrev cX12_hates : ByteArray := prog_14_method_46_code
def yX12_hates : MethodName := ⟨RX12, "hates", "(IIII)Z"⟩
abbrev cX12_takesOut : ByteArray := prog_14_method_47_code
def yX12_takesOut : MethodName := ⟨RX12, "takesOut", "(II)I"⟩
abbrev cX12_makesSense : ByteArray := prog_14_method_48_code
def yX12_makesSense : MethodName := ⟨RX12, "makesSense", "(I)Z"⟩
abbrev cX12_drawerOf : ByteArray := prog_14_method_49_code
def yX12_drawerOf : MethodName := ⟨RX12, "drawerOf", "(I)I"⟩
abbrev cX12_inDrawers : ByteArray := prog_14_method_50_code
def yX12_inDrawers : MethodName := ⟨RX12, "inDrawers", "()I"⟩
abbrev cX12_cuts : ByteArray := prog_14_method_51_code
def yX12_cuts : MethodName := ⟨RX12, "cuts", "(I)V"⟩
abbrev cX12_shows : ByteArray := prog_14_method_52_code
def yX12_shows : MethodName := ⟨RX12, "shows", "()V"⟩
abbrev cX12_goesBack : ByteArray := prog_14_method_53_code
def yX12_goesBack : MethodName := ⟨RX12, "goesBack", "(I)V"⟩
abbrev cX12_turns : ByteArray := prog_14_method_54_code
def yX12_turns : MethodName := ⟨RX12, "turns", "()V"⟩
abbrev cX12_placeOf : ByteArray := prog_14_method_55_code
def yX12_placeOf : MethodName := ⟨RX12, "placeOf", "(I)I"⟩
abbrev cX12_shot : ByteArray := prog_14_method_56_code
def yX12_shot : MethodName := ⟨RX12, "shot", "(II)I"⟩
abbrev cX12_hall : ByteArray := prog_14_method_57_code
def yX12_hall : MethodName := ⟨RX12, "hall", "(II)I"⟩
abbrev cX12_keeps : ByteArray := prog_14_method_58_code
def yX12_keeps : MethodName := ⟨RX12, "keeps", "()V"⟩
abbrev cX12_show : ByteArray := prog_14_method_59_code
def yX12_show : MethodName := ⟨RX12, "show", "()I"⟩
abbrev cX12_give : ByteArray := prog_14_method_60_code
def yX12_give : MethodName := ⟨RX12, "give", "(II)I"⟩
abbrev cX12_trade : ByteArray := prog_14_method_61_code
def yX12_trade : MethodName := ⟨RX12, "trade", "(III)Z"⟩
abbrev cX12_nextHall : ByteArray := prog_14_method_62_code
def yX12_nextHall : MethodName := ⟨RX12, "nextHall", "()I"⟩
abbrev cX12_turn : ByteArray := prog_14_method_63_code
def yX12_turn : MethodName := ⟨RX12, "turn", "()I"⟩
abbrev cX12_undo : ByteArray := prog_14_method_64_code
def yX12_undo : MethodName := ⟨RX12, "undo", "()Z"⟩
abbrev cX12_goes : ByteArray := prog_14_method_65_code
def yX12_goes : MethodName := ⟨RX12, "goes", "(I)Z"⟩
abbrev cX12_judged : ByteArray := prog_14_method_66_code
def yX12_judged : MethodName := ⟨RX12, "judged", "(I)I"⟩
abbrev cX12_goesOn : ByteArray := prog_14_method_67_code
def yX12_goesOn : MethodName := ⟨RX12, "goesOn", "(I)V"⟩
abbrev cX12_shown : ByteArray := prog_14_method_68_code
def yX12_shown : MethodName := ⟨RX12, "shown", "(II)I"⟩
abbrev cX12_minutes : ByteArray := prog_14_method_69_code
def yX12_minutes : MethodName := ⟨RX12, "minutes", "(I)I"⟩
abbrev cX12_silly : ByteArray := prog_14_method_70_code
def yX12_silly : MethodName := ⟨RX12, "silly", "()I"⟩
abbrev cX12_gone : ByteArray := prog_14_method_71_code
def yX12_gone : MethodName := ⟨RX12, "gone", "(I)I"⟩
abbrev cX12_saves : ByteArray := prog_14_method_72_code
def yX12_saves : MethodName := ⟨RX12, "saves", "(I)I"⟩
abbrev cX12_kin : ByteArray := prog_14_method_73_code
def yX12_kin : MethodName := ⟨RX12, "kin", "(I)I"⟩
abbrev cX12_ofSort : ByteArray := prog_14_method_74_code
def yX12_ofSort : MethodName := ⟨RX12, "ofSort", "(II)I"⟩
abbrev cX12_hoard : ByteArray := prog_14_method_75_code
def yX12_hoard : MethodName := ⟨RX12, "hoard", "(I)I"⟩
abbrev cX12_unlikeFrom : ByteArray := prog_14_method_76_code
def yX12_unlikeFrom : MethodName := ⟨RX12, "unlikeFrom", "(I)I"⟩
abbrev cX12_longest : ByteArray := prog_14_method_77_code
def yX12_longest : MethodName := ⟨RX12, "longest", "()I"⟩
abbrev cX12_lasts : ByteArray := prog_14_method_78_code
def yX12_lasts : MethodName := ⟨RX12, "lasts", "()I"⟩
abbrev cX12_sense : ByteArray := prog_14_method_79_code
def yX12_sense : MethodName := ⟨RX12, "sense", "()Z"⟩
abbrev cX12_orders : ByteArray := prog_14_method_80_code
def yX12_orders : MethodName := ⟨RX12, "orders", "(IIII)V"⟩
abbrev cX12_order : ByteArray := prog_14_method_81_code
def yX12_order : MethodName := ⟨RX12, "order", "(I)I"⟩
abbrev cX12_ride : ByteArray := prog_14_method_82_code
def yX12_ride : MethodName := ⟨RX12, "ride", "()I"⟩
abbrev cX12_otherFilm : ByteArray := prog_14_method_83_code
def yX12_otherFilm : MethodName := ⟨RX12, "otherFilm", "()I"⟩
abbrev cX12_other : ByteArray := prog_14_method_84_code
def yX12_other : MethodName := ⟨RX12, "other", "(I)I"⟩
abbrev cX12_mends : ByteArray := prog_14_method_85_code
def yX12_mends : MethodName := ⟨RX12, "mends", "()I"⟩
abbrev cX12_where : ByteArray := prog_14_method_86_code
def yX12_where : MethodName := ⟨RX12, "where", "(I)I"⟩
abbrev cX12_taste : ByteArray := prog_14_method_87_code
def yX12_taste : MethodName := ⟨RX12, "taste", "(II)I"⟩
abbrev cX12_mild : ByteArray := prog_14_method_88_code
def yX12_mild : MethodName := ⟨RX12, "mild", "()I"⟩
abbrev cX12_see : ByteArray := prog_14_method_89_code
def yX12_see : MethodName := ⟨RX12, "see", "(IZ)Z"⟩
abbrev cX12_hallsAsSeen : ByteArray := prog_14_method_90_code
def yX12_hallsAsSeen : MethodName := ⟨RX12, "hallsAsSeen", "()I"⟩
abbrev cX12_halls : ByteArray := prog_14_method_91_code
def yX12_halls : MethodName := ⟨RX12, "halls", "()I"⟩
abbrev cX12_ask : ByteArray := prog_14_method_92_code
def yX12_ask : MethodName := ⟨RX12, "ask", "()I"⟩
abbrev cX12_getsBy : ByteArray := prog_14_method_93_code
def yX12_getsBy : MethodName := ⟨RX12, "getsBy", "(IIIII)I"⟩
abbrev cX12_rests : ByteArray := prog_14_method_94_code
def yX12_rests : MethodName := ⟨RX12, "rests", "(IIII)I"⟩
abbrev cX12_share : ByteArray := prog_14_method_95_code
def yX12_share : MethodName := ⟨RX12, "share", "(I)I"⟩
abbrev cX12_draws : ByteArray := prog_14_method_96_code
def yX12_draws : MethodName := ⟨RX12, "draws", "(I)I"⟩
abbrev cX12_nth : ByteArray := prog_14_method_97_code
def yX12_nth : MethodName := ⟨RX12, "nth", "(II)I"⟩
abbrev cX12_givesSome : ByteArray := prog_14_method_98_code
def yX12_givesSome : MethodName := ⟨RX12, "givesSome", "()V"⟩
abbrev cX12_tours : ByteArray := prog_14_method_99_code
def yX12_tours : MethodName := ⟨RX12, "tours", "(III)I"⟩
abbrev cX12_mark : ByteArray := prog_14_method_100_code
def yX12_mark : MethodName := ⟨RX12, "mark", "(IZ)Z"⟩
abbrev cX12_count : ByteArray := prog_14_method_101_code
def yX12_count : MethodName := ⟨RX12, "count", "(I)I"⟩
def RJx145de : String := "java/io/Serializable"
def TJx145de : u_T := fun k => match k with
  | _ => ("", "", "", false)
def tyJx145de : Nat → FieldType := fun k => match k with
  | _ => .int
abbrev wsJx145de0 : List Cond := u_ws RJx145de TJx145de 0
theorem nmJx145de : ∀ a, a < 0 → ∀ b, b < 0 → a ≠ b → (TJx145de a).2.1 ≠ (TJx145de b).2.1 := by decide +kernel
theorem tyJx145de_ok : ∀ k, k < 0 → parseFieldDescriptor (TJx145de k).2.2.1 = some (tyJx145de k) := by decide +kernel
def RJx9f9b0 : String := "java/lang/CharSequence"
def TJx9f9b0 : u_T := fun k => match k with
  | _ => ("", "", "", false)
def tyJx9f9b0 : Nat → FieldType := fun k => match k with
  | _ => .int
abbrev wsJx9f9b00 : List Cond := u_ws RJx9f9b0 TJx9f9b0 0
theorem nmJx9f9b0 : ∀ a, a < 0 → ∀ b, b < 0 → a ≠ b → (TJx9f9b0 a).2.1 ≠ (TJx9f9b0 b).2.1 := by decide +kernel
theorem tyJx9f9b0_ok : ∀ k, k < 0 → parseFieldDescriptor (TJx9f9b0 k).2.2.1 = some (tyJx9f9b0 k) := by decide +kernel
def RJxb160c : String := "java/lang/Comparable"
def TJxb160c : u_T := fun k => match k with
  | _ => ("", "", "", false)
def tyJxb160c : Nat → FieldType := fun k => match k with
  | _ => .int
abbrev wsJxb160c0 : List Cond := u_ws RJxb160c TJxb160c 0
theorem nmJxb160c : ∀ a, a < 0 → ∀ b, b < 0 → a ≠ b → (TJxb160c a).2.1 ≠ (TJxb160c b).2.1 := by decide +kernel
theorem tyJxb160c_ok : ∀ k, k < 0 → parseFieldDescriptor (TJxb160c k).2.2.1 = some (tyJxb160c k) := by decide +kernel
def RJ6 : String := "java/lang/Integer"
def TJ6 : u_T := fun k => match k with
  | _ => ("", "", "", false)
def tyJ6 : Nat → FieldType := fun k => match k with
  | _ => .int
abbrev wsJ60 : List Cond := u_ws RJ6 TJ6 0
theorem nmJ6 : ∀ a, a < 0 → ∀ b, b < 0 → a ≠ b → (TJ6 a).2.1 ≠ (TJ6 b).2.1 := by decide +kernel
theorem tyJ6_ok : ∀ k, k < 0 → parseFieldDescriptor (TJ6 k).2.2.1 = some (tyJ6 k) := by decide +kernel
abbrev cJ6_bitCount_0f7a4 : ByteArray := prog_19_method_49_code
def yJ6_bitCount_0f7a4 : MethodName := ⟨RJ6, "bitCount", "(I)I"⟩
def RJ9 : String := "java/lang/Math"
def TJ9 : u_T := fun k => match k with
  | _ => ("", "", "", false)
def tyJ9 : Nat → FieldType := fun k => match k with
  | _ => .int
abbrev wsJ90 : List Cond := u_ws RJ9 TJ9 0
theorem nmJ9 : ∀ a, a < 0 → ∀ b, b < 0 → a ≠ b → (TJ9 a).2.1 ≠ (TJ9 b).2.1 := by decide +kernel
theorem tyJ9_ok : ∀ k, k < 0 → parseFieldDescriptor (TJ9 k).2.2.1 = some (tyJ9 k) := by decide +kernel
abbrev cJ9_max_7cf53 : ByteArray := prog_20_method_65_code
def yJ9_max_7cf53 : MethodName := ⟨RJ9, "max", "(II)I"⟩
abbrev cJ9_min_7cf53 : ByteArray := prog_20_method_69_code
def yJ9_min_7cf53 : MethodName := ⟨RJ9, "min", "(II)I"⟩
def RJ0 : String := "java/lang/String"
def TJ0 : u_T := fun k => match k with
  | _ => ("", "", "", false)
def tyJ0 : Nat → FieldType := fun k => match k with
  | _ => .int
abbrev wsJ00 : List Cond := u_ws RJ0 TJ0 0
theorem nmJ0 : ∀ a, a < 0 → ∀ b, b < 0 → a ≠ b → (TJ0 a).2.1 ≠ (TJ0 b).2.1 := by decide +kernel
theorem tyJ0_ok : ∀ k, k < 0 → parseFieldDescriptor (TJ0 k).2.2.1 = some (tyJ0 k) := by decide +kernel
abbrev cJ0_length_8abf5 : ByteArray := prog_22_method_54_code
def yJ0_length_8abf5 : MethodName := ⟨RJ0, "length", "()I"⟩
abbrev cJ0_charAt_5068e : ByteArray := prog_22_method_56_code
def yJ0_charAt_5068e : MethodName := ⟨RJ0, "charAt", "(I)C"⟩
abbrev cJ0_coder_7d493 : ByteArray := prog_22_method_152_code
def yJ0_coder_7d493 : MethodName := ⟨RJ0, "coder", "()B"⟩
abbrev cJ0_isLatin1_aae02 : ByteArray := prog_22_method_154_code
def yJ0_isLatin1_aae02 : MethodName := ⟨RJ0, "isLatin1", "()Z"⟩
abbrev cJ0_checkIndex_df160 : ByteArray := prog_22_method_155_code
def yJ0_checkIndex_df160 : MethodName := ⟨RJ0, "checkIndex", "(II)V"⟩
def RJ1 : String := "java/lang/StringLatin1"
def TJ1 : u_T := fun k => match k with
  | _ => ("", "", "", false)
def tyJ1 : Nat → FieldType := fun k => match k with
  | _ => .int
abbrev wsJ10 : List Cond := u_ws RJ1 TJ1 0
theorem nmJ1 : ∀ a, a < 0 → ∀ b, b < 0 → a ≠ b → (TJ1 a).2.1 ≠ (TJ1 b).2.1 := by decide +kernel
theorem tyJ1_ok : ∀ k, k < 0 → parseFieldDescriptor (TJ1 k).2.2.1 = some (tyJ1 k) := by decide +kernel
abbrev cJ1_charAt_3b067 : ByteArray := prog_23_method_2_code
def yJ1_charAt_3b067 : MethodName := ⟨RJ1, "charAt", "([BI)C"⟩
def RJ2 : String := "java/lang/StringUTF16"
def TJ2 : u_T := fun k => match k with
  | _ => ("", "", "", false)
def tyJ2 : Nat → FieldType := fun k => match k with
  | _ => .int
abbrev wsJ20 : List Cond := u_ws RJ2 TJ2 0
theorem nmJ2 : ∀ a, a < 0 → ∀ b, b < 0 → a ≠ b → (TJ2 a).2.1 ≠ (TJ2 b).2.1 := by decide +kernel
theorem tyJ2_ok : ∀ k, k < 0 → parseFieldDescriptor (TJ2 k).2.2.1 = some (tyJ2 k) := by decide +kernel
abbrev cJ2_getChar_3b067 : ByteArray := prog_24_method_5_code
def yJ2_getChar_3b067 : MethodName := ⟨RJ2, "getChar", "([BI)C"⟩
abbrev cJ2_length_9d52b : ByteArray := prog_24_method_6_code
def yJ2_length_9d52b : MethodName := ⟨RJ2, "length", "([B)I"⟩
abbrev cJ2_charAt_3b067 : ByteArray := prog_24_method_83_code
def yJ2_charAt_3b067 : MethodName := ⟨RJ2, "charAt", "([BI)C"⟩
abbrev cJ2_checkIndex_2214a : ByteArray := prog_24_method_91_code
def yJ2_checkIndex_2214a : MethodName := ⟨RJ2, "checkIndex", "(I[B)V"⟩
def RJxfd54e : String := "java/lang/constant/Constable"
def TJxfd54e : u_T := fun k => match k with
  | _ => ("", "", "", false)
def tyJxfd54e : Nat → FieldType := fun k => match k with
  | _ => .int
abbrev wsJxfd54e0 : List Cond := u_ws RJxfd54e TJxfd54e 0
theorem nmJxfd54e : ∀ a, a < 0 → ∀ b, b < 0 → a ≠ b → (TJxfd54e a).2.1 ≠ (TJxfd54e b).2.1 := by decide +kernel
theorem tyJxfd54e_ok : ∀ k, k < 0 → parseFieldDescriptor (TJxfd54e k).2.2.1 = some (tyJxfd54e k) := by decide +kernel
def RJx3cf43 : String := "java/lang/constant/ConstantDesc"
def TJx3cf43 : u_T := fun k => match k with
  | _ => ("", "", "", false)
def tyJx3cf43 : Nat → FieldType := fun k => match k with
  | _ => .int
abbrev wsJx3cf430 : List Cond := u_ws RJx3cf43 TJx3cf43 0
theorem nmJx3cf43 : ∀ a, a < 0 → ∀ b, b < 0 → a ≠ b → (TJx3cf43 a).2.1 ≠ (TJx3cf43 b).2.1 := by decide +kernel
theorem tyJx3cf43_ok : ∀ k, k < 0 → parseFieldDescriptor (TJx3cf43 k).2.2.1 = some (tyJx3cf43 k) := by decide +kernel
def RJ3 : String := "jdk/internal/util/Preconditions"
def TJ3 : u_T := fun k => match k with
  | _ => ("", "", "", false)
def tyJ3 : Nat → FieldType := fun k => match k with
  | _ => .int
abbrev wsJ30 : List Cond := u_ws RJ3 TJ3 0
theorem nmJ3 : ∀ a, a < 0 → ∀ b, b < 0 → a ≠ b → (TJ3 a).2.1 ≠ (TJ3 b).2.1 := by decide +kernel
theorem tyJ3_ok : ∀ k, k < 0 → parseFieldDescriptor (TJ3 k).2.2.1 = some (tyJ3 k) := by decide +kernel
abbrev cJ3_checkIndex_8e157 : ByteArray := prog_29_method_11_code
def yJ3_checkIndex_8e157 : MethodName := ⟨RJ3, "checkIndex", "(IILjava/util/function/BiFunction;)I"⟩
def RL : String := "CountyPrintLaw"
abbrev cL_saves : ByteArray := method_3_code
def yL_saves : MethodName := ⟨RL, "saves", "(LCountyPrint;I[J)I"⟩
abbrev cL_rests : ByteArray := method_4_code
def yL_rests : MethodName := ⟨RL, "rests", "(LCountyPrint;IIII[J)I"⟩
abbrev cL_law : ByteArray := code
def yL_law : MethodName := ⟨RL, "law", "([I)Z"⟩
abbrev vwCl : List vw_C := [(RX0, TX0, 10), (RX1, TX1, 1), (RX2, TX2, 4), (RX3, TX3, 4), (RX4, TX4, 3), (RX5, TX5, 5), (RX6, TX6, 3), (RX7, TX7, 3), (RX8, TX8, 3), (RX9, TX9, 10), (RX10, TX10, 5), (RX11, TX11, 14), (RX12, TX12, 58)]
