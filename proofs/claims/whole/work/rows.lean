section
-- ===== PART A: goes FIRST, ahead of the names: the tables' words, and 'selects' of the private methods out of them =====
/-- a private method of a class that the tables say can be made, by its rows of tables_1 -/
def lw_okq (q : MethodName × Nat) : Prop := (q.1.cls ≠ "java/lang/invoke/MethodHandle" ∧ q.1.cls ≠ "java/lang/invoke/VarHandle") ∧ Cond.instantiable q.1.cls q.2 ∈ tables_1 ∧ Cond.privateMethod q.1 ∈ tables_1 ∧ Cond.instanceMethod q.1 ∈ tables_1
theorem lw_p0 : lw_okq (⟨"CountyPrint$Reader", "begin", "(LCountyPrint$County;)V"⟩, 3) := ⟨⟨by decide +kernel, by decide +kernel⟩, List.mem_of_getElem? (i := 201) (by decide +kernel), List.mem_of_getElem? (i := 420) (by decide +kernel), List.mem_of_getElem? (i := 421) (by decide +kernel)⟩
theorem lw_p1 : lw_okq (⟨"CountyPrint$Tape", "takeWord", "()V"⟩, 10) := ⟨⟨by decide +kernel, by decide +kernel⟩, List.mem_of_getElem? (i := 105) (by decide +kernel), List.mem_of_getElem? (i := 435) (by decide +kernel), List.mem_of_getElem? (i := 436) (by decide +kernel)⟩
theorem lw_p2 : lw_okq (⟨"CountyPrint$Tape", "takeNumber", "()V"⟩, 10) := ⟨⟨by decide +kernel, by decide +kernel⟩, List.mem_of_getElem? (i := 105) (by decide +kernel), List.mem_of_getElem? (i := 442) (by decide +kernel), List.mem_of_getElem? (i := 443) (by decide +kernel)⟩
theorem lw_p3 : lw_okq (⟨"CountyPrint$Tape", "takeSign", "()V"⟩, 10) := ⟨⟨by decide +kernel, by decide +kernel⟩, List.mem_of_getElem? (i := 105) (by decide +kernel), List.mem_of_getElem? (i := 446) (by decide +kernel), List.mem_of_getElem? (i := 447) (by decide +kernel)⟩
theorem lw_p4 : lw_okq (⟨"CountyPrint$Reader", "readShot", "()Z"⟩, 3) := ⟨⟨by decide +kernel, by decide +kernel⟩, List.mem_of_getElem? (i := 201) (by decide +kernel), List.mem_of_getElem? (i := 454) (by decide +kernel), List.mem_of_getElem? (i := 455) (by decide +kernel)⟩
theorem lw_p5 : lw_okq (⟨"CountyPrint$Reader", "fail", "(I)Z"⟩, 3) := ⟨⟨by decide +kernel, by decide +kernel⟩, List.mem_of_getElem? (i := 201) (by decide +kernel), List.mem_of_getElem? (i := 458) (by decide +kernel), List.mem_of_getElem? (i := 459) (by decide +kernel)⟩
theorem lw_p6 : lw_okq (⟨"CountyPrint$Reader", "takeNewName", "()Z"⟩, 3) := ⟨⟨by decide +kernel, by decide +kernel⟩, List.mem_of_getElem? (i := 201) (by decide +kernel), List.mem_of_getElem? (i := 463) (by decide +kernel), List.mem_of_getElem? (i := 464) (by decide +kernel)⟩
theorem lw_p7 : lw_okq (⟨"CountyPrint$Reader", "isName", "()Z"⟩, 3) := ⟨⟨by decide +kernel, by decide +kernel⟩, List.mem_of_getElem? (i := 201) (by decide +kernel), List.mem_of_getElem? (i := 467) (by decide +kernel), List.mem_of_getElem? (i := 468) (by decide +kernel)⟩
theorem lw_p8 : lw_okq (⟨"CountyPrint$Reader", "takeKeyword", "(I)Z"⟩, 3) := ⟨⟨by decide +kernel, by decide +kernel⟩, List.mem_of_getElem? (i := 201) (by decide +kernel), List.mem_of_getElem? (i := 479) (by decide +kernel), List.mem_of_getElem? (i := 480) (by decide +kernel)⟩
theorem lw_p9 : lw_okq (⟨"CountyPrint$Reader", "takeNumber", "(II)Z"⟩, 3) := ⟨⟨by decide +kernel, by decide +kernel⟩, List.mem_of_getElem? (i := 201) (by decide +kernel), List.mem_of_getElem? (i := 483) (by decide +kernel), List.mem_of_getElem? (i := 484) (by decide +kernel)⟩
theorem lw_p10 : lw_okq (⟨"CountyPrint$Reader", "takeSemicolon", "()Z"⟩, 3) := ⟨⟨by decide +kernel, by decide +kernel⟩, List.mem_of_getElem? (i := 201) (by decide +kernel), List.mem_of_getElem? (i := 487) (by decide +kernel), List.mem_of_getElem? (i := 488) (by decide +kernel)⟩
theorem lw_p11 : lw_okq (⟨"CountyPrint$Reader", "readNeeds", "()Z"⟩, 3) := ⟨⟨by decide +kernel, by decide +kernel⟩, List.mem_of_getElem? (i := 201) (by decide +kernel), List.mem_of_getElem? (i := 499) (by decide +kernel), List.mem_of_getElem? (i := 500) (by decide +kernel)⟩
theorem lw_p12 : lw_okq (⟨"CountyPrint$Reader", "takeTold", "(I)Z"⟩, 3) := ⟨⟨by decide +kernel, by decide +kernel⟩, List.mem_of_getElem? (i := 201) (by decide +kernel), List.mem_of_getElem? (i := 503) (by decide +kernel), List.mem_of_getElem? (i := 504) (by decide +kernel)⟩
theorem lw_p13 : lw_okq (⟨"CountyPrint$Reader", "readHall", "()Z"⟩, 3) := ⟨⟨by decide +kernel, by decide +kernel⟩, List.mem_of_getElem? (i := 201) (by decide +kernel), List.mem_of_getElem? (i := 519) (by decide +kernel), List.mem_of_getElem? (i := 520) (by decide +kernel)⟩
theorem lw_p14 : lw_okq (⟨"CountyPrint$Reader", "readExpression", "(I)Z"⟩, 3) := ⟨⟨by decide +kernel, by decide +kernel⟩, List.mem_of_getElem? (i := 201) (by decide +kernel), List.mem_of_getElem? (i := 523) (by decide +kernel), List.mem_of_getElem? (i := 524) (by decide +kernel)⟩
theorem lw_p15 : lw_okq (⟨"CountyPrint$Reader", "readTest", "(I)Z"⟩, 3) := ⟨⟨by decide +kernel, by decide +kernel⟩, List.mem_of_getElem? (i := 201) (by decide +kernel), List.mem_of_getElem? (i := 527) (by decide +kernel), List.mem_of_getElem? (i := 528) (by decide +kernel)⟩
def lw_privs_1 : List (MethodName × Nat) := [(⟨"CountyPrint$Reader", "begin", "(LCountyPrint$County;)V"⟩, 3), (⟨"CountyPrint$Tape", "takeWord", "()V"⟩, 10), (⟨"CountyPrint$Tape", "takeNumber", "()V"⟩, 10), (⟨"CountyPrint$Tape", "takeSign", "()V"⟩, 10), (⟨"CountyPrint$Reader", "readShot", "()Z"⟩, 3), (⟨"CountyPrint$Reader", "fail", "(I)Z"⟩, 3), (⟨"CountyPrint$Reader", "takeNewName", "()Z"⟩, 3), (⟨"CountyPrint$Reader", "isName", "()Z"⟩, 3), (⟨"CountyPrint$Reader", "takeKeyword", "(I)Z"⟩, 3), (⟨"CountyPrint$Reader", "takeNumber", "(II)Z"⟩, 3), (⟨"CountyPrint$Reader", "takeSemicolon", "()Z"⟩, 3), (⟨"CountyPrint$Reader", "readNeeds", "()Z"⟩, 3), (⟨"CountyPrint$Reader", "takeTold", "(I)Z"⟩, 3), (⟨"CountyPrint$Reader", "readHall", "()Z"⟩, 3), (⟨"CountyPrint$Reader", "readExpression", "(I)Z"⟩, 3), (⟨"CountyPrint$Reader", "readTest", "(I)Z"⟩, 3)]
theorem lw_r1 : ∀ q ∈ lw_privs_1, lw_okq q := List.forall_mem_cons.mpr ⟨lw_p0, List.forall_mem_cons.mpr ⟨lw_p1, List.forall_mem_cons.mpr ⟨lw_p2, List.forall_mem_cons.mpr ⟨lw_p3, List.forall_mem_cons.mpr ⟨lw_p4, List.forall_mem_cons.mpr ⟨lw_p5, List.forall_mem_cons.mpr ⟨lw_p6, List.forall_mem_cons.mpr ⟨lw_p7, List.forall_mem_cons.mpr ⟨lw_p8, List.forall_mem_cons.mpr ⟨lw_p9, List.forall_mem_cons.mpr ⟨lw_p10, List.forall_mem_cons.mpr ⟨lw_p11, List.forall_mem_cons.mpr ⟨lw_p12, List.forall_mem_cons.mpr ⟨lw_p13, List.forall_mem_cons.mpr ⟨lw_p14, List.forall_mem_cons.mpr ⟨lw_p15, fun _ h => absurd h List.not_mem_nil⟩⟩⟩⟩⟩⟩⟩⟩⟩⟩⟩⟩⟩⟩⟩⟩
theorem lw_p16 : lw_okq (⟨"CountyPrint$Reader", "readSum", "(I)Z"⟩, 3) := ⟨⟨by decide +kernel, by decide +kernel⟩, List.mem_of_getElem? (i := 201) (by decide +kernel), List.mem_of_getElem? (i := 531) (by decide +kernel), List.mem_of_getElem? (i := 532) (by decide +kernel)⟩
theorem lw_p17 : lw_okq (⟨"CountyPrint$Reader", "readProduct", "(I)Z"⟩, 3) := ⟨⟨by decide +kernel, by decide +kernel⟩, List.mem_of_getElem? (i := 201) (by decide +kernel), List.mem_of_getElem? (i := 535) (by decide +kernel), List.mem_of_getElem? (i := 536) (by decide +kernel)⟩
theorem lw_p18 : lw_okq (⟨"CountyPrint$Reader", "readPart", "(I)Z"⟩, 3) := ⟨⟨by decide +kernel, by decide +kernel⟩, List.mem_of_getElem? (i := 201) (by decide +kernel), List.mem_of_getElem? (i := 539) (by decide +kernel), List.mem_of_getElem? (i := 540) (by decide +kernel)⟩
theorem lw_p19 : lw_okq (⟨"CountyPrint$Reader", "readBracketed", "(I)Z"⟩, 3) := ⟨⟨by decide +kernel, by decide +kernel⟩, List.mem_of_getElem? (i := 201) (by decide +kernel), List.mem_of_getElem? (i := 547) (by decide +kernel), List.mem_of_getElem? (i := 548) (by decide +kernel)⟩
theorem lw_p20 : lw_okq (⟨"CountyPrint$Reader", "readNegated", "(I)Z"⟩, 3) := ⟨⟨by decide +kernel, by decide +kernel⟩, List.mem_of_getElem? (i := 201) (by decide +kernel), List.mem_of_getElem? (i := 551) (by decide +kernel), List.mem_of_getElem? (i := 552) (by decide +kernel)⟩
theorem lw_p21 : lw_okq (⟨"CountyPrint$County", "judge", "(IIII)V"⟩, 10) := ⟨⟨by decide +kernel, by decide +kernel⟩, List.mem_of_getElem? (i := 33) (by decide +kernel), List.mem_of_getElem? (i := 563) (by decide +kernel), List.mem_of_getElem? (i := 564) (by decide +kernel)⟩
theorem lw_p22 : lw_okq (⟨"CountyPrint$County", "keyOf", "(III)I"⟩, 10) := ⟨⟨by decide +kernel, by decide +kernel⟩, List.mem_of_getElem? (i := 33) (by decide +kernel), List.mem_of_getElem? (i := 567) (by decide +kernel), List.mem_of_getElem? (i := 568) (by decide +kernel)⟩
theorem lw_p23 : lw_okq (⟨"CountyPrint", "beginAnew", "()V"⟩, 14) := ⟨⟨by decide +kernel, by decide +kernel⟩, List.mem_of_getElem? (i := 25) (by decide +kernel), List.mem_of_getElem? (i := 582) (by decide +kernel), List.mem_of_getElem? (i := 583) (by decide +kernel)⟩
theorem lw_p24 : lw_okq (⟨"CountyPrint$Reader", "readPlanLine", "(LCountyPrint$Plan;)Z"⟩, 3) := ⟨⟨by decide +kernel, by decide +kernel⟩, List.mem_of_getElem? (i := 201) (by decide +kernel), List.mem_of_getElem? (i := 611) (by decide +kernel), List.mem_of_getElem? (i := 612) (by decide +kernel)⟩
theorem lw_p25 : lw_okq (⟨"CountyPrint$Reader", "readHandling", "(LCountyPrint$Plan;I)Z"⟩, 3) := ⟨⟨by decide +kernel, by decide +kernel⟩, List.mem_of_getElem? (i := 201) (by decide +kernel), List.mem_of_getElem? (i := 615) (by decide +kernel), List.mem_of_getElem? (i := 616) (by decide +kernel)⟩
theorem lw_p26 : lw_okq (⟨"CountyPrint$Reader", "readBare", "(LCountyPrint$Plan;I)Z"⟩, 3) := ⟨⟨by decide +kernel, by decide +kernel⟩, List.mem_of_getElem? (i := 201) (by decide +kernel), List.mem_of_getElem? (i := 623) (by decide +kernel), List.mem_of_getElem? (i := 624) (by decide +kernel)⟩
theorem lw_p27 : lw_okq (⟨"CountyPrint$County", "behind", "(II)I"⟩, 10) := ⟨⟨by decide +kernel, by decide +kernel⟩, List.mem_of_getElem? (i := 33) (by decide +kernel), List.mem_of_getElem? (i := 649) (by decide +kernel), List.mem_of_getElem? (i := 650) (by decide +kernel)⟩
theorem lw_p28 : lw_okq (⟨"CountyPrint$County", "lastOf", "(I)I"⟩, 10) := ⟨⟨by decide +kernel, by decide +kernel⟩, List.mem_of_getElem? (i := 33) (by decide +kernel), List.mem_of_getElem? (i := 653) (by decide +kernel), List.mem_of_getElem? (i := 654) (by decide +kernel)⟩
theorem lw_p29 : lw_okq (⟨"CountyPrint", "liesIn", "(II)Z"⟩, 14) := ⟨⟨by decide +kernel, by decide +kernel⟩, List.mem_of_getElem? (i := 25) (by decide +kernel), List.mem_of_getElem? (i := 690) (by decide +kernel), List.mem_of_getElem? (i := 691) (by decide +kernel)⟩
theorem lw_p30 : lw_okq (⟨"CountyPrint", "nextHall", "()I"⟩, 14) := ⟨⟨by decide +kernel, by decide +kernel⟩, List.mem_of_getElem? (i := 25) (by decide +kernel), List.mem_of_getElem? (i := 725) (by decide +kernel), List.mem_of_getElem? (i := 726) (by decide +kernel)⟩
theorem lw_p31 : lw_okq (⟨"CountyPrint", "rowShownAt", "(I)I"⟩, 14) := ⟨⟨by decide +kernel, by decide +kernel⟩, List.mem_of_getElem? (i := 25) (by decide +kernel), List.mem_of_getElem? (i := 762) (by decide +kernel), List.mem_of_getElem? (i := 763) (by decide +kernel)⟩
def lw_privs_2 : List (MethodName × Nat) := [(⟨"CountyPrint$Reader", "readSum", "(I)Z"⟩, 3), (⟨"CountyPrint$Reader", "readProduct", "(I)Z"⟩, 3), (⟨"CountyPrint$Reader", "readPart", "(I)Z"⟩, 3), (⟨"CountyPrint$Reader", "readBracketed", "(I)Z"⟩, 3), (⟨"CountyPrint$Reader", "readNegated", "(I)Z"⟩, 3), (⟨"CountyPrint$County", "judge", "(IIII)V"⟩, 10), (⟨"CountyPrint$County", "keyOf", "(III)I"⟩, 10), (⟨"CountyPrint", "beginAnew", "()V"⟩, 14), (⟨"CountyPrint$Reader", "readPlanLine", "(LCountyPrint$Plan;)Z"⟩, 3), (⟨"CountyPrint$Reader", "readHandling", "(LCountyPrint$Plan;I)Z"⟩, 3), (⟨"CountyPrint$Reader", "readBare", "(LCountyPrint$Plan;I)Z"⟩, 3), (⟨"CountyPrint$County", "behind", "(II)I"⟩, 10), (⟨"CountyPrint$County", "lastOf", "(I)I"⟩, 10), (⟨"CountyPrint", "liesIn", "(II)Z"⟩, 14), (⟨"CountyPrint", "nextHall", "()I"⟩, 14), (⟨"CountyPrint", "rowShownAt", "(I)I"⟩, 14)]
theorem lw_r2 : ∀ q ∈ lw_privs_2, lw_okq q := List.forall_mem_cons.mpr ⟨lw_p16, List.forall_mem_cons.mpr ⟨lw_p17, List.forall_mem_cons.mpr ⟨lw_p18, List.forall_mem_cons.mpr ⟨lw_p19, List.forall_mem_cons.mpr ⟨lw_p20, List.forall_mem_cons.mpr ⟨lw_p21, List.forall_mem_cons.mpr ⟨lw_p22, List.forall_mem_cons.mpr ⟨lw_p23, List.forall_mem_cons.mpr ⟨lw_p24, List.forall_mem_cons.mpr ⟨lw_p25, List.forall_mem_cons.mpr ⟨lw_p26, List.forall_mem_cons.mpr ⟨lw_p27, List.forall_mem_cons.mpr ⟨lw_p28, List.forall_mem_cons.mpr ⟨lw_p29, List.forall_mem_cons.mpr ⟨lw_p30, List.forall_mem_cons.mpr ⟨lw_p31, fun _ h => absurd h List.not_mem_nil⟩⟩⟩⟩⟩⟩⟩⟩⟩⟩⟩⟩⟩⟩⟩⟩
theorem lw_p32 : lw_okq (⟨"CountyPrint", "isAhead", "(I)Z"⟩, 14) := ⟨⟨by decide +kernel, by decide +kernel⟩, List.mem_of_getElem? (i := 25) (by decide +kernel), List.mem_of_getElem? (i := 766) (by decide +kernel), List.mem_of_getElem? (i := 767) (by decide +kernel)⟩
theorem lw_p33 : lw_okq (⟨"CountyPrint", "nextPlace", "()I"⟩, 14) := ⟨⟨by decide +kernel, by decide +kernel⟩, List.mem_of_getElem? (i := 25) (by decide +kernel), List.mem_of_getElem? (i := 770) (by decide +kernel), List.mem_of_getElem? (i := 771) (by decide +kernel)⟩
theorem lw_p34 : lw_okq (⟨"CountyPrint", "hallsAhead", "()I"⟩, 14) := ⟨⟨by decide +kernel, by decide +kernel⟩, List.mem_of_getElem? (i := 25) (by decide +kernel), List.mem_of_getElem? (i := 832) (by decide +kernel), List.mem_of_getElem? (i := 833) (by decide +kernel)⟩
theorem lw_p35 : lw_okq (⟨"CountyPrint$Ranking", "search", "(LCountyPrint$County;IIII)V"⟩, 3) := ⟨⟨by decide +kernel, by decide +kernel⟩, List.mem_of_getElem? (i := 333) (by decide +kernel), List.mem_of_getElem? (i := 840) (by decide +kernel), List.mem_of_getElem? (i := 841) (by decide +kernel)⟩
theorem lw_p36 : lw_okq (⟨"CountyPrint$Ranking", "keepPath", "()V"⟩, 3) := ⟨⟨by decide +kernel, by decide +kernel⟩, List.mem_of_getElem? (i := 333) (by decide +kernel), List.mem_of_getElem? (i := 844) (by decide +kernel), List.mem_of_getElem? (i := 845) (by decide +kernel)⟩
theorem lw_p37 : lw_okq (⟨"CountyPrint", "fillRows", "()V"⟩, 14) := ⟨⟨by decide +kernel, by decide +kernel⟩, List.mem_of_getElem? (i := 25) (by decide +kernel), List.mem_of_getElem? (i := 855) (by decide +kernel), List.mem_of_getElem? (i := 856) (by decide +kernel)⟩
theorem lw_p38 : lw_okq (⟨"CountyPrint", "seenBy", "(I)I"⟩, 14) := ⟨⟨by decide +kernel, by decide +kernel⟩, List.mem_of_getElem? (i := 25) (by decide +kernel), List.mem_of_getElem? (i := 859) (by decide +kernel), List.mem_of_getElem? (i := 860) (by decide +kernel)⟩
theorem lw_p39 : lw_okq (⟨"CountyPrint", "greaterPart", "(II)I"⟩, 14) := ⟨⟨by decide +kernel, by decide +kernel⟩, List.mem_of_getElem? (i := 25) (by decide +kernel), List.mem_of_getElem? (i := 918) (by decide +kernel), List.mem_of_getElem? (i := 919) (by decide +kernel)⟩
theorem lw_p40 : lw_okq (⟨"CountyPrint", "giveBackByDraw", "()V"⟩, 14) := ⟨⟨by decide +kernel, by decide +kernel⟩, List.mem_of_getElem? (i := 25) (by decide +kernel), List.mem_of_getElem? (i := 943) (by decide +kernel), List.mem_of_getElem? (i := 944) (by decide +kernel)⟩
theorem lw_p41 : lw_okq (⟨"java/lang/Throwable", "fillInStackTrace", "(I)Ljava/lang/Throwable;"⟩, 6) := ⟨⟨by decide +kernel, by decide +kernel⟩, List.mem_of_getElem? (i := 1016) (by decide +kernel), List.mem_of_getElem? (i := 1014) (by decide +kernel), List.mem_of_getElem? (i := 1015) (by decide +kernel)⟩
theorem lw_p42 : lw_okq (⟨"CountyPrint", "minutesTogether", "(I)I"⟩, 14) := ⟨⟨by decide +kernel, by decide +kernel⟩, List.mem_of_getElem? (i := 25) (by decide +kernel), List.mem_of_getElem? (i := 1045) (by decide +kernel), List.mem_of_getElem? (i := 1046) (by decide +kernel)⟩
theorem lw_p43 : lw_okq (⟨"CountyPrintModel", "fresh", "()V"⟩, 58) := ⟨⟨by decide +kernel, by decide +kernel⟩, List.mem_of_getElem? (i := 1067) (by decide +kernel), List.mem_of_getElem? (i := 1073) (by decide +kernel), List.mem_of_getElem? (i := 1074) (by decide +kernel)⟩
theorem lw_p44 : lw_okq (⟨"CountyPrintModel", "allShots", "()I"⟩, 58) := ⟨⟨by decide +kernel, by decide +kernel⟩, List.mem_of_getElem? (i := 1067) (by decide +kernel), List.mem_of_getElem? (i := 1077) (by decide +kernel), List.mem_of_getElem? (i := 1078) (by decide +kernel)⟩
theorem lw_p45 : lw_okq (⟨"CountyPrintModel", "readsAll", "()Z"⟩, 58) := ⟨⟨by decide +kernel, by decide +kernel⟩, List.mem_of_getElem? (i := 1067) (by decide +kernel), List.mem_of_getElem? (i := 1269) (by decide +kernel), List.mem_of_getElem? (i := 1270) (by decide +kernel)⟩
theorem lw_p46 : lw_okq (⟨"CountyPrintModel", "begins", "()V"⟩, 58) := ⟨⟨by decide +kernel, by decide +kernel⟩, List.mem_of_getElem? (i := 1067) (by decide +kernel), List.mem_of_getElem? (i := 1273) (by decide +kernel), List.mem_of_getElem? (i := 1274) (by decide +kernel)⟩
theorem lw_p47 : lw_okq (⟨"CountyPrintModel", "nextToken", "()V"⟩, 58) := ⟨⟨by decide +kernel, by decide +kernel⟩, List.mem_of_getElem? (i := 1067) (by decide +kernel), List.mem_of_getElem? (i := 1277) (by decide +kernel), List.mem_of_getElem? (i := 1278) (by decide +kernel)⟩
def lw_privs_3 : List (MethodName × Nat) := [(⟨"CountyPrint", "isAhead", "(I)Z"⟩, 14), (⟨"CountyPrint", "nextPlace", "()I"⟩, 14), (⟨"CountyPrint", "hallsAhead", "()I"⟩, 14), (⟨"CountyPrint$Ranking", "search", "(LCountyPrint$County;IIII)V"⟩, 3), (⟨"CountyPrint$Ranking", "keepPath", "()V"⟩, 3), (⟨"CountyPrint", "fillRows", "()V"⟩, 14), (⟨"CountyPrint", "seenBy", "(I)I"⟩, 14), (⟨"CountyPrint", "greaterPart", "(II)I"⟩, 14), (⟨"CountyPrint", "giveBackByDraw", "()V"⟩, 14), (⟨"java/lang/Throwable", "fillInStackTrace", "(I)Ljava/lang/Throwable;"⟩, 6), (⟨"CountyPrint", "minutesTogether", "(I)I"⟩, 14), (⟨"CountyPrintModel", "fresh", "()V"⟩, 58), (⟨"CountyPrintModel", "allShots", "()I"⟩, 58), (⟨"CountyPrintModel", "readsAll", "()Z"⟩, 58), (⟨"CountyPrintModel", "begins", "()V"⟩, 58), (⟨"CountyPrintModel", "nextToken", "()V"⟩, 58)]
theorem lw_r3 : ∀ q ∈ lw_privs_3, lw_okq q := List.forall_mem_cons.mpr ⟨lw_p32, List.forall_mem_cons.mpr ⟨lw_p33, List.forall_mem_cons.mpr ⟨lw_p34, List.forall_mem_cons.mpr ⟨lw_p35, List.forall_mem_cons.mpr ⟨lw_p36, List.forall_mem_cons.mpr ⟨lw_p37, List.forall_mem_cons.mpr ⟨lw_p38, List.forall_mem_cons.mpr ⟨lw_p39, List.forall_mem_cons.mpr ⟨lw_p40, List.forall_mem_cons.mpr ⟨lw_p41, List.forall_mem_cons.mpr ⟨lw_p42, List.forall_mem_cons.mpr ⟨lw_p43, List.forall_mem_cons.mpr ⟨lw_p44, List.forall_mem_cons.mpr ⟨lw_p45, List.forall_mem_cons.mpr ⟨lw_p46, List.forall_mem_cons.mpr ⟨lw_p47, fun _ h => absurd h List.not_mem_nil⟩⟩⟩⟩⟩⟩⟩⟩⟩⟩⟩⟩⟩⟩⟩⟩
theorem lw_p48 : lw_okq (⟨"CountyPrintModel", "signAt", "(I)I"⟩, 58) := ⟨⟨by decide +kernel, by decide +kernel⟩, List.mem_of_getElem? (i := 1067) (by decide +kernel), List.mem_of_getElem? (i := 1281) (by decide +kernel), List.mem_of_getElem? (i := 1282) (by decide +kernel)⟩
theorem lw_p49 : lw_okq (⟨"CountyPrintModel", "isWord", "(J)Z"⟩, 58) := ⟨⟨by decide +kernel, by decide +kernel⟩, List.mem_of_getElem? (i := 1067) (by decide +kernel), List.mem_of_getElem? (i := 1288) (by decide +kernel), List.mem_of_getElem? (i := 1289) (by decide +kernel)⟩
theorem lw_p50 : lw_okq (⟨"CountyPrintModel", "readsShot", "()Z"⟩, 58) := ⟨⟨by decide +kernel, by decide +kernel⟩, List.mem_of_getElem? (i := 1067) (by decide +kernel), List.mem_of_getElem? (i := 1292) (by decide +kernel), List.mem_of_getElem? (i := 1293) (by decide +kernel)⟩
theorem lw_p51 : lw_okq (⟨"CountyPrintModel", "fails", "(I)Z"⟩, 58) := ⟨⟨by decide +kernel, by decide +kernel⟩, List.mem_of_getElem? (i := 1067) (by decide +kernel), List.mem_of_getElem? (i := 1296) (by decide +kernel), List.mem_of_getElem? (i := 1297) (by decide +kernel)⟩
theorem lw_p52 : lw_okq (⟨"CountyPrintModel", "needsNew", "()Z"⟩, 58) := ⟨⟨by decide +kernel, by decide +kernel⟩, List.mem_of_getElem? (i := 1067) (by decide +kernel), List.mem_of_getElem? (i := 1300) (by decide +kernel), List.mem_of_getElem? (i := 1301) (by decide +kernel)⟩
theorem lw_p53 : lw_okq (⟨"CountyPrintModel", "isKept", "()Z"⟩, 58) := ⟨⟨by decide +kernel, by decide +kernel⟩, List.mem_of_getElem? (i := 1067) (by decide +kernel), List.mem_of_getElem? (i := 1304) (by decide +kernel), List.mem_of_getElem? (i := 1305) (by decide +kernel)⟩
theorem lw_p54 : lw_okq (⟨"CountyPrintModel", "shotNamed", "(I)I"⟩, 58) := ⟨⟨by decide +kernel, by decide +kernel⟩, List.mem_of_getElem? (i := 1067) (by decide +kernel), List.mem_of_getElem? (i := 1324) (by decide +kernel), List.mem_of_getElem? (i := 1325) (by decide +kernel)⟩
theorem lw_p55 : lw_okq (⟨"CountyPrintModel", "hallNamed", "(I)I"⟩, 58) := ⟨⟨by decide +kernel, by decide +kernel⟩, List.mem_of_getElem? (i := 1067) (by decide +kernel), List.mem_of_getElem? (i := 1328) (by decide +kernel), List.mem_of_getElem? (i := 1329) (by decide +kernel)⟩
theorem lw_p56 : lw_okq (⟨"CountyPrintModel", "needsWord", "(J)Z"⟩, 58) := ⟨⟨by decide +kernel, by decide +kernel⟩, List.mem_of_getElem? (i := 1067) (by decide +kernel), List.mem_of_getElem? (i := 1332) (by decide +kernel), List.mem_of_getElem? (i := 1333) (by decide +kernel)⟩
theorem lw_p57 : lw_okq (⟨"CountyPrintModel", "needsNumber", "(II)Z"⟩, 58) := ⟨⟨by decide +kernel, by decide +kernel⟩, List.mem_of_getElem? (i := 1067) (by decide +kernel), List.mem_of_getElem? (i := 1336) (by decide +kernel), List.mem_of_getElem? (i := 1337) (by decide +kernel)⟩
theorem lw_p58 : lw_okq (⟨"CountyPrintModel", "closes", "()Z"⟩, 58) := ⟨⟨by decide +kernel, by decide +kernel⟩, List.mem_of_getElem? (i := 1067) (by decide +kernel), List.mem_of_getElem? (i := 1343) (by decide +kernel), List.mem_of_getElem? (i := 1344) (by decide +kernel)⟩
theorem lw_p59 : lw_okq (⟨"CountyPrintModel", "isSign", "(I)Z"⟩, 58) := ⟨⟨by decide +kernel, by decide +kernel⟩, List.mem_of_getElem? (i := 1067) (by decide +kernel), List.mem_of_getElem? (i := 1347) (by decide +kernel), List.mem_of_getElem? (i := 1348) (by decide +kernel)⟩
theorem lw_p60 : lw_okq (⟨"CountyPrintModel", "readsNeeds", "()Z"⟩, 58) := ⟨⟨by decide +kernel, by decide +kernel⟩, List.mem_of_getElem? (i := 1067) (by decide +kernel), List.mem_of_getElem? (i := 1351) (by decide +kernel), List.mem_of_getElem? (i := 1352) (by decide +kernel)⟩
theorem lw_p61 : lw_okq (⟨"CountyPrintModel", "needsShot", "(I)Z"⟩, 58) := ⟨⟨by decide +kernel, by decide +kernel⟩, List.mem_of_getElem? (i := 1067) (by decide +kernel), List.mem_of_getElem? (i := 1355) (by decide +kernel), List.mem_of_getElem? (i := 1356) (by decide +kernel)⟩
theorem lw_p62 : lw_okq (⟨"CountyPrintModel", "readsHall", "()Z"⟩, 58) := ⟨⟨by decide +kernel, by decide +kernel⟩, List.mem_of_getElem? (i := 1067) (by decide +kernel), List.mem_of_getElem? (i := 1359) (by decide +kernel), List.mem_of_getElem? (i := 1360) (by decide +kernel)⟩
theorem lw_p63 : lw_okq (⟨"CountyPrintModel", "reads", "()Z"⟩, 58) := ⟨⟨by decide +kernel, by decide +kernel⟩, List.mem_of_getElem? (i := 1067) (by decide +kernel), List.mem_of_getElem? (i := 1363) (by decide +kernel), List.mem_of_getElem? (i := 1364) (by decide +kernel)⟩
def lw_privs_4 : List (MethodName × Nat) := [(⟨"CountyPrintModel", "signAt", "(I)I"⟩, 58), (⟨"CountyPrintModel", "isWord", "(J)Z"⟩, 58), (⟨"CountyPrintModel", "readsShot", "()Z"⟩, 58), (⟨"CountyPrintModel", "fails", "(I)Z"⟩, 58), (⟨"CountyPrintModel", "needsNew", "()Z"⟩, 58), (⟨"CountyPrintModel", "isKept", "()Z"⟩, 58), (⟨"CountyPrintModel", "shotNamed", "(I)I"⟩, 58), (⟨"CountyPrintModel", "hallNamed", "(I)I"⟩, 58), (⟨"CountyPrintModel", "needsWord", "(J)Z"⟩, 58), (⟨"CountyPrintModel", "needsNumber", "(II)Z"⟩, 58), (⟨"CountyPrintModel", "closes", "()Z"⟩, 58), (⟨"CountyPrintModel", "isSign", "(I)Z"⟩, 58), (⟨"CountyPrintModel", "readsNeeds", "()Z"⟩, 58), (⟨"CountyPrintModel", "needsShot", "(I)Z"⟩, 58), (⟨"CountyPrintModel", "readsHall", "()Z"⟩, 58), (⟨"CountyPrintModel", "reads", "()Z"⟩, 58)]
theorem lw_r4 : ∀ q ∈ lw_privs_4, lw_okq q := List.forall_mem_cons.mpr ⟨lw_p48, List.forall_mem_cons.mpr ⟨lw_p49, List.forall_mem_cons.mpr ⟨lw_p50, List.forall_mem_cons.mpr ⟨lw_p51, List.forall_mem_cons.mpr ⟨lw_p52, List.forall_mem_cons.mpr ⟨lw_p53, List.forall_mem_cons.mpr ⟨lw_p54, List.forall_mem_cons.mpr ⟨lw_p55, List.forall_mem_cons.mpr ⟨lw_p56, List.forall_mem_cons.mpr ⟨lw_p57, List.forall_mem_cons.mpr ⟨lw_p58, List.forall_mem_cons.mpr ⟨lw_p59, List.forall_mem_cons.mpr ⟨lw_p60, List.forall_mem_cons.mpr ⟨lw_p61, List.forall_mem_cons.mpr ⟨lw_p62, List.forall_mem_cons.mpr ⟨lw_p63, fun _ h => absurd h List.not_mem_nil⟩⟩⟩⟩⟩⟩⟩⟩⟩⟩⟩⟩⟩⟩⟩⟩
theorem lw_p64 : lw_okq (⟨"CountyPrintModel", "fact", "()I"⟩, 58) := ⟨⟨by decide +kernel, by decide +kernel⟩, List.mem_of_getElem? (i := 1067) (by decide +kernel), List.mem_of_getElem? (i := 1367) (by decide +kernel), List.mem_of_getElem? (i := 1368) (by decide +kernel)⟩
theorem lw_p65 : lw_okq (⟨"CountyPrintModel", "puts", "(I)V"⟩, 58) := ⟨⟨by decide +kernel, by decide +kernel⟩, List.mem_of_getElem? (i := 1067) (by decide +kernel), List.mem_of_getElem? (i := 1375) (by decide +kernel), List.mem_of_getElem? (i := 1376) (by decide +kernel)⟩
theorem lw_p66 : lw_okq (⟨"CountyPrintModel", "lays", "()V"⟩, 58) := ⟨⟨by decide +kernel, by decide +kernel⟩, List.mem_of_getElem? (i := 1067) (by decide +kernel), List.mem_of_getElem? (i := 1379) (by decide +kernel), List.mem_of_getElem? (i := 1380) (by decide +kernel)⟩
theorem lw_p67 : lw_okq (⟨"CountyPrintModel", "readsLine", "()Z"⟩, 58) := ⟨⟨by decide +kernel, by decide +kernel⟩, List.mem_of_getElem? (i := 1067) (by decide +kernel), List.mem_of_getElem? (i := 1393) (by decide +kernel), List.mem_of_getElem? (i := 1394) (by decide +kernel)⟩
theorem lw_p68 : lw_okq (⟨"CountyPrintModel", "needsHall", "()Z"⟩, 58) := ⟨⟨by decide +kernel, by decide +kernel⟩, List.mem_of_getElem? (i := 1067) (by decide +kernel), List.mem_of_getElem? (i := 1397) (by decide +kernel), List.mem_of_getElem? (i := 1398) (by decide +kernel)⟩
theorem lw_p69 : lw_okq (⟨"CountyPrintModel", "laysLines", "(II)V"⟩, 58) := ⟨⟨by decide +kernel, by decide +kernel⟩, List.mem_of_getElem? (i := 1067) (by decide +kernel), List.mem_of_getElem? (i := 1401) (by decide +kernel), List.mem_of_getElem? (i := 1402) (by decide +kernel)⟩
theorem lw_p70 : lw_okq (⟨"CountyPrintModel", "isShot", "(I)Z"⟩, 58) := ⟨⟨by decide +kernel, by decide +kernel⟩, List.mem_of_getElem? (i := 1067) (by decide +kernel), List.mem_of_getElem? (i := 1409) (by decide +kernel), List.mem_of_getElem? (i := 1410) (by decide +kernel)⟩
theorem lw_p71 : lw_okq (⟨"CountyPrintModel", "isHall", "(I)Z"⟩, 58) := ⟨⟨by decide +kernel, by decide +kernel⟩, List.mem_of_getElem? (i := 1067) (by decide +kernel), List.mem_of_getElem? (i := 1417) (by decide +kernel), List.mem_of_getElem? (i := 1418) (by decide +kernel)⟩
theorem lw_p72 : lw_okq (⟨"CountyPrintModel", "drawerOf", "(I)I"⟩, 58) := ⟨⟨by decide +kernel, by decide +kernel⟩, List.mem_of_getElem? (i := 1067) (by decide +kernel), List.mem_of_getElem? (i := 1421) (by decide +kernel), List.mem_of_getElem? (i := 1422) (by decide +kernel)⟩
theorem lw_p73 : lw_okq (⟨"CountyPrintModel", "placeOf", "(I)I"⟩, 58) := ⟨⟨by decide +kernel, by decide +kernel⟩, List.mem_of_getElem? (i := 1067) (by decide +kernel), List.mem_of_getElem? (i := 1425) (by decide +kernel), List.mem_of_getElem? (i := 1426) (by decide +kernel)⟩
theorem lw_p74 : lw_okq (⟨"CountyPrintModel", "takesOut", "(II)I"⟩, 58) := ⟨⟨by decide +kernel, by decide +kernel⟩, List.mem_of_getElem? (i := 1067) (by decide +kernel), List.mem_of_getElem? (i := 1429) (by decide +kernel), List.mem_of_getElem? (i := 1430) (by decide +kernel)⟩
theorem lw_p75 : lw_okq (⟨"CountyPrintModel", "hates", "(IIII)Z"⟩, 58) := ⟨⟨by decide +kernel, by decide +kernel⟩, List.mem_of_getElem? (i := 1067) (by decide +kernel), List.mem_of_getElem? (i := 1433) (by decide +kernel), List.mem_of_getElem? (i := 1434) (by decide +kernel)⟩
theorem lw_p76 : lw_okq (⟨"CountyPrintModel", "worked", "(I)I"⟩, 58) := ⟨⟨by decide +kernel, by decide +kernel⟩, List.mem_of_getElem? (i := 1067) (by decide +kernel), List.mem_of_getElem? (i := 1437) (by decide +kernel), List.mem_of_getElem? (i := 1438) (by decide +kernel)⟩
theorem lw_p77 : lw_okq (⟨"CountyPrintModel", "opens", "(I)V"⟩, 58) := ⟨⟨by decide +kernel, by decide +kernel⟩, List.mem_of_getElem? (i := 1067) (by decide +kernel), List.mem_of_getElem? (i := 1441) (by decide +kernel), List.mem_of_getElem? (i := 1442) (by decide +kernel)⟩
theorem lw_p78 : lw_okq (⟨"CountyPrintModel", "sums", "(I)V"⟩, 58) := ⟨⟨by decide +kernel, by decide +kernel⟩, List.mem_of_getElem? (i := 1067) (by decide +kernel), List.mem_of_getElem? (i := 1445) (by decide +kernel), List.mem_of_getElem? (i := 1446) (by decide +kernel)⟩
theorem lw_p79 : lw_okq (⟨"CountyPrintModel", "tests", "(I)V"⟩, 58) := ⟨⟨by decide +kernel, by decide +kernel⟩, List.mem_of_getElem? (i := 1067) (by decide +kernel), List.mem_of_getElem? (i := 1449) (by decide +kernel), List.mem_of_getElem? (i := 1450) (by decide +kernel)⟩
def lw_privs_5 : List (MethodName × Nat) := [(⟨"CountyPrintModel", "fact", "()I"⟩, 58), (⟨"CountyPrintModel", "puts", "(I)V"⟩, 58), (⟨"CountyPrintModel", "lays", "()V"⟩, 58), (⟨"CountyPrintModel", "readsLine", "()Z"⟩, 58), (⟨"CountyPrintModel", "needsHall", "()Z"⟩, 58), (⟨"CountyPrintModel", "laysLines", "(II)V"⟩, 58), (⟨"CountyPrintModel", "isShot", "(I)Z"⟩, 58), (⟨"CountyPrintModel", "isHall", "(I)Z"⟩, 58), (⟨"CountyPrintModel", "drawerOf", "(I)I"⟩, 58), (⟨"CountyPrintModel", "placeOf", "(I)I"⟩, 58), (⟨"CountyPrintModel", "takesOut", "(II)I"⟩, 58), (⟨"CountyPrintModel", "hates", "(IIII)Z"⟩, 58), (⟨"CountyPrintModel", "worked", "(I)I"⟩, 58), (⟨"CountyPrintModel", "opens", "(I)V"⟩, 58), (⟨"CountyPrintModel", "sums", "(I)V"⟩, 58), (⟨"CountyPrintModel", "tests", "(I)V"⟩, 58)]
theorem lw_r5 : ∀ q ∈ lw_privs_5, lw_okq q := List.forall_mem_cons.mpr ⟨lw_p64, List.forall_mem_cons.mpr ⟨lw_p65, List.forall_mem_cons.mpr ⟨lw_p66, List.forall_mem_cons.mpr ⟨lw_p67, List.forall_mem_cons.mpr ⟨lw_p68, List.forall_mem_cons.mpr ⟨lw_p69, List.forall_mem_cons.mpr ⟨lw_p70, List.forall_mem_cons.mpr ⟨lw_p71, List.forall_mem_cons.mpr ⟨lw_p72, List.forall_mem_cons.mpr ⟨lw_p73, List.forall_mem_cons.mpr ⟨lw_p74, List.forall_mem_cons.mpr ⟨lw_p75, List.forall_mem_cons.mpr ⟨lw_p76, List.forall_mem_cons.mpr ⟨lw_p77, List.forall_mem_cons.mpr ⟨lw_p78, List.forall_mem_cons.mpr ⟨lw_p79, fun _ h => absurd h List.not_mem_nil⟩⟩⟩⟩⟩⟩⟩⟩⟩⟩⟩⟩⟩⟩⟩⟩
theorem lw_p80 : lw_okq (⟨"CountyPrintModel", "keeps", "()V"⟩, 58) := ⟨⟨by decide +kernel, by decide +kernel⟩, List.mem_of_getElem? (i := 1067) (by decide +kernel), List.mem_of_getElem? (i := 1457) (by decide +kernel), List.mem_of_getElem? (i := 1458) (by decide +kernel)⟩
theorem lw_p81 : lw_okq (⟨"CountyPrintModel", "shows", "()V"⟩, 58) := ⟨⟨by decide +kernel, by decide +kernel⟩, List.mem_of_getElem? (i := 1067) (by decide +kernel), List.mem_of_getElem? (i := 1464) (by decide +kernel), List.mem_of_getElem? (i := 1465) (by decide +kernel)⟩
theorem lw_p82 : lw_okq (⟨"CountyPrintModel", "cuts", "(I)V"⟩, 58) := ⟨⟨by decide +kernel, by decide +kernel⟩, List.mem_of_getElem? (i := 1067) (by decide +kernel), List.mem_of_getElem? (i := 1468) (by decide +kernel), List.mem_of_getElem? (i := 1469) (by decide +kernel)⟩
theorem lw_p83 : lw_okq (⟨"CountyPrintModel", "minutesOf", "(I)I"⟩, 58) := ⟨⟨by decide +kernel, by decide +kernel⟩, List.mem_of_getElem? (i := 1067) (by decide +kernel), List.mem_of_getElem? (i := 1472) (by decide +kernel), List.mem_of_getElem? (i := 1473) (by decide +kernel)⟩
theorem lw_p84 : lw_okq (⟨"CountyPrintModel", "goesBack", "(I)V"⟩, 58) := ⟨⟨by decide +kernel, by decide +kernel⟩, List.mem_of_getElem? (i := 1067) (by decide +kernel), List.mem_of_getElem? (i := 1480) (by decide +kernel), List.mem_of_getElem? (i := 1481) (by decide +kernel)⟩
theorem lw_p85 : lw_okq (⟨"CountyPrintModel", "turns", "()V"⟩, 58) := ⟨⟨by decide +kernel, by decide +kernel⟩, List.mem_of_getElem? (i := 1067) (by decide +kernel), List.mem_of_getElem? (i := 1495) (by decide +kernel), List.mem_of_getElem? (i := 1496) (by decide +kernel)⟩
theorem lw_p86 : lw_okq (⟨"CountyPrintModel", "nextHall", "()I"⟩, 58) := ⟨⟨by decide +kernel, by decide +kernel⟩, List.mem_of_getElem? (i := 1067) (by decide +kernel), List.mem_of_getElem? (i := 1499) (by decide +kernel), List.mem_of_getElem? (i := 1500) (by decide +kernel)⟩
theorem lw_p87 : lw_okq (⟨"CountyPrintModel", "goes", "(I)Z"⟩, 58) := ⟨⟨by decide +kernel, by decide +kernel⟩, List.mem_of_getElem? (i := 1067) (by decide +kernel), List.mem_of_getElem? (i := 1511) (by decide +kernel), List.mem_of_getElem? (i := 1512) (by decide +kernel)⟩
theorem lw_p88 : lw_okq (⟨"CountyPrintModel", "makesSense", "(I)Z"⟩, 58) := ⟨⟨by decide +kernel, by decide +kernel⟩, List.mem_of_getElem? (i := 1067) (by decide +kernel), List.mem_of_getElem? (i := 1515) (by decide +kernel), List.mem_of_getElem? (i := 1516) (by decide +kernel)⟩
theorem lw_p89 : lw_okq (⟨"CountyPrintModel", "goesOn", "(I)V"⟩, 58) := ⟨⟨by decide +kernel, by decide +kernel⟩, List.mem_of_getElem? (i := 1067) (by decide +kernel), List.mem_of_getElem? (i := 1523) (by decide +kernel), List.mem_of_getElem? (i := 1524) (by decide +kernel)⟩
theorem lw_p90 : lw_okq (⟨"CountyPrintModel", "ofSort", "(II)I"⟩, 58) := ⟨⟨by decide +kernel, by decide +kernel⟩, List.mem_of_getElem? (i := 1067) (by decide +kernel), List.mem_of_getElem? (i := 1551) (by decide +kernel), List.mem_of_getElem? (i := 1552) (by decide +kernel)⟩
theorem lw_p91 : lw_okq (⟨"CountyPrintModel", "unlikeFrom", "(I)I"⟩, 58) := ⟨⟨by decide +kernel, by decide +kernel⟩, List.mem_of_getElem? (i := 1067) (by decide +kernel), List.mem_of_getElem? (i := 1559) (by decide +kernel), List.mem_of_getElem? (i := 1560) (by decide +kernel)⟩
theorem lw_p92 : lw_okq (⟨"CountyPrintModel", "orders", "(IIII)V"⟩, 58) := ⟨⟨by decide +kernel, by decide +kernel⟩, List.mem_of_getElem? (i := 1067) (by decide +kernel), List.mem_of_getElem? (i := 1576) (by decide +kernel), List.mem_of_getElem? (i := 1577) (by decide +kernel)⟩
theorem lw_p93 : lw_okq (⟨"CountyPrintModel", "otherFilm", "()I"⟩, 58) := ⟨⟨by decide +kernel, by decide +kernel⟩, List.mem_of_getElem? (i := 1067) (by decide +kernel), List.mem_of_getElem? (i := 1588) (by decide +kernel), List.mem_of_getElem? (i := 1589) (by decide +kernel)⟩
theorem lw_p94 : lw_okq (⟨"CountyPrintModel", "inDrawers", "()I"⟩, 58) := ⟨⟨by decide +kernel, by decide +kernel⟩, List.mem_of_getElem? (i := 1067) (by decide +kernel), List.mem_of_getElem? (i := 1592) (by decide +kernel), List.mem_of_getElem? (i := 1593) (by decide +kernel)⟩
theorem lw_p95 : lw_okq (⟨"CountyPrintModel", "hallsAsSeen", "()I"⟩, 58) := ⟨⟨by decide +kernel, by decide +kernel⟩, List.mem_of_getElem? (i := 1067) (by decide +kernel), List.mem_of_getElem? (i := 1620) (by decide +kernel), List.mem_of_getElem? (i := 1621) (by decide +kernel)⟩
def lw_privs_6 : List (MethodName × Nat) := [(⟨"CountyPrintModel", "keeps", "()V"⟩, 58), (⟨"CountyPrintModel", "shows", "()V"⟩, 58), (⟨"CountyPrintModel", "cuts", "(I)V"⟩, 58), (⟨"CountyPrintModel", "minutesOf", "(I)I"⟩, 58), (⟨"CountyPrintModel", "goesBack", "(I)V"⟩, 58), (⟨"CountyPrintModel", "turns", "()V"⟩, 58), (⟨"CountyPrintModel", "nextHall", "()I"⟩, 58), (⟨"CountyPrintModel", "goes", "(I)Z"⟩, 58), (⟨"CountyPrintModel", "makesSense", "(I)Z"⟩, 58), (⟨"CountyPrintModel", "goesOn", "(I)V"⟩, 58), (⟨"CountyPrintModel", "ofSort", "(II)I"⟩, 58), (⟨"CountyPrintModel", "unlikeFrom", "(I)I"⟩, 58), (⟨"CountyPrintModel", "orders", "(IIII)V"⟩, 58), (⟨"CountyPrintModel", "otherFilm", "()I"⟩, 58), (⟨"CountyPrintModel", "inDrawers", "()I"⟩, 58), (⟨"CountyPrintModel", "hallsAsSeen", "()I"⟩, 58)]
theorem lw_r6 : ∀ q ∈ lw_privs_6, lw_okq q := List.forall_mem_cons.mpr ⟨lw_p80, List.forall_mem_cons.mpr ⟨lw_p81, List.forall_mem_cons.mpr ⟨lw_p82, List.forall_mem_cons.mpr ⟨lw_p83, List.forall_mem_cons.mpr ⟨lw_p84, List.forall_mem_cons.mpr ⟨lw_p85, List.forall_mem_cons.mpr ⟨lw_p86, List.forall_mem_cons.mpr ⟨lw_p87, List.forall_mem_cons.mpr ⟨lw_p88, List.forall_mem_cons.mpr ⟨lw_p89, List.forall_mem_cons.mpr ⟨lw_p90, List.forall_mem_cons.mpr ⟨lw_p91, List.forall_mem_cons.mpr ⟨lw_p92, List.forall_mem_cons.mpr ⟨lw_p93, List.forall_mem_cons.mpr ⟨lw_p94, List.forall_mem_cons.mpr ⟨lw_p95, fun _ h => absurd h List.not_mem_nil⟩⟩⟩⟩⟩⟩⟩⟩⟩⟩⟩⟩⟩⟩⟩⟩
theorem lw_p96 : lw_okq (⟨"CountyPrintModel", "draws", "(I)I"⟩, 58) := ⟨⟨by decide +kernel, by decide +kernel⟩, List.mem_of_getElem? (i := 1067) (by decide +kernel), List.mem_of_getElem? (i := 1643) (by decide +kernel), List.mem_of_getElem? (i := 1644) (by decide +kernel)⟩
theorem lw_p97 : lw_okq (⟨"CountyPrintModel", "givesSome", "()V"⟩, 58) := ⟨⟨by decide +kernel, by decide +kernel⟩, List.mem_of_getElem? (i := 1067) (by decide +kernel), List.mem_of_getElem? (i := 1651) (by decide +kernel), List.mem_of_getElem? (i := 1652) (by decide +kernel)⟩
theorem lw_p98 : lw_okq (⟨"CountyPrintModel", "nth", "(II)I"⟩, 58) := ⟨⟨by decide +kernel, by decide +kernel⟩, List.mem_of_getElem? (i := 1067) (by decide +kernel), List.mem_of_getElem? (i := 1655) (by decide +kernel), List.mem_of_getElem? (i := 1656) (by decide +kernel)⟩
theorem lw_p99 : lw_okq (⟨"CountyPrintModel", "laysSeen", "(II)V"⟩, 58) := ⟨⟨by decide +kernel, by decide +kernel⟩, List.mem_of_getElem? (i := 1067) (by decide +kernel), List.mem_of_getElem? (i := 1663) (by decide +kernel), List.mem_of_getElem? (i := 1664) (by decide +kernel)⟩
def lw_privs_7 : List (MethodName × Nat) := [(⟨"CountyPrintModel", "draws", "(I)I"⟩, 58), (⟨"CountyPrintModel", "givesSome", "()V"⟩, 58), (⟨"CountyPrintModel", "nth", "(II)I"⟩, 58), (⟨"CountyPrintModel", "laysSeen", "(II)V"⟩, 58)]
theorem lw_r7 : ∀ q ∈ lw_privs_7, lw_okq q := List.forall_mem_cons.mpr ⟨lw_p96, List.forall_mem_cons.mpr ⟨lw_p97, List.forall_mem_cons.mpr ⟨lw_p98, List.forall_mem_cons.mpr ⟨lw_p99, fun _ h => absurd h List.not_mem_nil⟩⟩⟩⟩
def lw_privs : List (MethodName × Nat) := lw_privs_1 ++ (lw_privs_2 ++ (lw_privs_3 ++ (lw_privs_4 ++ (lw_privs_5 ++ (lw_privs_6 ++ (lw_privs_7))))))
def lw_tbl : List Cond := k2_sels lw_privs ++ tables_1
theorem lw_privs_ok : ∀ q ∈ lw_privs, lw_okq q := by
  show ∀ q ∈ lw_privs_1 ++ (lw_privs_2 ++ (lw_privs_3 ++ (lw_privs_4 ++ (lw_privs_5 ++ (lw_privs_6 ++ (lw_privs_7)))))), lw_okq q
  exact List.forall_mem_append.mpr ⟨lw_r1, List.forall_mem_append.mpr ⟨lw_r2, List.forall_mem_append.mpr ⟨lw_r3, List.forall_mem_append.mpr ⟨lw_r4, List.forall_mem_append.mpr ⟨lw_r5, List.forall_mem_append.mpr ⟨lw_r6, lw_r7⟩⟩⟩⟩⟩⟩

def RX0 : String := "CountyPrint$County"
def TX0 : u_T := fun k => match k with
  | 0 => ("CountyPrint$County", "shotCount", "I", false)
  | 1 => ("CountyPrint$County", "shotNames", "[J", true)
  | 2 => ("CountyPrint$County", "sorts", "[I", true)
  | 3 => ("CountyPrint$County", "lengths", "[I", true)
  | 4 => ("CountyPrint$County", "needs", "[I", true)
  | 5 => ("CountyPrint$County", "hallCount", "I", false)
  | 6 => ("CountyPrint$County", "hallNames", "[J", true)
  | 7 => ("CountyPrint$County", "kinds", "[I", true)
  | 8 => ("CountyPrint$County", "laws", "LCountyPrint$Laws;", true)
  | _ => ("CountyPrint$County", "verdicts", "[I", true)
def tyX0 : Nat → FieldType := fun k => match k with
  | 0 => .int
  | 1 => .array .long
  | 2 => .array .int
  | 3 => .array .int
  | 4 => .array .int
  | 5 => .int
  | 6 => .array .long
  | 7 => .array .int
  | 8 => .object "CountyPrint$Laws"
  | _ => .array .int
abbrev wsX00 : List Cond := u_ws RX0 TX0 10
theorem nmX0 : ∀ a, a < 10 → ∀ b, b < 10 → a ≠ b → (TX0 a).2.1 ≠ (TX0 b).2.1 := by decide +kernel
theorem tyX0_ok : ∀ k, k < 10 → parseFieldDescriptor (TX0 k).2.2.1 = some (tyX0 k) := by decide +kernel
abbrev cX0_init : ByteArray := prog_2_method_1_code
def yX0_init : MethodName := ⟨RX0, "<init>", "()V"⟩
abbrev cX0_clear : ByteArray := prog_2_method_2_code
def yX0_clear : MethodName := ⟨RX0, "clear", "()V"⟩
abbrev cX0_addShot : ByteArray := prog_2_method_3_code
def yX0_addShot : MethodName := ⟨RX0, "addShot", "(JII)V"⟩
abbrev cX0_addNeed : ByteArray := prog_2_method_4_code
def yX0_addNeed : MethodName := ⟨RX0, "addNeed", "(II)V"⟩
abbrev cX0_addHall : ByteArray := prog_2_method_5_code
def yX0_addHall : MethodName := ⟨RX0, "addHall", "(JI)V"⟩
abbrev cX0_isShot : ByteArray := prog_2_method_6_code
def yX0_isShot : MethodName := ⟨RX0, "isShot", "(I)Z"⟩
abbrev cX0_isHall : ByteArray := prog_2_method_7_code
def yX0_isHall : MethodName := ⟨RX0, "isHall", "(I)Z"⟩
abbrev cX0_isNeeded : ByteArray := prog_2_method_8_code
def yX0_isNeeded : MethodName := ⟨RX0, "isNeeded", "(II)Z"⟩
abbrev cX0_shotNamed : ByteArray := prog_2_method_9_code
def yX0_shotNamed : MethodName := ⟨RX0, "shotNamed", "(J)I"⟩
abbrev cX0_hallNamed : ByteArray := prog_2_method_10_code
def yX0_hallNamed : MethodName := ⟨RX0, "hallNamed", "(J)I"⟩
abbrev cX0_film : ByteArray := prog_2_method_11_code
def yX0_film : MethodName := ⟨RX0, "film", "()I"⟩
abbrev cX0_minutesOf : ByteArray := prog_2_method_12_code
def yX0_minutesOf : MethodName := ⟨RX0, "minutesOf", "(I)I"⟩
abbrev cX0_isLonger : ByteArray := prog_2_method_13_code
def yX0_isLonger : MethodName := ⟨RX0, "isLonger", "(II)Z"⟩
abbrev cX0_shotAt : ByteArray := prog_2_method_14_code
def yX0_shotAt : MethodName := ⟨RX0, "shotAt", "(II)I"⟩
abbrev cX0_makesSense : ByteArray := prog_2_method_15_code
def yX0_makesSense : MethodName := ⟨RX0, "makesSense", "(I)Z"⟩
abbrev cX0_allNeeds : ByteArray := prog_2_method_16_code
def yX0_allNeeds : MethodName := ⟨RX0, "allNeeds", "(I)I"⟩
abbrev cX0_shotsOfSort : ByteArray := prog_2_method_17_code
def yX0_shotsOfSort : MethodName := ⟨RX0, "shotsOfSort", "(I)I"⟩
abbrev cX0_unlikeFrom : ByteArray := prog_2_method_18_code
def yX0_unlikeFrom : MethodName := ⟨RX0, "unlikeFrom", "(II)I"⟩
abbrev cX0_takenOut : ByteArray := prog_2_method_19_code
def yX0_takenOut : MethodName := ⟨RX0, "takenOut", "(II)I"⟩
abbrev cX0_hatedIn : ByteArray := prog_2_method_20_code
def yX0_hatedIn : MethodName := ⟨RX0, "hatedIn", "(II)I"⟩
abbrev cX0_judgeAll : ByteArray := prog_2_method_21_code
def yX0_judgeAll : MethodName := ⟨RX0, "judgeAll", "()V"⟩
abbrev cX0_judge : ByteArray := prog_2_method_22_code
def yX0_judge : MethodName := ⟨RX0, "judge", "(IIII)V"⟩
abbrev cX0_keyOf : ByteArray := prog_2_method_23_code
def yX0_keyOf : MethodName := ⟨RX0, "keyOf", "(III)I"⟩
abbrev cX0_lastOf : ByteArray := prog_2_method_24_code
def yX0_lastOf : MethodName := ⟨RX0, "lastOf", "(I)I"⟩
abbrev cX0_behind : ByteArray := prog_2_method_25_code
def yX0_behind : MethodName := ⟨RX0, "behind", "(II)I"⟩
def RX1 : String := "CountyPrint$Draws"
def TX1 : u_T := fun k => match k with
  | _ => ("CountyPrint$Draws", "state", "J", false)
def tyX1 : Nat → FieldType := fun k => match k with
  | _ => .long
abbrev wsX10 : List Cond := u_ws RX1 TX1 1
theorem nmX1 : ∀ a, a < 1 → ∀ b, b < 1 → a ≠ b → (TX1 a).2.1 ≠ (TX1 b).2.1 := by decide +kernel
theorem tyX1_ok : ∀ k, k < 1 → parseFieldDescriptor (TX1 k).2.2.1 = some (tyX1 k) := by decide +kernel
abbrev cX1_init : ByteArray := prog_3_method_1_code
def yX1_init : MethodName := ⟨RX1, "<init>", "()V"⟩
abbrev cX1_begin : ByteArray := prog_3_method_2_code
def yX1_begin : MethodName := ⟨RX1, "begin", "(I)V"⟩
abbrev cX1_below : ByteArray := prog_3_method_3_code
def yX1_below : MethodName := ⟨RX1, "below", "(I)I"⟩
def RX2 : String := "CountyPrint$Laws"
def TX2 : u_T := fun k => match k with
  | 0 => ("CountyPrint$Laws", "code", "[I", true)
  | 1 => ("CountyPrint$Laws", "size", "I", false)
  | 2 => ("CountyPrint$Laws", "ends", "[I", true)
  | _ => ("CountyPrint$Laws", "stack", "[I", true)
def tyX2 : Nat → FieldType := fun k => match k with
  | 0 => .array .int
  | 1 => .int
  | 2 => .array .int
  | _ => .array .int
abbrev wsX20 : List Cond := u_ws RX2 TX2 4
theorem nmX2 : ∀ a, a < 4 → ∀ b, b < 4 → a ≠ b → (TX2 a).2.1 ≠ (TX2 b).2.1 := by decide +kernel
theorem tyX2_ok : ∀ k, k < 4 → parseFieldDescriptor (TX2 k).2.2.1 = some (tyX2 k) := by decide +kernel
abbrev cX2_init : ByteArray := prog_4_method_1_code
def yX2_init : MethodName := ⟨RX2, "<init>", "()V"⟩
abbrev cX2_add : ByteArray := prog_4_method_2_code
def yX2_add : MethodName := ⟨RX2, "add", "(I)V"⟩
abbrev cX2_valueFor : ByteArray := prog_4_method_3_code
def yX2_valueFor : MethodName := ⟨RX2, "valueFor", "(IIIII)I"⟩
abbrev cX2_join : ByteArray := prog_4_method_4_code
def yX2_join : MethodName := ⟨RX2, "join", "(III)I"⟩
def RX3 : String := "CountyPrint$Mark"
def TX3 : u_T := fun k => match k with
  | 0 => ("CountyPrint$Mark", "isLaid", "Z", false)
  | 1 => ("CountyPrint$Mark", "travel", "LCountyPrint$Travel;", true)
  | 2 => ("CountyPrint$Mark", "plan", "LCountyPrint$Plan;", true)
  | _ => ("CountyPrint$Mark", "sightings", "LCountyPrint$Sightings;", true)
def tyX3 : Nat → FieldType := fun k => match k with
  | 0 => .boolean
  | 1 => .object "CountyPrint$Travel"
  | 2 => .object "CountyPrint$Plan"
  | _ => .object "CountyPrint$Sightings"
abbrev wsX30 : List Cond := u_ws RX3 TX3 4
theorem nmX3 : ∀ a, a < 4 → ∀ b, b < 4 → a ≠ b → (TX3 a).2.1 ≠ (TX3 b).2.1 := by decide +kernel
theorem tyX3_ok : ∀ k, k < 4 → parseFieldDescriptor (TX3 k).2.2.1 = some (tyX3 k) := by decide +kernel
abbrev cX3_init : ByteArray := prog_5_method_1_code
def yX3_init : MethodName := ⟨RX3, "<init>", "()V"⟩
abbrev cX3_lay : ByteArray := prog_5_method_2_code
def yX3_lay : MethodName := ⟨RX3, "lay", "(LCountyPrint$Travel;LCountyPrint$Plan;LCountyPrint$Sightings;)V"⟩
abbrev cX3_goBack : ByteArray := prog_5_method_3_code
def yX3_goBack : MethodName := ⟨RX3, "goBack", "(LCountyPrint$Travel;LCountyPrint$Plan;LCountyPrint$Sightings;)V"⟩
def RX4 : String := "CountyPrint$Past"
def TX4 : u_T := fun k => match k with
  | 0 => ("CountyPrint$Past", "kept", "[LCountyPrint$Travel;", true)
  | 1 => ("CountyPrint$Past", "top", "I", false)
  | _ => ("CountyPrint$Past", "size", "I", false)
def tyX4 : Nat → FieldType := fun k => match k with
  | 0 => .array (.object "CountyPrint$Travel")
  | 1 => .int
  | _ => .int
abbrev wsX40 : List Cond := u_ws RX4 TX4 3
theorem nmX4 : ∀ a, a < 3 → ∀ b, b < 3 → a ≠ b → (TX4 a).2.1 ≠ (TX4 b).2.1 := by decide +kernel
theorem tyX4_ok : ∀ k, k < 3 → parseFieldDescriptor (TX4 k).2.2.1 = some (tyX4 k) := by decide +kernel
abbrev cX4_init : ByteArray := prog_6_method_1_code
def yX4_init : MethodName := ⟨RX4, "<init>", "()V"⟩
abbrev cX4_keep : ByteArray := prog_6_method_2_code
def yX4_keep : MethodName := ⟨RX4, "keep", "(LCountyPrint$Travel;)V"⟩
abbrev cX4_takeBack : ByteArray := prog_6_method_3_code
def yX4_takeBack : MethodName := ⟨RX4, "takeBack", "(LCountyPrint$Travel;)Z"⟩
abbrev cX4_forget : ByteArray := prog_6_method_4_code
def yX4_forget : MethodName := ⟨RX4, "forget", "()V"⟩
def RX5 : String := "CountyPrint$Plan"
def TX5 : u_T := fun k => match k with
  | 0 => ("CountyPrint$Plan", "lines", "I", false)
  | 1 => ("CountyPrint$Plan", "deeds", "[I", true)
  | 2 => ("CountyPrint$Plan", "givers", "[I", true)
  | 3 => ("CountyPrint$Plan", "takers", "[I", true)
  | _ => ("CountyPrint$Plan", "shots", "[I", true)
def tyX5 : Nat → FieldType := fun k => match k with
  | 0 => .int
  | 1 => .array .int
  | 2 => .array .int
  | 3 => .array .int
  | _ => .array .int
abbrev wsX50 : List Cond := u_ws RX5 TX5 5
theorem nmX5 : ∀ a, a < 5 → ∀ b, b < 5 → a ≠ b → (TX5 a).2.1 ≠ (TX5 b).2.1 := by decide +kernel
theorem tyX5_ok : ∀ k, k < 5 → parseFieldDescriptor (TX5 k).2.2.1 = some (tyX5 k) := by decide +kernel
abbrev cX5_init : ByteArray := prog_7_method_1_code
def yX5_init : MethodName := ⟨RX5, "<init>", "()V"⟩
abbrev cX5_clear : ByteArray := prog_7_method_2_code
def yX5_clear : MethodName := ⟨RX5, "clear", "()V"⟩
abbrev cX5_add : ByteArray := prog_7_method_3_code
def yX5_add : MethodName := ⟨RX5, "add", "(IIII)V"⟩
abbrev cX5_copy : ByteArray := prog_7_method_4_code
def yX5_copy : MethodName := ⟨RX5, "copy", "(LCountyPrint$Plan;)V"⟩
abbrev cX5_isPossible : ByteArray := prog_7_method_5_code
def yX5_isPossible : MethodName := ⟨RX5, "isPossible", "(ILCountyPrint$County;LCountyPrint$Travel;)Z"⟩
abbrev cX5_follow : ByteArray := prog_7_method_6_code
def yX5_follow : MethodName := ⟨RX5, "follow", "(ILCountyPrint$County;LCountyPrint$Travel;)V"⟩
def RX6 : String := "CountyPrint$Ranking"
def TX6 : u_T := fun k => match k with
  | 0 => ("CountyPrint$Ranking", "path", "[I", true)
  | 1 => ("CountyPrint$Ranking", "best", "[I", true)
  | _ => ("CountyPrint$Ranking", "most", "I", false)
def tyX6 : Nat → FieldType := fun k => match k with
  | 0 => .array .int
  | 1 => .array .int
  | _ => .int
abbrev wsX60 : List Cond := u_ws RX6 TX6 3
theorem nmX6 : ∀ a, a < 3 → ∀ b, b < 3 → a ≠ b → (TX6 a).2.1 ≠ (TX6 b).2.1 := by decide +kernel
theorem tyX6_ok : ∀ k, k < 3 → parseFieldDescriptor (TX6 k).2.2.1 = some (tyX6 k) := by decide +kernel
abbrev cX6_init : ByteArray := prog_8_method_1_code
def yX6_init : MethodName := ⟨RX6, "<init>", "()V"⟩
abbrev cX6_find : ByteArray := prog_8_method_2_code
def yX6_find : MethodName := ⟨RX6, "find", "(LCountyPrint$County;II)V"⟩
abbrev cX6_search : ByteArray := prog_8_method_3_code
def yX6_search : MethodName := ⟨RX6, "search", "(LCountyPrint$County;IIII)V"⟩
abbrev cX6_keepPath : ByteArray := prog_8_method_4_code
def yX6_keepPath : MethodName := ⟨RX6, "keepPath", "()V"⟩
def RX7 : String := "CountyPrint$Reader"
def TX7 : u_T := fun k => match k with
  | 0 => ("CountyPrint$Reader", "tape", "LCountyPrint$Tape;", true)
  | 1 => ("CountyPrint$Reader", "land", "LCountyPrint$County;", false)
  | _ => ("CountyPrint$Reader", "fault", "I", false)
def tyX7 : Nat → FieldType := fun k => match k with
  | 0 => .object "CountyPrint$Tape"
  | 1 => .object "CountyPrint$County"
  | _ => .int
abbrev wsX70 : List Cond := u_ws RX7 TX7 3
theorem nmX7 : ∀ a, a < 3 → ∀ b, b < 3 → a ≠ b → (TX7 a).2.1 ≠ (TX7 b).2.1 := by decide +kernel
theorem tyX7_ok : ∀ k, k < 3 → parseFieldDescriptor (TX7 k).2.2.1 = some (tyX7 k) := by decide +kernel
abbrev cX7_init : ByteArray := prog_9_method_1_code
def yX7_init : MethodName := ⟨RX7, "<init>", "(LCountyPrint$Tape;LCountyPrint$County;)V"⟩
abbrev cX7_readCounty : ByteArray := prog_9_method_2_code
def yX7_readCounty : MethodName := ⟨RX7, "readCounty", "(LCountyPrint$County;)I"⟩
abbrev cX7_readPlan : ByteArray := prog_9_method_3_code
def yX7_readPlan : MethodName := ⟨RX7, "readPlan", "(LCountyPrint$County;LCountyPrint$Plan;)I"⟩
abbrev cX7_begin : ByteArray := prog_9_method_4_code
def yX7_begin : MethodName := ⟨RX7, "begin", "(LCountyPrint$County;)V"⟩
abbrev cX7_fail : ByteArray := prog_9_method_5_code
def yX7_fail : MethodName := ⟨RX7, "fail", "(I)Z"⟩
abbrev cX7_readShot : ByteArray := prog_9_method_6_code
def yX7_readShot : MethodName := ⟨RX7, "readShot", "()Z"⟩
abbrev cX7_readNeeds : ByteArray := prog_9_method_7_code
def yX7_readNeeds : MethodName := ⟨RX7, "readNeeds", "()Z"⟩
abbrev cX7_readHall : ByteArray := prog_9_method_8_code
def yX7_readHall : MethodName := ⟨RX7, "readHall", "()Z"⟩
abbrev cX7_readPlanLine : ByteArray := prog_9_method_9_code
def yX7_readPlanLine : MethodName := ⟨RX7, "readPlanLine", "(LCountyPrint$Plan;)Z"⟩
abbrev cX7_readBare : ByteArray := prog_9_method_10_code
def yX7_readBare : MethodName := ⟨RX7, "readBare", "(LCountyPrint$Plan;I)Z"⟩
abbrev cX7_readHandling : ByteArray := prog_9_method_11_code
def yX7_readHandling : MethodName := ⟨RX7, "readHandling", "(LCountyPrint$Plan;I)Z"⟩
abbrev cX7_isName : ByteArray := prog_9_method_12_code
def yX7_isName : MethodName := ⟨RX7, "isName", "()Z"⟩
abbrev cX7_takeNewName : ByteArray := prog_9_method_13_code
def yX7_takeNewName : MethodName := ⟨RX7, "takeNewName", "()Z"⟩
abbrev cX7_takeTold : ByteArray := prog_9_method_14_code
def yX7_takeTold : MethodName := ⟨RX7, "takeTold", "(I)Z"⟩
abbrev cX7_takeKeyword : ByteArray := prog_9_method_15_code
def yX7_takeKeyword : MethodName := ⟨RX7, "takeKeyword", "(I)Z"⟩
abbrev cX7_takeNumber : ByteArray := prog_9_method_16_code
def yX7_takeNumber : MethodName := ⟨RX7, "takeNumber", "(II)Z"⟩
abbrev cX7_takeSemicolon : ByteArray := prog_9_method_17_code
def yX7_takeSemicolon : MethodName := ⟨RX7, "takeSemicolon", "()Z"⟩
abbrev cX7_readExpression : ByteArray := prog_9_method_18_code
def yX7_readExpression : MethodName := ⟨RX7, "readExpression", "(I)Z"⟩
abbrev cX7_readTest : ByteArray := prog_9_method_19_code
def yX7_readTest : MethodName := ⟨RX7, "readTest", "(I)Z"⟩
abbrev cX7_readSum : ByteArray := prog_9_method_20_code
def yX7_readSum : MethodName := ⟨RX7, "readSum", "(I)Z"⟩
abbrev cX7_readProduct : ByteArray := prog_9_method_21_code
def yX7_readProduct : MethodName := ⟨RX7, "readProduct", "(I)Z"⟩
abbrev cX7_readPart : ByteArray := prog_9_method_22_code
def yX7_readPart : MethodName := ⟨RX7, "readPart", "(I)Z"⟩
abbrev cX7_readBracketed : ByteArray := prog_9_method_23_code
def yX7_readBracketed : MethodName := ⟨RX7, "readBracketed", "(I)Z"⟩
abbrev cX7_readNegated : ByteArray := prog_9_method_24_code
def yX7_readNegated : MethodName := ⟨RX7, "readNegated", "(I)Z"⟩
def RX8 : String := "CountyPrint$Sightings"
def TX8 : u_T := fun k => match k with
  | 0 => ("CountyPrint$Sightings", "shots", "[I", true)
  | 1 => ("CountyPrint$Sightings", "isShown", "[Z", true)
  | _ => ("CountyPrint$Sightings", "size", "I", false)
def tyX8 : Nat → FieldType := fun k => match k with
  | 0 => .array .int
  | 1 => .array .boolean
  | _ => .int
abbrev wsX80 : List Cond := u_ws RX8 TX8 3
theorem nmX8 : ∀ a, a < 3 → ∀ b, b < 3 → a ≠ b → (TX8 a).2.1 ≠ (TX8 b).2.1 := by decide +kernel
theorem tyX8_ok : ∀ k, k < 3 → parseFieldDescriptor (TX8 k).2.2.1 = some (tyX8 k) := by decide +kernel
abbrev cX8_init : ByteArray := prog_10_method_1_code
def yX8_init : MethodName := ⟨RX8, "<init>", "()V"⟩
abbrev cX8_add : ByteArray := prog_10_method_2_code
def yX8_add : MethodName := ⟨RX8, "add", "(IZ)Z"⟩
abbrev cX8_copy : ByteArray := prog_10_method_3_code
def yX8_copy : MethodName := ⟨RX8, "copy", "(LCountyPrint$Sightings;)V"⟩
abbrev cX8_fit : ByteArray := prog_10_method_4_code
def yX8_fit : MethodName := ⟨RX8, "fit", "(I)Z"⟩
def RX9 : String := "CountyPrint$Tape"
def TX9 : u_T := fun k => match k with
  | 0 => ("CountyPrint$Tape", "words", "[J", true)
  | 1 => ("CountyPrint$Tape", "signs", "[C", true)
  | 2 => ("CountyPrint$Tape", "size", "I", false)
  | 3 => ("CountyPrint$Tape", "at", "I", false)
  | 4 => ("CountyPrint$Tape", "end", "I", false)
  | 5 => ("CountyPrint$Tape", "type", "I", false)
  | 6 => ("CountyPrint$Tape", "word", "J", false)
  | 7 => ("CountyPrint$Tape", "keyword", "I", false)
  | 8 => ("CountyPrint$Tape", "number", "I", false)
  | _ => ("CountyPrint$Tape", "sign", "C", false)
def tyX9 : Nat → FieldType := fun k => match k with
  | 0 => .array .long
  | 1 => .array .char
  | 2 => .int
  | 3 => .int
  | 4 => .int
  | 5 => .int
  | 6 => .long
  | 7 => .int
  | 8 => .int
  | _ => .char
abbrev wsX90 : List Cond := u_ws RX9 TX9 10
theorem nmX9 : ∀ a, a < 10 → ∀ b, b < 10 → a ≠ b → (TX9 a).2.1 ≠ (TX9 b).2.1 := by decide +kernel
theorem tyX9_ok : ∀ k, k < 10 → parseFieldDescriptor (TX9 k).2.2.1 = some (tyX9 k) := by decide +kernel
abbrev cX9_init : ByteArray := prog_11_method_1_code
def yX9_init : MethodName := ⟨RX9, "<init>", "()V"⟩
abbrev cX9_addBytes : ByteArray := prog_11_method_2_code
def yX9_addBytes : MethodName := ⟨RX9, "addBytes", "(J)V"⟩
abbrev cX9_start : ByteArray := prog_11_method_3_code
def yX9_start : MethodName := ⟨RX9, "start", "()V"⟩
abbrev cX9_advance : ByteArray := prog_11_method_4_code
def yX9_advance : MethodName := ⟨RX9, "advance", "()V"⟩
abbrev cX9_takeWord : ByteArray := prog_11_method_5_code
def yX9_takeWord : MethodName := ⟨RX9, "takeWord", "()V"⟩
abbrev cX9_takeNumber : ByteArray := prog_11_method_6_code
def yX9_takeNumber : MethodName := ⟨RX9, "takeNumber", "()V"⟩
abbrev cX9_takeSign : ByteArray := prog_11_method_7_code
def yX9_takeSign : MethodName := ⟨RX9, "takeSign", "()V"⟩
abbrev cX9_isSign : ByteArray := prog_11_method_8_code
def yX9_isSign : MethodName := ⟨RX9, "isSign", "(C)Z"⟩
abbrev cX9_isLetter : ByteArray := prog_11_method_9_code
def yX9_isLetter : MethodName := ⟨RX9, "isLetter", "(C)Z"⟩
abbrev cX9_isDigit : ByteArray := prog_11_method_10_code
def yX9_isDigit : MethodName := ⟨RX9, "isDigit", "(C)Z"⟩
def RX10 : String := "CountyPrint$Travel"
def TX10 : u_T := fun k => match k with
  | 0 => ("CountyPrint$Travel", "print", "I", false)
  | 1 => ("CountyPrint$Travel", "drawers", "[I", true)
  | 2 => ("CountyPrint$Travel", "isTurned", "Z", false)
  | 3 => ("CountyPrint$Travel", "next", "I", false)
  | _ => ("CountyPrint$Travel", "toursOver", "I", false)
def tyX10 : Nat → FieldType := fun k => match k with
  | 0 => .int
  | 1 => .array .int
  | 2 => .boolean
  | 3 => .int
  | _ => .int
abbrev wsX100 : List Cond := u_ws RX10 TX10 5
theorem nmX10 : ∀ a, a < 5 → ∀ b, b < 5 → a ≠ b → (TX10 a).2.1 ≠ (TX10 b).2.1 := by decide +kernel
theorem tyX10_ok : ∀ k, k < 5 → parseFieldDescriptor (TX10 k).2.2.1 = some (tyX10 k) := by decide +kernel
abbrev cX10_init : ByteArray := prog_12_method_1_code
def yX10_init : MethodName := ⟨RX10, "<init>", "()V"⟩
abbrev cX10_begin : ByteArray := prog_12_method_2_code
def yX10_begin : MethodName := ⟨RX10, "begin", "(I)V"⟩
abbrev cX10_copy : ByteArray := prog_12_method_3_code
def yX10_copy : MethodName := ⟨RX10, "copy", "(LCountyPrint$Travel;)V"⟩
abbrev cX10_swapPlace : ByteArray := prog_12_method_4_code
def yX10_swapPlace : MethodName := ⟨RX10, "swapPlace", "(LCountyPrint$County;I)I"⟩
abbrev cX10_drawn : ByteArray := prog_12_method_5_code
def yX10_drawn : MethodName := ⟨RX10, "drawn", "()I"⟩
abbrev cX10_holds : ByteArray := prog_12_method_6_code
def yX10_holds : MethodName := ⟨RX10, "holds", "(II)Z"⟩
abbrev cX10_holderOf : ByteArray := prog_12_method_7_code
def yX10_holderOf : MethodName := ⟨RX10, "holderOf", "(I)I"⟩
abbrev cX10_showAt : ByteArray := prog_12_method_8_code
def yX10_showAt : MethodName := ⟨RX10, "showAt", "(LCountyPrint$County;I)V"⟩
abbrev cX10_showNext : ByteArray := prog_12_method_9_code
def yX10_showNext : MethodName := ⟨RX10, "showNext", "(LCountyPrint$County;)I"⟩
abbrev cX10_giveBack : ByteArray := prog_12_method_10_code
def yX10_giveBack : MethodName := ⟨RX10, "giveBack", "(II)V"⟩
abbrev cX10_handOver : ByteArray := prog_12_method_11_code
def yX10_handOver : MethodName := ⟨RX10, "handOver", "(III)V"⟩
abbrev cX10_turnRound : ByteArray := prog_12_method_12_code
def yX10_turnRound : MethodName := ⟨RX10, "turnRound", "()V"⟩
def RX11 : String := "CountyPrint"
def TX11 : u_T := fun k => match k with
  | 0 => ("CountyPrint", "tape", "LCountyPrint$Tape;", true)
  | 1 => ("CountyPrint", "reader", "LCountyPrint$Reader;", true)
  | 2 => ("CountyPrint", "land", "LCountyPrint$County;", false)
  | 3 => ("CountyPrint", "landDraft", "LCountyPrint$County;", false)
  | 4 => ("CountyPrint", "plan", "LCountyPrint$Plan;", false)
  | 5 => ("CountyPrint", "planDraft", "LCountyPrint$Plan;", false)
  | 6 => ("CountyPrint", "now", "LCountyPrint$Travel;", true)
  | 7 => ("CountyPrint", "trial", "LCountyPrint$Travel;", true)
  | 8 => ("CountyPrint", "past", "LCountyPrint$Past;", true)
  | 9 => ("CountyPrint", "sightings", "LCountyPrint$Sightings;", true)
  | 10 => ("CountyPrint", "marks", "[LCountyPrint$Mark;", true)
  | 11 => ("CountyPrint", "ranking", "LCountyPrint$Ranking;", true)
  | 12 => ("CountyPrint", "draws", "LCountyPrint$Draws;", true)
  | _ => ("CountyPrint", "rows", "[I", true)
def tyX11 : Nat → FieldType := fun k => match k with
  | 0 => .object "CountyPrint$Tape"
  | 1 => .object "CountyPrint$Reader"
  | 2 => .object "CountyPrint$County"
  | 3 => .object "CountyPrint$County"
  | 4 => .object "CountyPrint$Plan"
  | 5 => .object "CountyPrint$Plan"
  | 6 => .object "CountyPrint$Travel"
  | 7 => .object "CountyPrint$Travel"
  | 8 => .object "CountyPrint$Past"
  | 9 => .object "CountyPrint$Sightings"
  | 10 => .array (.object "CountyPrint$Mark")
  | 11 => .object "CountyPrint$Ranking"
  | 12 => .object "CountyPrint$Draws"
  | _ => .array .int
abbrev wsX110 : List Cond := u_ws RX11 TX11 14
theorem nmX11 : ∀ a, a < 14 → ∀ b, b < 14 → a ≠ b → (TX11 a).2.1 ≠ (TX11 b).2.1 := by decide +kernel
theorem tyX11_ok : ∀ k, k < 14 → parseFieldDescriptor (TX11 k).2.2.1 = some (tyX11 k) := by decide +kernel
abbrev cX11_init : ByteArray := prog_1_method_1_code
def yX11_init : MethodName := ⟨RX11, "<init>", "()V"⟩
abbrev cX11_feed : ByteArray := prog_1_method_2_code
def yX11_feed : MethodName := ⟨RX11, "feed", "(JJJ)I"⟩
abbrev cX11_county : ByteArray := prog_1_method_3_code
def yX11_county : MethodName := ⟨RX11, "county", "()I"⟩
abbrev cX11_round : ByteArray := prog_1_method_4_code
def yX11_round : MethodName := ⟨RX11, "round", "()I"⟩
abbrev cX11_shot : ByteArray := prog_1_method_5_code
def yX11_shot : MethodName := ⟨RX11, "shot", "(II)I"⟩
abbrev cX11_hall : ByteArray := prog_1_method_6_code
def yX11_hall : MethodName := ⟨RX11, "hall", "(II)I"⟩
abbrev cX11_show : ByteArray := prog_1_method_7_code
def yX11_show : MethodName := ⟨RX11, "show", "()I"⟩
abbrev cX11_give : ByteArray := prog_1_method_8_code
def yX11_give : MethodName := ⟨RX11, "give", "(II)I"⟩
abbrev cX11_trade : ByteArray := prog_1_method_9_code
def yX11_trade : MethodName := ⟨RX11, "trade", "(III)Z"⟩
abbrev cX11_turn : ByteArray := prog_1_method_10_code
def yX11_turn : MethodName := ⟨RX11, "turn", "()I"⟩
abbrev cX11_undo : ByteArray := prog_1_method_11_code
def yX11_undo : MethodName := ⟨RX11, "undo", "()Z"⟩
abbrev cX11_judged : ByteArray := prog_1_method_12_code
def yX11_judged : MethodName := ⟨RX11, "judged", "(I)I"⟩
abbrev cX11_shown : ByteArray := prog_1_method_13_code
def yX11_shown : MethodName := ⟨RX11, "shown", "(II)I"⟩
abbrev cX11_minutes : ByteArray := prog_1_method_14_code
def yX11_minutes : MethodName := ⟨RX11, "minutes", "(I)I"⟩
abbrev cX11_silly : ByteArray := prog_1_method_15_code
def yX11_silly : MethodName := ⟨RX11, "silly", "()I"⟩
abbrev cX11_lasts : ByteArray := prog_1_method_16_code
def yX11_lasts : MethodName := ⟨RX11, "lasts", "()I"⟩
abbrev cX11_sense : ByteArray := prog_1_method_17_code
def yX11_sense : MethodName := ⟨RX11, "sense", "()Z"⟩
abbrev cX11_gone : ByteArray := prog_1_method_18_code
def yX11_gone : MethodName := ⟨RX11, "gone", "(I)I"⟩
abbrev cX11_saves : ByteArray := prog_1_method_19_code
def yX11_saves : MethodName := ⟨RX11, "saves", "(I)I"⟩
abbrev cX11_kin : ByteArray := prog_1_method_20_code
def yX11_kin : MethodName := ⟨RX11, "kin", "(I)I"⟩
abbrev cX11_hoard : ByteArray := prog_1_method_21_code
def yX11_hoard : MethodName := ⟨RX11, "hoard", "(I)I"⟩
abbrev cX11_longest : ByteArray := prog_1_method_22_code
def yX11_longest : MethodName := ⟨RX11, "longest", "()I"⟩
abbrev cX11_order : ByteArray := prog_1_method_23_code
def yX11_order : MethodName := ⟨RX11, "order", "(I)I"⟩
abbrev cX11_ride : ByteArray := prog_1_method_24_code
def yX11_ride : MethodName := ⟨RX11, "ride", "()I"⟩
abbrev cX11_other : ByteArray := prog_1_method_25_code
def yX11_other : MethodName := ⟨RX11, "other", "(I)I"⟩
abbrev cX11_mends : ByteArray := prog_1_method_26_code
def yX11_mends : MethodName := ⟨RX11, "mends", "()I"⟩
abbrev cX11_where : ByteArray := prog_1_method_27_code
def yX11_where : MethodName := ⟨RX11, "where", "(I)I"⟩
abbrev cX11_taste : ByteArray := prog_1_method_28_code
def yX11_taste : MethodName := ⟨RX11, "taste", "(II)I"⟩
abbrev cX11_mild : ByteArray := prog_1_method_29_code
def yX11_mild : MethodName := ⟨RX11, "mild", "()I"⟩
abbrev cX11_see : ByteArray := prog_1_method_30_code
def yX11_see : MethodName := ⟨RX11, "see", "(IZ)Z"⟩
abbrev cX11_halls : ByteArray := prog_1_method_31_code
def yX11_halls : MethodName := ⟨RX11, "halls", "()I"⟩
abbrev cX11_ask : ByteArray := prog_1_method_32_code
def yX11_ask : MethodName := ⟨RX11, "ask", "()I"⟩
abbrev cX11_rests : ByteArray := prog_1_method_33_code
def yX11_rests : MethodName := ⟨RX11, "rests", "(IIII)I"⟩
abbrev cX11_share : ByteArray := prog_1_method_34_code
def yX11_share : MethodName := ⟨RX11, "share", "(I)I"⟩
abbrev cX11_tours : ByteArray := prog_1_method_35_code
def yX11_tours : MethodName := ⟨RX11, "tours", "(III)I"⟩
abbrev cX11_mark : ByteArray := prog_1_method_36_code
def yX11_mark : MethodName := ⟨RX11, "mark", "(IZ)Z"⟩
abbrev cX11_count : ByteArray := prog_1_method_37_code
def yX11_count : MethodName := ⟨RX11, "count", "(I)I"⟩
abbrev cX11_beginAnew : ByteArray := prog_1_method_38_code
def yX11_beginAnew : MethodName := ⟨RX11, "beginAnew", "()V"⟩
abbrev cX11_liesIn : ByteArray := prog_1_method_39_code
def yX11_liesIn : MethodName := ⟨RX11, "liesIn", "(II)Z"⟩
abbrev cX11_nextHall : ByteArray := prog_1_method_40_code
def yX11_nextHall : MethodName := ⟨RX11, "nextHall", "()I"⟩
abbrev cX11_nextPlace : ByteArray := prog_1_method_41_code
def yX11_nextPlace : MethodName := ⟨RX11, "nextPlace", "()I"⟩
abbrev cX11_isAhead : ByteArray := prog_1_method_42_code
def yX11_isAhead : MethodName := ⟨RX11, "isAhead", "(I)Z"⟩
abbrev cX11_hallsAhead : ByteArray := prog_1_method_43_code
def yX11_hallsAhead : MethodName := ⟨RX11, "hallsAhead", "()I"⟩
abbrev cX11_rowShownAt : ByteArray := prog_1_method_44_code
def yX11_rowShownAt : MethodName := ⟨RX11, "rowShownAt", "(I)I"⟩
abbrev cX11_minutesTogether : ByteArray := prog_1_method_45_code
def yX11_minutesTogether : MethodName := ⟨RX11, "minutesTogether", "(I)I"⟩
abbrev cX11_fillRows : ByteArray := prog_1_method_46_code
def yX11_fillRows : MethodName := ⟨RX11, "fillRows", "()V"⟩
abbrev cX11_seenBy : ByteArray := prog_1_method_47_code
def yX11_seenBy : MethodName := ⟨RX11, "seenBy", "(I)I"⟩
abbrev cX11_greaterPart : ByteArray := prog_1_method_48_code
def yX11_greaterPart : MethodName := ⟨RX11, "greaterPart", "(II)I"⟩
abbrev cX11_giveBackByDraw : ByteArray := prog_1_method_49_code
def yX11_giveBackByDraw : MethodName := ⟨RX11, "giveBackByDraw", "()V"⟩
abbrev cX11_isBid : ByteArray := prog_1_method_50_code
def yX11_isBid : MethodName := ⟨RX11, "isBid", "(I)Z"⟩
abbrev cX11_isAtRest : ByteArray := prog_1_method_51_code
def yX11_isAtRest : MethodName := ⟨RX11, "isAtRest", "(IIII)Z"⟩
abbrev cX11_gain : ByteArray := prog_1_method_52_code
def yX11_gain : MethodName := ⟨RX11, "gain", "(IIIII)I"⟩
def RX12 : String := "CountyPrintModel"
def TX12 : u_T := fun k => match k with
  | 0 => ("CountyPrintModel", "thrown", "I", false)
  | 1 => ("CountyPrintModel", "taped", "I", false)
  | 2 => ("CountyPrintModel", "tape", "[I", true)
  | 3 => ("CountyPrintModel", "size", "I", false)
  | 4 => ("CountyPrintModel", "place", "I", false)
  | 5 => ("CountyPrintModel", "begin", "I", false)
  | 6 => ("CountyPrintModel", "token", "I", false)
  | 7 => ("CountyPrintModel", "word", "J", false)
  | 8 => ("CountyPrintModel", "told", "I", false)
  | 9 => ("CountyPrintModel", "wrong", "I", false)
  | 10 => ("CountyPrintModel", "county", "[I", true)
  | 11 => ("CountyPrintModel", "shotName", "[J", true)
  | 12 => ("CountyPrintModel", "hallName", "[J", true)
  | 13 => ("CountyPrintModel", "sort", "[I", true)
  | 14 => ("CountyPrintModel", "long0", "[I", true)
  | 15 => ("CountyPrintModel", "needs", "[I", true)
  | 16 => ("CountyPrintModel", "kind", "[I", true)
  | 17 => ("CountyPrintModel", "lineFrom", "[I", true)
  | 18 => ("CountyPrintModel", "lineTo", "[I", true)
  | 19 => ("CountyPrintModel", "codes", "[I", true)
  | 20 => ("CountyPrintModel", "code", "I", false)
  | 21 => ("CountyPrintModel", "opened", "[I", true)
  | 22 => ("CountyPrintModel", "compared", "[Z", true)
  | 23 => ("CountyPrintModel", "kept", "[I", true)
  | 24 => ("CountyPrintModel", "keptBy", "[I", true)
  | 25 => ("CountyPrintModel", "ahead", "[I", true)
  | 26 => ("CountyPrintModel", "against", "[I", true)
  | 27 => ("CountyPrintModel", "sum", "[I", true)
  | 28 => ("CountyPrintModel", "sumBy", "[I", true)
  | 29 => ("CountyPrintModel", "term", "[I", true)
  | 30 => ("CountyPrintModel", "termBy", "[I", true)
  | 31 => ("CountyPrintModel", "byNot", "[I", true)
  | 32 => ("CountyPrintModel", "valueOf", "[I", true)
  | 33 => ("CountyPrintModel", "given", "I", false)
  | 34 => ("CountyPrintModel", "fresh", "J", false)
  | 35 => ("CountyPrintModel", "lines", "[I", true)
  | 36 => ("CountyPrintModel", "lineWhat", "[I", true)
  | 37 => ("CountyPrintModel", "lineA", "[I", true)
  | 38 => ("CountyPrintModel", "lineB", "[I", true)
  | 39 => ("CountyPrintModel", "lineShot", "[I", true)
  | 40 => ("CountyPrintModel", "seens", "[I", true)
  | 41 => ("CountyPrintModel", "seenShot", "[I", true)
  | 42 => ("CountyPrintModel", "seenShown", "[Z", true)
  | 43 => ("CountyPrintModel", "s", "[I", true)
  | 44 => ("CountyPrintModel", "aside", "[I", true)
  | 45 => ("CountyPrintModel", "before", "[I", true)
  | 46 => ("CountyPrintModel", "marked", "[I", true)
  | 47 => ("CountyPrintModel", "undone", "[I", true)
  | 48 => ("CountyPrintModel", "isLaid", "[Z", true)
  | 49 => ("CountyPrintModel", "done", "I", false)
  | 50 => ("CountyPrintModel", "showsBy", "[I", true)
  | 51 => ("CountyPrintModel", "goneBy", "[I", true)
  | 52 => ("CountyPrintModel", "silliest", "I", false)
  | 53 => ("CountyPrintModel", "together", "I", false)
  | 54 => ("CountyPrintModel", "row", "[I", true)
  | 55 => ("CountyPrintModel", "bestRow", "[I", true)
  | 56 => ("CountyPrintModel", "mostShown", "I", false)
  | _ => ("CountyPrintModel", "g", "J", false)
def tyX12 : Nat → FieldType := fun k => match k with
  | 0 => .int
  | 1 => .int
  | 2 => .array .int
  | 3 => .int
  | 4 => .int
  | 5 => .int
  | 6 => .int
  | 7 => .long
  | 8 => .int
  | 9 => .int
  | 10 => .array .int
  | 11 => .array .long
  | 12 => .array .long
  | 13 => .array .int
  | 14 => .array .int
  | 15 => .array .int
  | 16 => .array .int
  | 17 => .array .int
  | 18 => .array .int
  | 19 => .array .int
  | 20 => .int
  | 21 => .array .int
  | 22 => .array .boolean
  | 23 => .array .int
  | 24 => .array .int
  | 25 => .array .int
  | 26 => .array .int
  | 27 => .array .int
  | 28 => .array .int
  | 29 => .array .int
  | 30 => .array .int
  | 31 => .array .int
  | 32 => .array .int
  | 33 => .int
  | 34 => .long
  | 35 => .array .int
  | 36 => .array .int
  | 37 => .array .int
  | 38 => .array .int
  | 39 => .array .int
  | 40 => .array .int
  | 41 => .array .int
  | 42 => .array .boolean
  | 43 => .array .int
  | 44 => .array .int
  | 45 => .array .int
  | 46 => .array .int
  | 47 => .array .int
  | 48 => .array .boolean
  | 49 => .int
  | 50 => .array .int
  | 51 => .array .int
  | 52 => .int
  | 53 => .int
  | 54 => .array .int
  | 55 => .array .int
  | 56 => .int
  | _ => .long
abbrev wsX120 : List Cond := u_ws RX12 TX12 58
theorem nmX12 : ∀ a, a < 58 → ∀ b, b < 58 → a ≠ b → (TX12 a).2.1 ≠ (TX12 b).2.1 := by decide +kernel
theorem tyX12_ok : ∀ k, k < 58 → parseFieldDescriptor (TX12 k).2.2.1 = some (tyX12 k) := by decide +kernel
abbrev cX12_init : ByteArray := prog_14_method_1_code
def yX12_init : MethodName := ⟨RX12, "<init>", "()V"⟩
abbrev cX12_thrown : ByteArray := prog_14_method_2_code
def yX12_thrown : MethodName := ⟨RX12, "thrown", "()I"⟩
abbrev cX12_within : ByteArray := prog_14_method_3_code
def yX12_within : MethodName := ⟨RX12, "within", "(III)Z"⟩
abbrev cX12_bits : ByteArray := prog_14_method_4_code
def yX12_bits : MethodName := ⟨RX12, "bits", "(I)I"⟩
abbrev cX12_feed : ByteArray := prog_14_method_5_code
def yX12_feed : MethodName := ⟨RX12, "feed", "(JJJ)I"⟩
abbrev cX12_signAt : ByteArray := prog_14_method_6_code
def yX12_signAt : MethodName := ⟨RX12, "signAt", "(I)I"⟩
abbrev cX12_nextToken : ByteArray := prog_14_method_7_code
def yX12_nextToken : MethodName := ⟨RX12, "nextToken", "()V"⟩
abbrev cX12_isWord : ByteArray := prog_14_method_8_code
def yX12_isWord : MethodName := ⟨RX12, "isWord", "(J)Z"⟩
abbrev cX12_isSign : ByteArray := prog_14_method_9_code
def yX12_isSign : MethodName := ⟨RX12, "isSign", "(I)Z"⟩
abbrev cX12_fails : ByteArray := prog_14_method_10_code
def yX12_fails : MethodName := ⟨RX12, "fails", "(I)Z"⟩
abbrev cX12_puts : ByteArray := prog_14_method_11_code
def yX12_puts : MethodName := ⟨RX12, "puts", "(I)V"⟩
abbrev cX12_fact : ByteArray := prog_14_method_12_code
def yX12_fact : MethodName := ⟨RX12, "fact", "()I"⟩
abbrev cX12_reads : ByteArray := prog_14_method_13_code
def yX12_reads : MethodName := ⟨RX12, "reads", "()Z"⟩
abbrev cX12_opens : ByteArray := prog_14_method_14_code
def yX12_opens : MethodName := ⟨RX12, "opens", "(I)V"⟩
abbrev cX12_sums : ByteArray := prog_14_method_15_code
def yX12_sums : MethodName := ⟨RX12, "sums", "(I)V"⟩
abbrev cX12_tests : ByteArray := prog_14_method_16_code
def yX12_tests : MethodName := ⟨RX12, "tests", "(I)V"⟩
abbrev cX12_worked : ByteArray := prog_14_method_17_code
def yX12_worked : MethodName := ⟨RX12, "worked", "(I)I"⟩
abbrev cX12_isKept : ByteArray := prog_14_method_18_code
def yX12_isKept : MethodName := ⟨RX12, "isKept", "()Z"⟩
abbrev cX12_shotNamed : ByteArray := prog_14_method_19_code
def yX12_shotNamed : MethodName := ⟨RX12, "shotNamed", "(I)I"⟩
abbrev cX12_hallNamed : ByteArray := prog_14_method_20_code
def yX12_hallNamed : MethodName := ⟨RX12, "hallNamed", "(I)I"⟩
abbrev cX12_needsNumber : ByteArray := prog_14_method_21_code
def yX12_needsNumber : MethodName := ⟨RX12, "needsNumber", "(II)Z"⟩
abbrev cX12_needsWord : ByteArray := prog_14_method_22_code
def yX12_needsWord : MethodName := ⟨RX12, "needsWord", "(J)Z"⟩
abbrev cX12_closes : ByteArray := prog_14_method_23_code
def yX12_closes : MethodName := ⟨RX12, "closes", "()Z"⟩
abbrev cX12_needsNew : ByteArray := prog_14_method_24_code
def yX12_needsNew : MethodName := ⟨RX12, "needsNew", "()Z"⟩
abbrev cX12_needsShot : ByteArray := prog_14_method_25_code
def yX12_needsShot : MethodName := ⟨RX12, "needsShot", "(I)Z"⟩
abbrev cX12_needsHall : ByteArray := prog_14_method_26_code
def yX12_needsHall : MethodName := ⟨RX12, "needsHall", "()Z"⟩
abbrev cX12_readsShot : ByteArray := prog_14_method_27_code
def yX12_readsShot : MethodName := ⟨RX12, "readsShot", "()Z"⟩
abbrev cX12_readsNeeds : ByteArray := prog_14_method_28_code
def yX12_readsNeeds : MethodName := ⟨RX12, "readsNeeds", "()Z"⟩
abbrev cX12_readsHall : ByteArray := prog_14_method_29_code
def yX12_readsHall : MethodName := ⟨RX12, "readsHall", "()Z"⟩
abbrev cX12_begins : ByteArray := prog_14_method_30_code
def yX12_begins : MethodName := ⟨RX12, "begins", "()V"⟩
abbrev cX12_readsAll : ByteArray := prog_14_method_31_code
def yX12_readsAll : MethodName := ⟨RX12, "readsAll", "()Z"⟩
abbrev cX12_shifts : ByteArray := prog_14_method_32_code
def yX12_shifts : MethodName := ⟨RX12, "shifts", "([II)V"⟩
abbrev cX12_shiftsNames : ByteArray := prog_14_method_33_code
def yX12_shiftsNames : MethodName := ⟨RX12, "shiftsNames", "([JI)V"⟩
abbrev cX12_lays : ByteArray := prog_14_method_34_code
def yX12_lays : MethodName := ⟨RX12, "lays", "()V"⟩
abbrev cX12_copies : ByteArray := prog_14_method_35_code
def yX12_copies : MethodName := ⟨RX12, "copies", "([II[II)V"⟩
abbrev cX12_readsLine : ByteArray := prog_14_method_36_code
def yX12_readsLine : MethodName := ⟨RX12, "readsLine", "()Z"⟩
abbrev cX12_laysLines : ByteArray := prog_14_method_37_code
def yX12_laysLines : MethodName := ⟨RX12, "laysLines", "(II)V"⟩
abbrev cX12_laysSeen : ByteArray := prog_14_method_38_code
def yX12_laysSeen : MethodName := ⟨RX12, "laysSeen", "(II)V"⟩
abbrev cX12_fresh : ByteArray := prog_14_method_39_code
def yX12_fresh : MethodName := ⟨RX12, "fresh", "()V"⟩
abbrev cX12_county : ByteArray := prog_14_method_40_code
def yX12_county : MethodName := ⟨RX12, "county", "()I"⟩
abbrev cX12_round : ByteArray := prog_14_method_41_code
def yX12_round : MethodName := ⟨RX12, "round", "()I"⟩
abbrev cX12_allShots : ByteArray := prog_14_method_42_code
def yX12_allShots : MethodName := ⟨RX12, "allShots", "()I"⟩
abbrev cX12_isShot : ByteArray := prog_14_method_43_code
def yX12_isShot : MethodName := ⟨RX12, "isShot", "(I)Z"⟩
abbrev cX12_isHall : ByteArray := prog_14_method_44_code
def yX12_isHall : MethodName := ⟨RX12, "isHall", "(I)Z"⟩
abbrev cX12_minutesOf : ByteArray := prog_14_method_45_code
def yX12_minutesOf : MethodName := ⟨RX12, "minutesOf", "(I)I"⟩
abbrev cX12_hates : ByteArray := prog_14_method_46_code
def yX12_hates : MethodName := ⟨RX12, "hates", "(IIII)Z"⟩
abbrev cX12_takesOut : ByteArray := prog_14_method_47_code
def yX12_takesOut : MethodName := ⟨RX12, "takesOut", "(II)I"⟩
abbrev cX12_makesSense : ByteArray := prog_14_method_48_code
def yX12_makesSense : MethodName := ⟨RX12, "makesSense", "(I)Z"⟩
abbrev cX12_drawerOf : ByteArray := prog_14_method_49_code
def yX12_drawerOf : MethodName := ⟨RX12, "drawerOf", "(I)I"⟩
abbrev cX12_inDrawers : ByteArray := prog_14_method_50_code
def yX12_inDrawers : MethodName := ⟨RX12, "inDrawers", "()I"⟩
abbrev cX12_cuts : ByteArray := prog_14_method_51_code
def yX12_cuts : MethodName := ⟨RX12, "cuts", "(I)V"⟩
abbrev cX12_shows : ByteArray := prog_14_method_52_code
def yX12_shows : MethodName := ⟨RX12, "shows", "()V"⟩
abbrev cX12_goesBack : ByteArray := prog_14_method_53_code
def yX12_goesBack : MethodName := ⟨RX12, "goesBack", "(I)V"⟩
abbrev cX12_turns : ByteArray := prog_14_method_54_code
def yX12_turns : MethodName := ⟨RX12, "turns", "()V"⟩
abbrev cX12_placeOf : ByteArray := prog_14_method_55_code
def yX12_placeOf : MethodName := ⟨RX12, "placeOf", "(I)I"⟩
abbrev cX12_shot : ByteArray := prog_14_method_56_code
def yX12_shot : MethodName := ⟨RX12, "shot", "(II)I"⟩
abbrev cX12_hall : ByteArray := prog_14_method_57_code
def yX12_hall : MethodName := ⟨RX12, "hall", "(II)I"⟩
abbrev cX12_keeps : ByteArray := prog_14_method_58_code
def yX12_keeps : MethodName := ⟨RX12, "keeps", "()V"⟩
abbrev cX12_show : ByteArray := prog_14_method_59_code
def yX12_show : MethodName := ⟨RX12, "show", "()I"⟩
abbrev cX12_give : ByteArray := prog_14_method_60_code
def yX12_give : MethodName := ⟨RX12, "give", "(II)I"⟩
abbrev cX12_trade : ByteArray := prog_14_method_61_code
def yX12_trade : MethodName := ⟨RX12, "trade", "(III)Z"⟩
abbrev cX12_nextHall : ByteArray := prog_14_method_62_code
def yX12_nextHall : MethodName := ⟨RX12, "nextHall", "()I"⟩
abbrev cX12_turn : ByteArray := prog_14_method_63_code
def yX12_turn : MethodName := ⟨RX12, "turn", "()I"⟩
abbrev cX12_undo : ByteArray := prog_14_method_64_code
def yX12_undo : MethodName := ⟨RX12, "undo", "()Z"⟩
abbrev cX12_goes : ByteArray := prog_14_method_65_code
def yX12_goes : MethodName := ⟨RX12, "goes", "(I)Z"⟩
abbrev cX12_judged : ByteArray := prog_14_method_66_code
def yX12_judged : MethodName := ⟨RX12, "judged", "(I)I"⟩
abbrev cX12_goesOn : ByteArray := prog_14_method_67_code
def yX12_goesOn : MethodName := ⟨RX12, "goesOn", "(I)V"⟩
abbrev cX12_shown : ByteArray := prog_14_method_68_code
def yX12_shown : MethodName := ⟨RX12, "shown", "(II)I"⟩
abbrev cX12_minutes : ByteArray := prog_14_method_69_code
def yX12_minutes : MethodName := ⟨RX12, "minutes", "(I)I"⟩
abbrev cX12_silly : ByteArray := prog_14_method_70_code
def yX12_silly : MethodName := ⟨RX12, "silly", "()I"⟩
abbrev cX12_gone : ByteArray := prog_14_method_71_code
def yX12_gone : MethodName := ⟨RX12, "gone", "(I)I"⟩
abbrev cX12_saves : ByteArray := prog_14_method_72_code
def yX12_saves : MethodName := ⟨RX12, "saves", "(I)I"⟩
abbrev cX12_kin : ByteArray := prog_14_method_73_code
def yX12_kin : MethodName := ⟨RX12, "kin", "(I)I"⟩
abbrev cX12_ofSort : ByteArray := prog_14_method_74_code
def yX12_ofSort : MethodName := ⟨RX12, "ofSort", "(II)I"⟩
abbrev cX12_hoard : ByteArray := prog_14_method_75_code
def yX12_hoard : MethodName := ⟨RX12, "hoard", "(I)I"⟩
abbrev cX12_unlikeFrom : ByteArray := prog_14_method_76_code
def yX12_unlikeFrom : MethodName := ⟨RX12, "unlikeFrom", "(I)I"⟩
abbrev cX12_longest : ByteArray := prog_14_method_77_code
def yX12_longest : MethodName := ⟨RX12, "longest", "()I"⟩
abbrev cX12_lasts : ByteArray := prog_14_method_78_code
def yX12_lasts : MethodName := ⟨RX12, "lasts", "()I"⟩
abbrev cX12_sense : ByteArray := prog_14_method_79_code
def yX12_sense : MethodName := ⟨RX12, "sense", "()Z"⟩
abbrev cX12_orders : ByteArray := prog_14_method_80_code
def yX12_orders : MethodName := ⟨RX12, "orders", "(IIII)V"⟩
abbrev cX12_order : ByteArray := prog_14_method_81_code
def yX12_order : MethodName := ⟨RX12, "order", "(I)I"⟩
abbrev cX12_ride : ByteArray := prog_14_method_82_code
def yX12_ride : MethodName := ⟨RX12, "ride", "()I"⟩
abbrev cX12_otherFilm : ByteArray := prog_14_method_83_code
def yX12_otherFilm : MethodName := ⟨RX12, "otherFilm", "()I"⟩
abbrev cX12_other : ByteArray := prog_14_method_84_code
def yX12_other : MethodName := ⟨RX12, "other", "(I)I"⟩
abbrev cX12_mends : ByteArray := prog_14_method_85_code
def yX12_mends : MethodName := ⟨RX12, "mends", "()I"⟩
abbrev cX12_where : ByteArray := prog_14_method_86_code
def yX12_where : MethodName := ⟨RX12, "where", "(I)I"⟩
abbrev cX12_taste : ByteArray := prog_14_method_87_code
def yX12_taste : MethodName := ⟨RX12, "taste", "(II)I"⟩
abbrev cX12_mild : ByteArray := prog_14_method_88_code
def yX12_mild : MethodName := ⟨RX12, "mild", "()I"⟩
abbrev cX12_see : ByteArray := prog_14_method_89_code
def yX12_see : MethodName := ⟨RX12, "see", "(IZ)Z"⟩
abbrev cX12_hallsAsSeen : ByteArray := prog_14_method_90_code
def yX12_hallsAsSeen : MethodName := ⟨RX12, "hallsAsSeen", "()I"⟩
abbrev cX12_halls : ByteArray := prog_14_method_91_code
def yX12_halls : MethodName := ⟨RX12, "halls", "()I"⟩
abbrev cX12_ask : ByteArray := prog_14_method_92_code
def yX12_ask : MethodName := ⟨RX12, "ask", "()I"⟩
abbrev cX12_getsBy : ByteArray := prog_14_method_93_code
def yX12_getsBy : MethodName := ⟨RX12, "getsBy", "(IIIII)I"⟩
abbrev cX12_rests : ByteArray := prog_14_method_94_code
def yX12_rests : MethodName := ⟨RX12, "rests", "(IIII)I"⟩
abbrev cX12_share : ByteArray := prog_14_method_95_code
def yX12_share : MethodName := ⟨RX12, "share", "(I)I"⟩
abbrev cX12_draws : ByteArray := prog_14_method_96_code
def yX12_draws : MethodName := ⟨RX12, "draws", "(I)I"⟩
abbrev cX12_nth : ByteArray := prog_14_method_97_code
def yX12_nth : MethodName := ⟨RX12, "nth", "(II)I"⟩
abbrev cX12_givesSome : ByteArray := prog_14_method_98_code
def yX12_givesSome : MethodName := ⟨RX12, "givesSome", "()V"⟩
abbrev cX12_tours : ByteArray := prog_14_method_99_code
def yX12_tours : MethodName := ⟨RX12, "tours", "(III)I"⟩
abbrev cX12_mark : ByteArray := prog_14_method_100_code
def yX12_mark : MethodName := ⟨RX12, "mark", "(IZ)Z"⟩
abbrev cX12_count : ByteArray := prog_14_method_101_code
def yX12_count : MethodName := ⟨RX12, "count", "(I)I"⟩
def RJx145de : String := "java/io/Serializable"
def TJx145de : u_T := fun k => match k with
  | _ => ("", "", "", false)
def tyJx145de : Nat → FieldType := fun k => match k with
  | _ => .int
abbrev wsJx145de0 : List Cond := u_ws RJx145de TJx145de 0
theorem nmJx145de : ∀ a, a < 0 → ∀ b, b < 0 → a ≠ b → (TJx145de a).2.1 ≠ (TJx145de b).2.1 := by decide +kernel
theorem tyJx145de_ok : ∀ k, k < 0 → parseFieldDescriptor (TJx145de k).2.2.1 = some (tyJx145de k) := by decide +kernel
def RJx9f9b0 : String := "java/lang/CharSequence"
def TJx9f9b0 : u_T := fun k => match k with
  | _ => ("", "", "", false)
def tyJx9f9b0 : Nat → FieldType := fun k => match k with
  | _ => .int
abbrev wsJx9f9b00 : List Cond := u_ws RJx9f9b0 TJx9f9b0 0
theorem nmJx9f9b0 : ∀ a, a < 0 → ∀ b, b < 0 → a ≠ b → (TJx9f9b0 a).2.1 ≠ (TJx9f9b0 b).2.1 := by decide +kernel
theorem tyJx9f9b0_ok : ∀ k, k < 0 → parseFieldDescriptor (TJx9f9b0 k).2.2.1 = some (tyJx9f9b0 k) := by decide +kernel
def RJxb160c : String := "java/lang/Comparable"
def TJxb160c : u_T := fun k => match k with
  | _ => ("", "", "", false)
def tyJxb160c : Nat → FieldType := fun k => match k with
  | _ => .int
abbrev wsJxb160c0 : List Cond := u_ws RJxb160c TJxb160c 0
theorem nmJxb160c : ∀ a, a < 0 → ∀ b, b < 0 → a ≠ b → (TJxb160c a).2.1 ≠ (TJxb160c b).2.1 := by decide +kernel
theorem tyJxb160c_ok : ∀ k, k < 0 → parseFieldDescriptor (TJxb160c k).2.2.1 = some (tyJxb160c k) := by decide +kernel
def RJ6 : String := "java/lang/Integer"
def TJ6 : u_T := fun k => match k with
  | _ => ("", "", "", false)
def tyJ6 : Nat → FieldType := fun k => match k with
  | _ => .int
abbrev wsJ60 : List Cond := u_ws RJ6 TJ6 0
theorem nmJ6 : ∀ a, a < 0 → ∀ b, b < 0 → a ≠ b → (TJ6 a).2.1 ≠ (TJ6 b).2.1 := by decide +kernel
theorem tyJ6_ok : ∀ k, k < 0 → parseFieldDescriptor (TJ6 k).2.2.1 = some (tyJ6 k) := by decide +kernel
abbrev cJ6_bitCount_0f7a4 : ByteArray := prog_19_method_49_code
def yJ6_bitCount_0f7a4 : MethodName := ⟨RJ6, "bitCount", "(I)I"⟩
def RJ9 : String := "java/lang/Math"
def TJ9 : u_T := fun k => match k with
  | _ => ("", "", "", false)
def tyJ9 : Nat → FieldType := fun k => match k with
  | _ => .int
abbrev wsJ90 : List Cond := u_ws RJ9 TJ9 0
theorem nmJ9 : ∀ a, a < 0 → ∀ b, b < 0 → a ≠ b → (TJ9 a).2.1 ≠ (TJ9 b).2.1 := by decide +kernel
theorem tyJ9_ok : ∀ k, k < 0 → parseFieldDescriptor (TJ9 k).2.2.1 = some (tyJ9 k) := by decide +kernel
abbrev cJ9_max_7cf53 : ByteArray := prog_20_method_65_code
def yJ9_max_7cf53 : MethodName := ⟨RJ9, "max", "(II)I"⟩
abbrev cJ9_min_7cf53 : ByteArray := prog_20_method_69_code
def yJ9_min_7cf53 : MethodName := ⟨RJ9, "min", "(II)I"⟩
def RJ0 : String := "java/lang/String"
def TJ0 : u_T := fun k => match k with
  | _ => ("", "", "", false)
def tyJ0 : Nat → FieldType := fun k => match k with
  | _ => .int
abbrev wsJ00 : List Cond := u_ws RJ0 TJ0 0
theorem nmJ0 : ∀ a, a < 0 → ∀ b, b < 0 → a ≠ b → (TJ0 a).2.1 ≠ (TJ0 b).2.1 := by decide +kernel
theorem tyJ0_ok : ∀ k, k < 0 → parseFieldDescriptor (TJ0 k).2.2.1 = some (tyJ0 k) := by decide +kernel
abbrev cJ0_length_8abf5 : ByteArray := prog_22_method_54_code
def yJ0_length_8abf5 : MethodName := ⟨RJ0, "length", "()I"⟩
abbrev cJ0_charAt_5068e : ByteArray := prog_22_method_56_code
def yJ0_charAt_5068e : MethodName := ⟨RJ0, "charAt", "(I)C"⟩
abbrev cJ0_coder_7d493 : ByteArray := prog_22_method_152_code
def yJ0_coder_7d493 : MethodName := ⟨RJ0, "coder", "()B"⟩
abbrev cJ0_isLatin1_aae02 : ByteArray := prog_22_method_154_code
def yJ0_isLatin1_aae02 : MethodName := ⟨RJ0, "isLatin1", "()Z"⟩
abbrev cJ0_checkIndex_df160 : ByteArray := prog_22_method_155_code
def yJ0_checkIndex_df160 : MethodName := ⟨RJ0, "checkIndex", "(II)V"⟩
def RJ1 : String := "java/lang/StringLatin1"
def TJ1 : u_T := fun k => match k with
  | _ => ("", "", "", false)
def tyJ1 : Nat → FieldType := fun k => match k with
  | _ => .int
abbrev wsJ10 : List Cond := u_ws RJ1 TJ1 0
theorem nmJ1 : ∀ a, a < 0 → ∀ b, b < 0 → a ≠ b → (TJ1 a).2.1 ≠ (TJ1 b).2.1 := by decide +kernel
theorem tyJ1_ok : ∀ k, k < 0 → parseFieldDescriptor (TJ1 k).2.2.1 = some (tyJ1 k) := by decide +kernel
abbrev cJ1_charAt_3b067 : ByteArray := prog_23_method_2_code
def yJ1_charAt_3b067 : MethodName := ⟨RJ1, "charAt", "([BI)C"⟩
def RJ2 : String := "java/lang/StringUTF16"
def TJ2 : u_T := fun k => match k with
  | _ => ("", "", "", false)
def tyJ2 : Nat → FieldType := fun k => match k with
  | _ => .int
abbrev wsJ20 : List Cond := u_ws RJ2 TJ2 0
theorem nmJ2 : ∀ a, a < 0 → ∀ b, b < 0 → a ≠ b → (TJ2 a).2.1 ≠ (TJ2 b).2.1 := by decide +kernel
theorem tyJ2_ok : ∀ k, k < 0 → parseFieldDescriptor (TJ2 k).2.2.1 = some (tyJ2 k) := by decide +kernel
abbrev cJ2_getChar_3b067 : ByteArray := prog_24_method_5_code
def yJ2_getChar_3b067 : MethodName := ⟨RJ2, "getChar", "([BI)C"⟩
abbrev cJ2_length_9d52b : ByteArray := prog_24_method_6_code
def yJ2_length_9d52b : MethodName := ⟨RJ2, "length", "([B)I"⟩
abbrev cJ2_charAt_3b067 : ByteArray := prog_24_method_83_code
def yJ2_charAt_3b067 : MethodName := ⟨RJ2, "charAt", "([BI)C"⟩
abbrev cJ2_checkIndex_2214a : ByteArray := prog_24_method_91_code
def yJ2_checkIndex_2214a : MethodName := ⟨RJ2, "checkIndex", "(I[B)V"⟩
def RJxfd54e : String := "java/lang/constant/Constable"
def TJxfd54e : u_T := fun k => match k with
  | _ => ("", "", "", false)
def tyJxfd54e : Nat → FieldType := fun k => match k with
  | _ => .int
abbrev wsJxfd54e0 : List Cond := u_ws RJxfd54e TJxfd54e 0
theorem nmJxfd54e : ∀ a, a < 0 → ∀ b, b < 0 → a ≠ b → (TJxfd54e a).2.1 ≠ (TJxfd54e b).2.1 := by decide +kernel
theorem tyJxfd54e_ok : ∀ k, k < 0 → parseFieldDescriptor (TJxfd54e k).2.2.1 = some (tyJxfd54e k) := by decide +kernel
def RJx3cf43 : String := "java/lang/constant/ConstantDesc"
def TJx3cf43 : u_T := fun k => match k with
  | _ => ("", "", "", false)
def tyJx3cf43 : Nat → FieldType := fun k => match k with
  | _ => .int
abbrev wsJx3cf430 : List Cond := u_ws RJx3cf43 TJx3cf43 0
theorem nmJx3cf43 : ∀ a, a < 0 → ∀ b, b < 0 → a ≠ b → (TJx3cf43 a).2.1 ≠ (TJx3cf43 b).2.1 := by decide +kernel
theorem tyJx3cf43_ok : ∀ k, k < 0 → parseFieldDescriptor (TJx3cf43 k).2.2.1 = some (tyJx3cf43 k) := by decide +kernel
def RJ3 : String := "jdk/internal/util/Preconditions"
def TJ3 : u_T := fun k => match k with
  | _ => ("", "", "", false)
def tyJ3 : Nat → FieldType := fun k => match k with
  | _ => .int
abbrev wsJ30 : List Cond := u_ws RJ3 TJ3 0
theorem nmJ3 : ∀ a, a < 0 → ∀ b, b < 0 → a ≠ b → (TJ3 a).2.1 ≠ (TJ3 b).2.1 := by decide +kernel
theorem tyJ3_ok : ∀ k, k < 0 → parseFieldDescriptor (TJ3 k).2.2.1 = some (tyJ3 k) := by decide +kernel
abbrev cJ3_checkIndex_8e157 : ByteArray := prog_29_method_11_code
def yJ3_checkIndex_8e157 : MethodName := ⟨RJ3, "checkIndex", "(IILjava/util/function/BiFunction;)I"⟩
def RL : String := "CountyPrintLaw"
abbrev cL_saves : ByteArray := method_3_code
def yL_saves : MethodName := ⟨RL, "saves", "(LCountyPrint;I[J)I"⟩
abbrev cL_rests : ByteArray := method_4_code
def yL_rests : MethodName := ⟨RL, "rests", "(LCountyPrint;IIII[J)I"⟩
abbrev cL_law : ByteArray := code
def yL_law : MethodName := ⟨RL, "law", "([I)Z"⟩
abbrev vwCl : List vw_C := [(RX0, TX0, 10), (RX1, TX1, 1), (RX2, TX2, 4), (RX3, TX3, 4), (RX4, TX4, 3), (RX5, TX5, 5), (RX6, TX6, 3), (RX7, TX7, 3), (RX8, TX8, 3), (RX9, TX9, 10), (RX10, TX10, 5), (RX11, TX11, 14), (RX12, TX12, 58)]
end
section
/-! ===== the memory that the law's run makes, and worlds out of it =====
A memory: how many cells there are (all at B + 0, B + 1 ..), the shape of each (0, c): an object of class c of vwCl; (1, n) int[n]; (2, n) long[n]; (3, n) boolean[n]; (4, n) char[n]; (5, n) Mark[n]; (6, n) Travel[n]; then the ints, the longs and the references that they hold, by cell and place. -/
abbrev MM : Type := Nat × (Nat → Nat × Nat) × (Nat → Nat → Int32) × (Nat → Nat → Int64) × (Nat → Nat → Option Nat)
abbrev mn (M : MM) : Nat := M.1
abbrev mh (M : MM) : Nat → Nat × Nat := M.2.1
abbrev mi (M : MM) : Nat → Nat → Int32 := M.2.2.1
abbrev mj (M : MM) : Nat → Nat → Int64 := M.2.2.2.1
abbrev mr (M : MM) : Nat → Nat → Option Nat := M.2.2.2.2
def mu {α : Type} (f : Nat → Nat → α) (a k : Nat) (v : α) : Nat → Nat → α := fun b j => if b = a ∧ j = k then v else f b j
theorem mu_s {α : Type} (f : Nat → Nat → α) (a k : Nat) (v : α) : mu f a k v a k = v := if_pos ⟨rfl, rfl⟩
theorem mu_a {α : Type} (f : Nat → Nat → α) {a b : Nat} (k j : Nat) (v : α) (h : b ≠ a) : mu f a k v b j = f b j := if_neg fun q => h q.1
theorem mu_k {α : Type} (f : Nat → Nat → α) (a : Nat) {b k j : Nat} (v : α) (h : j ≠ k) : mu f a k v b j = f b j := if_neg fun q => h q.2
abbrev wi (M : MM) (a k : Nat) (v : Int32) : MM := (M.1, M.2.1, mu M.2.2.1 a k v, M.2.2.2.1, M.2.2.2.2)
abbrev wj (M : MM) (a k : Nat) (v : Int64) : MM := (M.1, M.2.1, M.2.2.1, mu M.2.2.2.1 a k v, M.2.2.2.2)
abbrev wr (M : MM) (a k : Nat) (v : Option Nat) : MM := (M.1, M.2.1, M.2.2.1, M.2.2.2.1, mu M.2.2.2.2 a k v)
/-- one cell more -/
def mw (M : MM) (sh : Nat × Nat) : MM := (M.1 + 1, fun a => if a = M.1 then sh else M.2.1 a, fun a k => if a = M.1 then 0 else M.2.2.1 a k, fun a k => if a = M.1 then 0 else M.2.2.2.1 a k, fun a k => if a = M.1 then none else M.2.2.2.2 a k)
/-- of which kind the fields of the classes are: 0 ints, 1 longs, 2 references -/
def mkd : FieldType → Nat
  | .int => 0
  | .boolean => 0
  | .char => 0
  | .long => 1
  | .object _ => 2
  | .array _ => 2
  | _ => 9
def mty (ci : Nat) : Nat → FieldType := match ci with
  | 0 => tyX0
  | 1 => tyX1
  | 2 => tyX2
  | 3 => tyX3
  | 4 => tyX4
  | 5 => tyX5
  | 6 => tyX6
  | 7 => tyX7
  | 8 => tyX8
  | 9 => tyX9
  | 10 => tyX10
  | 11 => tyX11
  | _ => tyX12
def mN (ci : Nat) : Nat := match ci with
  | 0 => 10
  | 1 => 1
  | 2 => 4
  | 3 => 4
  | 4 => 3
  | 5 => 5
  | 6 => 3
  | 7 => 3
  | 8 => 3
  | 9 => 10
  | 10 => 5
  | 11 => 14
  | _ => 58
abbrev mk (ci k : Nat) : Nat := mkd (mty ci k)
def mo (B : Nat) (r : Option Nat) : Option Nat := r.map (fun a => B + a)
def mfv (B : Nat) (M : MM) (a k kd : Nat) : Value := if kd = 0 then .int (mi M a k) else if kd = 1 then .long (mj M a k) else va_rf (mo B (mr M a k))
def mF (B : Nat) (M : MM) (ci a : Nat) : List Value := (List.range (mN ci)).map fun k => mfv B M a k (mk ci k)
def mE (B : Nat) (dA : Nat → ClassId) (M : MM) (a : Nat) : va_E :=
  if (mh M a).1 = 0 then .inr ((mh M a).2, mF B M (mh M a).2 a)
  else if (mh M a).1 = 2 then .inl (dA 2, (mh M a).2, .inr (.inl (mj M a)))
  else if 5 ≤ (mh M a).1 then .inl (dA (mh M a).1, (mh M a).2, .inr (.inr (.inr (.inr (fun k => mo B (mr M a k))))))
  else .inl (dA (mh M a).1, (mh M a).2, .inl (mi M a))
/-- the context: the launch, where the run's cells begin, the classes' numbers and slots, the array classes -/
abbrev GG : Type := Launch × Nat × va_G × (Nat → ClassId)
abbrev gB (g : GG) : Nat := g.2.1
def mW (g : GG) (M : MM) : va_W := (List.range (mn M)).map fun a => (gB g + a, mE (gB g) g.2.2.2 M a)
theorem mW_at (g : GG) (M : MM) {a : Nat} (h : a < mn M) : (mW g M)[a]? = some (gB g + a, mE (gB g) g.2.2.2 M a) := by
  simp [mW, h]
theorem mW_len (g : GG) (M : MM) : (mW g M).length = mn M := by simp [mW]
theorem mW_of {g : GG} {M : MM} {k : Nat} {q : Nat × va_E} (h : (mW g M)[k]? = some q) : k < mn M ∧ q = (gB g + k, mE (gB g) g.2.2.2 M k) := by
  have hk : k < mn M := by
    have := (List.getElem?_eq_some_iff.mp h).1
    rwa [mW_len] at this
  rw [mW_at g M hk] at h
  exact ⟨hk, (Option.some.inj h).symm⟩
theorem mD (g : GG) (M : MM) : va_D (fun q => gB g ≤ q) (mW g M) := by
  refine ⟨fun i j p q hi hj h => ?_, fun k q hk => ?_⟩
  · obtain ⟨-, rfl⟩ := mW_of hi
    obtain ⟨-, rfl⟩ := mW_of hj
    have h : gB g + i = gB g + j := h
    omega
  · obtain ⟨-, rfl⟩ := mW_of hk
    exact Nat.le_add_right _ _
theorem mW_set {g : GG} {M M' : MM} {a : Nat} {e : va_E} (h : a < mn M) (hn : mn M' = mn M) (he : mE (gB g) g.2.2.2 M' a = e) (ho : ∀ b, b ≠ a → mE (gB g) g.2.2.2 M' b = mE (gB g) g.2.2.2 M b) : (mW g M).set a (gB g + a, e) = mW g M' := by
  apply List.ext_getElem?
  intro k
  rw [List.getElem?_set]
  by_cases hk : k < mn M
  · rw [mW_at g M' (by rw [hn]; exact hk)]
    by_cases e2 : a = k
    · subst e2
      rw [if_pos rfl, if_pos (by rw [mW_len]; exact h), he]
    · rw [if_neg e2, mW_at g M hk, ho k (fun q => e2 q.symm)]
  · have h1 : (mW g M)[k]? = none := by rw [List.getElem?_eq_none]; rw [mW_len]; omega
    have h2 : (mW g M')[k]? = none := by rw [List.getElem?_eq_none]; rw [mW_len, hn]; omega
    rw [h2]
    by_cases e2 : a = k
    · omega
    · rw [if_neg e2, h1]
theorem mE_ob {B : Nat} {dA : Nat → ClassId} {M : MM} {a ci : Nat} (h : mh M a = (0, ci)) : mE B dA M a = .inr (ci, mF B M ci a) := by simp [mE, h]
theorem mE_i {B : Nat} {dA : Nat → ClassId} {M : MM} {a n : Nat} (h : mh M a = (1, n)) : mE B dA M a = .inl (dA 1, n, .inl (mi M a)) := by simp [mE, h]
theorem mE_j {B : Nat} {dA : Nat → ClassId} {M : MM} {a n : Nat} (h : mh M a = (2, n)) : mE B dA M a = .inl (dA 2, n, .inr (.inl (mj M a))) := by simp [mE, h]
theorem mE_z {B : Nat} {dA : Nat → ClassId} {M : MM} {a n : Nat} (h : mh M a = (3, n)) : mE B dA M a = .inl (dA 3, n, .inl (mi M a)) := by simp [mE, h]
theorem mE_c {B : Nat} {dA : Nat → ClassId} {M : MM} {a n : Nat} (h : mh M a = (4, n)) : mE B dA M a = .inl (dA 4, n, .inl (mi M a)) := by simp [mE, h]
theorem mE_q {B : Nat} {dA : Nat → ClassId} {M : MM} {a t n : Nat} (h : mh M a = (t, n)) (ht : 5 ≤ t) : mE B dA M a = .inl (dA t, n, .inr (.inr (.inr (.inr (fun k => mo B (mr M a k)))))) := by
  have h0 : ¬ t = 0 := by omega
  have h2 : ¬ t = 2 := by omega
  simp [mE, h, h0, h2, ht]
theorem mF_at {B : Nat} {M : MM} {ci a k : Nat} (h : k < mN ci) : (mF B M ci a)[k]? = some (mfv B M a k (mk ci k)) := by simp [mF, h]
theorem mF_len {B : Nat} {M : MM} {ci a : Nat} : (mF B M ci a).length = mN ci := by simp [mF]
theorem mF_set {B : Nat} {M M' : MM} {ci a k : Nat} {v : Value} (h : k < mN ci) (hv : mfv B M' a k (mk ci k) = v) (ho : ∀ j kd, j ≠ k → mfv B M' a j kd = mfv B M a j kd) : (mF B M ci a).set k v = mF B M' ci a := by
  apply List.ext_getElem?
  intro j
  rw [List.getElem?_set]
  by_cases hj : j < mN ci
  · rw [mF_at (M := M') hj]
    by_cases e2 : k = j
    · subst e2
      rw [if_pos rfl, if_pos (by rw [mF_len]; exact h), hv]
    · rw [if_neg e2, mF_at (M := M) hj, ho j _ (fun q => e2 q.symm)]
  · have h1 : (mF B M ci a)[j]? = none := by rw [List.getElem?_eq_none]; rw [mF_len]; omega
    have h2 : (mF B M' ci a)[j]? = none := by rw [List.getElem?_eq_none]; rw [mF_len]; omega
    rw [h2]
    by_cases e2 : k = j
    · omega
    · rw [if_neg e2, h1]
/-- what is at a cell depends on its shape and what it holds alone -/
theorem mE_same {B : Nat} {dA : Nat → ClassId} {M M' : MM} {a : Nat} (h : mh M' a = mh M a) (h1 : ∀ k, mi M' a k = mi M a k) (h2 : ∀ k, mj M' a k = mj M a k) (h3 : ∀ k, mr M' a k = mr M a k) : mE B dA M' a = mE B dA M a := by
  have e1 : mi M' a = mi M a := funext h1
  have e2 : mj M' a = mj M a := funext h2
  have e3 : mr M' a = mr M a := funext h3
  unfold mE mF mfv
  rw [h, e1, e2, e3]
theorem mE_wi {B : Nat} {dA : Nat → ClassId} {M : MM} {a b k : Nat} {v : Int32} (h : b ≠ a) : mE B dA (wi M a k v) b = mE B dA M b := mE_same rfl (fun j => mu_a _ k j v h) (fun _ => rfl) (fun _ => rfl)
theorem mE_wj {B : Nat} {dA : Nat → ClassId} {M : MM} {a b k : Nat} {v : Int64} (h : b ≠ a) : mE B dA (wj M a k v) b = mE B dA M b := mE_same rfl (fun _ => rfl) (fun j => mu_a _ k j v h) (fun _ => rfl)
theorem mE_wr {B : Nat} {dA : Nat → ClassId} {M : MM} {a b k : Nat} {v : Option Nat} (h : b ≠ a) : mE B dA (wr M a k v) b = mE B dA M b := mE_same rfl (fun _ => rfl) (fun _ => rfl) (fun j => mu_a _ k j v h)
theorem mu_upd (f : Nat → Nat → Int32) (a k : Nat) (v : Int32) : mu f a k v a = upd (f a) k v := by
  funext j
  by_cases h : j = k
  · simp [mu, upd, h]
  · simp [mu, upd, h]
theorem mu_updL (f : Nat → Nat → Int64) (a k : Nat) (v : Int64) : mu f a k v a = vp_updL (f a) k v := by
  funext j
  by_cases h : j = k
  · simp [mu, vp_updL, h]
  · simp [mu, vp_updL, h]
theorem mu_upq (B : Nat) (f : Nat → Nat → Option Nat) (a k : Nat) (v : Option Nat) : (fun j => mo B (mu f a k v a j)) = va_up (fun j => mo B (f a j)) k (mo B v) := by
  funext j
  by_cases h : j = k
  · simp [mu, va_up, h]
  · simp [mu, va_up, h]
/-- values: a reference is a number of a cell -/
def xv (B : Nat) : Value → Value
  | .ref a => .ref (B + a)
  | v => v
theorem xv_cat (B : Nat) (v : Value) : (xv B v).category = v.category := by cases v <;> rfl
theorem xv_rf (B : Nat) (r : Option Nat) : va_rf (mo B r) = xv B (va_rf r) := by cases r <;> rfl
abbrev xst (g : GG) (st : List Value) : List Value := st.map (xv (gB g))
abbrev xlv (g : GG) (lv : List (Nat × Value)) : List (Nat × Value) := lv.map fun q => (q.1, xv (gB g) q.2)
theorem xlv_at {g : GG} {lv : List (Nat × Value)} {q i : Nat} {v : Value} (h : lv[q]? = some (i, v)) : (xlv g lv)[q]? = some (i, xv (gB g) v) := by simp [xlv, h]
theorem xlv_f (g : GG) (F : Nat → Nat → Bool) (lv : List (Nat × Value)) : (xlv g lv).filter (fun q => F q.1 q.2.category) = xlv g (lv.filter (fun q => F q.1 q.2.category)) := by
  induction lv with
  | nil => rfl
  | cons a l ih =>
    simp only [xlv, List.map_cons, List.filter_cons, xv_cat] at ih ⊢
    rw [ih]
    split <;> rfl
def xs1 (lv : List (Nat × Value)) (i : Nat) (v : Value) : List (Nat × Value) := (i, v) :: lv.filter (fun q => !(q.1 == i) && !(q.1 + 1 == i && q.2.category == 2))
def xs2 (lv : List (Nat × Value)) (i : Nat) (v : Value) : List (Nat × Value) := (i, v) :: lv.filter (fun q => !(q.1 == i) && (!(q.1 == i + 1) && !(q.1 + 1 == i && q.2.category == 2)))
theorem xs1_m (g : GG) (lv : List (Nat × Value)) (i : Nat) (v : Value) : (i, xv (gB g) v) :: (xlv g lv).filter (fun q => !(q.1 == i) && !(q.1 + 1 == i && q.2.category == 2)) = xlv g (xs1 lv i v) := by
  have h := xlv_f g (fun a b => !(a == i) && !(a + 1 == i && b == 2)) lv
  unfold xs1
  rw [h]
  rfl
theorem xs2_m (g : GG) (lv : List (Nat × Value)) (i : Nat) (v : Value) : (i, xv (gB g) v) :: (xlv g lv).filter (fun q => !(q.1 == i) && (!(q.1 == i + 1) && !(q.1 + 1 == i && q.2.category == 2))) = xlv g (xs2 lv i v) := by
  have h := xlv_f g (fun a b => !(a == i) && (!(a == i + 1) && !(a + 1 == i && b == 2))) lv
  unfold xs2
  rw [h]
  rfl
/-! ===== the words that every method rests on ===== -/
def gw : List Cond := lw_tbl.filter goodWord
theorem gw_good {w : Cond} (h : w ∈ gw) : (w.onTables && w.keeps) = true ∨ ∃ ty, w = .arrayClass ty := good_of_word (List.mem_filter.mp h).2
theorem gw_in {w : Cond} (h : w ∈ gw) : w ∈ lw_tbl := (List.mem_filter.mp h).1
theorem gw_of {w : Cond} (i : Nat) (h : tables_1[i]? = some w) (hg : goodWord w = true) : w ∈ gw := List.mem_filter.mpr ⟨List.mem_append_right _ (List.mem_of_getElem? h), hg⟩
theorem gw_sel {q : MethodName × Nat} (i : Nat) (h : lw_privs[i]? = some q) (hg : goodWord (Cond.selects q.1.cls q.1 q.1) = true) : Cond.selects q.1.cls q.1 q.1 ∈ gw := List.mem_filter.mpr ⟨List.mem_append_left _ (List.mem_map.mpr ⟨q, List.mem_of_getElem? h, rfl⟩), hg⟩
theorem gw_GoodIn {w : Cond} (h : w ∈ gw) : GoodIn gw (w :: gw) := fun v hv => by
  rcases List.mem_cons.mp hv with rfl | q
  · exact ⟨h, gw_good h⟩
  · exact ⟨q, gw_good q⟩
end
section
/-! ===== EX: from this point of this method the machine comes to a return with P =====
A method: its name, its code, its locals, its answer's type, how many arguments it takes beside 'this'. -/
abbrev YY : Type := MethodName × ByteArray × Nat × Option FieldType × Nat
abbrev yN (Y : YY) : MethodName := Y.1
abbrev yC (Y : YY) : ByteArray := Y.2.1
abbrev yL (Y : YY) : Nat := Y.2.2.1
abbrev yR (Y : YY) : Option FieldType := Y.2.2.2.1
abbrev yA (Y : YY) : Nat := Y.2.2.2.2
abbrev yK (Y : YY) : Cond := .code (yN Y) (yC Y) (yL Y) (yR Y)
def mT (g : GG) : List (ClassId × FieldType) := [(g.2.2.2 1, .int), (g.2.2.2 2, .long), (g.2.2.2 3, .boolean), (g.2.2.2 4, .char), (g.2.2.2 5, .object RX3), (g.2.2.2 6, .object RX10)]
abbrev gA (g : GG) : Nat → Prop := fun q => gB g ≤ q
abbrev gV (g : GG) (M : MM) (H : Heap) : Prop := va_P g.2.2.1 vwCl (mW g M) H
/-- words that aren't carried with a method's own: links of private constructors, classes of arrays of references -/
def isNest : Cond → Bool
  | .methodLinkNest _ _ _ _ => true
  | _ => false
def gN (s : State) : Prop := (∀ w ∈ lw_tbl, isNest w = true → va_Nw w s) ∧ va_AO RX3 s ∧ va_AO RX10 s
theorem gN.warm {s U : State} (hW : s.WarmedH U.vm) (h : gN s) : gN U := by
  refine ⟨fun w hw hn => ?_, h.2.1.moved hW.alike, h.2.2.moved hW.alike⟩
  have h1 := h.1 w hw hn
  cases w <;> first | exact va_Nw.warmM hW h1 | cases hn
theorem gN.same {s U : State} (hv : s.vm = U.vm) (h : gN s) : gN U := by
  refine ⟨fun w hw hn => ?_, h.2.1.moved (by rw [hv]; exact Vm.Alike.refl _), h.2.2.moved (by rw [hv]; exact Vm.Alike.refl _)⟩
  have h1 := h.1 w hw hn
  cases w <;> first | exact va_Nw.same rfl hv h1 | cases hn
abbrev gK (g : GG) (s : State) : Prop := va_K g.2.2.1 vwCl (mT g) s ∧ gN s
def xQ (g : GG) (P : Option Value → MM → Prop) : Array Value → State → Outcome → State → Prop := fun _ st o t =>
  (∃ (rv : Option Value) (M : MM), o = .returned (rv.map (xv (gB g))) ∧ P rv M ∧ gV g M t.heap ∧ t.heap.size = gB g + mn M) ∧ va_F (gA g) st t
abbrev xR (d mc ms : Nat) : Room := { frames := d, cells := mc, slots := ms, locals := 40 * d }
def xC (g : GG) (Y : YY) (p : Program) (s : State) (m : MethodId) (args : Array Value) (meth : Method) (c : Code) : Prop :=
  p.tables.exec = Jvm.exec ∧ c.code = yC Y ∧ c.maxLocals = yL Y ∧ s.vm.findClass (yN Y).cls = some m.cls ∧ (∀ w ∈ gw, w.before args s = true) ∧ meth.sig.returnType = yR Y ∧ meth.locks = false ∧ meth.name = (yN Y).name ∧ gK g s ∧ gB g ≤ s.heap.size
def EX (g : GG) (Y : YY) (d mc ms ce sl pc : Nat) (lv : List (Nat × Value)) (st : List Value) (M : MM) (P : Option Value → MM → Prop) : Prop :=
  ∀ (p : Program) (e : Env) (s : State) (m : MethodId) (args : Array Value) (below : List Frame) (meth : Method) (c : Code) (H : Heap) (locs : List Loc) (ls : Array Slot),
    xC g Y p s m args meth c → gV g M H → va_S (gA g) s.heap H locs → H.size = gB g + mn M → lv_has ls (yL Y) (xlv g lv) →
    W p g.1 e (xR d mc ms) s m args below meth c H locs ce sl (MQ below (xQ g P) args s mc ms (gA g)) (F0 m pc ls (xst g st))
/-- a method's contract: called with these arguments and this memory it returns with P; its words are gw -/
def RT (g : GG) (Y : YY) (d mc ms : Nat) (av : List Value) (M : MM) (P : Option Value → MM → Prop) : Prop :=
  Met g.1 (yN Y) (yK Y :: gw) (xR d mc ms) (va_Pc (xst g av) (fun U => U.heap.size = gB g + mn M ∧ gV g M U.heap ∧ gK g U)) (xQ g P) mc ms (gA g)
section EXB
variable {g : GG} {Y : YY} {d mc ms ce sl pc : Nat} {lv : List (Nat × Value)} {st : List Value} {M : MM} {P : Option Value → MM → Prop}
theorem EX.to {P' : Option Value → MM → Prop} (h : EX g Y d mc ms ce sl pc lv st M P') (hp : ∀ rv M', P' rv M' → P rv M') : EX g Y d mc ms ce sl pc lv st M P := by
  intro p e s m args below meth c H locs ls C hP hS hz hl T hT X
  obtain ⟨t, a, o, b1, b2, ⟨⟨rv, M', e1, e2, e3⟩, e4⟩, b4⟩ := h p e s m args below meth c H locs ls C hP hS hz hl T hT X
  exact ⟨t, a, o, b1, b2, ⟨⟨rv, M', e1, hp _ _ e2, e3⟩, e4⟩, b4⟩
theorem EX.sub {lv' : List (Nat × Value)} (ks : List Nat) (h : EX g Y d mc ms ce sl pc lv' st M P) (hk : lv_pick lv ks = lv') : EX g Y d mc ms ce sl pc lv st M P := by
  intro p e s m args below meth c H locs ls C hP hS hz hl
  refine h p e s m args below meth c H locs ls C hP hS hz (lv_sub hl ks ?_)
  subst hk
  clear h
  unfold lv_pick
  induction ks with
  | nil => rfl
  | cons k ks ih =>
    rw [List.filterMap_cons, List.filterMap_cons, List.getElem?_map]
    cases lv[k]? with
    | none => exact ih
    | some q => simp only [Option.map_some]; rw [ih]; rfl
theorem EX.entry {av : List Value} (hY : plainName (yN Y).cls = true) (hl : (lg_sl av).length ≤ yL Y) (h : EX g Y d mc ms 0 0 0 (lv_args 0 av) [] M P) : RT g Y d mc ms av M P := by
  unfold RT
  refine Met.ofW (cc := yC Y) (maxL := yL Y) (ret := yR Y) hY rfl ?_
  intro p e s m args below meth c s₁ B hml hv
  obtain ⟨rfl, hz, hP, hK⟩ := hv
  have hts := atoms_spec (ws := yK Y :: gw) B.pre
  have C : xC g Y p s m (xst g av).toArray meth c := ⟨B.exec, B.bytes, hml, findClass_of_methodNamed B.named, fun w hw => hts w (List.mem_cons_of_mem _ hw), B.returns, B.notSynchronized, (name_of_methodNamed B.named B.method).1, hK, by rw [hz]; exact Nat.le_add_right _ _⟩
  have e1 : ∀ (av : List Value), (lg_sl (xst g av)).length = (lg_sl av).length := by
    intro av
    induction av with
    | nil => rfl
    | cons v av ih =>
      unfold lg_sl at ih ⊢
      simp only [xst, List.map_cons, List.flatMap_cons, List.length_append, xv_cat] at ih ⊢
      rw [ih]
      split <;> rfl
  have e2 : ∀ (av : List Value) (i : Nat), lv_args i (xst g av) = xlv g (lv_args i av) := by
    intro av
    induction av with
    | nil => intro i; rfl
    | cons v av ih =>
      intro i
      simp only [xst, List.map_cons, lv_args, xv_cat] at ih ⊢
      rw [ih]
  have hl0 := lv_entry (xst g av) (n := yL Y) (by rw [e1]; exact hl)
  rw [e2] at hl0
  rw [lg_entry_eq]
  exact h p e s m _ below meth c s.heap [] _ C hP va_S.rf hz hl0
end EXB
end
section
/-! ===== rows over EX: an instruction each ===== -/
section EXR
variable {g : GG} {Y : YY} {d mc ms ce sl pc : Nat} {lv : List (Nat × Value)} {st : List Value} {M : MM} {P : Option Value → MM → Prop}
theorem x_iconst {n : Int} {v : Int32} (hd : decode (yC Y) pc = .ok (.iconst n, 1)) (hv : Int32.ofInt n = v) (k : EX g Y d mc ms ce sl (pc + 1) lv (.int v :: st) M P) : EX g Y d mc ms ce sl pc lv (st) M P := by
  intro p e s m args below meth c H locs ls C hP hS hz hl
  exact lv_iconst C.1 C.2.1 hd hv (k p e s m args below meth c H locs ls C hP hS hz hl)
theorem x_bipush {n : Int} {v : Int32} (hd : decode (yC Y) pc = .ok (.bipush n, 2)) (hv : (Int8.ofInt n).toInt32 = v) (k : EX g Y d mc ms ce sl (pc + 2) lv (.int v :: st) M P) : EX g Y d mc ms ce sl pc lv (st) M P := by
  intro p e s m args below meth c H locs ls C hP hS hz hl
  exact lv_bipush C.1 C.2.1 hd hv (k p e s m args below meth c H locs ls C hP hS hz hl)
theorem x_sipush {n : Int} {v : Int32} (hd : decode (yC Y) pc = .ok (.sipush n, 3)) (hv : (Int16.ofInt n).toInt32 = v) (k : EX g Y d mc ms ce sl (pc + 3) lv (.int v :: st) M P) : EX g Y d mc ms ce sl pc lv (st) M P := by
  intro p e s m args below meth c H locs ls C hP hS hz hl
  exact lv_sipush C.1 C.2.1 hd hv (k p e s m args below meth c H locs ls C hP hS hz hl)
theorem x_lconst {n : Fin 2} {v : Int64} (hd : decode (yC Y) pc = .ok (.lconst n, 1)) (hv : Int64.ofNat (n : Nat) = v) (k : EX g Y d mc ms ce sl (pc + 1) lv (.long v :: st) M P) : EX g Y d mc ms ce sl pc lv (st) M P := by
  intro p e s m args below meth c H locs ls C hP hS hz hl
  exact lv_lconst C.1 C.2.1 hd hv (k p e s m args below meth c H locs ls C hP hS hz hl)
theorem x_iadd {x y : Int32} (hd : decode (yC Y) pc = .ok (.iadd, 1))  (k : EX g Y d mc ms ce sl (pc + 1) lv (.int (x + y) :: st) M P) : EX g Y d mc ms ce sl pc lv (.int y :: .int x :: st) M P := by
  intro p e s m args below meth c H locs ls C hP hS hz hl
  exact lv_iadd C.1 C.2.1 hd  (k p e s m args below meth c H locs ls C hP hS hz hl)
theorem x_isub {x y : Int32} (hd : decode (yC Y) pc = .ok (.isub, 1))  (k : EX g Y d mc ms ce sl (pc + 1) lv (.int (x - y) :: st) M P) : EX g Y d mc ms ce sl pc lv (.int y :: .int x :: st) M P := by
  intro p e s m args below meth c H locs ls C hP hS hz hl
  exact lv_isub C.1 C.2.1 hd  (k p e s m args below meth c H locs ls C hP hS hz hl)
theorem x_imul {x y : Int32} (hd : decode (yC Y) pc = .ok (.imul, 1))  (k : EX g Y d mc ms ce sl (pc + 1) lv (.int (x * y) :: st) M P) : EX g Y d mc ms ce sl pc lv (.int y :: .int x :: st) M P := by
  intro p e s m args below meth c H locs ls C hP hS hz hl
  exact lv_imul C.1 C.2.1 hd  (k p e s m args below meth c H locs ls C hP hS hz hl)
theorem x_iand {x y : Int32} (hd : decode (yC Y) pc = .ok (.iand, 1))  (k : EX g Y d mc ms ce sl (pc + 1) lv (.int (x &&& y) :: st) M P) : EX g Y d mc ms ce sl pc lv (.int y :: .int x :: st) M P := by
  intro p e s m args below meth c H locs ls C hP hS hz hl
  exact lv_iand C.1 C.2.1 hd  (k p e s m args below meth c H locs ls C hP hS hz hl)
theorem x_ior {x y : Int32} (hd : decode (yC Y) pc = .ok (.ior, 1))  (k : EX g Y d mc ms ce sl (pc + 1) lv (.int (x ||| y) :: st) M P) : EX g Y d mc ms ce sl pc lv (.int y :: .int x :: st) M P := by
  intro p e s m args below meth c H locs ls C hP hS hz hl
  exact lv_ior C.1 C.2.1 hd  (k p e s m args below meth c H locs ls C hP hS hz hl)
theorem x_ixor {x y : Int32} (hd : decode (yC Y) pc = .ok (.ixor, 1))  (k : EX g Y d mc ms ce sl (pc + 1) lv (.int (x ^^^ y) :: st) M P) : EX g Y d mc ms ce sl pc lv (.int y :: .int x :: st) M P := by
  intro p e s m args below meth c H locs ls C hP hS hz hl
  exact lv_ixor C.1 C.2.1 hd  (k p e s m args below meth c H locs ls C hP hS hz hl)
theorem x_ishl {x y : Int32} (hd : decode (yC Y) pc = .ok (.ishl, 1))  (k : EX g Y d mc ms ce sl (pc + 1) lv (.int (x <<< (y &&& 31)) :: st) M P) : EX g Y d mc ms ce sl pc lv (.int y :: .int x :: st) M P := by
  intro p e s m args below meth c H locs ls C hP hS hz hl
  exact lv_ishl C.1 C.2.1 hd  (k p e s m args below meth c H locs ls C hP hS hz hl)
theorem x_ishr {x y : Int32} (hd : decode (yC Y) pc = .ok (.ishr, 1))  (k : EX g Y d mc ms ce sl (pc + 1) lv (.int (x >>> (y &&& 31)) :: st) M P) : EX g Y d mc ms ce sl pc lv (.int y :: .int x :: st) M P := by
  intro p e s m args below meth c H locs ls C hP hS hz hl
  exact lv_ishr C.1 C.2.1 hd  (k p e s m args below meth c H locs ls C hP hS hz hl)
theorem x_iushr {x y : Int32} (hd : decode (yC Y) pc = .ok (.iushr, 1))  (k : EX g Y d mc ms ce sl (pc + 1) lv (.int ((x.toUInt32 >>> (y.toUInt32 &&& Int32.toUInt32 31)).toInt32) :: st) M P) : EX g Y d mc ms ce sl pc lv (.int y :: .int x :: st) M P := by
  intro p e s m args below meth c H locs ls C hP hS hz hl
  exact lv_iushr C.1 C.2.1 hd rfl (k p e s m args below meth c H locs ls C hP hS hz hl)
theorem x_idiv {x y : Int32} (hd : decode (yC Y) pc = .ok (.idiv, 1)) (hne : ¬ y = 0) (k : EX g Y d mc ms ce sl (pc + 1) lv (.int (x / y) :: st) M P) : EX g Y d mc ms ce sl pc lv (.int y :: .int x :: st) M P := by
  intro p e s m args below meth c H locs ls C hP hS hz hl
  exact lv_idiv C.1 C.2.1 hd hne (k p e s m args below meth c H locs ls C hP hS hz hl)
theorem x_irem {x y : Int32} (hd : decode (yC Y) pc = .ok (.irem, 1)) (hne : ¬ y = 0) (k : EX g Y d mc ms ce sl (pc + 1) lv (.int (x - x / y * y) :: st) M P) : EX g Y d mc ms ce sl pc lv (.int y :: .int x :: st) M P := by
  intro p e s m args below meth c H locs ls C hP hS hz hl
  exact lv_irem C.1 C.2.1 hd hne (k p e s m args below meth c H locs ls C hP hS hz hl)
theorem x_ineg {x : Int32} (hd : decode (yC Y) pc = .ok (.ineg, 1))  (k : EX g Y d mc ms ce sl (pc + 1) lv (.int (-x) :: st) M P) : EX g Y d mc ms ce sl pc lv (.int x :: st) M P := by
  intro p e s m args below meth c H locs ls C hP hS hz hl
  exact lv_ineg C.1 C.2.1 hd  (k p e s m args below meth c H locs ls C hP hS hz hl)
theorem x_ladd {x y : Int64} (hd : decode (yC Y) pc = .ok (.ladd, 1))  (k : EX g Y d mc ms ce sl (pc + 1) lv (.long (x + y) :: st) M P) : EX g Y d mc ms ce sl pc lv (.long y :: .long x :: st) M P := by
  intro p e s m args below meth c H locs ls C hP hS hz hl
  exact lv_ladd C.1 C.2.1 hd  (k p e s m args below meth c H locs ls C hP hS hz hl)
theorem x_lsub {x y : Int64} (hd : decode (yC Y) pc = .ok (.lsub, 1))  (k : EX g Y d mc ms ce sl (pc + 1) lv (.long (x - y) :: st) M P) : EX g Y d mc ms ce sl pc lv (.long y :: .long x :: st) M P := by
  intro p e s m args below meth c H locs ls C hP hS hz hl
  exact lv_lsub C.1 C.2.1 hd  (k p e s m args below meth c H locs ls C hP hS hz hl)
theorem x_lmul {x y : Int64} (hd : decode (yC Y) pc = .ok (.lmul, 1))  (k : EX g Y d mc ms ce sl (pc + 1) lv (.long (x * y) :: st) M P) : EX g Y d mc ms ce sl pc lv (.long y :: .long x :: st) M P := by
  intro p e s m args below meth c H locs ls C hP hS hz hl
  exact lv_lmul C.1 C.2.1 hd  (k p e s m args below meth c H locs ls C hP hS hz hl)
theorem x_land {x y : Int64} (hd : decode (yC Y) pc = .ok (.land, 1))  (k : EX g Y d mc ms ce sl (pc + 1) lv (.long (x &&& y) :: st) M P) : EX g Y d mc ms ce sl pc lv (.long y :: .long x :: st) M P := by
  intro p e s m args below meth c H locs ls C hP hS hz hl
  exact lv_land C.1 C.2.1 hd  (k p e s m args below meth c H locs ls C hP hS hz hl)
theorem x_lor {x y : Int64} (hd : decode (yC Y) pc = .ok (.lor, 1))  (k : EX g Y d mc ms ce sl (pc + 1) lv (.long (x ||| y) :: st) M P) : EX g Y d mc ms ce sl pc lv (.long y :: .long x :: st) M P := by
  intro p e s m args below meth c H locs ls C hP hS hz hl
  exact lv_lor C.1 C.2.1 hd  (k p e s m args below meth c H locs ls C hP hS hz hl)
theorem x_ldiv {x y : Int64} (hd : decode (yC Y) pc = .ok (.ldiv, 1)) (hne : ¬ y = 0) (k : EX g Y d mc ms ce sl (pc + 1) lv (.long (x / y) :: st) M P) : EX g Y d mc ms ce sl pc lv (.long y :: .long x :: st) M P := by
  intro p e s m args below meth c H locs ls C hP hS hz hl
  exact lv_ldiv C.1 C.2.1 hd hne (k p e s m args below meth c H locs ls C hP hS hz hl)
theorem x_lrem {x y : Int64} (hd : decode (yC Y) pc = .ok (.lrem, 1)) (hne : ¬ y = 0) (k : EX g Y d mc ms ce sl (pc + 1) lv (.long (x - x / y * y) :: st) M P) : EX g Y d mc ms ce sl pc lv (.long y :: .long x :: st) M P := by
  intro p e s m args below meth c H locs ls C hP hS hz hl
  exact lv_lrem C.1 C.2.1 hd hne (k p e s m args below meth c H locs ls C hP hS hz hl)
theorem x_lushr {x : Int64} {y : Int32} (hd : decode (yC Y) pc = .ok (.lushr, 1))  (k : EX g Y d mc ms ce sl (pc + 1) lv (.long ((x.toUInt64 >>> (y.toInt64.toUInt64 &&& Int64.toUInt64 63)).toInt64) :: st) M P) : EX g Y d mc ms ce sl pc lv (.int y :: .long x :: st) M P := by
  intro p e s m args below meth c H locs ls C hP hS hz hl
  exact lv_lushr C.1 C.2.1 hd rfl (k p e s m args below meth c H locs ls C hP hS hz hl)
theorem x_lshl {x : Int64} {y : Int32} (hd : decode (yC Y) pc = .ok (.lshl, 1))  (k : EX g Y d mc ms ce sl (pc + 1) lv (.long (x <<< (y.toInt64 &&& 63)) :: st) M P) : EX g Y d mc ms ce sl pc lv (.int y :: .long x :: st) M P := by
  intro p e s m args below meth c H locs ls C hP hS hz hl
  exact lv_lshl C.1 C.2.1 hd rfl (k p e s m args below meth c H locs ls C hP hS hz hl)
theorem x_lcmp {x y : Int64} (hd : decode (yC Y) pc = .ok (.lcmp, 1))  (k : EX g Y d mc ms ce sl (pc + 1) lv (.int (lg_cmp x y) :: st) M P) : EX g Y d mc ms ce sl pc lv (.long y :: .long x :: st) M P := by
  intro p e s m args below meth c H locs ls C hP hS hz hl
  exact W.lcmp C.1 C.2.1 hd  (k p e s m args below meth c H locs ls C hP hS hz hl)
theorem x_i2l {x : Int32} (hd : decode (yC Y) pc = .ok (.i2l, 1))  (k : EX g Y d mc ms ce sl (pc + 1) lv (.long x.toInt64 :: st) M P) : EX g Y d mc ms ce sl pc lv (.int x :: st) M P := by
  intro p e s m args below meth c H locs ls C hP hS hz hl
  exact lv_i2l C.1 C.2.1 hd rfl (k p e s m args below meth c H locs ls C hP hS hz hl)
theorem x_l2i {x : Int64} (hd : decode (yC Y) pc = .ok (.l2i, 1))  (k : EX g Y d mc ms ce sl (pc + 1) lv (.int x.toInt32 :: st) M P) : EX g Y d mc ms ce sl pc lv (.long x :: st) M P := by
  intro p e s m args below meth c H locs ls C hP hS hz hl
  exact lv_l2i C.1 C.2.1 hd rfl (k p e s m args below meth c H locs ls C hP hS hz hl)
theorem x_i2c {x : Int32} (hd : decode (yC Y) pc = .ok (.i2c, 1))  (k : EX g Y d mc ms ce sl (pc + 1) lv (.int ((x.toUInt32 % 65536).toInt32) :: st) M P) : EX g Y d mc ms ce sl pc lv (.int x :: st) M P := by
  intro p e s m args below meth c H locs ls C hP hS hz hl
  exact lv_i2c C.1 C.2.1 hd rfl (k p e s m args below meth c H locs ls C hP hS hz hl)
theorem x_dup {v : Value} (hd : decode (yC Y) pc = .ok (.dup, 1)) (hc : v.category = 1) (k : EX g Y d mc ms ce sl (pc + 1) lv (v :: v :: st) M P) : EX g Y d mc ms ce sl pc lv (v :: st) M P := by
  intro p e s m args below meth c H locs ls C hP hS hz hl
  exact lv_dup C.1 C.2.1 hd (by rw [xv_cat]; exact hc) (k p e s m args below meth c H locs ls C hP hS hz hl)
theorem x_pop {v : Value} (hd : decode (yC Y) pc = .ok (.pop, 1)) (hc : v.category = 1) (k : EX g Y d mc ms ce sl (pc + 1) lv (st) M P) : EX g Y d mc ms ce sl pc lv (v :: st) M P := by
  intro p e s m args below meth c H locs ls C hP hS hz hl
  exact lv_pop C.1 C.2.1 hd (by rw [xv_cat]; exact hc) (k p e s m args below meth c H locs ls C hP hS hz hl)
theorem x_dup2 {v w : Value} (hd : decode (yC Y) pc = .ok (.dup2, 1)) (hc : v.category = 1) (hc2 : w.category = 1) (k : EX g Y d mc ms ce sl (pc + 1) lv (v :: w :: v :: w :: st) M P) : EX g Y d mc ms ce sl pc lv (v :: w :: st) M P := by
  intro p e s m args below meth c H locs ls C hP hS hz hl
  exact lv_dup2_11 C.1 C.2.1 hd (by rw [xv_cat]; exact hc) (by rw [xv_cat]; exact hc2) (k p e s m args below meth c H locs ls C hP hS hz hl)
theorem x_dup22 {v : Value} (hd : decode (yC Y) pc = .ok (.dup2, 1)) (hc : v.category = 2) (k : EX g Y d mc ms ce sl (pc + 1) lv (v :: v :: st) M P) : EX g Y d mc ms ce sl pc lv (v :: st) M P := by
  intro p e s m args below meth c H locs ls C hP hS hz hl
  exact lv_dup2_2 C.1 C.2.1 hd (by rw [xv_cat]; exact hc) (k p e s m args below meth c H locs ls C hP hS hz hl)
theorem x_iload {i : Nat} {x : Int32} (hd : decode (yC Y) pc = .ok (.iload i, 2)) (q : Nat) (h : lv[q]? = some (i, .int x)) (k : EX g Y d mc ms ce sl (pc + 2) lv (.int x :: st) M P) : EX g Y d mc ms ce sl pc lv st M P := by
  intro p e s m args below meth c H locs ls C hP hS hz hl
  exact lv_iload C.1 C.2.1 hd (lv_at hl q (xlv_at h)) (k p e s m args below meth c H locs ls C hP hS hz hl)
theorem x_iload_n {i : Fin 4} {x : Int32} (hd : decode (yC Y) pc = .ok (.iload_n i, 1)) (q : Nat) (h : lv[q]? = some ((i : Nat), .int x)) (k : EX g Y d mc ms ce sl (pc + 1) lv (.int x :: st) M P) : EX g Y d mc ms ce sl pc lv st M P := by
  intro p e s m args below meth c H locs ls C hP hS hz hl
  exact lv_iload_n C.1 C.2.1 hd rfl (lv_at hl q (xlv_at h)) (k p e s m args below meth c H locs ls C hP hS hz hl)
theorem x_istore {i : Nat} {x : Int32} {lv1 : List (Nat × Value)} (hd : decode (yC Y) pc = .ok (.istore i, 2)) (hn : i < yL Y) (h : xs1 lv i (.int x) = lv1) (k : EX g Y d mc ms ce sl (pc + 2) lv1 st M P) : EX g Y d mc ms ce sl pc lv (.int x :: st) M P := by
  intro p e s m args below meth c H locs ls C hP hS hz hl
  subst h
  exact lv_istore C.1 C.2.1 hd hl hn (xs1_m g lv i (.int x)) (fun ls1 hl1 => k p e s m args below meth c H locs ls1 C hP hS hz hl1)
theorem x_istore_n {i : Fin 4} {x : Int32} {lv1 : List (Nat × Value)} (hd : decode (yC Y) pc = .ok (.istore_n i, 1)) (hn : (i : Nat) < yL Y) (h : xs1 lv (i : Nat) (.int x) = lv1) (k : EX g Y d mc ms ce sl (pc + 1) lv1 st M P) : EX g Y d mc ms ce sl pc lv (.int x :: st) M P := by
  intro p e s m args below meth c H locs ls C hP hS hz hl
  subst h
  exact lv_istore_n C.1 C.2.1 hd rfl hl hn (xs1_m g lv (i : Nat) (.int x)) (fun ls1 hl1 => k p e s m args below meth c H locs ls1 C hP hS hz hl1)
theorem x_lload {i : Nat} {x : Int64} (hd : decode (yC Y) pc = .ok (.lload i, 2)) (q : Nat) (h : lv[q]? = some (i, .long x)) (k : EX g Y d mc ms ce sl (pc + 2) lv (.long x :: st) M P) : EX g Y d mc ms ce sl pc lv st M P := by
  intro p e s m args below meth c H locs ls C hP hS hz hl
  exact lv_lload C.1 C.2.1 hd (lv_at hl q (xlv_at h)) (k p e s m args below meth c H locs ls C hP hS hz hl)
theorem x_lload_n {i : Fin 4} {x : Int64} (hd : decode (yC Y) pc = .ok (.lload_n i, 1)) (q : Nat) (h : lv[q]? = some ((i : Nat), .long x)) (k : EX g Y d mc ms ce sl (pc + 1) lv (.long x :: st) M P) : EX g Y d mc ms ce sl pc lv st M P := by
  intro p e s m args below meth c H locs ls C hP hS hz hl
  exact lv_lload_n C.1 C.2.1 hd rfl (lv_at hl q (xlv_at h)) (k p e s m args below meth c H locs ls C hP hS hz hl)
theorem x_lstore {i : Nat} {x : Int64} {lv1 : List (Nat × Value)} (hd : decode (yC Y) pc = .ok (.lstore i, 2)) (hn : i + 1 < yL Y) (h : xs2 lv i (.long x) = lv1) (k : EX g Y d mc ms ce sl (pc + 2) lv1 st M P) : EX g Y d mc ms ce sl pc lv (.long x :: st) M P := by
  intro p e s m args below meth c H locs ls C hP hS hz hl
  subst h
  exact lv_lstore C.1 C.2.1 hd hl hn (xs2_m g lv i (.long x)) (fun ls1 hl1 => k p e s m args below meth c H locs ls1 C hP hS hz hl1)
theorem x_lstore_n {i : Fin 4} {x : Int64} {lv1 : List (Nat × Value)} (hd : decode (yC Y) pc = .ok (.lstore_n i, 1)) (hn : (i : Nat) + 1 < yL Y) (h : xs2 lv (i : Nat) (.long x) = lv1) (k : EX g Y d mc ms ce sl (pc + 1) lv1 st M P) : EX g Y d mc ms ce sl pc lv (.long x :: st) M P := by
  intro p e s m args below meth c H locs ls C hP hS hz hl
  subst h
  exact lv_lstore_n C.1 C.2.1 hd rfl hl hn (xs2_m g lv (i : Nat) (.long x)) (fun ls1 hl1 => k p e s m args below meth c H locs ls1 C hP hS hz hl1)
theorem x_aload {i : Nat} {x : Nat} (hd : decode (yC Y) pc = .ok (.aload i, 2)) (q : Nat) (h : lv[q]? = some (i, .ref x)) (k : EX g Y d mc ms ce sl (pc + 2) lv (.ref x :: st) M P) : EX g Y d mc ms ce sl pc lv st M P := by
  intro p e s m args below meth c H locs ls C hP hS hz hl
  exact lv_aload C.1 C.2.1 hd (lv_at hl q (xlv_at h)) (k p e s m args below meth c H locs ls C hP hS hz hl)
theorem x_aload_n {i : Fin 4} {x : Nat} (hd : decode (yC Y) pc = .ok (.aload_n i, 1)) (q : Nat) (h : lv[q]? = some ((i : Nat), .ref x)) (k : EX g Y d mc ms ce sl (pc + 1) lv (.ref x :: st) M P) : EX g Y d mc ms ce sl pc lv st M P := by
  intro p e s m args below meth c H locs ls C hP hS hz hl
  exact lv_aload_n C.1 C.2.1 hd rfl (lv_at hl q (xlv_at h)) (k p e s m args below meth c H locs ls C hP hS hz hl)
theorem x_astore {i : Nat} {x : Nat} {lv1 : List (Nat × Value)} (hd : decode (yC Y) pc = .ok (.astore i, 2)) (hn : i < yL Y) (h : xs1 lv i (.ref x) = lv1) (k : EX g Y d mc ms ce sl (pc + 2) lv1 st M P) : EX g Y d mc ms ce sl pc lv (.ref x :: st) M P := by
  intro p e s m args below meth c H locs ls C hP hS hz hl
  subst h
  exact lv_astore C.1 C.2.1 hd hl hn (xs1_m g lv i (.ref x)) (fun ls1 hl1 => k p e s m args below meth c H locs ls1 C hP hS hz hl1)
theorem x_astore_n {i : Fin 4} {x : Nat} {lv1 : List (Nat × Value)} (hd : decode (yC Y) pc = .ok (.astore_n i, 1)) (hn : (i : Nat) < yL Y) (h : xs1 lv (i : Nat) (.ref x) = lv1) (k : EX g Y d mc ms ce sl (pc + 1) lv1 st M P) : EX g Y d mc ms ce sl pc lv (.ref x :: st) M P := by
  intro p e s m args below meth c H locs ls C hP hS hz hl
  subst h
  exact lv_astore_n C.1 C.2.1 hd rfl hl hn (xs1_m g lv (i : Nat) (.ref x)) (fun ls1 hl1 => k p e s m args below meth c H locs ls1 C hP hS hz hl1)
theorem x_iinc {i : Nat} {n : Int} {x v : Int32} {lv1 : List (Nat × Value)} (hd : decode (yC Y) pc = .ok (.iinc i n, 3)) (q : Nat) (h0 : lv[q]? = some (i, .int x)) (hv : x + Int32.ofInt n = v) (hn : i < yL Y) (h : xs1 lv i (.int v) = lv1) (k : EX g Y d mc ms ce sl (pc + 3) lv1 st M P) : EX g Y d mc ms ce sl pc lv st M P := by
  intro p e s m args below meth c H locs ls C hP hS hz hl
  subst h
  exact lv_iinc (k := q) C.1 C.2.1 hd hl (xlv_at h0) hv hn (xs1_m g lv i (.int v)) (fun ls1 hl1 => k p e s m args below meth c H locs ls1 C hP hS hz hl1)
theorem x_if_eq {x : Int32} {off : Int} (tgt : Nat) (hd : decode (yC Y) pc = .ok (.ifCond .eq off, 3)) (ht : (pc : Int) + off = (tgt : Int)) (kt : x = 0 → EX g Y d mc ms ce sl tgt lv st M P) (kf : ¬ (x = 0) → EX g Y d mc ms ce sl (pc + 3) lv st M P) : EX g Y d mc ms ce sl pc lv (.int x :: st) M P := by
  intro p e s m args below meth c H locs ls C hP hS hz hl
  exact lv_if_eq C.1 C.2.1 hd ht (fun q => kt q p e s m args below meth c H locs ls C hP hS hz hl) (fun q => kf q p e s m args below meth c H locs ls C hP hS hz hl)
theorem x_ic_eq {x y : Int32} {off : Int} (tgt : Nat) (hd : decode (yC Y) pc = .ok (.if_icmp .eq off, 3)) (ht : (pc : Int) + off = (tgt : Int)) (kt : x = y → EX g Y d mc ms ce sl tgt lv st M P) (kf : ¬ (x = y) → EX g Y d mc ms ce sl (pc + 3) lv st M P) : EX g Y d mc ms ce sl pc lv (.int y :: .int x :: st) M P := by
  intro p e s m args below meth c H locs ls C hP hS hz hl
  exact lv_icmp_eq C.1 C.2.1 hd ht (fun q => kt q p e s m args below meth c H locs ls C hP hS hz hl) (fun q => kf q p e s m args below meth c H locs ls C hP hS hz hl)
theorem x_if_ne {x : Int32} {off : Int} (tgt : Nat) (hd : decode (yC Y) pc = .ok (.ifCond .ne off, 3)) (ht : (pc : Int) + off = (tgt : Int)) (kt : ¬ x = 0 → EX g Y d mc ms ce sl tgt lv st M P) (kf : x = 0 → EX g Y d mc ms ce sl (pc + 3) lv st M P) : EX g Y d mc ms ce sl pc lv (.int x :: st) M P := by
  intro p e s m args below meth c H locs ls C hP hS hz hl
  exact lv_if_ne C.1 C.2.1 hd ht (fun q => kt q p e s m args below meth c H locs ls C hP hS hz hl) (fun q => kf q p e s m args below meth c H locs ls C hP hS hz hl)
theorem x_ic_ne {x y : Int32} {off : Int} (tgt : Nat) (hd : decode (yC Y) pc = .ok (.if_icmp .ne off, 3)) (ht : (pc : Int) + off = (tgt : Int)) (kt : ¬ x = y → EX g Y d mc ms ce sl tgt lv st M P) (kf : x = y → EX g Y d mc ms ce sl (pc + 3) lv st M P) : EX g Y d mc ms ce sl pc lv (.int y :: .int x :: st) M P := by
  intro p e s m args below meth c H locs ls C hP hS hz hl
  exact lv_icmp_ne C.1 C.2.1 hd ht (fun q => kt q p e s m args below meth c H locs ls C hP hS hz hl) (fun q => kf q p e s m args below meth c H locs ls C hP hS hz hl)
theorem x_if_lt {x : Int32} {off : Int} (tgt : Nat) (hd : decode (yC Y) pc = .ok (.ifCond .lt off, 3)) (ht : (pc : Int) + off = (tgt : Int)) (kt : x < 0 → EX g Y d mc ms ce sl tgt lv st M P) (kf : ¬ (x < 0) → EX g Y d mc ms ce sl (pc + 3) lv st M P) : EX g Y d mc ms ce sl pc lv (.int x :: st) M P := by
  intro p e s m args below meth c H locs ls C hP hS hz hl
  exact lv_if_lt C.1 C.2.1 hd ht (fun q => kt q p e s m args below meth c H locs ls C hP hS hz hl) (fun q => kf q p e s m args below meth c H locs ls C hP hS hz hl)
theorem x_ic_lt {x y : Int32} {off : Int} (tgt : Nat) (hd : decode (yC Y) pc = .ok (.if_icmp .lt off, 3)) (ht : (pc : Int) + off = (tgt : Int)) (kt : x < y → EX g Y d mc ms ce sl tgt lv st M P) (kf : ¬ (x < y) → EX g Y d mc ms ce sl (pc + 3) lv st M P) : EX g Y d mc ms ce sl pc lv (.int y :: .int x :: st) M P := by
  intro p e s m args below meth c H locs ls C hP hS hz hl
  exact lv_icmp_lt C.1 C.2.1 hd ht (fun q => kt q p e s m args below meth c H locs ls C hP hS hz hl) (fun q => kf q p e s m args below meth c H locs ls C hP hS hz hl)
theorem x_if_ge {x : Int32} {off : Int} (tgt : Nat) (hd : decode (yC Y) pc = .ok (.ifCond .ge off, 3)) (ht : (pc : Int) + off = (tgt : Int)) (kt : 0 ≤ x → EX g Y d mc ms ce sl tgt lv st M P) (kf : ¬ (0 ≤ x) → EX g Y d mc ms ce sl (pc + 3) lv st M P) : EX g Y d mc ms ce sl pc lv (.int x :: st) M P := by
  intro p e s m args below meth c H locs ls C hP hS hz hl
  exact lv_if_ge C.1 C.2.1 hd ht (fun q => kt q p e s m args below meth c H locs ls C hP hS hz hl) (fun q => kf q p e s m args below meth c H locs ls C hP hS hz hl)
theorem x_ic_ge {x y : Int32} {off : Int} (tgt : Nat) (hd : decode (yC Y) pc = .ok (.if_icmp .ge off, 3)) (ht : (pc : Int) + off = (tgt : Int)) (kt : y ≤ x → EX g Y d mc ms ce sl tgt lv st M P) (kf : ¬ (y ≤ x) → EX g Y d mc ms ce sl (pc + 3) lv st M P) : EX g Y d mc ms ce sl pc lv (.int y :: .int x :: st) M P := by
  intro p e s m args below meth c H locs ls C hP hS hz hl
  exact lv_icmp_ge C.1 C.2.1 hd ht (fun q => kt q p e s m args below meth c H locs ls C hP hS hz hl) (fun q => kf q p e s m args below meth c H locs ls C hP hS hz hl)
theorem x_if_gt {x : Int32} {off : Int} (tgt : Nat) (hd : decode (yC Y) pc = .ok (.ifCond .gt off, 3)) (ht : (pc : Int) + off = (tgt : Int)) (kt : 0 < x → EX g Y d mc ms ce sl tgt lv st M P) (kf : ¬ (0 < x) → EX g Y d mc ms ce sl (pc + 3) lv st M P) : EX g Y d mc ms ce sl pc lv (.int x :: st) M P := by
  intro p e s m args below meth c H locs ls C hP hS hz hl
  exact lv_if_gt C.1 C.2.1 hd ht (fun q => kt q p e s m args below meth c H locs ls C hP hS hz hl) (fun q => kf q p e s m args below meth c H locs ls C hP hS hz hl)
theorem x_ic_gt {x y : Int32} {off : Int} (tgt : Nat) (hd : decode (yC Y) pc = .ok (.if_icmp .gt off, 3)) (ht : (pc : Int) + off = (tgt : Int)) (kt : y < x → EX g Y d mc ms ce sl tgt lv st M P) (kf : ¬ (y < x) → EX g Y d mc ms ce sl (pc + 3) lv st M P) : EX g Y d mc ms ce sl pc lv (.int y :: .int x :: st) M P := by
  intro p e s m args below meth c H locs ls C hP hS hz hl
  exact lv_icmp_gt C.1 C.2.1 hd ht (fun q => kt q p e s m args below meth c H locs ls C hP hS hz hl) (fun q => kf q p e s m args below meth c H locs ls C hP hS hz hl)
theorem x_if_le {x : Int32} {off : Int} (tgt : Nat) (hd : decode (yC Y) pc = .ok (.ifCond .le off, 3)) (ht : (pc : Int) + off = (tgt : Int)) (kt : x ≤ 0 → EX g Y d mc ms ce sl tgt lv st M P) (kf : ¬ (x ≤ 0) → EX g Y d mc ms ce sl (pc + 3) lv st M P) : EX g Y d mc ms ce sl pc lv (.int x :: st) M P := by
  intro p e s m args below meth c H locs ls C hP hS hz hl
  exact lv_if_le C.1 C.2.1 hd ht (fun q => kt q p e s m args below meth c H locs ls C hP hS hz hl) (fun q => kf q p e s m args below meth c H locs ls C hP hS hz hl)
theorem x_ic_le {x y : Int32} {off : Int} (tgt : Nat) (hd : decode (yC Y) pc = .ok (.if_icmp .le off, 3)) (ht : (pc : Int) + off = (tgt : Int)) (kt : x ≤ y → EX g Y d mc ms ce sl tgt lv st M P) (kf : ¬ (x ≤ y) → EX g Y d mc ms ce sl (pc + 3) lv st M P) : EX g Y d mc ms ce sl pc lv (.int y :: .int x :: st) M P := by
  intro p e s m args below meth c H locs ls C hP hS hz hl
  exact lv_icmp_le C.1 C.2.1 hd ht (fun q => kt q p e s m args below meth c H locs ls C hP hS hz hl) (fun q => kf q p e s m args below meth c H locs ls C hP hS hz hl)
theorem x_goto {off : Int} (tgt : Nat) (hd : decode (yC Y) pc = .ok (.goto off, 3)) (ht : (pc : Int) + off = (tgt : Int)) (k : EX g Y d mc ms ce sl tgt lv st M P) : EX g Y d mc ms ce sl pc lv st M P := by
  intro p e s m args below meth c H locs ls C hP hS hz hl
  exact lv_goto C.1 C.2.1 hd ht (k p e s m args below meth c H locs ls C hP hS hz hl)
theorem x_lookup {dflt : Int} {ps : Array (Int × Int)} {len : Nat} {x : Int32} (hd : decode (yC Y) pc = .ok (.lookupswitch dflt ps, len)) (hp : (ps.toList.zip (ps.toList.drop 1)).all (fun (a, next) => a.1 < next.1) = true) (k : ∀ tgt : Nat, (pc : Int) + Op.lookupswitch.offset ps.toList dflt x.toInt = (tgt : Int) → EX g Y d mc ms ce sl tgt lv st M P) (tg : ∃ tgt : Nat, (pc : Int) + Op.lookupswitch.offset ps.toList dflt x.toInt = (tgt : Int)) : EX g Y d mc ms ce sl pc lv (.int x :: st) M P := by
  intro p e s m args below meth c H locs ls C hP hS hz hl
  obtain ⟨tgt, ht⟩ := tg
  exact lv_lookup C.1 C.2.1 hd hp rfl ht (k tgt ht p e s m args below meth c H locs ls C hP hS hz hl)
theorem x_tabOut {dflt lo hi : Int} {offs : Array Int} {len : Nat} {x : Int32} (tgt : Nat) (hd : decode (yC Y) pc = .ok (.tableswitch dflt lo hi offs, len)) (h : x.toInt < lo ∨ hi < x.toInt) (ht : (pc : Int) + dflt = (tgt : Int)) (k : EX g Y d mc ms ce sl tgt lv st M P) : EX g Y d mc ms ce sl pc lv (.int x :: st) M P := by
  intro p e s m args below meth c H locs ls C hP hS hz hl
  exact lv_tableOut C.1 C.2.1 hd h ht (k p e s m args below meth c H locs ls C hP hS hz hl)
theorem x_tabIn {dflt lo hi off : Int} {offs : Array Int} {len : Nat} {x : Int32} (tgt : Nat) (hd : decode (yC Y) pc = .ok (.tableswitch dflt lo hi offs, len)) (h1 : ¬ x.toInt < lo) (h2 : ¬ hi < x.toInt) (ho : offs[(x.toInt - lo).toNat]? = some off) (ht : (pc : Int) + off = (tgt : Int)) (k : EX g Y d mc ms ce sl tgt lv st M P) : EX g Y d mc ms ce sl pc lv (.int x :: st) M P := by
  intro p e s m args below meth c H locs ls C hP hS hz hl
  exact lv_tableIn C.1 C.2.1 hd h1 h2 ho ht (k p e s m args below meth c H locs ls C hP hS hz hl)
theorem x_ldcw {idx : Nat} {v : Int32} (hd : decode (yC Y) pc = .ok (.ldc_w idx, 3)) (hc : Cond.constant (yN Y).cls idx v ∈ gw) (k : EX g Y d mc ms ce sl (pc + 3) lv (.int v :: st) M P) : EX g Y d mc ms ce sl pc lv st M P := by
  intro p e s m args below meth c H locs ls C hP hS hz hl
  exact lv_ldcw C.1 C.2.1 C.2.2.2.1 (C.2.2.2.2.1 _ hc) hd (k p e s m args below meth c H locs ls C hP hS hz hl)
theorem x_ldc2 {idx : Nat} {v : Int64} (hd : decode (yC Y) pc = .ok (.ldc2_w idx, 3)) (hc : Cond.constantLong (yN Y).cls idx v ∈ gw) (k : EX g Y d mc ms ce sl (pc + 3) lv (.long v :: st) M P) : EX g Y d mc ms ce sl pc lv st M P := by
  intro p e s m args below meth c H locs ls C hP hS hz hl
  exact lv_ldc2 C.1 C.2.1 C.2.2.2.1 (C.2.2.2.2.1 _ hc) hd (k p e s m args below meth c H locs ls C hP hS hz hl)
theorem x_iald {a n : Nat} {i : Int32} (hd : decode (yC Y) pc = .ok (.iaload, 1)) (ha : a < mn M) (hs : mh M a = (1, n)) (hi : vp_in i n) (k : EX g Y d mc ms ce sl (pc + 1) lv (.int (mi M a i.toNatClampNeg) :: st) M P) : EX g Y d mc ms ce sl pc lv (.int i :: .ref a :: st) M P := by
  intro p e s m args below meth c H locs ls C hP hS hz hl
  have h1 := mW_at g M ha
  rw [mE_i hs] at h1
  exact va_iald C.1 C.2.1 C.2.2.2.2.2.2.2.2.1.1 hP a 0 h1 rfl hi hd (k p e s m args below meth c H locs ls C hP hS hz hl)
theorem x_iast {a n : Nat} {i : Int32} {x : Int32} (hd : decode (yC Y) pc = .ok (.iastore, 1)) (ha : a < mn M) (hs : mh M a = (1, n)) (hi : vp_in i n) (k : EX g Y d mc ms ce sl (pc + 1) lv st (wi M a i.toNatClampNeg x) P) : EX g Y d mc ms ce sl pc lv (.int x :: .int i :: .ref a :: st) M P := by
  intro p e s m args below meth c H locs ls C hP hS hz hl
  have h1 := mW_at g M ha
  rw [mE_i hs] at h1
  have h2 : mE (gB g) g.2.2.2 (wi M a i.toNatClampNeg x) a = .inl (g.2.2.2 1, n, (.inl (upd (mi M a) i.toNatClampNeg x))) := by
    rw [mE_i (M := (wi M a i.toNatClampNeg x)) hs]
    exact congrArg (fun f => Sum.inl (g.2.2.2 1, n, Sum.inl f)) (mu_upd _ _ _ _)
  have h3 := mW_set (g := g) (M := M) (M' := (wi M a i.toNatClampNeg x)) ha rfl h2 (fun b hb => mE_wi hb)
  refine W.iast C.1 C.2.1 (hP a _ h1) ((C.2.2.2.2.2.2.2.2.1.1.2 0 _ rfl).1 n (fun j => .int (mi M a j))) (fun q => by cases q) (by show ¬ (i < 0 ∨ (arrV _ _ _).slots.size ≤ _); rw [arrV_size]; exact hi) rfl rfl hd fun H1 e1 z oq => ?_
  have hP1 := va_P.set hP (mD g M) h1 (e := .inl (g.2.2.2 1, n, (.inl (upd (mi M a) i.toNatClampNeg x)))) (by
    show H1[gB g + a]? = some (vp_cell _ _)
    rw [e1]
    rw [vp_cell_i, vp_cell_i, arrV_store]
    congr 2
    funext q
    by_cases hq : q = i.toNatClampNeg
    · subst hq
      simp [updV, upd]
    · simp [updV, upd, hq]) oq
  rw [h3] at hP1
  exact k p e s m args below meth c H1 _ ls C hP1 (hS.put z oq (Nat.le_add_right _ _)) (z.trans hz) hl
theorem x_zald {a n : Nat} {i : Int32} (hd : decode (yC Y) pc = .ok (.baload, 1)) (ha : a < mn M) (hs : mh M a = (3, n)) (hi : vp_in i n) (k : EX g Y d mc ms ce sl (pc + 1) lv (.int (mi M a i.toNatClampNeg) :: st) M P) : EX g Y d mc ms ce sl pc lv (.int i :: .ref a :: st) M P := by
  intro p e s m args below meth c H locs ls C hP hS hz hl
  have h1 := mW_at g M ha
  rw [mE_z hs] at h1
  exact va_zald C.1 C.2.1 C.2.2.2.2.2.2.2.2.1.1 hP a 2 h1 rfl hi hd (k p e s m args below meth c H locs ls C hP hS hz hl)
theorem x_zast {a n : Nat} {i : Int32} {x : Int32} (hd : decode (yC Y) pc = .ok (.bastore, 1)) (ha : a < mn M) (hs : mh M a = (3, n)) (hi : vp_in i n) (k : EX g Y d mc ms ce sl (pc + 1) lv st (wi M a i.toNatClampNeg (vp_nar .boolean x)) P) : EX g Y d mc ms ce sl pc lv (.int x :: .int i :: .ref a :: st) M P := by
  intro p e s m args below meth c H locs ls C hP hS hz hl
  have h1 := mW_at g M ha
  rw [mE_z hs] at h1
  have h2 : mE (gB g) g.2.2.2 (wi M a i.toNatClampNeg (vp_nar .boolean x)) a = .inl (g.2.2.2 3, n, (.inl (upd (mi M a) i.toNatClampNeg (vp_nar .boolean x)))) := by
    rw [mE_z (M := (wi M a i.toNatClampNeg (vp_nar .boolean x))) hs]
    exact congrArg (fun f => Sum.inl (g.2.2.2 3, n, Sum.inl f)) (mu_upd _ _ _ _)
  have h3 := mW_set (g := g) (M := M) (M' := (wi M a i.toNatClampNeg (vp_nar .boolean x))) ha rfl h2 (fun b hb => mE_wi hb)
  refine W.zast C.1 C.2.1 (hP a _ h1) ((C.2.2.2.2.2.2.2.2.1.1.2 2 _ rfl).1 n (fun j => .int (mi M a j))) (fun q => by cases q) (by show ¬ (i < 0 ∨ (arrV _ _ _).slots.size ≤ _); rw [arrV_size]; exact hi) rfl rfl hd fun H1 e1 z oq => ?_
  have hP1 := va_P.set hP (mD g M) h1 (e := .inl (g.2.2.2 3, n, (.inl (upd (mi M a) i.toNatClampNeg (vp_nar .boolean x))))) (by
    show H1[gB g + a]? = some (vp_cell _ _)
    rw [e1]
    rw [vp_cell_i, vp_cell_i, arrV_store]
    congr 2
    funext q
    by_cases hq : q = i.toNatClampNeg
    · subst hq
      simp [updV, upd, narrow, vp_nar]
    · simp [updV, upd, hq]) oq
  rw [h3] at hP1
  exact k p e s m args below meth c H1 _ ls C hP1 (hS.put z oq (Nat.le_add_right _ _)) (z.trans hz) hl
theorem x_cald {a n : Nat} {i : Int32} (hd : decode (yC Y) pc = .ok (.caload, 1)) (ha : a < mn M) (hs : mh M a = (4, n)) (hi : vp_in i n) (k : EX g Y d mc ms ce sl (pc + 1) lv (.int (mi M a i.toNatClampNeg) :: st) M P) : EX g Y d mc ms ce sl pc lv (.int i :: .ref a :: st) M P := by
  intro p e s m args below meth c H locs ls C hP hS hz hl
  have h1 := mW_at g M ha
  rw [mE_c hs] at h1
  exact va_cald C.1 C.2.1 C.2.2.2.2.2.2.2.2.1.1 hP a 3 h1 rfl hi hd (k p e s m args below meth c H locs ls C hP hS hz hl)
theorem x_cast {a n : Nat} {i : Int32} {x : Int32} (hd : decode (yC Y) pc = .ok (.castore, 1)) (ha : a < mn M) (hs : mh M a = (4, n)) (hi : vp_in i n) (k : EX g Y d mc ms ce sl (pc + 1) lv st (wi M a i.toNatClampNeg (vp_nar .char x)) P) : EX g Y d mc ms ce sl pc lv (.int x :: .int i :: .ref a :: st) M P := by
  intro p e s m args below meth c H locs ls C hP hS hz hl
  have h1 := mW_at g M ha
  rw [mE_c hs] at h1
  have h2 : mE (gB g) g.2.2.2 (wi M a i.toNatClampNeg (vp_nar .char x)) a = .inl (g.2.2.2 4, n, (.inl (upd (mi M a) i.toNatClampNeg (vp_nar .char x)))) := by
    rw [mE_c (M := (wi M a i.toNatClampNeg (vp_nar .char x))) hs]
    exact congrArg (fun f => Sum.inl (g.2.2.2 4, n, Sum.inl f)) (mu_upd _ _ _ _)
  have h3 := mW_set (g := g) (M := M) (M' := (wi M a i.toNatClampNeg (vp_nar .char x))) ha rfl h2 (fun b hb => mE_wi hb)
  refine W.cast C.1 C.2.1 (hP a _ h1) ((C.2.2.2.2.2.2.2.2.1.1.2 3 _ rfl).1 n (fun j => .int (mi M a j))) (fun q => by cases q) (by show ¬ (i < 0 ∨ (arrV _ _ _).slots.size ≤ _); rw [arrV_size]; exact hi) rfl rfl hd fun H1 e1 z oq => ?_
  have hP1 := va_P.set hP (mD g M) h1 (e := .inl (g.2.2.2 4, n, (.inl (upd (mi M a) i.toNatClampNeg (vp_nar .char x))))) (by
    show H1[gB g + a]? = some (vp_cell _ _)
    rw [e1]
    rw [vp_cell_i, vp_cell_i, arrV_store]
    congr 2
    funext q
    by_cases hq : q = i.toNatClampNeg
    · subst hq
      simp [updV, upd, narrow, vp_nar]
    · simp [updV, upd, hq]) oq
  rw [h3] at hP1
  exact k p e s m args below meth c H1 _ ls C hP1 (hS.put z oq (Nat.le_add_right _ _)) (z.trans hz) hl
theorem x_lald {a n : Nat} {i : Int32} (hd : decode (yC Y) pc = .ok (.laload, 1)) (ha : a < mn M) (hs : mh M a = (2, n)) (hi : vp_in i n) (k : EX g Y d mc ms ce sl (pc + 1) lv (.long (mj M a i.toNatClampNeg) :: st) M P) : EX g Y d mc ms ce sl pc lv (.int i :: .ref a :: st) M P := by
  intro p e s m args below meth c H locs ls C hP hS hz hl
  have h1 := mW_at g M ha
  rw [mE_j hs] at h1
  exact va_lald C.1 C.2.1 C.2.2.2.2.2.2.2.2.1.1 hP a 1 h1 rfl hi hd (k p e s m args below meth c H locs ls C hP hS hz hl)
theorem x_last {a n : Nat} {i : Int32} {x : Int64} (hd : decode (yC Y) pc = .ok (.lastore, 1)) (ha : a < mn M) (hs : mh M a = (2, n)) (hi : vp_in i n) (k : EX g Y d mc ms ce sl (pc + 1) lv st (wj M a i.toNatClampNeg x) P) : EX g Y d mc ms ce sl pc lv (.long x :: .int i :: .ref a :: st) M P := by
  intro p e s m args below meth c H locs ls C hP hS hz hl
  have h1 := mW_at g M ha
  rw [mE_j hs] at h1
  have h2 : mE (gB g) g.2.2.2 (wj M a i.toNatClampNeg x) a = .inl (g.2.2.2 2, n, .inr (.inl (vp_updL (mj M a) i.toNatClampNeg x))) := by
    rw [mE_j (M := (wj M a i.toNatClampNeg x)) hs]
    exact congrArg (fun f => Sum.inl (g.2.2.2 2, n, Sum.inr (Sum.inl f))) (mu_updL _ _ _ _)
  have h3 := mW_set (g := g) (M := M) (M' := (wj M a i.toNatClampNeg x)) ha rfl h2 (fun b hb => mE_wj hb)
  refine W.last C.1 C.2.1 (hP a _ h1) ((C.2.2.2.2.2.2.2.2.1.1.2 1 _ rfl).1 n (fun j => .long (mj M a j))) (fun q => by cases q) (by show ¬ (i < 0 ∨ (arrV _ _ _).slots.size ≤ _); rw [arrV_size]; exact hi) rfl rfl hd fun H1 e1 z oq => ?_
  have hP1 := va_P.set hP (mD g M) h1 (e := .inl (g.2.2.2 2, n, .inr (.inl (vp_updL (mj M a) i.toNatClampNeg x)))) (by
    show H1[gB g + a]? = some (vp_cell _ _)
    rw [e1]
    rw [vp_cell_l, vp_cell_l, arrV_store]
    congr 2
    funext q
    by_cases hq : q = i.toNatClampNeg
    · subst hq
      simp [updV, vp_updL]
    · simp [updV, vp_updL, hq]) oq
  rw [h3] at hP1
  exact k p e s m args below meth c H1 _ ls C hP1 (hS.put z oq (Nat.le_add_right _ _)) (z.trans hz) hl
end EXR
end
section
/-! ===== fields, arrays of references, new cells, calls, returns over EX ===== -/
def FD (own : String) (idx ci k : Nat) (ty : FieldType) (fin : Bool) : Prop :=
  ∃ (C : String) (T : u_T), vwCl[ci]? = some (C, T, mN ci) ∧ (∀ w ∈ u_ws C T (mN ci), w ∈ gw) ∧ (∀ j, j < mN ci → parseFieldDescriptor (T j).2.2.1 = some (mty ci j)) ∧ (∀ a, a < mN ci → ∀ b, b < mN ci → a ≠ b → (T a).2.1 ≠ (T b).2.1) ∧ k < mN ci ∧ mty ci k = ty ∧ (T k).2.2.2 = fin ∧ (T k).1 = C ∧ Cond.fieldLink own idx C (T k).2.1 (T k).2.2.1 ∈ gw
section EXH
variable {g : GG} {Y : YY} {d mc ms ce sl pc : Nat} {lv : List (Nat × Value)} {st : List Value} {M : MM} {P : Option Value → MM → Prop}
theorem x_get {idx ci k a : Nat} {ty : FieldType} {fin : Bool} {v : Value} (F : FD (yN Y).cls idx ci k ty fin) (hd : decode (yC Y) pc = .ok (.getfield idx, 3)) (ha : a < mn M) (hs : mh M a = (0, ci)) (hv : mfv (gB g) M a k (mkd ty) = xv (gB g) v) (k1 : EX g Y d mc ms ce sl (pc + 3) lv (v :: st) M P) : EX g Y d mc ms ce sl pc lv (.ref a :: st) M P := by
  intro p e s m args below meth c H locs ls C hP hS hz hl
  have h1 := mW_at g M ha
  rw [mE_ob hs] at h1
  obtain ⟨CN, T, hc, hin, hty, hnm, hkN, rfl, hfin, hdecl, hlink⟩ := F
  exact va_get C.1 C.2.1 (Ts := gw) C.2.2.2.2.1 hin C.2.2.2.1 C.2.2.2.2.2.2.2.2.1.1 hP a h1 hc k hkN (C.2.2.2.2.1 _ hlink) (fun x h => by rw [hdecl] at h; exact h) ((mF_at hkN).trans (congrArg some hv)) hd (k1 p e s m args below meth c H locs ls C hP hS hz hl)
theorem x_getI {idx ci k a : Nat} {ty : FieldType} {fin : Bool} (F : FD (yN Y).cls idx ci k ty fin) (hk : mkd ty = 0) (hd : decode (yC Y) pc = .ok (.getfield idx, 3)) (ha : a < mn M) (hs : mh M a = (0, ci)) (k1 : EX g Y d mc ms ce sl (pc + 3) lv (.int (mi M a k) :: st) M P) : EX g Y d mc ms ce sl pc lv (.ref a :: st) M P :=
  x_get F hd ha hs (by rw [hk]; rfl) k1
theorem x_getJ {idx ci k a : Nat} {ty : FieldType} {fin : Bool} (F : FD (yN Y).cls idx ci k ty fin) (hk : mkd ty = 1) (hd : decode (yC Y) pc = .ok (.getfield idx, 3)) (ha : a < mn M) (hs : mh M a = (0, ci)) (k1 : EX g Y d mc ms ce sl (pc + 3) lv (.long (mj M a k) :: st) M P) : EX g Y d mc ms ce sl pc lv (.ref a :: st) M P :=
  x_get F hd ha hs (by rw [hk]; rfl) k1
theorem x_getR {idx ci k a b : Nat} {ty : FieldType} {fin : Bool} (F : FD (yN Y).cls idx ci k ty fin) (hk : mkd ty = 2) (hd : decode (yC Y) pc = .ok (.getfield idx, 3)) (ha : a < mn M) (hs : mh M a = (0, ci)) (hb : mr M a k = some b) (k1 : EX g Y d mc ms ce sl (pc + 3) lv (.ref b :: st) M P) : EX g Y d mc ms ce sl pc lv (.ref a :: st) M P :=
  x_get F hd ha hs (by rw [hk]; unfold mfv; rw [if_neg (by decide), if_neg (by decide), hb]; rfl) k1
/-- a store into a field that isn't final, or of a constructor into its own final field -/
theorem x_put {idx ci k a : Nat} {ty : FieldType} {fin : Bool} {v : Value} {M1 : MM} (F : FD (yN Y).cls idx ci k ty fin) (hf : fin = false ∨ (vwCl[ci]?.map (fun r => r.1) = some (yN Y).cls ∧ (yN Y).name = "<init>")) (hd : decode (yC Y) pc = .ok (.putfield idx, 3)) (ha : a < mn M) (hs : mh M a = (0, ci)) (hnar : narrow ty (xv (gB g) v) = xv (gB g) v) (hfit : fits ty (xv (gB g) v) = true)
    (hn : mn M1 = mn M) (hh : mh M1 = mh M) (hv : mfv (gB g) M1 a k (mkd ty) = xv (gB g) v) (ho : ∀ j kd, j ≠ k → mfv (gB g) M1 a j kd = mfv (gB g) M a j kd) (hE : ∀ b, b ≠ a → mE (gB g) g.2.2.2 M1 b = mE (gB g) g.2.2.2 M b)
    (k1 : EX g Y d mc ms ce sl (pc + 3) lv st M1 P) : EX g Y d mc ms ce sl pc lv (v :: .ref a :: st) M P := by
  intro p e s m args below meth c H locs ls C hP hS0 hz hl
  have he := mW_at g M ha
  rw [mE_ob hs] at he
  obtain ⟨CN, T, hc, hin, hty, hnm, hk, rfl, hfin, hdecl, hlink⟩ := F
  have hts := C.2.2.2.2.1
  have hK := C.2.2.2.2.2.2.2.2.1.1
  have hlink := hts _ hlink
  have hap := va_apart (own := (yN Y).cls) hts hin (mty ci) hty hnm hK hc
  obtain ⟨r, h1, cell, q1, q2, q3, q4⟩ := hP a _ he
  have hr : r = (CN, T, mN ci) := Option.some.inj (h1.symm.trans hc)
  subst hr
  obtain ⟨hS, hfc, kC, hkC, hkind⟩ := hK.1 ci _ hc
  obtain ⟨cf, kf, fi, f, hi, hsl⟩ := hS k hk
  have hlay := hts _ (hin _ (u_in_lay hk))
  have hst := (u_facts hfc hkC (u_lays hts hin hk) hi).1
  have hi2 : s.fieldFound? CN (T k).2.1 (T k).2.2.1 = some (cf, kf, fi, f) := by
    have h := hi
    rw [hdecl] at h
    exact h
  have h3 : (mW g M).set a (gB g + a, .inr (ci, (mF (gB g) M ci a).set k (xv (gB g) v))) = mW g M1 := by
    refine mW_set ha hn ?_ hE
    rw [mE_ob (M := M1) (by rw [hh]; exact hs), mF_set hk hv ho]
  have fin1 : ∀ H' : Heap, H'[gB g + a]? = some (cell.setSlot f.slot (xv (gB g) v)) → H'.size = H.size → (∀ q, q ≠ gB g + a → H'[q]? = H[q]?) → W p g.1 e (xR d mc ms) s m args below meth c H' (locs ++ [⟨gB g + a, f.slot⟩]) ce sl (MQ below (xQ g P) args s mc ms (gA g)) (F0 m (pc + 3) ls (xst g st)) := by
    intro H' e1 e2 e3
    rw [hsl] at e1
    have hP1 := va_P.set hP (mD g M) he (e := .inr (ci, (mF (gB g) M ci a).set k (xv (gB g) v))) ⟨_, hc, t_OB.to (V := updV (vp_V (mF (gB g) M ci a)) k (xv (gB g) v)) ⟨_, e1, q2, q3, t_set q4 hap hk (xv (gB g) v)⟩ (fun j _ => vp_updV_set (by rw [mF_len]; exact hk) (xv (gB g) v) j)⟩ e3
    rw [h3] at hP1
    exact k1 p e s m args below meth c H' _ ls C hP1 (hS0.put e2 e3 (Nat.le_add_right _ _)) (by rw [e2, hz, hn]) hl
  unfold u_lay at hlay
  cases fin with
  | false =>
    rw [if_neg (by rw [hfin]; decide)] at hlay
    have h6 := u_store hfc hkC hkind hlay hi (hty k hk) hnar hfit
    exact W.putK C.1 C.2.1 (f := f) ⟨C.2.2.2.1, hlink, ⟨_, _, _, hi2⟩, hst⟩ (by rw [q2]; exact h6) q1 q3 (by rw [hsl]; exact k2_hasslot (q4 k hk)) rfl rfl hd fin1
  | true =>
    rw [if_pos hfin] at hlay
    rcases hf with hf | ⟨hown, hini⟩
    · cases hf
    · rw [hc] at hown
      have hown : CN = (yN Y).cls := Option.some.inj hown
      have hcf : m.cls = cf := by
        obtain ⟨_, _, c', _, _, _, -, -, hf', -, -, -, hown2, -⟩ := Cond.laysFinal_spec hlay
        have e1 : c' = cf := by have := hi.symm.trans hf'; simp at this; exact this.1.symm
        rw [hdecl, hown] at hown2
        rw [← e1]; exact Option.some.inj (C.2.2.2.1.symm.trans hown2)
      have h6 := u_fits hfc hkC hkind (Or.inr hlay) hi (hty k hk) hnar hfit
      exact W.putFinK C.1 C.2.1 C.2.2.2.1 hlink hi2 hst hcf (C.2.2.2.2.2.2.2.1.trans hini) (by rw [q2]; exact h6) q1 q3 (by rw [hsl]; exact k2_hasslot (q4 k hk)) rfl rfl hd fin1
theorem x_putI {idx ci k a : Nat} {ty : FieldType} {fin : Bool} {v : Int32} (F : FD (yN Y).cls idx ci k ty fin) (hk : mkd ty = 0) (hf : fin = false ∨ (vwCl[ci]?.map (fun r => r.1) = some (yN Y).cls ∧ (yN Y).name = "<init>")) (hd : decode (yC Y) pc = .ok (.putfield idx, 3)) (ha : a < mn M) (hs : mh M a = (0, ci)) (hnar : narrow ty (.int v) = .int v) (hfit : fits ty (.int v) = true) (k1 : EX g Y d mc ms ce sl (pc + 3) lv st (wi M a k v) P) : EX g Y d mc ms ce sl pc lv (.int v :: .ref a :: st) M P :=
  x_put (M1 := wi M a k v) F hf hd ha hs hnar hfit rfl rfl (by rw [hk]; exact congrArg Value.int (mu_s _ a k v)) (fun j kd hj => by
    unfold mfv
    by_cases h0 : kd = 0
    · rw [if_pos h0, if_pos h0]; exact congrArg Value.int (mu_k _ a v hj)
    · rw [if_neg h0, if_neg h0]) (fun b hb => mE_wi hb) k1
theorem x_putJ {idx ci k a : Nat} {ty : FieldType} {fin : Bool} {v : Int64} (F : FD (yN Y).cls idx ci k ty fin) (hk : ty = .long) (hf : fin = false ∨ (vwCl[ci]?.map (fun r => r.1) = some (yN Y).cls ∧ (yN Y).name = "<init>")) (hd : decode (yC Y) pc = .ok (.putfield idx, 3)) (ha : a < mn M) (hs : mh M a = (0, ci)) (k1 : EX g Y d mc ms ce sl (pc + 3) lv st (wj M a k v) P) : EX g Y d mc ms ce sl pc lv (.long v :: .ref a :: st) M P :=
  x_put (M1 := wj M a k v) F hf hd ha hs (by rw [hk]; rfl) (by rw [hk]; rfl) rfl rfl (by rw [hk]; exact congrArg Value.long (mu_s _ a k v)) (fun j kd hj => by
    unfold mfv
    by_cases h0 : kd = 0
    · rw [if_pos h0, if_pos h0]
    · rw [if_neg h0, if_neg h0]
      by_cases h1 : kd = 1
      · rw [if_pos h1, if_pos h1]; exact congrArg Value.long (mu_k _ a v hj)
      · rw [if_neg h1, if_neg h1]) (fun b hb => mE_wj hb) k1
theorem x_putR {idx ci k a b : Nat} {ty : FieldType} {fin : Bool} (F : FD (yN Y).cls idx ci k ty fin) (hk : mkd ty = 2) (hf : fin = false ∨ (vwCl[ci]?.map (fun r => r.1) = some (yN Y).cls ∧ (yN Y).name = "<init>")) (hd : decode (yC Y) pc = .ok (.putfield idx, 3)) (ha : a < mn M) (hs : mh M a = (0, ci)) (k1 : EX g Y d mc ms ce sl (pc + 3) lv st (wr M a k (some b)) P) : EX g Y d mc ms ce sl pc lv (.ref b :: .ref a :: st) M P :=
  x_put (M1 := wr M a k (some b)) F hf hd ha hs (by cases ty <;> first | rfl | cases hk) (by cases ty <;> first | rfl | cases hk) rfl rfl (by
    rw [hk]
    unfold mfv
    rw [if_neg (by decide), if_neg (by decide)]
    exact congrArg (fun r => va_rf (mo (gB g) r)) (mu_s (mr M) a k (some b))) (fun j kd hj => by
    unfold mfv
    by_cases h0 : kd = 0
    · rw [if_pos h0, if_pos h0]
    · rw [if_neg h0, if_neg h0]
      by_cases h1 : kd = 1
      · rw [if_pos h1, if_pos h1]
      · rw [if_neg h1, if_neg h1]; exact congrArg (fun r => va_rf (mo (gB g) r)) (mu_k (mr M) a (some b) hj)) (fun b hb => mE_wr hb) k1
/-- arrays of references -/
theorem x_aald {a n t b : Nat} {i : Int32} (hd : decode (yC Y) pc = .ok (.aaload, 1)) (ha : a < mn M) (hs : mh M a = (t, n)) (ht : t = 5 ∨ t = 6) (hi : vp_in i n) (hb : mr M a i.toNatClampNeg = some b) (k : EX g Y d mc ms ce sl (pc + 1) lv (.ref b :: st) M P) : EX g Y d mc ms ce sl pc lv (.int i :: .ref a :: st) M P := by
  intro p e s m args below meth c H locs ls C hP hS hz hl
  have h1 := mW_at g M ha
  have kk := k p e s m args below meth c H locs ls C hP hS hz hl
  rcases ht with rfl | rfl
  · rw [mE_q hs (by decide)] at h1
    refine va_aldq C.1 C.2.1 C.2.2.2.2.2.2.2.2.1.1 hP a 4 h1 rfl hi hd ?_
    rw [hb]; exact kk
  · rw [mE_q hs (by decide)] at h1
    refine va_aldq C.1 C.2.1 C.2.2.2.2.2.2.2.2.1.1 hP a 5 h1 rfl hi hd ?_
    rw [hb]; exact kk
theorem x_aast {a n t v ci : Nat} {i : Int32} (hd : decode (yC Y) pc = .ok (.aastore, 1)) (ha : a < mn M) (hs : mh M a = (t, n)) (ht : (t = 5 ∧ ci = 3) ∨ (t = 6 ∧ ci = 10)) (hi : vp_in i n) (hv : v < mn M) (hsv : mh M v = (0, ci)) (k : EX g Y d mc ms ce sl (pc + 1) lv st (wr M a i.toNatClampNeg (some v)) P) : EX g Y d mc ms ce sl pc lv (.ref v :: .int i :: .ref a :: st) M P := by
  intro p e s m args below meth c H locs ls C hP hS hz hl
  have hlt : i.toNatClampNeg < n := Nat.not_le.mp fun q => hi (Or.inr q)
  have h0 : ¬ i < 0 := fun q => hi (Or.inl q)
  have hK := C.2.2.2.2.2.2.2.2.1.1
  have ht5 : 5 ≤ t := by omega
  have h1 := mW_at g M ha
  rw [mE_q hs ht5] at h1
  have h1v := mW_at g M hv
  rw [mE_ob hsv] at h1v
  obtain ⟨rc, t0, hc, htt⟩ : ∃ (rc : vw_C) (t0 : Nat), vwCl[ci]? = some rc ∧ (mT g)[t0]? = some (g.2.2.2 t, .object rc.1) := by
    rcases ht with ⟨rfl, rfl⟩ | ⟨rfl, rfl⟩
    · exact ⟨_, 4, rfl, rfl⟩
    · exact ⟨_, 5, rfl, rfl⟩
  have h2 : mE (gB g) g.2.2.2 (wr M a i.toNatClampNeg (some v)) a = .inl (g.2.2.2 t, n, .inr (.inr (.inr (.inr (va_up (fun j => mo (gB g) (mr M a j)) i.toNatClampNeg (some (gB g + v))))))) := by
    rw [mE_q (M := wr M a i.toNatClampNeg (some v)) hs ht5]
    exact congrArg (fun f => Sum.inl (g.2.2.2 t, n, Sum.inr (Sum.inr (Sum.inr (Sum.inr f))))) (mu_upq (gB g) (mr M) a i.toNatClampNeg (some v))
  have h3 := mW_set (g := g) (M := M) (M' := wr M a i.toNatClampNeg (some v)) ha rfl h2 (fun b hb => mE_wr hb)
  obtain ⟨r', hr', cellV, g1, g2, g3, -⟩ := hP v _ h1v
  have hcls := (hK.1 ci rc hc).2
  obtain ⟨kA, comp, k1, k2, k3, -⟩ := (hK.2 t0 _ htt).2
  have hcomp : comp = g.2.2.1.1 ci := Option.some.inj (k3.symm.trans hcls.1)
  subst hcomp
  obtain ⟨kC, hkC, -⟩ := hcls.2
  refine W.aast C.1 C.2.1 (hP a _ h1) (fun q h => by cases h) (fun h => by cases h) k1 k2 rfl hkC ⟨h0, by show _ < (arrV _ _ _).slots.size; rw [arrV_size]; exact hlt⟩ g1 (fun q h => by rw [g3] at h; cases h) (by rw [g2]; exact hkC) (by rw [g2]; exact va_assign hcls) rfl rfl hd fun H1 e1 z oq => ?_
  have hP1 := va_P.set hP (mD g M) h1 (e := .inl (g.2.2.2 t, n, .inr (.inr (.inr (.inr (va_up (fun j => mo (gB g) (mr M a j)) i.toNatClampNeg (some (gB g + v)))))))) (by
    show H1[gB g + a]? = some (vp_cell _ _)
    rw [e1]
    rw [vp_cell_q, vp_cell_q, arrV_store]
    congr 2
    funext q
    by_cases hq : q = i.toNatClampNeg
    · subst hq
      simp [updV, va_up, va_rf]
    · simp [updV, va_up, hq]) oq
  rw [h3] at hP1
  exact k p e s m args below meth c H1 _ ls C hP1 (hS.put z oq (Nat.le_add_right _ _)) (z.trans hz) hl
/-- one cell more -/
theorem mW_new {g : GG} {M : MM} {sh : Nat × Nat} {H H1 : Heap} {e : va_E} (hP : gV g M H) (hz : H.size = gB g + mn M) (he : mE (gB g) g.2.2.2 (mw M sh) (mn M) = e) (hat : va_at g.2.2.1 vwCl (gB g + mn M, e) H1) (o1 : ∀ q, q < H.size → H1[q]? = H[q]?) : gV g (mw M sh) H1 := by
  intro k q hk
  obtain ⟨h1, rfl⟩ := mW_of hk
  have h1 : k < mn M + 1 := h1
  by_cases hk2 : k = mn M
  · subst hk2
    rw [he]
    exact hat
  · have hlt : k < mn M := by omega
    have e1 : mE (gB g) g.2.2.2 (mw M sh) k = mE (gB g) g.2.2.2 M k := mE_same (if_neg hk2) (fun _ => if_neg hk2) (fun _ => if_neg hk2) (fun _ => if_neg hk2)
    rw [e1]
    exact (hP k _ (mW_at g M hlt)).kept (o1 _ (by show gB g + k < H.size; rw [hz]; omega))
theorem mw_S {g : GG} {H0 H H1 : Heap} {locs : List Loc} (hS : va_S (gA g) H0 H locs) (z1 : H1.size = H.size + 1) (o1 : ∀ q, q < H.size → H1[q]? = H[q]?) : va_S (gA g) H0 H1 locs :=
  ⟨Nat.le_trans hS.1 (by omega), fun x h1 h2 => (o1 x (Nat.lt_of_lt_of_le h1 hS.1)).trans (hS.2.1 x h1 h2), hS.2.2⟩
theorem x_newarray {t : Nat} {n : Int32} {N : Nat} {atype : ArrayType} (ht : (t = 1 ∧ newarray.typeOf atype = .int) ∨ (t = 2 ∧ newarray.typeOf atype = .long) ∨ (t = 3 ∧ newarray.typeOf atype = .boolean) ∨ (t = 4 ∧ newarray.typeOf atype = .char)) (hd : decode (yC Y) pc = .ok (.newarray atype, 2)) (hw : Cond.arrayClass (newarray.typeOf atype) ∈ gw) (hn : ¬ n < 0) (hN : n.toNatClampNeg = N) (hN2 : N ≤ 4000) (hc : ce + 1 ≤ mc) (hsl : sl + N ≤ ms) (k : EX g Y d mc ms (ce + 1) (sl + N) (pc + 2) lv (.ref (mn M) :: st) (mw M (t, N)) P) : EX g Y d mc ms ce sl pc lv (.int n :: st) M P := by
  intro p e s m args below meth c H locs ls C hP hS hz hl
  have hK := C.2.2.2.2.2.2.2.2.1.1
  have hby : N * componentBytes (newarray.typeOf atype) ≤ 536870912 := by
    rcases ht with ⟨-, h⟩ | ⟨-, h⟩ | ⟨-, h⟩ | ⟨-, h⟩ <;> rw [h] <;> simp [componentBytes] <;> omega
  refine va_newaK C.1 C.2.1 (C.2.2.2.2.1 _ hw) rfl hd rfl hn hN hby hc hsl hz fun H1 cA e1 z1 o1 hAr hNm => ?_
  have o1' : ∀ q, q < H.size → H1[q]? = H[q]? := fun q h => o1 q (by rw [← hz]; exact h)
  have hcA : cA = g.2.2.2 t := by
    rcases ht with ⟨rfl, h⟩ | ⟨rfl, h⟩ | ⟨rfl, h⟩ | ⟨rfl, h⟩ <;> rw [h] at hNm
    · exact Option.some.inj (hNm.symm.trans (hK.2 0 _ rfl).2)
    · exact Option.some.inj (hNm.symm.trans (hK.2 1 _ rfl).2)
    · exact Option.some.inj (hNm.symm.trans (hK.2 2 _ rfl).2)
    · exact Option.some.inj (hNm.symm.trans (hK.2 3 _ rfl).2)
  subst hcA
  have hh : mh (mw M (t, N)) (mn M) = (t, N) := if_pos rfl
  have ei : mi (mw M (t, N)) (mn M) = fun _ => 0 := funext fun _ => if_pos rfl
  have ej : mj (mw M (t, N)) (mn M) = fun _ => 0 := funext fun _ => if_pos rfl
  have hP1 : gV g (mw M (t, N)) H1 := by
    refine mW_new hP hz rfl ?_ o1'
    rcases ht with ⟨rfl, h⟩ | ⟨rfl, h⟩ | ⟨rfl, h⟩ | ⟨rfl, h⟩ <;> rw [h] at e1
    · rw [mE_i hh, ei]; exact e1
    · rw [mE_j hh, ej]; exact e1
    · rw [mE_z hh, ei]; exact e1
    · rw [mE_c hh, ei]; exact e1
  exact k p e s m args below meth c H1 locs ls C hP1 (mw_S hS (by rw [z1, hz]) o1') (by rw [z1]; rfl) hl
theorem x_anew {t idx : Nat} {n : Int32} {N : Nat} {CN : String} (ht : (t = 5 ∧ CN = RX3) ∨ (t = 6 ∧ CN = RX10)) (hd : decode (yC Y) pc = .ok (.anewarray idx, 3)) (hcl : Cond.classLink (yN Y).cls idx CN ∈ gw) (hn : ¬ n < 0) (hN : n.toNatClampNeg = N) (hN2 : N ≤ 4000) (hc : ce + 1 ≤ mc) (hsl : sl + N ≤ ms) (k : EX g Y d mc ms (ce + 1) (sl + N) (pc + 3) lv (.ref (mn M) :: st) (mw M (t, N)) P) : EX g Y d mc ms ce sl pc lv (.int n :: st) M P := by
  intro p e s m args below meth c H locs ls C hP hS hz hl
  have hK := C.2.2.2.2.2.2.2.2.1.1
  subst hN
  have hov : va_AO CN s := by
    rcases ht with ⟨-, rfl⟩ | ⟨-, rfl⟩
    · exact C.2.2.2.2.2.2.2.2.1.2.2.1
    · exact C.2.2.2.2.2.2.2.2.1.2.2.2
  refine W.anew C.1 C.2.1 C.2.2.2.1 (C.2.2.2.2.1 _ hcl) hov.use rfl hd rfl hn (by omega) hc hsl fun cA kA comp f1 f2 f3 f4 => ?_
  generalize hH1 : H.push ({ cls := cA, slots := Array.replicate n.toNatClampNeg .null, vm := .none } : Cell) = H1
  have z1 : H1.size = H.size + 1 := by rw [← hH1, Array.size_push]
  have e1 : H1[H.size]? = some (arrV cA n.toNatClampNeg (fun _ => .null)) := by rw [← hH1, Array.getElem?_push_size, ← arrV_new]
  have o1 : ∀ q : Nat, q < H.size → H1[q]? = H[q]? := fun q hq => by rw [← hH1, Array.getElem?_push, if_neg (Nat.ne_of_lt hq)]
  have hcA : cA = g.2.2.2 t := by
    rcases ht with ⟨rfl, rfl⟩ | ⟨rfl, rfl⟩
    · obtain ⟨_, _, _, _, _, h⟩ := (hK.2 4 _ rfl).2
      exact Option.some.inj (f1.symm.trans h)
    · obtain ⟨_, _, _, _, _, h⟩ := (hK.2 5 _ rfl).2
      exact Option.some.inj (f1.symm.trans h)
  subst hcA
  have ht5 : 5 ≤ t := by rcases ht with ⟨rfl, -⟩ | ⟨rfl, -⟩ <;> decide
  have hh : mh (mw M (t, n.toNatClampNeg)) (mn M) = (t, n.toNatClampNeg) := if_pos rfl
  have er : (fun k => mo (gB g) (mr (mw M (t, n.toNatClampNeg)) (mn M) k)) = fun _ => none := funext fun _ => congrArg (mo (gB g)) (if_pos rfl)
  have hP1 : gV g (mw M (t, n.toNatClampNeg)) H1 := by
    refine mW_new hP hz rfl ?_ o1
    rw [mE_q hh ht5, er, ← hz]
    show H1[H.size]? = some (vp_cell _ _)
    rw [vp_cell_q]
    exact e1
  have kk := k p e s m args below meth c H1 locs ls C hP1 (mw_S hS z1 o1) (by rw [z1, hz]; rfl) hl
  rw [hz]
  exact kk
end EXH
end
section
/-! ===== new objects, calls, returns over EX ===== -/
/-- a class that can be made here -/
def CN (own : String) (idx ci : Nat) : Prop :=
  ∃ (C : String) (T : u_T), vwCl[ci]? = some (C, T, mN ci) ∧ (∀ w ∈ u_ws C T (mN ci), w ∈ gw) ∧ (∀ j, j < mN ci → parseFieldDescriptor (T j).2.2.1 = some (mty ci j)) ∧ (∀ j, j < mN ci → mk ci j < 3) ∧ Cond.classLink own idx C ∈ gw ∧ Cond.instantiable C (mN ci) ∈ gw ∧ Cond.initialized C ∈ gw
/-- what each call of a method needs -/
def CB (Y : YY) : Prop := Cond.initialized (yN Y).cls ∈ gw ∧ yK Y ∈ gw ∧ ((yN Y).cls ≠ "java/lang/invoke/MethodHandle" ∧ (yN Y).cls ≠ "java/lang/invoke/VarHandle" ∧ (parseMethodDescriptor (yN Y).desc).map (fun d => d.parameters.length) = some (yA Y)) ∧ yL Y ≤ 21
def CV (own : String) (idx : Nat) (Y : YY) : Prop := CB Y ∧ Cond.methodLink own idx (yN Y) ∈ gw ∧ Cond.instanceMethod (yN Y) ∈ gw ∧ Cond.selects (yN Y).cls (yN Y) (yN Y) ∈ gw
def CS (own : String) (idx : Nat) (Y : YY) : Prop := CB Y ∧ Cond.methodLink own idx (yN Y) ∈ gw ∧ Cond.static (yN Y) ∈ gw
def CI (own : String) (idx : Nat) (Y : YY) : Prop := CB Y ∧ Cond.methodLink own idx (yN Y) ∈ gw ∧ Cond.instanceMethod (yN Y) ∈ gw ∧ (yN Y).name = "<init>" ∧ yR Y = none
def CIN (own : String) (idx : Nat) (Y : YY) : Prop := CB Y ∧ Cond.methodLinkNest own idx (yN Y) RX11 ∈ lw_tbl ∧ Cond.instanceMethod (yN Y) ∈ gw ∧ (yN Y).name = "<init>" ∧ yR Y = none
section EXC
variable {g : GG} {Y Z : YY} {d mc ms ce sl pc : Nat} {lv : List (Nat × Value)} {st : List Value} {M : MM} {P P1 : Option Value → MM → Prop}
theorem x_new {idx ci N : Nat} (hN : N = mN ci) (F : CN (yN Y).cls idx ci) (hd : decode (yC Y) pc = .ok (.new idx, 3)) (hc : ce + 1 ≤ mc) (hsl : sl + N ≤ ms) (k : EX g Y d mc ms (ce + 1) (sl + N) (pc + 3) lv (.ref (mn M) :: st) (mw M (0, ci)) P) : EX g Y d mc ms ce sl pc lv st M P := by
  intro p e s m args below meth c H locs ls C hP hS hz hl
  have hK := C.2.2.2.2.2.2.2.2.1.1
  have hts := C.2.2.2.2.1
  subst hN
  obtain ⟨CNm, T, hcl, hin, hty, hkd, w1, w2, w3⟩ := F
  have hKn := hK.1 ci _ hcl
  refine W.newcK C.1 C.2.1 C.2.2.2.1 (hts _ w1) (hts _ w2) (hts _ w3) rfl hd hc hsl hKn.2.1 hz fun H1 kC hkC e1 z1 o1 => ?_
  have o1' : ∀ q, q < H.size → H1[q]? = H[q]? := fun q h => o1 q (by rw [← hz]; exact h)
  have hh : mh (mw M (0, ci)) (mn M) = (0, ci) := if_pos rfl
  have hP1 : gV g (mw M (0, ci)) H1 := by
    refine mW_new hP hz (mE_ob hh) ⟨_, hcl, (u_born (mty ci) hts hin hKn hkC e1 hty).to (fun j hj => ?_)⟩ o1'
    unfold vp_V
    rw [List.getD_eq_getElem?_getD, mF_at hj]
    have h3 := hkd j hj
    have ei : mi (mw M (0, ci)) (mn M) j = 0 := if_pos rfl
    have ej : mj (mw M (0, ci)) (mn M) j = 0 := if_pos rfl
    have er : mr (mw M (0, ci)) (mn M) j = none := if_pos rfl
    unfold mfv
    rw [ei, ej, er]
    unfold mk at h3 ⊢
    generalize mty ci j = t at h3 ⊢
    cases t <;> first | rfl | (exfalso; revert h3; decide)
  exact k p e s m args below meth c H1 locs ls C hP1 (mw_S hS (by rw [z1, hz]) o1') (by rw [z1]; rfl) hl
theorem x_objInit {idx a : Nat} (hd : decode (yC Y) pc = .ok (.invokespecial idx, 3)) (w1 : Cond.methodLink (yN Y).cls idx objectInit ∈ gw) (w2 : Cond.instanceMethod objectInit ∈ gw) (w3 : Cond.code objectInit ⟨#[0xb1]⟩ 1 none ∈ gw) (hdd : 1 ≤ d) (hw : (st.map fun v => v.category).sum ≤ 8) (k : EX g Y d mc ms ce sl (pc + 3) lv st M P) : EX g Y d mc ms ce sl pc lv (.ref a :: st) M P := by
  intro p e s m args below meth c H locs ls C hP hS hz hl
  have hts := C.2.2.2.2.1
  have hsum : ((xst g st).map fun v => v.category).sum = (st.map fun v => v.category).sum := by
    rw [List.map_map]; congr 1; exact List.map_congr_left (fun v _ => xv_cat _ v)
  refine W.objInit C.1 C.2.1 C.2.2.2.1 (hts _ w1) (hts _ w2) (hts _ w3) rfl (hl.1.trans C.2.2.1.symm) rfl hd hdd ?_ (k p e s m args below meth c H locs ls C hP hS hz hl)
  show 2 * 0 + ((xst g st).map fun v => v.category).sum + 12 ≤ 40 * d
  rw [hsum]; omega
/-- behind a call -/
theorem x_after {mc1 ms1 : Nat} {st0 : List Value} {a : Array Value} (k : ∀ rv M1, P1 rv M1 → EX g Y d mc ms (ce + mc1) (sl + ms1) (pc + 3) lv (rv.toList ++ st) M1 P) {p : Program} {e : Env} {s : State} {m : MethodId} {args : Array Value} {below : List Frame} {meth : Method} {c : Code} {H : Heap} {locs : List Loc} {ls : Array Slot}
    (C : xC g Y p s m args meth c) (hS : va_S (gA g) s.heap H locs) (hl : lv_has ls (yL Y) (xlv g lv)) (hr : va_Run p g.1 e (xR d mc ms) s m args below meth c H locs ce sl mc1 ms1 (F0 m pc ls st0) (xst g st) (xQ g P1 a) (gA g)) :
    W p g.1 e (xR d mc ms) s m args below meth c H locs ce sl (MQ below (xQ g P) args s mc ms (gA g)) (F0 m pc ls st0) := by
  intro T hT X
  obtain ⟨v, st₀, t, T', L, h0, X', hL, e1, e2, ⟨⟨rv, M1, hv, hp, hV, hsz⟩, hz2, hk⟩, stp⟩ := hr T hT X
  have hv : v = rv.map (xv (gB g)) := by
    have := hv
    simpa using this
  rw [h0] at hz2 hk
  have hA : ∀ q : Nat, q < s.heap.size → ¬ gA g q → T'.heap[q]? = s.heap[q]? := fun q h1 h2 => by
    rw [e1, hk q (Nat.lt_of_lt_of_le h1 hS.1) h2]; exact hS.2.1 q h1 h2
  have kk := k rv M1 hp p e s m args below meth c T'.heap (locs ++ L) ls C (by rw [e1]; exact hV) ⟨Nat.le_trans hS.1 (by rw [e1]; exact hz2), hA, fun q hq => by
      rcases List.mem_append.mp hq with h | h
      · exact hS.2.2 q h
      · exact hL q h⟩ (by rw [e1]; exact hsz) hl T' rfl X'
  obtain ⟨t2, a1, b1⟩ := kk
  refine ⟨t2, stp t2 ?_, b1⟩
  have e3 : xst g (rv.toList ++ st) = v.toList ++ xst g st := by
    rw [hv]
    cases rv <;> simp
  rw [← e3]
  exact a1
theorem x_pre {av : List Value} {s : State} {H : Heap} (hK : gK g s) (hP : gV g M H) (hz : H.size = gB g + mn M) : PreS s H (va_Pc (xst g av) (fun U => U.heap.size = gB g + mn M ∧ gV g M U.heap ∧ gK g U)) (xst g av) := by
  refine ⟨fun a U f mk q => ?_, fun U hU hW => ⟨rfl, by rw [hU]; exact hz, by rw [hU]; exact hP, va_K.moved hW.alike hK.1, hK.2.warm hW⟩⟩
  obtain ⟨q0, q1, q2, q3⟩ := q
  exact ⟨q0, q1, q2, va_K.moved (u := U) (U := U.calling f mk a) (Vm.Alike.refl U.vm) q3.1, gN.same (s := U) (U := U.calling f mk a) rfl q3.2⟩
theorem x_room {d1 d L : Nat} (hdd : d1 + 1 ≤ d) (hL : L ≤ 21) : 8 + (L + 11) + 40 * d1 ≤ 40 * d := by omega
theorem x_cb {own : String} {idx d1 mc1 ms1 : Nat} {s : State} {args : Array Value} (hb : CB Z) (hts : ∀ w ∈ gw, w.before args s = true) (hl : Cond.methodLink own idx (yN Z) ∈ gw) (hdd : d1 + 1 ≤ d) : CallB (xR d mc ms) s args own idx (yN Z) (yC Z) (yL Z) (yR Z) (yK Z :: gw) (xR d1 mc1 ms1) mc1 ms1 (yA Z) :=
  callB_of (Ts := gw) (ws' := gw) (yA Z) hts (gw_GoodIn hb.2.1) rfl rfl rfl (hts _ hb.1) (hts _ hl) hb.2.2.1 ⟨hdd, x_room hdd hb.2.2.2⟩
theorem x_sum (g : GG) (st : List Value) : ((xst g st).map fun v => v.category).sum = (st.map fun v => v.category).sum := by
  rw [List.map_map]; congr 1; exact List.map_congr_left (fun v _ => xv_cat _ v)
theorem x_callV {idx b ci d1 mc1 ms1 : Nat} {As st0 : List Value} (Z : YY) (F : CV (yN Y).cls idx Z) (hd : decode (yC Y) pc = .ok (.invokevirtual idx, 3)) (hst : st0 = As.reverse ++ .ref b :: st) (hn : As.length = yA Z) (hb : b < mn M) (hs : mh M b = (0, ci)) (hci : vwCl[ci]?.map (fun r => r.1) = some (yN Z).cls) (hdd : d1 + 1 ≤ d) (hce : ce + mc1 ≤ mc) (hsl : sl + ms1 ≤ ms) (hw : (st.map fun v => v.category).sum ≤ 8)
    (hR : RT g Z d1 mc1 ms1 (.ref b :: As) M P1) (k : ∀ rv M1, P1 rv M1 → EX g Y d mc ms (ce + mc1) (sl + ms1) (pc + 3) lv (rv.toList ++ st) M1 P) : EX g Y d mc ms ce sl pc lv st0 M P := by
  intro p e s m args below meth c H locs ls C hP hS hz hl
  have hK := C.2.2.2.2.2.2.2.2.1.1
  have hts := C.2.2.2.2.1
  obtain ⟨hb1, w1, w2, w3⟩ := F
  subst hst
  have hpre := x_pre (av := .ref b :: As) C.2.2.2.2.2.2.2.2.1 hP hz
  have he := mW_at g M hb
  rw [mE_ob hs] at he
  obtain ⟨r, hr⟩ : ∃ r, vwCl[ci]? = some r := by
    cases h : vwCl[ci]? with
    | none => rw [h] at hci; cases hci
    | some r => exact ⟨r, rfl⟩
  rw [hr] at hci
  have hrn : r.1 = (yN Z).cls := Option.some.inj hci
  have hrecv := va_recv hK hP hr he
  rw [hrn] at hrecv
  refine x_after k C hS hl (va_runV (As := xst g As) (b := gB g + b) (nL := yL Y) (Ts := gw) ⟨C.1, C.2.1, C.2.2.1, C.2.2.2.1, hts⟩ hR ⟨x_cb hb1 hts w1 hdd, hts _ w2, hts _ w3⟩ ⟨hpre.1, hrecv, hpre.2⟩ rfl (by rw [List.length_map]; exact hn) hl.1 ?_ ?_ hd ⟨hce, hsl⟩)
  · show xst g (As.reverse ++ .ref b :: st) = _
    simp [xst, xv]
  · show 2 * 0 + _ ≤ 8
    rw [x_sum]; omega
theorem x_callS {idx d1 mc1 ms1 : Nat} {As st0 : List Value} (Z : YY) (F : CS (yN Y).cls idx Z) (hd : decode (yC Y) pc = .ok (.invokestatic idx, 3)) (hst : st0 = As.reverse ++ st) (hn : As.length = yA Z) (hdd : d1 + 1 ≤ d) (hce : ce + mc1 ≤ mc) (hsl : sl + ms1 ≤ ms) (hw : (st.map fun v => v.category).sum ≤ 8)
    (hR : RT g Z d1 mc1 ms1 As M P1) (k : ∀ rv M1, P1 rv M1 → EX g Y d mc ms (ce + mc1) (sl + ms1) (pc + 3) lv (rv.toList ++ st) M1 P) : EX g Y d mc ms ce sl pc lv st0 M P := by
  intro p e s m args below meth c H locs ls C hP hS hz hl
  have hK := C.2.2.2.2.2.2.2.2.1.1
  have hts := C.2.2.2.2.1
  obtain ⟨hb1, w1, w2⟩ := F
  subst hst
  have hpre := x_pre (av := As) C.2.2.2.2.2.2.2.2.1 hP hz
  refine x_after k C hS hl (va_runS (As := xst g As) (nL := yL Y) (Ts := gw) ⟨C.1, C.2.1, C.2.2.1, C.2.2.2.1, hts⟩ hR ⟨x_cb hb1 hts w1 hdd, hts _ w2⟩ hpre rfl (by rw [List.length_map]; exact hn) hl.1 ?_ ?_ hd ⟨hce, hsl⟩)
  · show xst g (As.reverse ++ st) = _
    simp [xst]
  · show 2 * 0 + _ ≤ 8
    rw [x_sum]; omega
theorem x_callI {idx b d1 mc1 ms1 : Nat} {As st0 : List Value} (Z : YY) (F : CI (yN Y).cls idx Z) (hd : decode (yC Y) pc = .ok (.invokespecial idx, 3)) (hst : st0 = As.reverse ++ .ref b :: st) (hn : As.length = yA Z) (hdd : d1 + 1 ≤ d) (hce : ce + mc1 ≤ mc) (hsl : sl + ms1 ≤ ms) (hw : (st.map fun v => v.category).sum ≤ 8)
    (hR : RT g Z d1 mc1 ms1 (.ref b :: As) M P1) (k : ∀ rv M1, P1 rv M1 → EX g Y d mc ms (ce + mc1) (sl + ms1) (pc + 3) lv (rv.toList ++ st) M1 P) : EX g Y d mc ms ce sl pc lv st0 M P := by
  intro p e s m args below meth c H locs ls C hP hS hz hl
  have hK := C.2.2.2.2.2.2.2.2.1.1
  have hts := C.2.2.2.2.1
  obtain ⟨hb1, w1, w2, hnm, hret⟩ := F
  subst hst
  have hpre := x_pre (av := .ref b :: As) C.2.2.2.2.2.2.2.2.1 hP hz
  have hcb := x_cb (d := d) (mc := mc) (ms := ms) (d1 := d1) (mc1 := mc1) (ms1 := ms1) hb1 hts w1 hdd
  rw [hret] at hcb
  refine x_after k C hS hl (va_runI (As := xst g As) (b := gB g + b) (nL := yL Y) (Ts := gw) ⟨C.1, C.2.1, C.2.2.1, C.2.2.2.1, hts⟩ hR ⟨hcb, hnm, hts _ w2⟩ hpre rfl (by rw [List.length_map]; exact hn) hl.1 ?_ ?_ hd ⟨hce, hsl⟩)
  · show xst g (As.reverse ++ .ref b :: st) = _
    simp [xst, xv]
  · show 2 * 0 + _ ≤ 8
    rw [x_sum]; omega
theorem x_callIN {idx b d1 mc1 ms1 : Nat} {As st0 : List Value} (Z : YY) (F : CIN (yN Y).cls idx Z) (hd : decode (yC Y) pc = .ok (.invokespecial idx, 3)) (hst : st0 = As.reverse ++ .ref b :: st) (hn : As.length = yA Z) (hdd : d1 + 1 ≤ d) (hce : ce + mc1 ≤ mc) (hsl : sl + ms1 ≤ ms) (hw : (st.map fun v => v.category).sum ≤ 8)
    (hR : RT g Z d1 mc1 ms1 (.ref b :: As) M P1) (k : ∀ rv M1, P1 rv M1 → EX g Y d mc ms (ce + mc1) (sl + ms1) (pc + 3) lv (rv.toList ++ st) M1 P) : EX g Y d mc ms ce sl pc lv st0 M P := by
  intro p e s m args below meth c H locs ls C hP hS hz hl
  have hK := C.2.2.2.2.2.2.2.2.1.1
  have hts := C.2.2.2.2.1
  obtain ⟨hb1, w1, w2, hnm, hret⟩ := F
  subst hst
  have hpre := x_pre (av := .ref b :: As) C.2.2.2.2.2.2.2.2.1 hP hz
  have hcn := va_cnB (R := xR d mc ms) (args := args) (own := (yN Y).cls) (host := RX11) (index := idx) (bytes := yC Z) (maxL := yL Z) (ret := yR Z) (Ts := gw) (ws' := gw) (rm := xR d1 mc1 ms1) (mc := mc1) (ms := ms1) (yA Z) hts (gw_GoodIn hb1.2.1) rfl rfl rfl (C.2.2.2.2.2.2.2.2.1.2.1 _ w1 rfl) (hts _ hb1.1) hb1.2.2.1 ⟨hdd, x_room hdd hb1.2.2.2⟩
  rw [hret] at hcn
  refine x_after k C hS hl (va_runIN (As := xst g As) (b := gB g + b) (nL := yL Y) (Ts := gw) ⟨C.1, C.2.1, C.2.2.1, C.2.2.2.1, hts⟩ hR ⟨hcn, hnm, hts _ w2⟩ hpre rfl (by rw [List.length_map]; exact hn) hl.1 ?_ ?_ hd ⟨hce, hsl⟩)
  · show xst g (As.reverse ++ .ref b :: st) = _
    simp [xst, xv]
  · show 2 * 0 + _ ≤ 8
    rw [x_sum]; omega
/-- returns -/
theorem x_iret {v : Int32} (hr : yR Y = some .int) (hd : decode (yC Y) pc = .ok (.ireturn, 1)) (hc : ce ≤ mc) (hsl : sl ≤ ms) (hp : P (some (.int v)) M) : EX g Y d mc ms ce sl pc lv [.int v] M P := by
  intro p e s m args below meth c H locs ls C hP hS hz hl
  refine W.widen hc hsl (W.iret C.1 C.2.1 (C.2.2.2.2.2.1.trans hr) (fun t ht hW => ?_) hS.2.2 hd C.2.2.2.2.2.2.1)
  exact ⟨⟨some (.int v), M, rfl, hp, by rw [ht]; exact hP, by rw [ht]; exact hz⟩, hS.F ht⟩
theorem x_zret {v : Int32} (hr : yR Y = some .boolean) (hd : decode (yC Y) pc = .ok (.ireturn, 1)) (hn : v &&& 1 = v) (hc : ce ≤ mc) (hsl : sl ≤ ms) (hp : P (some (.int v)) M) : EX g Y d mc ms ce sl pc lv [.int v] M P := by
  intro p e s m args below meth c H locs ls C hP hS hz hl
  refine W.widen hc hsl (W.zret C.1 C.2.1 (C.2.2.2.2.2.1.trans hr) (congrArg Value.int hn) (fun t ht hW => ?_) hS.2.2 hd C.2.2.2.2.2.2.1)
  exact ⟨⟨some (.int v), M, rfl, hp, by rw [ht]; exact hP, by rw [ht]; exact hz⟩, hS.F ht⟩
theorem x_vret (hr : yR Y = none) (hd : decode (yC Y) pc = .ok (.return_, 1)) (hc : ce ≤ mc) (hsl : sl ≤ ms) (hp : P none M) : EX g Y d mc ms ce sl pc lv [] M P := by
  intro p e s m args below meth c H locs ls C hP hS hz hl
  refine W.widen hc hsl (W.vret C.1 C.2.1 (C.2.2.2.2.2.1.trans hr) (fun t ht hW => ?_) hS.2.2 hd C.2.2.2.2.2.2.1)
  exact ⟨⟨none, M, rfl, hp, by rw [ht]; exact hP, by rw [ht]; exact hz⟩, hS.F ht⟩
/-- Math.max, Math.min -/
theorem x_max {idx : Nat} {x y : Int32} (hd : decode (yC Y) pc = .ok (.invokestatic idx, 3)) (w1 : Cond.methodLink (yN Y).cls idx Lib.Math.max.name ∈ gw) (w2 : Cond.static Lib.Math.max.name ∈ gw) (w3 : Cond.initialized "java/lang/Math" ∈ gw) (w4 : Cond.code Lib.Math.max.name Lib.Math.max.code 2 (some .int) ∈ gw) (hdd : 1 ≤ d) (hc : ce ≤ mc) (hsl : sl ≤ ms) (hw : (st.map fun v => v.category).sum ≤ 8) (k : EX g Y d mc ms ce sl (pc + 3) lv (.int (if x < y then y else x) :: st) M P) : EX g Y d mc ms ce sl pc lv (.int y :: .int x :: st) M P := by
  intro p e s m args below meth c H locs ls C hP hS hz hl
  have hts := C.2.2.2.2.1
  refine va_mmax C.1 C.2.1 (C.2.2.1.trans hl.1.symm) C.2.2.2.1 (hts _ w1) (hts _ w2) (hts _ w3) (hts _ w4) hdd ?_ hc hsl hd (k p e s m args below meth c H locs ls C hP hS hz hl)
  rw [x_sum]; show _ ≤ 40 * d; omega
theorem x_min {idx : Nat} {x y : Int32} (hd : decode (yC Y) pc = .ok (.invokestatic idx, 3)) (w1 : Cond.methodLink (yN Y).cls idx Lib.Math.min.name ∈ gw) (w2 : Cond.static Lib.Math.min.name ∈ gw) (w3 : Cond.initialized "java/lang/Math" ∈ gw) (w4 : Cond.code Lib.Math.min.name Lib.Math.min.code 2 (some .int) ∈ gw) (hdd : 1 ≤ d) (hc : ce ≤ mc) (hsl : sl ≤ ms) (hw : (st.map fun v => v.category).sum ≤ 8) (k : EX g Y d mc ms ce sl (pc + 3) lv (.int (if y < x then y else x) :: st) M P) : EX g Y d mc ms ce sl pc lv (.int y :: .int x :: st) M P := by
  intro p e s m args below meth c H locs ls C hP hS hz hl
  have hts := C.2.2.2.2.1
  refine va_mmin C.1 C.2.1 (C.2.2.1.trans hl.1.symm) C.2.2.2.1 (hts _ w1) (hts _ w2) (hts _ w3) (hts _ w4) hdd ?_ hc hsl hd (k p e s m args below meth c H locs ls C hP hS hz hl)
  rw [x_sum]; show _ ≤ 40 * d; omega
theorem RT.to {d mc ms : Nat} {av : List Value} (h : RT g Y d mc ms av M P1) (hp : ∀ rv M', P1 rv M' → P rv M') : RT g Y d mc ms av M P := by
  intro p e ha hc hk s m args below h1 h2 h3 h4
  obtain ⟨k, o, a1, a2, a3, ⟨⟨rv, M', e1, e2, e3⟩, e4⟩, a5⟩ := h p e ha hc hk s m args below h1 h2 h3 h4
  exact ⟨k, o, a1, a2, a3, ⟨⟨rv, M', e1, hp _ _ e2, e3⟩, e4⟩, a5⟩
end EXC
end
section
/-! ===== methods, classes and links of the claim, as facts over gw: printed by wip/gen/links.py ===== -/
theorem lw_of1 {w : Cond} (i : Nat) (h : tables_1_1[i]? = some w) : w ∈ lw_tbl := List.mem_append_right _ (List.mem_append_left _ (List.mem_of_getElem? h))
theorem gw_of1 {w : Cond} (i : Nat) (h : tables_1_1[i]? = some w) (hg : goodWord w = true) : w ∈ gw := List.mem_filter.mpr ⟨lw_of1 i h, hg⟩
theorem lw_of2 {w : Cond} (i : Nat) (h : tables_1_2[i]? = some w) : w ∈ lw_tbl := List.mem_append_right _ (List.mem_append_right _ (List.mem_append_left _ (List.mem_of_getElem? h)))
theorem gw_of2 {w : Cond} (i : Nat) (h : tables_1_2[i]? = some w) (hg : goodWord w = true) : w ∈ gw := List.mem_filter.mpr ⟨lw_of2 i h, hg⟩
theorem lw_of3 {w : Cond} (i : Nat) (h : tables_1_3[i]? = some w) : w ∈ lw_tbl := List.mem_append_right _ (List.mem_append_right _ (List.mem_append_right _ (List.mem_append_left _ (List.mem_of_getElem? h))))
theorem gw_of3 {w : Cond} (i : Nat) (h : tables_1_3[i]? = some w) (hg : goodWord w = true) : w ∈ gw := List.mem_filter.mpr ⟨lw_of3 i h, hg⟩
theorem lw_of4 {w : Cond} (i : Nat) (h : tables_1_4[i]? = some w) : w ∈ lw_tbl := List.mem_append_right _ (List.mem_append_right _ (List.mem_append_right _ (List.mem_append_right _ (List.mem_append_left _ (List.mem_of_getElem? h)))))
theorem gw_of4 {w : Cond} (i : Nat) (h : tables_1_4[i]? = some w) (hg : goodWord w = true) : w ∈ gw := List.mem_filter.mpr ⟨lw_of4 i h, hg⟩
theorem lw_of5 {w : Cond} (i : Nat) (h : tables_1_5[i]? = some w) : w ∈ lw_tbl := List.mem_append_right _ (List.mem_append_right _ (List.mem_append_right _ (List.mem_append_right _ (List.mem_append_right _ (List.mem_append_left _ (List.mem_of_getElem? h))))))
theorem gw_of5 {w : Cond} (i : Nat) (h : tables_1_5[i]? = some w) (hg : goodWord w = true) : w ∈ gw := List.mem_filter.mpr ⟨lw_of5 i h, hg⟩
theorem lw_of6 {w : Cond} (i : Nat) (h : tables_1_6[i]? = some w) : w ∈ lw_tbl := List.mem_append_right _ (List.mem_append_right _ (List.mem_append_right _ (List.mem_append_right _ (List.mem_append_right _ (List.mem_append_right _ (List.mem_append_left _ (List.mem_of_getElem? h)))))))
theorem gw_of6 {w : Cond} (i : Nat) (h : tables_1_6[i]? = some w) (hg : goodWord w = true) : w ∈ gw := List.mem_filter.mpr ⟨lw_of6 i h, hg⟩
theorem lw_of7 {w : Cond} (i : Nat) (h : tables_1_7[i]? = some w) : w ∈ lw_tbl := List.mem_append_right _ (List.mem_append_right _ (List.mem_append_right _ (List.mem_append_right _ (List.mem_append_right _ (List.mem_append_right _ (List.mem_append_right _ (List.mem_append_left _ (List.mem_of_getElem? h))))))))
theorem gw_of7 {w : Cond} (i : Nat) (h : tables_1_7[i]? = some w) (hg : goodWord w = true) : w ∈ gw := List.mem_filter.mpr ⟨lw_of7 i h, hg⟩
theorem lw_of8 {w : Cond} (i : Nat) (h : tables_1_8[i]? = some w) : w ∈ lw_tbl := List.mem_append_right _ (List.mem_append_right _ (List.mem_append_right _ (List.mem_append_right _ (List.mem_append_right _ (List.mem_append_right _ (List.mem_append_right _ (List.mem_append_right _ ((List.mem_of_getElem? h)))))))))
theorem gw_of8 {w : Cond} (i : Nat) (h : tables_1_8[i]? = some w) (hg : goodWord w = true) : w ∈ gw := List.mem_filter.mpr ⟨lw_of8 i h, hg⟩
theorem gk_oi1 : Cond.instanceMethod objectInit ∈ gw := gw_of1 30 rfl rfl
theorem gk_oi2 : Cond.code objectInit ⟨#[0xb1]⟩ 1 none ∈ gw := gw_of1 31 rfl rfl
theorem clX0 : ∀ w ∈ u_ws RX0 TX0 10, w ∈ gw := by
  intro w hw
  obtain ⟨k, hk, rfl⟩ := List.mem_map.mp hw
  have hk := List.mem_range.mp hk
  match k, hk with
  | 0, _ => exact gw_of1 83 rfl rfl
  | 1, _ => exact gw_of1 85 rfl rfl
  | 2, _ => exact gw_of1 87 rfl rfl
  | 3, _ => exact gw_of1 89 rfl rfl
  | 4, _ => exact gw_of1 91 rfl rfl
  | 5, _ => exact gw_of1 93 rfl rfl
  | 6, _ => exact gw_of1 95 rfl rfl
  | 7, _ => exact gw_of1 97 rfl rfl
  | 8, _ => exact gw_of1 99 rfl rfl
  | 9, _ => exact gw_of1 101 rfl rfl
  | k + 10, hk => exact absurd hk (by omega)
theorem clX1 : ∀ w ∈ u_ws RX1 TX1 1, w ∈ gw := by
  intro w hw
  obtain ⟨k, hk, rfl⟩ := List.mem_map.mp hw
  have hk := List.mem_range.mp hk
  match k, hk with
  | 0, _ => exact gw_of2 117 rfl rfl
  | k + 1, hk => exact absurd hk (by omega)
theorem clX2 : ∀ w ∈ u_ws RX2 TX2 4, w ∈ gw := by
  intro w hw
  obtain ⟨k, hk, rfl⟩ := List.mem_map.mp hw
  have hk := List.mem_range.mp hk
  match k, hk with
  | 0, _ => exact gw_of1 50 rfl rfl
  | 1, _ => exact gw_of1 52 rfl rfl
  | 2, _ => exact gw_of1 54 rfl rfl
  | 3, _ => exact gw_of1 56 rfl rfl
  | k + 4, hk => exact absurd hk (by omega)
theorem clX3 : ∀ w ∈ u_ws RX3 TX3 4, w ∈ gw := by
  intro w hw
  obtain ⟨k, hk, rfl⟩ := List.mem_map.mp hw
  have hk := List.mem_range.mp hk
  match k, hk with
  | 0, _ => exact gw_of2 83 rfl rfl
  | 1, _ => exact gw_of2 85 rfl rfl
  | 2, _ => exact gw_of2 87 rfl rfl
  | 3, _ => exact gw_of2 89 rfl rfl
  | k + 4, hk => exact absurd hk (by omega)
theorem clX4 : ∀ w ∈ u_ws RX4 TX4 3, w ∈ gw := by
  intro w hw
  obtain ⟨k, hk, rfl⟩ := List.mem_map.mp hw
  have hk := List.mem_range.mp hk
  match k, hk with
  | 0, _ => exact gw_of2 40 rfl rfl
  | 1, _ => exact gw_of2 42 rfl rfl
  | 2, _ => exact gw_of2 44 rfl rfl
  | k + 3, hk => exact absurd hk (by omega)
theorem clX5 : ∀ w ∈ u_ws RX5 TX5 5, w ∈ gw := by
  intro w hw
  obtain ⟨k, hk, rfl⟩ := List.mem_map.mp hw
  have hk := List.mem_range.mp hk
  match k, hk with
  | 0, _ => exact gw_of1 230 rfl rfl
  | 1, _ => exact gw_of1 232 rfl rfl
  | 2, _ => exact gw_of1 234 rfl rfl
  | 3, _ => exact gw_of1 236 rfl rfl
  | 4, _ => exact gw_of1 238 rfl rfl
  | k + 5, hk => exact absurd hk (by omega)
theorem clX6 : ∀ w ∈ u_ws RX6 TX6 3, w ∈ gw := by
  intro w hw
  obtain ⟨k, hk, rfl⟩ := List.mem_map.mp hw
  have hk := List.mem_range.mp hk
  match k, hk with
  | 0, _ => exact gw_of2 103 rfl rfl
  | 1, _ => exact gw_of2 105 rfl rfl
  | 2, _ => exact gw_of2 107 rfl rfl
  | k + 3, hk => exact absurd hk (by omega)
theorem clX7 : ∀ w ∈ u_ws RX7 TX7 3, w ∈ gw := by
  intro w hw
  obtain ⟨k, hk, rfl⟩ := List.mem_map.mp hw
  have hk := List.mem_range.mp hk
  match k, hk with
  | 0, _ => exact gw_of1 209 rfl rfl
  | 1, _ => exact gw_of1 211 rfl rfl
  | 2, _ => exact gw_of1 213 rfl rfl
  | k + 3, hk => exact absurd hk (by omega)
theorem clX8 : ∀ w ∈ u_ws RX8 TX8 3, w ∈ gw := by
  intro w hw
  obtain ⟨k, hk, rfl⟩ := List.mem_map.mp hw
  have hk := List.mem_range.mp hk
  match k, hk with
  | 0, _ => exact gw_of2 57 rfl rfl
  | 1, _ => exact gw_of2 59 rfl rfl
  | 2, _ => exact gw_of2 61 rfl rfl
  | k + 3, hk => exact absurd hk (by omega)
theorem clX9 : ∀ w ∈ u_ws RX9 TX9 10, w ∈ gw := by
  intro w hw
  obtain ⟨k, hk, rfl⟩ := List.mem_map.mp hw
  have hk := List.mem_range.mp hk
  match k, hk with
  | 0, _ => exact gw_of1 177 rfl rfl
  | 1, _ => exact gw_of1 179 rfl rfl
  | 2, _ => exact gw_of1 181 rfl rfl
  | 3, _ => exact gw_of1 183 rfl rfl
  | 4, _ => exact gw_of1 185 rfl rfl
  | 5, _ => exact gw_of1 187 rfl rfl
  | 6, _ => exact gw_of1 189 rfl rfl
  | 7, _ => exact gw_of1 191 rfl rfl
  | 8, _ => exact gw_of1 193 rfl rfl
  | 9, _ => exact gw_of1 195 rfl rfl
  | k + 10, hk => exact absurd hk (by omega)
theorem clX10 : ∀ w ∈ u_ws RX10 TX10 5, w ∈ gw := by
  intro w hw
  obtain ⟨k, hk, rfl⟩ := List.mem_map.mp hw
  have hk := List.mem_range.mp hk
  match k, hk with
  | 0, _ => exact gw_of2 16 rfl rfl
  | 1, _ => exact gw_of2 18 rfl rfl
  | 2, _ => exact gw_of2 20 rfl rfl
  | 3, _ => exact gw_of2 22 rfl rfl
  | 4, _ => exact gw_of2 24 rfl rfl
  | k + 5, hk => exact absurd hk (by omega)
theorem clX11 : ∀ w ∈ u_ws RX11 TX11 14, w ∈ gw := by
  intro w hw
  obtain ⟨k, hk, rfl⟩ := List.mem_map.mp hw
  have hk := List.mem_range.mp hk
  match k, hk with
  | 0, _ => exact gw_of2 134 rfl rfl
  | 1, _ => exact gw_of2 136 rfl rfl
  | 2, _ => exact gw_of2 138 rfl rfl
  | 3, _ => exact gw_of2 140 rfl rfl
  | 4, _ => exact gw_of2 142 rfl rfl
  | 5, _ => exact gw_of2 144 rfl rfl
  | 6, _ => exact gw_of2 146 rfl rfl
  | 7, _ => exact gw_of2 148 rfl rfl
  | 8, _ => exact gw_of2 150 rfl rfl
  | 9, _ => exact gw_of2 152 rfl rfl
  | 10, _ => exact gw_of2 154 rfl rfl
  | 11, _ => exact gw_of2 156 rfl rfl
  | 12, _ => exact gw_of2 158 rfl rfl
  | 13, _ => exact gw_of2 160 rfl rfl
  | k + 14, hk => exact absurd hk (by omega)
theorem clX12 : ∀ w ∈ u_ws RX12 TX12 58, w ∈ gw := by
  intro w hw
  obtain ⟨k, hk, rfl⟩ := List.mem_map.mp hw
  have hk := List.mem_range.mp hk
  match k, hk with
  | 0, _ => exact gw_of5 178 rfl rfl
  | 1, _ => exact gw_of5 180 rfl rfl
  | 2, _ => exact gw_of5 182 rfl rfl
  | 3, _ => exact gw_of5 184 rfl rfl
  | 4, _ => exact gw_of5 186 rfl rfl
  | 5, _ => exact gw_of5 188 rfl rfl
  | 6, _ => exact gw_of5 190 rfl rfl
  | 7, _ => exact gw_of5 192 rfl rfl
  | 8, _ => exact gw_of5 194 rfl rfl
  | 9, _ => exact gw_of5 196 rfl rfl
  | 10, _ => exact gw_of5 198 rfl rfl
  | 11, _ => exact gw_of5 200 rfl rfl
  | 12, _ => exact gw_of5 202 rfl rfl
  | 13, _ => exact gw_of5 204 rfl rfl
  | 14, _ => exact gw_of5 206 rfl rfl
  | 15, _ => exact gw_of5 208 rfl rfl
  | 16, _ => exact gw_of5 210 rfl rfl
  | 17, _ => exact gw_of5 212 rfl rfl
  | 18, _ => exact gw_of5 214 rfl rfl
  | 19, _ => exact gw_of5 216 rfl rfl
  | 20, _ => exact gw_of5 218 rfl rfl
  | 21, _ => exact gw_of5 220 rfl rfl
  | 22, _ => exact gw_of5 222 rfl rfl
  | 23, _ => exact gw_of5 224 rfl rfl
  | 24, _ => exact gw_of5 226 rfl rfl
  | 25, _ => exact gw_of5 228 rfl rfl
  | 26, _ => exact gw_of5 230 rfl rfl
  | 27, _ => exact gw_of5 232 rfl rfl
  | 28, _ => exact gw_of5 234 rfl rfl
  | 29, _ => exact gw_of5 236 rfl rfl
  | 30, _ => exact gw_of5 238 rfl rfl
  | 31, _ => exact gw_of6 0 rfl rfl
  | 32, _ => exact gw_of6 2 rfl rfl
  | 33, _ => exact gw_of6 4 rfl rfl
  | 34, _ => exact gw_of6 6 rfl rfl
  | 35, _ => exact gw_of6 8 rfl rfl
  | 36, _ => exact gw_of6 10 rfl rfl
  | 37, _ => exact gw_of6 12 rfl rfl
  | 38, _ => exact gw_of6 14 rfl rfl
  | 39, _ => exact gw_of6 16 rfl rfl
  | 40, _ => exact gw_of6 18 rfl rfl
  | 41, _ => exact gw_of6 20 rfl rfl
  | 42, _ => exact gw_of6 22 rfl rfl
  | 43, _ => exact gw_of6 24 rfl rfl
  | 44, _ => exact gw_of6 26 rfl rfl
  | 45, _ => exact gw_of6 28 rfl rfl
  | 46, _ => exact gw_of6 30 rfl rfl
  | 47, _ => exact gw_of6 32 rfl rfl
  | 48, _ => exact gw_of6 34 rfl rfl
  | 49, _ => exact gw_of6 36 rfl rfl
  | 50, _ => exact gw_of6 38 rfl rfl
  | 51, _ => exact gw_of6 40 rfl rfl
  | 52, _ => exact gw_of6 42 rfl rfl
  | 53, _ => exact gw_of6 44 rfl rfl
  | 54, _ => exact gw_of6 46 rfl rfl
  | 55, _ => exact gw_of6 48 rfl rfl
  | 56, _ => exact gw_of6 50 rfl rfl
  | 57, _ => exact gw_of6 52 rfl rfl
  | k + 58, hk => exact absurd hk (by omega)
theorem gk_ar_long : Cond.arrayClass .long ∈ gw := gw_of1 59 rfl rfl
theorem gk_ar_int : Cond.arrayClass .int ∈ gw := gw_of1 60 rfl rfl
theorem gk_ar_char : Cond.arrayClass .char ∈ gw := gw_of1 198 rfl rfl
theorem gk_ar_boolean : Cond.arrayClass .boolean ∈ gw := gw_of2 64 rfl rfl
theorem gk_ao_RX3 : Cond.arrayOver (.object RX3) ∈ lw_tbl := lw_of2 66 rfl
theorem gk_ao_RX10 : Cond.arrayOver (.object RX10) ∈ lw_tbl := lw_of2 34 rfl
def YX0_init : YY := (yX0_init, cX0_init, 1, none, 0)
theorem cbX0_init : CB YX0_init := ⟨gw_of1 2 rfl rfl, gw_of1 36 rfl rfl, by decide +kernel, by decide⟩
def YX0_clear : YY := (yX0_clear, cX0_clear, 1, none, 0)
theorem cbX0_clear : CB YX0_clear := ⟨gw_of1 2 rfl rfl, gw_of2 212 rfl rfl, by decide +kernel, by decide⟩
def YX0_addShot : YY := (yX0_addShot, cX0_addShot, 5, none, 3)
theorem cbX0_addShot : CB YX0_addShot := ⟨gw_of1 2 rfl rfl, gw_of3 17 rfl rfl, by decide +kernel, by decide⟩
def YX0_addNeed : YY := (yX0_addNeed, cX0_addNeed, 3, none, 2)
theorem cbX0_addNeed : CB YX0_addNeed := ⟨gw_of1 2 rfl rfl, gw_of3 37 rfl rfl, by decide +kernel, by decide⟩
def YX0_addHall : YY := (yX0_addHall, cX0_addHall, 4, none, 2)
theorem cbX0_addHall : CB YX0_addHall := ⟨gw_of1 2 rfl rfl, gw_of3 77 rfl rfl, by decide +kernel, by decide⟩
def YX0_isShot : YY := (yX0_isShot, cX0_isShot, 2, (some .boolean), 1)
theorem cbX0_isShot : CB YX0_isShot := ⟨gw_of1 2 rfl rfl, gw_of3 33 rfl rfl, by decide +kernel, by decide⟩
def YX0_isHall : YY := (yX0_isHall, cX0_isHall, 2, (some .boolean), 1)
theorem cbX0_isHall : CB YX0_isHall := ⟨gw_of1 2 rfl rfl, gw_of3 93 rfl rfl, by decide +kernel, by decide⟩
def YX0_isNeeded : YY := (yX0_isNeeded, cX0_isNeeded, 3, (some .boolean), 2)
theorem cbX0_isNeeded : CB YX0_isNeeded := ⟨gw_of1 2 rfl rfl, gw_of3 29 rfl rfl, by decide +kernel, by decide⟩
def YX0_shotNamed : YY := (yX0_shotNamed, cX0_shotNamed, 4, (some .int), 1)
theorem cbX0_shotNamed : CB YX0_shotNamed := ⟨gw_of1 2 rfl rfl, gw_of2 233 rfl rfl, by decide +kernel, by decide⟩
def YX0_hallNamed : YY := (yX0_hallNamed, cX0_hallNamed, 4, (some .int), 1)
theorem cbX0_hallNamed : CB YX0_hallNamed := ⟨gw_of1 2 rfl rfl, gw_of2 237 rfl rfl, by decide +kernel, by decide⟩
def YX0_film : YY := (yX0_film, cX0_film, 1, (some .int), 0)
theorem cbX0_film : CB YX0_film := ⟨gw_of1 2 rfl rfl, gw_of3 108 rfl rfl, by decide +kernel, by decide⟩
def YX0_minutesOf : YY := (yX0_minutesOf, cX0_minutesOf, 4, (some .int), 1)
theorem cbX0_minutesOf : CB YX0_minutesOf := ⟨gw_of1 2 rfl rfl, gw_of3 204 rfl rfl, by decide +kernel, by decide⟩
def YX0_isLonger : YY := (yX0_isLonger, cX0_isLonger, 4, (some .boolean), 2)
theorem cbX0_isLonger : CB YX0_isLonger := ⟨gw_of1 2 rfl rfl, gw_of4 153 rfl rfl, by decide +kernel, by decide⟩
def YX0_shotAt : YY := (yX0_shotAt, cX0_shotAt, 5, (some .int), 2)
theorem cbX0_shotAt : CB YX0_shotAt := ⟨gw_of1 2 rfl rfl, gw_of4 56 rfl rfl, by decide +kernel, by decide⟩
def YX0_makesSense : YY := (yX0_makesSense, cX0_makesSense, 4, (some .boolean), 1)
theorem cbX0_makesSense : CB YX0_makesSense := ⟨gw_of1 2 rfl rfl, gw_of4 36 rfl rfl, by decide +kernel, by decide⟩
def YX0_allNeeds : YY := (yX0_allNeeds, cX0_allNeeds, 5, (some .int), 1)
theorem cbX0_allNeeds : CB YX0_allNeeds := ⟨gw_of1 2 rfl rfl, gw_of4 85 rfl rfl, by decide +kernel, by decide⟩
def YX0_shotsOfSort : YY := (yX0_shotsOfSort, cX0_shotsOfSort, 4, (some .int), 1)
theorem cbX0_shotsOfSort : CB YX0_shotsOfSort := ⟨gw_of1 2 rfl rfl, gw_of4 93 rfl rfl, by decide +kernel, by decide⟩
def YX0_unlikeFrom : YY := (yX0_unlikeFrom, cX0_unlikeFrom, 6, (some .int), 2)
theorem cbX0_unlikeFrom : CB YX0_unlikeFrom := ⟨gw_of1 2 rfl rfl, gw_of4 101 rfl rfl, by decide +kernel, by decide⟩
def YX0_takenOut : YY := (yX0_takenOut, cX0_takenOut, 4, (some .int), 2)
theorem cbX0_takenOut : CB YX0_takenOut := ⟨gw_of1 2 rfl rfl, gw_of3 163 rfl rfl, by decide +kernel, by decide⟩
def YX0_hatedIn : YY := (yX0_hatedIn, cX0_hatedIn, 8, (some .int), 2)
theorem cbX0_hatedIn : CB YX0_hatedIn := ⟨gw_of1 2 rfl rfl, gw_of3 167 rfl rfl, by decide +kernel, by decide⟩
def YX0_judgeAll : YY := (yX0_judgeAll, cX0_judgeAll, 5, none, 0)
theorem cbX0_judgeAll : CB YX0_judgeAll := ⟨gw_of1 2 rfl rfl, gw_of3 81 rfl rfl, by decide +kernel, by decide⟩
def YX0_judge : YY := (yX0_judge, cX0_judge, 7, none, 4)
theorem cbX0_judge : CB YX0_judge := ⟨gw_of1 2 rfl rfl, gw_of3 85 rfl rfl, by decide +kernel, by decide⟩
def YX0_keyOf : YY := (yX0_keyOf, cX0_keyOf, 5, (some .int), 3)
theorem cbX0_keyOf : CB YX0_keyOf := ⟨gw_of1 2 rfl rfl, gw_of3 89 rfl rfl, by decide +kernel, by decide⟩
def YX0_lastOf : YY := (yX0_lastOf, cX0_lastOf, 4, (some .int), 1)
theorem cbX0_lastOf : CB YX0_lastOf := ⟨gw_of1 2 rfl rfl, gw_of3 175 rfl rfl, by decide +kernel, by decide⟩
def YX0_behind : YY := (yX0_behind, cX0_behind, 6, (some .int), 2)
theorem cbX0_behind : CB YX0_behind := ⟨gw_of1 2 rfl rfl, gw_of3 171 rfl rfl, by decide +kernel, by decide⟩
def YX1_init : YY := (yX1_init, cX1_init, 1, none, 0)
theorem cbX1_init : CB YX1_init := ⟨gw_of1 16 rfl rfl, gw_of2 114 rfl rfl, by decide +kernel, by decide⟩
def YX1_begin : YY := (yX1_begin, cX1_begin, 2, none, 1)
theorem cbX1_begin : CB YX1_begin := ⟨gw_of1 16 rfl rfl, gw_of4 212 rfl rfl, by decide +kernel, by decide⟩
def YX1_below : YY := (yX1_below, cX1_below, 2, (some .int), 1)
theorem cbX1_below : CB YX1_below := ⟨gw_of1 16 rfl rfl, gw_of4 216 rfl rfl, by decide +kernel, by decide⟩
def YX2_init : YY := (yX2_init, cX2_init, 1, none, 0)
theorem cbX2_init : CB YX2_init := ⟨gw_of1 3 rfl rfl, gw_of1 42 rfl rfl, by decide +kernel, by decide⟩
def YX2_add : YY := (yX2_add, cX2_add, 2, none, 1)
theorem cbX2_add : CB YX2_add := ⟨gw_of1 3 rfl rfl, gw_of3 65 rfl rfl, by decide +kernel, by decide⟩
def YX2_valueFor : YY := (yX2_valueFor, cX2_valueFor, 9, (some .int), 5)
theorem cbX2_valueFor : CB YX2_valueFor := ⟨gw_of1 3 rfl rfl, gw_of3 97 rfl rfl, by decide +kernel, by decide⟩
def YX2_join : YY := (yX2_join, cX2_join, 3, (some .int), 3)
theorem cbX2_join : CB YX2_join := ⟨gw_of1 3 rfl rfl, gw_of3 100 rfl rfl, by decide +kernel, by decide⟩
def YX3_init : YY := (yX3_init, cX3_init, 1, none, 0)
theorem cbX3_init : CB YX3_init := ⟨gw_of1 14 rfl rfl, gw_of2 70 rfl rfl, by decide +kernel, by decide⟩
def YX3_lay : YY := (yX3_lay, cX3_lay, 4, none, 3)
theorem cbX3_lay : CB YX3_lay := ⟨gw_of1 14 rfl rfl, gw_of4 233 rfl rfl, by decide +kernel, by decide⟩
def YX3_goBack : YY := (yX3_goBack, cX3_goBack, 4, none, 3)
theorem cbX3_goBack : CB YX3_goBack := ⟨gw_of1 14 rfl rfl, gw_of5 6 rfl rfl, by decide +kernel, by decide⟩
def YX4_init : YY := (yX4_init, cX4_init, 2, none, 0)
theorem cbX4_init : CB YX4_init := ⟨gw_of1 12 rfl rfl, gw_of2 31 rfl rfl, by decide +kernel, by decide⟩
def YX4_keep : YY := (yX4_keep, cX4_keep, 2, none, 1)
theorem cbX4_keep : CB YX4_keep := ⟨gw_of1 12 rfl rfl, gw_of3 183 rfl rfl, by decide +kernel, by decide⟩
def YX4_takeBack : YY := (yX4_takeBack, cX4_takeBack, 3, (some .boolean), 1)
theorem cbX4_takeBack : CB YX4_takeBack := ⟨gw_of1 12 rfl rfl, gw_of4 15 rfl rfl, by decide +kernel, by decide⟩
def YX4_forget : YY := (yX4_forget, cX4_forget, 1, none, 0)
theorem cbX4_forget : CB YX4_forget := ⟨gw_of1 12 rfl rfl, gw_of3 120 rfl rfl, by decide +kernel, by decide⟩
def YX5_init : YY := (yX5_init, cX5_init, 1, none, 0)
theorem cbX5_init : CB YX5_init := ⟨gw_of1 10 rfl rfl, gw_of1 220 rfl rfl, by decide +kernel, by decide⟩
def YX5_clear : YY := (yX5_clear, cX5_clear, 1, none, 0)
theorem cbX5_clear : CB YX5_clear := ⟨gw_of1 10 rfl rfl, gw_of3 116 rfl rfl, by decide +kernel, by decide⟩
def YX5_add : YY := (yX5_add, cX5_add, 5, none, 4)
theorem cbX5_add : CB YX5_add := ⟨gw_of1 10 rfl rfl, gw_of3 141 rfl rfl, by decide +kernel, by decide⟩
def YX5_copy : YY := (yX5_copy, cX5_copy, 3, none, 1)
theorem cbX5_copy : CB YX5_copy := ⟨gw_of1 10 rfl rfl, gw_of4 238 rfl rfl, by decide +kernel, by decide⟩
def YX5_isPossible : YY := (yX5_isPossible, cX5_isPossible, 4, (some .boolean), 3)
theorem cbX5_isPossible : CB YX5_isPossible := ⟨gw_of1 10 rfl rfl, gw_of4 23 rfl rfl, by decide +kernel, by decide⟩
def YX5_follow : YY := (yX5_follow, cX5_follow, 4, none, 3)
theorem cbX5_follow : CB YX5_follow := ⟨gw_of1 10 rfl rfl, gw_of4 28 rfl rfl, by decide +kernel, by decide⟩
def YX6_init : YY := (yX6_init, cX6_init, 1, none, 0)
theorem cbX6_init : CB YX6_init := ⟨gw_of1 15 rfl rfl, gw_of2 96 rfl rfl, by decide +kernel, by decide⟩
def YX6_find : YY := (yX6_find, cX6_find, 4, none, 3)
theorem cbX6_find : CB YX6_find := ⟨gw_of1 15 rfl rfl, gw_of4 118 rfl rfl, by decide +kernel, by decide⟩
def YX6_search : YY := (yX6_search, cX6_search, 8, none, 5)
theorem cbX6_search : CB YX6_search := ⟨gw_of1 15 rfl rfl, gw_of4 122 rfl rfl, by decide +kernel, by decide⟩
def YX6_keepPath : YY := (yX6_keepPath, cX6_keepPath, 2, none, 0)
theorem cbX6_keepPath : CB YX6_keepPath := ⟨gw_of1 15 rfl rfl, gw_of4 126 rfl rfl, by decide +kernel, by decide⟩
def YX7_init : YY := (yX7_init, cX7_init, 3, none, 2)
theorem cbX7_init : CB YX7_init := ⟨gw_of1 9 rfl rfl, gw_of1 204 rfl rfl, by decide +kernel, by decide⟩
def YX7_readCounty : YY := (yX7_readCounty, cX7_readCounty, 4, (some .int), 1)
theorem cbX7_readCounty : CB YX7_readCounty := ⟨gw_of1 9 rfl rfl, gw_of2 178 rfl rfl, by decide +kernel, by decide⟩
def YX7_readPlan : YY := (yX7_readPlan, cX7_readPlan, 5, (some .int), 2)
theorem cbX7_readPlan : CB YX7_readPlan := ⟨gw_of1 9 rfl rfl, gw_of3 128 rfl rfl, by decide +kernel, by decide⟩
def YX7_begin : YY := (yX7_begin, cX7_begin, 2, none, 1)
theorem cbX7_begin : CB YX7_begin := ⟨gw_of1 9 rfl rfl, gw_of2 182 rfl rfl, by decide +kernel, by decide⟩
def YX7_fail : YY := (yX7_fail, cX7_fail, 2, (some .boolean), 1)
theorem cbX7_fail : CB YX7_fail := ⟨gw_of1 9 rfl rfl, gw_of2 220 rfl rfl, by decide +kernel, by decide⟩
def YX7_readShot : YY := (yX7_readShot, cX7_readShot, 5, (some .boolean), 0)
theorem cbX7_readShot : CB YX7_readShot := ⟨gw_of1 9 rfl rfl, gw_of2 216 rfl rfl, by decide +kernel, by decide⟩
def YX7_readNeeds : YY := (yX7_readNeeds, cX7_readNeeds, 3, (some .boolean), 0)
theorem cbX7_readNeeds : CB YX7_readNeeds := ⟨gw_of1 9 rfl rfl, gw_of3 21 rfl rfl, by decide +kernel, by decide⟩
def YX7_readHall : YY := (yX7_readHall, cX7_readHall, 4, (some .boolean), 0)
theorem cbX7_readHall : CB YX7_readHall := ⟨gw_of1 9 rfl rfl, gw_of3 41 rfl rfl, by decide +kernel, by decide⟩
def YX7_readPlanLine : YY := (yX7_readPlanLine, cX7_readPlanLine, 4, (some .boolean), 1)
theorem cbX7_readPlanLine : CB YX7_readPlanLine := ⟨gw_of1 9 rfl rfl, gw_of3 133 rfl rfl, by decide +kernel, by decide⟩
def YX7_readBare : YY := (yX7_readBare, cX7_readBare, 3, (some .boolean), 2)
theorem cbX7_readBare : CB YX7_readBare := ⟨gw_of1 9 rfl rfl, gw_of3 145 rfl rfl, by decide +kernel, by decide⟩
def YX7_readHandling : YY := (yX7_readHandling, cX7_readHandling, 6, (some .boolean), 2)
theorem cbX7_readHandling : CB YX7_readHandling := ⟨gw_of1 9 rfl rfl, gw_of3 137 rfl rfl, by decide +kernel, by decide⟩
def YX7_isName : YY := (yX7_isName, cX7_isName, 1, (some .boolean), 0)
theorem cbX7_isName : CB YX7_isName := ⟨gw_of1 9 rfl rfl, gw_of2 229 rfl rfl, by decide +kernel, by decide⟩
def YX7_takeNewName : YY := (yX7_takeNewName, cX7_takeNewName, 1, (some .boolean), 0)
theorem cbX7_takeNewName : CB YX7_takeNewName := ⟨gw_of1 9 rfl rfl, gw_of2 225 rfl rfl, by decide +kernel, by decide⟩
def YX7_takeTold : YY := (yX7_takeTold, cX7_takeTold, 2, (some .boolean), 1)
theorem cbX7_takeTold : CB YX7_takeTold := ⟨gw_of1 9 rfl rfl, gw_of3 25 rfl rfl, by decide +kernel, by decide⟩
def YX7_takeKeyword : YY := (yX7_takeKeyword, cX7_takeKeyword, 2, (some .boolean), 1)
theorem cbX7_takeKeyword : CB YX7_takeKeyword := ⟨gw_of1 9 rfl rfl, gw_of3 1 rfl rfl, by decide +kernel, by decide⟩
def YX7_takeNumber : YY := (yX7_takeNumber, cX7_takeNumber, 3, (some .boolean), 2)
theorem cbX7_takeNumber : CB YX7_takeNumber := ⟨gw_of1 9 rfl rfl, gw_of3 5 rfl rfl, by decide +kernel, by decide⟩
def YX7_takeSemicolon : YY := (yX7_takeSemicolon, cX7_takeSemicolon, 1, (some .boolean), 0)
theorem cbX7_takeSemicolon : CB YX7_takeSemicolon := ⟨gw_of1 9 rfl rfl, gw_of3 9 rfl rfl, by decide +kernel, by decide⟩
def YX7_readExpression : YY := (yX7_readExpression, cX7_readExpression, 4, (some .boolean), 1)
theorem cbX7_readExpression : CB YX7_readExpression := ⟨gw_of1 9 rfl rfl, gw_of3 45 rfl rfl, by decide +kernel, by decide⟩
def YX7_readTest : YY := (yX7_readTest, cX7_readTest, 3, (some .boolean), 1)
theorem cbX7_readTest : CB YX7_readTest := ⟨gw_of1 9 rfl rfl, gw_of3 49 rfl rfl, by decide +kernel, by decide⟩
def YX7_readSum : YY := (yX7_readSum, cX7_readSum, 4, (some .boolean), 1)
theorem cbX7_readSum : CB YX7_readSum := ⟨gw_of1 9 rfl rfl, gw_of3 53 rfl rfl, by decide +kernel, by decide⟩
def YX7_readProduct : YY := (yX7_readProduct, cX7_readProduct, 3, (some .boolean), 1)
theorem cbX7_readProduct : CB YX7_readProduct := ⟨gw_of1 9 rfl rfl, gw_of3 57 rfl rfl, by decide +kernel, by decide⟩
def YX7_readPart : YY := (yX7_readPart, cX7_readPart, 6, (some .boolean), 1)
theorem cbX7_readPart : CB YX7_readPart := ⟨gw_of1 9 rfl rfl, gw_of3 61 rfl rfl, by decide +kernel, by decide⟩
def YX7_readBracketed : YY := (yX7_readBracketed, cX7_readBracketed, 2, (some .boolean), 1)
theorem cbX7_readBracketed : CB YX7_readBracketed := ⟨gw_of1 9 rfl rfl, gw_of3 69 rfl rfl, by decide +kernel, by decide⟩
def YX7_readNegated : YY := (yX7_readNegated, cX7_readNegated, 2, (some .boolean), 1)
theorem cbX7_readNegated : CB YX7_readNegated := ⟨gw_of1 9 rfl rfl, gw_of3 73 rfl rfl, by decide +kernel, by decide⟩
def YX8_init : YY := (yX8_init, cX8_init, 1, none, 0)
theorem cbX8_init : CB YX8_init := ⟨gw_of1 13 rfl rfl, gw_of2 51 rfl rfl, by decide +kernel, by decide⟩
def YX8_add : YY := (yX8_add, cX8_add, 3, (some .boolean), 2)
theorem cbX8_add : CB YX8_add := ⟨gw_of1 13 rfl rfl, gw_of4 183 rfl rfl, by decide +kernel, by decide⟩
def YX8_copy : YY := (yX8_copy, cX8_copy, 3, none, 1)
theorem cbX8_copy : CB YX8_copy := ⟨gw_of1 13 rfl rfl, gw_of5 2 rfl rfl, by decide +kernel, by decide⟩
def YX8_fit : YY := (yX8_fit, cX8_fit, 3, (some .boolean), 1)
theorem cbX8_fit : CB YX8_fit := ⟨gw_of1 13 rfl rfl, gw_of4 191 rfl rfl, by decide +kernel, by decide⟩
def YX9_init : YY := (yX9_init, cX9_init, 4, none, 0)
theorem cbX9_init : CB YX9_init := ⟨gw_of1 4 rfl rfl, gw_of1 108 rfl rfl, by decide +kernel, by decide⟩
def YX9_addBytes : YY := (yX9_addBytes, cX9_addBytes, 6, none, 1)
theorem cbX9_addBytes : CB YX9_addBytes := ⟨gw_of1 4 rfl rfl, gw_of2 170 rfl rfl, by decide +kernel, by decide⟩
def YX9_start : YY := (yX9_start, cX9_start, 1, none, 0)
theorem cbX9_start : CB YX9_start := ⟨gw_of1 4 rfl rfl, gw_of2 186 rfl rfl, by decide +kernel, by decide⟩
def YX9_advance : YY := (yX9_advance, cX9_advance, 1, none, 0)
theorem cbX9_advance : CB YX9_advance := ⟨gw_of1 4 rfl rfl, gw_of2 190 rfl rfl, by decide +kernel, by decide⟩
def YX9_takeWord : YY := (yX9_takeWord, cX9_takeWord, 2, none, 0)
theorem cbX9_takeWord : CB YX9_takeWord := ⟨gw_of1 4 rfl rfl, gw_of2 197 rfl rfl, by decide +kernel, by decide⟩
def YX9_takeNumber : YY := (yX9_takeNumber, cX9_takeNumber, 1, none, 0)
theorem cbX9_takeNumber : CB YX9_takeNumber := ⟨gw_of1 4 rfl rfl, gw_of2 204 rfl rfl, by decide +kernel, by decide⟩
def YX9_takeSign : YY := (yX9_takeSign, cX9_takeSign, 1, none, 0)
theorem cbX9_takeSign : CB YX9_takeSign := ⟨gw_of1 4 rfl rfl, gw_of2 208 rfl rfl, by decide +kernel, by decide⟩
def YX9_isSign : YY := (yX9_isSign, cX9_isSign, 2, (some .boolean), 1)
theorem cbX9_isSign : CB YX9_isSign := ⟨gw_of1 4 rfl rfl, gw_of3 13 rfl rfl, by decide +kernel, by decide⟩
def YX9_isLetter : YY := (yX9_isLetter, cX9_isLetter, 1, (some .boolean), 1)
theorem cbX9_isLetter : CB YX9_isLetter := ⟨gw_of1 4 rfl rfl, gw_of2 193 rfl rfl, by decide +kernel, by decide⟩
def YX9_isDigit : YY := (yX9_isDigit, cX9_isDigit, 1, (some .boolean), 1)
theorem cbX9_isDigit : CB YX9_isDigit := ⟨gw_of1 4 rfl rfl, gw_of2 200 rfl rfl, by decide +kernel, by decide⟩
def YX10_init : YY := (yX10_init, cX10_init, 1, none, 0)
theorem cbX10_init : CB YX10_init := ⟨gw_of1 11 rfl rfl, gw_of2 5 rfl rfl, by decide +kernel, by decide⟩
def YX10_begin : YY := (yX10_begin, cX10_begin, 3, none, 1)
theorem cbX10_begin : CB YX10_begin := ⟨gw_of1 11 rfl rfl, gw_of3 112 rfl rfl, by decide +kernel, by decide⟩
def YX10_copy : YY := (yX10_copy, cX10_copy, 3, none, 1)
theorem cbX10_copy : CB YX10_copy := ⟨gw_of1 11 rfl rfl, gw_of3 187 rfl rfl, by decide +kernel, by decide⟩
def YX10_swapPlace : YY := (yX10_swapPlace, cX10_swapPlace, 3, (some .int), 2)
theorem cbX10_swapPlace : CB YX10_swapPlace := ⟨gw_of1 11 rfl rfl, gw_of3 159 rfl rfl, by decide +kernel, by decide⟩
def YX10_drawn : YY := (yX10_drawn, cX10_drawn, 3, (some .int), 0)
theorem cbX10_drawn : CB YX10_drawn := ⟨gw_of1 11 rfl rfl, gw_of4 149 rfl rfl, by decide +kernel, by decide⟩
def YX10_holds : YY := (yX10_holds, cX10_holds, 3, (some .boolean), 2)
theorem cbX10_holds : CB YX10_holds := ⟨gw_of1 11 rfl rfl, gw_of3 216 rfl rfl, by decide +kernel, by decide⟩
def YX10_holderOf : YY := (yX10_holderOf, cX10_holderOf, 3, (some .int), 1)
theorem cbX10_holderOf : CB YX10_holderOf := ⟨gw_of1 11 rfl rfl, gw_of4 166 rfl rfl, by decide +kernel, by decide⟩
def YX10_showAt : YY := (yX10_showAt, cX10_showAt, 4, none, 2)
theorem cbX10_showAt : CB YX10_showAt := ⟨gw_of1 11 rfl rfl, gw_of3 198 rfl rfl, by decide +kernel, by decide⟩
def YX10_showNext : YY := (yX10_showNext, cX10_showNext, 3, (some .int), 1)
theorem cbX10_showNext : CB YX10_showNext := ⟨gw_of1 11 rfl rfl, gw_of3 194 rfl rfl, by decide +kernel, by decide⟩
def YX10_giveBack : YY := (yX10_giveBack, cX10_giveBack, 3, none, 2)
theorem cbX10_giveBack : CB YX10_giveBack := ⟨gw_of1 11 rfl rfl, gw_of3 220 rfl rfl, by decide +kernel, by decide⟩
def YX10_handOver : YY := (yX10_handOver, cX10_handOver, 4, none, 3)
theorem cbX10_handOver : CB YX10_handOver := ⟨gw_of1 11 rfl rfl, gw_of3 235 rfl rfl, by decide +kernel, by decide⟩
def YX10_turnRound : YY := (yX10_turnRound, cX10_turnRound, 1, none, 0)
theorem cbX10_turnRound : CB YX10_turnRound := ⟨gw_of1 11 rfl rfl, gw_of4 3 rfl rfl, by decide +kernel, by decide⟩
def YX11_init : YY := (yX11_init, cX11_init, 2, none, 0)
theorem cbX11_init : CB YX11_init := ⟨gw_of1 1 rfl rfl, gw_of1 28 rfl rfl, by decide +kernel, by decide⟩
def YX11_feed : YY := (yX11_feed, cX11_feed, 7, (some .int), 3)
theorem cbX11_feed : CB YX11_feed := ⟨gw_of1 1 rfl rfl, gw_of2 166 rfl rfl, by decide +kernel, by decide⟩
def YX11_county : YY := (yX11_county, cX11_county, 3, (some .int), 0)
theorem cbX11_county : CB YX11_county := ⟨gw_of1 1 rfl rfl, gw_of2 174 rfl rfl, by decide +kernel, by decide⟩
def YX11_round : YY := (yX11_round, cX11_round, 3, (some .int), 0)
theorem cbX11_round : CB YX11_round := ⟨gw_of1 1 rfl rfl, gw_of3 124 rfl rfl, by decide +kernel, by decide⟩
def YX11_shot : YY := (yX11_shot, cX11_shot, 3, (some .int), 2)
theorem cbX11_shot : CB YX11_shot := ⟨gw_of1 1 rfl rfl, gw_of3 149 rfl rfl, by decide +kernel, by decide⟩
def YX11_hall : YY := (yX11_hall, cX11_hall, 3, (some .int), 2)
theorem cbX11_hall : CB YX11_hall := ⟨gw_of1 1 rfl rfl, gw_of3 154 rfl rfl, by decide +kernel, by decide⟩
def YX11_show : YY := (yX11_show, cX11_show, 1, (some .int), 0)
theorem cbX11_show : CB YX11_show := ⟨gw_of1 1 rfl rfl, gw_of3 179 rfl rfl, by decide +kernel, by decide⟩
def YX11_give : YY := (yX11_give, cX11_give, 3, (some .int), 2)
theorem cbX11_give : CB YX11_give := ⟨gw_of1 1 rfl rfl, gw_of3 208 rfl rfl, by decide +kernel, by decide⟩
def YX11_trade : YY := (yX11_trade, cX11_trade, 4, (some .boolean), 3)
theorem cbX11_trade : CB YX11_trade := ⟨gw_of1 1 rfl rfl, gw_of3 231 rfl rfl, by decide +kernel, by decide⟩
def YX11_turn : YY := (yX11_turn, cX11_turn, 1, (some .int), 0)
theorem cbX11_turn : CB YX11_turn := ⟨gw_of1 1 rfl rfl, gw_of3 239 rfl rfl, by decide +kernel, by decide⟩
def YX11_undo : YY := (yX11_undo, cX11_undo, 1, (some .boolean), 0)
theorem cbX11_undo : CB YX11_undo := ⟨gw_of1 1 rfl rfl, gw_of4 11 rfl rfl, by decide +kernel, by decide⟩
def YX11_judged : YY := (yX11_judged, cX11_judged, 6, (some .int), 1)
theorem cbX11_judged : CB YX11_judged := ⟨gw_of1 1 rfl rfl, gw_of4 19 rfl rfl, by decide +kernel, by decide⟩
def YX11_shown : YY := (yX11_shown, cX11_shown, 4, (some .int), 2)
theorem cbX11_shown : CB YX11_shown := ⟨gw_of1 1 rfl rfl, gw_of4 40 rfl rfl, by decide +kernel, by decide⟩
def YX11_minutes : YY := (yX11_minutes, cX11_minutes, 3, (some .int), 1)
theorem cbX11_minutes : CB YX11_minutes := ⟨gw_of1 1 rfl rfl, gw_of4 60 rfl rfl, by decide +kernel, by decide⟩
def YX11_silly : YY := (yX11_silly, cX11_silly, 4, (some .int), 0)
theorem cbX11_silly : CB YX11_silly := ⟨gw_of1 1 rfl rfl, gw_of4 64 rfl rfl, by decide +kernel, by decide⟩
def YX11_lasts : YY := (yX11_lasts, cX11_lasts, 2, (some .int), 0)
theorem cbX11_lasts : CB YX11_lasts := ⟨gw_of1 1 rfl rfl, gw_of4 68 rfl rfl, by decide +kernel, by decide⟩
def YX11_sense : YY := (yX11_sense, cX11_sense, 1, (some .boolean), 0)
theorem cbX11_sense : CB YX11_sense := ⟨gw_of1 1 rfl rfl, gw_of4 73 rfl rfl, by decide +kernel, by decide⟩
def YX11_gone : YY := (yX11_gone, cX11_gone, 6, (some .int), 1)
theorem cbX11_gone : CB YX11_gone := ⟨gw_of1 1 rfl rfl, gw_of4 77 rfl rfl, by decide +kernel, by decide⟩
def YX11_saves : YY := (yX11_saves, cX11_saves, 2, (some .int), 1)
theorem cbX11_saves : CB YX11_saves := ⟨gw_of1 1 rfl rfl, gw_of5 18 rfl rfl, by decide +kernel, by decide⟩
def YX11_kin : YY := (yX11_kin, cX11_kin, 2, (some .int), 1)
theorem cbX11_kin : CB YX11_kin := ⟨gw_of1 1 rfl rfl, gw_of4 81 rfl rfl, by decide +kernel, by decide⟩
def YX11_hoard : YY := (yX11_hoard, cX11_hoard, 7, (some .int), 1)
theorem cbX11_hoard : CB YX11_hoard := ⟨gw_of1 1 rfl rfl, gw_of4 89 rfl rfl, by decide +kernel, by decide⟩
def YX11_longest : YY := (yX11_longest, cX11_longest, 3, (some .int), 0)
theorem cbX11_longest : CB YX11_longest := ⟨gw_of1 1 rfl rfl, gw_of4 97 rfl rfl, by decide +kernel, by decide⟩
def YX11_order : YY := (yX11_order, cX11_order, 3, (some .int), 1)
theorem cbX11_order : CB YX11_order := ⟨gw_of1 1 rfl rfl, gw_of4 110 rfl rfl, by decide +kernel, by decide⟩
def YX11_ride : YY := (yX11_ride, cX11_ride, 5, (some .int), 0)
theorem cbX11_ride : CB YX11_ride := ⟨gw_of1 1 rfl rfl, gw_of4 133 rfl rfl, by decide +kernel, by decide⟩
def YX11_other : YY := (yX11_other, cX11_other, 5, (some .int), 1)
theorem cbX11_other : CB YX11_other := ⟨gw_of1 1 rfl rfl, gw_of4 145 rfl rfl, by decide +kernel, by decide⟩
def YX11_mends : YY := (yX11_mends, cX11_mends, 5, (some .int), 0)
theorem cbX11_mends : CB YX11_mends := ⟨gw_of1 1 rfl rfl, gw_of4 158 rfl rfl, by decide +kernel, by decide⟩
def YX11_where : YY := (yX11_where, cX11_where, 2, (some .int), 1)
theorem cbX11_where : CB YX11_where := ⟨gw_of1 1 rfl rfl, gw_of4 162 rfl rfl, by decide +kernel, by decide⟩
def YX11_taste : YY := (yX11_taste, cX11_taste, 5, (some .int), 2)
theorem cbX11_taste : CB YX11_taste := ⟨gw_of1 1 rfl rfl, gw_of4 170 rfl rfl, by decide +kernel, by decide⟩
def YX11_mild : YY := (yX11_mild, cX11_mild, 5, (some .int), 0)
theorem cbX11_mild : CB YX11_mild := ⟨gw_of1 1 rfl rfl, gw_of4 175 rfl rfl, by decide +kernel, by decide⟩
def YX11_see : YY := (yX11_see, cX11_see, 3, (some .boolean), 2)
theorem cbX11_see : CB YX11_see := ⟨gw_of1 1 rfl rfl, gw_of4 179 rfl rfl, by decide +kernel, by decide⟩
def YX11_halls : YY := (yX11_halls, cX11_halls, 3, (some .int), 0)
theorem cbX11_halls : CB YX11_halls := ⟨gw_of1 1 rfl rfl, gw_of4 187 rfl rfl, by decide +kernel, by decide⟩
def YX11_ask : YY := (yX11_ask, cX11_ask, 6, (some .int), 0)
theorem cbX11_ask : CB YX11_ask := ⟨gw_of1 1 rfl rfl, gw_of4 195 rfl rfl, by decide +kernel, by decide⟩
def YX11_rests : YY := (yX11_rests, cX11_rests, 7, (some .int), 4)
theorem cbX11_rests : CB YX11_rests := ⟨gw_of1 1 rfl rfl, gw_of5 94 rfl rfl, by decide +kernel, by decide⟩
def YX11_share : YY := (yX11_share, cX11_share, 3, (some .int), 1)
theorem cbX11_share : CB YX11_share := ⟨gw_of1 1 rfl rfl, gw_of4 204 rfl rfl, by decide +kernel, by decide⟩
def YX11_tours : YY := (yX11_tours, cX11_tours, 8, (some .int), 3)
theorem cbX11_tours : CB YX11_tours := ⟨gw_of1 1 rfl rfl, gw_of4 208 rfl rfl, by decide +kernel, by decide⟩
def YX11_mark : YY := (yX11_mark, cX11_mark, 3, (some .boolean), 2)
theorem cbX11_mark : CB YX11_mark := ⟨gw_of1 1 rfl rfl, gw_of4 229 rfl rfl, by decide +kernel, by decide⟩
def YX11_count : YY := (yX11_count, cX11_count, 2, (some .int), 1)
theorem cbX11_count : CB YX11_count := ⟨gw_of1 1 rfl rfl, gw_of5 10 rfl rfl, by decide +kernel, by decide⟩
def YX11_beginAnew : YY := (yX11_beginAnew, cX11_beginAnew, 2, none, 0)
theorem cbX11_beginAnew : CB YX11_beginAnew := ⟨gw_of1 1 rfl rfl, gw_of3 104 rfl rfl, by decide +kernel, by decide⟩
def YX11_liesIn : YY := (yX11_liesIn, cX11_liesIn, 3, (some .boolean), 2)
theorem cbX11_liesIn : CB YX11_liesIn := ⟨gw_of1 1 rfl rfl, gw_of3 212 rfl rfl, by decide +kernel, by decide⟩
def YX11_nextHall : YY := (yX11_nextHall, cX11_nextHall, 1, (some .int), 0)
theorem cbX11_nextHall : CB YX11_nextHall := ⟨gw_of1 1 rfl rfl, gw_of4 7 rfl rfl, by decide +kernel, by decide⟩
def YX11_nextPlace : YY := (yX11_nextPlace, cX11_nextPlace, 1, (some .int), 0)
theorem cbX11_nextPlace : CB YX11_nextPlace := ⟨gw_of1 1 rfl rfl, gw_of4 52 rfl rfl, by decide +kernel, by decide⟩
def YX11_isAhead : YY := (yX11_isAhead, cX11_isAhead, 2, (some .boolean), 1)
theorem cbX11_isAhead : CB YX11_isAhead := ⟨gw_of1 1 rfl rfl, gw_of4 48 rfl rfl, by decide +kernel, by decide⟩
def YX11_hallsAhead : YY := (yX11_hallsAhead, cX11_hallsAhead, 3, (some .int), 0)
theorem cbX11_hallsAhead : CB YX11_hallsAhead := ⟨gw_of1 1 rfl rfl, gw_of4 114 rfl rfl, by decide +kernel, by decide⟩
def YX11_rowShownAt : YY := (yX11_rowShownAt, cX11_rowShownAt, 5, (some .int), 1)
theorem cbX11_rowShownAt : CB YX11_rowShownAt := ⟨gw_of1 1 rfl rfl, gw_of4 44 rfl rfl, by decide +kernel, by decide⟩
def YX11_minutesTogether : YY := (yX11_minutesTogether, cX11_minutesTogether, 6, (some .int), 1)
theorem cbX11_minutesTogether : CB YX11_minutesTogether := ⟨gw_of1 1 rfl rfl, gw_of5 87 rfl rfl, by decide +kernel, by decide⟩
def YX11_fillRows : YY := (yX11_fillRows, cX11_fillRows, 2, none, 0)
theorem cbX11_fillRows : CB YX11_fillRows := ⟨gw_of1 1 rfl rfl, gw_of4 137 rfl rfl, by decide +kernel, by decide⟩
def YX11_seenBy : YY := (yX11_seenBy, cX11_seenBy, 4, (some .int), 1)
theorem cbX11_seenBy : CB YX11_seenBy := ⟨gw_of1 1 rfl rfl, gw_of4 141 rfl rfl, by decide +kernel, by decide⟩
def YX11_greaterPart : YY := (yX11_greaterPart, cX11_greaterPart, 5, (some .int), 2)
theorem cbX11_greaterPart : CB YX11_greaterPart := ⟨gw_of1 1 rfl rfl, gw_of4 200 rfl rfl, by decide +kernel, by decide⟩
def YX11_giveBackByDraw : YY := (yX11_giveBackByDraw, cX11_giveBackByDraw, 3, none, 0)
theorem cbX11_giveBackByDraw : CB YX11_giveBackByDraw := ⟨gw_of1 1 rfl rfl, gw_of4 225 rfl rfl, by decide +kernel, by decide⟩
def YX11_isBid : YY := (yX11_isBid, cX11_isBid, 1, (some .boolean), 1)
theorem cbX11_isBid : CB YX11_isBid := ⟨gw_of1 1 rfl rfl, gw_of5 97 rfl rfl, by decide +kernel, by decide⟩
def YX11_isAtRest : YY := (yX11_isAtRest, cX11_isAtRest, 6, (some .boolean), 4)
theorem cbX11_isAtRest : CB YX11_isAtRest := ⟨gw_of1 1 rfl rfl, gw_of5 101 rfl rfl, by decide +kernel, by decide⟩
def YX11_gain : YY := (yX11_gain, cX11_gain, 5, (some .int), 5)
theorem cbX11_gain : CB YX11_gain := ⟨gw_of1 1 rfl rfl, gw_of5 104 rfl rfl, by decide +kernel, by decide⟩
def YX12_init : YY := (yX12_init, cX12_init, 1, none, 0)
theorem cbX12_init : CB YX12_init := ⟨gw_of1 17 rfl rfl, gw_of5 110 rfl rfl, by decide +kernel, by decide⟩
def YX12_thrown : YY := (yX12_thrown, cX12_thrown, 1, (some .int), 0)
theorem cbX12_thrown : CB YX12_thrown := ⟨gw_of1 17 rfl rfl, gw_of6 58 rfl rfl, by decide +kernel, by decide⟩
def YX12_within : YY := (yX12_within, cX12_within, 3, (some .boolean), 3)
theorem cbX12_within : CB YX12_within := ⟨gw_of1 17 rfl rfl, gw_of6 141 rfl rfl, by decide +kernel, by decide⟩
def YX12_bits : YY := (yX12_bits, cX12_bits, 3, (some .int), 1)
theorem cbX12_bits : CB YX12_bits := ⟨gw_of1 17 rfl rfl, gw_of7 45 rfl rfl, by decide +kernel, by decide⟩
def YX12_feed : YY := (yX12_feed, cX12_feed, 11, (some .int), 3)
theorem cbX12_feed : CB YX12_feed := ⟨gw_of1 17 rfl rfl, gw_of6 62 rfl rfl, by decide +kernel, by decide⟩
def YX12_signAt : YY := (yX12_signAt, cX12_signAt, 2, (some .int), 1)
theorem cbX12_signAt : CB YX12_signAt := ⟨gw_of1 17 rfl rfl, gw_of6 83 rfl rfl, by decide +kernel, by decide⟩
def YX12_nextToken : YY := (yX12_nextToken, cX12_nextToken, 2, none, 0)
theorem cbX12_nextToken : CB YX12_nextToken := ⟨gw_of1 17 rfl rfl, gw_of6 79 rfl rfl, by decide +kernel, by decide⟩
def YX12_isWord : YY := (yX12_isWord, cX12_isWord, 3, (some .boolean), 1)
theorem cbX12_isWord : CB YX12_isWord := ⟨gw_of1 17 rfl rfl, gw_of6 90 rfl rfl, by decide +kernel, by decide⟩
def YX12_isSign : YY := (yX12_isSign, cX12_isSign, 2, (some .boolean), 1)
theorem cbX12_isSign : CB YX12_isSign := ⟨gw_of1 17 rfl rfl, gw_of6 149 rfl rfl, by decide +kernel, by decide⟩
def YX12_fails : YY := (yX12_fails, cX12_fails, 2, (some .boolean), 1)
theorem cbX12_fails : CB YX12_fails := ⟨gw_of1 17 rfl rfl, gw_of6 98 rfl rfl, by decide +kernel, by decide⟩
def YX12_puts : YY := (yX12_puts, cX12_puts, 2, none, 1)
theorem cbX12_puts : CB YX12_puts := ⟨gw_of1 17 rfl rfl, gw_of6 177 rfl rfl, by decide +kernel, by decide⟩
def YX12_fact : YY := (yX12_fact, cX12_fact, 1, (some .int), 0)
theorem cbX12_fact : CB YX12_fact := ⟨gw_of1 17 rfl rfl, gw_of6 169 rfl rfl, by decide +kernel, by decide⟩
def YX12_reads : YY := (yX12_reads, cX12_reads, 6, (some .boolean), 0)
theorem cbX12_reads : CB YX12_reads := ⟨gw_of1 17 rfl rfl, gw_of6 165 rfl rfl, by decide +kernel, by decide⟩
def YX12_opens : YY := (yX12_opens, cX12_opens, 2, none, 1)
theorem cbX12_opens : CB YX12_opens := ⟨gw_of1 17 rfl rfl, gw_of7 3 rfl rfl, by decide +kernel, by decide⟩
def YX12_sums : YY := (yX12_sums, cX12_sums, 2, none, 1)
theorem cbX12_sums : CB YX12_sums := ⟨gw_of1 17 rfl rfl, gw_of7 7 rfl rfl, by decide +kernel, by decide⟩
def YX12_tests : YY := (yX12_tests, cX12_tests, 3, none, 1)
theorem cbX12_tests : CB YX12_tests := ⟨gw_of1 17 rfl rfl, gw_of7 11 rfl rfl, by decide +kernel, by decide⟩
def YX12_worked : YY := (yX12_worked, cX12_worked, 6, (some .int), 1)
theorem cbX12_worked : CB YX12_worked := ⟨gw_of1 17 rfl rfl, gw_of6 239 rfl rfl, by decide +kernel, by decide⟩
def YX12_isKept : YY := (yX12_isKept, cX12_isKept, 1, (some .boolean), 0)
theorem cbX12_isKept : CB YX12_isKept := ⟨gw_of1 17 rfl rfl, gw_of6 106 rfl rfl, by decide +kernel, by decide⟩
def YX12_shotNamed : YY := (yX12_shotNamed, cX12_shotNamed, 3, (some .int), 1)
theorem cbX12_shotNamed : CB YX12_shotNamed := ⟨gw_of1 17 rfl rfl, gw_of6 126 rfl rfl, by decide +kernel, by decide⟩
def YX12_hallNamed : YY := (yX12_hallNamed, cX12_hallNamed, 3, (some .int), 1)
theorem cbX12_hallNamed : CB YX12_hallNamed := ⟨gw_of1 17 rfl rfl, gw_of6 130 rfl rfl, by decide +kernel, by decide⟩
def YX12_needsNumber : YY := (yX12_needsNumber, cX12_needsNumber, 3, (some .boolean), 2)
theorem cbX12_needsNumber : CB YX12_needsNumber := ⟨gw_of1 17 rfl rfl, gw_of6 138 rfl rfl, by decide +kernel, by decide⟩
def YX12_needsWord : YY := (yX12_needsWord, cX12_needsWord, 3, (some .boolean), 1)
theorem cbX12_needsWord : CB YX12_needsWord := ⟨gw_of1 17 rfl rfl, gw_of6 134 rfl rfl, by decide +kernel, by decide⟩
def YX12_closes : YY := (yX12_closes, cX12_closes, 1, (some .boolean), 0)
theorem cbX12_closes : CB YX12_closes := ⟨gw_of1 17 rfl rfl, gw_of6 145 rfl rfl, by decide +kernel, by decide⟩
def YX12_needsNew : YY := (yX12_needsNew, cX12_needsNew, 1, (some .boolean), 0)
theorem cbX12_needsNew : CB YX12_needsNew := ⟨gw_of1 17 rfl rfl, gw_of6 102 rfl rfl, by decide +kernel, by decide⟩
def YX12_needsShot : YY := (yX12_needsShot, cX12_needsShot, 2, (some .boolean), 1)
theorem cbX12_needsShot : CB YX12_needsShot := ⟨gw_of1 17 rfl rfl, gw_of6 157 rfl rfl, by decide +kernel, by decide⟩
def YX12_needsHall : YY := (yX12_needsHall, cX12_needsHall, 1, (some .boolean), 0)
theorem cbX12_needsHall : CB YX12_needsHall := ⟨gw_of1 17 rfl rfl, gw_of6 199 rfl rfl, by decide +kernel, by decide⟩
def YX12_readsShot : YY := (yX12_readsShot, cX12_readsShot, 2, (some .boolean), 0)
theorem cbX12_readsShot : CB YX12_readsShot := ⟨gw_of1 17 rfl rfl, gw_of6 94 rfl rfl, by decide +kernel, by decide⟩
def YX12_readsNeeds : YY := (yX12_readsNeeds, cX12_readsNeeds, 2, (some .boolean), 0)
theorem cbX12_readsNeeds : CB YX12_readsNeeds := ⟨gw_of1 17 rfl rfl, gw_of6 153 rfl rfl, by decide +kernel, by decide⟩
def YX12_readsHall : YY := (yX12_readsHall, cX12_readsHall, 4, (some .boolean), 0)
theorem cbX12_readsHall : CB YX12_readsHall := ⟨gw_of1 17 rfl rfl, gw_of6 161 rfl rfl, by decide +kernel, by decide⟩
def YX12_begins : YY := (yX12_begins, cX12_begins, 1, none, 0)
theorem cbX12_begins : CB YX12_begins := ⟨gw_of1 17 rfl rfl, gw_of6 75 rfl rfl, by decide +kernel, by decide⟩
def YX12_readsAll : YY := (yX12_readsAll, cX12_readsAll, 2, (some .boolean), 0)
theorem cbX12_readsAll : CB YX12_readsAll := ⟨gw_of1 17 rfl rfl, gw_of6 71 rfl rfl, by decide +kernel, by decide⟩
def YX12_shifts : YY := (yX12_shifts, cX12_shifts, 3, none, 2)
theorem cbX12_shifts : CB YX12_shifts := ⟨gw_of1 17 rfl rfl, gw_of6 184 rfl rfl, by decide +kernel, by decide⟩
def YX12_shiftsNames : YY := (yX12_shiftsNames, cX12_shiftsNames, 3, none, 2)
theorem cbX12_shiftsNames : CB YX12_shiftsNames := ⟨gw_of1 17 rfl rfl, gw_of6 187 rfl rfl, by decide +kernel, by decide⟩
def YX12_lays : YY := (yX12_lays, cX12_lays, 2, none, 0)
theorem cbX12_lays : CB YX12_lays := ⟨gw_of1 17 rfl rfl, gw_of6 181 rfl rfl, by decide +kernel, by decide⟩
def YX12_copies : YY := (yX12_copies, cX12_copies, 5, none, 4)
theorem cbX12_copies : CB YX12_copies := ⟨gw_of1 17 rfl rfl, gw_of7 22 rfl rfl, by decide +kernel, by decide⟩
def YX12_readsLine : YY := (yX12_readsLine, cX12_readsLine, 3, (some .boolean), 0)
theorem cbX12_readsLine : CB YX12_readsLine := ⟨gw_of1 17 rfl rfl, gw_of6 195 rfl rfl, by decide +kernel, by decide⟩
def YX12_laysLines : YY := (yX12_laysLines, cX12_laysLines, 4, none, 2)
theorem cbX12_laysLines : CB YX12_laysLines := ⟨gw_of1 17 rfl rfl, gw_of6 203 rfl rfl, by decide +kernel, by decide⟩
def YX12_laysSeen : YY := (yX12_laysSeen, cX12_laysSeen, 4, none, 2)
theorem cbX12_laysSeen : CB YX12_laysSeen := ⟨gw_of1 17 rfl rfl, gw_of7 225 rfl rfl, by decide +kernel, by decide⟩
def YX12_fresh : YY := (yX12_fresh, cX12_fresh, 2, none, 0)
theorem cbX12_fresh : CB YX12_fresh := ⟨gw_of1 17 rfl rfl, gw_of5 115 rfl rfl, by decide +kernel, by decide⟩
def YX12_county : YY := (yX12_county, cX12_county, 2, (some .int), 0)
theorem cbX12_county : CB YX12_county := ⟨gw_of1 17 rfl rfl, gw_of6 67 rfl rfl, by decide +kernel, by decide⟩
def YX12_round : YY := (yX12_round, cX12_round, 1, (some .int), 0)
theorem cbX12_round : CB YX12_round := ⟨gw_of1 17 rfl rfl, gw_of6 191 rfl rfl, by decide +kernel, by decide⟩
def YX12_allShots : YY := (yX12_allShots, cX12_allShots, 1, (some .int), 0)
theorem cbX12_allShots : CB YX12_allShots := ⟨gw_of1 17 rfl rfl, gw_of5 119 rfl rfl, by decide +kernel, by decide⟩
def YX12_isShot : YY := (yX12_isShot, cX12_isShot, 2, (some .boolean), 1)
theorem cbX12_isShot : CB YX12_isShot := ⟨gw_of1 17 rfl rfl, gw_of6 211 rfl rfl, by decide +kernel, by decide⟩
def YX12_isHall : YY := (yX12_isHall, cX12_isHall, 2, (some .boolean), 1)
theorem cbX12_isHall : CB YX12_isHall := ⟨gw_of1 17 rfl rfl, gw_of6 219 rfl rfl, by decide +kernel, by decide⟩
def YX12_minutesOf : YY := (yX12_minutesOf, cX12_minutesOf, 4, (some .int), 1)
theorem cbX12_minutesOf : CB YX12_minutesOf := ⟨gw_of1 17 rfl rfl, gw_of7 34 rfl rfl, by decide +kernel, by decide⟩
def YX12_hates : YY := (yX12_hates, cX12_hates, 5, (some .boolean), 4)
theorem cbX12_hates : CB YX12_hates := ⟨gw_of1 17 rfl rfl, gw_of6 235 rfl rfl, by decide +kernel, by decide⟩
def YX12_takesOut : YY := (yX12_takesOut, cX12_takesOut, 9, (some .int), 2)
theorem cbX12_takesOut : CB YX12_takesOut := ⟨gw_of1 17 rfl rfl, gw_of6 231 rfl rfl, by decide +kernel, by decide⟩
def YX12_makesSense : YY := (yX12_makesSense, cX12_makesSense, 3, (some .boolean), 1)
theorem cbX12_makesSense : CB YX12_makesSense := ⟨gw_of1 17 rfl rfl, gw_of7 77 rfl rfl, by decide +kernel, by decide⟩
def YX12_drawerOf : YY := (yX12_drawerOf, cX12_drawerOf, 4, (some .int), 1)
theorem cbX12_drawerOf : CB YX12_drawerOf := ⟨gw_of1 17 rfl rfl, gw_of6 223 rfl rfl, by decide +kernel, by decide⟩
def YX12_inDrawers : YY := (yX12_inDrawers, cX12_inDrawers, 3, (some .int), 0)
theorem cbX12_inDrawers : CB YX12_inDrawers := ⟨gw_of1 17 rfl rfl, gw_of7 154 rfl rfl, by decide +kernel, by decide⟩
def YX12_cuts : YY := (yX12_cuts, cX12_cuts, 4, none, 1)
theorem cbX12_cuts : CB YX12_cuts := ⟨gw_of1 17 rfl rfl, gw_of7 30 rfl rfl, by decide +kernel, by decide⟩
def YX12_shows : YY := (yX12_shows, cX12_shows, 1, none, 0)
theorem cbX12_shows : CB YX12_shows := ⟨gw_of1 17 rfl rfl, gw_of7 26 rfl rfl, by decide +kernel, by decide⟩
def YX12_goesBack : YY := (yX12_goesBack, cX12_goesBack, 2, none, 1)
theorem cbX12_goesBack : CB YX12_goesBack := ⟨gw_of1 17 rfl rfl, gw_of7 42 rfl rfl, by decide +kernel, by decide⟩
def YX12_turns : YY := (yX12_turns, cX12_turns, 4, none, 0)
theorem cbX12_turns : CB YX12_turns := ⟨gw_of1 17 rfl rfl, gw_of7 57 rfl rfl, by decide +kernel, by decide⟩
def YX12_placeOf : YY := (yX12_placeOf, cX12_placeOf, 3, (some .int), 1)
theorem cbX12_placeOf : CB YX12_placeOf := ⟨gw_of1 17 rfl rfl, gw_of6 227 rfl rfl, by decide +kernel, by decide⟩
def YX12_shot : YY := (yX12_shot, cX12_shot, 3, (some .int), 2)
theorem cbX12_shot : CB YX12_shot := ⟨gw_of1 17 rfl rfl, gw_of6 207 rfl rfl, by decide +kernel, by decide⟩
def YX12_hall : YY := (yX12_hall, cX12_hall, 3, (some .int), 2)
theorem cbX12_hall : CB YX12_hall := ⟨gw_of1 17 rfl rfl, gw_of6 215 rfl rfl, by decide +kernel, by decide⟩
def YX12_keeps : YY := (yX12_keeps, cX12_keeps, 2, none, 0)
theorem cbX12_keeps : CB YX12_keeps := ⟨gw_of1 17 rfl rfl, gw_of7 19 rfl rfl, by decide +kernel, by decide⟩
def YX12_show : YY := (yX12_show, cX12_show, 1, (some .int), 0)
theorem cbX12_show : CB YX12_show := ⟨gw_of1 17 rfl rfl, gw_of7 15 rfl rfl, by decide +kernel, by decide⟩
def YX12_give : YY := (yX12_give, cX12_give, 3, (some .int), 2)
theorem cbX12_give : CB YX12_give := ⟨gw_of1 17 rfl rfl, gw_of7 38 rfl rfl, by decide +kernel, by decide⟩
def YX12_trade : YY := (yX12_trade, cX12_trade, 4, (some .boolean), 3)
theorem cbX12_trade : CB YX12_trade := ⟨gw_of1 17 rfl rfl, gw_of7 49 rfl rfl, by decide +kernel, by decide⟩
def YX12_nextHall : YY := (yX12_nextHall, cX12_nextHall, 1, (some .int), 0)
theorem cbX12_nextHall : CB YX12_nextHall := ⟨gw_of1 17 rfl rfl, gw_of7 61 rfl rfl, by decide +kernel, by decide⟩
def YX12_turn : YY := (yX12_turn, cX12_turn, 1, (some .int), 0)
theorem cbX12_turn : CB YX12_turn := ⟨gw_of1 17 rfl rfl, gw_of7 53 rfl rfl, by decide +kernel, by decide⟩
def YX12_undo : YY := (yX12_undo, cX12_undo, 1, (some .boolean), 0)
theorem cbX12_undo : CB YX12_undo := ⟨gw_of1 17 rfl rfl, gw_of7 65 rfl rfl, by decide +kernel, by decide⟩
def YX12_goes : YY := (yX12_goes, cX12_goes, 4, (some .boolean), 1)
theorem cbX12_goes : CB YX12_goes := ⟨gw_of1 17 rfl rfl, gw_of7 73 rfl rfl, by decide +kernel, by decide⟩
def YX12_judged : YY := (yX12_judged, cX12_judged, 7, (some .int), 1)
theorem cbX12_judged : CB YX12_judged := ⟨gw_of1 17 rfl rfl, gw_of7 69 rfl rfl, by decide +kernel, by decide⟩
def YX12_goesOn : YY := (yX12_goesOn, cX12_goesOn, 6, none, 1)
theorem cbX12_goesOn : CB YX12_goesOn := ⟨gw_of1 17 rfl rfl, gw_of7 85 rfl rfl, by decide +kernel, by decide⟩
def YX12_shown : YY := (yX12_shown, cX12_shown, 5, (some .int), 2)
theorem cbX12_shown : CB YX12_shown := ⟨gw_of1 17 rfl rfl, gw_of7 81 rfl rfl, by decide +kernel, by decide⟩
def YX12_minutes : YY := (yX12_minutes, cX12_minutes, 2, (some .int), 1)
theorem cbX12_minutes : CB YX12_minutes := ⟨gw_of1 17 rfl rfl, gw_of7 89 rfl rfl, by decide +kernel, by decide⟩
def YX12_silly : YY := (yX12_silly, cX12_silly, 1, (some .int), 0)
theorem cbX12_silly : CB YX12_silly := ⟨gw_of1 17 rfl rfl, gw_of7 93 rfl rfl, by decide +kernel, by decide⟩
def YX12_gone : YY := (yX12_gone, cX12_gone, 2, (some .int), 1)
theorem cbX12_gone : CB YX12_gone := ⟨gw_of1 17 rfl rfl, gw_of7 97 rfl rfl, by decide +kernel, by decide⟩
def YX12_saves : YY := (yX12_saves, cX12_saves, 3, (some .int), 1)
theorem cbX12_saves : CB YX12_saves := ⟨gw_of1 17 rfl rfl, gw_of7 101 rfl rfl, by decide +kernel, by decide⟩
def YX12_kin : YY := (yX12_kin, cX12_kin, 5, (some .int), 1)
theorem cbX12_kin : CB YX12_kin := ⟨gw_of1 17 rfl rfl, gw_of7 105 rfl rfl, by decide +kernel, by decide⟩
def YX12_ofSort : YY := (yX12_ofSort, cX12_ofSort, 5, (some .int), 2)
theorem cbX12_ofSort : CB YX12_ofSort := ⟨gw_of1 17 rfl rfl, gw_of7 113 rfl rfl, by decide +kernel, by decide⟩
def YX12_hoard : YY := (yX12_hoard, cX12_hoard, 6, (some .int), 1)
theorem cbX12_hoard : CB YX12_hoard := ⟨gw_of1 17 rfl rfl, gw_of7 109 rfl rfl, by decide +kernel, by decide⟩
def YX12_unlikeFrom : YY := (yX12_unlikeFrom, cX12_unlikeFrom, 5, (some .int), 1)
theorem cbX12_unlikeFrom : CB YX12_unlikeFrom := ⟨gw_of1 17 rfl rfl, gw_of7 121 rfl rfl, by decide +kernel, by decide⟩
def YX12_longest : YY := (yX12_longest, cX12_longest, 3, (some .int), 0)
theorem cbX12_longest : CB YX12_longest := ⟨gw_of1 17 rfl rfl, gw_of7 117 rfl rfl, by decide +kernel, by decide⟩
def YX12_lasts : YY := (yX12_lasts, cX12_lasts, 3, (some .int), 0)
theorem cbX12_lasts : CB YX12_lasts := ⟨gw_of1 17 rfl rfl, gw_of7 126 rfl rfl, by decide +kernel, by decide⟩
def YX12_sense : YY := (yX12_sense, cX12_sense, 1, (some .boolean), 0)
theorem cbX12_sense : CB YX12_sense := ⟨gw_of1 17 rfl rfl, gw_of7 130 rfl rfl, by decide +kernel, by decide⟩
def YX12_orders : YY := (yX12_orders, cX12_orders, 7, none, 4)
theorem cbX12_orders : CB YX12_orders := ⟨gw_of1 17 rfl rfl, gw_of7 138 rfl rfl, by decide +kernel, by decide⟩
def YX12_order : YY := (yX12_order, cX12_order, 5, (some .int), 1)
theorem cbX12_order : CB YX12_order := ⟨gw_of1 17 rfl rfl, gw_of7 134 rfl rfl, by decide +kernel, by decide⟩
def YX12_ride : YY := (yX12_ride, cX12_ride, 5, (some .int), 0)
theorem cbX12_ride : CB YX12_ride := ⟨gw_of1 17 rfl rfl, gw_of7 142 rfl rfl, by decide +kernel, by decide⟩
def YX12_otherFilm : YY := (yX12_otherFilm, cX12_otherFilm, 6, (some .int), 0)
theorem cbX12_otherFilm : CB YX12_otherFilm := ⟨gw_of1 17 rfl rfl, gw_of7 150 rfl rfl, by decide +kernel, by decide⟩
def YX12_other : YY := (yX12_other, cX12_other, 3, (some .int), 1)
theorem cbX12_other : CB YX12_other := ⟨gw_of1 17 rfl rfl, gw_of7 146 rfl rfl, by decide +kernel, by decide⟩
def YX12_mends : YY := (yX12_mends, cX12_mends, 4, (some .int), 0)
theorem cbX12_mends : CB YX12_mends := ⟨gw_of1 17 rfl rfl, gw_of7 158 rfl rfl, by decide +kernel, by decide⟩
def YX12_where : YY := (yX12_where, cX12_where, 2, (some .int), 1)
theorem cbX12_where : CB YX12_where := ⟨gw_of1 17 rfl rfl, gw_of7 162 rfl rfl, by decide +kernel, by decide⟩
def YX12_taste : YY := (yX12_taste, cX12_taste, 5, (some .int), 2)
theorem cbX12_taste : CB YX12_taste := ⟨gw_of1 17 rfl rfl, gw_of7 166 rfl rfl, by decide +kernel, by decide⟩
def YX12_mild : YY := (yX12_mild, cX12_mild, 5, (some .int), 0)
theorem cbX12_mild : CB YX12_mild := ⟨gw_of1 17 rfl rfl, gw_of7 170 rfl rfl, by decide +kernel, by decide⟩
def YX12_see : YY := (yX12_see, cX12_see, 3, (some .boolean), 2)
theorem cbX12_see : CB YX12_see := ⟨gw_of1 17 rfl rfl, gw_of7 174 rfl rfl, by decide +kernel, by decide⟩
def YX12_hallsAsSeen : YY := (yX12_hallsAsSeen, cX12_hallsAsSeen, 6, (some .int), 0)
theorem cbX12_hallsAsSeen : CB YX12_hallsAsSeen := ⟨gw_of1 17 rfl rfl, gw_of7 182 rfl rfl, by decide +kernel, by decide⟩
def YX12_halls : YY := (yX12_halls, cX12_halls, 1, (some .int), 0)
theorem cbX12_halls : CB YX12_halls := ⟨gw_of1 17 rfl rfl, gw_of7 178 rfl rfl, by decide +kernel, by decide⟩
def YX12_ask : YY := (yX12_ask, cX12_ask, 8, (some .int), 0)
theorem cbX12_ask : CB YX12_ask := ⟨gw_of1 17 rfl rfl, gw_of7 186 rfl rfl, by decide +kernel, by decide⟩
def YX12_getsBy : YY := (yX12_getsBy, cX12_getsBy, 5, (some .int), 5)
theorem cbX12_getsBy : CB YX12_getsBy := ⟨gw_of1 17 rfl rfl, gw_of7 193 rfl rfl, by decide +kernel, by decide⟩
def YX12_rests : YY := (yX12_rests, cX12_rests, 9, (some .int), 4)
theorem cbX12_rests : CB YX12_rests := ⟨gw_of1 17 rfl rfl, gw_of7 190 rfl rfl, by decide +kernel, by decide⟩
def YX12_share : YY := (yX12_share, cX12_share, 3, (some .int), 1)
theorem cbX12_share : CB YX12_share := ⟨gw_of1 17 rfl rfl, gw_of7 197 rfl rfl, by decide +kernel, by decide⟩
def YX12_draws : YY := (yX12_draws, cX12_draws, 2, (some .int), 1)
theorem cbX12_draws : CB YX12_draws := ⟨gw_of1 17 rfl rfl, gw_of7 205 rfl rfl, by decide +kernel, by decide⟩
def YX12_nth : YY := (yX12_nth, cX12_nth, 5, (some .int), 2)
theorem cbX12_nth : CB YX12_nth := ⟨gw_of1 17 rfl rfl, gw_of7 217 rfl rfl, by decide +kernel, by decide⟩
def YX12_givesSome : YY := (yX12_givesSome, cX12_givesSome, 2, none, 0)
theorem cbX12_givesSome : CB YX12_givesSome := ⟨gw_of1 17 rfl rfl, gw_of7 213 rfl rfl, by decide +kernel, by decide⟩
def YX12_tours : YY := (yX12_tours, cX12_tours, 7, (some .int), 3)
theorem cbX12_tours : CB YX12_tours := ⟨gw_of1 17 rfl rfl, gw_of7 201 rfl rfl, by decide +kernel, by decide⟩
def YX12_mark : YY := (yX12_mark, cX12_mark, 5, (some .boolean), 2)
theorem cbX12_mark : CB YX12_mark := ⟨gw_of1 17 rfl rfl, gw_of7 221 rfl rfl, by decide +kernel, by decide⟩
def YX12_count : YY := (yX12_count, cX12_count, 2, (some .int), 1)
theorem cbX12_count : CB YX12_count := ⟨gw_of1 17 rfl rfl, gw_of7 229 rfl rfl, by decide +kernel, by decide⟩
def YJ6_bitCount_0f7a4 : YY := (yJ6_bitCount_0f7a4, cJ6_bitCount_0f7a4, 1, (some .int), 1)
theorem cbJ6_bitCount_0f7a4 : CB YJ6_bitCount_0f7a4 := ⟨gw_of1 19 rfl rfl, gw_of3 224 rfl rfl, by decide +kernel, by decide⟩
def YJ9_max_7cf53 : YY := (yJ9_max_7cf53, cJ9_max_7cf53, 2, (some .int), 2)
theorem cbJ9_max_7cf53 : CB YJ9_max_7cf53 := ⟨gw_of1 18 rfl rfl, gw_of4 104 rfl rfl, by decide +kernel, by decide⟩
def YJ9_min_7cf53 : YY := (yJ9_min_7cf53, cJ9_min_7cf53, 2, (some .int), 2)
theorem cbJ9_min_7cf53 : CB YJ9_min_7cf53 := ⟨gw_of1 18 rfl rfl, gw_of3 190 rfl rfl, by decide +kernel, by decide⟩
def YJ0_length_8abf5 : YY := (yJ0_length_8abf5, cJ0_length_8abf5, 1, (some .int), 0)
theorem cbJ0_length_8abf5 : CB YJ0_length_8abf5 := ⟨gw_of1 5 rfl rfl, gw_of1 114 rfl rfl, by decide +kernel, by decide⟩
def YJ0_charAt_5068e : YY := (yJ0_charAt_5068e, cJ0_charAt_5068e, 2, (some .char), 1)
theorem cbJ0_charAt_5068e : CB YJ0_charAt_5068e := ⟨gw_of1 5 rfl rfl, gw_of1 124 rfl rfl, by decide +kernel, by decide⟩
def YJ0_coder_7d493 : YY := (yJ0_coder_7d493, cJ0_coder_7d493, 1, (some .byte), 0)
theorem cbJ0_coder_7d493 : CB YJ0_coder_7d493 := ⟨gw_of1 5 rfl rfl, gw_of1 118 rfl rfl, by decide +kernel, by decide⟩
def YJ0_isLatin1_aae02 : YY := (yJ0_isLatin1_aae02, cJ0_isLatin1_aae02, 1, (some .boolean), 0)
theorem cbJ0_isLatin1_aae02 : CB YJ0_isLatin1_aae02 := ⟨gw_of1 5 rfl rfl, gw_of1 128 rfl rfl, by decide +kernel, by decide⟩
def YJ0_checkIndex_df160 : YY := (yJ0_checkIndex_df160, cJ0_checkIndex_df160, 2, none, 2)
theorem cbJ0_checkIndex_df160 : CB YJ0_checkIndex_df160 := ⟨gw_of1 5 rfl rfl, gw_of1 134 rfl rfl, by decide +kernel, by decide⟩
def YJ1_charAt_3b067 : YY := (yJ1_charAt_3b067, cJ1_charAt_3b067, 2, (some .char), 2)
theorem cbJ1_charAt_3b067 : CB YJ1_charAt_3b067 := ⟨gw_of1 6 rfl rfl, gw_of1 131 rfl rfl, by decide +kernel, by decide⟩
def YJ2_getChar_3b067 : YY := (yJ2_getChar_3b067, cJ2_getChar_3b067, 2, (some .char), 2)
theorem cbJ2_getChar_3b067 : CB YJ2_getChar_3b067 := ⟨gw_of1 8 rfl rfl, gw_of1 152 rfl rfl, by decide +kernel, by decide⟩
def YJ2_length_9d52b : YY := (yJ2_length_9d52b, cJ2_length_9d52b, 1, (some .int), 1)
theorem cbJ2_length_9d52b : CB YJ2_length_9d52b := ⟨gw_of1 8 rfl rfl, gw_of1 148 rfl rfl, by decide +kernel, by decide⟩
def YJ2_charAt_3b067 : YY := (yJ2_charAt_3b067, cJ2_charAt_3b067, 2, (some .char), 2)
theorem cbJ2_charAt_3b067 : CB YJ2_charAt_3b067 := ⟨gw_of1 8 rfl rfl, gw_of1 142 rfl rfl, by decide +kernel, by decide⟩
def YJ2_checkIndex_2214a : YY := (yJ2_checkIndex_2214a, cJ2_checkIndex_2214a, 2, none, 2)
theorem cbJ2_checkIndex_2214a : CB YJ2_checkIndex_2214a := ⟨gw_of1 8 rfl rfl, gw_of1 145 rfl rfl, by decide +kernel, by decide⟩
def YJ3_checkIndex_8e157 : YY := (yJ3_checkIndex_8e157, cJ3_checkIndex_8e157, 3, (some .int), 3)
theorem cbJ3_checkIndex_8e157 : CB YJ3_checkIndex_8e157 := ⟨gw_of1 7 rfl rfl, gw_of1 139 rfl rfl, by decide +kernel, by decide⟩
theorem cnL_8 : CN RL 8 11 := ⟨RX11, TX11, rfl, clX11, tyX11_ok, by decide +kernel, gw_of1 24 rfl rfl, gw_of1 25 rfl rfl, gw_of1 1 rfl rfl⟩
theorem klL_8 : Cond.classLink RL 8 RX11 ∈ gw := gw_of1 24 rfl rfl
theorem ciiL_19 : CI RL 19 YX11_init := ⟨cbX11_init, gw_of1 26 rfl rfl, gw_of1 27 rfl rfl, rfl, rfl⟩
theorem oiX11_1 : Cond.methodLink RX11 1 objectInit ∈ gw := gw_of1 29 rfl rfl
theorem cnX11_7 : CN RX11 7 0 := ⟨RX0, TX0, rfl, clX0, tyX0_ok, by decide +kernel, gw_of1 32 rfl rfl, gw_of1 33 rfl rfl, gw_of1 2 rfl rfl⟩
theorem klX11_7 : Cond.classLink RX11 7 RX0 ∈ gw := gw_of1 32 rfl rfl
theorem cniX11_9 : CIN RX11 9 YX0_init := ⟨cbX0_init, lw_of1 34 rfl, gw_of1 35 rfl rfl, rfl, rfl⟩
theorem oiX0_3 : Cond.methodLink RX0 3 objectInit ∈ gw := gw_of1 37 rfl rfl
theorem cnX0_31 : CN RX0 31 2 := ⟨RX2, TX2, rfl, clX2, tyX2_ok, by decide +kernel, gw_of1 38 rfl rfl, gw_of1 39 rfl rfl, gw_of1 3 rfl rfl⟩
theorem klX0_31 : Cond.classLink RX0 31 RX2 ∈ gw := gw_of1 38 rfl rfl
theorem cniX0_33 : CIN RX0 33 YX2_init := ⟨cbX2_init, lw_of1 40 rfl, gw_of1 41 rfl rfl, rfl, rfl⟩
theorem oiX2_3 : Cond.methodLink RX2 3 objectInit ∈ gw := gw_of1 43 rfl rfl
theorem fdX2_9 : FD RX2 9 2 0 (.array .int) true := ⟨RX2, TX2, rfl, clX2, tyX2_ok, nmX2, by decide, rfl, rfl, rfl, gw_of1 44 rfl rfl⟩
theorem fdX2_21 : FD RX2 21 2 1 .int false := ⟨RX2, TX2, rfl, clX2, tyX2_ok, nmX2, by decide, rfl, rfl, rfl, gw_of1 45 rfl rfl⟩
theorem fdX0_48 : FD RX0 48 2 1 .int false := ⟨RX2, TX2, rfl, clX2, tyX2_ok, nmX2, by decide, rfl, rfl, rfl, gw_of1 46 rfl rfl⟩
theorem fdX2_15 : FD RX2 15 2 2 (.array .int) true := ⟨RX2, TX2, rfl, clX2, tyX2_ok, nmX2, by decide, rfl, rfl, rfl, gw_of1 47 rfl rfl⟩
theorem fdX0_55 : FD RX0 55 2 2 (.array .int) true := ⟨RX2, TX2, rfl, clX2, tyX2_ok, nmX2, by decide, rfl, rfl, rfl, gw_of1 48 rfl rfl⟩
theorem fdX2_18 : FD RX2 18 2 3 (.array .int) true := ⟨RX2, TX2, rfl, clX2, tyX2_ok, nmX2, by decide, rfl, rfl, rfl, gw_of1 49 rfl rfl⟩
theorem fdX0_41 : FD RX0 41 0 0 .int false := ⟨RX0, TX0, rfl, clX0, tyX0_ok, nmX0, by decide, rfl, rfl, rfl, gw_of1 61 rfl rfl⟩
theorem fdX7_70 : FD RX7 70 0 0 .int false := ⟨RX0, TX0, rfl, clX0, tyX0_ok, nmX0, by decide, rfl, rfl, rfl, gw_of1 62 rfl rfl⟩
theorem fdX11_246 : FD RX11 246 0 0 .int false := ⟨RX0, TX0, rfl, clX0, tyX0_ok, nmX0, by decide, rfl, rfl, rfl, gw_of1 63 rfl rfl⟩
theorem fdX0_9 : FD RX0 9 0 1 (.array .long) true := ⟨RX0, TX0, rfl, clX0, tyX0_ok, nmX0, by decide, rfl, rfl, rfl, gw_of1 64 rfl rfl⟩
theorem fdX0_15 : FD RX0 15 0 2 (.array .int) true := ⟨RX0, TX0, rfl, clX0, tyX0_ok, nmX0, by decide, rfl, rfl, rfl, gw_of1 65 rfl rfl⟩
theorem fdX11_120 : FD RX11 120 0 2 (.array .int) true := ⟨RX0, TX0, rfl, clX0, tyX0_ok, nmX0, by decide, rfl, rfl, rfl, gw_of1 66 rfl rfl⟩
theorem fdX0_19 : FD RX0 19 0 3 (.array .int) true := ⟨RX0, TX0, rfl, clX0, tyX0_ok, nmX0, by decide, rfl, rfl, rfl, gw_of1 67 rfl rfl⟩
theorem fdX11_123 : FD RX11 123 0 3 (.array .int) true := ⟨RX0, TX0, rfl, clX0, tyX0_ok, nmX0, by decide, rfl, rfl, rfl, gw_of1 68 rfl rfl⟩
theorem fdX0_22 : FD RX0 22 0 4 (.array .int) true := ⟨RX0, TX0, rfl, clX0, tyX0_ok, nmX0, by decide, rfl, rfl, rfl, gw_of1 69 rfl rfl⟩
theorem fdX11_126 : FD RX11 126 0 4 (.array .int) true := ⟨RX0, TX0, rfl, clX0, tyX0_ok, nmX0, by decide, rfl, rfl, rfl, gw_of1 70 rfl rfl⟩
theorem fdX0_45 : FD RX0 45 0 5 .int false := ⟨RX0, TX0, rfl, clX0, tyX0_ok, nmX0, by decide, rfl, rfl, rfl, gw_of1 71 rfl rfl⟩
theorem fdX6_40 : FD RX6 40 0 5 .int false := ⟨RX0, TX0, rfl, clX0, tyX0_ok, nmX0, by decide, rfl, rfl, rfl, gw_of1 72 rfl rfl⟩
theorem fdX10_29 : FD RX10 29 0 5 .int false := ⟨RX0, TX0, rfl, clX0, tyX0_ok, nmX0, by decide, rfl, rfl, rfl, gw_of1 73 rfl rfl⟩
theorem fdX5_28 : FD RX5 28 0 5 .int false := ⟨RX0, TX0, rfl, clX0, tyX0_ok, nmX0, by decide, rfl, rfl, rfl, gw_of1 74 rfl rfl⟩
theorem fdX11_149 : FD RX11 149 0 5 .int false := ⟨RX0, TX0, rfl, clX0, tyX0_ok, nmX0, by decide, rfl, rfl, rfl, gw_of1 75 rfl rfl⟩
theorem fdX7_117 : FD RX7 117 0 5 .int false := ⟨RX0, TX0, rfl, clX0, tyX0_ok, nmX0, by decide, rfl, rfl, rfl, gw_of1 76 rfl rfl⟩
theorem fdX0_25 : FD RX0 25 0 6 (.array .long) true := ⟨RX0, TX0, rfl, clX0, tyX0_ok, nmX0, by decide, rfl, rfl, rfl, gw_of1 77 rfl rfl⟩
theorem fdX0_28 : FD RX0 28 0 7 (.array .int) true := ⟨RX0, TX0, rfl, clX0, tyX0_ok, nmX0, by decide, rfl, rfl, rfl, gw_of1 78 rfl rfl⟩
theorem fdX11_135 : FD RX11 135 0 7 (.array .int) true := ⟨RX0, TX0, rfl, clX0, tyX0_ok, nmX0, by decide, rfl, rfl, rfl, gw_of1 79 rfl rfl⟩
theorem fdX0_34 : FD RX0 34 0 8 (.object "CountyPrint$Laws") true := ⟨RX0, TX0, rfl, clX0, tyX0_ok, nmX0, by decide, rfl, rfl, rfl, gw_of1 80 rfl rfl⟩
theorem fdX7_151 : FD RX7 151 0 8 (.object "CountyPrint$Laws") true := ⟨RX0, TX0, rfl, clX0, tyX0_ok, nmX0, by decide, rfl, rfl, rfl, gw_of1 81 rfl rfl⟩
theorem fdX0_38 : FD RX0 38 0 9 (.array .int) true := ⟨RX0, TX0, rfl, clX0, tyX0_ok, nmX0, by decide, rfl, rfl, rfl, gw_of1 82 rfl rfl⟩
theorem cnX11_19 : CN RX11 19 9 := ⟨RX9, TX9, rfl, clX9, tyX9_ok, by decide +kernel, gw_of1 104 rfl rfl, gw_of1 105 rfl rfl, gw_of1 4 rfl rfl⟩
theorem klX11_19 : Cond.classLink RX11 19 RX9 ∈ gw := gw_of1 104 rfl rfl
theorem ciiX11_21 : CI RX11 21 YX9_init := ⟨cbX9_init, gw_of1 106 rfl rfl, gw_of1 107 rfl rfl, rfl, rfl⟩
theorem oiX9_3 : Cond.methodLink RX9 3 objectInit ∈ gw := gw_of1 109 rfl rfl
theorem cvX9_21 : CV RX9 21 YJ0_length_8abf5 := ⟨cbJ0_length_8abf5, gw_of1 111 rfl rfl, gw_of1 112 rfl rfl, gw_of1 113 rfl rfl⟩
theorem cvX9_27 : CV RX9 27 YJ0_charAt_5068e := ⟨cbJ0_charAt_5068e, gw_of1 121 rfl rfl, gw_of1 122 rfl rfl, gw_of1 123 rfl rfl⟩
theorem kcX9_31 : Cond.constantLong RX9 31 (32) ∈ gw := gw_of1 159 rfl rfl
theorem fdX9_11 : FD RX9 11 9 0 (.array .long) true := ⟨RX9, TX9, rfl, clX9, tyX9_ok, nmX9, by decide, rfl, rfl, rfl, gw_of1 160 rfl rfl⟩
theorem fdX9_15 : FD RX9 15 9 1 (.array .char) true := ⟨RX9, TX9, rfl, clX9, tyX9_ok, nmX9, by decide, rfl, rfl, rfl, gw_of1 161 rfl rfl⟩
theorem fdX11_98 : FD RX11 98 9 2 .int false := ⟨RX9, TX9, rfl, clX9, tyX9_ok, nmX9, by decide, rfl, rfl, rfl, gw_of1 162 rfl rfl⟩
theorem fdX9_33 : FD RX9 33 9 2 .int false := ⟨RX9, TX9, rfl, clX9, tyX9_ok, nmX9, by decide, rfl, rfl, rfl, gw_of1 163 rfl rfl⟩
theorem fdX7_51 : FD RX7 51 9 2 .int false := ⟨RX9, TX9, rfl, clX9, tyX9_ok, nmX9, by decide, rfl, rfl, rfl, gw_of1 164 rfl rfl⟩
theorem fdX9_43 : FD RX9 43 9 3 .int false := ⟨RX9, TX9, rfl, clX9, tyX9_ok, nmX9, by decide, rfl, rfl, rfl, gw_of1 165 rfl rfl⟩
theorem fdX7_67 : FD RX7 67 9 3 .int false := ⟨RX9, TX9, rfl, clX9, tyX9_ok, nmX9, by decide, rfl, rfl, rfl, gw_of1 166 rfl rfl⟩
theorem fdX9_37 : FD RX9 37 9 4 .int false := ⟨RX9, TX9, rfl, clX9, tyX9_ok, nmX9, by decide, rfl, rfl, rfl, gw_of1 167 rfl rfl⟩
theorem fdX7_28 : FD RX7 28 9 5 .int false := ⟨RX9, TX9, rfl, clX9, tyX9_ok, nmX9, by decide, rfl, rfl, rfl, gw_of1 168 rfl rfl⟩
theorem fdX9_53 : FD RX9 53 9 5 .int false := ⟨RX9, TX9, rfl, clX9, tyX9_ok, nmX9, by decide, rfl, rfl, rfl, gw_of1 169 rfl rfl⟩
theorem fdX9_72 : FD RX9 72 9 6 .long false := ⟨RX9, TX9, rfl, clX9, tyX9_ok, nmX9, by decide, rfl, rfl, rfl, gw_of1 170 rfl rfl⟩
theorem fdX7_76 : FD RX7 76 9 6 .long false := ⟨RX9, TX9, rfl, clX9, tyX9_ok, nmX9, by decide, rfl, rfl, rfl, gw_of1 171 rfl rfl⟩
theorem fdX7_34 : FD RX7 34 9 7 .int false := ⟨RX9, TX9, rfl, clX9, tyX9_ok, nmX9, by decide, rfl, rfl, rfl, gw_of1 172 rfl rfl⟩
theorem fdX9_50 : FD RX9 50 9 7 .int false := ⟨RX9, TX9, rfl, clX9, tyX9_ok, nmX9, by decide, rfl, rfl, rfl, gw_of1 173 rfl rfl⟩
theorem fdX9_76 : FD RX9 76 9 8 .int false := ⟨RX9, TX9, rfl, clX9, tyX9_ok, nmX9, by decide, rfl, rfl, rfl, gw_of1 174 rfl rfl⟩
theorem fdX7_86 : FD RX7 86 9 8 .int false := ⟨RX9, TX9, rfl, clX9, tyX9_ok, nmX9, by decide, rfl, rfl, rfl, gw_of1 175 rfl rfl⟩
theorem fdX9_46 : FD RX9 46 9 9 .char false := ⟨RX9, TX9, rfl, clX9, tyX9_ok, nmX9, by decide, rfl, rfl, rfl, gw_of1 176 rfl rfl⟩
theorem cnX11_26 : CN RX11 26 7 := ⟨RX7, TX7, rfl, clX7, tyX7_ok, by decide +kernel, gw_of1 200 rfl rfl, gw_of1 201 rfl rfl, gw_of1 9 rfl rfl⟩
theorem klX11_26 : Cond.classLink RX11 26 RX7 ∈ gw := gw_of1 200 rfl rfl
theorem ciiX11_28 : CI RX11 28 YX7_init := ⟨cbX7_init, gw_of1 202 rfl rfl, gw_of1 203 rfl rfl, rfl, rfl⟩
theorem oiX7_3 : Cond.methodLink RX7 3 objectInit ∈ gw := gw_of1 205 rfl rfl
theorem fdX7_9 : FD RX7 9 7 0 (.object "CountyPrint$Tape") true := ⟨RX7, TX7, rfl, clX7, tyX7_ok, nmX7, by decide, rfl, rfl, rfl, gw_of1 206 rfl rfl⟩
theorem fdX7_15 : FD RX7 15 7 1 (.object "CountyPrint$County") false := ⟨RX7, TX7, rfl, clX7, tyX7_ok, nmX7, by decide, rfl, rfl, rfl, gw_of1 207 rfl rfl⟩
theorem fdX7_54 : FD RX7 54 7 2 .int false := ⟨RX7, TX7, rfl, clX7, tyX7_ok, nmX7, by decide, rfl, rfl, rfl, gw_of1 208 rfl rfl⟩
theorem cnX11_35 : CN RX11 35 5 := ⟨RX5, TX5, rfl, clX5, tyX5_ok, by decide +kernel, gw_of1 216 rfl rfl, gw_of1 217 rfl rfl, gw_of1 10 rfl rfl⟩
theorem klX11_35 : Cond.classLink RX11 35 RX5 ∈ gw := gw_of1 216 rfl rfl
theorem cniX11_37 : CIN RX11 37 YX5_init := ⟨cbX5_init, lw_of1 218 rfl, gw_of1 219 rfl rfl, rfl, rfl⟩
theorem oiX5_3 : Cond.methodLink RX5 3 objectInit ∈ gw := gw_of1 221 rfl rfl
theorem fdX5_24 : FD RX5 24 5 0 .int false := ⟨RX5, TX5, rfl, clX5, tyX5_ok, nmX5, by decide, rfl, rfl, rfl, gw_of1 222 rfl rfl⟩
theorem fdX7_127 : FD RX7 127 5 0 .int false := ⟨RX5, TX5, rfl, clX5, tyX5_ok, nmX5, by decide, rfl, rfl, rfl, gw_of1 223 rfl rfl⟩
theorem fdX11_198 : FD RX11 198 5 0 .int false := ⟨RX5, TX5, rfl, clX5, tyX5_ok, nmX5, by decide, rfl, rfl, rfl, gw_of1 224 rfl rfl⟩
theorem fdX5_9 : FD RX5 9 5 1 (.array .int) true := ⟨RX5, TX5, rfl, clX5, tyX5_ok, nmX5, by decide, rfl, rfl, rfl, gw_of1 225 rfl rfl⟩
theorem fdX11_209 : FD RX11 209 5 1 (.array .int) true := ⟨RX5, TX5, rfl, clX5, tyX5_ok, nmX5, by decide, rfl, rfl, rfl, gw_of1 226 rfl rfl⟩
theorem fdX5_15 : FD RX5 15 5 2 (.array .int) true := ⟨RX5, TX5, rfl, clX5, tyX5_ok, nmX5, by decide, rfl, rfl, rfl, gw_of1 227 rfl rfl⟩
theorem fdX5_18 : FD RX5 18 5 3 (.array .int) true := ⟨RX5, TX5, rfl, clX5, tyX5_ok, nmX5, by decide, rfl, rfl, rfl, gw_of1 228 rfl rfl⟩
theorem fdX5_21 : FD RX5 21 5 4 (.array .int) true := ⟨RX5, TX5, rfl, clX5, tyX5_ok, nmX5, by decide, rfl, rfl, rfl, gw_of1 229 rfl rfl⟩
theorem cnX11_45 : CN RX11 45 10 := ⟨RX10, TX10, rfl, clX10, tyX10_ok, by decide +kernel, gw_of2 1 rfl rfl, gw_of2 2 rfl rfl, gw_of1 11 rfl rfl⟩
theorem klX11_45 : Cond.classLink RX11 45 RX10 ∈ gw := gw_of2 1 rfl rfl
theorem cniX11_47 : CIN RX11 47 YX10_init := ⟨cbX10_init, lw_of2 3 rfl, gw_of2 4 rfl rfl, rfl, rfl⟩
theorem oiX10_3 : Cond.methodLink RX10 3 objectInit ∈ gw := gw_of2 6 rfl rfl
theorem fdX10_15 : FD RX10 15 10 0 .int false := ⟨RX10, TX10, rfl, clX10, tyX10_ok, nmX10, by decide, rfl, rfl, rfl, gw_of2 7 rfl rfl⟩
theorem fdX11_129 : FD RX11 129 10 0 .int false := ⟨RX10, TX10, rfl, clX10, tyX10_ok, nmX10, by decide, rfl, rfl, rfl, gw_of2 8 rfl rfl⟩
theorem fdX10_9 : FD RX10 9 10 1 (.array .int) true := ⟨RX10, TX10, rfl, clX10, tyX10_ok, nmX10, by decide, rfl, rfl, rfl, gw_of2 9 rfl rfl⟩
theorem fdX11_138 : FD RX11 138 10 1 (.array .int) true := ⟨RX10, TX10, rfl, clX10, tyX10_ok, nmX10, by decide, rfl, rfl, rfl, gw_of2 10 rfl rfl⟩
theorem fdX10_19 : FD RX10 19 10 2 .boolean false := ⟨RX10, TX10, rfl, clX10, tyX10_ok, nmX10, by decide, rfl, rfl, rfl, gw_of2 11 rfl rfl⟩
theorem fdX10_23 : FD RX10 23 10 3 .int false := ⟨RX10, TX10, rfl, clX10, tyX10_ok, nmX10, by decide, rfl, rfl, rfl, gw_of2 12 rfl rfl⟩
theorem fdX11_348 : FD RX11 348 10 3 .int false := ⟨RX10, TX10, rfl, clX10, tyX10_ok, nmX10, by decide, rfl, rfl, rfl, gw_of2 13 rfl rfl⟩
theorem fdX10_26 : FD RX10 26 10 4 .int false := ⟨RX10, TX10, rfl, clX10, tyX10_ok, nmX10, by decide, rfl, rfl, rfl, gw_of2 14 rfl rfl⟩
theorem fdX11_337 : FD RX11 337 10 4 .int false := ⟨RX10, TX10, rfl, clX10, tyX10_ok, nmX10, by decide, rfl, rfl, rfl, gw_of2 15 rfl rfl⟩
theorem cnX11_55 : CN RX11 55 4 := ⟨RX4, TX4, rfl, clX4, tyX4_ok, by decide +kernel, gw_of2 27 rfl rfl, gw_of2 28 rfl rfl, gw_of1 12 rfl rfl⟩
theorem klX11_55 : Cond.classLink RX11 55 RX4 ∈ gw := gw_of2 27 rfl rfl
theorem ciiX11_57 : CI RX11 57 YX4_init := ⟨cbX4_init, gw_of2 29 rfl rfl, gw_of2 30 rfl rfl, rfl, rfl⟩
theorem oiX4_3 : Cond.methodLink RX4 3 objectInit ∈ gw := gw_of2 32 rfl rfl
theorem cnX4_9 : CN RX4 9 10 := ⟨RX10, TX10, rfl, clX10, tyX10_ok, by decide +kernel, gw_of2 33 rfl rfl, gw_of2 2 rfl rfl, gw_of1 11 rfl rfl⟩
theorem klX4_9 : Cond.classLink RX4 9 RX10 ∈ gw := gw_of2 33 rfl rfl
theorem cniX4_17 : CIN RX4 17 YX10_init := ⟨cbX10_init, lw_of2 35 rfl, gw_of2 4 rfl rfl, rfl, rfl⟩
theorem fdX4_11 : FD RX4 11 4 0 (.array (.object "CountyPrint$Travel")) true := ⟨RX4, TX4, rfl, clX4, tyX4_ok, nmX4, by decide, rfl, rfl, rfl, gw_of2 36 rfl rfl⟩
theorem fdX4_18 : FD RX4 18 4 1 .int false := ⟨RX4, TX4, rfl, clX4, tyX4_ok, nmX4, by decide, rfl, rfl, rfl, gw_of2 37 rfl rfl⟩
theorem fdX4_26 : FD RX4 26 4 2 .int false := ⟨RX4, TX4, rfl, clX4, tyX4_ok, nmX4, by decide, rfl, rfl, rfl, gw_of2 38 rfl rfl⟩
theorem fdX11_341 : FD RX11 341 4 2 .int false := ⟨RX4, TX4, rfl, clX4, tyX4_ok, nmX4, by decide, rfl, rfl, rfl, gw_of2 39 rfl rfl⟩
theorem cnX11_62 : CN RX11 62 8 := ⟨RX8, TX8, rfl, clX8, tyX8_ok, by decide +kernel, gw_of2 47 rfl rfl, gw_of2 48 rfl rfl, gw_of1 13 rfl rfl⟩
theorem klX11_62 : Cond.classLink RX11 62 RX8 ∈ gw := gw_of2 47 rfl rfl
theorem cniX11_64 : CIN RX11 64 YX8_init := ⟨cbX8_init, lw_of2 49 rfl, gw_of2 50 rfl rfl, rfl, rfl⟩
theorem oiX8_3 : Cond.methodLink RX8 3 objectInit ∈ gw := gw_of2 52 rfl rfl
theorem fdX8_9 : FD RX8 9 8 0 (.array .int) true := ⟨RX8, TX8, rfl, clX8, tyX8_ok, nmX8, by decide, rfl, rfl, rfl, gw_of2 53 rfl rfl⟩
theorem fdX8_15 : FD RX8 15 8 1 (.array .boolean) true := ⟨RX8, TX8, rfl, clX8, tyX8_ok, nmX8, by decide, rfl, rfl, rfl, gw_of2 54 rfl rfl⟩
theorem fdX8_19 : FD RX8 19 8 2 .int false := ⟨RX8, TX8, rfl, clX8, tyX8_ok, nmX8, by decide, rfl, rfl, rfl, gw_of2 55 rfl rfl⟩
theorem fdX11_340 : FD RX11 340 8 2 .int false := ⟨RX8, TX8, rfl, clX8, tyX8_ok, nmX8, by decide, rfl, rfl, rfl, gw_of2 56 rfl rfl⟩
theorem cnX11_69 : CN RX11 69 3 := ⟨RX3, TX3, rfl, clX3, tyX3_ok, by decide +kernel, gw_of2 65 rfl rfl, gw_of2 67 rfl rfl, gw_of1 14 rfl rfl⟩
theorem klX11_69 : Cond.classLink RX11 69 RX3 ∈ gw := gw_of2 65 rfl rfl
theorem cniX11_75 : CIN RX11 75 YX3_init := ⟨cbX3_init, lw_of2 68 rfl, gw_of2 69 rfl rfl, rfl, rfl⟩
theorem oiX3_1 : Cond.methodLink RX3 1 objectInit ∈ gw := gw_of2 71 rfl rfl
theorem cnX3_7 : CN RX3 7 10 := ⟨RX10, TX10, rfl, clX10, tyX10_ok, by decide +kernel, gw_of2 72 rfl rfl, gw_of2 2 rfl rfl, gw_of1 11 rfl rfl⟩
theorem klX3_7 : Cond.classLink RX3 7 RX10 ∈ gw := gw_of2 72 rfl rfl
theorem cniX3_9 : CIN RX3 9 YX10_init := ⟨cbX10_init, lw_of2 73 rfl, gw_of2 4 rfl rfl, rfl, rfl⟩
theorem cnX3_16 : CN RX3 16 5 := ⟨RX5, TX5, rfl, clX5, tyX5_ok, by decide +kernel, gw_of2 74 rfl rfl, gw_of1 217 rfl rfl, gw_of1 10 rfl rfl⟩
theorem klX3_16 : Cond.classLink RX3 16 RX5 ∈ gw := gw_of2 74 rfl rfl
theorem cniX3_18 : CIN RX3 18 YX5_init := ⟨cbX5_init, lw_of2 75 rfl, gw_of1 219 rfl rfl, rfl, rfl⟩
theorem cnX3_23 : CN RX3 23 8 := ⟨RX8, TX8, rfl, clX8, tyX8_ok, by decide +kernel, gw_of2 76 rfl rfl, gw_of2 48 rfl rfl, gw_of1 13 rfl rfl⟩
theorem klX3_23 : Cond.classLink RX3 23 RX8 ∈ gw := gw_of2 76 rfl rfl
theorem cniX3_25 : CIN RX3 25 YX8_init := ⟨cbX8_init, lw_of2 77 rfl, gw_of2 50 rfl rfl, rfl, rfl⟩
theorem fdX3_40 : FD RX3 40 3 0 .boolean false := ⟨RX3, TX3, rfl, clX3, tyX3_ok, nmX3, by decide, rfl, rfl, rfl, gw_of2 78 rfl rfl⟩
theorem fdX11_327 : FD RX11 327 3 0 .boolean false := ⟨RX3, TX3, rfl, clX3, tyX3_ok, nmX3, by decide, rfl, rfl, rfl, gw_of2 79 rfl rfl⟩
theorem fdX3_10 : FD RX3 10 3 1 (.object "CountyPrint$Travel") true := ⟨RX3, TX3, rfl, clX3, tyX3_ok, nmX3, by decide, rfl, rfl, rfl, gw_of2 80 rfl rfl⟩
theorem fdX3_19 : FD RX3 19 3 2 (.object "CountyPrint$Plan") true := ⟨RX3, TX3, rfl, clX3, tyX3_ok, nmX3, by decide, rfl, rfl, rfl, gw_of2 81 rfl rfl⟩
theorem fdX3_26 : FD RX3 26 3 3 (.object "CountyPrint$Sightings") true := ⟨RX3, TX3, rfl, clX3, tyX3_ok, nmX3, by decide, rfl, rfl, rfl, gw_of2 82 rfl rfl⟩
theorem cnX11_76 : CN RX11 76 6 := ⟨RX6, TX6, rfl, clX6, tyX6_ok, by decide +kernel, gw_of2 92 rfl rfl, gw_of2 93 rfl rfl, gw_of1 15 rfl rfl⟩
theorem klX11_76 : Cond.classLink RX11 76 RX6 ∈ gw := gw_of2 92 rfl rfl
theorem cniX11_78 : CIN RX11 78 YX6_init := ⟨cbX6_init, lw_of2 94 rfl, gw_of2 95 rfl rfl, rfl, rfl⟩
theorem oiX6_3 : Cond.methodLink RX6 3 objectInit ∈ gw := gw_of2 97 rfl rfl
theorem fdX6_9 : FD RX6 9 6 0 (.array .int) true := ⟨RX6, TX6, rfl, clX6, tyX6_ok, nmX6, by decide, rfl, rfl, rfl, gw_of2 98 rfl rfl⟩
theorem fdX6_15 : FD RX6 15 6 1 (.array .int) true := ⟨RX6, TX6, rfl, clX6, tyX6_ok, nmX6, by decide, rfl, rfl, rfl, gw_of2 99 rfl rfl⟩
theorem fdX11_267 : FD RX11 267 6 1 (.array .int) true := ⟨RX6, TX6, rfl, clX6, tyX6_ok, nmX6, by decide, rfl, rfl, rfl, gw_of2 100 rfl rfl⟩
theorem fdX6_18 : FD RX6 18 6 2 .int false := ⟨RX6, TX6, rfl, clX6, tyX6_ok, nmX6, by decide, rfl, rfl, rfl, gw_of2 101 rfl rfl⟩
theorem fdX11_264 : FD RX11 264 6 2 .int false := ⟨RX6, TX6, rfl, clX6, tyX6_ok, nmX6, by decide, rfl, rfl, rfl, gw_of2 102 rfl rfl⟩
theorem cnX11_83 : CN RX11 83 1 := ⟨RX1, TX1, rfl, clX1, tyX1_ok, by decide +kernel, gw_of2 110 rfl rfl, gw_of2 111 rfl rfl, gw_of1 16 rfl rfl⟩
theorem klX11_83 : Cond.classLink RX11 83 RX1 ∈ gw := gw_of2 110 rfl rfl
theorem cniX11_85 : CIN RX11 85 YX1_init := ⟨cbX1_init, lw_of2 112 rfl, gw_of2 113 rfl rfl, rfl, rfl⟩
theorem oiX1_1 : Cond.methodLink RX1 1 objectInit ∈ gw := gw_of2 115 rfl rfl
theorem fdX1_7 : FD RX1 7 1 0 .long false := ⟨RX1, TX1, rfl, clX1, tyX1_ok, nmX1, by decide, rfl, rfl, rfl, gw_of2 116 rfl rfl⟩
theorem fdX11_22 : FD RX11 22 11 0 (.object "CountyPrint$Tape") true := ⟨RX11, TX11, rfl, clX11, tyX11_ok, nmX11, by decide, rfl, rfl, rfl, gw_of2 120 rfl rfl⟩
theorem fdX11_31 : FD RX11 31 11 1 (.object "CountyPrint$Reader") true := ⟨RX11, TX11, rfl, clX11, tyX11_ok, nmX11, by decide, rfl, rfl, rfl, gw_of2 121 rfl rfl⟩
theorem fdX11_10 : FD RX11 10 11 2 (.object "CountyPrint$County") false := ⟨RX11, TX11, rfl, clX11, tyX11_ok, nmX11, by decide, rfl, rfl, rfl, gw_of2 122 rfl rfl⟩
theorem fdX11_16 : FD RX11 16 11 3 (.object "CountyPrint$County") false := ⟨RX11, TX11, rfl, clX11, tyX11_ok, nmX11, by decide, rfl, rfl, rfl, gw_of2 123 rfl rfl⟩
theorem fdX11_38 : FD RX11 38 11 4 (.object "CountyPrint$Plan") false := ⟨RX11, TX11, rfl, clX11, tyX11_ok, nmX11, by decide, rfl, rfl, rfl, gw_of2 124 rfl rfl⟩
theorem fdX11_42 : FD RX11 42 11 5 (.object "CountyPrint$Plan") false := ⟨RX11, TX11, rfl, clX11, tyX11_ok, nmX11, by decide, rfl, rfl, rfl, gw_of2 125 rfl rfl⟩
theorem fdX11_48 : FD RX11 48 11 6 (.object "CountyPrint$Travel") true := ⟨RX11, TX11, rfl, clX11, tyX11_ok, nmX11, by decide, rfl, rfl, rfl, gw_of2 126 rfl rfl⟩
theorem fdX11_52 : FD RX11 52 11 7 (.object "CountyPrint$Travel") true := ⟨RX11, TX11, rfl, clX11, tyX11_ok, nmX11, by decide, rfl, rfl, rfl, gw_of2 127 rfl rfl⟩
theorem fdX11_58 : FD RX11 58 11 8 (.object "CountyPrint$Past") true := ⟨RX11, TX11, rfl, clX11, tyX11_ok, nmX11, by decide, rfl, rfl, rfl, gw_of2 128 rfl rfl⟩
theorem fdX11_65 : FD RX11 65 11 9 (.object "CountyPrint$Sightings") true := ⟨RX11, TX11, rfl, clX11, tyX11_ok, nmX11, by decide, rfl, rfl, rfl, gw_of2 129 rfl rfl⟩
theorem fdX11_71 : FD RX11 71 11 10 (.array (.object "CountyPrint$Mark")) true := ⟨RX11, TX11, rfl, clX11, tyX11_ok, nmX11, by decide, rfl, rfl, rfl, gw_of2 130 rfl rfl⟩
theorem fdX11_79 : FD RX11 79 11 11 (.object "CountyPrint$Ranking") true := ⟨RX11, TX11, rfl, clX11, tyX11_ok, nmX11, by decide, rfl, rfl, rfl, gw_of2 131 rfl rfl⟩
theorem fdX11_86 : FD RX11 86 11 12 (.object "CountyPrint$Draws") true := ⟨RX11, TX11, rfl, clX11, tyX11_ok, nmX11, by decide, rfl, rfl, rfl, gw_of2 132 rfl rfl⟩
theorem fdX11_90 : FD RX11 90 11 13 (.array .int) true := ⟨RX11, TX11, rfl, clX11, tyX11_ok, nmX11, by decide, rfl, rfl, rfl, gw_of2 133 rfl rfl⟩
theorem cvL_25 : CV RL 25 YX11_feed := ⟨cbX11_feed, gw_of2 163 rfl rfl, gw_of2 164 rfl rfl, gw_of2 165 rfl rfl⟩
theorem cvX11_94 : CV RX11 94 YX9_addBytes := ⟨cbX9_addBytes, gw_of2 167 rfl rfl, gw_of2 168 rfl rfl, gw_of2 169 rfl rfl⟩
theorem cvL_30 : CV RL 30 YX11_county := ⟨cbX11_county, gw_of2 171 rfl rfl, gw_of2 172 rfl rfl, gw_of2 173 rfl rfl⟩
theorem cvX11_102 : CV RX11 102 YX7_readCounty := ⟨cbX7_readCounty, gw_of2 175 rfl rfl, gw_of2 176 rfl rfl, gw_of2 177 rfl rfl⟩
theorem cvX7_19 : CV RX7 19 YX7_begin := ⟨cbX7_begin, gw_of2 179 rfl rfl, gw_of2 181 rfl rfl, gw_sel 0 (q := (yX7_begin, 3)) (by decide +kernel) (by decide +kernel)⟩
theorem cvX7_64 : CV RX7 64 YX9_start := ⟨cbX9_start, gw_of2 183 rfl rfl, gw_of2 184 rfl rfl, gw_of2 185 rfl rfl⟩
theorem cvX9_40 : CV RX9 40 YX9_advance := ⟨cbX9_advance, gw_of2 187 rfl rfl, gw_of2 188 rfl rfl, gw_of2 189 rfl rfl⟩
theorem csX9_56 : CS RX9 56 YX9_isLetter := ⟨cbX9_isLetter, gw_of2 191 rfl rfl, gw_of2 192 rfl rfl⟩
theorem cvX9_60 : CV RX9 60 YX9_takeWord := ⟨cbX9_takeWord, gw_of2 194 rfl rfl, gw_of2 196 rfl rfl, gw_sel 1 (q := (yX9_takeWord, 10)) (by decide +kernel) (by decide +kernel)⟩
theorem csX9_63 : CS RX9 63 YX9_isDigit := ⟨cbX9_isDigit, gw_of2 198 rfl rfl, gw_of2 199 rfl rfl⟩
theorem cvX9_66 : CV RX9 66 YX9_takeNumber := ⟨cbX9_takeNumber, gw_of2 201 rfl rfl, gw_of2 203 rfl rfl, gw_sel 2 (q := (yX9_takeNumber, 10)) (by decide +kernel) (by decide +kernel)⟩
theorem cvX9_69 : CV RX9 69 YX9_takeSign := ⟨cbX9_takeSign, gw_of2 205 rfl rfl, gw_of2 207 rfl rfl, gw_sel 3 (q := (yX9_takeSign, 10)) (by decide +kernel) (by decide +kernel)⟩
theorem cvX7_23 : CV RX7 23 YX0_clear := ⟨cbX0_clear, gw_of2 209 rfl rfl, gw_of2 210 rfl rfl, gw_of2 211 rfl rfl⟩
theorem cvX7_37 : CV RX7 37 YX7_readShot := ⟨cbX7_readShot, gw_of2 213 rfl rfl, gw_of2 215 rfl rfl, gw_sel 4 (q := (yX7_readShot, 3)) (by decide +kernel) (by decide +kernel)⟩
theorem cvX7_47 : CV RX7 47 YX7_fail := ⟨cbX7_fail, gw_of2 217 rfl rfl, gw_of2 219 rfl rfl, gw_sel 5 (q := (yX7_fail, 3)) (by decide +kernel) (by decide +kernel)⟩
theorem cvX7_73 : CV RX7 73 YX9_advance := ⟨cbX9_advance, gw_of2 221 rfl rfl, gw_of2 188 rfl rfl, gw_of2 189 rfl rfl⟩
theorem cvX7_80 : CV RX7 80 YX7_takeNewName := ⟨cbX7_takeNewName, gw_of2 222 rfl rfl, gw_of2 224 rfl rfl, gw_sel 6 (q := (yX7_takeNewName, 3)) (by decide +kernel) (by decide +kernel)⟩
theorem cvX7_107 : CV RX7 107 YX7_isName := ⟨cbX7_isName, gw_of2 226 rfl rfl, gw_of2 228 rfl rfl, gw_sel 7 (q := (yX7_isName, 3)) (by decide +kernel) (by decide +kernel)⟩
theorem cvX7_100 : CV RX7 100 YX0_shotNamed := ⟨cbX0_shotNamed, gw_of2 230 rfl rfl, gw_of2 231 rfl rfl, gw_of2 232 rfl rfl⟩
theorem cvX7_141 : CV RX7 141 YX0_hallNamed := ⟨cbX0_hallNamed, gw_of2 234 rfl rfl, gw_of2 235 rfl rfl, gw_of2 236 rfl rfl⟩
theorem cvX7_83 : CV RX7 83 YX7_takeKeyword := ⟨cbX7_takeKeyword, gw_of2 238 rfl rfl, gw_of3 0 rfl rfl, gw_sel 8 (q := (yX7_takeKeyword, 3)) (by decide +kernel) (by decide +kernel)⟩
theorem cvX7_89 : CV RX7 89 YX7_takeNumber := ⟨cbX7_takeNumber, gw_of3 2 rfl rfl, gw_of3 4 rfl rfl, gw_sel 9 (q := (yX7_takeNumber, 3)) (by decide +kernel) (by decide +kernel)⟩
theorem cvX7_93 : CV RX7 93 YX7_takeSemicolon := ⟨cbX7_takeSemicolon, gw_of3 6 rfl rfl, gw_of3 8 rfl rfl, gw_sel 10 (q := (yX7_takeSemicolon, 3)) (by decide +kernel) (by decide +kernel)⟩
theorem cvX7_144 : CV RX7 144 YX9_isSign := ⟨cbX9_isSign, gw_of3 10 rfl rfl, gw_of3 11 rfl rfl, gw_of3 12 rfl rfl⟩
theorem cvX7_96 : CV RX7 96 YX0_addShot := ⟨cbX0_addShot, gw_of3 14 rfl rfl, gw_of3 15 rfl rfl, gw_of3 16 rfl rfl⟩
theorem cvX7_41 : CV RX7 41 YX7_readNeeds := ⟨cbX7_readNeeds, gw_of3 18 rfl rfl, gw_of3 20 rfl rfl, gw_sel 11 (q := (yX7_readNeeds, 3)) (by decide +kernel) (by decide +kernel)⟩
theorem cvX7_104 : CV RX7 104 YX7_takeTold := ⟨cbX7_takeTold, gw_of3 22 rfl rfl, gw_of3 24 rfl rfl, gw_sel 12 (q := (yX7_takeTold, 3)) (by decide +kernel) (by decide +kernel)⟩
theorem cvX7_110 : CV RX7 110 YX0_isNeeded := ⟨cbX0_isNeeded, gw_of3 26 rfl rfl, gw_of3 27 rfl rfl, gw_of3 28 rfl rfl⟩
theorem cvX0_51 : CV RX0 51 YX0_isShot := ⟨cbX0_isShot, gw_of3 30 rfl rfl, gw_of3 31 rfl rfl, gw_of3 32 rfl rfl⟩
theorem cvX7_113 : CV RX7 113 YX0_addNeed := ⟨cbX0_addNeed, gw_of3 34 rfl rfl, gw_of3 35 rfl rfl, gw_of3 36 rfl rfl⟩
theorem cvX7_44 : CV RX7 44 YX7_readHall := ⟨cbX7_readHall, gw_of3 38 rfl rfl, gw_of3 40 rfl rfl, gw_sel 13 (q := (yX7_readHall, 3)) (by decide +kernel) (by decide +kernel)⟩
theorem cvX7_120 : CV RX7 120 YX7_readExpression := ⟨cbX7_readExpression, gw_of3 42 rfl rfl, gw_of3 44 rfl rfl, gw_sel 14 (q := (yX7_readExpression, 3)) (by decide +kernel) (by decide +kernel)⟩
theorem cvX7_148 : CV RX7 148 YX7_readTest := ⟨cbX7_readTest, gw_of3 46 rfl rfl, gw_of3 48 rfl rfl, gw_sel 15 (q := (yX7_readTest, 3)) (by decide +kernel) (by decide +kernel)⟩
theorem cvX7_160 : CV RX7 160 YX7_readSum := ⟨cbX7_readSum, gw_of3 50 rfl rfl, gw_of3 52 rfl rfl, gw_sel 16 (q := (yX7_readSum, 3)) (by decide +kernel) (by decide +kernel)⟩
theorem cvX7_163 : CV RX7 163 YX7_readProduct := ⟨cbX7_readProduct, gw_of3 54 rfl rfl, gw_of3 56 rfl rfl, gw_sel 17 (q := (yX7_readProduct, 3)) (by decide +kernel) (by decide +kernel)⟩
theorem cvX7_166 : CV RX7 166 YX7_readPart := ⟨cbX7_readPart, gw_of3 58 rfl rfl, gw_of3 60 rfl rfl, gw_sel 18 (q := (yX7_readPart, 3)) (by decide +kernel) (by decide +kernel)⟩
theorem cvX7_157 : CV RX7 157 YX2_add := ⟨cbX2_add, gw_of3 62 rfl rfl, gw_of3 63 rfl rfl, gw_of3 64 rfl rfl⟩
theorem cvX7_169 : CV RX7 169 YX7_readBracketed := ⟨cbX7_readBracketed, gw_of3 66 rfl rfl, gw_of3 68 rfl rfl, gw_sel 19 (q := (yX7_readBracketed, 3)) (by decide +kernel) (by decide +kernel)⟩
theorem cvX7_172 : CV RX7 172 YX7_readNegated := ⟨cbX7_readNegated, gw_of3 70 rfl rfl, gw_of3 72 rfl rfl, gw_sel 20 (q := (yX7_readNegated, 3)) (by decide +kernel) (by decide +kernel)⟩
theorem cvX7_123 : CV RX7 123 YX0_addHall := ⟨cbX0_addHall, gw_of3 74 rfl rfl, gw_of3 75 rfl rfl, gw_of3 76 rfl rfl⟩
theorem cvX11_106 : CV RX11 106 YX0_judgeAll := ⟨cbX0_judgeAll, gw_of3 78 rfl rfl, gw_of3 79 rfl rfl, gw_of3 80 rfl rfl⟩
theorem cvX0_89 : CV RX0 89 YX0_judge := ⟨cbX0_judge, gw_of3 82 rfl rfl, gw_of3 84 rfl rfl, gw_sel 21 (q := (yX0_judge, 10)) (by decide +kernel) (by decide +kernel)⟩
theorem cvX0_85 : CV RX0 85 YX0_keyOf := ⟨cbX0_keyOf, gw_of3 86 rfl rfl, gw_of3 88 rfl rfl, gw_sel 22 (q := (yX0_keyOf, 10)) (by decide +kernel) (by decide +kernel)⟩
theorem cvX0_73 : CV RX0 73 YX0_isHall := ⟨cbX0_isHall, gw_of3 90 rfl rfl, gw_of3 91 rfl rfl, gw_of3 92 rfl rfl⟩
theorem cvX0_93 : CV RX0 93 YX2_valueFor := ⟨cbX2_valueFor, gw_of3 94 rfl rfl, gw_of3 95 rfl rfl, gw_of3 96 rfl rfl⟩
theorem csX2_25 : CS RX2 25 YX2_join := ⟨cbX2_join, gw_of3 98 rfl rfl, gw_of3 99 rfl rfl⟩
theorem cvX11_109 : CV RX11 109 YX11_beginAnew := ⟨cbX11_beginAnew, gw_of3 101 rfl rfl, gw_of3 103 rfl rfl, gw_sel 23 (q := (yX11_beginAnew, 14)) (by decide +kernel) (by decide +kernel)⟩
theorem cvX11_191 : CV RX11 191 YX0_film := ⟨cbX0_film, gw_of3 105 rfl rfl, gw_of3 106 rfl rfl, gw_of3 107 rfl rfl⟩
theorem cvX11_194 : CV RX11 194 YX10_begin := ⟨cbX10_begin, gw_of3 109 rfl rfl, gw_of3 110 rfl rfl, gw_of3 111 rfl rfl⟩
theorem cvX11_342 : CV RX11 342 YX5_clear := ⟨cbX5_clear, gw_of3 113 rfl rfl, gw_of3 114 rfl rfl, gw_of3 115 rfl rfl⟩
theorem cvX11_334 : CV RX11 334 YX4_forget := ⟨cbX4_forget, gw_of3 117 rfl rfl, gw_of3 118 rfl rfl, gw_of3 119 rfl rfl⟩
theorem cvL_35 : CV RL 35 YX11_round := ⟨cbX11_round, gw_of3 121 rfl rfl, gw_of3 122 rfl rfl, gw_of3 123 rfl rfl⟩
theorem cvX11_112 : CV RX11 112 YX7_readPlan := ⟨cbX7_readPlan, gw_of3 125 rfl rfl, gw_of3 126 rfl rfl, gw_of3 127 rfl rfl⟩
theorem cvX7_57 : CV RX7 57 YX5_clear := ⟨cbX5_clear, gw_of3 129 rfl rfl, gw_of3 114 rfl rfl, gw_of3 115 rfl rfl⟩
theorem cvX7_60 : CV RX7 60 YX7_readPlanLine := ⟨cbX7_readPlanLine, gw_of3 130 rfl rfl, gw_of3 132 rfl rfl, gw_sel 24 (q := (yX7_readPlanLine, 3)) (by decide +kernel) (by decide +kernel)⟩
theorem cvX7_130 : CV RX7 130 YX7_readHandling := ⟨cbX7_readHandling, gw_of3 134 rfl rfl, gw_of3 136 rfl rfl, gw_sel 25 (q := (yX7_readHandling, 3)) (by decide +kernel) (by decide +kernel)⟩
theorem cvX7_137 : CV RX7 137 YX5_add := ⟨cbX5_add, gw_of3 138 rfl rfl, gw_of3 139 rfl rfl, gw_of3 140 rfl rfl⟩
theorem cvX7_134 : CV RX7 134 YX7_readBare := ⟨cbX7_readBare, gw_of3 142 rfl rfl, gw_of3 144 rfl rfl, gw_sel 26 (q := (yX7_readBare, 3)) (by decide +kernel) (by decide +kernel)⟩
theorem cvL_39 : CV RL 39 YX11_shot := ⟨cbX11_shot, gw_of3 146 rfl rfl, gw_of3 147 rfl rfl, gw_of3 148 rfl rfl⟩
theorem cvX11_116 : CV RX11 116 YX0_isShot := ⟨cbX0_isShot, gw_of3 150 rfl rfl, gw_of3 31 rfl rfl, gw_of3 32 rfl rfl⟩
theorem cvL_44 : CV RL 44 YX11_hall := ⟨cbX11_hall, gw_of3 151 rfl rfl, gw_of3 152 rfl rfl, gw_of3 153 rfl rfl⟩
theorem cvX11_132 : CV RX11 132 YX0_isHall := ⟨cbX0_isHall, gw_of3 155 rfl rfl, gw_of3 91 rfl rfl, gw_of3 92 rfl rfl⟩
theorem cvX11_141 : CV RX11 141 YX10_swapPlace := ⟨cbX10_swapPlace, gw_of3 156 rfl rfl, gw_of3 157 rfl rfl, gw_of3 158 rfl rfl⟩
theorem cvX11_145 : CV RX11 145 YX0_takenOut := ⟨cbX0_takenOut, gw_of3 160 rfl rfl, gw_of3 161 rfl rfl, gw_of3 162 rfl rfl⟩
theorem cvX0_76 : CV RX0 76 YX0_hatedIn := ⟨cbX0_hatedIn, gw_of3 164 rfl rfl, gw_of3 165 rfl rfl, gw_of3 166 rfl rfl⟩
theorem cvX0_79 : CV RX0 79 YX0_behind := ⟨cbX0_behind, gw_of3 168 rfl rfl, gw_of3 170 rfl rfl, gw_sel 27 (q := (yX0_behind, 10)) (by decide +kernel) (by decide +kernel)⟩
theorem cvX0_82 : CV RX0 82 YX0_lastOf := ⟨cbX0_lastOf, gw_of3 172 rfl rfl, gw_of3 174 rfl rfl, gw_sel 28 (q := (yX0_lastOf, 10)) (by decide +kernel) (by decide +kernel)⟩
theorem cvL_48 : CV RL 48 YX11_show := ⟨cbX11_show, gw_of3 176 rfl rfl, gw_of3 177 rfl rfl, gw_of3 178 rfl rfl⟩
theorem cvX11_152 : CV RX11 152 YX4_keep := ⟨cbX4_keep, gw_of3 180 rfl rfl, gw_of3 181 rfl rfl, gw_of3 182 rfl rfl⟩
theorem cvX4_22 : CV RX4 22 YX10_copy := ⟨cbX10_copy, gw_of3 184 rfl rfl, gw_of3 185 rfl rfl, gw_of3 186 rfl rfl⟩
theorem mmX4_29 : Cond.methodLink RX4 29 Lib.Math.min.name ∈ gw := gw_of3 188 rfl rfl
theorem cvX11_156 : CV RX11 156 YX10_showNext := ⟨cbX10_showNext, gw_of3 191 rfl rfl, gw_of3 192 rfl rfl, gw_of3 193 rfl rfl⟩
theorem cvX10_42 : CV RX10 42 YX10_showAt := ⟨cbX10_showAt, gw_of3 195 rfl rfl, gw_of3 196 rfl rfl, gw_of3 197 rfl rfl⟩
theorem cvX10_38 : CV RX10 38 YX0_takenOut := ⟨cbX0_takenOut, gw_of3 199 rfl rfl, gw_of3 161 rfl rfl, gw_of3 162 rfl rfl⟩
theorem cvX10_46 : CV RX10 46 YX10_swapPlace := ⟨cbX10_swapPlace, gw_of3 200 rfl rfl, gw_of3 157 rfl rfl, gw_of3 158 rfl rfl⟩
theorem cvX11_159 : CV RX11 159 YX0_minutesOf := ⟨cbX0_minutesOf, gw_of3 201 rfl rfl, gw_of3 202 rfl rfl, gw_of3 203 rfl rfl⟩
theorem cvL_52 : CV RL 52 YX11_give := ⟨cbX11_give, gw_of3 205 rfl rfl, gw_of3 206 rfl rfl, gw_of3 207 rfl rfl⟩
theorem cvX11_163 : CV RX11 163 YX11_liesIn := ⟨cbX11_liesIn, gw_of3 209 rfl rfl, gw_of3 211 rfl rfl, gw_sel 29 (q := (yX11_liesIn, 14)) (by decide +kernel) (by decide +kernel)⟩
theorem cvX11_345 : CV RX11 345 YX10_holds := ⟨cbX10_holds, gw_of3 213 rfl rfl, gw_of3 214 rfl rfl, gw_of3 215 rfl rfl⟩
theorem cvX11_167 : CV RX11 167 YX10_giveBack := ⟨cbX10_giveBack, gw_of3 217 rfl rfl, gw_of3 218 rfl rfl, gw_of3 219 rfl rfl⟩
theorem cvX10_34 : CV RX10 34 YX10_holds := ⟨cbX10_holds, gw_of3 221 rfl rfl, gw_of3 214 rfl rfl, gw_of3 215 rfl rfl⟩
theorem csX11_171 : CS RX11 171 YJ6_bitCount_0f7a4 := ⟨cbJ6_bitCount_0f7a4, gw_of3 222 rfl rfl, gw_of3 223 rfl rfl⟩
theorem kiJ6_265 : Cond.constant RJ6 265 (1431655765) ∈ gw := gw_of3 225 rfl rfl
theorem kiJ6_266 : Cond.constant RJ6 266 (858993459) ∈ gw := gw_of3 226 rfl rfl
theorem kiJ6_267 : Cond.constant RJ6 267 (252645135) ∈ gw := gw_of3 227 rfl rfl
theorem cvL_56 : CV RL 56 YX11_trade := ⟨cbX11_trade, gw_of3 228 rfl rfl, gw_of3 229 rfl rfl, gw_of3 230 rfl rfl⟩
theorem cvX11_176 : CV RX11 176 YX10_handOver := ⟨cbX10_handOver, gw_of3 232 rfl rfl, gw_of3 233 rfl rfl, gw_of3 234 rfl rfl⟩
theorem cvL_61 : CV RL 61 YX11_turn := ⟨cbX11_turn, gw_of3 236 rfl rfl, gw_of3 237 rfl rfl, gw_of3 238 rfl rfl⟩
theorem cvX11_180 : CV RX11 180 YX10_turnRound := ⟨cbX10_turnRound, gw_of4 0 rfl rfl, gw_of4 1 rfl rfl, gw_of4 2 rfl rfl⟩
theorem cvX11_183 : CV RX11 183 YX11_nextHall := ⟨cbX11_nextHall, gw_of4 4 rfl rfl, gw_of4 6 rfl rfl, gw_sel 30 (q := (yX11_nextHall, 14)) (by decide +kernel) (by decide +kernel)⟩
theorem cvL_65 : CV RL 65 YX11_undo := ⟨cbX11_undo, gw_of4 8 rfl rfl, gw_of4 9 rfl rfl, gw_of4 10 rfl rfl⟩
theorem cvX11_187 : CV RX11 187 YX4_takeBack := ⟨cbX4_takeBack, gw_of4 12 rfl rfl, gw_of4 13 rfl rfl, gw_of4 14 rfl rfl⟩
theorem cvL_70 : CV RL 70 YX11_judged := ⟨cbX11_judged, gw_of4 16 rfl rfl, gw_of4 17 rfl rfl, gw_of4 18 rfl rfl⟩
theorem cvX11_201 : CV RX11 201 YX5_isPossible := ⟨cbX5_isPossible, gw_of4 20 rfl rfl, gw_of4 21 rfl rfl, gw_of4 22 rfl rfl⟩
theorem cvX5_33 : CV RX5 33 YX10_holds := ⟨cbX10_holds, gw_of4 24 rfl rfl, gw_of3 214 rfl rfl, gw_of3 215 rfl rfl⟩
theorem cvX11_205 : CV RX11 205 YX5_follow := ⟨cbX5_follow, gw_of4 25 rfl rfl, gw_of4 26 rfl rfl, gw_of4 27 rfl rfl⟩
theorem cvX5_39 : CV RX5 39 YX10_showNext := ⟨cbX10_showNext, gw_of4 29 rfl rfl, gw_of3 192 rfl rfl, gw_of3 193 rfl rfl⟩
theorem cvX5_43 : CV RX5 43 YX10_giveBack := ⟨cbX10_giveBack, gw_of4 30 rfl rfl, gw_of3 218 rfl rfl, gw_of3 219 rfl rfl⟩
theorem cvX5_47 : CV RX5 47 YX10_handOver := ⟨cbX10_handOver, gw_of4 31 rfl rfl, gw_of3 233 rfl rfl, gw_of3 234 rfl rfl⟩
theorem cvX5_51 : CV RX5 51 YX10_turnRound := ⟨cbX10_turnRound, gw_of4 32 rfl rfl, gw_of4 1 rfl rfl, gw_of4 2 rfl rfl⟩
theorem cvX11_212 : CV RX11 212 YX0_makesSense := ⟨cbX0_makesSense, gw_of4 33 rfl rfl, gw_of4 34 rfl rfl, gw_of4 35 rfl rfl⟩
theorem cvL_74 : CV RL 74 YX11_shown := ⟨cbX11_shown, gw_of4 37 rfl rfl, gw_of4 38 rfl rfl, gw_of4 39 rfl rfl⟩
theorem cvX11_215 : CV RX11 215 YX11_rowShownAt := ⟨cbX11_rowShownAt, gw_of4 41 rfl rfl, gw_of4 43 rfl rfl, gw_sel 31 (q := (yX11_rowShownAt, 14)) (by decide +kernel) (by decide +kernel)⟩
theorem cvX11_227 : CV RX11 227 YX11_isAhead := ⟨cbX11_isAhead, gw_of4 45 rfl rfl, gw_of4 47 rfl rfl, gw_sel 32 (q := (yX11_isAhead, 14)) (by decide +kernel) (by decide +kernel)⟩
theorem cvX11_221 : CV RX11 221 YX11_nextPlace := ⟨cbX11_nextPlace, gw_of4 49 rfl rfl, gw_of4 51 rfl rfl, gw_sel 33 (q := (yX11_nextPlace, 14)) (by decide +kernel) (by decide +kernel)⟩
theorem cvX11_218 : CV RX11 218 YX0_shotAt := ⟨cbX0_shotAt, gw_of4 53 rfl rfl, gw_of4 54 rfl rfl, gw_of4 55 rfl rfl⟩
theorem cvL_78 : CV RL 78 YX11_minutes := ⟨cbX11_minutes, gw_of4 57 rfl rfl, gw_of4 58 rfl rfl, gw_of4 59 rfl rfl⟩
theorem cvL_82 : CV RL 82 YX11_silly := ⟨cbX11_silly, gw_of4 61 rfl rfl, gw_of4 62 rfl rfl, gw_of4 63 rfl rfl⟩
theorem cvL_86 : CV RL 86 YX11_lasts := ⟨cbX11_lasts, gw_of4 65 rfl rfl, gw_of4 66 rfl rfl, gw_of4 67 rfl rfl⟩
theorem cvX11_224 : CV RX11 224 YX10_copy := ⟨cbX10_copy, gw_of4 69 rfl rfl, gw_of3 185 rfl rfl, gw_of3 186 rfl rfl⟩
theorem cvL_90 : CV RL 90 YX11_sense := ⟨cbX11_sense, gw_of4 70 rfl rfl, gw_of4 71 rfl rfl, gw_of4 72 rfl rfl⟩
theorem cvL_94 : CV RL 94 YX11_gone := ⟨cbX11_gone, gw_of4 74 rfl rfl, gw_of4 75 rfl rfl, gw_of4 76 rfl rfl⟩
theorem cvL_107 : CV RL 107 YX11_kin := ⟨cbX11_kin, gw_of4 78 rfl rfl, gw_of4 79 rfl rfl, gw_of4 80 rfl rfl⟩
theorem cvX11_240 : CV RX11 240 YX0_allNeeds := ⟨cbX0_allNeeds, gw_of4 82 rfl rfl, gw_of4 83 rfl rfl, gw_of4 84 rfl rfl⟩
theorem cvL_111 : CV RL 111 YX11_hoard := ⟨cbX11_hoard, gw_of4 86 rfl rfl, gw_of4 87 rfl rfl, gw_of4 88 rfl rfl⟩
theorem cvX11_243 : CV RX11 243 YX0_shotsOfSort := ⟨cbX0_shotsOfSort, gw_of4 90 rfl rfl, gw_of4 91 rfl rfl, gw_of4 92 rfl rfl⟩
theorem cvL_115 : CV RL 115 YX11_longest := ⟨cbX11_longest, gw_of4 94 rfl rfl, gw_of4 95 rfl rfl, gw_of4 96 rfl rfl⟩
theorem cvX11_249 : CV RX11 249 YX0_unlikeFrom := ⟨cbX0_unlikeFrom, gw_of4 98 rfl rfl, gw_of4 99 rfl rfl, gw_of4 100 rfl rfl⟩
theorem mmX0_67 : Cond.methodLink RX0 67 Lib.Math.max.name ∈ gw := gw_of4 102 rfl rfl
theorem csX0_62 : CS RX0 62 YJ6_bitCount_0f7a4 := ⟨cbJ6_bitCount_0f7a4, gw_of4 105 rfl rfl, gw_of3 223 rfl rfl⟩
theorem mmX11_252 : Cond.methodLink RX11 252 Lib.Math.max.name ∈ gw := gw_of4 106 rfl rfl
theorem cvL_119 : CV RL 119 YX11_order := ⟨cbX11_order, gw_of4 107 rfl rfl, gw_of4 108 rfl rfl, gw_of4 109 rfl rfl⟩
theorem cvX11_257 : CV RX11 257 YX11_hallsAhead := ⟨cbX11_hallsAhead, gw_of4 111 rfl rfl, gw_of4 113 rfl rfl, gw_sel 34 (q := (yX11_hallsAhead, 14)) (by decide +kernel) (by decide +kernel)⟩
theorem cvX11_260 : CV RX11 260 YX6_find := ⟨cbX6_find, gw_of4 115 rfl rfl, gw_of4 116 rfl rfl, gw_of4 117 rfl rfl⟩
theorem cvX6_22 : CV RX6 22 YX6_search := ⟨cbX6_search, gw_of4 119 rfl rfl, gw_of4 121 rfl rfl, gw_sel 35 (q := (yX6_search, 3)) (by decide +kernel) (by decide +kernel)⟩
theorem cvX6_26 : CV RX6 26 YX6_keepPath := ⟨cbX6_keepPath, gw_of4 123 rfl rfl, gw_of4 125 rfl rfl, gw_sel 36 (q := (yX6_keepPath, 3)) (by decide +kernel) (by decide +kernel)⟩
theorem csX6_29 : CS RX6 29 YJ6_bitCount_0f7a4 := ⟨cbJ6_bitCount_0f7a4, gw_of4 127 rfl rfl, gw_of3 223 rfl rfl⟩
theorem cvX6_35 : CV RX6 35 YX0_minutesOf := ⟨cbX0_minutesOf, gw_of4 128 rfl rfl, gw_of3 202 rfl rfl, gw_of3 203 rfl rfl⟩
theorem cvX6_43 : CV RX6 43 YX0_takenOut := ⟨cbX0_takenOut, gw_of4 129 rfl rfl, gw_of3 161 rfl rfl, gw_of3 162 rfl rfl⟩
theorem cvL_123 : CV RL 123 YX11_ride := ⟨cbX11_ride, gw_of4 130 rfl rfl, gw_of4 131 rfl rfl, gw_of4 132 rfl rfl⟩
theorem cvX11_270 : CV RX11 270 YX11_fillRows := ⟨cbX11_fillRows, gw_of4 134 rfl rfl, gw_of4 136 rfl rfl, gw_sel 37 (q := (yX11_fillRows, 14)) (by decide +kernel) (by decide +kernel)⟩
theorem cvX11_273 : CV RX11 273 YX11_seenBy := ⟨cbX11_seenBy, gw_of4 138 rfl rfl, gw_of4 140 rfl rfl, gw_sel 38 (q := (yX11_seenBy, 14)) (by decide +kernel) (by decide +kernel)⟩
theorem cvL_127 : CV RL 127 YX11_other := ⟨cbX11_other, gw_of4 142 rfl rfl, gw_of4 143 rfl rfl, gw_of4 144 rfl rfl⟩
theorem cvX11_276 : CV RX11 276 YX10_drawn := ⟨cbX10_drawn, gw_of4 146 rfl rfl, gw_of4 147 rfl rfl, gw_of4 148 rfl rfl⟩
theorem cvX11_279 : CV RX11 279 YX0_isLonger := ⟨cbX0_isLonger, gw_of4 150 rfl rfl, gw_of4 151 rfl rfl, gw_of4 152 rfl rfl⟩
theorem cvX0_58 : CV RX0 58 YX0_minutesOf := ⟨cbX0_minutesOf, gw_of4 154 rfl rfl, gw_of3 202 rfl rfl, gw_of3 203 rfl rfl⟩
theorem cvL_131 : CV RL 131 YX11_mends := ⟨cbX11_mends, gw_of4 155 rfl rfl, gw_of4 156 rfl rfl, gw_of4 157 rfl rfl⟩
theorem cvL_135 : CV RL 135 YX11_where := ⟨cbX11_where, gw_of4 159 rfl rfl, gw_of4 160 rfl rfl, gw_of4 161 rfl rfl⟩
theorem cvX11_282 : CV RX11 282 YX10_holderOf := ⟨cbX10_holderOf, gw_of4 163 rfl rfl, gw_of4 164 rfl rfl, gw_of4 165 rfl rfl⟩
theorem cvL_139 : CV RL 139 YX11_taste := ⟨cbX11_taste, gw_of4 167 rfl rfl, gw_of4 168 rfl rfl, gw_of4 169 rfl rfl⟩
theorem cvX11_285 : CV RX11 285 YX0_hatedIn := ⟨cbX0_hatedIn, gw_of4 171 rfl rfl, gw_of3 165 rfl rfl, gw_of3 166 rfl rfl⟩
theorem cvL_143 : CV RL 143 YX11_mild := ⟨cbX11_mild, gw_of4 172 rfl rfl, gw_of4 173 rfl rfl, gw_of4 174 rfl rfl⟩
theorem cvL_147 : CV RL 147 YX11_see := ⟨cbX11_see, gw_of4 176 rfl rfl, gw_of4 177 rfl rfl, gw_of4 178 rfl rfl⟩
theorem cvX11_288 : CV RX11 288 YX8_add := ⟨cbX8_add, gw_of4 180 rfl rfl, gw_of4 181 rfl rfl, gw_of4 182 rfl rfl⟩
theorem cvL_152 : CV RL 152 YX11_halls := ⟨cbX11_halls, gw_of4 184 rfl rfl, gw_of4 185 rfl rfl, gw_of4 186 rfl rfl⟩
theorem cvX11_292 : CV RX11 292 YX8_fit := ⟨cbX8_fit, gw_of4 188 rfl rfl, gw_of4 189 rfl rfl, gw_of4 190 rfl rfl⟩
theorem cvL_156 : CV RL 156 YX11_ask := ⟨cbX11_ask, gw_of4 192 rfl rfl, gw_of4 193 rfl rfl, gw_of4 194 rfl rfl⟩
theorem cvX11_295 : CV RX11 295 YX11_halls := ⟨cbX11_halls, gw_of4 196 rfl rfl, gw_of4 185 rfl rfl, gw_of4 186 rfl rfl⟩
theorem cvX11_298 : CV RX11 298 YX11_greaterPart := ⟨cbX11_greaterPart, gw_of4 197 rfl rfl, gw_of4 199 rfl rfl, gw_sel 39 (q := (yX11_greaterPart, 14)) (by decide +kernel) (by decide +kernel)⟩
theorem cvL_164 : CV RL 164 YX11_share := ⟨cbX11_share, gw_of4 201 rfl rfl, gw_of4 202 rfl rfl, gw_of4 203 rfl rfl⟩
theorem cvL_168 : CV RL 168 YX11_tours := ⟨cbX11_tours, gw_of4 205 rfl rfl, gw_of4 206 rfl rfl, gw_of4 207 rfl rfl⟩
theorem cvX11_312 : CV RX11 312 YX1_begin := ⟨cbX1_begin, gw_of4 209 rfl rfl, gw_of4 210 rfl rfl, gw_of4 211 rfl rfl⟩
theorem cvX11_313 : CV RX11 313 YX1_below := ⟨cbX1_below, gw_of4 213 rfl rfl, gw_of4 214 rfl rfl, gw_of4 215 rfl rfl⟩
theorem kcX1_13 : Cond.constantLong RX1 13 (1103515245) ∈ gw := gw_of4 217 rfl rfl
theorem kcX1_15 : Cond.constantLong RX1 15 (12345) ∈ gw := gw_of4 218 rfl rfl
theorem kcX1_17 : Cond.constantLong RX1 17 (2147483648) ∈ gw := gw_of4 219 rfl rfl
theorem kcX1_19 : Cond.constantLong RX1 19 (65536) ∈ gw := gw_of4 220 rfl rfl
theorem cvX11_316 : CV RX11 316 YX10_showAt := ⟨cbX10_showAt, gw_of4 221 rfl rfl, gw_of3 196 rfl rfl, gw_of3 197 rfl rfl⟩
theorem cvX11_320 : CV RX11 320 YX11_giveBackByDraw := ⟨cbX11_giveBackByDraw, gw_of4 222 rfl rfl, gw_of4 224 rfl rfl, gw_sel 40 (q := (yX11_giveBackByDraw, 14)) (by decide +kernel) (by decide +kernel)⟩
theorem cvL_173 : CV RL 173 YX11_mark := ⟨cbX11_mark, gw_of4 226 rfl rfl, gw_of4 227 rfl rfl, gw_of4 228 rfl rfl⟩
theorem cvX11_323 : CV RX11 323 YX3_lay := ⟨cbX3_lay, gw_of4 230 rfl rfl, gw_of4 231 rfl rfl, gw_of4 232 rfl rfl⟩
theorem cvX3_30 : CV RX3 30 YX10_copy := ⟨cbX10_copy, gw_of4 234 rfl rfl, gw_of3 185 rfl rfl, gw_of3 186 rfl rfl⟩
theorem cvX3_34 : CV RX3 34 YX5_copy := ⟨cbX5_copy, gw_of4 235 rfl rfl, gw_of4 236 rfl rfl, gw_of4 237 rfl rfl⟩
theorem cvX3_37 : CV RX3 37 YX8_copy := ⟨cbX8_copy, gw_of4 239 rfl rfl, gw_of5 0 rfl rfl, gw_of5 1 rfl rfl⟩
theorem cvX11_331 : CV RX11 331 YX3_goBack := ⟨cbX3_goBack, gw_of5 3 rfl rfl, gw_of5 4 rfl rfl, gw_of5 5 rfl rfl⟩
theorem cvL_177 : CV RL 177 YX11_count := ⟨cbX11_count, gw_of5 7 rfl rfl, gw_of5 8 rfl rfl, gw_of5 9 rfl rfl⟩
theorem cvL_7 : CV RL 7 YX11_saves := ⟨cbX11_saves, gw_of5 15 rfl rfl, gw_of5 16 rfl rfl, gw_of5 17 rfl rfl⟩
theorem cvX11_237 : CV RX11 237 YX11_minutesTogether := ⟨cbX11_minutesTogether, gw_of5 84 rfl rfl, gw_of5 86 rfl rfl, gw_sel 42 (q := (yX11_minutesTogether, 14)) (by decide +kernel) (by decide +kernel)⟩
theorem cvL_15 : CV RL 15 YX11_rests := ⟨cbX11_rests, gw_of5 91 rfl rfl, gw_of5 92 rfl rfl, gw_of5 93 rfl rfl⟩
theorem csX11_301 : CS RX11 301 YX11_isBid := ⟨cbX11_isBid, gw_of5 95 rfl rfl, gw_of5 96 rfl rfl⟩
theorem csX11_306 : CS RX11 306 YX11_isAtRest := ⟨cbX11_isAtRest, gw_of5 99 rfl rfl, gw_of5 100 rfl rfl⟩
theorem csX11_351 : CS RX11 351 YX11_gain := ⟨cbX11_gain, gw_of5 102 rfl rfl, gw_of5 103 rfl rfl⟩
theorem cnL_20 : CN RL 20 12 := ⟨RX12, TX12, rfl, clX12, tyX12_ok, by decide +kernel, gw_of5 106 rfl rfl, gw_of5 107 rfl rfl, gw_of1 17 rfl rfl⟩
theorem klL_20 : Cond.classLink RL 20 RX12 ∈ gw := gw_of5 106 rfl rfl
theorem ciiL_22 : CI RL 22 YX12_init := ⟨cbX12_init, gw_of5 108 rfl rfl, gw_of5 109 rfl rfl, rfl, rfl⟩
theorem oiX12_1 : Cond.methodLink RX12 1 objectInit ∈ gw := gw_of5 111 rfl rfl
theorem cvX12_135 : CV RX12 135 YX12_fresh := ⟨cbX12_fresh, gw_of5 112 rfl rfl, gw_of5 114 rfl rfl, gw_sel 43 (q := (yX12_fresh, 58)) (by decide +kernel) (by decide +kernel)⟩
theorem cvX12_314 : CV RX12 314 YX12_allShots := ⟨cbX12_allShots, gw_of5 116 rfl rfl, gw_of5 118 rfl rfl, gw_sel 44 (q := (yX12_allShots, 58)) (by decide +kernel) (by decide +kernel)⟩
theorem fdX12_138 : FD RX12 138 12 0 .int false := ⟨RX12, TX12, rfl, clX12, tyX12_ok, nmX12, by decide, rfl, rfl, rfl, gw_of5 120 rfl rfl⟩
theorem fdX12_144 : FD RX12 144 12 1 .int false := ⟨RX12, TX12, rfl, clX12, tyX12_ok, nmX12, by decide, rfl, rfl, rfl, gw_of5 121 rfl rfl⟩
theorem fdX12_7 : FD RX12 7 12 2 (.array .int) true := ⟨RX12, TX12, rfl, clX12, tyX12_ok, nmX12, by decide, rfl, rfl, rfl, gw_of5 122 rfl rfl⟩
theorem fdX12_147 : FD RX12 147 12 3 .int false := ⟨RX12, TX12, rfl, clX12, tyX12_ok, nmX12, by decide, rfl, rfl, rfl, gw_of5 123 rfl rfl⟩
theorem fdX12_150 : FD RX12 150 12 4 .int false := ⟨RX12, TX12, rfl, clX12, tyX12_ok, nmX12, by decide, rfl, rfl, rfl, gw_of5 124 rfl rfl⟩
theorem fdX12_153 : FD RX12 153 12 5 .int false := ⟨RX12, TX12, rfl, clX12, tyX12_ok, nmX12, by decide, rfl, rfl, rfl, gw_of5 125 rfl rfl⟩
theorem fdX12_163 : FD RX12 163 12 6 .int false := ⟨RX12, TX12, rfl, clX12, tyX12_ok, nmX12, by decide, rfl, rfl, rfl, gw_of5 126 rfl rfl⟩
theorem fdX12_156 : FD RX12 156 12 7 .long false := ⟨RX12, TX12, rfl, clX12, tyX12_ok, nmX12, by decide, rfl, rfl, rfl, gw_of5 127 rfl rfl⟩
theorem fdX12_160 : FD RX12 160 12 8 .int false := ⟨RX12, TX12, rfl, clX12, tyX12_ok, nmX12, by decide, rfl, rfl, rfl, gw_of5 128 rfl rfl⟩
theorem fdX12_174 : FD RX12 174 12 9 .int false := ⟨RX12, TX12, rfl, clX12, tyX12_ok, nmX12, by decide, rfl, rfl, rfl, gw_of5 129 rfl rfl⟩
theorem fdX12_13 : FD RX12 13 12 10 (.array .int) true := ⟨RX12, TX12, rfl, clX12, tyX12_ok, nmX12, by decide, rfl, rfl, rfl, gw_of5 130 rfl rfl⟩
theorem fdX12_16 : FD RX12 16 12 11 (.array .long) true := ⟨RX12, TX12, rfl, clX12, tyX12_ok, nmX12, by decide, rfl, rfl, rfl, gw_of5 131 rfl rfl⟩
theorem fdX12_20 : FD RX12 20 12 12 (.array .long) true := ⟨RX12, TX12, rfl, clX12, tyX12_ok, nmX12, by decide, rfl, rfl, rfl, gw_of5 132 rfl rfl⟩
theorem fdX12_23 : FD RX12 23 12 13 (.array .int) true := ⟨RX12, TX12, rfl, clX12, tyX12_ok, nmX12, by decide, rfl, rfl, rfl, gw_of5 133 rfl rfl⟩
theorem fdX12_26 : FD RX12 26 12 14 (.array .int) true := ⟨RX12, TX12, rfl, clX12, tyX12_ok, nmX12, by decide, rfl, rfl, rfl, gw_of5 134 rfl rfl⟩
theorem fdX12_29 : FD RX12 29 12 15 (.array .int) true := ⟨RX12, TX12, rfl, clX12, tyX12_ok, nmX12, by decide, rfl, rfl, rfl, gw_of5 135 rfl rfl⟩
theorem fdX12_32 : FD RX12 32 12 16 (.array .int) true := ⟨RX12, TX12, rfl, clX12, tyX12_ok, nmX12, by decide, rfl, rfl, rfl, gw_of5 136 rfl rfl⟩
theorem fdX12_35 : FD RX12 35 12 17 (.array .int) true := ⟨RX12, TX12, rfl, clX12, tyX12_ok, nmX12, by decide, rfl, rfl, rfl, gw_of5 137 rfl rfl⟩
theorem fdX12_38 : FD RX12 38 12 18 (.array .int) true := ⟨RX12, TX12, rfl, clX12, tyX12_ok, nmX12, by decide, rfl, rfl, rfl, gw_of5 138 rfl rfl⟩
theorem fdX12_41 : FD RX12 41 12 19 (.array .int) true := ⟨RX12, TX12, rfl, clX12, tyX12_ok, nmX12, by decide, rfl, rfl, rfl, gw_of5 139 rfl rfl⟩
theorem fdX12_177 : FD RX12 177 12 20 .int false := ⟨RX12, TX12, rfl, clX12, tyX12_ok, nmX12, by decide, rfl, rfl, rfl, gw_of5 140 rfl rfl⟩
theorem fdX12_44 : FD RX12 44 12 21 (.array .int) true := ⟨RX12, TX12, rfl, clX12, tyX12_ok, nmX12, by decide, rfl, rfl, rfl, gw_of5 141 rfl rfl⟩
theorem fdX12_47 : FD RX12 47 12 22 (.array .boolean) true := ⟨RX12, TX12, rfl, clX12, tyX12_ok, nmX12, by decide, rfl, rfl, rfl, gw_of5 142 rfl rfl⟩
theorem fdX12_51 : FD RX12 51 12 23 (.array .int) true := ⟨RX12, TX12, rfl, clX12, tyX12_ok, nmX12, by decide, rfl, rfl, rfl, gw_of5 143 rfl rfl⟩
theorem fdX12_54 : FD RX12 54 12 24 (.array .int) true := ⟨RX12, TX12, rfl, clX12, tyX12_ok, nmX12, by decide, rfl, rfl, rfl, gw_of5 144 rfl rfl⟩
theorem fdX12_57 : FD RX12 57 12 25 (.array .int) true := ⟨RX12, TX12, rfl, clX12, tyX12_ok, nmX12, by decide, rfl, rfl, rfl, gw_of5 145 rfl rfl⟩
theorem fdX12_60 : FD RX12 60 12 26 (.array .int) true := ⟨RX12, TX12, rfl, clX12, tyX12_ok, nmX12, by decide, rfl, rfl, rfl, gw_of5 146 rfl rfl⟩
theorem fdX12_63 : FD RX12 63 12 27 (.array .int) true := ⟨RX12, TX12, rfl, clX12, tyX12_ok, nmX12, by decide, rfl, rfl, rfl, gw_of5 147 rfl rfl⟩
theorem fdX12_66 : FD RX12 66 12 28 (.array .int) true := ⟨RX12, TX12, rfl, clX12, tyX12_ok, nmX12, by decide, rfl, rfl, rfl, gw_of5 148 rfl rfl⟩
theorem fdX12_69 : FD RX12 69 12 29 (.array .int) true := ⟨RX12, TX12, rfl, clX12, tyX12_ok, nmX12, by decide, rfl, rfl, rfl, gw_of5 149 rfl rfl⟩
theorem fdX12_72 : FD RX12 72 12 30 (.array .int) true := ⟨RX12, TX12, rfl, clX12, tyX12_ok, nmX12, by decide, rfl, rfl, rfl, gw_of5 150 rfl rfl⟩
theorem fdX12_75 : FD RX12 75 12 31 (.array .int) true := ⟨RX12, TX12, rfl, clX12, tyX12_ok, nmX12, by decide, rfl, rfl, rfl, gw_of5 151 rfl rfl⟩
theorem fdX12_78 : FD RX12 78 12 32 (.array .int) true := ⟨RX12, TX12, rfl, clX12, tyX12_ok, nmX12, by decide, rfl, rfl, rfl, gw_of5 152 rfl rfl⟩
theorem fdX12_257 : FD RX12 257 12 33 .int false := ⟨RX12, TX12, rfl, clX12, tyX12_ok, nmX12, by decide, rfl, rfl, rfl, gw_of5 153 rfl rfl⟩
theorem fdX12_270 : FD RX12 270 12 34 .long false := ⟨RX12, TX12, rfl, clX12, tyX12_ok, nmX12, by decide, rfl, rfl, rfl, gw_of5 154 rfl rfl⟩
theorem fdX12_81 : FD RX12 81 12 35 (.array .int) true := ⟨RX12, TX12, rfl, clX12, tyX12_ok, nmX12, by decide, rfl, rfl, rfl, gw_of5 155 rfl rfl⟩
theorem fdX12_84 : FD RX12 84 12 36 (.array .int) true := ⟨RX12, TX12, rfl, clX12, tyX12_ok, nmX12, by decide, rfl, rfl, rfl, gw_of5 156 rfl rfl⟩
theorem fdX12_87 : FD RX12 87 12 37 (.array .int) true := ⟨RX12, TX12, rfl, clX12, tyX12_ok, nmX12, by decide, rfl, rfl, rfl, gw_of5 157 rfl rfl⟩
theorem fdX12_90 : FD RX12 90 12 38 (.array .int) true := ⟨RX12, TX12, rfl, clX12, tyX12_ok, nmX12, by decide, rfl, rfl, rfl, gw_of5 158 rfl rfl⟩
theorem fdX12_93 : FD RX12 93 12 39 (.array .int) true := ⟨RX12, TX12, rfl, clX12, tyX12_ok, nmX12, by decide, rfl, rfl, rfl, gw_of5 159 rfl rfl⟩
theorem fdX12_96 : FD RX12 96 12 40 (.array .int) true := ⟨RX12, TX12, rfl, clX12, tyX12_ok, nmX12, by decide, rfl, rfl, rfl, gw_of5 160 rfl rfl⟩
theorem fdX12_99 : FD RX12 99 12 41 (.array .int) true := ⟨RX12, TX12, rfl, clX12, tyX12_ok, nmX12, by decide, rfl, rfl, rfl, gw_of5 161 rfl rfl⟩
theorem fdX12_102 : FD RX12 102 12 42 (.array .boolean) true := ⟨RX12, TX12, rfl, clX12, tyX12_ok, nmX12, by decide, rfl, rfl, rfl, gw_of5 162 rfl rfl⟩
theorem fdX12_105 : FD RX12 105 12 43 (.array .int) true := ⟨RX12, TX12, rfl, clX12, tyX12_ok, nmX12, by decide, rfl, rfl, rfl, gw_of5 163 rfl rfl⟩
theorem fdX12_108 : FD RX12 108 12 44 (.array .int) true := ⟨RX12, TX12, rfl, clX12, tyX12_ok, nmX12, by decide, rfl, rfl, rfl, gw_of5 164 rfl rfl⟩
theorem fdX12_111 : FD RX12 111 12 45 (.array .int) true := ⟨RX12, TX12, rfl, clX12, tyX12_ok, nmX12, by decide, rfl, rfl, rfl, gw_of5 165 rfl rfl⟩
theorem fdX12_114 : FD RX12 114 12 46 (.array .int) true := ⟨RX12, TX12, rfl, clX12, tyX12_ok, nmX12, by decide, rfl, rfl, rfl, gw_of5 166 rfl rfl⟩
theorem fdX12_117 : FD RX12 117 12 47 (.array .int) true := ⟨RX12, TX12, rfl, clX12, tyX12_ok, nmX12, by decide, rfl, rfl, rfl, gw_of5 167 rfl rfl⟩
theorem fdX12_120 : FD RX12 120 12 48 (.array .boolean) true := ⟨RX12, TX12, rfl, clX12, tyX12_ok, nmX12, by decide, rfl, rfl, rfl, gw_of5 168 rfl rfl⟩
theorem fdX12_323 : FD RX12 323 12 49 .int false := ⟨RX12, TX12, rfl, clX12, tyX12_ok, nmX12, by decide, rfl, rfl, rfl, gw_of5 169 rfl rfl⟩
theorem fdX12_123 : FD RX12 123 12 50 (.array .int) true := ⟨RX12, TX12, rfl, clX12, tyX12_ok, nmX12, by decide, rfl, rfl, rfl, gw_of5 170 rfl rfl⟩
theorem fdX12_126 : FD RX12 126 12 51 (.array .int) true := ⟨RX12, TX12, rfl, clX12, tyX12_ok, nmX12, by decide, rfl, rfl, rfl, gw_of5 171 rfl rfl⟩
theorem fdX12_390 : FD RX12 390 12 52 .int false := ⟨RX12, TX12, rfl, clX12, tyX12_ok, nmX12, by decide, rfl, rfl, rfl, gw_of5 172 rfl rfl⟩
theorem fdX12_393 : FD RX12 393 12 53 .int false := ⟨RX12, TX12, rfl, clX12, tyX12_ok, nmX12, by decide, rfl, rfl, rfl, gw_of5 173 rfl rfl⟩
theorem fdX12_129 : FD RX12 129 12 54 (.array .int) true := ⟨RX12, TX12, rfl, clX12, tyX12_ok, nmX12, by decide, rfl, rfl, rfl, gw_of5 174 rfl rfl⟩
theorem fdX12_132 : FD RX12 132 12 55 (.array .int) true := ⟨RX12, TX12, rfl, clX12, tyX12_ok, nmX12, by decide, rfl, rfl, rfl, gw_of5 175 rfl rfl⟩
theorem fdX12_410 : FD RX12 410 12 56 .int false := ⟨RX12, TX12, rfl, clX12, tyX12_ok, nmX12, by decide, rfl, rfl, rfl, gw_of5 176 rfl rfl⟩
theorem fdX12_430 : FD RX12 430 12 57 .long false := ⟨RX12, TX12, rfl, clX12, tyX12_ok, nmX12, by decide, rfl, rfl, rfl, gw_of5 177 rfl rfl⟩
theorem cvL_104 : CV RL 104 YX12_thrown := ⟨cbX12_thrown, gw_of6 55 rfl rfl, gw_of6 56 rfl rfl, gw_of6 57 rfl rfl⟩
theorem cvL_29 : CV RL 29 YX12_feed := ⟨cbX12_feed, gw_of6 59 rfl rfl, gw_of6 60 rfl rfl, gw_of6 61 rfl rfl⟩
theorem kcX12_142 : Cond.constantLong RX12 142 (255) ∈ gw := gw_of6 63 rfl rfl
theorem cvL_34 : CV RL 34 YX12_county := ⟨cbX12_county, gw_of6 64 rfl rfl, gw_of6 65 rfl rfl, gw_of6 66 rfl rfl⟩
theorem cvX12_317 : CV RX12 317 YX12_readsAll := ⟨cbX12_readsAll, gw_of6 68 rfl rfl, gw_of6 70 rfl rfl, gw_sel 45 (q := (yX12_readsAll, 58)) (by decide +kernel) (by decide +kernel)⟩
theorem cvX12_291 : CV RX12 291 YX12_begins := ⟨cbX12_begins, gw_of6 72 rfl rfl, gw_of6 74 rfl rfl, gw_sel 46 (q := (yX12_begins, 58)) (by decide +kernel) (by decide +kernel)⟩
theorem cvX12_209 : CV RX12 209 YX12_nextToken := ⟨cbX12_nextToken, gw_of6 76 rfl rfl, gw_of6 78 rfl rfl, gw_sel 47 (q := (yX12_nextToken, 58)) (by decide +kernel) (by decide +kernel)⟩
theorem cvX12_166 : CV RX12 166 YX12_signAt := ⟨cbX12_signAt, gw_of6 80 rfl rfl, gw_of6 82 rfl rfl, gw_sel 48 (q := (yX12_signAt, 58)) (by decide +kernel) (by decide +kernel)⟩
theorem kcX12_170 : Cond.constantLong RX12 170 (27) ∈ gw := gw_of6 84 rfl rfl
theorem kcX12_172 : Cond.constantLong RX12 172 (96) ∈ gw := gw_of6 85 rfl rfl
theorem kcX12_225 : Cond.constantLong RX12 225 (380234) ∈ gw := gw_of6 86 rfl rfl
theorem cvX12_194 : CV RX12 194 YX12_isWord := ⟨cbX12_isWord, gw_of6 87 rfl rfl, gw_of6 89 rfl rfl, gw_sel 49 (q := (yX12_isWord, 58)) (by decide +kernel) (by decide +kernel)⟩
theorem cvX12_294 : CV RX12 294 YX12_readsShot := ⟨cbX12_readsShot, gw_of6 91 rfl rfl, gw_of6 93 rfl rfl, gw_sel 50 (q := (yX12_readsShot, 58)) (by decide +kernel) (by decide +kernel)⟩
theorem cvX12_202 : CV RX12 202 YX12_fails := ⟨cbX12_fails, gw_of6 95 rfl rfl, gw_of6 97 rfl rfl, gw_sel 51 (q := (yX12_fails, 58)) (by decide +kernel) (by decide +kernel)⟩
theorem cvX12_272 : CV RX12 272 YX12_needsNew := ⟨cbX12_needsNew, gw_of6 99 rfl rfl, gw_of6 101 rfl rfl, gw_sel 52 (q := (yX12_needsNew, 58)) (by decide +kernel) (by decide +kernel)⟩
theorem cvX12_260 : CV RX12 260 YX12_isKept := ⟨cbX12_isKept, gw_of6 103 rfl rfl, gw_of6 105 rfl rfl, gw_sel 53 (q := (yX12_isKept, 58)) (by decide +kernel) (by decide +kernel)⟩
theorem kcX12_227 : Cond.constantLong RX12 227 (385418) ∈ gw := gw_of6 107 rfl rfl
theorem kcX12_229 : Cond.constantLong RX12 229 (247516) ∈ gw := gw_of6 108 rfl rfl
theorem kcX12_231 : Cond.constantLong RX12 231 (7542361) ∈ gw := gw_of6 109 rfl rfl
theorem kcX12_233 : Cond.constantLong RX12 233 (158529) ∈ gw := gw_of6 110 rfl rfl
theorem kcX12_235 : Cond.constantLong RX12 235 (4285945) ∈ gw := gw_of6 111 rfl rfl
theorem kcX12_237 : Cond.constantLong RX12 237 (380237) ∈ gw := gw_of6 112 rfl rfl
theorem kcX12_239 : Cond.constantLong RX12 239 (144941) ∈ gw := gw_of6 113 rfl rfl
theorem kcX12_241 : Cond.constantLong RX12 241 (10983956) ∈ gw := gw_of6 114 rfl rfl
theorem kcX12_243 : Cond.constantLong RX12 243 (409469) ∈ gw := gw_of6 115 rfl rfl
theorem kcX12_245 : Cond.constantLong RX12 245 (8740238) ∈ gw := gw_of6 116 rfl rfl
theorem kcX12_247 : Cond.constantLong RX12 247 (220307) ∈ gw := gw_of6 117 rfl rfl
theorem kcX12_249 : Cond.constantLong RX12 249 (47329743) ∈ gw := gw_of6 118 rfl rfl
theorem kcX12_251 : Cond.constantLong RX12 251 (7096239) ∈ gw := gw_of6 119 rfl rfl
theorem kcX12_192 : Cond.constantLong RX12 192 (10631) ∈ gw := gw_of6 120 rfl rfl
theorem kcX12_212 : Cond.constantLong RX12 212 (1111) ∈ gw := gw_of6 121 rfl rfl
theorem kcX12_214 : Cond.constantLong RX12 214 (423) ∈ gw := gw_of6 122 rfl rfl
theorem cvX12_264 : CV RX12 264 YX12_shotNamed := ⟨cbX12_shotNamed, gw_of6 123 rfl rfl, gw_of6 125 rfl rfl, gw_sel 54 (q := (yX12_shotNamed, 58)) (by decide +kernel) (by decide +kernel)⟩
theorem cvX12_267 : CV RX12 267 YX12_hallNamed := ⟨cbX12_hallNamed, gw_of6 127 rfl rfl, gw_of6 129 rfl rfl, gw_sel 55 (q := (yX12_hallNamed, 58)) (by decide +kernel) (by decide +kernel)⟩
theorem cvX12_275 : CV RX12 275 YX12_needsWord := ⟨cbX12_needsWord, gw_of6 131 rfl rfl, gw_of6 133 rfl rfl, gw_sel 56 (q := (yX12_needsWord, 58)) (by decide +kernel) (by decide +kernel)⟩
theorem cvX12_278 : CV RX12 278 YX12_needsNumber := ⟨cbX12_needsNumber, gw_of6 135 rfl rfl, gw_of6 137 rfl rfl, gw_sel 57 (q := (yX12_needsNumber, 58)) (by decide +kernel) (by decide +kernel)⟩
theorem csX12_253 : CS RX12 253 YX12_within := ⟨cbX12_within, gw_of6 139 rfl rfl, gw_of6 140 rfl rfl⟩
theorem cvX12_282 : CV RX12 282 YX12_closes := ⟨cbX12_closes, gw_of6 142 rfl rfl, gw_of6 144 rfl rfl, gw_sel 58 (q := (yX12_closes, 58)) (by decide +kernel) (by decide +kernel)⟩
theorem cvX12_198 : CV RX12 198 YX12_isSign := ⟨cbX12_isSign, gw_of6 146 rfl rfl, gw_of6 148 rfl rfl, gw_sel 59 (q := (yX12_isSign, 58)) (by decide +kernel) (by decide +kernel)⟩
theorem cvX12_297 : CV RX12 297 YX12_readsNeeds := ⟨cbX12_readsNeeds, gw_of6 150 rfl rfl, gw_of6 152 rfl rfl, gw_sel 60 (q := (yX12_readsNeeds, 58)) (by decide +kernel) (by decide +kernel)⟩
theorem cvX12_285 : CV RX12 285 YX12_needsShot := ⟨cbX12_needsShot, gw_of6 154 rfl rfl, gw_of6 156 rfl rfl, gw_sel 61 (q := (yX12_needsShot, 58)) (by decide +kernel) (by decide +kernel)⟩
theorem cvX12_300 : CV RX12 300 YX12_readsHall := ⟨cbX12_readsHall, gw_of6 158 rfl rfl, gw_of6 160 rfl rfl, gw_sel 62 (q := (yX12_readsHall, 58)) (by decide +kernel) (by decide +kernel)⟩
theorem cvX12_288 : CV RX12 288 YX12_reads := ⟨cbX12_reads, gw_of6 162 rfl rfl, gw_of6 164 rfl rfl, gw_sel 63 (q := (yX12_reads, 58)) (by decide +kernel) (by decide +kernel)⟩
theorem cvX12_188 : CV RX12 188 YX12_fact := ⟨cbX12_fact, gw_of6 166 rfl rfl, gw_of6 168 rfl rfl, gw_sel 64 (q := (yX12_fact, 58)) (by decide +kernel) (by decide +kernel)⟩
theorem kcX12_180 : Cond.constantLong RX12 180 (223456) ∈ gw := gw_of6 170 rfl rfl
theorem kcX12_182 : Cond.constantLong RX12 182 (5173474771) ∈ gw := gw_of6 171 rfl rfl
theorem kcX12_184 : Cond.constantLong RX12 184 (8740067) ∈ gw := gw_of6 172 rfl rfl
theorem kcX12_186 : Cond.constantLong RX12 186 (692581) ∈ gw := gw_of6 173 rfl rfl
theorem cvX12_205 : CV RX12 205 YX12_puts := ⟨cbX12_puts, gw_of6 174 rfl rfl, gw_of6 176 rfl rfl, gw_sel 65 (q := (yX12_puts, 58)) (by decide +kernel) (by decide +kernel)⟩
theorem cvX12_320 : CV RX12 320 YX12_lays := ⟨cbX12_lays, gw_of6 178 rfl rfl, gw_of6 180 rfl rfl, gw_sel 66 (q := (yX12_lays, 58)) (by decide +kernel) (by decide +kernel)⟩
theorem csX12_303 : CS RX12 303 YX12_shifts := ⟨cbX12_shifts, gw_of6 182 rfl rfl, gw_of6 183 rfl rfl⟩
theorem csX12_307 : CS RX12 307 YX12_shiftsNames := ⟨cbX12_shiftsNames, gw_of6 185 rfl rfl, gw_of6 186 rfl rfl⟩
theorem cvL_38 : CV RL 38 YX12_round := ⟨cbX12_round, gw_of6 188 rfl rfl, gw_of6 189 rfl rfl, gw_of6 190 rfl rfl⟩
theorem cvX12_326 : CV RX12 326 YX12_readsLine := ⟨cbX12_readsLine, gw_of6 192 rfl rfl, gw_of6 194 rfl rfl, gw_sel 67 (q := (yX12_readsLine, 58)) (by decide +kernel) (by decide +kernel)⟩
theorem cvX12_311 : CV RX12 311 YX12_needsHall := ⟨cbX12_needsHall, gw_of6 196 rfl rfl, gw_of6 198 rfl rfl, gw_sel 68 (q := (yX12_needsHall, 58)) (by decide +kernel) (by decide +kernel)⟩
theorem cvX12_329 : CV RX12 329 YX12_laysLines := ⟨cbX12_laysLines, gw_of6 200 rfl rfl, gw_of6 202 rfl rfl, gw_sel 69 (q := (yX12_laysLines, 58)) (by decide +kernel) (by decide +kernel)⟩
theorem cvL_43 : CV RL 43 YX12_shot := ⟨cbX12_shot, gw_of6 204 rfl rfl, gw_of6 205 rfl rfl, gw_of6 206 rfl rfl⟩
theorem cvX12_347 : CV RX12 347 YX12_isShot := ⟨cbX12_isShot, gw_of6 208 rfl rfl, gw_of6 210 rfl rfl, gw_sel 70 (q := (yX12_isShot, 58)) (by decide +kernel) (by decide +kernel)⟩
theorem cvL_47 : CV RL 47 YX12_hall := ⟨cbX12_hall, gw_of6 212 rfl rfl, gw_of6 213 rfl rfl, gw_of6 214 rfl rfl⟩
theorem cvX12_350 : CV RX12 350 YX12_isHall := ⟨cbX12_isHall, gw_of6 216 rfl rfl, gw_of6 218 rfl rfl, gw_sel 71 (q := (yX12_isHall, 58)) (by decide +kernel) (by decide +kernel)⟩
theorem cvX12_353 : CV RX12 353 YX12_drawerOf := ⟨cbX12_drawerOf, gw_of6 220 rfl rfl, gw_of6 222 rfl rfl, gw_sel 72 (q := (yX12_drawerOf, 58)) (by decide +kernel) (by decide +kernel)⟩
theorem cvX12_356 : CV RX12 356 YX12_placeOf := ⟨cbX12_placeOf, gw_of6 224 rfl rfl, gw_of6 226 rfl rfl, gw_sel 73 (q := (yX12_placeOf, 58)) (by decide +kernel) (by decide +kernel)⟩
theorem cvX12_340 : CV RX12 340 YX12_takesOut := ⟨cbX12_takesOut, gw_of6 228 rfl rfl, gw_of6 230 rfl rfl, gw_sel 74 (q := (yX12_takesOut, 58)) (by decide +kernel) (by decide +kernel)⟩
theorem cvX12_336 : CV RX12 336 YX12_hates := ⟨cbX12_hates, gw_of6 232 rfl rfl, gw_of6 234 rfl rfl, gw_sel 75 (q := (yX12_hates, 58)) (by decide +kernel) (by decide +kernel)⟩
theorem cvX12_333 : CV RX12 333 YX12_worked := ⟨cbX12_worked, gw_of6 236 rfl rfl, gw_of6 238 rfl rfl, gw_sel 76 (q := (yX12_worked, 58)) (by decide +kernel) (by decide +kernel)⟩
theorem cvX12_219 : CV RX12 219 YX12_opens := ⟨cbX12_opens, gw_of7 0 rfl rfl, gw_of7 2 rfl rfl, gw_sel 77 (q := (yX12_opens, 58)) (by decide +kernel) (by decide +kernel)⟩
theorem cvX12_216 : CV RX12 216 YX12_sums := ⟨cbX12_sums, gw_of7 4 rfl rfl, gw_of7 6 rfl rfl, gw_sel 78 (q := (yX12_sums, 58)) (by decide +kernel) (by decide +kernel)⟩
theorem cvX12_222 : CV RX12 222 YX12_tests := ⟨cbX12_tests, gw_of7 8 rfl rfl, gw_of7 10 rfl rfl, gw_sel 79 (q := (yX12_tests, 58)) (by decide +kernel) (by decide +kernel)⟩
theorem cvL_51 : CV RL 51 YX12_show := ⟨cbX12_show, gw_of7 12 rfl rfl, gw_of7 13 rfl rfl, gw_of7 14 rfl rfl⟩
theorem cvX12_363 : CV RX12 363 YX12_keeps := ⟨cbX12_keeps, gw_of7 16 rfl rfl, gw_of7 18 rfl rfl, gw_sel 80 (q := (yX12_keeps, 58)) (by decide +kernel) (by decide +kernel)⟩
theorem csX12_359 : CS RX12 359 YX12_copies := ⟨cbX12_copies, gw_of7 20 rfl rfl, gw_of7 21 rfl rfl⟩
theorem cvX12_366 : CV RX12 366 YX12_shows := ⟨cbX12_shows, gw_of7 23 rfl rfl, gw_of7 25 rfl rfl, gw_sel 81 (q := (yX12_shows, 58)) (by decide +kernel) (by decide +kernel)⟩
theorem cvX12_344 : CV RX12 344 YX12_cuts := ⟨cbX12_cuts, gw_of7 27 rfl rfl, gw_of7 29 rfl rfl, gw_sel 82 (q := (yX12_cuts, 58)) (by decide +kernel) (by decide +kernel)⟩
theorem cvX12_369 : CV RX12 369 YX12_minutesOf := ⟨cbX12_minutesOf, gw_of7 31 rfl rfl, gw_of7 33 rfl rfl, gw_sel 83 (q := (yX12_minutesOf, 58)) (by decide +kernel) (by decide +kernel)⟩
theorem cvL_55 : CV RL 55 YX12_give := ⟨cbX12_give, gw_of7 35 rfl rfl, gw_of7 36 rfl rfl, gw_of7 37 rfl rfl⟩
theorem cvX12_372 : CV RX12 372 YX12_goesBack := ⟨cbX12_goesBack, gw_of7 39 rfl rfl, gw_of7 41 rfl rfl, gw_sel 84 (q := (yX12_goesBack, 58)) (by decide +kernel) (by decide +kernel)⟩
theorem csX12_375 : CS RX12 375 YX12_bits := ⟨cbX12_bits, gw_of7 43 rfl rfl, gw_of7 44 rfl rfl⟩
theorem cvL_60 : CV RL 60 YX12_trade := ⟨cbX12_trade, gw_of7 46 rfl rfl, gw_of7 47 rfl rfl, gw_of7 48 rfl rfl⟩
theorem cvL_64 : CV RL 64 YX12_turn := ⟨cbX12_turn, gw_of7 50 rfl rfl, gw_of7 51 rfl rfl, gw_of7 52 rfl rfl⟩
theorem cvX12_378 : CV RX12 378 YX12_turns := ⟨cbX12_turns, gw_of7 54 rfl rfl, gw_of7 56 rfl rfl, gw_sel 85 (q := (yX12_turns, 58)) (by decide +kernel) (by decide +kernel)⟩
theorem cvX12_381 : CV RX12 381 YX12_nextHall := ⟨cbX12_nextHall, gw_of7 58 rfl rfl, gw_of7 60 rfl rfl, gw_sel 86 (q := (yX12_nextHall, 58)) (by decide +kernel) (by decide +kernel)⟩
theorem cvL_69 : CV RL 69 YX12_undo := ⟨cbX12_undo, gw_of7 62 rfl rfl, gw_of7 63 rfl rfl, gw_of7 64 rfl rfl⟩
theorem cvL_73 : CV RL 73 YX12_judged := ⟨cbX12_judged, gw_of7 66 rfl rfl, gw_of7 67 rfl rfl, gw_of7 68 rfl rfl⟩
theorem cvX12_384 : CV RX12 384 YX12_goes := ⟨cbX12_goes, gw_of7 70 rfl rfl, gw_of7 72 rfl rfl, gw_sel 87 (q := (yX12_goes, 58)) (by decide +kernel) (by decide +kernel)⟩
theorem cvX12_387 : CV RX12 387 YX12_makesSense := ⟨cbX12_makesSense, gw_of7 74 rfl rfl, gw_of7 76 rfl rfl, gw_sel 88 (q := (yX12_makesSense, 58)) (by decide +kernel) (by decide +kernel)⟩
theorem cvL_77 : CV RL 77 YX12_shown := ⟨cbX12_shown, gw_of7 78 rfl rfl, gw_of7 79 rfl rfl, gw_of7 80 rfl rfl⟩
theorem cvX12_396 : CV RX12 396 YX12_goesOn := ⟨cbX12_goesOn, gw_of7 82 rfl rfl, gw_of7 84 rfl rfl, gw_sel 89 (q := (yX12_goesOn, 58)) (by decide +kernel) (by decide +kernel)⟩
theorem cvL_81 : CV RL 81 YX12_minutes := ⟨cbX12_minutes, gw_of7 86 rfl rfl, gw_of7 87 rfl rfl, gw_of7 88 rfl rfl⟩
theorem cvL_85 : CV RL 85 YX12_silly := ⟨cbX12_silly, gw_of7 90 rfl rfl, gw_of7 91 rfl rfl, gw_of7 92 rfl rfl⟩
theorem cvL_97 : CV RL 97 YX12_gone := ⟨cbX12_gone, gw_of7 94 rfl rfl, gw_of7 95 rfl rfl, gw_of7 96 rfl rfl⟩
theorem cvL_103 : CV RL 103 YX12_saves := ⟨cbX12_saves, gw_of7 98 rfl rfl, gw_of7 99 rfl rfl, gw_of7 100 rfl rfl⟩
theorem cvL_110 : CV RL 110 YX12_kin := ⟨cbX12_kin, gw_of7 102 rfl rfl, gw_of7 103 rfl rfl, gw_of7 104 rfl rfl⟩
theorem cvL_114 : CV RL 114 YX12_hoard := ⟨cbX12_hoard, gw_of7 106 rfl rfl, gw_of7 107 rfl rfl, gw_of7 108 rfl rfl⟩
theorem cvX12_399 : CV RX12 399 YX12_ofSort := ⟨cbX12_ofSort, gw_of7 110 rfl rfl, gw_of7 112 rfl rfl, gw_sel 90 (q := (yX12_ofSort, 58)) (by decide +kernel) (by decide +kernel)⟩
theorem cvL_118 : CV RL 118 YX12_longest := ⟨cbX12_longest, gw_of7 114 rfl rfl, gw_of7 115 rfl rfl, gw_of7 116 rfl rfl⟩
theorem cvX12_402 : CV RX12 402 YX12_unlikeFrom := ⟨cbX12_unlikeFrom, gw_of7 118 rfl rfl, gw_of7 120 rfl rfl, gw_sel 91 (q := (yX12_unlikeFrom, 58)) (by decide +kernel) (by decide +kernel)⟩
theorem mmX12_405 : Cond.methodLink RX12 405 Lib.Math.max.name ∈ gw := gw_of7 122 rfl rfl
theorem cvL_89 : CV RL 89 YX12_lasts := ⟨cbX12_lasts, gw_of7 123 rfl rfl, gw_of7 124 rfl rfl, gw_of7 125 rfl rfl⟩
theorem cvL_93 : CV RL 93 YX12_sense := ⟨cbX12_sense, gw_of7 127 rfl rfl, gw_of7 128 rfl rfl, gw_of7 129 rfl rfl⟩
theorem cvL_122 : CV RL 122 YX12_order := ⟨cbX12_order, gw_of7 131 rfl rfl, gw_of7 132 rfl rfl, gw_of7 133 rfl rfl⟩
theorem cvX12_413 : CV RX12 413 YX12_orders := ⟨cbX12_orders, gw_of7 135 rfl rfl, gw_of7 137 rfl rfl, gw_sel 92 (q := (yX12_orders, 58)) (by decide +kernel) (by decide +kernel)⟩
theorem cvL_126 : CV RL 126 YX12_ride := ⟨cbX12_ride, gw_of7 139 rfl rfl, gw_of7 140 rfl rfl, gw_of7 141 rfl rfl⟩
theorem cvL_130 : CV RL 130 YX12_other := ⟨cbX12_other, gw_of7 143 rfl rfl, gw_of7 144 rfl rfl, gw_of7 145 rfl rfl⟩
theorem cvX12_420 : CV RX12 420 YX12_otherFilm := ⟨cbX12_otherFilm, gw_of7 147 rfl rfl, gw_of7 149 rfl rfl, gw_sel 93 (q := (yX12_otherFilm, 58)) (by decide +kernel) (by decide +kernel)⟩
theorem cvX12_417 : CV RX12 417 YX12_inDrawers := ⟨cbX12_inDrawers, gw_of7 151 rfl rfl, gw_of7 153 rfl rfl, gw_sel 94 (q := (yX12_inDrawers, 58)) (by decide +kernel) (by decide +kernel)⟩
theorem cvL_134 : CV RL 134 YX12_mends := ⟨cbX12_mends, gw_of7 155 rfl rfl, gw_of7 156 rfl rfl, gw_of7 157 rfl rfl⟩
theorem cvL_138 : CV RL 138 YX12_where := ⟨cbX12_where, gw_of7 159 rfl rfl, gw_of7 160 rfl rfl, gw_of7 161 rfl rfl⟩
theorem cvL_142 : CV RL 142 YX12_taste := ⟨cbX12_taste, gw_of7 163 rfl rfl, gw_of7 164 rfl rfl, gw_of7 165 rfl rfl⟩
theorem cvL_146 : CV RL 146 YX12_mild := ⟨cbX12_mild, gw_of7 167 rfl rfl, gw_of7 168 rfl rfl, gw_of7 169 rfl rfl⟩
theorem cvL_151 : CV RL 151 YX12_see := ⟨cbX12_see, gw_of7 171 rfl rfl, gw_of7 172 rfl rfl, gw_of7 173 rfl rfl⟩
theorem cvL_155 : CV RL 155 YX12_halls := ⟨cbX12_halls, gw_of7 175 rfl rfl, gw_of7 176 rfl rfl, gw_of7 177 rfl rfl⟩
theorem cvX12_423 : CV RX12 423 YX12_hallsAsSeen := ⟨cbX12_hallsAsSeen, gw_of7 179 rfl rfl, gw_of7 181 rfl rfl, gw_sel 95 (q := (yX12_hallsAsSeen, 58)) (by decide +kernel) (by decide +kernel)⟩
theorem cvL_159 : CV RL 159 YX12_ask := ⟨cbX12_ask, gw_of7 183 rfl rfl, gw_of7 184 rfl rfl, gw_of7 185 rfl rfl⟩
theorem cvL_163 : CV RL 163 YX12_rests := ⟨cbX12_rests, gw_of7 187 rfl rfl, gw_of7 188 rfl rfl, gw_of7 189 rfl rfl⟩
theorem csX12_426 : CS RX12 426 YX12_getsBy := ⟨cbX12_getsBy, gw_of7 191 rfl rfl, gw_of7 192 rfl rfl⟩
theorem cvL_167 : CV RL 167 YX12_share := ⟨cbX12_share, gw_of7 194 rfl rfl, gw_of7 195 rfl rfl, gw_of7 196 rfl rfl⟩
theorem cvL_172 : CV RL 172 YX12_tours := ⟨cbX12_tours, gw_of7 198 rfl rfl, gw_of7 199 rfl rfl, gw_of7 200 rfl rfl⟩
theorem cvX12_441 : CV RX12 441 YX12_draws := ⟨cbX12_draws, gw_of7 202 rfl rfl, gw_of7 204 rfl rfl, gw_sel 96 (q := (yX12_draws, 58)) (by decide +kernel) (by decide +kernel)⟩
theorem kcX12_433 : Cond.constantLong RX12 433 (1103515245) ∈ gw := gw_of7 206 rfl rfl
theorem kcX12_435 : Cond.constantLong RX12 435 (12345) ∈ gw := gw_of7 207 rfl rfl
theorem kcX12_437 : Cond.constantLong RX12 437 (2147483648) ∈ gw := gw_of7 208 rfl rfl
theorem kcX12_439 : Cond.constantLong RX12 439 (65536) ∈ gw := gw_of7 209 rfl rfl
theorem cvX12_447 : CV RX12 447 YX12_givesSome := ⟨cbX12_givesSome, gw_of7 210 rfl rfl, gw_of7 212 rfl rfl, gw_sel 97 (q := (yX12_givesSome, 58)) (by decide +kernel) (by decide +kernel)⟩
theorem cvX12_444 : CV RX12 444 YX12_nth := ⟨cbX12_nth, gw_of7 214 rfl rfl, gw_of7 216 rfl rfl, gw_sel 98 (q := (yX12_nth, 58)) (by decide +kernel) (by decide +kernel)⟩
theorem cvL_176 : CV RL 176 YX12_mark := ⟨cbX12_mark, gw_of7 218 rfl rfl, gw_of7 219 rfl rfl, gw_of7 220 rfl rfl⟩
theorem cvX12_450 : CV RX12 450 YX12_laysSeen := ⟨cbX12_laysSeen, gw_of7 222 rfl rfl, gw_of7 224 rfl rfl, gw_sel 99 (q := (yX12_laysSeen, 58)) (by decide +kernel) (by decide +kernel)⟩
theorem cvL_180 : CV RL 180 YX12_count := ⟨cbX12_count, gw_of7 226 rfl rfl, gw_of7 227 rfl rfl, gw_of7 228 rfl rfl⟩
theorem kcL_23 : Cond.constantLong RL 23 (4294967295) ∈ gw := gw_of7 230 rfl rfl
theorem gk_max1 : Cond.static Lib.Math.max.name ∈ gw := gw_of4 103 rfl rfl
theorem gk_max2 : Cond.code Lib.Math.max.name Lib.Math.max.code 2 (some .int) ∈ gw := gw_of4 104 rfl rfl
theorem gk_min1 : Cond.static Lib.Math.min.name ∈ gw := gw_of3 189 rfl rfl
theorem gk_min2 : Cond.code Lib.Math.min.name Lib.Math.min.code 2 (some .int) ∈ gw := gw_of3 190 rfl rfl
theorem gk_math : Cond.initialized "java/lang/Math" ∈ gw := gw_of1 18 rfl rfl
end
section
/-! ===== what the printed regions speak of ===== -/
abbrev ob (M : MM) (a ci : Nat) : Prop := a < mn M ∧ mh M a = (0, ci)
abbrev ar (M : MM) (a t n : Nat) : Prop := a < mn M ∧ mh M a = (t, n)
abbrev E0 (g : GG) (Y : YY) (d pc : Nat) (lv : List (Nat × Value)) (st : List Value) (M : MM) (P : Option Value → MM → Prop) : Prop := EX g Y d 0 0 0 0 pc lv st M P
abbrev R0 (g : GG) (Y : YY) (d : Nat) (av : List Value) (M : MM) (P : Option Value → MM → Prop) : Prop := RT g Y d 0 0 av M P
/-- a call: the callee's contract at some depth, and how it goes on -/
abbrev K0 (g : GG) (Y Z : YY) (d pc : Nat) (av : List Value) (lv : List (Nat × Value)) (st : List Value) (M : MM) (P : Option Value → MM → Prop) : Prop := ∃ (d1 : Nat) (P1 : Option Value → MM → Prop), d1 + 1 ≤ d ∧ R0 g Z d1 av M P1 ∧ ∀ rv M1, P1 rv M1 → E0 g Y d pc lv (rv.toList ++ st) M1 P
theorem tb_out {lo hi x : Int} (h : x < lo ∨ hi < x) : x < lo ∨ hi < x := h
section EXT
variable {g : GG} {Y : YY} {d mc ms ce sl pc : Nat} {lv : List (Nat × Value)} {st : List Value} {M : MM} {P : Option Value → MM → Prop}
theorem x_look {dflt : Int} {ps : Array (Int × Int)} {len : Nat} {x : Int32} (tgt : Nat) (hd : decode (yC Y) pc = .ok (.lookupswitch dflt ps, len)) (hp : (ps.toList.zip (ps.toList.drop 1)).all (fun (a, next) => a.1 < next.1) = true) (ht : (pc : Int) + Op.lookupswitch.offset ps.toList dflt x.toInt = (tgt : Int)) (k : EX g Y d mc ms ce sl tgt lv st M P) : EX g Y d mc ms ce sl pc lv (.int x :: st) M P := by
  refine x_lookup hd hp (fun t h => ?_) ⟨tgt, ht⟩
  have e : t = tgt := by omega
  rw [e]; exact k
theorem K0.v {Z : YY} {idx b ci : Nat} {As st0 : List Value} (F : CV (yN Y).cls idx Z) (hd : decode (yC Y) pc = .ok (.invokevirtual idx, 3)) (hst : st0 = As.reverse ++ .ref b :: st) (hn : As.length = yA Z) (hb : ob M b ci) (hci : vwCl[ci]?.map (fun r => r.1) = some (yN Z).cls) (hw : (st.map fun v => v.category).sum ≤ 8) (h : K0 g Y Z d (pc + 3) (.ref b :: As) lv st M P) : E0 g Y d pc lv st0 M P := by
  obtain ⟨d1, P1, h1, h2, h3⟩ := h
  exact x_callV Z F hd hst hn hb.1 hb.2 hci h1 (Nat.le_refl _) (Nat.le_refl _) hw h2 h3
theorem K0.s {Z : YY} {idx : Nat} {As st0 : List Value} (F : CS (yN Y).cls idx Z) (hd : decode (yC Y) pc = .ok (.invokestatic idx, 3)) (hst : st0 = As.reverse ++ st) (hn : As.length = yA Z) (hw : (st.map fun v => v.category).sum ≤ 8) (h : K0 g Y Z d (pc + 3) As lv st M P) : E0 g Y d pc lv st0 M P := by
  obtain ⟨d1, P1, h1, h2, h3⟩ := h
  exact x_callS Z F hd hst hn h1 (Nat.le_refl _) (Nat.le_refl _) hw h2 h3
end EXT
end
section
/-! decode rows, printed with the claim -/
theorem dX0_init_0 : decode cX0_init 0 = .ok (.aload_n 0, 1) := by decide +kernel
theorem dX0_init_1 : decode cX0_init 1 = .ok (.invokespecial 3, 3) := by decide +kernel
theorem dX0_init_4 : decode cX0_init 4 = .ok (.aload_n 0, 1) := by decide +kernel
theorem dX0_init_5 : decode cX0_init 5 = .ok (.bipush 10, 2) := by decide +kernel
theorem dX0_init_7 : decode cX0_init 7 = .ok (.newarray .long, 2) := by decide +kernel
theorem dX0_init_9 : decode cX0_init 9 = .ok (.putfield 9, 3) := by decide +kernel
theorem dX0_init_12 : decode cX0_init 12 = .ok (.aload_n 0, 1) := by decide +kernel
theorem dX0_init_13 : decode cX0_init 13 = .ok (.bipush 10, 2) := by decide +kernel
theorem dX0_init_15 : decode cX0_init 15 = .ok (.newarray .int, 2) := by decide +kernel
theorem dX0_init_17 : decode cX0_init 17 = .ok (.putfield 15, 3) := by decide +kernel
theorem dX0_init_20 : decode cX0_init 20 = .ok (.aload_n 0, 1) := by decide +kernel
theorem dX0_init_21 : decode cX0_init 21 = .ok (.bipush 10, 2) := by decide +kernel
theorem dX0_init_23 : decode cX0_init 23 = .ok (.newarray .int, 2) := by decide +kernel
theorem dX0_init_25 : decode cX0_init 25 = .ok (.putfield 19, 3) := by decide +kernel
theorem dX0_init_28 : decode cX0_init 28 = .ok (.aload_n 0, 1) := by decide +kernel
theorem dX0_init_29 : decode cX0_init 29 = .ok (.bipush 10, 2) := by decide +kernel
theorem dX0_init_31 : decode cX0_init 31 = .ok (.newarray .int, 2) := by decide +kernel
theorem dX0_init_33 : decode cX0_init 33 = .ok (.putfield 22, 3) := by decide +kernel
theorem dX0_init_36 : decode cX0_init 36 = .ok (.aload_n 0, 1) := by decide +kernel
theorem dX0_init_37 : decode cX0_init 37 = .ok (.bipush 6, 2) := by decide +kernel
theorem dX0_init_39 : decode cX0_init 39 = .ok (.newarray .long, 2) := by decide +kernel
theorem dX0_init_41 : decode cX0_init 41 = .ok (.putfield 25, 3) := by decide +kernel
theorem dX0_init_44 : decode cX0_init 44 = .ok (.aload_n 0, 1) := by decide +kernel
theorem dX0_init_45 : decode cX0_init 45 = .ok (.bipush 6, 2) := by decide +kernel
theorem dX0_init_47 : decode cX0_init 47 = .ok (.newarray .int, 2) := by decide +kernel
theorem dX0_init_49 : decode cX0_init 49 = .ok (.putfield 28, 3) := by decide +kernel
theorem dX0_init_52 : decode cX0_init 52 = .ok (.aload_n 0, 1) := by decide +kernel
theorem dX0_init_53 : decode cX0_init 53 = .ok (.new 31, 3) := by decide +kernel
theorem dX0_init_56 : decode cX0_init 56 = .ok (.dup, 1) := by decide +kernel
theorem dX0_init_57 : decode cX0_init 57 = .ok (.invokespecial 33, 3) := by decide +kernel
theorem dX0_init_60 : decode cX0_init 60 = .ok (.putfield 34, 3) := by decide +kernel
theorem dX0_init_63 : decode cX0_init 63 = .ok (.aload_n 0, 1) := by decide +kernel
theorem dX0_init_64 : decode cX0_init 64 = .ok (.sipush 600, 3) := by decide +kernel
theorem dX0_init_67 : decode cX0_init 67 = .ok (.newarray .int, 2) := by decide +kernel
theorem dX0_init_69 : decode cX0_init 69 = .ok (.putfield 38, 3) := by decide +kernel
theorem dX0_init_72 : decode cX0_init 72 = .ok (.return_, 1) := by decide +kernel
theorem dX0_clear_0 : decode cX0_clear 0 = .ok (.aload_n 0, 1) := by decide +kernel
theorem dX0_clear_1 : decode cX0_clear 1 = .ok (.iconst 0, 1) := by decide +kernel
theorem dX0_clear_2 : decode cX0_clear 2 = .ok (.putfield 41, 3) := by decide +kernel
theorem dX0_clear_5 : decode cX0_clear 5 = .ok (.aload_n 0, 1) := by decide +kernel
theorem dX0_clear_6 : decode cX0_clear 6 = .ok (.iconst 0, 1) := by decide +kernel
theorem dX0_clear_7 : decode cX0_clear 7 = .ok (.putfield 45, 3) := by decide +kernel
theorem dX0_clear_10 : decode cX0_clear 10 = .ok (.aload_n 0, 1) := by decide +kernel
theorem dX0_clear_11 : decode cX0_clear 11 = .ok (.getfield 34, 3) := by decide +kernel
theorem dX0_clear_14 : decode cX0_clear 14 = .ok (.iconst 0, 1) := by decide +kernel
theorem dX0_clear_15 : decode cX0_clear 15 = .ok (.putfield 48, 3) := by decide +kernel
theorem dX0_clear_18 : decode cX0_clear 18 = .ok (.return_, 1) := by decide +kernel
theorem dX0_addShot_0 : decode cX0_addShot 0 = .ok (.aload_n 0, 1) := by decide +kernel
theorem dX0_addShot_1 : decode cX0_addShot 1 = .ok (.getfield 41, 3) := by decide +kernel
theorem dX0_addShot_4 : decode cX0_addShot 4 = .ok (.bipush 10, 2) := by decide +kernel
theorem dX0_addShot_6 : decode cX0_addShot 6 = .ok (.if_icmp .ge 54, 3) := by decide +kernel
theorem dX0_addShot_9 : decode cX0_addShot 9 = .ok (.aload_n 0, 1) := by decide +kernel
theorem dX0_addShot_10 : decode cX0_addShot 10 = .ok (.getfield 9, 3) := by decide +kernel
theorem dX0_addShot_13 : decode cX0_addShot 13 = .ok (.aload_n 0, 1) := by decide +kernel
theorem dX0_addShot_14 : decode cX0_addShot 14 = .ok (.getfield 41, 3) := by decide +kernel
theorem dX0_addShot_17 : decode cX0_addShot 17 = .ok (.lload_n 1, 1) := by decide +kernel
theorem dX0_addShot_18 : decode cX0_addShot 18 = .ok (.lastore, 1) := by decide +kernel
theorem dX0_addShot_19 : decode cX0_addShot 19 = .ok (.aload_n 0, 1) := by decide +kernel
theorem dX0_addShot_20 : decode cX0_addShot 20 = .ok (.getfield 15, 3) := by decide +kernel
theorem dX0_addShot_23 : decode cX0_addShot 23 = .ok (.aload_n 0, 1) := by decide +kernel
theorem dX0_addShot_24 : decode cX0_addShot 24 = .ok (.getfield 41, 3) := by decide +kernel
theorem dX0_addShot_27 : decode cX0_addShot 27 = .ok (.iload_n 3, 1) := by decide +kernel
theorem dX0_addShot_28 : decode cX0_addShot 28 = .ok (.iastore, 1) := by decide +kernel
theorem dX0_addShot_29 : decode cX0_addShot 29 = .ok (.aload_n 0, 1) := by decide +kernel
theorem dX0_addShot_30 : decode cX0_addShot 30 = .ok (.getfield 19, 3) := by decide +kernel
theorem dX0_addShot_33 : decode cX0_addShot 33 = .ok (.aload_n 0, 1) := by decide +kernel
theorem dX0_addShot_34 : decode cX0_addShot 34 = .ok (.getfield 41, 3) := by decide +kernel
theorem dX0_addShot_37 : decode cX0_addShot 37 = .ok (.iload 4, 2) := by decide +kernel
theorem dX0_addShot_39 : decode cX0_addShot 39 = .ok (.iastore, 1) := by decide +kernel
theorem dX0_addShot_40 : decode cX0_addShot 40 = .ok (.aload_n 0, 1) := by decide +kernel
theorem dX0_addShot_41 : decode cX0_addShot 41 = .ok (.getfield 22, 3) := by decide +kernel
theorem dX0_addShot_44 : decode cX0_addShot 44 = .ok (.aload_n 0, 1) := by decide +kernel
theorem dX0_addShot_45 : decode cX0_addShot 45 = .ok (.getfield 41, 3) := by decide +kernel
theorem dX0_addShot_48 : decode cX0_addShot 48 = .ok (.iconst 0, 1) := by decide +kernel
theorem dX0_addShot_49 : decode cX0_addShot 49 = .ok (.iastore, 1) := by decide +kernel
theorem dX0_addShot_50 : decode cX0_addShot 50 = .ok (.aload_n 0, 1) := by decide +kernel
theorem dX0_addShot_51 : decode cX0_addShot 51 = .ok (.dup, 1) := by decide +kernel
theorem dX0_addShot_52 : decode cX0_addShot 52 = .ok (.getfield 41, 3) := by decide +kernel
theorem dX0_addShot_55 : decode cX0_addShot 55 = .ok (.iconst 1, 1) := by decide +kernel
theorem dX0_addShot_56 : decode cX0_addShot 56 = .ok (.iadd, 1) := by decide +kernel
theorem dX0_addShot_57 : decode cX0_addShot 57 = .ok (.putfield 41, 3) := by decide +kernel
theorem dX0_addShot_60 : decode cX0_addShot 60 = .ok (.return_, 1) := by decide +kernel
theorem dX0_addNeed_0 : decode cX0_addNeed 0 = .ok (.aload_n 0, 1) := by decide +kernel
theorem dX0_addNeed_1 : decode cX0_addNeed 1 = .ok (.iload_n 1, 1) := by decide +kernel
theorem dX0_addNeed_2 : decode cX0_addNeed 2 = .ok (.invokevirtual 51, 3) := by decide +kernel
theorem dX0_addNeed_5 : decode cX0_addNeed 5 = .ok (.ifCond .eq 15, 3) := by decide +kernel
theorem dX0_addNeed_8 : decode cX0_addNeed 8 = .ok (.aload_n 0, 1) := by decide +kernel
theorem dX0_addNeed_9 : decode cX0_addNeed 9 = .ok (.getfield 22, 3) := by decide +kernel
theorem dX0_addNeed_12 : decode cX0_addNeed 12 = .ok (.iload_n 1, 1) := by decide +kernel
theorem dX0_addNeed_13 : decode cX0_addNeed 13 = .ok (.dup2, 1) := by decide +kernel
theorem dX0_addNeed_14 : decode cX0_addNeed 14 = .ok (.iaload, 1) := by decide +kernel
theorem dX0_addNeed_15 : decode cX0_addNeed 15 = .ok (.iconst 1, 1) := by decide +kernel
theorem dX0_addNeed_16 : decode cX0_addNeed 16 = .ok (.iload_n 2, 1) := by decide +kernel
theorem dX0_addNeed_17 : decode cX0_addNeed 17 = .ok (.ishl, 1) := by decide +kernel
theorem dX0_addNeed_18 : decode cX0_addNeed 18 = .ok (.ior, 1) := by decide +kernel
theorem dX0_addNeed_19 : decode cX0_addNeed 19 = .ok (.iastore, 1) := by decide +kernel
theorem dX0_addNeed_20 : decode cX0_addNeed 20 = .ok (.return_, 1) := by decide +kernel
theorem dX0_addHall_0 : decode cX0_addHall 0 = .ok (.aload_n 0, 1) := by decide +kernel
theorem dX0_addHall_1 : decode cX0_addHall 1 = .ok (.getfield 45, 3) := by decide +kernel
theorem dX0_addHall_4 : decode cX0_addHall 4 = .ok (.bipush 6, 2) := by decide +kernel
theorem dX0_addHall_6 : decode cX0_addHall 6 = .ok (.if_icmp .ge 52, 3) := by decide +kernel
theorem dX0_addHall_9 : decode cX0_addHall 9 = .ok (.aload_n 0, 1) := by decide +kernel
theorem dX0_addHall_10 : decode cX0_addHall 10 = .ok (.getfield 25, 3) := by decide +kernel
theorem dX0_addHall_13 : decode cX0_addHall 13 = .ok (.aload_n 0, 1) := by decide +kernel
theorem dX0_addHall_14 : decode cX0_addHall 14 = .ok (.getfield 45, 3) := by decide +kernel
theorem dX0_addHall_17 : decode cX0_addHall 17 = .ok (.lload_n 1, 1) := by decide +kernel
theorem dX0_addHall_18 : decode cX0_addHall 18 = .ok (.lastore, 1) := by decide +kernel
theorem dX0_addHall_19 : decode cX0_addHall 19 = .ok (.aload_n 0, 1) := by decide +kernel
theorem dX0_addHall_20 : decode cX0_addHall 20 = .ok (.getfield 28, 3) := by decide +kernel
theorem dX0_addHall_23 : decode cX0_addHall 23 = .ok (.aload_n 0, 1) := by decide +kernel
theorem dX0_addHall_24 : decode cX0_addHall 24 = .ok (.getfield 45, 3) := by decide +kernel
theorem dX0_addHall_27 : decode cX0_addHall 27 = .ok (.iload_n 3, 1) := by decide +kernel
theorem dX0_addHall_28 : decode cX0_addHall 28 = .ok (.iastore, 1) := by decide +kernel
theorem dX0_addHall_29 : decode cX0_addHall 29 = .ok (.aload_n 0, 1) := by decide +kernel
theorem dX0_addHall_30 : decode cX0_addHall 30 = .ok (.getfield 34, 3) := by decide +kernel
theorem dX0_addHall_33 : decode cX0_addHall 33 = .ok (.getfield 55, 3) := by decide +kernel
theorem dX0_addHall_36 : decode cX0_addHall 36 = .ok (.aload_n 0, 1) := by decide +kernel
theorem dX0_addHall_37 : decode cX0_addHall 37 = .ok (.getfield 45, 3) := by decide +kernel
theorem dX0_addHall_40 : decode cX0_addHall 40 = .ok (.aload_n 0, 1) := by decide +kernel
theorem dX0_addHall_41 : decode cX0_addHall 41 = .ok (.getfield 34, 3) := by decide +kernel
theorem dX0_addHall_44 : decode cX0_addHall 44 = .ok (.getfield 48, 3) := by decide +kernel
theorem dX0_addHall_47 : decode cX0_addHall 47 = .ok (.iastore, 1) := by decide +kernel
theorem dX0_addHall_48 : decode cX0_addHall 48 = .ok (.aload_n 0, 1) := by decide +kernel
theorem dX0_addHall_49 : decode cX0_addHall 49 = .ok (.dup, 1) := by decide +kernel
theorem dX0_addHall_50 : decode cX0_addHall 50 = .ok (.getfield 45, 3) := by decide +kernel
theorem dX0_addHall_53 : decode cX0_addHall 53 = .ok (.iconst 1, 1) := by decide +kernel
theorem dX0_addHall_54 : decode cX0_addHall 54 = .ok (.iadd, 1) := by decide +kernel
theorem dX0_addHall_55 : decode cX0_addHall 55 = .ok (.putfield 45, 3) := by decide +kernel
theorem dX0_addHall_58 : decode cX0_addHall 58 = .ok (.return_, 1) := by decide +kernel
theorem dX0_isShot_0 : decode cX0_isShot 0 = .ok (.iload_n 1, 1) := by decide +kernel
theorem dX0_isShot_1 : decode cX0_isShot 1 = .ok (.ifCond .lt 15, 3) := by decide +kernel
theorem dX0_isShot_4 : decode cX0_isShot 4 = .ok (.iload_n 1, 1) := by decide +kernel
theorem dX0_isShot_5 : decode cX0_isShot 5 = .ok (.aload_n 0, 1) := by decide +kernel
theorem dX0_isShot_6 : decode cX0_isShot 6 = .ok (.getfield 41, 3) := by decide +kernel
theorem dX0_isShot_9 : decode cX0_isShot 9 = .ok (.if_icmp .ge 7, 3) := by decide +kernel
theorem dX0_isShot_12 : decode cX0_isShot 12 = .ok (.iconst 1, 1) := by decide +kernel
theorem dX0_isShot_13 : decode cX0_isShot 13 = .ok (.goto 4, 3) := by decide +kernel
theorem dX0_isShot_16 : decode cX0_isShot 16 = .ok (.iconst 0, 1) := by decide +kernel
theorem dX0_isShot_17 : decode cX0_isShot 17 = .ok (.ireturn, 1) := by decide +kernel
theorem dX0_isHall_0 : decode cX0_isHall 0 = .ok (.iload_n 1, 1) := by decide +kernel
theorem dX0_isHall_1 : decode cX0_isHall 1 = .ok (.ifCond .lt 15, 3) := by decide +kernel
theorem dX0_isHall_4 : decode cX0_isHall 4 = .ok (.iload_n 1, 1) := by decide +kernel
theorem dX0_isHall_5 : decode cX0_isHall 5 = .ok (.aload_n 0, 1) := by decide +kernel
theorem dX0_isHall_6 : decode cX0_isHall 6 = .ok (.getfield 45, 3) := by decide +kernel
theorem dX0_isHall_9 : decode cX0_isHall 9 = .ok (.if_icmp .ge 7, 3) := by decide +kernel
theorem dX0_isHall_12 : decode cX0_isHall 12 = .ok (.iconst 1, 1) := by decide +kernel
theorem dX0_isHall_13 : decode cX0_isHall 13 = .ok (.goto 4, 3) := by decide +kernel
theorem dX0_isHall_16 : decode cX0_isHall 16 = .ok (.iconst 0, 1) := by decide +kernel
theorem dX0_isHall_17 : decode cX0_isHall 17 = .ok (.ireturn, 1) := by decide +kernel
theorem dX0_isNeeded_0 : decode cX0_isNeeded 0 = .ok (.aload_n 0, 1) := by decide +kernel
theorem dX0_isNeeded_1 : decode cX0_isNeeded 1 = .ok (.iload_n 1, 1) := by decide +kernel
theorem dX0_isNeeded_2 : decode cX0_isNeeded 2 = .ok (.invokevirtual 51, 3) := by decide +kernel
theorem dX0_isNeeded_5 : decode cX0_isNeeded 5 = .ok (.ifCond .eq 29, 3) := by decide +kernel
theorem dX0_isNeeded_8 : decode cX0_isNeeded 8 = .ok (.aload_n 0, 1) := by decide +kernel
theorem dX0_isNeeded_9 : decode cX0_isNeeded 9 = .ok (.iload_n 2, 1) := by decide +kernel
theorem dX0_isNeeded_10 : decode cX0_isNeeded 10 = .ok (.invokevirtual 51, 3) := by decide +kernel
theorem dX0_isNeeded_13 : decode cX0_isNeeded 13 = .ok (.ifCond .eq 21, 3) := by decide +kernel
theorem dX0_isNeeded_16 : decode cX0_isNeeded 16 = .ok (.aload_n 0, 1) := by decide +kernel
theorem dX0_isNeeded_17 : decode cX0_isNeeded 17 = .ok (.getfield 22, 3) := by decide +kernel
theorem dX0_isNeeded_20 : decode cX0_isNeeded 20 = .ok (.iload_n 1, 1) := by decide +kernel
theorem dX0_isNeeded_21 : decode cX0_isNeeded 21 = .ok (.iaload, 1) := by decide +kernel
theorem dX0_isNeeded_22 : decode cX0_isNeeded 22 = .ok (.iload_n 2, 1) := by decide +kernel
theorem dX0_isNeeded_23 : decode cX0_isNeeded 23 = .ok (.ishr, 1) := by decide +kernel
theorem dX0_isNeeded_24 : decode cX0_isNeeded 24 = .ok (.iconst 1, 1) := by decide +kernel
theorem dX0_isNeeded_25 : decode cX0_isNeeded 25 = .ok (.iand, 1) := by decide +kernel
theorem dX0_isNeeded_26 : decode cX0_isNeeded 26 = .ok (.iconst 1, 1) := by decide +kernel
theorem dX0_isNeeded_27 : decode cX0_isNeeded 27 = .ok (.if_icmp .ne 7, 3) := by decide +kernel
theorem dX0_isNeeded_30 : decode cX0_isNeeded 30 = .ok (.iconst 1, 1) := by decide +kernel
theorem dX0_isNeeded_31 : decode cX0_isNeeded 31 = .ok (.goto 4, 3) := by decide +kernel
theorem dX0_isNeeded_34 : decode cX0_isNeeded 34 = .ok (.iconst 0, 1) := by decide +kernel
theorem dX0_isNeeded_35 : decode cX0_isNeeded 35 = .ok (.ireturn, 1) := by decide +kernel
theorem dX0_shotNamed_0 : decode cX0_shotNamed 0 = .ok (.iconst 0, 1) := by decide +kernel
theorem dX0_shotNamed_1 : decode cX0_shotNamed 1 = .ok (.istore_n 3, 1) := by decide +kernel
theorem dX0_shotNamed_2 : decode cX0_shotNamed 2 = .ok (.iload_n 3, 1) := by decide +kernel
theorem dX0_shotNamed_3 : decode cX0_shotNamed 3 = .ok (.aload_n 0, 1) := by decide +kernel
theorem dX0_shotNamed_4 : decode cX0_shotNamed 4 = .ok (.getfield 41, 3) := by decide +kernel
theorem dX0_shotNamed_7 : decode cX0_shotNamed 7 = .ok (.if_icmp .ge 22, 3) := by decide +kernel
theorem dX0_shotNamed_10 : decode cX0_shotNamed 10 = .ok (.aload_n 0, 1) := by decide +kernel
theorem dX0_shotNamed_11 : decode cX0_shotNamed 11 = .ok (.getfield 9, 3) := by decide +kernel
theorem dX0_shotNamed_14 : decode cX0_shotNamed 14 = .ok (.iload_n 3, 1) := by decide +kernel
theorem dX0_shotNamed_15 : decode cX0_shotNamed 15 = .ok (.laload, 1) := by decide +kernel
theorem dX0_shotNamed_16 : decode cX0_shotNamed 16 = .ok (.lload_n 1, 1) := by decide +kernel
theorem dX0_shotNamed_17 : decode cX0_shotNamed 17 = .ok (.lcmp, 1) := by decide +kernel
theorem dX0_shotNamed_18 : decode cX0_shotNamed 18 = .ok (.ifCond .ne 5, 3) := by decide +kernel
theorem dX0_shotNamed_21 : decode cX0_shotNamed 21 = .ok (.iload_n 3, 1) := by decide +kernel
theorem dX0_shotNamed_22 : decode cX0_shotNamed 22 = .ok (.ireturn, 1) := by decide +kernel
theorem dX0_shotNamed_23 : decode cX0_shotNamed 23 = .ok (.iinc 3 1, 3) := by decide +kernel
theorem dX0_shotNamed_26 : decode cX0_shotNamed 26 = .ok (.goto (-24), 3) := by decide +kernel
theorem dX0_shotNamed_29 : decode cX0_shotNamed 29 = .ok (.iconst (-1), 1) := by decide +kernel
theorem dX0_shotNamed_30 : decode cX0_shotNamed 30 = .ok (.ireturn, 1) := by decide +kernel
theorem dX0_hallNamed_0 : decode cX0_hallNamed 0 = .ok (.iconst 0, 1) := by decide +kernel
theorem dX0_hallNamed_1 : decode cX0_hallNamed 1 = .ok (.istore_n 3, 1) := by decide +kernel
theorem dX0_hallNamed_2 : decode cX0_hallNamed 2 = .ok (.iload_n 3, 1) := by decide +kernel
theorem dX0_hallNamed_3 : decode cX0_hallNamed 3 = .ok (.aload_n 0, 1) := by decide +kernel
theorem dX0_hallNamed_4 : decode cX0_hallNamed 4 = .ok (.getfield 45, 3) := by decide +kernel
theorem dX0_hallNamed_7 : decode cX0_hallNamed 7 = .ok (.if_icmp .ge 22, 3) := by decide +kernel
theorem dX0_hallNamed_10 : decode cX0_hallNamed 10 = .ok (.aload_n 0, 1) := by decide +kernel
theorem dX0_hallNamed_11 : decode cX0_hallNamed 11 = .ok (.getfield 25, 3) := by decide +kernel
theorem dX0_hallNamed_14 : decode cX0_hallNamed 14 = .ok (.iload_n 3, 1) := by decide +kernel
theorem dX0_hallNamed_15 : decode cX0_hallNamed 15 = .ok (.laload, 1) := by decide +kernel
theorem dX0_hallNamed_16 : decode cX0_hallNamed 16 = .ok (.lload_n 1, 1) := by decide +kernel
theorem dX0_hallNamed_17 : decode cX0_hallNamed 17 = .ok (.lcmp, 1) := by decide +kernel
theorem dX0_hallNamed_18 : decode cX0_hallNamed 18 = .ok (.ifCond .ne 5, 3) := by decide +kernel
theorem dX0_hallNamed_21 : decode cX0_hallNamed 21 = .ok (.iload_n 3, 1) := by decide +kernel
theorem dX0_hallNamed_22 : decode cX0_hallNamed 22 = .ok (.ireturn, 1) := by decide +kernel
theorem dX0_hallNamed_23 : decode cX0_hallNamed 23 = .ok (.iinc 3 1, 3) := by decide +kernel
theorem dX0_hallNamed_26 : decode cX0_hallNamed 26 = .ok (.goto (-24), 3) := by decide +kernel
theorem dX0_hallNamed_29 : decode cX0_hallNamed 29 = .ok (.iconst (-1), 1) := by decide +kernel
theorem dX0_hallNamed_30 : decode cX0_hallNamed 30 = .ok (.ireturn, 1) := by decide +kernel
theorem dX0_film_0 : decode cX0_film 0 = .ok (.iconst 1, 1) := by decide +kernel
theorem dX0_film_1 : decode cX0_film 1 = .ok (.aload_n 0, 1) := by decide +kernel
theorem dX0_film_2 : decode cX0_film 2 = .ok (.getfield 41, 3) := by decide +kernel
theorem dX0_film_5 : decode cX0_film 5 = .ok (.ishl, 1) := by decide +kernel
theorem dX0_film_6 : decode cX0_film 6 = .ok (.iconst 1, 1) := by decide +kernel
theorem dX0_film_7 : decode cX0_film 7 = .ok (.isub, 1) := by decide +kernel
theorem dX0_film_8 : decode cX0_film 8 = .ok (.ireturn, 1) := by decide +kernel
theorem dX0_minutesOf_0 : decode cX0_minutesOf 0 = .ok (.iconst 0, 1) := by decide +kernel
theorem dX0_minutesOf_1 : decode cX0_minutesOf 1 = .ok (.istore_n 2, 1) := by decide +kernel
theorem dX0_minutesOf_2 : decode cX0_minutesOf 2 = .ok (.iconst 0, 1) := by decide +kernel
theorem dX0_minutesOf_3 : decode cX0_minutesOf 3 = .ok (.istore_n 3, 1) := by decide +kernel
theorem dX0_minutesOf_4 : decode cX0_minutesOf 4 = .ok (.iload_n 3, 1) := by decide +kernel
theorem dX0_minutesOf_5 : decode cX0_minutesOf 5 = .ok (.aload_n 0, 1) := by decide +kernel
theorem dX0_minutesOf_6 : decode cX0_minutesOf 6 = .ok (.getfield 41, 3) := by decide +kernel
theorem dX0_minutesOf_9 : decode cX0_minutesOf 9 = .ok (.if_icmp .ge 27, 3) := by decide +kernel
theorem dX0_minutesOf_12 : decode cX0_minutesOf 12 = .ok (.iload_n 1, 1) := by decide +kernel
theorem dX0_minutesOf_13 : decode cX0_minutesOf 13 = .ok (.iload_n 3, 1) := by decide +kernel
theorem dX0_minutesOf_14 : decode cX0_minutesOf 14 = .ok (.ishr, 1) := by decide +kernel
theorem dX0_minutesOf_15 : decode cX0_minutesOf 15 = .ok (.iconst 1, 1) := by decide +kernel
theorem dX0_minutesOf_16 : decode cX0_minutesOf 16 = .ok (.iand, 1) := by decide +kernel
theorem dX0_minutesOf_17 : decode cX0_minutesOf 17 = .ok (.iconst 1, 1) := by decide +kernel
theorem dX0_minutesOf_18 : decode cX0_minutesOf 18 = .ok (.if_icmp .ne 12, 3) := by decide +kernel
theorem dX0_minutesOf_21 : decode cX0_minutesOf 21 = .ok (.iload_n 2, 1) := by decide +kernel
theorem dX0_minutesOf_22 : decode cX0_minutesOf 22 = .ok (.aload_n 0, 1) := by decide +kernel
theorem dX0_minutesOf_23 : decode cX0_minutesOf 23 = .ok (.getfield 19, 3) := by decide +kernel
theorem dX0_minutesOf_26 : decode cX0_minutesOf 26 = .ok (.iload_n 3, 1) := by decide +kernel
theorem dX0_minutesOf_27 : decode cX0_minutesOf 27 = .ok (.iaload, 1) := by decide +kernel
theorem dX0_minutesOf_28 : decode cX0_minutesOf 28 = .ok (.iadd, 1) := by decide +kernel
theorem dX0_minutesOf_29 : decode cX0_minutesOf 29 = .ok (.istore_n 2, 1) := by decide +kernel
theorem dX0_minutesOf_30 : decode cX0_minutesOf 30 = .ok (.iinc 3 1, 3) := by decide +kernel
theorem dX0_minutesOf_33 : decode cX0_minutesOf 33 = .ok (.goto (-29), 3) := by decide +kernel
theorem dX0_minutesOf_36 : decode cX0_minutesOf 36 = .ok (.iload_n 2, 1) := by decide +kernel
theorem dX0_minutesOf_37 : decode cX0_minutesOf 37 = .ok (.ireturn, 1) := by decide +kernel
theorem dX0_isLonger_0 : decode cX0_isLonger 0 = .ok (.aload_n 0, 1) := by decide +kernel
theorem dX0_isLonger_1 : decode cX0_isLonger 1 = .ok (.iload_n 1, 1) := by decide +kernel
theorem dX0_isLonger_2 : decode cX0_isLonger 2 = .ok (.invokevirtual 58, 3) := by decide +kernel
theorem dX0_isLonger_5 : decode cX0_isLonger 5 = .ok (.aload_n 0, 1) := by decide +kernel
theorem dX0_isLonger_6 : decode cX0_isLonger 6 = .ok (.iload_n 2, 1) := by decide +kernel
theorem dX0_isLonger_7 : decode cX0_isLonger 7 = .ok (.invokevirtual 58, 3) := by decide +kernel
theorem dX0_isLonger_10 : decode cX0_isLonger 10 = .ok (.isub, 1) := by decide +kernel
theorem dX0_isLonger_11 : decode cX0_isLonger 11 = .ok (.istore_n 3, 1) := by decide +kernel
theorem dX0_isLonger_12 : decode cX0_isLonger 12 = .ok (.iload_n 3, 1) := by decide +kernel
theorem dX0_isLonger_13 : decode cX0_isLonger 13 = .ok (.ifCond .gt 18, 3) := by decide +kernel
theorem dX0_isLonger_16 : decode cX0_isLonger 16 = .ok (.iload_n 3, 1) := by decide +kernel
theorem dX0_isLonger_17 : decode cX0_isLonger 17 = .ok (.ifCond .ne 18, 3) := by decide +kernel
theorem dX0_isLonger_20 : decode cX0_isLonger 20 = .ok (.iload_n 1, 1) := by decide +kernel
theorem dX0_isLonger_21 : decode cX0_isLonger 21 = .ok (.invokestatic 62, 3) := by decide +kernel
theorem dX0_isLonger_24 : decode cX0_isLonger 24 = .ok (.iload_n 2, 1) := by decide +kernel
theorem dX0_isLonger_25 : decode cX0_isLonger 25 = .ok (.invokestatic 62, 3) := by decide +kernel
theorem dX0_isLonger_28 : decode cX0_isLonger 28 = .ok (.if_icmp .ge 7, 3) := by decide +kernel
theorem dX0_isLonger_31 : decode cX0_isLonger 31 = .ok (.iconst 1, 1) := by decide +kernel
theorem dX0_isLonger_32 : decode cX0_isLonger 32 = .ok (.goto 4, 3) := by decide +kernel
theorem dX0_isLonger_35 : decode cX0_isLonger 35 = .ok (.iconst 0, 1) := by decide +kernel
theorem dX0_isLonger_36 : decode cX0_isLonger 36 = .ok (.ireturn, 1) := by decide +kernel
theorem dX0_shotAt_0 : decode cX0_shotAt 0 = .ok (.iconst 0, 1) := by decide +kernel
theorem dX0_shotAt_1 : decode cX0_shotAt 1 = .ok (.istore_n 3, 1) := by decide +kernel
theorem dX0_shotAt_2 : decode cX0_shotAt 2 = .ok (.iconst 0, 1) := by decide +kernel
theorem dX0_shotAt_3 : decode cX0_shotAt 3 = .ok (.istore 4, 2) := by decide +kernel
theorem dX0_shotAt_5 : decode cX0_shotAt 5 = .ok (.iload 4, 2) := by decide +kernel
theorem dX0_shotAt_7 : decode cX0_shotAt 7 = .ok (.aload_n 0, 1) := by decide +kernel
theorem dX0_shotAt_8 : decode cX0_shotAt 8 = .ok (.getfield 41, 3) := by decide +kernel
theorem dX0_shotAt_11 : decode cX0_shotAt 11 = .ok (.if_icmp .ge 30, 3) := by decide +kernel
theorem dX0_shotAt_14 : decode cX0_shotAt 14 = .ok (.iload_n 1, 1) := by decide +kernel
theorem dX0_shotAt_15 : decode cX0_shotAt 15 = .ok (.iload 4, 2) := by decide +kernel
theorem dX0_shotAt_17 : decode cX0_shotAt 17 = .ok (.ishr, 1) := by decide +kernel
theorem dX0_shotAt_18 : decode cX0_shotAt 18 = .ok (.iconst 1, 1) := by decide +kernel
theorem dX0_shotAt_19 : decode cX0_shotAt 19 = .ok (.iand, 1) := by decide +kernel
theorem dX0_shotAt_20 : decode cX0_shotAt 20 = .ok (.iconst 1, 1) := by decide +kernel
theorem dX0_shotAt_21 : decode cX0_shotAt 21 = .ok (.if_icmp .ne 14, 3) := by decide +kernel
theorem dX0_shotAt_24 : decode cX0_shotAt 24 = .ok (.iload_n 3, 1) := by decide +kernel
theorem dX0_shotAt_25 : decode cX0_shotAt 25 = .ok (.iload_n 2, 1) := by decide +kernel
theorem dX0_shotAt_26 : decode cX0_shotAt 26 = .ok (.if_icmp .ne 6, 3) := by decide +kernel
theorem dX0_shotAt_29 : decode cX0_shotAt 29 = .ok (.iload 4, 2) := by decide +kernel
theorem dX0_shotAt_31 : decode cX0_shotAt 31 = .ok (.ireturn, 1) := by decide +kernel
theorem dX0_shotAt_32 : decode cX0_shotAt 32 = .ok (.iinc 3 1, 3) := by decide +kernel
theorem dX0_shotAt_35 : decode cX0_shotAt 35 = .ok (.iinc 4 1, 3) := by decide +kernel
theorem dX0_shotAt_38 : decode cX0_shotAt 38 = .ok (.goto (-33), 3) := by decide +kernel
theorem dX0_shotAt_41 : decode cX0_shotAt 41 = .ok (.iconst (-1), 1) := by decide +kernel
theorem dX0_shotAt_42 : decode cX0_shotAt 42 = .ok (.ireturn, 1) := by decide +kernel
theorem dX0_makesSense_0 : decode cX0_makesSense 0 = .ok (.iconst 0, 1) := by decide +kernel
theorem dX0_makesSense_1 : decode cX0_makesSense 1 = .ok (.istore_n 2, 1) := by decide +kernel
theorem dX0_makesSense_2 : decode cX0_makesSense 2 = .ok (.iload_n 2, 1) := by decide +kernel
theorem dX0_makesSense_3 : decode cX0_makesSense 3 = .ok (.aload_n 0, 1) := by decide +kernel
theorem dX0_makesSense_4 : decode cX0_makesSense 4 = .ok (.getfield 41, 3) := by decide +kernel
theorem dX0_makesSense_7 : decode cX0_makesSense 7 = .ok (.if_icmp .ge 41, 3) := by decide +kernel
theorem dX0_makesSense_10 : decode cX0_makesSense 10 = .ok (.iload_n 1, 1) := by decide +kernel
theorem dX0_makesSense_11 : decode cX0_makesSense 11 = .ok (.iconst 1, 1) := by decide +kernel
theorem dX0_makesSense_12 : decode cX0_makesSense 12 = .ok (.iload_n 2, 1) := by decide +kernel
theorem dX0_makesSense_13 : decode cX0_makesSense 13 = .ok (.ishl, 1) := by decide +kernel
theorem dX0_makesSense_14 : decode cX0_makesSense 14 = .ok (.iconst 1, 1) := by decide +kernel
theorem dX0_makesSense_15 : decode cX0_makesSense 15 = .ok (.isub, 1) := by decide +kernel
theorem dX0_makesSense_16 : decode cX0_makesSense 16 = .ok (.iand, 1) := by decide +kernel
theorem dX0_makesSense_17 : decode cX0_makesSense 17 = .ok (.istore_n 3, 1) := by decide +kernel
theorem dX0_makesSense_18 : decode cX0_makesSense 18 = .ok (.iload_n 1, 1) := by decide +kernel
theorem dX0_makesSense_19 : decode cX0_makesSense 19 = .ok (.iload_n 2, 1) := by decide +kernel
theorem dX0_makesSense_20 : decode cX0_makesSense 20 = .ok (.ishr, 1) := by decide +kernel
theorem dX0_makesSense_21 : decode cX0_makesSense 21 = .ok (.iconst 1, 1) := by decide +kernel
theorem dX0_makesSense_22 : decode cX0_makesSense 22 = .ok (.iand, 1) := by decide +kernel
theorem dX0_makesSense_23 : decode cX0_makesSense 23 = .ok (.iconst 1, 1) := by decide +kernel
theorem dX0_makesSense_24 : decode cX0_makesSense 24 = .ok (.if_icmp .ne 18, 3) := by decide +kernel
theorem dX0_makesSense_27 : decode cX0_makesSense 27 = .ok (.aload_n 0, 1) := by decide +kernel
theorem dX0_makesSense_28 : decode cX0_makesSense 28 = .ok (.getfield 22, 3) := by decide +kernel
theorem dX0_makesSense_31 : decode cX0_makesSense 31 = .ok (.iload_n 2, 1) := by decide +kernel
theorem dX0_makesSense_32 : decode cX0_makesSense 32 = .ok (.iaload, 1) := by decide +kernel
theorem dX0_makesSense_33 : decode cX0_makesSense 33 = .ok (.iload_n 3, 1) := by decide +kernel
theorem dX0_makesSense_34 : decode cX0_makesSense 34 = .ok (.iconst (-1), 1) := by decide +kernel
theorem dX0_makesSense_35 : decode cX0_makesSense 35 = .ok (.ixor, 1) := by decide +kernel
theorem dX0_makesSense_36 : decode cX0_makesSense 36 = .ok (.iand, 1) := by decide +kernel
theorem dX0_makesSense_37 : decode cX0_makesSense 37 = .ok (.ifCond .eq 5, 3) := by decide +kernel
theorem dX0_makesSense_40 : decode cX0_makesSense 40 = .ok (.iconst 0, 1) := by decide +kernel
theorem dX0_makesSense_41 : decode cX0_makesSense 41 = .ok (.ireturn, 1) := by decide +kernel
theorem dX0_makesSense_42 : decode cX0_makesSense 42 = .ok (.iinc 2 1, 3) := by decide +kernel
theorem dX0_makesSense_45 : decode cX0_makesSense 45 = .ok (.goto (-43), 3) := by decide +kernel
theorem dX0_makesSense_48 : decode cX0_makesSense 48 = .ok (.iconst 1, 1) := by decide +kernel
theorem dX0_makesSense_49 : decode cX0_makesSense 49 = .ok (.ireturn, 1) := by decide +kernel
theorem dX0_allNeeds_0 : decode cX0_allNeeds 0 = .ok (.aload_n 0, 1) := by decide +kernel
theorem dX0_allNeeds_1 : decode cX0_allNeeds 1 = .ok (.iload_n 1, 1) := by decide +kernel
theorem dX0_allNeeds_2 : decode cX0_allNeeds 2 = .ok (.invokevirtual 51, 3) := by decide +kernel
theorem dX0_allNeeds_5 : decode cX0_allNeeds 5 = .ok (.ifCond .eq 12, 3) := by decide +kernel
theorem dX0_allNeeds_8 : decode cX0_allNeeds 8 = .ok (.aload_n 0, 1) := by decide +kernel
theorem dX0_allNeeds_9 : decode cX0_allNeeds 9 = .ok (.getfield 22, 3) := by decide +kernel
theorem dX0_allNeeds_12 : decode cX0_allNeeds 12 = .ok (.iload_n 1, 1) := by decide +kernel
theorem dX0_allNeeds_13 : decode cX0_allNeeds 13 = .ok (.iaload, 1) := by decide +kernel
theorem dX0_allNeeds_14 : decode cX0_allNeeds 14 = .ok (.goto 4, 3) := by decide +kernel
theorem dX0_allNeeds_17 : decode cX0_allNeeds 17 = .ok (.iconst 0, 1) := by decide +kernel
theorem dX0_allNeeds_18 : decode cX0_allNeeds 18 = .ok (.istore_n 2, 1) := by decide +kernel
theorem dX0_allNeeds_19 : decode cX0_allNeeds 19 = .ok (.iconst 0, 1) := by decide +kernel
theorem dX0_allNeeds_20 : decode cX0_allNeeds 20 = .ok (.istore_n 3, 1) := by decide +kernel
theorem dX0_allNeeds_21 : decode cX0_allNeeds 21 = .ok (.iload_n 3, 1) := by decide +kernel
theorem dX0_allNeeds_22 : decode cX0_allNeeds 22 = .ok (.aload_n 0, 1) := by decide +kernel
theorem dX0_allNeeds_23 : decode cX0_allNeeds 23 = .ok (.getfield 41, 3) := by decide +kernel
theorem dX0_allNeeds_26 : decode cX0_allNeeds 26 = .ok (.if_icmp .ge 47, 3) := by decide +kernel
theorem dX0_allNeeds_29 : decode cX0_allNeeds 29 = .ok (.iconst 0, 1) := by decide +kernel
theorem dX0_allNeeds_30 : decode cX0_allNeeds 30 = .ok (.istore 4, 2) := by decide +kernel
theorem dX0_allNeeds_32 : decode cX0_allNeeds 32 = .ok (.iload 4, 2) := by decide +kernel
theorem dX0_allNeeds_34 : decode cX0_allNeeds 34 = .ok (.aload_n 0, 1) := by decide +kernel
theorem dX0_allNeeds_35 : decode cX0_allNeeds 35 = .ok (.getfield 41, 3) := by decide +kernel
theorem dX0_allNeeds_38 : decode cX0_allNeeds 38 = .ok (.if_icmp .ge 29, 3) := by decide +kernel
theorem dX0_allNeeds_41 : decode cX0_allNeeds 41 = .ok (.iload_n 2, 1) := by decide +kernel
theorem dX0_allNeeds_42 : decode cX0_allNeeds 42 = .ok (.iload 4, 2) := by decide +kernel
theorem dX0_allNeeds_44 : decode cX0_allNeeds 44 = .ok (.ishr, 1) := by decide +kernel
theorem dX0_allNeeds_45 : decode cX0_allNeeds 45 = .ok (.iconst 1, 1) := by decide +kernel
theorem dX0_allNeeds_46 : decode cX0_allNeeds 46 = .ok (.iand, 1) := by decide +kernel
theorem dX0_allNeeds_47 : decode cX0_allNeeds 47 = .ok (.iconst 1, 1) := by decide +kernel
theorem dX0_allNeeds_48 : decode cX0_allNeeds 48 = .ok (.if_icmp .ne 13, 3) := by decide +kernel
theorem dX0_allNeeds_51 : decode cX0_allNeeds 51 = .ok (.iload_n 2, 1) := by decide +kernel
theorem dX0_allNeeds_52 : decode cX0_allNeeds 52 = .ok (.aload_n 0, 1) := by decide +kernel
theorem dX0_allNeeds_53 : decode cX0_allNeeds 53 = .ok (.getfield 22, 3) := by decide +kernel
theorem dX0_allNeeds_56 : decode cX0_allNeeds 56 = .ok (.iload 4, 2) := by decide +kernel
theorem dX0_allNeeds_58 : decode cX0_allNeeds 58 = .ok (.iaload, 1) := by decide +kernel
theorem dX0_allNeeds_59 : decode cX0_allNeeds 59 = .ok (.ior, 1) := by decide +kernel
theorem dX0_allNeeds_60 : decode cX0_allNeeds 60 = .ok (.istore_n 2, 1) := by decide +kernel
theorem dX0_allNeeds_61 : decode cX0_allNeeds 61 = .ok (.iinc 4 1, 3) := by decide +kernel
theorem dX0_allNeeds_64 : decode cX0_allNeeds 64 = .ok (.goto (-32), 3) := by decide +kernel
theorem dX0_allNeeds_67 : decode cX0_allNeeds 67 = .ok (.iinc 3 1, 3) := by decide +kernel
theorem dX0_allNeeds_70 : decode cX0_allNeeds 70 = .ok (.goto (-49), 3) := by decide +kernel
theorem dX0_allNeeds_73 : decode cX0_allNeeds 73 = .ok (.iload_n 2, 1) := by decide +kernel
theorem dX0_allNeeds_74 : decode cX0_allNeeds 74 = .ok (.ireturn, 1) := by decide +kernel
theorem dX0_shotsOfSort_0 : decode cX0_shotsOfSort 0 = .ok (.iconst 0, 1) := by decide +kernel
theorem dX0_shotsOfSort_1 : decode cX0_shotsOfSort 1 = .ok (.istore_n 2, 1) := by decide +kernel
theorem dX0_shotsOfSort_2 : decode cX0_shotsOfSort 2 = .ok (.iconst 0, 1) := by decide +kernel
theorem dX0_shotsOfSort_3 : decode cX0_shotsOfSort 3 = .ok (.istore_n 3, 1) := by decide +kernel
theorem dX0_shotsOfSort_4 : decode cX0_shotsOfSort 4 = .ok (.iload_n 3, 1) := by decide +kernel
theorem dX0_shotsOfSort_5 : decode cX0_shotsOfSort 5 = .ok (.aload_n 0, 1) := by decide +kernel
theorem dX0_shotsOfSort_6 : decode cX0_shotsOfSort 6 = .ok (.getfield 41, 3) := by decide +kernel
theorem dX0_shotsOfSort_9 : decode cX0_shotsOfSort 9 = .ok (.if_icmp .ge 25, 3) := by decide +kernel
theorem dX0_shotsOfSort_12 : decode cX0_shotsOfSort 12 = .ok (.aload_n 0, 1) := by decide +kernel
theorem dX0_shotsOfSort_13 : decode cX0_shotsOfSort 13 = .ok (.getfield 15, 3) := by decide +kernel
theorem dX0_shotsOfSort_16 : decode cX0_shotsOfSort 16 = .ok (.iload_n 3, 1) := by decide +kernel
theorem dX0_shotsOfSort_17 : decode cX0_shotsOfSort 17 = .ok (.iaload, 1) := by decide +kernel
theorem dX0_shotsOfSort_18 : decode cX0_shotsOfSort 18 = .ok (.iload_n 1, 1) := by decide +kernel
theorem dX0_shotsOfSort_19 : decode cX0_shotsOfSort 19 = .ok (.if_icmp .ne 9, 3) := by decide +kernel
theorem dX0_shotsOfSort_22 : decode cX0_shotsOfSort 22 = .ok (.iload_n 2, 1) := by decide +kernel
theorem dX0_shotsOfSort_23 : decode cX0_shotsOfSort 23 = .ok (.iconst 1, 1) := by decide +kernel
theorem dX0_shotsOfSort_24 : decode cX0_shotsOfSort 24 = .ok (.iload_n 3, 1) := by decide +kernel
theorem dX0_shotsOfSort_25 : decode cX0_shotsOfSort 25 = .ok (.ishl, 1) := by decide +kernel
theorem dX0_shotsOfSort_26 : decode cX0_shotsOfSort 26 = .ok (.ior, 1) := by decide +kernel
theorem dX0_shotsOfSort_27 : decode cX0_shotsOfSort 27 = .ok (.istore_n 2, 1) := by decide +kernel
theorem dX0_shotsOfSort_28 : decode cX0_shotsOfSort 28 = .ok (.iinc 3 1, 3) := by decide +kernel
theorem dX0_shotsOfSort_31 : decode cX0_shotsOfSort 31 = .ok (.goto (-27), 3) := by decide +kernel
theorem dX0_shotsOfSort_34 : decode cX0_shotsOfSort 34 = .ok (.iload_n 2, 1) := by decide +kernel
theorem dX0_shotsOfSort_35 : decode cX0_shotsOfSort 35 = .ok (.ireturn, 1) := by decide +kernel
theorem dX0_unlikeFrom_0 : decode cX0_unlikeFrom 0 = .ok (.iconst 0, 1) := by decide +kernel
theorem dX0_unlikeFrom_1 : decode cX0_unlikeFrom 1 = .ok (.istore_n 3, 1) := by decide +kernel
theorem dX0_unlikeFrom_2 : decode cX0_unlikeFrom 2 = .ok (.iload_n 2, 1) := by decide +kernel
theorem dX0_unlikeFrom_3 : decode cX0_unlikeFrom 3 = .ok (.iconst 0, 1) := by decide +kernel
theorem dX0_unlikeFrom_4 : decode cX0_unlikeFrom 4 = .ok (.invokestatic 67, 3) := by decide +kernel
theorem dX0_unlikeFrom_7 : decode cX0_unlikeFrom 7 = .ok (.istore 4, 2) := by decide +kernel
theorem dX0_unlikeFrom_9 : decode cX0_unlikeFrom 9 = .ok (.iload 4, 2) := by decide +kernel
theorem dX0_unlikeFrom_11 : decode cX0_unlikeFrom 11 = .ok (.aload_n 0, 1) := by decide +kernel
theorem dX0_unlikeFrom_12 : decode cX0_unlikeFrom 12 = .ok (.getfield 41, 3) := by decide +kernel
theorem dX0_unlikeFrom_15 : decode cX0_unlikeFrom 15 = .ok (.if_icmp .ge 45, 3) := by decide +kernel
theorem dX0_unlikeFrom_18 : decode cX0_unlikeFrom 18 = .ok (.iload_n 1, 1) := by decide +kernel
theorem dX0_unlikeFrom_19 : decode cX0_unlikeFrom 19 = .ok (.iload 4, 2) := by decide +kernel
theorem dX0_unlikeFrom_21 : decode cX0_unlikeFrom 21 = .ok (.ishr, 1) := by decide +kernel
theorem dX0_unlikeFrom_22 : decode cX0_unlikeFrom 22 = .ok (.iconst 1, 1) := by decide +kernel
theorem dX0_unlikeFrom_23 : decode cX0_unlikeFrom 23 = .ok (.iand, 1) := by decide +kernel
theorem dX0_unlikeFrom_24 : decode cX0_unlikeFrom 24 = .ok (.iconst 1, 1) := by decide +kernel
theorem dX0_unlikeFrom_25 : decode cX0_unlikeFrom 25 = .ok (.if_icmp .ne 29, 3) := by decide +kernel
theorem dX0_unlikeFrom_28 : decode cX0_unlikeFrom 28 = .ok (.iconst 1, 1) := by decide +kernel
theorem dX0_unlikeFrom_29 : decode cX0_unlikeFrom 29 = .ok (.aload_n 0, 1) := by decide +kernel
theorem dX0_unlikeFrom_30 : decode cX0_unlikeFrom 30 = .ok (.getfield 15, 3) := by decide +kernel
theorem dX0_unlikeFrom_33 : decode cX0_unlikeFrom 33 = .ok (.iload 4, 2) := by decide +kernel
theorem dX0_unlikeFrom_35 : decode cX0_unlikeFrom 35 = .ok (.iaload, 1) := by decide +kernel
theorem dX0_unlikeFrom_36 : decode cX0_unlikeFrom 36 = .ok (.ishl, 1) := by decide +kernel
theorem dX0_unlikeFrom_37 : decode cX0_unlikeFrom 37 = .ok (.istore 5, 2) := by decide +kernel
theorem dX0_unlikeFrom_39 : decode cX0_unlikeFrom 39 = .ok (.iload_n 3, 1) := by decide +kernel
theorem dX0_unlikeFrom_40 : decode cX0_unlikeFrom 40 = .ok (.iload 5, 2) := by decide +kernel
theorem dX0_unlikeFrom_42 : decode cX0_unlikeFrom 42 = .ok (.iand, 1) := by decide +kernel
theorem dX0_unlikeFrom_43 : decode cX0_unlikeFrom 43 = .ok (.ifCond .eq 6, 3) := by decide +kernel
theorem dX0_unlikeFrom_46 : decode cX0_unlikeFrom 46 = .ok (.goto 14, 3) := by decide +kernel
theorem dX0_unlikeFrom_49 : decode cX0_unlikeFrom 49 = .ok (.iload_n 3, 1) := by decide +kernel
theorem dX0_unlikeFrom_50 : decode cX0_unlikeFrom 50 = .ok (.iload 5, 2) := by decide +kernel
theorem dX0_unlikeFrom_52 : decode cX0_unlikeFrom 52 = .ok (.ior, 1) := by decide +kernel
theorem dX0_unlikeFrom_53 : decode cX0_unlikeFrom 53 = .ok (.istore_n 3, 1) := by decide +kernel
theorem dX0_unlikeFrom_54 : decode cX0_unlikeFrom 54 = .ok (.iinc 4 1, 3) := by decide +kernel
theorem dX0_unlikeFrom_57 : decode cX0_unlikeFrom 57 = .ok (.goto (-48), 3) := by decide +kernel
theorem dX0_unlikeFrom_60 : decode cX0_unlikeFrom 60 = .ok (.iload_n 3, 1) := by decide +kernel
theorem dX0_unlikeFrom_61 : decode cX0_unlikeFrom 61 = .ok (.invokestatic 62, 3) := by decide +kernel
theorem dX0_unlikeFrom_64 : decode cX0_unlikeFrom 64 = .ok (.ireturn, 1) := by decide +kernel
theorem dX0_takenOut_0 : decode cX0_takenOut 0 = .ok (.aload_n 0, 1) := by decide +kernel
theorem dX0_takenOut_1 : decode cX0_takenOut 1 = .ok (.iload_n 1, 1) := by decide +kernel
theorem dX0_takenOut_2 : decode cX0_takenOut 2 = .ok (.invokevirtual 73, 3) := by decide +kernel
theorem dX0_takenOut_5 : decode cX0_takenOut 5 = .ok (.ifCond .ne 5, 3) := by decide +kernel
theorem dX0_takenOut_8 : decode cX0_takenOut 8 = .ok (.iconst 0, 1) := by decide +kernel
theorem dX0_takenOut_9 : decode cX0_takenOut 9 = .ok (.ireturn, 1) := by decide +kernel
theorem dX0_takenOut_10 : decode cX0_takenOut 10 = .ok (.aload_n 0, 1) := by decide +kernel
theorem dX0_takenOut_11 : decode cX0_takenOut 11 = .ok (.iload_n 1, 1) := by decide +kernel
theorem dX0_takenOut_12 : decode cX0_takenOut 12 = .ok (.iload_n 2, 1) := by decide +kernel
theorem dX0_takenOut_13 : decode cX0_takenOut 13 = .ok (.invokevirtual 76, 3) := by decide +kernel
theorem dX0_takenOut_16 : decode cX0_takenOut 16 = .ok (.istore_n 3, 1) := by decide +kernel
theorem dX0_takenOut_17 : decode cX0_takenOut 17 = .ok (.aload_n 0, 1) := by decide +kernel
theorem dX0_takenOut_18 : decode cX0_takenOut 18 = .ok (.getfield 28, 3) := by decide +kernel
theorem dX0_takenOut_21 : decode cX0_takenOut 21 = .ok (.iload_n 1, 1) := by decide +kernel
theorem dX0_takenOut_22 : decode cX0_takenOut 22 = .ok (.iaload, 1) := by decide +kernel
theorem dX0_takenOut_23 : decode cX0_takenOut 23 = .ok (.tableswitch 49 1 3 #[25, 30, 39], 25) := by decide +kernel
theorem dX0_takenOut_48 : decode cX0_takenOut 48 = .ok (.iload_n 3, 1) := by decide +kernel
theorem dX0_takenOut_49 : decode cX0_takenOut 49 = .ok (.iload_n 3, 1) := by decide +kernel
theorem dX0_takenOut_50 : decode cX0_takenOut 50 = .ok (.ineg, 1) := by decide +kernel
theorem dX0_takenOut_51 : decode cX0_takenOut 51 = .ok (.iand, 1) := by decide +kernel
theorem dX0_takenOut_52 : decode cX0_takenOut 52 = .ok (.ireturn, 1) := by decide +kernel
theorem dX0_takenOut_53 : decode cX0_takenOut 53 = .ok (.iload_n 3, 1) := by decide +kernel
theorem dX0_takenOut_54 : decode cX0_takenOut 54 = .ok (.aload_n 0, 1) := by decide +kernel
theorem dX0_takenOut_55 : decode cX0_takenOut 55 = .ok (.iload_n 3, 1) := by decide +kernel
theorem dX0_takenOut_56 : decode cX0_takenOut 56 = .ok (.iload_n 2, 1) := by decide +kernel
theorem dX0_takenOut_57 : decode cX0_takenOut 57 = .ok (.invokevirtual 79, 3) := by decide +kernel
theorem dX0_takenOut_60 : decode cX0_takenOut 60 = .ok (.ior, 1) := by decide +kernel
theorem dX0_takenOut_61 : decode cX0_takenOut 61 = .ok (.ireturn, 1) := by decide +kernel
theorem dX0_takenOut_62 : decode cX0_takenOut 62 = .ok (.iload_n 3, 1) := by decide +kernel
theorem dX0_takenOut_63 : decode cX0_takenOut 63 = .ok (.aload_n 0, 1) := by decide +kernel
theorem dX0_takenOut_64 : decode cX0_takenOut 64 = .ok (.iload_n 2, 1) := by decide +kernel
theorem dX0_takenOut_65 : decode cX0_takenOut 65 = .ok (.invokevirtual 82, 3) := by decide +kernel
theorem dX0_takenOut_68 : decode cX0_takenOut 68 = .ok (.iconst (-1), 1) := by decide +kernel
theorem dX0_takenOut_69 : decode cX0_takenOut 69 = .ok (.ixor, 1) := by decide +kernel
theorem dX0_takenOut_70 : decode cX0_takenOut 70 = .ok (.iand, 1) := by decide +kernel
theorem dX0_takenOut_71 : decode cX0_takenOut 71 = .ok (.ireturn, 1) := by decide +kernel
theorem dX0_takenOut_72 : decode cX0_takenOut 72 = .ok (.iload_n 3, 1) := by decide +kernel
theorem dX0_takenOut_73 : decode cX0_takenOut 73 = .ok (.ireturn, 1) := by decide +kernel
theorem dX0_hatedIn_0 : decode cX0_hatedIn 0 = .ok (.iconst 0, 1) := by decide +kernel
theorem dX0_hatedIn_1 : decode cX0_hatedIn 1 = .ok (.istore_n 3, 1) := by decide +kernel
theorem dX0_hatedIn_2 : decode cX0_hatedIn 2 = .ok (.iconst 0, 1) := by decide +kernel
theorem dX0_hatedIn_3 : decode cX0_hatedIn 3 = .ok (.istore 4, 2) := by decide +kernel
theorem dX0_hatedIn_5 : decode cX0_hatedIn 5 = .ok (.bipush 10, 2) := by decide +kernel
theorem dX0_hatedIn_7 : decode cX0_hatedIn 7 = .ok (.istore 5, 2) := by decide +kernel
theorem dX0_hatedIn_9 : decode cX0_hatedIn 9 = .ok (.iconst 0, 1) := by decide +kernel
theorem dX0_hatedIn_10 : decode cX0_hatedIn 10 = .ok (.istore 6, 2) := by decide +kernel
theorem dX0_hatedIn_12 : decode cX0_hatedIn 12 = .ok (.iload 6, 2) := by decide +kernel
theorem dX0_hatedIn_14 : decode cX0_hatedIn 14 = .ok (.aload_n 0, 1) := by decide +kernel
theorem dX0_hatedIn_15 : decode cX0_hatedIn 15 = .ok (.getfield 41, 3) := by decide +kernel
theorem dX0_hatedIn_18 : decode cX0_hatedIn 18 = .ok (.if_icmp .ge 71, 3) := by decide +kernel
theorem dX0_hatedIn_21 : decode cX0_hatedIn 21 = .ok (.iload_n 2, 1) := by decide +kernel
theorem dX0_hatedIn_22 : decode cX0_hatedIn 22 = .ok (.iload 6, 2) := by decide +kernel
theorem dX0_hatedIn_24 : decode cX0_hatedIn 24 = .ok (.ishr, 1) := by decide +kernel
theorem dX0_hatedIn_25 : decode cX0_hatedIn 25 = .ok (.iconst 1, 1) := by decide +kernel
theorem dX0_hatedIn_26 : decode cX0_hatedIn 26 = .ok (.iand, 1) := by decide +kernel
theorem dX0_hatedIn_27 : decode cX0_hatedIn 27 = .ok (.iconst 1, 1) := by decide +kernel
theorem dX0_hatedIn_28 : decode cX0_hatedIn 28 = .ok (.if_icmp .ne 55, 3) := by decide +kernel
theorem dX0_hatedIn_31 : decode cX0_hatedIn 31 = .ok (.aload_n 0, 1) := by decide +kernel
theorem dX0_hatedIn_32 : decode cX0_hatedIn 32 = .ok (.iload_n 1, 1) := by decide +kernel
theorem dX0_hatedIn_33 : decode cX0_hatedIn 33 = .ok (.iload 6, 2) := by decide +kernel
theorem dX0_hatedIn_35 : decode cX0_hatedIn 35 = .ok (.iload 4, 2) := by decide +kernel
theorem dX0_hatedIn_37 : decode cX0_hatedIn 37 = .ok (.invokevirtual 85, 3) := by decide +kernel
theorem dX0_hatedIn_40 : decode cX0_hatedIn 40 = .ok (.istore 7, 2) := by decide +kernel
theorem dX0_hatedIn_42 : decode cX0_hatedIn 42 = .ok (.iload 7, 2) := by decide +kernel
theorem dX0_hatedIn_44 : decode cX0_hatedIn 44 = .ok (.iconst (-1), 1) := by decide +kernel
theorem dX0_hatedIn_45 : decode cX0_hatedIn 45 = .ok (.if_icmp .eq 26, 3) := by decide +kernel
theorem dX0_hatedIn_48 : decode cX0_hatedIn 48 = .ok (.aload_n 0, 1) := by decide +kernel
theorem dX0_hatedIn_49 : decode cX0_hatedIn 49 = .ok (.getfield 38, 3) := by decide +kernel
theorem dX0_hatedIn_52 : decode cX0_hatedIn 52 = .ok (.iload 7, 2) := by decide +kernel
theorem dX0_hatedIn_54 : decode cX0_hatedIn 54 = .ok (.iaload, 1) := by decide +kernel
theorem dX0_hatedIn_55 : decode cX0_hatedIn 55 = .ok (.iload 5, 2) := by decide +kernel
theorem dX0_hatedIn_57 : decode cX0_hatedIn 57 = .ok (.ishr, 1) := by decide +kernel
theorem dX0_hatedIn_58 : decode cX0_hatedIn 58 = .ok (.iconst 1, 1) := by decide +kernel
theorem dX0_hatedIn_59 : decode cX0_hatedIn 59 = .ok (.iand, 1) := by decide +kernel
theorem dX0_hatedIn_60 : decode cX0_hatedIn 60 = .ok (.iconst 1, 1) := by decide +kernel
theorem dX0_hatedIn_61 : decode cX0_hatedIn 61 = .ok (.if_icmp .ne 10, 3) := by decide +kernel
theorem dX0_hatedIn_64 : decode cX0_hatedIn 64 = .ok (.iload_n 3, 1) := by decide +kernel
theorem dX0_hatedIn_65 : decode cX0_hatedIn 65 = .ok (.iconst 1, 1) := by decide +kernel
theorem dX0_hatedIn_66 : decode cX0_hatedIn 66 = .ok (.iload 6, 2) := by decide +kernel
theorem dX0_hatedIn_68 : decode cX0_hatedIn 68 = .ok (.ishl, 1) := by decide +kernel
theorem dX0_hatedIn_69 : decode cX0_hatedIn 69 = .ok (.ior, 1) := by decide +kernel
theorem dX0_hatedIn_70 : decode cX0_hatedIn 70 = .ok (.istore_n 3, 1) := by decide +kernel
theorem dX0_hatedIn_71 : decode cX0_hatedIn 71 = .ok (.iinc 4 1, 3) := by decide +kernel
theorem dX0_hatedIn_74 : decode cX0_hatedIn 74 = .ok (.aload_n 0, 1) := by decide +kernel
theorem dX0_hatedIn_75 : decode cX0_hatedIn 75 = .ok (.getfield 15, 3) := by decide +kernel
theorem dX0_hatedIn_78 : decode cX0_hatedIn 78 = .ok (.iload 6, 2) := by decide +kernel
theorem dX0_hatedIn_80 : decode cX0_hatedIn 80 = .ok (.iaload, 1) := by decide +kernel
theorem dX0_hatedIn_81 : decode cX0_hatedIn 81 = .ok (.istore 5, 2) := by decide +kernel
theorem dX0_hatedIn_83 : decode cX0_hatedIn 83 = .ok (.iinc 6 1, 3) := by decide +kernel
theorem dX0_hatedIn_86 : decode cX0_hatedIn 86 = .ok (.goto (-74), 3) := by decide +kernel
theorem dX0_hatedIn_89 : decode cX0_hatedIn 89 = .ok (.iload_n 3, 1) := by decide +kernel
theorem dX0_hatedIn_90 : decode cX0_hatedIn 90 = .ok (.ireturn, 1) := by decide +kernel
theorem dX0_judgeAll_0 : decode cX0_judgeAll 0 = .ok (.iconst 0, 1) := by decide +kernel
theorem dX0_judgeAll_1 : decode cX0_judgeAll 1 = .ok (.istore_n 1, 1) := by decide +kernel
theorem dX0_judgeAll_2 : decode cX0_judgeAll 2 = .ok (.iload_n 1, 1) := by decide +kernel
theorem dX0_judgeAll_3 : decode cX0_judgeAll 3 = .ok (.aload_n 0, 1) := by decide +kernel
theorem dX0_judgeAll_4 : decode cX0_judgeAll 4 = .ok (.getfield 45, 3) := by decide +kernel
theorem dX0_judgeAll_7 : decode cX0_judgeAll 7 = .ok (.if_icmp .ge 72, 3) := by decide +kernel
theorem dX0_judgeAll_10 : decode cX0_judgeAll 10 = .ok (.iconst 0, 1) := by decide +kernel
theorem dX0_judgeAll_11 : decode cX0_judgeAll 11 = .ok (.istore_n 2, 1) := by decide +kernel
theorem dX0_judgeAll_12 : decode cX0_judgeAll 12 = .ok (.iconst 0, 1) := by decide +kernel
theorem dX0_judgeAll_13 : decode cX0_judgeAll 13 = .ok (.istore_n 3, 1) := by decide +kernel
theorem dX0_judgeAll_14 : decode cX0_judgeAll 14 = .ok (.iload_n 3, 1) := by decide +kernel
theorem dX0_judgeAll_15 : decode cX0_judgeAll 15 = .ok (.aload_n 0, 1) := by decide +kernel
theorem dX0_judgeAll_16 : decode cX0_judgeAll 16 = .ok (.getfield 41, 3) := by decide +kernel
theorem dX0_judgeAll_19 : decode cX0_judgeAll 19 = .ok (.if_icmp .ge 54, 3) := by decide +kernel
theorem dX0_judgeAll_22 : decode cX0_judgeAll 22 = .ok (.aload_n 0, 1) := by decide +kernel
theorem dX0_judgeAll_23 : decode cX0_judgeAll 23 = .ok (.iload_n 1, 1) := by decide +kernel
theorem dX0_judgeAll_24 : decode cX0_judgeAll 24 = .ok (.iload_n 3, 1) := by decide +kernel
theorem dX0_judgeAll_25 : decode cX0_judgeAll 25 = .ok (.iconst 0, 1) := by decide +kernel
theorem dX0_judgeAll_26 : decode cX0_judgeAll 26 = .ok (.sipush 1024, 3) := by decide +kernel
theorem dX0_judgeAll_29 : decode cX0_judgeAll 29 = .ok (.invokevirtual 89, 3) := by decide +kernel
theorem dX0_judgeAll_32 : decode cX0_judgeAll 32 = .ok (.iconst 1, 1) := by decide +kernel
theorem dX0_judgeAll_33 : decode cX0_judgeAll 33 = .ok (.istore 4, 2) := by decide +kernel
theorem dX0_judgeAll_35 : decode cX0_judgeAll 35 = .ok (.iload 4, 2) := by decide +kernel
theorem dX0_judgeAll_37 : decode cX0_judgeAll 37 = .ok (.iload_n 3, 1) := by decide +kernel
theorem dX0_judgeAll_38 : decode cX0_judgeAll 38 = .ok (.if_icmp .gt 18, 3) := by decide +kernel
theorem dX0_judgeAll_41 : decode cX0_judgeAll 41 = .ok (.aload_n 0, 1) := by decide +kernel
theorem dX0_judgeAll_42 : decode cX0_judgeAll 42 = .ok (.iload_n 1, 1) := by decide +kernel
theorem dX0_judgeAll_43 : decode cX0_judgeAll 43 = .ok (.iload_n 3, 1) := by decide +kernel
theorem dX0_judgeAll_44 : decode cX0_judgeAll 44 = .ok (.iload 4, 2) := by decide +kernel
theorem dX0_judgeAll_46 : decode cX0_judgeAll 46 = .ok (.iload_n 2, 1) := by decide +kernel
theorem dX0_judgeAll_47 : decode cX0_judgeAll 47 = .ok (.invokevirtual 89, 3) := by decide +kernel
theorem dX0_judgeAll_50 : decode cX0_judgeAll 50 = .ok (.iinc 4 1, 3) := by decide +kernel
theorem dX0_judgeAll_53 : decode cX0_judgeAll 53 = .ok (.goto (-18), 3) := by decide +kernel
theorem dX0_judgeAll_56 : decode cX0_judgeAll 56 = .ok (.iload_n 2, 1) := by decide +kernel
theorem dX0_judgeAll_57 : decode cX0_judgeAll 57 = .ok (.iconst 1, 1) := by decide +kernel
theorem dX0_judgeAll_58 : decode cX0_judgeAll 58 = .ok (.aload_n 0, 1) := by decide +kernel
theorem dX0_judgeAll_59 : decode cX0_judgeAll 59 = .ok (.getfield 15, 3) := by decide +kernel
theorem dX0_judgeAll_62 : decode cX0_judgeAll 62 = .ok (.iload_n 3, 1) := by decide +kernel
theorem dX0_judgeAll_63 : decode cX0_judgeAll 63 = .ok (.iaload, 1) := by decide +kernel
theorem dX0_judgeAll_64 : decode cX0_judgeAll 64 = .ok (.ishl, 1) := by decide +kernel
theorem dX0_judgeAll_65 : decode cX0_judgeAll 65 = .ok (.ior, 1) := by decide +kernel
theorem dX0_judgeAll_66 : decode cX0_judgeAll 66 = .ok (.istore_n 2, 1) := by decide +kernel
theorem dX0_judgeAll_67 : decode cX0_judgeAll 67 = .ok (.iinc 3 1, 3) := by decide +kernel
theorem dX0_judgeAll_70 : decode cX0_judgeAll 70 = .ok (.goto (-56), 3) := by decide +kernel
theorem dX0_judgeAll_73 : decode cX0_judgeAll 73 = .ok (.iinc 1 1, 3) := by decide +kernel
theorem dX0_judgeAll_76 : decode cX0_judgeAll 76 = .ok (.goto (-74), 3) := by decide +kernel
theorem dX0_judgeAll_79 : decode cX0_judgeAll 79 = .ok (.return_, 1) := by decide +kernel
theorem dX0_judge_0 : decode cX0_judge 0 = .ok (.aload_n 0, 1) := by decide +kernel
theorem dX0_judge_1 : decode cX0_judge 1 = .ok (.iload_n 1, 1) := by decide +kernel
theorem dX0_judge_2 : decode cX0_judge 2 = .ok (.iload_n 2, 1) := by decide +kernel
theorem dX0_judge_3 : decode cX0_judge 3 = .ok (.iload_n 3, 1) := by decide +kernel
theorem dX0_judge_4 : decode cX0_judge 4 = .ok (.invokevirtual 85, 3) := by decide +kernel
theorem dX0_judge_7 : decode cX0_judge 7 = .ok (.istore 5, 2) := by decide +kernel
theorem dX0_judge_9 : decode cX0_judge 9 = .ok (.iload 5, 2) := by decide +kernel
theorem dX0_judge_11 : decode cX0_judge 11 = .ok (.iconst (-1), 1) := by decide +kernel
theorem dX0_judge_12 : decode cX0_judge 12 = .ok (.if_icmp .ne 4, 3) := by decide +kernel
theorem dX0_judge_15 : decode cX0_judge 15 = .ok (.return_, 1) := by decide +kernel
theorem dX0_judge_16 : decode cX0_judge 16 = .ok (.aload_n 0, 1) := by decide +kernel
theorem dX0_judge_17 : decode cX0_judge 17 = .ok (.getfield 38, 3) := by decide +kernel
theorem dX0_judge_20 : decode cX0_judge 20 = .ok (.iload 5, 2) := by decide +kernel
theorem dX0_judge_22 : decode cX0_judge 22 = .ok (.iconst 0, 1) := by decide +kernel
theorem dX0_judge_23 : decode cX0_judge 23 = .ok (.iastore, 1) := by decide +kernel
theorem dX0_judge_24 : decode cX0_judge 24 = .ok (.iconst 0, 1) := by decide +kernel
theorem dX0_judge_25 : decode cX0_judge 25 = .ok (.istore 6, 2) := by decide +kernel
theorem dX0_judge_27 : decode cX0_judge 27 = .ok (.iload 6, 2) := by decide +kernel
theorem dX0_judge_29 : decode cX0_judge 29 = .ok (.bipush 10, 2) := by decide +kernel
theorem dX0_judge_31 : decode cX0_judge 31 = .ok (.if_icmp .gt 60, 3) := by decide +kernel
theorem dX0_judge_34 : decode cX0_judge 34 = .ok (.iload 4, 2) := by decide +kernel
theorem dX0_judge_36 : decode cX0_judge 36 = .ok (.iload 6, 2) := by decide +kernel
theorem dX0_judge_38 : decode cX0_judge 38 = .ok (.ishr, 1) := by decide +kernel
theorem dX0_judge_39 : decode cX0_judge 39 = .ok (.iconst 1, 1) := by decide +kernel
theorem dX0_judge_40 : decode cX0_judge 40 = .ok (.iand, 1) := by decide +kernel
theorem dX0_judge_41 : decode cX0_judge 41 = .ok (.iconst 1, 1) := by decide +kernel
theorem dX0_judge_42 : decode cX0_judge 42 = .ok (.if_icmp .ne 43, 3) := by decide +kernel
theorem dX0_judge_45 : decode cX0_judge 45 = .ok (.aload_n 0, 1) := by decide +kernel
theorem dX0_judge_46 : decode cX0_judge 46 = .ok (.getfield 34, 3) := by decide +kernel
theorem dX0_judge_49 : decode cX0_judge 49 = .ok (.iload_n 1, 1) := by decide +kernel
theorem dX0_judge_50 : decode cX0_judge 50 = .ok (.aload_n 0, 1) := by decide +kernel
theorem dX0_judge_51 : decode cX0_judge 51 = .ok (.getfield 15, 3) := by decide +kernel
theorem dX0_judge_54 : decode cX0_judge 54 = .ok (.iload_n 2, 1) := by decide +kernel
theorem dX0_judge_55 : decode cX0_judge 55 = .ok (.iaload, 1) := by decide +kernel
theorem dX0_judge_56 : decode cX0_judge 56 = .ok (.aload_n 0, 1) := by decide +kernel
theorem dX0_judge_57 : decode cX0_judge 57 = .ok (.getfield 19, 3) := by decide +kernel
theorem dX0_judge_60 : decode cX0_judge 60 = .ok (.iload_n 2, 1) := by decide +kernel
theorem dX0_judge_61 : decode cX0_judge 61 = .ok (.iaload, 1) := by decide +kernel
theorem dX0_judge_62 : decode cX0_judge 62 = .ok (.iload_n 3, 1) := by decide +kernel
theorem dX0_judge_63 : decode cX0_judge 63 = .ok (.iload 6, 2) := by decide +kernel
theorem dX0_judge_65 : decode cX0_judge 65 = .ok (.invokevirtual 93, 3) := by decide +kernel
theorem dX0_judge_68 : decode cX0_judge 68 = .ok (.ifCond .eq 17, 3) := by decide +kernel
theorem dX0_judge_71 : decode cX0_judge 71 = .ok (.aload_n 0, 1) := by decide +kernel
theorem dX0_judge_72 : decode cX0_judge 72 = .ok (.getfield 38, 3) := by decide +kernel
theorem dX0_judge_75 : decode cX0_judge 75 = .ok (.iload 5, 2) := by decide +kernel
theorem dX0_judge_77 : decode cX0_judge 77 = .ok (.dup2, 1) := by decide +kernel
theorem dX0_judge_78 : decode cX0_judge 78 = .ok (.iaload, 1) := by decide +kernel
theorem dX0_judge_79 : decode cX0_judge 79 = .ok (.iconst 1, 1) := by decide +kernel
theorem dX0_judge_80 : decode cX0_judge 80 = .ok (.iload 6, 2) := by decide +kernel
theorem dX0_judge_82 : decode cX0_judge 82 = .ok (.ishl, 1) := by decide +kernel
theorem dX0_judge_83 : decode cX0_judge 83 = .ok (.ior, 1) := by decide +kernel
theorem dX0_judge_84 : decode cX0_judge 84 = .ok (.iastore, 1) := by decide +kernel
theorem dX0_judge_85 : decode cX0_judge 85 = .ok (.iinc 6 1, 3) := by decide +kernel
theorem dX0_judge_88 : decode cX0_judge 88 = .ok (.goto (-61), 3) := by decide +kernel
theorem dX0_judge_91 : decode cX0_judge 91 = .ok (.return_, 1) := by decide +kernel
theorem dX0_keyOf_0 : decode cX0_keyOf 0 = .ok (.aload_n 0, 1) := by decide +kernel
theorem dX0_keyOf_1 : decode cX0_keyOf 1 = .ok (.iload_n 1, 1) := by decide +kernel
theorem dX0_keyOf_2 : decode cX0_keyOf 2 = .ok (.invokevirtual 73, 3) := by decide +kernel
theorem dX0_keyOf_5 : decode cX0_keyOf 5 = .ok (.ifCond .eq 25, 3) := by decide +kernel
theorem dX0_keyOf_8 : decode cX0_keyOf 8 = .ok (.aload_n 0, 1) := by decide +kernel
theorem dX0_keyOf_9 : decode cX0_keyOf 9 = .ok (.iload_n 2, 1) := by decide +kernel
theorem dX0_keyOf_10 : decode cX0_keyOf 10 = .ok (.invokevirtual 51, 3) := by decide +kernel
theorem dX0_keyOf_13 : decode cX0_keyOf 13 = .ok (.ifCond .eq 17, 3) := by decide +kernel
theorem dX0_keyOf_16 : decode cX0_keyOf 16 = .ok (.iload_n 3, 1) := by decide +kernel
theorem dX0_keyOf_17 : decode cX0_keyOf 17 = .ok (.ifCond .lt 13, 3) := by decide +kernel
theorem dX0_keyOf_20 : decode cX0_keyOf 20 = .ok (.iload_n 3, 1) := by decide +kernel
theorem dX0_keyOf_21 : decode cX0_keyOf 21 = .ok (.bipush 10, 2) := by decide +kernel
theorem dX0_keyOf_23 : decode cX0_keyOf 23 = .ok (.if_icmp .ge 7, 3) := by decide +kernel
theorem dX0_keyOf_26 : decode cX0_keyOf 26 = .ok (.iconst 1, 1) := by decide +kernel
theorem dX0_keyOf_27 : decode cX0_keyOf 27 = .ok (.goto 4, 3) := by decide +kernel
theorem dX0_keyOf_30 : decode cX0_keyOf 30 = .ok (.iconst 0, 1) := by decide +kernel
theorem dX0_keyOf_31 : decode cX0_keyOf 31 = .ok (.istore 4, 2) := by decide +kernel
theorem dX0_keyOf_33 : decode cX0_keyOf 33 = .ok (.iload 4, 2) := by decide +kernel
theorem dX0_keyOf_35 : decode cX0_keyOf 35 = .ok (.ifCond .eq 17, 3) := by decide +kernel
theorem dX0_keyOf_38 : decode cX0_keyOf 38 = .ok (.iload_n 1, 1) := by decide +kernel
theorem dX0_keyOf_39 : decode cX0_keyOf 39 = .ok (.bipush 10, 2) := by decide +kernel
theorem dX0_keyOf_41 : decode cX0_keyOf 41 = .ok (.imul, 1) := by decide +kernel
theorem dX0_keyOf_42 : decode cX0_keyOf 42 = .ok (.iload_n 2, 1) := by decide +kernel
theorem dX0_keyOf_43 : decode cX0_keyOf 43 = .ok (.iadd, 1) := by decide +kernel
theorem dX0_keyOf_44 : decode cX0_keyOf 44 = .ok (.bipush 10, 2) := by decide +kernel
theorem dX0_keyOf_46 : decode cX0_keyOf 46 = .ok (.imul, 1) := by decide +kernel
theorem dX0_keyOf_47 : decode cX0_keyOf 47 = .ok (.iload_n 3, 1) := by decide +kernel
theorem dX0_keyOf_48 : decode cX0_keyOf 48 = .ok (.iadd, 1) := by decide +kernel
theorem dX0_keyOf_49 : decode cX0_keyOf 49 = .ok (.goto 4, 3) := by decide +kernel
theorem dX0_keyOf_52 : decode cX0_keyOf 52 = .ok (.iconst (-1), 1) := by decide +kernel
theorem dX0_keyOf_53 : decode cX0_keyOf 53 = .ok (.ireturn, 1) := by decide +kernel
theorem dX0_lastOf_0 : decode cX0_lastOf 0 = .ok (.iconst 0, 1) := by decide +kernel
theorem dX0_lastOf_1 : decode cX0_lastOf 1 = .ok (.istore_n 2, 1) := by decide +kernel
theorem dX0_lastOf_2 : decode cX0_lastOf 2 = .ok (.iconst 0, 1) := by decide +kernel
theorem dX0_lastOf_3 : decode cX0_lastOf 3 = .ok (.istore_n 3, 1) := by decide +kernel
theorem dX0_lastOf_4 : decode cX0_lastOf 4 = .ok (.iload_n 3, 1) := by decide +kernel
theorem dX0_lastOf_5 : decode cX0_lastOf 5 = .ok (.aload_n 0, 1) := by decide +kernel
theorem dX0_lastOf_6 : decode cX0_lastOf 6 = .ok (.getfield 41, 3) := by decide +kernel
theorem dX0_lastOf_9 : decode cX0_lastOf 9 = .ok (.if_icmp .ge 22, 3) := by decide +kernel
theorem dX0_lastOf_12 : decode cX0_lastOf 12 = .ok (.iload_n 1, 1) := by decide +kernel
theorem dX0_lastOf_13 : decode cX0_lastOf 13 = .ok (.iload_n 3, 1) := by decide +kernel
theorem dX0_lastOf_14 : decode cX0_lastOf 14 = .ok (.ishr, 1) := by decide +kernel
theorem dX0_lastOf_15 : decode cX0_lastOf 15 = .ok (.iconst 1, 1) := by decide +kernel
theorem dX0_lastOf_16 : decode cX0_lastOf 16 = .ok (.iand, 1) := by decide +kernel
theorem dX0_lastOf_17 : decode cX0_lastOf 17 = .ok (.iconst 1, 1) := by decide +kernel
theorem dX0_lastOf_18 : decode cX0_lastOf 18 = .ok (.if_icmp .ne 7, 3) := by decide +kernel
theorem dX0_lastOf_21 : decode cX0_lastOf 21 = .ok (.iconst 1, 1) := by decide +kernel
theorem dX0_lastOf_22 : decode cX0_lastOf 22 = .ok (.iload_n 3, 1) := by decide +kernel
theorem dX0_lastOf_23 : decode cX0_lastOf 23 = .ok (.ishl, 1) := by decide +kernel
theorem dX0_lastOf_24 : decode cX0_lastOf 24 = .ok (.istore_n 2, 1) := by decide +kernel
theorem dX0_lastOf_25 : decode cX0_lastOf 25 = .ok (.iinc 3 1, 3) := by decide +kernel
theorem dX0_lastOf_28 : decode cX0_lastOf 28 = .ok (.goto (-24), 3) := by decide +kernel
theorem dX0_lastOf_31 : decode cX0_lastOf 31 = .ok (.iload_n 2, 1) := by decide +kernel
theorem dX0_lastOf_32 : decode cX0_lastOf 32 = .ok (.ireturn, 1) := by decide +kernel
theorem dX0_behind_0 : decode cX0_behind 0 = .ok (.iconst 0, 1) := by decide +kernel
theorem dX0_behind_1 : decode cX0_behind 1 = .ok (.istore_n 3, 1) := by decide +kernel
theorem dX0_behind_2 : decode cX0_behind 2 = .ok (.iconst 0, 1) := by decide +kernel
theorem dX0_behind_3 : decode cX0_behind 3 = .ok (.istore 4, 2) := by decide +kernel
theorem dX0_behind_5 : decode cX0_behind 5 = .ok (.iconst 0, 1) := by decide +kernel
theorem dX0_behind_6 : decode cX0_behind 6 = .ok (.istore 5, 2) := by decide +kernel
theorem dX0_behind_8 : decode cX0_behind 8 = .ok (.iload 5, 2) := by decide +kernel
theorem dX0_behind_10 : decode cX0_behind 10 = .ok (.aload_n 0, 1) := by decide +kernel
theorem dX0_behind_11 : decode cX0_behind 11 = .ok (.getfield 41, 3) := by decide +kernel
theorem dX0_behind_14 : decode cX0_behind 14 = .ok (.if_icmp .ge 48, 3) := by decide +kernel
theorem dX0_behind_17 : decode cX0_behind 17 = .ok (.iload_n 2, 1) := by decide +kernel
theorem dX0_behind_18 : decode cX0_behind 18 = .ok (.iload 5, 2) := by decide +kernel
theorem dX0_behind_20 : decode cX0_behind 20 = .ok (.ishr, 1) := by decide +kernel
theorem dX0_behind_21 : decode cX0_behind 21 = .ok (.iconst 1, 1) := by decide +kernel
theorem dX0_behind_22 : decode cX0_behind 22 = .ok (.iand, 1) := by decide +kernel
theorem dX0_behind_23 : decode cX0_behind 23 = .ok (.iconst 1, 1) := by decide +kernel
theorem dX0_behind_24 : decode cX0_behind 24 = .ok (.if_icmp .ne 32, 3) := by decide +kernel
theorem dX0_behind_27 : decode cX0_behind 27 = .ok (.iload 4, 2) := by decide +kernel
theorem dX0_behind_29 : decode cX0_behind 29 = .ok (.ifCond .eq 10, 3) := by decide +kernel
theorem dX0_behind_32 : decode cX0_behind 32 = .ok (.iload_n 3, 1) := by decide +kernel
theorem dX0_behind_33 : decode cX0_behind 33 = .ok (.iconst 1, 1) := by decide +kernel
theorem dX0_behind_34 : decode cX0_behind 34 = .ok (.iload 5, 2) := by decide +kernel
theorem dX0_behind_36 : decode cX0_behind 36 = .ok (.ishl, 1) := by decide +kernel
theorem dX0_behind_37 : decode cX0_behind 37 = .ok (.ior, 1) := by decide +kernel
theorem dX0_behind_38 : decode cX0_behind 38 = .ok (.istore_n 3, 1) := by decide +kernel
theorem dX0_behind_39 : decode cX0_behind 39 = .ok (.iload_n 1, 1) := by decide +kernel
theorem dX0_behind_40 : decode cX0_behind 40 = .ok (.iload 5, 2) := by decide +kernel
theorem dX0_behind_42 : decode cX0_behind 42 = .ok (.ishr, 1) := by decide +kernel
theorem dX0_behind_43 : decode cX0_behind 43 = .ok (.iconst 1, 1) := by decide +kernel
theorem dX0_behind_44 : decode cX0_behind 44 = .ok (.iand, 1) := by decide +kernel
theorem dX0_behind_45 : decode cX0_behind 45 = .ok (.iconst 1, 1) := by decide +kernel
theorem dX0_behind_46 : decode cX0_behind 46 = .ok (.if_icmp .ne 7, 3) := by decide +kernel
theorem dX0_behind_49 : decode cX0_behind 49 = .ok (.iconst 1, 1) := by decide +kernel
theorem dX0_behind_50 : decode cX0_behind 50 = .ok (.goto 4, 3) := by decide +kernel
theorem dX0_behind_53 : decode cX0_behind 53 = .ok (.iconst 0, 1) := by decide +kernel
theorem dX0_behind_54 : decode cX0_behind 54 = .ok (.istore 4, 2) := by decide +kernel
theorem dX0_behind_56 : decode cX0_behind 56 = .ok (.iinc 5 1, 3) := by decide +kernel
theorem dX0_behind_59 : decode cX0_behind 59 = .ok (.goto (-51), 3) := by decide +kernel
theorem dX0_behind_62 : decode cX0_behind 62 = .ok (.iload_n 3, 1) := by decide +kernel
theorem dX0_behind_63 : decode cX0_behind 63 = .ok (.ireturn, 1) := by decide +kernel
theorem dX1_init_0 : decode cX1_init 0 = .ok (.aload_n 0, 1) := by decide +kernel
theorem dX1_init_1 : decode cX1_init 1 = .ok (.invokespecial 1, 3) := by decide +kernel
theorem dX1_init_4 : decode cX1_init 4 = .ok (.return_, 1) := by decide +kernel
theorem dX1_begin_0 : decode cX1_begin 0 = .ok (.aload_n 0, 1) := by decide +kernel
theorem dX1_begin_1 : decode cX1_begin 1 = .ok (.iload_n 1, 1) := by decide +kernel
theorem dX1_begin_2 : decode cX1_begin 2 = .ok (.i2l, 1) := by decide +kernel
theorem dX1_begin_3 : decode cX1_begin 3 = .ok (.putfield 7, 3) := by decide +kernel
theorem dX1_begin_6 : decode cX1_begin 6 = .ok (.return_, 1) := by decide +kernel
theorem dX1_below_0 : decode cX1_below 0 = .ok (.aload_n 0, 1) := by decide +kernel
theorem dX1_below_1 : decode cX1_below 1 = .ok (.aload_n 0, 1) := by decide +kernel
theorem dX1_below_2 : decode cX1_below 2 = .ok (.getfield 7, 3) := by decide +kernel
theorem dX1_below_5 : decode cX1_below 5 = .ok (.ldc2_w 13, 3) := by decide +kernel
theorem dX1_below_8 : decode cX1_below 8 = .ok (.lmul, 1) := by decide +kernel
theorem dX1_below_9 : decode cX1_below 9 = .ok (.ldc2_w 15, 3) := by decide +kernel
theorem dX1_below_12 : decode cX1_below 12 = .ok (.ladd, 1) := by decide +kernel
theorem dX1_below_13 : decode cX1_below 13 = .ok (.ldc2_w 17, 3) := by decide +kernel
theorem dX1_below_16 : decode cX1_below 16 = .ok (.lrem, 1) := by decide +kernel
theorem dX1_below_17 : decode cX1_below 17 = .ok (.putfield 7, 3) := by decide +kernel
theorem dX1_below_20 : decode cX1_below 20 = .ok (.iload_n 1, 1) := by decide +kernel
theorem dX1_below_21 : decode cX1_below 21 = .ok (.iconst 1, 1) := by decide +kernel
theorem dX1_below_22 : decode cX1_below 22 = .ok (.if_icmp .ge 7, 3) := by decide +kernel
theorem dX1_below_25 : decode cX1_below 25 = .ok (.iconst 0, 1) := by decide +kernel
theorem dX1_below_26 : decode cX1_below 26 = .ok (.goto 15, 3) := by decide +kernel
theorem dX1_below_29 : decode cX1_below 29 = .ok (.aload_n 0, 1) := by decide +kernel
theorem dX1_below_30 : decode cX1_below 30 = .ok (.getfield 7, 3) := by decide +kernel
theorem dX1_below_33 : decode cX1_below 33 = .ok (.ldc2_w 19, 3) := by decide +kernel
theorem dX1_below_36 : decode cX1_below 36 = .ok (.ldiv, 1) := by decide +kernel
theorem dX1_below_37 : decode cX1_below 37 = .ok (.iload_n 1, 1) := by decide +kernel
theorem dX1_below_38 : decode cX1_below 38 = .ok (.i2l, 1) := by decide +kernel
theorem dX1_below_39 : decode cX1_below 39 = .ok (.lrem, 1) := by decide +kernel
theorem dX1_below_40 : decode cX1_below 40 = .ok (.l2i, 1) := by decide +kernel
theorem dX1_below_41 : decode cX1_below 41 = .ok (.ireturn, 1) := by decide +kernel
theorem dX2_init_0 : decode cX2_init 0 = .ok (.aload_n 0, 1) := by decide +kernel
theorem dX2_init_1 : decode cX2_init 1 = .ok (.invokespecial 3, 3) := by decide +kernel
theorem dX2_init_4 : decode cX2_init 4 = .ok (.aload_n 0, 1) := by decide +kernel
theorem dX2_init_5 : decode cX2_init 5 = .ok (.sipush 1000, 3) := by decide +kernel
theorem dX2_init_8 : decode cX2_init 8 = .ok (.newarray .int, 2) := by decide +kernel
theorem dX2_init_10 : decode cX2_init 10 = .ok (.putfield 9, 3) := by decide +kernel
theorem dX2_init_13 : decode cX2_init 13 = .ok (.aload_n 0, 1) := by decide +kernel
theorem dX2_init_14 : decode cX2_init 14 = .ok (.bipush 6, 2) := by decide +kernel
theorem dX2_init_16 : decode cX2_init 16 = .ok (.newarray .int, 2) := by decide +kernel
theorem dX2_init_18 : decode cX2_init 18 = .ok (.putfield 15, 3) := by decide +kernel
theorem dX2_init_21 : decode cX2_init 21 = .ok (.aload_n 0, 1) := by decide +kernel
theorem dX2_init_22 : decode cX2_init 22 = .ok (.bipush 24, 2) := by decide +kernel
theorem dX2_init_24 : decode cX2_init 24 = .ok (.newarray .int, 2) := by decide +kernel
theorem dX2_init_26 : decode cX2_init 26 = .ok (.putfield 18, 3) := by decide +kernel
theorem dX2_init_29 : decode cX2_init 29 = .ok (.return_, 1) := by decide +kernel
theorem dX2_add_0 : decode cX2_add 0 = .ok (.aload_n 0, 1) := by decide +kernel
theorem dX2_add_1 : decode cX2_add 1 = .ok (.getfield 21, 3) := by decide +kernel
theorem dX2_add_4 : decode cX2_add 4 = .ok (.sipush 1000, 3) := by decide +kernel
theorem dX2_add_7 : decode cX2_add 7 = .ok (.if_icmp .ge 23, 3) := by decide +kernel
theorem dX2_add_10 : decode cX2_add 10 = .ok (.aload_n 0, 1) := by decide +kernel
theorem dX2_add_11 : decode cX2_add 11 = .ok (.getfield 9, 3) := by decide +kernel
theorem dX2_add_14 : decode cX2_add 14 = .ok (.aload_n 0, 1) := by decide +kernel
theorem dX2_add_15 : decode cX2_add 15 = .ok (.getfield 21, 3) := by decide +kernel
theorem dX2_add_18 : decode cX2_add 18 = .ok (.iload_n 1, 1) := by decide +kernel
theorem dX2_add_19 : decode cX2_add 19 = .ok (.iastore, 1) := by decide +kernel
theorem dX2_add_20 : decode cX2_add 20 = .ok (.aload_n 0, 1) := by decide +kernel
theorem dX2_add_21 : decode cX2_add 21 = .ok (.dup, 1) := by decide +kernel
theorem dX2_add_22 : decode cX2_add 22 = .ok (.getfield 21, 3) := by decide +kernel
theorem dX2_add_25 : decode cX2_add 25 = .ok (.iconst 1, 1) := by decide +kernel
theorem dX2_add_26 : decode cX2_add 26 = .ok (.iadd, 1) := by decide +kernel
theorem dX2_add_27 : decode cX2_add 27 = .ok (.putfield 21, 3) := by decide +kernel
theorem dX2_add_30 : decode cX2_add 30 = .ok (.return_, 1) := by decide +kernel
theorem dX2_valueFor_0 : decode cX2_valueFor 0 = .ok (.iload_n 1, 1) := by decide +kernel
theorem dX2_valueFor_1 : decode cX2_valueFor 1 = .ok (.ifCond .lt 9, 3) := by decide +kernel
theorem dX2_valueFor_4 : decode cX2_valueFor 4 = .ok (.iload_n 1, 1) := by decide +kernel
theorem dX2_valueFor_5 : decode cX2_valueFor 5 = .ok (.bipush 6, 2) := by decide +kernel
theorem dX2_valueFor_7 : decode cX2_valueFor 7 = .ok (.if_icmp .lt 5, 3) := by decide +kernel
theorem dX2_valueFor_10 : decode cX2_valueFor 10 = .ok (.iconst 0, 1) := by decide +kernel
theorem dX2_valueFor_11 : decode cX2_valueFor 11 = .ok (.ireturn, 1) := by decide +kernel
theorem dX2_valueFor_12 : decode cX2_valueFor 12 = .ok (.iconst 0, 1) := by decide +kernel
theorem dX2_valueFor_13 : decode cX2_valueFor 13 = .ok (.istore 6, 2) := by decide +kernel
theorem dX2_valueFor_15 : decode cX2_valueFor 15 = .ok (.iload_n 1, 1) := by decide +kernel
theorem dX2_valueFor_16 : decode cX2_valueFor 16 = .ok (.ifCond .ne 7, 3) := by decide +kernel
theorem dX2_valueFor_19 : decode cX2_valueFor 19 = .ok (.iconst 0, 1) := by decide +kernel
theorem dX2_valueFor_20 : decode cX2_valueFor 20 = .ok (.goto 11, 3) := by decide +kernel
theorem dX2_valueFor_23 : decode cX2_valueFor 23 = .ok (.aload_n 0, 1) := by decide +kernel
theorem dX2_valueFor_24 : decode cX2_valueFor 24 = .ok (.getfield 15, 3) := by decide +kernel
theorem dX2_valueFor_27 : decode cX2_valueFor 27 = .ok (.iload_n 1, 1) := by decide +kernel
theorem dX2_valueFor_28 : decode cX2_valueFor 28 = .ok (.iconst 1, 1) := by decide +kernel
theorem dX2_valueFor_29 : decode cX2_valueFor 29 = .ok (.isub, 1) := by decide +kernel
theorem dX2_valueFor_30 : decode cX2_valueFor 30 = .ok (.iaload, 1) := by decide +kernel
theorem dX2_valueFor_31 : decode cX2_valueFor 31 = .ok (.istore 7, 2) := by decide +kernel
theorem dX2_valueFor_33 : decode cX2_valueFor 33 = .ok (.iload 7, 2) := by decide +kernel
theorem dX2_valueFor_35 : decode cX2_valueFor 35 = .ok (.aload_n 0, 1) := by decide +kernel
theorem dX2_valueFor_36 : decode cX2_valueFor 36 = .ok (.getfield 15, 3) := by decide +kernel
theorem dX2_valueFor_39 : decode cX2_valueFor 39 = .ok (.iload_n 1, 1) := by decide +kernel
theorem dX2_valueFor_40 : decode cX2_valueFor 40 = .ok (.iaload, 1) := by decide +kernel
theorem dX2_valueFor_41 : decode cX2_valueFor 41 = .ok (.if_icmp .ge 222, 3) := by decide +kernel
theorem dX2_valueFor_44 : decode cX2_valueFor 44 = .ok (.iload 7, 2) := by decide +kernel
theorem dX2_valueFor_46 : decode cX2_valueFor 46 = .ok (.sipush 1000, 3) := by decide +kernel
theorem dX2_valueFor_49 : decode cX2_valueFor 49 = .ok (.if_icmp .ge 214, 3) := by decide +kernel
theorem dX2_valueFor_52 : decode cX2_valueFor 52 = .ok (.aload_n 0, 1) := by decide +kernel
theorem dX2_valueFor_53 : decode cX2_valueFor 53 = .ok (.getfield 9, 3) := by decide +kernel
theorem dX2_valueFor_56 : decode cX2_valueFor 56 = .ok (.iload 7, 2) := by decide +kernel
theorem dX2_valueFor_58 : decode cX2_valueFor 58 = .ok (.iaload, 1) := by decide +kernel
theorem dX2_valueFor_59 : decode cX2_valueFor 59 = .ok (.istore 8, 2) := by decide +kernel
theorem dX2_valueFor_61 : decode cX2_valueFor 61 = .ok (.iload 8, 2) := by decide +kernel
theorem dX2_valueFor_63 : decode cX2_valueFor 63 = .ok (.bipush (-5), 2) := by decide +kernel
theorem dX2_valueFor_65 : decode cX2_valueFor 65 = .ok (.if_icmp .le 107, 3) := by decide +kernel
theorem dX2_valueFor_68 : decode cX2_valueFor 68 = .ok (.iload 6, 2) := by decide +kernel
theorem dX2_valueFor_70 : decode cX2_valueFor 70 = .ok (.bipush 24, 2) := by decide +kernel
theorem dX2_valueFor_72 : decode cX2_valueFor 72 = .ok (.if_icmp .lt 5, 3) := by decide +kernel
theorem dX2_valueFor_75 : decode cX2_valueFor 75 = .ok (.iconst 0, 1) := by decide +kernel
theorem dX2_valueFor_76 : decode cX2_valueFor 76 = .ok (.ireturn, 1) := by decide +kernel
theorem dX2_valueFor_77 : decode cX2_valueFor 77 = .ok (.aload_n 0, 1) := by decide +kernel
theorem dX2_valueFor_78 : decode cX2_valueFor 78 = .ok (.getfield 18, 3) := by decide +kernel
theorem dX2_valueFor_81 : decode cX2_valueFor 81 = .ok (.iload 6, 2) := by decide +kernel
theorem dX2_valueFor_83 : decode cX2_valueFor 83 = .ok (.iload 8, 2) := by decide +kernel
theorem dX2_valueFor_85 : decode cX2_valueFor 85 = .ok (.iastore, 1) := by decide +kernel
theorem dX2_valueFor_86 : decode cX2_valueFor 86 = .ok (.iload 8, 2) := by decide +kernel
theorem dX2_valueFor_88 : decode cX2_valueFor 88 = .ok (.tableswitch 78 (-4) (-1) #[66, 54, 43, 32], 32) := by decide +kernel
theorem dX2_valueFor_120 : decode cX2_valueFor 120 = .ok (.aload_n 0, 1) := by decide +kernel
theorem dX2_valueFor_121 : decode cX2_valueFor 121 = .ok (.getfield 18, 3) := by decide +kernel
theorem dX2_valueFor_124 : decode cX2_valueFor 124 = .ok (.iload 6, 2) := by decide +kernel
theorem dX2_valueFor_126 : decode cX2_valueFor 126 = .ok (.iload_n 2, 1) := by decide +kernel
theorem dX2_valueFor_127 : decode cX2_valueFor 127 = .ok (.iastore, 1) := by decide +kernel
theorem dX2_valueFor_128 : decode cX2_valueFor 128 = .ok (.goto 38, 3) := by decide +kernel
theorem dX2_valueFor_131 : decode cX2_valueFor 131 = .ok (.aload_n 0, 1) := by decide +kernel
theorem dX2_valueFor_132 : decode cX2_valueFor 132 = .ok (.getfield 18, 3) := by decide +kernel
theorem dX2_valueFor_135 : decode cX2_valueFor 135 = .ok (.iload 6, 2) := by decide +kernel
theorem dX2_valueFor_137 : decode cX2_valueFor 137 = .ok (.iload_n 3, 1) := by decide +kernel
theorem dX2_valueFor_138 : decode cX2_valueFor 138 = .ok (.iastore, 1) := by decide +kernel
theorem dX2_valueFor_139 : decode cX2_valueFor 139 = .ok (.goto 27, 3) := by decide +kernel
theorem dX2_valueFor_142 : decode cX2_valueFor 142 = .ok (.aload_n 0, 1) := by decide +kernel
theorem dX2_valueFor_143 : decode cX2_valueFor 143 = .ok (.getfield 18, 3) := by decide +kernel
theorem dX2_valueFor_146 : decode cX2_valueFor 146 = .ok (.iload 6, 2) := by decide +kernel
theorem dX2_valueFor_148 : decode cX2_valueFor 148 = .ok (.iload 4, 2) := by decide +kernel
theorem dX2_valueFor_150 : decode cX2_valueFor 150 = .ok (.iastore, 1) := by decide +kernel
theorem dX2_valueFor_151 : decode cX2_valueFor 151 = .ok (.goto 15, 3) := by decide +kernel
theorem dX2_valueFor_154 : decode cX2_valueFor 154 = .ok (.aload_n 0, 1) := by decide +kernel
theorem dX2_valueFor_155 : decode cX2_valueFor 155 = .ok (.getfield 18, 3) := by decide +kernel
theorem dX2_valueFor_158 : decode cX2_valueFor 158 = .ok (.iload 6, 2) := by decide +kernel
theorem dX2_valueFor_160 : decode cX2_valueFor 160 = .ok (.iload 5, 2) := by decide +kernel
theorem dX2_valueFor_162 : decode cX2_valueFor 162 = .ok (.iastore, 1) := by decide +kernel
theorem dX2_valueFor_163 : decode cX2_valueFor 163 = .ok (.goto 3, 3) := by decide +kernel
theorem dX2_valueFor_166 : decode cX2_valueFor 166 = .ok (.iinc 6 1, 3) := by decide +kernel
theorem dX2_valueFor_169 : decode cX2_valueFor 169 = .ok (.goto 88, 3) := by decide +kernel
theorem dX2_valueFor_172 : decode cX2_valueFor 172 = .ok (.iload 8, 2) := by decide +kernel
theorem dX2_valueFor_174 : decode cX2_valueFor 174 = .ok (.bipush (-5), 2) := by decide +kernel
theorem dX2_valueFor_176 : decode cX2_valueFor 176 = .ok (.if_icmp .ne 40, 3) := by decide +kernel
theorem dX2_valueFor_179 : decode cX2_valueFor 179 = .ok (.iload 6, 2) := by decide +kernel
theorem dX2_valueFor_181 : decode cX2_valueFor 181 = .ok (.iconst 1, 1) := by decide +kernel
theorem dX2_valueFor_182 : decode cX2_valueFor 182 = .ok (.if_icmp .ge 5, 3) := by decide +kernel
theorem dX2_valueFor_185 : decode cX2_valueFor 185 = .ok (.iconst 0, 1) := by decide +kernel
theorem dX2_valueFor_186 : decode cX2_valueFor 186 = .ok (.ireturn, 1) := by decide +kernel
theorem dX2_valueFor_187 : decode cX2_valueFor 187 = .ok (.aload_n 0, 1) := by decide +kernel
theorem dX2_valueFor_188 : decode cX2_valueFor 188 = .ok (.getfield 18, 3) := by decide +kernel
theorem dX2_valueFor_191 : decode cX2_valueFor 191 = .ok (.iload 6, 2) := by decide +kernel
theorem dX2_valueFor_193 : decode cX2_valueFor 193 = .ok (.iconst 1, 1) := by decide +kernel
theorem dX2_valueFor_194 : decode cX2_valueFor 194 = .ok (.isub, 1) := by decide +kernel
theorem dX2_valueFor_195 : decode cX2_valueFor 195 = .ok (.aload_n 0, 1) := by decide +kernel
theorem dX2_valueFor_196 : decode cX2_valueFor 196 = .ok (.getfield 18, 3) := by decide +kernel
theorem dX2_valueFor_199 : decode cX2_valueFor 199 = .ok (.iload 6, 2) := by decide +kernel
theorem dX2_valueFor_201 : decode cX2_valueFor 201 = .ok (.iconst 1, 1) := by decide +kernel
theorem dX2_valueFor_202 : decode cX2_valueFor 202 = .ok (.isub, 1) := by decide +kernel
theorem dX2_valueFor_203 : decode cX2_valueFor 203 = .ok (.iaload, 1) := by decide +kernel
theorem dX2_valueFor_204 : decode cX2_valueFor 204 = .ok (.ifCond .ne 7, 3) := by decide +kernel
theorem dX2_valueFor_207 : decode cX2_valueFor 207 = .ok (.iconst 1, 1) := by decide +kernel
theorem dX2_valueFor_208 : decode cX2_valueFor 208 = .ok (.goto 4, 3) := by decide +kernel
theorem dX2_valueFor_211 : decode cX2_valueFor 211 = .ok (.iconst 0, 1) := by decide +kernel
theorem dX2_valueFor_212 : decode cX2_valueFor 212 = .ok (.iastore, 1) := by decide +kernel
theorem dX2_valueFor_213 : decode cX2_valueFor 213 = .ok (.goto 44, 3) := by decide +kernel
theorem dX2_valueFor_216 : decode cX2_valueFor 216 = .ok (.iload 6, 2) := by decide +kernel
theorem dX2_valueFor_218 : decode cX2_valueFor 218 = .ok (.iconst 2, 1) := by decide +kernel
theorem dX2_valueFor_219 : decode cX2_valueFor 219 = .ok (.if_icmp .ge 5, 3) := by decide +kernel
theorem dX2_valueFor_222 : decode cX2_valueFor 222 = .ok (.iconst 0, 1) := by decide +kernel
theorem dX2_valueFor_223 : decode cX2_valueFor 223 = .ok (.ireturn, 1) := by decide +kernel
theorem dX2_valueFor_224 : decode cX2_valueFor 224 = .ok (.iinc 6 (-1), 3) := by decide +kernel
theorem dX2_valueFor_227 : decode cX2_valueFor 227 = .ok (.aload_n 0, 1) := by decide +kernel
theorem dX2_valueFor_228 : decode cX2_valueFor 228 = .ok (.getfield 18, 3) := by decide +kernel
theorem dX2_valueFor_231 : decode cX2_valueFor 231 = .ok (.iload 6, 2) := by decide +kernel
theorem dX2_valueFor_233 : decode cX2_valueFor 233 = .ok (.iconst 1, 1) := by decide +kernel
theorem dX2_valueFor_234 : decode cX2_valueFor 234 = .ok (.isub, 1) := by decide +kernel
theorem dX2_valueFor_235 : decode cX2_valueFor 235 = .ok (.iload 8, 2) := by decide +kernel
theorem dX2_valueFor_237 : decode cX2_valueFor 237 = .ok (.aload_n 0, 1) := by decide +kernel
theorem dX2_valueFor_238 : decode cX2_valueFor 238 = .ok (.getfield 18, 3) := by decide +kernel
theorem dX2_valueFor_241 : decode cX2_valueFor 241 = .ok (.iload 6, 2) := by decide +kernel
theorem dX2_valueFor_243 : decode cX2_valueFor 243 = .ok (.iconst 1, 1) := by decide +kernel
theorem dX2_valueFor_244 : decode cX2_valueFor 244 = .ok (.isub, 1) := by decide +kernel
theorem dX2_valueFor_245 : decode cX2_valueFor 245 = .ok (.iaload, 1) := by decide +kernel
theorem dX2_valueFor_246 : decode cX2_valueFor 246 = .ok (.aload_n 0, 1) := by decide +kernel
theorem dX2_valueFor_247 : decode cX2_valueFor 247 = .ok (.getfield 18, 3) := by decide +kernel
theorem dX2_valueFor_250 : decode cX2_valueFor 250 = .ok (.iload 6, 2) := by decide +kernel
theorem dX2_valueFor_252 : decode cX2_valueFor 252 = .ok (.iaload, 1) := by decide +kernel
theorem dX2_valueFor_253 : decode cX2_valueFor 253 = .ok (.invokestatic 25, 3) := by decide +kernel
theorem dX2_valueFor_256 : decode cX2_valueFor 256 = .ok (.iastore, 1) := by decide +kernel
theorem dX2_valueFor_257 : decode cX2_valueFor 257 = .ok (.iinc 7 1, 3) := by decide +kernel
theorem dX2_valueFor_260 : decode cX2_valueFor 260 = .ok (.goto (-227), 3) := by decide +kernel
theorem dX2_valueFor_263 : decode cX2_valueFor 263 = .ok (.aload_n 0, 1) := by decide +kernel
theorem dX2_valueFor_264 : decode cX2_valueFor 264 = .ok (.getfield 18, 3) := by decide +kernel
theorem dX2_valueFor_267 : decode cX2_valueFor 267 = .ok (.iconst 0, 1) := by decide +kernel
theorem dX2_valueFor_268 : decode cX2_valueFor 268 = .ok (.iaload, 1) := by decide +kernel
theorem dX2_valueFor_269 : decode cX2_valueFor 269 = .ok (.ireturn, 1) := by decide +kernel
theorem dX2_join_0 : decode cX2_join 0 = .ok (.iload_n 0, 1) := by decide +kernel
theorem dX2_join_1 : decode cX2_join 1 = .ok (.tableswitch 97 (-11) (-6) #[93, 89, 78, 67, 53, 39], 39) := by decide +kernel
theorem dX2_join_40 : decode cX2_join 40 = .ok (.iload_n 1, 1) := by decide +kernel
theorem dX2_join_41 : decode cX2_join 41 = .ok (.ifCond .eq 11, 3) := by decide +kernel
theorem dX2_join_44 : decode cX2_join 44 = .ok (.iload_n 2, 1) := by decide +kernel
theorem dX2_join_45 : decode cX2_join 45 = .ok (.ifCond .eq 7, 3) := by decide +kernel
theorem dX2_join_48 : decode cX2_join 48 = .ok (.iconst 1, 1) := by decide +kernel
theorem dX2_join_49 : decode cX2_join 49 = .ok (.goto 4, 3) := by decide +kernel
theorem dX2_join_52 : decode cX2_join 52 = .ok (.iconst 0, 1) := by decide +kernel
theorem dX2_join_53 : decode cX2_join 53 = .ok (.ireturn, 1) := by decide +kernel
theorem dX2_join_54 : decode cX2_join 54 = .ok (.iload_n 1, 1) := by decide +kernel
theorem dX2_join_55 : decode cX2_join 55 = .ok (.ifCond .ne 7, 3) := by decide +kernel
theorem dX2_join_58 : decode cX2_join 58 = .ok (.iload_n 2, 1) := by decide +kernel
theorem dX2_join_59 : decode cX2_join 59 = .ok (.ifCond .eq 7, 3) := by decide +kernel
theorem dX2_join_62 : decode cX2_join 62 = .ok (.iconst 1, 1) := by decide +kernel
theorem dX2_join_63 : decode cX2_join 63 = .ok (.goto 4, 3) := by decide +kernel
theorem dX2_join_66 : decode cX2_join 66 = .ok (.iconst 0, 1) := by decide +kernel
theorem dX2_join_67 : decode cX2_join 67 = .ok (.ireturn, 1) := by decide +kernel
theorem dX2_join_68 : decode cX2_join 68 = .ok (.iload_n 1, 1) := by decide +kernel
theorem dX2_join_69 : decode cX2_join 69 = .ok (.iload_n 2, 1) := by decide +kernel
theorem dX2_join_70 : decode cX2_join 70 = .ok (.if_icmp .ge 7, 3) := by decide +kernel
theorem dX2_join_73 : decode cX2_join 73 = .ok (.iconst 1, 1) := by decide +kernel
theorem dX2_join_74 : decode cX2_join 74 = .ok (.goto 4, 3) := by decide +kernel
theorem dX2_join_77 : decode cX2_join 77 = .ok (.iconst 0, 1) := by decide +kernel
theorem dX2_join_78 : decode cX2_join 78 = .ok (.ireturn, 1) := by decide +kernel
theorem dX2_join_79 : decode cX2_join 79 = .ok (.iload_n 1, 1) := by decide +kernel
theorem dX2_join_80 : decode cX2_join 80 = .ok (.iload_n 2, 1) := by decide +kernel
theorem dX2_join_81 : decode cX2_join 81 = .ok (.if_icmp .ne 7, 3) := by decide +kernel
theorem dX2_join_84 : decode cX2_join 84 = .ok (.iconst 1, 1) := by decide +kernel
theorem dX2_join_85 : decode cX2_join 85 = .ok (.goto 4, 3) := by decide +kernel
theorem dX2_join_88 : decode cX2_join 88 = .ok (.iconst 0, 1) := by decide +kernel
theorem dX2_join_89 : decode cX2_join 89 = .ok (.ireturn, 1) := by decide +kernel
theorem dX2_join_90 : decode cX2_join 90 = .ok (.iload_n 1, 1) := by decide +kernel
theorem dX2_join_91 : decode cX2_join 91 = .ok (.iload_n 2, 1) := by decide +kernel
theorem dX2_join_92 : decode cX2_join 92 = .ok (.iadd, 1) := by decide +kernel
theorem dX2_join_93 : decode cX2_join 93 = .ok (.ireturn, 1) := by decide +kernel
theorem dX2_join_94 : decode cX2_join 94 = .ok (.iload_n 1, 1) := by decide +kernel
theorem dX2_join_95 : decode cX2_join 95 = .ok (.iload_n 2, 1) := by decide +kernel
theorem dX2_join_96 : decode cX2_join 96 = .ok (.isub, 1) := by decide +kernel
theorem dX2_join_97 : decode cX2_join 97 = .ok (.ireturn, 1) := by decide +kernel
theorem dX2_join_98 : decode cX2_join 98 = .ok (.iload_n 1, 1) := by decide +kernel
theorem dX2_join_99 : decode cX2_join 99 = .ok (.iload_n 2, 1) := by decide +kernel
theorem dX2_join_100 : decode cX2_join 100 = .ok (.imul, 1) := by decide +kernel
theorem dX2_join_101 : decode cX2_join 101 = .ok (.ireturn, 1) := by decide +kernel
theorem dX3_init_0 : decode cX3_init 0 = .ok (.aload_n 0, 1) := by decide +kernel
theorem dX3_init_1 : decode cX3_init 1 = .ok (.invokespecial 1, 3) := by decide +kernel
theorem dX3_init_4 : decode cX3_init 4 = .ok (.aload_n 0, 1) := by decide +kernel
theorem dX3_init_5 : decode cX3_init 5 = .ok (.new 7, 3) := by decide +kernel
theorem dX3_init_8 : decode cX3_init 8 = .ok (.dup, 1) := by decide +kernel
theorem dX3_init_9 : decode cX3_init 9 = .ok (.invokespecial 9, 3) := by decide +kernel
theorem dX3_init_12 : decode cX3_init 12 = .ok (.putfield 10, 3) := by decide +kernel
theorem dX3_init_15 : decode cX3_init 15 = .ok (.aload_n 0, 1) := by decide +kernel
theorem dX3_init_16 : decode cX3_init 16 = .ok (.new 16, 3) := by decide +kernel
theorem dX3_init_19 : decode cX3_init 19 = .ok (.dup, 1) := by decide +kernel
theorem dX3_init_20 : decode cX3_init 20 = .ok (.invokespecial 18, 3) := by decide +kernel
theorem dX3_init_23 : decode cX3_init 23 = .ok (.putfield 19, 3) := by decide +kernel
theorem dX3_init_26 : decode cX3_init 26 = .ok (.aload_n 0, 1) := by decide +kernel
theorem dX3_init_27 : decode cX3_init 27 = .ok (.new 23, 3) := by decide +kernel
theorem dX3_init_30 : decode cX3_init 30 = .ok (.dup, 1) := by decide +kernel
theorem dX3_init_31 : decode cX3_init 31 = .ok (.invokespecial 25, 3) := by decide +kernel
theorem dX3_init_34 : decode cX3_init 34 = .ok (.putfield 26, 3) := by decide +kernel
theorem dX3_init_37 : decode cX3_init 37 = .ok (.return_, 1) := by decide +kernel
theorem dX3_lay_0 : decode cX3_lay 0 = .ok (.aload_n 0, 1) := by decide +kernel
theorem dX3_lay_1 : decode cX3_lay 1 = .ok (.getfield 10, 3) := by decide +kernel
theorem dX3_lay_4 : decode cX3_lay 4 = .ok (.aload_n 1, 1) := by decide +kernel
theorem dX3_lay_5 : decode cX3_lay 5 = .ok (.invokevirtual 30, 3) := by decide +kernel
theorem dX3_lay_8 : decode cX3_lay 8 = .ok (.aload_n 0, 1) := by decide +kernel
theorem dX3_lay_9 : decode cX3_lay 9 = .ok (.getfield 19, 3) := by decide +kernel
theorem dX3_lay_12 : decode cX3_lay 12 = .ok (.aload_n 2, 1) := by decide +kernel
theorem dX3_lay_13 : decode cX3_lay 13 = .ok (.invokevirtual 34, 3) := by decide +kernel
theorem dX3_lay_16 : decode cX3_lay 16 = .ok (.aload_n 0, 1) := by decide +kernel
theorem dX3_lay_17 : decode cX3_lay 17 = .ok (.getfield 26, 3) := by decide +kernel
theorem dX3_lay_20 : decode cX3_lay 20 = .ok (.aload_n 3, 1) := by decide +kernel
theorem dX3_lay_21 : decode cX3_lay 21 = .ok (.invokevirtual 37, 3) := by decide +kernel
theorem dX3_lay_24 : decode cX3_lay 24 = .ok (.aload_n 0, 1) := by decide +kernel
theorem dX3_lay_25 : decode cX3_lay 25 = .ok (.iconst 1, 1) := by decide +kernel
theorem dX3_lay_26 : decode cX3_lay 26 = .ok (.putfield 40, 3) := by decide +kernel
theorem dX3_lay_29 : decode cX3_lay 29 = .ok (.return_, 1) := by decide +kernel
theorem dX3_goBack_0 : decode cX3_goBack 0 = .ok (.aload_n 1, 1) := by decide +kernel
theorem dX3_goBack_1 : decode cX3_goBack 1 = .ok (.aload_n 0, 1) := by decide +kernel
theorem dX3_goBack_2 : decode cX3_goBack 2 = .ok (.getfield 10, 3) := by decide +kernel
theorem dX3_goBack_5 : decode cX3_goBack 5 = .ok (.invokevirtual 30, 3) := by decide +kernel
theorem dX3_goBack_8 : decode cX3_goBack 8 = .ok (.aload_n 2, 1) := by decide +kernel
theorem dX3_goBack_9 : decode cX3_goBack 9 = .ok (.aload_n 0, 1) := by decide +kernel
theorem dX3_goBack_10 : decode cX3_goBack 10 = .ok (.getfield 19, 3) := by decide +kernel
theorem dX3_goBack_13 : decode cX3_goBack 13 = .ok (.invokevirtual 34, 3) := by decide +kernel
theorem dX3_goBack_16 : decode cX3_goBack 16 = .ok (.aload_n 3, 1) := by decide +kernel
theorem dX3_goBack_17 : decode cX3_goBack 17 = .ok (.aload_n 0, 1) := by decide +kernel
theorem dX3_goBack_18 : decode cX3_goBack 18 = .ok (.getfield 26, 3) := by decide +kernel
theorem dX3_goBack_21 : decode cX3_goBack 21 = .ok (.invokevirtual 37, 3) := by decide +kernel
theorem dX3_goBack_24 : decode cX3_goBack 24 = .ok (.return_, 1) := by decide +kernel
theorem dX4_init_0 : decode cX4_init 0 = .ok (.aload_n 0, 1) := by decide +kernel
theorem dX4_init_1 : decode cX4_init 1 = .ok (.invokespecial 3, 3) := by decide +kernel
theorem dX4_init_4 : decode cX4_init 4 = .ok (.aload_n 0, 1) := by decide +kernel
theorem dX4_init_5 : decode cX4_init 5 = .ok (.bipush 16, 2) := by decide +kernel
theorem dX4_init_7 : decode cX4_init 7 = .ok (.anewarray 9, 3) := by decide +kernel
theorem dX4_init_10 : decode cX4_init 10 = .ok (.putfield 11, 3) := by decide +kernel
theorem dX4_init_13 : decode cX4_init 13 = .ok (.iconst 0, 1) := by decide +kernel
theorem dX4_init_14 : decode cX4_init 14 = .ok (.istore_n 1, 1) := by decide +kernel
theorem dX4_init_15 : decode cX4_init 15 = .ok (.iload_n 1, 1) := by decide +kernel
theorem dX4_init_16 : decode cX4_init 16 = .ok (.bipush 16, 2) := by decide +kernel
theorem dX4_init_18 : decode cX4_init 18 = .ok (.if_icmp .ge 22, 3) := by decide +kernel
theorem dX4_init_21 : decode cX4_init 21 = .ok (.aload_n 0, 1) := by decide +kernel
theorem dX4_init_22 : decode cX4_init 22 = .ok (.getfield 11, 3) := by decide +kernel
theorem dX4_init_25 : decode cX4_init 25 = .ok (.iload_n 1, 1) := by decide +kernel
theorem dX4_init_26 : decode cX4_init 26 = .ok (.new 9, 3) := by decide +kernel
theorem dX4_init_29 : decode cX4_init 29 = .ok (.dup, 1) := by decide +kernel
theorem dX4_init_30 : decode cX4_init 30 = .ok (.invokespecial 17, 3) := by decide +kernel
theorem dX4_init_33 : decode cX4_init 33 = .ok (.aastore, 1) := by decide +kernel
theorem dX4_init_34 : decode cX4_init 34 = .ok (.iinc 1 1, 3) := by decide +kernel
theorem dX4_init_37 : decode cX4_init 37 = .ok (.goto (-22), 3) := by decide +kernel
theorem dX4_init_40 : decode cX4_init 40 = .ok (.return_, 1) := by decide +kernel
theorem dX4_keep_0 : decode cX4_keep 0 = .ok (.aload_n 0, 1) := by decide +kernel
theorem dX4_keep_1 : decode cX4_keep 1 = .ok (.getfield 18, 3) := by decide +kernel
theorem dX4_keep_4 : decode cX4_keep 4 = .ok (.ifCond .lt 53, 3) := by decide +kernel
theorem dX4_keep_7 : decode cX4_keep 7 = .ok (.aload_n 0, 1) := by decide +kernel
theorem dX4_keep_8 : decode cX4_keep 8 = .ok (.getfield 18, 3) := by decide +kernel
theorem dX4_keep_11 : decode cX4_keep 11 = .ok (.bipush 16, 2) := by decide +kernel
theorem dX4_keep_13 : decode cX4_keep 13 = .ok (.if_icmp .ge 44, 3) := by decide +kernel
theorem dX4_keep_16 : decode cX4_keep 16 = .ok (.aload_n 0, 1) := by decide +kernel
theorem dX4_keep_17 : decode cX4_keep 17 = .ok (.getfield 11, 3) := by decide +kernel
theorem dX4_keep_20 : decode cX4_keep 20 = .ok (.aload_n 0, 1) := by decide +kernel
theorem dX4_keep_21 : decode cX4_keep 21 = .ok (.getfield 18, 3) := by decide +kernel
theorem dX4_keep_24 : decode cX4_keep 24 = .ok (.aaload, 1) := by decide +kernel
theorem dX4_keep_25 : decode cX4_keep 25 = .ok (.aload_n 1, 1) := by decide +kernel
theorem dX4_keep_26 : decode cX4_keep 26 = .ok (.invokevirtual 22, 3) := by decide +kernel
theorem dX4_keep_29 : decode cX4_keep 29 = .ok (.aload_n 0, 1) := by decide +kernel
theorem dX4_keep_30 : decode cX4_keep 30 = .ok (.aload_n 0, 1) := by decide +kernel
theorem dX4_keep_31 : decode cX4_keep 31 = .ok (.getfield 18, 3) := by decide +kernel
theorem dX4_keep_34 : decode cX4_keep 34 = .ok (.iconst 1, 1) := by decide +kernel
theorem dX4_keep_35 : decode cX4_keep 35 = .ok (.iadd, 1) := by decide +kernel
theorem dX4_keep_36 : decode cX4_keep 36 = .ok (.bipush 16, 2) := by decide +kernel
theorem dX4_keep_38 : decode cX4_keep 38 = .ok (.irem, 1) := by decide +kernel
theorem dX4_keep_39 : decode cX4_keep 39 = .ok (.putfield 18, 3) := by decide +kernel
theorem dX4_keep_42 : decode cX4_keep 42 = .ok (.aload_n 0, 1) := by decide +kernel
theorem dX4_keep_43 : decode cX4_keep 43 = .ok (.aload_n 0, 1) := by decide +kernel
theorem dX4_keep_44 : decode cX4_keep 44 = .ok (.getfield 26, 3) := by decide +kernel
theorem dX4_keep_47 : decode cX4_keep 47 = .ok (.iconst 1, 1) := by decide +kernel
theorem dX4_keep_48 : decode cX4_keep 48 = .ok (.iadd, 1) := by decide +kernel
theorem dX4_keep_49 : decode cX4_keep 49 = .ok (.bipush 16, 2) := by decide +kernel
theorem dX4_keep_51 : decode cX4_keep 51 = .ok (.invokestatic 29, 3) := by decide +kernel
theorem dX4_keep_54 : decode cX4_keep 54 = .ok (.putfield 26, 3) := by decide +kernel
theorem dX4_keep_57 : decode cX4_keep 57 = .ok (.return_, 1) := by decide +kernel
theorem dX4_takeBack_0 : decode cX4_takeBack 0 = .ok (.aload_n 0, 1) := by decide +kernel
theorem dX4_takeBack_1 : decode cX4_takeBack 1 = .ok (.getfield 18, 3) := by decide +kernel
theorem dX4_takeBack_4 : decode cX4_takeBack 4 = .ok (.bipush 16, 2) := by decide +kernel
theorem dX4_takeBack_6 : decode cX4_takeBack 6 = .ok (.iadd, 1) := by decide +kernel
theorem dX4_takeBack_7 : decode cX4_takeBack 7 = .ok (.iconst 1, 1) := by decide +kernel
theorem dX4_takeBack_8 : decode cX4_takeBack 8 = .ok (.isub, 1) := by decide +kernel
theorem dX4_takeBack_9 : decode cX4_takeBack 9 = .ok (.bipush 16, 2) := by decide +kernel
theorem dX4_takeBack_11 : decode cX4_takeBack 11 = .ok (.irem, 1) := by decide +kernel
theorem dX4_takeBack_12 : decode cX4_takeBack 12 = .ok (.istore_n 2, 1) := by decide +kernel
theorem dX4_takeBack_13 : decode cX4_takeBack 13 = .ok (.aload_n 0, 1) := by decide +kernel
theorem dX4_takeBack_14 : decode cX4_takeBack 14 = .ok (.getfield 26, 3) := by decide +kernel
theorem dX4_takeBack_17 : decode cX4_takeBack 17 = .ok (.ifCond .eq 7, 3) := by decide +kernel
theorem dX4_takeBack_20 : decode cX4_takeBack 20 = .ok (.iload_n 2, 1) := by decide +kernel
theorem dX4_takeBack_21 : decode cX4_takeBack 21 = .ok (.ifCond .ge 5, 3) := by decide +kernel
theorem dX4_takeBack_24 : decode cX4_takeBack 24 = .ok (.iconst 0, 1) := by decide +kernel
theorem dX4_takeBack_25 : decode cX4_takeBack 25 = .ok (.ireturn, 1) := by decide +kernel
theorem dX4_takeBack_26 : decode cX4_takeBack 26 = .ok (.aload_n 1, 1) := by decide +kernel
theorem dX4_takeBack_27 : decode cX4_takeBack 27 = .ok (.aload_n 0, 1) := by decide +kernel
theorem dX4_takeBack_28 : decode cX4_takeBack 28 = .ok (.getfield 11, 3) := by decide +kernel
theorem dX4_takeBack_31 : decode cX4_takeBack 31 = .ok (.iload_n 2, 1) := by decide +kernel
theorem dX4_takeBack_32 : decode cX4_takeBack 32 = .ok (.aaload, 1) := by decide +kernel
theorem dX4_takeBack_33 : decode cX4_takeBack 33 = .ok (.invokevirtual 22, 3) := by decide +kernel
theorem dX4_takeBack_36 : decode cX4_takeBack 36 = .ok (.aload_n 0, 1) := by decide +kernel
theorem dX4_takeBack_37 : decode cX4_takeBack 37 = .ok (.iload_n 2, 1) := by decide +kernel
theorem dX4_takeBack_38 : decode cX4_takeBack 38 = .ok (.putfield 18, 3) := by decide +kernel
theorem dX4_takeBack_41 : decode cX4_takeBack 41 = .ok (.aload_n 0, 1) := by decide +kernel
theorem dX4_takeBack_42 : decode cX4_takeBack 42 = .ok (.dup, 1) := by decide +kernel
theorem dX4_takeBack_43 : decode cX4_takeBack 43 = .ok (.getfield 26, 3) := by decide +kernel
theorem dX4_takeBack_46 : decode cX4_takeBack 46 = .ok (.iconst 1, 1) := by decide +kernel
theorem dX4_takeBack_47 : decode cX4_takeBack 47 = .ok (.isub, 1) := by decide +kernel
theorem dX4_takeBack_48 : decode cX4_takeBack 48 = .ok (.putfield 26, 3) := by decide +kernel
theorem dX4_takeBack_51 : decode cX4_takeBack 51 = .ok (.iconst 1, 1) := by decide +kernel
theorem dX4_takeBack_52 : decode cX4_takeBack 52 = .ok (.ireturn, 1) := by decide +kernel
theorem dX4_forget_0 : decode cX4_forget 0 = .ok (.aload_n 0, 1) := by decide +kernel
theorem dX4_forget_1 : decode cX4_forget 1 = .ok (.iconst 0, 1) := by decide +kernel
theorem dX4_forget_2 : decode cX4_forget 2 = .ok (.putfield 26, 3) := by decide +kernel
theorem dX4_forget_5 : decode cX4_forget 5 = .ok (.return_, 1) := by decide +kernel
theorem dX5_init_0 : decode cX5_init 0 = .ok (.aload_n 0, 1) := by decide +kernel
theorem dX5_init_1 : decode cX5_init 1 = .ok (.invokespecial 3, 3) := by decide +kernel
theorem dX5_init_4 : decode cX5_init 4 = .ok (.aload_n 0, 1) := by decide +kernel
theorem dX5_init_5 : decode cX5_init 5 = .ok (.bipush 40, 2) := by decide +kernel
theorem dX5_init_7 : decode cX5_init 7 = .ok (.newarray .int, 2) := by decide +kernel
theorem dX5_init_9 : decode cX5_init 9 = .ok (.putfield 9, 3) := by decide +kernel
theorem dX5_init_12 : decode cX5_init 12 = .ok (.aload_n 0, 1) := by decide +kernel
theorem dX5_init_13 : decode cX5_init 13 = .ok (.bipush 40, 2) := by decide +kernel
theorem dX5_init_15 : decode cX5_init 15 = .ok (.newarray .int, 2) := by decide +kernel
theorem dX5_init_17 : decode cX5_init 17 = .ok (.putfield 15, 3) := by decide +kernel
theorem dX5_init_20 : decode cX5_init 20 = .ok (.aload_n 0, 1) := by decide +kernel
theorem dX5_init_21 : decode cX5_init 21 = .ok (.bipush 40, 2) := by decide +kernel
theorem dX5_init_23 : decode cX5_init 23 = .ok (.newarray .int, 2) := by decide +kernel
theorem dX5_init_25 : decode cX5_init 25 = .ok (.putfield 18, 3) := by decide +kernel
theorem dX5_init_28 : decode cX5_init 28 = .ok (.aload_n 0, 1) := by decide +kernel
theorem dX5_init_29 : decode cX5_init 29 = .ok (.bipush 40, 2) := by decide +kernel
theorem dX5_init_31 : decode cX5_init 31 = .ok (.newarray .int, 2) := by decide +kernel
theorem dX5_init_33 : decode cX5_init 33 = .ok (.putfield 21, 3) := by decide +kernel
theorem dX5_init_36 : decode cX5_init 36 = .ok (.return_, 1) := by decide +kernel
theorem dX5_clear_0 : decode cX5_clear 0 = .ok (.aload_n 0, 1) := by decide +kernel
theorem dX5_clear_1 : decode cX5_clear 1 = .ok (.iconst 0, 1) := by decide +kernel
theorem dX5_clear_2 : decode cX5_clear 2 = .ok (.putfield 24, 3) := by decide +kernel
theorem dX5_clear_5 : decode cX5_clear 5 = .ok (.return_, 1) := by decide +kernel
theorem dX5_add_0 : decode cX5_add 0 = .ok (.aload_n 0, 1) := by decide +kernel
theorem dX5_add_1 : decode cX5_add 1 = .ok (.getfield 24, 3) := by decide +kernel
theorem dX5_add_4 : decode cX5_add 4 = .ok (.bipush 40, 2) := by decide +kernel
theorem dX5_add_6 : decode cX5_add 6 = .ok (.if_icmp .ge 54, 3) := by decide +kernel
theorem dX5_add_9 : decode cX5_add 9 = .ok (.aload_n 0, 1) := by decide +kernel
theorem dX5_add_10 : decode cX5_add 10 = .ok (.getfield 9, 3) := by decide +kernel
theorem dX5_add_13 : decode cX5_add 13 = .ok (.aload_n 0, 1) := by decide +kernel
theorem dX5_add_14 : decode cX5_add 14 = .ok (.getfield 24, 3) := by decide +kernel
theorem dX5_add_17 : decode cX5_add 17 = .ok (.iload_n 1, 1) := by decide +kernel
theorem dX5_add_18 : decode cX5_add 18 = .ok (.iastore, 1) := by decide +kernel
theorem dX5_add_19 : decode cX5_add 19 = .ok (.aload_n 0, 1) := by decide +kernel
theorem dX5_add_20 : decode cX5_add 20 = .ok (.getfield 15, 3) := by decide +kernel
theorem dX5_add_23 : decode cX5_add 23 = .ok (.aload_n 0, 1) := by decide +kernel
theorem dX5_add_24 : decode cX5_add 24 = .ok (.getfield 24, 3) := by decide +kernel
theorem dX5_add_27 : decode cX5_add 27 = .ok (.iload_n 2, 1) := by decide +kernel
theorem dX5_add_28 : decode cX5_add 28 = .ok (.iastore, 1) := by decide +kernel
theorem dX5_add_29 : decode cX5_add 29 = .ok (.aload_n 0, 1) := by decide +kernel
theorem dX5_add_30 : decode cX5_add 30 = .ok (.getfield 18, 3) := by decide +kernel
theorem dX5_add_33 : decode cX5_add 33 = .ok (.aload_n 0, 1) := by decide +kernel
theorem dX5_add_34 : decode cX5_add 34 = .ok (.getfield 24, 3) := by decide +kernel
theorem dX5_add_37 : decode cX5_add 37 = .ok (.iload_n 3, 1) := by decide +kernel
theorem dX5_add_38 : decode cX5_add 38 = .ok (.iastore, 1) := by decide +kernel
theorem dX5_add_39 : decode cX5_add 39 = .ok (.aload_n 0, 1) := by decide +kernel
theorem dX5_add_40 : decode cX5_add 40 = .ok (.getfield 21, 3) := by decide +kernel
theorem dX5_add_43 : decode cX5_add 43 = .ok (.aload_n 0, 1) := by decide +kernel
theorem dX5_add_44 : decode cX5_add 44 = .ok (.getfield 24, 3) := by decide +kernel
theorem dX5_add_47 : decode cX5_add 47 = .ok (.iload 4, 2) := by decide +kernel
theorem dX5_add_49 : decode cX5_add 49 = .ok (.iastore, 1) := by decide +kernel
theorem dX5_add_50 : decode cX5_add 50 = .ok (.aload_n 0, 1) := by decide +kernel
theorem dX5_add_51 : decode cX5_add 51 = .ok (.dup, 1) := by decide +kernel
theorem dX5_add_52 : decode cX5_add 52 = .ok (.getfield 24, 3) := by decide +kernel
theorem dX5_add_55 : decode cX5_add 55 = .ok (.iconst 1, 1) := by decide +kernel
theorem dX5_add_56 : decode cX5_add 56 = .ok (.iadd, 1) := by decide +kernel
theorem dX5_add_57 : decode cX5_add 57 = .ok (.putfield 24, 3) := by decide +kernel
theorem dX5_add_60 : decode cX5_add 60 = .ok (.return_, 1) := by decide +kernel
theorem dX5_copy_0 : decode cX5_copy 0 = .ok (.aload_n 0, 1) := by decide +kernel
theorem dX5_copy_1 : decode cX5_copy 1 = .ok (.aload_n 1, 1) := by decide +kernel
theorem dX5_copy_2 : decode cX5_copy 2 = .ok (.getfield 24, 3) := by decide +kernel
theorem dX5_copy_5 : decode cX5_copy 5 = .ok (.putfield 24, 3) := by decide +kernel
theorem dX5_copy_8 : decode cX5_copy 8 = .ok (.iconst 0, 1) := by decide +kernel
theorem dX5_copy_9 : decode cX5_copy 9 = .ok (.istore_n 2, 1) := by decide +kernel
theorem dX5_copy_10 : decode cX5_copy 10 = .ok (.iload_n 2, 1) := by decide +kernel
theorem dX5_copy_11 : decode cX5_copy 11 = .ok (.aload_n 0, 1) := by decide +kernel
theorem dX5_copy_12 : decode cX5_copy 12 = .ok (.getfield 24, 3) := by decide +kernel
theorem dX5_copy_15 : decode cX5_copy 15 = .ok (.if_icmp .ge 63, 3) := by decide +kernel
theorem dX5_copy_18 : decode cX5_copy 18 = .ok (.iload_n 2, 1) := by decide +kernel
theorem dX5_copy_19 : decode cX5_copy 19 = .ok (.bipush 40, 2) := by decide +kernel
theorem dX5_copy_21 : decode cX5_copy 21 = .ok (.if_icmp .ge 57, 3) := by decide +kernel
theorem dX5_copy_24 : decode cX5_copy 24 = .ok (.aload_n 0, 1) := by decide +kernel
theorem dX5_copy_25 : decode cX5_copy 25 = .ok (.getfield 9, 3) := by decide +kernel
theorem dX5_copy_28 : decode cX5_copy 28 = .ok (.iload_n 2, 1) := by decide +kernel
theorem dX5_copy_29 : decode cX5_copy 29 = .ok (.aload_n 1, 1) := by decide +kernel
theorem dX5_copy_30 : decode cX5_copy 30 = .ok (.getfield 9, 3) := by decide +kernel
theorem dX5_copy_33 : decode cX5_copy 33 = .ok (.iload_n 2, 1) := by decide +kernel
theorem dX5_copy_34 : decode cX5_copy 34 = .ok (.iaload, 1) := by decide +kernel
theorem dX5_copy_35 : decode cX5_copy 35 = .ok (.iastore, 1) := by decide +kernel
theorem dX5_copy_36 : decode cX5_copy 36 = .ok (.aload_n 0, 1) := by decide +kernel
theorem dX5_copy_37 : decode cX5_copy 37 = .ok (.getfield 15, 3) := by decide +kernel
theorem dX5_copy_40 : decode cX5_copy 40 = .ok (.iload_n 2, 1) := by decide +kernel
theorem dX5_copy_41 : decode cX5_copy 41 = .ok (.aload_n 1, 1) := by decide +kernel
theorem dX5_copy_42 : decode cX5_copy 42 = .ok (.getfield 15, 3) := by decide +kernel
theorem dX5_copy_45 : decode cX5_copy 45 = .ok (.iload_n 2, 1) := by decide +kernel
theorem dX5_copy_46 : decode cX5_copy 46 = .ok (.iaload, 1) := by decide +kernel
theorem dX5_copy_47 : decode cX5_copy 47 = .ok (.iastore, 1) := by decide +kernel
theorem dX5_copy_48 : decode cX5_copy 48 = .ok (.aload_n 0, 1) := by decide +kernel
theorem dX5_copy_49 : decode cX5_copy 49 = .ok (.getfield 18, 3) := by decide +kernel
theorem dX5_copy_52 : decode cX5_copy 52 = .ok (.iload_n 2, 1) := by decide +kernel
theorem dX5_copy_53 : decode cX5_copy 53 = .ok (.aload_n 1, 1) := by decide +kernel
theorem dX5_copy_54 : decode cX5_copy 54 = .ok (.getfield 18, 3) := by decide +kernel
theorem dX5_copy_57 : decode cX5_copy 57 = .ok (.iload_n 2, 1) := by decide +kernel
theorem dX5_copy_58 : decode cX5_copy 58 = .ok (.iaload, 1) := by decide +kernel
theorem dX5_copy_59 : decode cX5_copy 59 = .ok (.iastore, 1) := by decide +kernel
theorem dX5_copy_60 : decode cX5_copy 60 = .ok (.aload_n 0, 1) := by decide +kernel
theorem dX5_copy_61 : decode cX5_copy 61 = .ok (.getfield 21, 3) := by decide +kernel
theorem dX5_copy_64 : decode cX5_copy 64 = .ok (.iload_n 2, 1) := by decide +kernel
theorem dX5_copy_65 : decode cX5_copy 65 = .ok (.aload_n 1, 1) := by decide +kernel
theorem dX5_copy_66 : decode cX5_copy 66 = .ok (.getfield 21, 3) := by decide +kernel
theorem dX5_copy_69 : decode cX5_copy 69 = .ok (.iload_n 2, 1) := by decide +kernel
theorem dX5_copy_70 : decode cX5_copy 70 = .ok (.iaload, 1) := by decide +kernel
theorem dX5_copy_71 : decode cX5_copy 71 = .ok (.iastore, 1) := by decide +kernel
theorem dX5_copy_72 : decode cX5_copy 72 = .ok (.iinc 2 1, 3) := by decide +kernel
theorem dX5_copy_75 : decode cX5_copy 75 = .ok (.goto (-65), 3) := by decide +kernel
theorem dX5_copy_78 : decode cX5_copy 78 = .ok (.return_, 1) := by decide +kernel
theorem dX5_isPossible_0 : decode cX5_isPossible 0 = .ok (.iload_n 1, 1) := by decide +kernel
theorem dX5_isPossible_1 : decode cX5_isPossible 1 = .ok (.ifCond .lt 11, 3) := by decide +kernel
theorem dX5_isPossible_4 : decode cX5_isPossible 4 = .ok (.iload_n 1, 1) := by decide +kernel
theorem dX5_isPossible_5 : decode cX5_isPossible 5 = .ok (.aload_n 0, 1) := by decide +kernel
theorem dX5_isPossible_6 : decode cX5_isPossible 6 = .ok (.getfield 24, 3) := by decide +kernel
theorem dX5_isPossible_9 : decode cX5_isPossible 9 = .ok (.if_icmp .lt 5, 3) := by decide +kernel
theorem dX5_isPossible_12 : decode cX5_isPossible 12 = .ok (.iconst 0, 1) := by decide +kernel
theorem dX5_isPossible_13 : decode cX5_isPossible 13 = .ok (.ireturn, 1) := by decide +kernel
theorem dX5_isPossible_14 : decode cX5_isPossible 14 = .ok (.aload_n 0, 1) := by decide +kernel
theorem dX5_isPossible_15 : decode cX5_isPossible 15 = .ok (.getfield 9, 3) := by decide +kernel
theorem dX5_isPossible_18 : decode cX5_isPossible 18 = .ok (.iload_n 1, 1) := by decide +kernel
theorem dX5_isPossible_19 : decode cX5_isPossible 19 = .ok (.iaload, 1) := by decide +kernel
theorem dX5_isPossible_20 : decode cX5_isPossible 20 = .ok (.lookupswitch 43 #[(0, 28), (3, 41)], 28) := by decide +kernel
theorem dX5_isPossible_48 : decode cX5_isPossible 48 = .ok (.aload_n 2, 1) := by decide +kernel
theorem dX5_isPossible_49 : decode cX5_isPossible 49 = .ok (.getfield 28, 3) := by decide +kernel
theorem dX5_isPossible_52 : decode cX5_isPossible 52 = .ok (.ifCond .le 7, 3) := by decide +kernel
theorem dX5_isPossible_55 : decode cX5_isPossible 55 = .ok (.iconst 1, 1) := by decide +kernel
theorem dX5_isPossible_56 : decode cX5_isPossible 56 = .ok (.goto 4, 3) := by decide +kernel
theorem dX5_isPossible_59 : decode cX5_isPossible 59 = .ok (.iconst 0, 1) := by decide +kernel
theorem dX5_isPossible_60 : decode cX5_isPossible 60 = .ok (.ireturn, 1) := by decide +kernel
theorem dX5_isPossible_61 : decode cX5_isPossible 61 = .ok (.iconst 1, 1) := by decide +kernel
theorem dX5_isPossible_62 : decode cX5_isPossible 62 = .ok (.ireturn, 1) := by decide +kernel
theorem dX5_isPossible_63 : decode cX5_isPossible 63 = .ok (.aload_n 3, 1) := by decide +kernel
theorem dX5_isPossible_64 : decode cX5_isPossible 64 = .ok (.aload_n 0, 1) := by decide +kernel
theorem dX5_isPossible_65 : decode cX5_isPossible 65 = .ok (.getfield 15, 3) := by decide +kernel
theorem dX5_isPossible_68 : decode cX5_isPossible 68 = .ok (.iload_n 1, 1) := by decide +kernel
theorem dX5_isPossible_69 : decode cX5_isPossible 69 = .ok (.iaload, 1) := by decide +kernel
theorem dX5_isPossible_70 : decode cX5_isPossible 70 = .ok (.aload_n 0, 1) := by decide +kernel
theorem dX5_isPossible_71 : decode cX5_isPossible 71 = .ok (.getfield 21, 3) := by decide +kernel
theorem dX5_isPossible_74 : decode cX5_isPossible 74 = .ok (.iload_n 1, 1) := by decide +kernel
theorem dX5_isPossible_75 : decode cX5_isPossible 75 = .ok (.iaload, 1) := by decide +kernel
theorem dX5_isPossible_76 : decode cX5_isPossible 76 = .ok (.invokevirtual 33, 3) := by decide +kernel
theorem dX5_isPossible_79 : decode cX5_isPossible 79 = .ok (.ireturn, 1) := by decide +kernel
theorem dX5_follow_0 : decode cX5_follow 0 = .ok (.iload_n 1, 1) := by decide +kernel
theorem dX5_follow_1 : decode cX5_follow 1 = .ok (.ifCond .lt 11, 3) := by decide +kernel
theorem dX5_follow_4 : decode cX5_follow 4 = .ok (.iload_n 1, 1) := by decide +kernel
theorem dX5_follow_5 : decode cX5_follow 5 = .ok (.aload_n 0, 1) := by decide +kernel
theorem dX5_follow_6 : decode cX5_follow 6 = .ok (.getfield 24, 3) := by decide +kernel
theorem dX5_follow_9 : decode cX5_follow 9 = .ok (.if_icmp .lt 4, 3) := by decide +kernel
theorem dX5_follow_12 : decode cX5_follow 12 = .ok (.return_, 1) := by decide +kernel
theorem dX5_follow_13 : decode cX5_follow 13 = .ok (.aload_n 0, 1) := by decide +kernel
theorem dX5_follow_14 : decode cX5_follow 14 = .ok (.getfield 9, 3) := by decide +kernel
theorem dX5_follow_17 : decode cX5_follow 17 = .ok (.iload_n 1, 1) := by decide +kernel
theorem dX5_follow_18 : decode cX5_follow 18 = .ok (.iaload, 1) := by decide +kernel
theorem dX5_follow_19 : decode cX5_follow 19 = .ok (.tableswitch 78 0 2 #[25, 34, 53], 25) := by decide +kernel
theorem dX5_follow_44 : decode cX5_follow 44 = .ok (.aload_n 3, 1) := by decide +kernel
theorem dX5_follow_45 : decode cX5_follow 45 = .ok (.aload_n 2, 1) := by decide +kernel
theorem dX5_follow_46 : decode cX5_follow 46 = .ok (.invokevirtual 39, 3) := by decide +kernel
theorem dX5_follow_49 : decode cX5_follow 49 = .ok (.pop, 1) := by decide +kernel
theorem dX5_follow_50 : decode cX5_follow 50 = .ok (.goto 51, 3) := by decide +kernel
theorem dX5_follow_53 : decode cX5_follow 53 = .ok (.aload_n 3, 1) := by decide +kernel
theorem dX5_follow_54 : decode cX5_follow 54 = .ok (.aload_n 0, 1) := by decide +kernel
theorem dX5_follow_55 : decode cX5_follow 55 = .ok (.getfield 15, 3) := by decide +kernel
theorem dX5_follow_58 : decode cX5_follow 58 = .ok (.iload_n 1, 1) := by decide +kernel
theorem dX5_follow_59 : decode cX5_follow 59 = .ok (.iaload, 1) := by decide +kernel
theorem dX5_follow_60 : decode cX5_follow 60 = .ok (.aload_n 0, 1) := by decide +kernel
theorem dX5_follow_61 : decode cX5_follow 61 = .ok (.getfield 21, 3) := by decide +kernel
theorem dX5_follow_64 : decode cX5_follow 64 = .ok (.iload_n 1, 1) := by decide +kernel
theorem dX5_follow_65 : decode cX5_follow 65 = .ok (.iaload, 1) := by decide +kernel
theorem dX5_follow_66 : decode cX5_follow 66 = .ok (.invokevirtual 43, 3) := by decide +kernel
theorem dX5_follow_69 : decode cX5_follow 69 = .ok (.goto 32, 3) := by decide +kernel
theorem dX5_follow_72 : decode cX5_follow 72 = .ok (.aload_n 3, 1) := by decide +kernel
theorem dX5_follow_73 : decode cX5_follow 73 = .ok (.aload_n 0, 1) := by decide +kernel
theorem dX5_follow_74 : decode cX5_follow 74 = .ok (.getfield 15, 3) := by decide +kernel
theorem dX5_follow_77 : decode cX5_follow 77 = .ok (.iload_n 1, 1) := by decide +kernel
theorem dX5_follow_78 : decode cX5_follow 78 = .ok (.iaload, 1) := by decide +kernel
theorem dX5_follow_79 : decode cX5_follow 79 = .ok (.aload_n 0, 1) := by decide +kernel
theorem dX5_follow_80 : decode cX5_follow 80 = .ok (.getfield 18, 3) := by decide +kernel
theorem dX5_follow_83 : decode cX5_follow 83 = .ok (.iload_n 1, 1) := by decide +kernel
theorem dX5_follow_84 : decode cX5_follow 84 = .ok (.iaload, 1) := by decide +kernel
theorem dX5_follow_85 : decode cX5_follow 85 = .ok (.aload_n 0, 1) := by decide +kernel
theorem dX5_follow_86 : decode cX5_follow 86 = .ok (.getfield 21, 3) := by decide +kernel
theorem dX5_follow_89 : decode cX5_follow 89 = .ok (.iload_n 1, 1) := by decide +kernel
theorem dX5_follow_90 : decode cX5_follow 90 = .ok (.iaload, 1) := by decide +kernel
theorem dX5_follow_91 : decode cX5_follow 91 = .ok (.invokevirtual 47, 3) := by decide +kernel
theorem dX5_follow_94 : decode cX5_follow 94 = .ok (.goto 7, 3) := by decide +kernel
theorem dX5_follow_97 : decode cX5_follow 97 = .ok (.aload_n 3, 1) := by decide +kernel
theorem dX5_follow_98 : decode cX5_follow 98 = .ok (.invokevirtual 51, 3) := by decide +kernel
theorem dX5_follow_101 : decode cX5_follow 101 = .ok (.return_, 1) := by decide +kernel
theorem dX6_init_0 : decode cX6_init 0 = .ok (.aload_n 0, 1) := by decide +kernel
theorem dX6_init_1 : decode cX6_init 1 = .ok (.invokespecial 3, 3) := by decide +kernel
theorem dX6_init_4 : decode cX6_init 4 = .ok (.aload_n 0, 1) := by decide +kernel
theorem dX6_init_5 : decode cX6_init 5 = .ok (.bipush 6, 2) := by decide +kernel
theorem dX6_init_7 : decode cX6_init 7 = .ok (.newarray .int, 2) := by decide +kernel
theorem dX6_init_9 : decode cX6_init 9 = .ok (.putfield 9, 3) := by decide +kernel
theorem dX6_init_12 : decode cX6_init 12 = .ok (.aload_n 0, 1) := by decide +kernel
theorem dX6_init_13 : decode cX6_init 13 = .ok (.bipush 6, 2) := by decide +kernel
theorem dX6_init_15 : decode cX6_init 15 = .ok (.newarray .int, 2) := by decide +kernel
theorem dX6_init_17 : decode cX6_init 17 = .ok (.putfield 15, 3) := by decide +kernel
theorem dX6_init_20 : decode cX6_init 20 = .ok (.return_, 1) := by decide +kernel
theorem dX6_find_0 : decode cX6_find 0 = .ok (.aload_n 0, 1) := by decide +kernel
theorem dX6_find_1 : decode cX6_find 1 = .ok (.iconst (-1), 1) := by decide +kernel
theorem dX6_find_2 : decode cX6_find 2 = .ok (.putfield 18, 3) := by decide +kernel
theorem dX6_find_5 : decode cX6_find 5 = .ok (.aload_n 0, 1) := by decide +kernel
theorem dX6_find_6 : decode cX6_find 6 = .ok (.aload_n 1, 1) := by decide +kernel
theorem dX6_find_7 : decode cX6_find 7 = .ok (.iconst 0, 1) := by decide +kernel
theorem dX6_find_8 : decode cX6_find 8 = .ok (.iload_n 2, 1) := by decide +kernel
theorem dX6_find_9 : decode cX6_find 9 = .ok (.iload_n 3, 1) := by decide +kernel
theorem dX6_find_10 : decode cX6_find 10 = .ok (.iconst 0, 1) := by decide +kernel
theorem dX6_find_11 : decode cX6_find 11 = .ok (.invokevirtual 22, 3) := by decide +kernel
theorem dX6_find_14 : decode cX6_find 14 = .ok (.return_, 1) := by decide +kernel
theorem dX6_search_0 : decode cX6_search 0 = .ok (.iload_n 3, 1) := by decide +kernel
theorem dX6_search_1 : decode cX6_search 1 = .ok (.ifCond .eq 9, 3) := by decide +kernel
theorem dX6_search_4 : decode cX6_search 4 = .ok (.iload_n 2, 1) := by decide +kernel
theorem dX6_search_5 : decode cX6_search 5 = .ok (.bipush 6, 2) := by decide +kernel
theorem dX6_search_7 : decode cX6_search 7 = .ok (.if_icmp .lt 23, 3) := by decide +kernel
theorem dX6_search_10 : decode cX6_search 10 = .ok (.iload 5, 2) := by decide +kernel
theorem dX6_search_12 : decode cX6_search 12 = .ok (.aload_n 0, 1) := by decide +kernel
theorem dX6_search_13 : decode cX6_search 13 = .ok (.getfield 18, 3) := by decide +kernel
theorem dX6_search_16 : decode cX6_search 16 = .ok (.if_icmp .le 13, 3) := by decide +kernel
theorem dX6_search_19 : decode cX6_search 19 = .ok (.aload_n 0, 1) := by decide +kernel
theorem dX6_search_20 : decode cX6_search 20 = .ok (.iload 5, 2) := by decide +kernel
theorem dX6_search_22 : decode cX6_search 22 = .ok (.putfield 18, 3) := by decide +kernel
theorem dX6_search_25 : decode cX6_search 25 = .ok (.aload_n 0, 1) := by decide +kernel
theorem dX6_search_26 : decode cX6_search 26 = .ok (.invokevirtual 26, 3) := by decide +kernel
theorem dX6_search_29 : decode cX6_search 29 = .ok (.return_, 1) := by decide +kernel
theorem dX6_search_30 : decode cX6_search 30 = .ok (.iload 5, 2) := by decide +kernel
theorem dX6_search_32 : decode cX6_search 32 = .ok (.iload_n 3, 1) := by decide +kernel
theorem dX6_search_33 : decode cX6_search 33 = .ok (.invokestatic 29, 3) := by decide +kernel
theorem dX6_search_36 : decode cX6_search 36 = .ok (.aload_n 1, 1) := by decide +kernel
theorem dX6_search_37 : decode cX6_search 37 = .ok (.iload 4, 2) := by decide +kernel
theorem dX6_search_39 : decode cX6_search 39 = .ok (.invokevirtual 35, 3) := by decide +kernel
theorem dX6_search_42 : decode cX6_search 42 = .ok (.imul, 1) := by decide +kernel
theorem dX6_search_43 : decode cX6_search 43 = .ok (.iadd, 1) := by decide +kernel
theorem dX6_search_44 : decode cX6_search 44 = .ok (.aload_n 0, 1) := by decide +kernel
theorem dX6_search_45 : decode cX6_search 45 = .ok (.getfield 18, 3) := by decide +kernel
theorem dX6_search_48 : decode cX6_search 48 = .ok (.if_icmp .gt 4, 3) := by decide +kernel
theorem dX6_search_51 : decode cX6_search 51 = .ok (.return_, 1) := by decide +kernel
theorem dX6_search_52 : decode cX6_search 52 = .ok (.iconst 0, 1) := by decide +kernel
theorem dX6_search_53 : decode cX6_search 53 = .ok (.istore 6, 2) := by decide +kernel
theorem dX6_search_55 : decode cX6_search 55 = .ok (.iload 6, 2) := by decide +kernel
theorem dX6_search_57 : decode cX6_search 57 = .ok (.aload_n 1, 1) := by decide +kernel
theorem dX6_search_58 : decode cX6_search 58 = .ok (.getfield 40, 3) := by decide +kernel
theorem dX6_search_61 : decode cX6_search 61 = .ok (.if_icmp .ge 69, 3) := by decide +kernel
theorem dX6_search_64 : decode cX6_search 64 = .ok (.iload_n 3, 1) := by decide +kernel
theorem dX6_search_65 : decode cX6_search 65 = .ok (.iload 6, 2) := by decide +kernel
theorem dX6_search_67 : decode cX6_search 67 = .ok (.ishr, 1) := by decide +kernel
theorem dX6_search_68 : decode cX6_search 68 = .ok (.iconst 1, 1) := by decide +kernel
theorem dX6_search_69 : decode cX6_search 69 = .ok (.iand, 1) := by decide +kernel
theorem dX6_search_70 : decode cX6_search 70 = .ok (.iconst 1, 1) := by decide +kernel
theorem dX6_search_71 : decode cX6_search 71 = .ok (.if_icmp .ne 53, 3) := by decide +kernel
theorem dX6_search_74 : decode cX6_search 74 = .ok (.iload 4, 2) := by decide +kernel
theorem dX6_search_76 : decode cX6_search 76 = .ok (.aload_n 1, 1) := by decide +kernel
theorem dX6_search_77 : decode cX6_search 77 = .ok (.iload 6, 2) := by decide +kernel
theorem dX6_search_79 : decode cX6_search 79 = .ok (.iload 4, 2) := by decide +kernel
theorem dX6_search_81 : decode cX6_search 81 = .ok (.invokevirtual 43, 3) := by decide +kernel
theorem dX6_search_84 : decode cX6_search 84 = .ok (.iconst (-1), 1) := by decide +kernel
theorem dX6_search_85 : decode cX6_search 85 = .ok (.ixor, 1) := by decide +kernel
theorem dX6_search_86 : decode cX6_search 86 = .ok (.iand, 1) := by decide +kernel
theorem dX6_search_87 : decode cX6_search 87 = .ok (.istore 7, 2) := by decide +kernel
theorem dX6_search_89 : decode cX6_search 89 = .ok (.aload_n 0, 1) := by decide +kernel
theorem dX6_search_90 : decode cX6_search 90 = .ok (.getfield 9, 3) := by decide +kernel
theorem dX6_search_93 : decode cX6_search 93 = .ok (.iload_n 2, 1) := by decide +kernel
theorem dX6_search_94 : decode cX6_search 94 = .ok (.iload 6, 2) := by decide +kernel
theorem dX6_search_96 : decode cX6_search 96 = .ok (.iastore, 1) := by decide +kernel
theorem dX6_search_97 : decode cX6_search 97 = .ok (.aload_n 0, 1) := by decide +kernel
theorem dX6_search_98 : decode cX6_search 98 = .ok (.aload_n 1, 1) := by decide +kernel
theorem dX6_search_99 : decode cX6_search 99 = .ok (.iload_n 2, 1) := by decide +kernel
theorem dX6_search_100 : decode cX6_search 100 = .ok (.iconst 1, 1) := by decide +kernel
theorem dX6_search_101 : decode cX6_search 101 = .ok (.iadd, 1) := by decide +kernel
theorem dX6_search_102 : decode cX6_search 102 = .ok (.iload_n 3, 1) := by decide +kernel
theorem dX6_search_103 : decode cX6_search 103 = .ok (.iconst 1, 1) := by decide +kernel
theorem dX6_search_104 : decode cX6_search 104 = .ok (.iload 6, 2) := by decide +kernel
theorem dX6_search_106 : decode cX6_search 106 = .ok (.ishl, 1) := by decide +kernel
theorem dX6_search_107 : decode cX6_search 107 = .ok (.iconst (-1), 1) := by decide +kernel
theorem dX6_search_108 : decode cX6_search 108 = .ok (.ixor, 1) := by decide +kernel
theorem dX6_search_109 : decode cX6_search 109 = .ok (.iand, 1) := by decide +kernel
theorem dX6_search_110 : decode cX6_search 110 = .ok (.iload 7, 2) := by decide +kernel
theorem dX6_search_112 : decode cX6_search 112 = .ok (.iload 5, 2) := by decide +kernel
theorem dX6_search_114 : decode cX6_search 114 = .ok (.aload_n 1, 1) := by decide +kernel
theorem dX6_search_115 : decode cX6_search 115 = .ok (.iload 7, 2) := by decide +kernel
theorem dX6_search_117 : decode cX6_search 117 = .ok (.invokevirtual 35, 3) := by decide +kernel
theorem dX6_search_120 : decode cX6_search 120 = .ok (.iadd, 1) := by decide +kernel
theorem dX6_search_121 : decode cX6_search 121 = .ok (.invokevirtual 22, 3) := by decide +kernel
theorem dX6_search_124 : decode cX6_search 124 = .ok (.iinc 6 1, 3) := by decide +kernel
theorem dX6_search_127 : decode cX6_search 127 = .ok (.goto (-72), 3) := by decide +kernel
theorem dX6_search_130 : decode cX6_search 130 = .ok (.return_, 1) := by decide +kernel
theorem dX6_keepPath_0 : decode cX6_keepPath 0 = .ok (.iconst 0, 1) := by decide +kernel
theorem dX6_keepPath_1 : decode cX6_keepPath 1 = .ok (.istore_n 1, 1) := by decide +kernel
theorem dX6_keepPath_2 : decode cX6_keepPath 2 = .ok (.iload_n 1, 1) := by decide +kernel
theorem dX6_keepPath_3 : decode cX6_keepPath 3 = .ok (.bipush 6, 2) := by decide +kernel
theorem dX6_keepPath_5 : decode cX6_keepPath 5 = .ok (.if_icmp .ge 21, 3) := by decide +kernel
theorem dX6_keepPath_8 : decode cX6_keepPath 8 = .ok (.aload_n 0, 1) := by decide +kernel
theorem dX6_keepPath_9 : decode cX6_keepPath 9 = .ok (.getfield 15, 3) := by decide +kernel
theorem dX6_keepPath_12 : decode cX6_keepPath 12 = .ok (.iload_n 1, 1) := by decide +kernel
theorem dX6_keepPath_13 : decode cX6_keepPath 13 = .ok (.aload_n 0, 1) := by decide +kernel
theorem dX6_keepPath_14 : decode cX6_keepPath 14 = .ok (.getfield 9, 3) := by decide +kernel
theorem dX6_keepPath_17 : decode cX6_keepPath 17 = .ok (.iload_n 1, 1) := by decide +kernel
theorem dX6_keepPath_18 : decode cX6_keepPath 18 = .ok (.iaload, 1) := by decide +kernel
theorem dX6_keepPath_19 : decode cX6_keepPath 19 = .ok (.iastore, 1) := by decide +kernel
theorem dX6_keepPath_20 : decode cX6_keepPath 20 = .ok (.iinc 1 1, 3) := by decide +kernel
theorem dX6_keepPath_23 : decode cX6_keepPath 23 = .ok (.goto (-21), 3) := by decide +kernel
theorem dX6_keepPath_26 : decode cX6_keepPath 26 = .ok (.return_, 1) := by decide +kernel
theorem dX7_init_0 : decode cX7_init 0 = .ok (.aload_n 0, 1) := by decide +kernel
theorem dX7_init_1 : decode cX7_init 1 = .ok (.invokespecial 3, 3) := by decide +kernel
theorem dX7_init_4 : decode cX7_init 4 = .ok (.aload_n 0, 1) := by decide +kernel
theorem dX7_init_5 : decode cX7_init 5 = .ok (.aload_n 1, 1) := by decide +kernel
theorem dX7_init_6 : decode cX7_init 6 = .ok (.putfield 9, 3) := by decide +kernel
theorem dX7_init_9 : decode cX7_init 9 = .ok (.aload_n 0, 1) := by decide +kernel
theorem dX7_init_10 : decode cX7_init 10 = .ok (.aload_n 2, 1) := by decide +kernel
theorem dX7_init_11 : decode cX7_init 11 = .ok (.putfield 15, 3) := by decide +kernel
theorem dX7_init_14 : decode cX7_init 14 = .ok (.return_, 1) := by decide +kernel
theorem dX7_readCounty_0 : decode cX7_readCounty 0 = .ok (.aload_n 0, 1) := by decide +kernel
theorem dX7_readCounty_1 : decode cX7_readCounty 1 = .ok (.aload_n 1, 1) := by decide +kernel
theorem dX7_readCounty_2 : decode cX7_readCounty 2 = .ok (.invokevirtual 19, 3) := by decide +kernel
theorem dX7_readCounty_5 : decode cX7_readCounty 5 = .ok (.aload_n 1, 1) := by decide +kernel
theorem dX7_readCounty_6 : decode cX7_readCounty 6 = .ok (.invokevirtual 23, 3) := by decide +kernel
theorem dX7_readCounty_9 : decode cX7_readCounty 9 = .ok (.iconst 1, 1) := by decide +kernel
theorem dX7_readCounty_10 : decode cX7_readCounty 10 = .ok (.istore_n 2, 1) := by decide +kernel
theorem dX7_readCounty_11 : decode cX7_readCounty 11 = .ok (.iconst 0, 1) := by decide +kernel
theorem dX7_readCounty_12 : decode cX7_readCounty 12 = .ok (.istore_n 3, 1) := by decide +kernel
theorem dX7_readCounty_13 : decode cX7_readCounty 13 = .ok (.iload_n 3, 1) := by decide +kernel
theorem dX7_readCounty_14 : decode cX7_readCounty 14 = .ok (.sipush 1000, 3) := by decide +kernel
theorem dX7_readCounty_17 : decode cX7_readCounty 17 = .ok (.if_icmp .ge 95, 3) := by decide +kernel
theorem dX7_readCounty_20 : decode cX7_readCounty 20 = .ok (.iload_n 2, 1) := by decide +kernel
theorem dX7_readCounty_21 : decode cX7_readCounty 21 = .ok (.ifCond .eq 91, 3) := by decide +kernel
theorem dX7_readCounty_24 : decode cX7_readCounty 24 = .ok (.aload_n 0, 1) := by decide +kernel
theorem dX7_readCounty_25 : decode cX7_readCounty 25 = .ok (.getfield 9, 3) := by decide +kernel
theorem dX7_readCounty_28 : decode cX7_readCounty 28 = .ok (.getfield 28, 3) := by decide +kernel
theorem dX7_readCounty_31 : decode cX7_readCounty 31 = .ok (.ifCond .eq 81, 3) := by decide +kernel
theorem dX7_readCounty_34 : decode cX7_readCounty 34 = .ok (.aload_n 0, 1) := by decide +kernel
theorem dX7_readCounty_35 : decode cX7_readCounty 35 = .ok (.getfield 9, 3) := by decide +kernel
theorem dX7_readCounty_38 : decode cX7_readCounty 38 = .ok (.getfield 34, 3) := by decide +kernel
theorem dX7_readCounty_41 : decode cX7_readCounty 41 = .ok (.tableswitch 59 0 4 #[35, 59, 59, 43, 51], 35) := by decide +kernel
theorem dX7_readCounty_76 : decode cX7_readCounty 76 = .ok (.aload_n 0, 1) := by decide +kernel
theorem dX7_readCounty_77 : decode cX7_readCounty 77 = .ok (.invokevirtual 37, 3) := by decide +kernel
theorem dX7_readCounty_80 : decode cX7_readCounty 80 = .ok (.istore_n 2, 1) := by decide +kernel
theorem dX7_readCounty_81 : decode cX7_readCounty 81 = .ok (.goto 25, 3) := by decide +kernel
theorem dX7_readCounty_84 : decode cX7_readCounty 84 = .ok (.aload_n 0, 1) := by decide +kernel
theorem dX7_readCounty_85 : decode cX7_readCounty 85 = .ok (.invokevirtual 41, 3) := by decide +kernel
theorem dX7_readCounty_88 : decode cX7_readCounty 88 = .ok (.istore_n 2, 1) := by decide +kernel
theorem dX7_readCounty_89 : decode cX7_readCounty 89 = .ok (.goto 17, 3) := by decide +kernel
theorem dX7_readCounty_92 : decode cX7_readCounty 92 = .ok (.aload_n 0, 1) := by decide +kernel
theorem dX7_readCounty_93 : decode cX7_readCounty 93 = .ok (.invokevirtual 44, 3) := by decide +kernel
theorem dX7_readCounty_96 : decode cX7_readCounty 96 = .ok (.istore_n 2, 1) := by decide +kernel
theorem dX7_readCounty_97 : decode cX7_readCounty 97 = .ok (.goto 9, 3) := by decide +kernel
theorem dX7_readCounty_100 : decode cX7_readCounty 100 = .ok (.aload_n 0, 1) := by decide +kernel
theorem dX7_readCounty_101 : decode cX7_readCounty 101 = .ok (.iconst 1, 1) := by decide +kernel
theorem dX7_readCounty_102 : decode cX7_readCounty 102 = .ok (.invokevirtual 47, 3) := by decide +kernel
theorem dX7_readCounty_105 : decode cX7_readCounty 105 = .ok (.istore_n 2, 1) := by decide +kernel
theorem dX7_readCounty_106 : decode cX7_readCounty 106 = .ok (.iinc 3 1, 3) := by decide +kernel
theorem dX7_readCounty_109 : decode cX7_readCounty 109 = .ok (.goto (-96), 3) := by decide +kernel
theorem dX7_readCounty_112 : decode cX7_readCounty 112 = .ok (.aload_n 0, 1) := by decide +kernel
theorem dX7_readCounty_113 : decode cX7_readCounty 113 = .ok (.getfield 9, 3) := by decide +kernel
theorem dX7_readCounty_116 : decode cX7_readCounty 116 = .ok (.iconst 0, 1) := by decide +kernel
theorem dX7_readCounty_117 : decode cX7_readCounty 117 = .ok (.putfield 51, 3) := by decide +kernel
theorem dX7_readCounty_120 : decode cX7_readCounty 120 = .ok (.aload_n 0, 1) := by decide +kernel
theorem dX7_readCounty_121 : decode cX7_readCounty 121 = .ok (.getfield 54, 3) := by decide +kernel
theorem dX7_readCounty_124 : decode cX7_readCounty 124 = .ok (.ireturn, 1) := by decide +kernel
theorem dX7_readPlan_0 : decode cX7_readPlan 0 = .ok (.aload_n 0, 1) := by decide +kernel
theorem dX7_readPlan_1 : decode cX7_readPlan 1 = .ok (.aload_n 1, 1) := by decide +kernel
theorem dX7_readPlan_2 : decode cX7_readPlan 2 = .ok (.invokevirtual 19, 3) := by decide +kernel
theorem dX7_readPlan_5 : decode cX7_readPlan 5 = .ok (.aload_n 2, 1) := by decide +kernel
theorem dX7_readPlan_6 : decode cX7_readPlan 6 = .ok (.invokevirtual 57, 3) := by decide +kernel
theorem dX7_readPlan_9 : decode cX7_readPlan 9 = .ok (.iconst 1, 1) := by decide +kernel
theorem dX7_readPlan_10 : decode cX7_readPlan 10 = .ok (.istore_n 3, 1) := by decide +kernel
theorem dX7_readPlan_11 : decode cX7_readPlan 11 = .ok (.iconst 0, 1) := by decide +kernel
theorem dX7_readPlan_12 : decode cX7_readPlan 12 = .ok (.istore 4, 2) := by decide +kernel
theorem dX7_readPlan_14 : decode cX7_readPlan 14 = .ok (.iload 4, 2) := by decide +kernel
theorem dX7_readPlan_16 : decode cX7_readPlan 16 = .ok (.sipush 1000, 3) := by decide +kernel
theorem dX7_readPlan_19 : decode cX7_readPlan 19 = .ok (.if_icmp .ge 29, 3) := by decide +kernel
theorem dX7_readPlan_22 : decode cX7_readPlan 22 = .ok (.iload_n 3, 1) := by decide +kernel
theorem dX7_readPlan_23 : decode cX7_readPlan 23 = .ok (.ifCond .eq 25, 3) := by decide +kernel
theorem dX7_readPlan_26 : decode cX7_readPlan 26 = .ok (.aload_n 0, 1) := by decide +kernel
theorem dX7_readPlan_27 : decode cX7_readPlan 27 = .ok (.getfield 9, 3) := by decide +kernel
theorem dX7_readPlan_30 : decode cX7_readPlan 30 = .ok (.getfield 28, 3) := by decide +kernel
theorem dX7_readPlan_33 : decode cX7_readPlan 33 = .ok (.ifCond .eq 15, 3) := by decide +kernel
theorem dX7_readPlan_36 : decode cX7_readPlan 36 = .ok (.aload_n 0, 1) := by decide +kernel
theorem dX7_readPlan_37 : decode cX7_readPlan 37 = .ok (.aload_n 2, 1) := by decide +kernel
theorem dX7_readPlan_38 : decode cX7_readPlan 38 = .ok (.invokevirtual 60, 3) := by decide +kernel
theorem dX7_readPlan_41 : decode cX7_readPlan 41 = .ok (.istore_n 3, 1) := by decide +kernel
theorem dX7_readPlan_42 : decode cX7_readPlan 42 = .ok (.iinc 4 1, 3) := by decide +kernel
theorem dX7_readPlan_45 : decode cX7_readPlan 45 = .ok (.goto (-31), 3) := by decide +kernel
theorem dX7_readPlan_48 : decode cX7_readPlan 48 = .ok (.aload_n 0, 1) := by decide +kernel
theorem dX7_readPlan_49 : decode cX7_readPlan 49 = .ok (.getfield 9, 3) := by decide +kernel
theorem dX7_readPlan_52 : decode cX7_readPlan 52 = .ok (.iconst 0, 1) := by decide +kernel
theorem dX7_readPlan_53 : decode cX7_readPlan 53 = .ok (.putfield 51, 3) := by decide +kernel
theorem dX7_readPlan_56 : decode cX7_readPlan 56 = .ok (.aload_n 0, 1) := by decide +kernel
theorem dX7_readPlan_57 : decode cX7_readPlan 57 = .ok (.getfield 54, 3) := by decide +kernel
theorem dX7_readPlan_60 : decode cX7_readPlan 60 = .ok (.ireturn, 1) := by decide +kernel
theorem dX7_begin_0 : decode cX7_begin 0 = .ok (.aload_n 0, 1) := by decide +kernel
theorem dX7_begin_1 : decode cX7_begin 1 = .ok (.aload_n 1, 1) := by decide +kernel
theorem dX7_begin_2 : decode cX7_begin 2 = .ok (.putfield 15, 3) := by decide +kernel
theorem dX7_begin_5 : decode cX7_begin 5 = .ok (.aload_n 0, 1) := by decide +kernel
theorem dX7_begin_6 : decode cX7_begin 6 = .ok (.iconst 0, 1) := by decide +kernel
theorem dX7_begin_7 : decode cX7_begin 7 = .ok (.putfield 54, 3) := by decide +kernel
theorem dX7_begin_10 : decode cX7_begin 10 = .ok (.aload_n 0, 1) := by decide +kernel
theorem dX7_begin_11 : decode cX7_begin 11 = .ok (.getfield 9, 3) := by decide +kernel
theorem dX7_begin_14 : decode cX7_begin 14 = .ok (.invokevirtual 64, 3) := by decide +kernel
theorem dX7_begin_17 : decode cX7_begin 17 = .ok (.return_, 1) := by decide +kernel
theorem dX7_fail_0 : decode cX7_fail 0 = .ok (.aload_n 0, 1) := by decide +kernel
theorem dX7_fail_1 : decode cX7_fail 1 = .ok (.iload_n 1, 1) := by decide +kernel
theorem dX7_fail_2 : decode cX7_fail 2 = .ok (.bipush 16, 2) := by decide +kernel
theorem dX7_fail_4 : decode cX7_fail 4 = .ok (.aload_n 0, 1) := by decide +kernel
theorem dX7_fail_5 : decode cX7_fail 5 = .ok (.getfield 9, 3) := by decide +kernel
theorem dX7_fail_8 : decode cX7_fail 8 = .ok (.getfield 67, 3) := by decide +kernel
theorem dX7_fail_11 : decode cX7_fail 11 = .ok (.imul, 1) := by decide +kernel
theorem dX7_fail_12 : decode cX7_fail 12 = .ok (.iadd, 1) := by decide +kernel
theorem dX7_fail_13 : decode cX7_fail 13 = .ok (.putfield 54, 3) := by decide +kernel
theorem dX7_fail_16 : decode cX7_fail 16 = .ok (.iconst 0, 1) := by decide +kernel
theorem dX7_fail_17 : decode cX7_fail 17 = .ok (.ireturn, 1) := by decide +kernel
theorem dX7_readShot_0 : decode cX7_readShot 0 = .ok (.aload_n 0, 1) := by decide +kernel
theorem dX7_readShot_1 : decode cX7_readShot 1 = .ok (.getfield 15, 3) := by decide +kernel
theorem dX7_readShot_4 : decode cX7_readShot 4 = .ok (.getfield 70, 3) := by decide +kernel
theorem dX7_readShot_7 : decode cX7_readShot 7 = .ok (.bipush 10, 2) := by decide +kernel
theorem dX7_readShot_9 : decode cX7_readShot 9 = .ok (.if_icmp .lt 9, 3) := by decide +kernel
theorem dX7_readShot_12 : decode cX7_readShot 12 = .ok (.aload_n 0, 1) := by decide +kernel
theorem dX7_readShot_13 : decode cX7_readShot 13 = .ok (.iconst 5, 1) := by decide +kernel
theorem dX7_readShot_14 : decode cX7_readShot 14 = .ok (.invokevirtual 47, 3) := by decide +kernel
theorem dX7_readShot_17 : decode cX7_readShot 17 = .ok (.ireturn, 1) := by decide +kernel
theorem dX7_readShot_18 : decode cX7_readShot 18 = .ok (.aload_n 0, 1) := by decide +kernel
theorem dX7_readShot_19 : decode cX7_readShot 19 = .ok (.getfield 9, 3) := by decide +kernel
theorem dX7_readShot_22 : decode cX7_readShot 22 = .ok (.invokevirtual 73, 3) := by decide +kernel
theorem dX7_readShot_25 : decode cX7_readShot 25 = .ok (.aload_n 0, 1) := by decide +kernel
theorem dX7_readShot_26 : decode cX7_readShot 26 = .ok (.getfield 9, 3) := by decide +kernel
theorem dX7_readShot_29 : decode cX7_readShot 29 = .ok (.getfield 76, 3) := by decide +kernel
theorem dX7_readShot_32 : decode cX7_readShot 32 = .ok (.lstore_n 1, 1) := by decide +kernel
theorem dX7_readShot_33 : decode cX7_readShot 33 = .ok (.aload_n 0, 1) := by decide +kernel
theorem dX7_readShot_34 : decode cX7_readShot 34 = .ok (.invokevirtual 80, 3) := by decide +kernel
theorem dX7_readShot_37 : decode cX7_readShot 37 = .ok (.ifCond .eq 11, 3) := by decide +kernel
theorem dX7_readShot_40 : decode cX7_readShot 40 = .ok (.aload_n 0, 1) := by decide +kernel
theorem dX7_readShot_41 : decode cX7_readShot 41 = .ok (.iconst 1, 1) := by decide +kernel
theorem dX7_readShot_42 : decode cX7_readShot 42 = .ok (.invokevirtual 83, 3) := by decide +kernel
theorem dX7_readShot_45 : decode cX7_readShot 45 = .ok (.ifCond .ne 5, 3) := by decide +kernel
theorem dX7_readShot_48 : decode cX7_readShot 48 = .ok (.iconst 0, 1) := by decide +kernel
theorem dX7_readShot_49 : decode cX7_readShot 49 = .ok (.ireturn, 1) := by decide +kernel
theorem dX7_readShot_50 : decode cX7_readShot 50 = .ok (.aload_n 0, 1) := by decide +kernel
theorem dX7_readShot_51 : decode cX7_readShot 51 = .ok (.getfield 9, 3) := by decide +kernel
theorem dX7_readShot_54 : decode cX7_readShot 54 = .ok (.getfield 86, 3) := by decide +kernel
theorem dX7_readShot_57 : decode cX7_readShot 57 = .ok (.istore_n 3, 1) := by decide +kernel
theorem dX7_readShot_58 : decode cX7_readShot 58 = .ok (.aload_n 0, 1) := by decide +kernel
theorem dX7_readShot_59 : decode cX7_readShot 59 = .ok (.iconst 0, 1) := by decide +kernel
theorem dX7_readShot_60 : decode cX7_readShot 60 = .ok (.bipush 9, 2) := by decide +kernel
theorem dX7_readShot_62 : decode cX7_readShot 62 = .ok (.invokevirtual 89, 3) := by decide +kernel
theorem dX7_readShot_65 : decode cX7_readShot 65 = .ok (.ifCond .eq 11, 3) := by decide +kernel
theorem dX7_readShot_68 : decode cX7_readShot 68 = .ok (.aload_n 0, 1) := by decide +kernel
theorem dX7_readShot_69 : decode cX7_readShot 69 = .ok (.iconst 2, 1) := by decide +kernel
theorem dX7_readShot_70 : decode cX7_readShot 70 = .ok (.invokevirtual 83, 3) := by decide +kernel
theorem dX7_readShot_73 : decode cX7_readShot 73 = .ok (.ifCond .ne 5, 3) := by decide +kernel
theorem dX7_readShot_76 : decode cX7_readShot 76 = .ok (.iconst 0, 1) := by decide +kernel
theorem dX7_readShot_77 : decode cX7_readShot 77 = .ok (.ireturn, 1) := by decide +kernel
theorem dX7_readShot_78 : decode cX7_readShot 78 = .ok (.aload_n 0, 1) := by decide +kernel
theorem dX7_readShot_79 : decode cX7_readShot 79 = .ok (.getfield 9, 3) := by decide +kernel
theorem dX7_readShot_82 : decode cX7_readShot 82 = .ok (.getfield 86, 3) := by decide +kernel
theorem dX7_readShot_85 : decode cX7_readShot 85 = .ok (.istore 4, 2) := by decide +kernel
theorem dX7_readShot_87 : decode cX7_readShot 87 = .ok (.aload_n 0, 1) := by decide +kernel
theorem dX7_readShot_88 : decode cX7_readShot 88 = .ok (.iconst 1, 1) := by decide +kernel
theorem dX7_readShot_89 : decode cX7_readShot 89 = .ok (.bipush 60, 2) := by decide +kernel
theorem dX7_readShot_91 : decode cX7_readShot 91 = .ok (.invokevirtual 89, 3) := by decide +kernel
theorem dX7_readShot_94 : decode cX7_readShot 94 = .ok (.ifCond .eq 10, 3) := by decide +kernel
theorem dX7_readShot_97 : decode cX7_readShot 97 = .ok (.aload_n 0, 1) := by decide +kernel
theorem dX7_readShot_98 : decode cX7_readShot 98 = .ok (.invokevirtual 93, 3) := by decide +kernel
theorem dX7_readShot_101 : decode cX7_readShot 101 = .ok (.ifCond .ne 5, 3) := by decide +kernel
theorem dX7_readShot_104 : decode cX7_readShot 104 = .ok (.iconst 0, 1) := by decide +kernel
theorem dX7_readShot_105 : decode cX7_readShot 105 = .ok (.ireturn, 1) := by decide +kernel
theorem dX7_readShot_106 : decode cX7_readShot 106 = .ok (.aload_n 0, 1) := by decide +kernel
theorem dX7_readShot_107 : decode cX7_readShot 107 = .ok (.getfield 15, 3) := by decide +kernel
theorem dX7_readShot_110 : decode cX7_readShot 110 = .ok (.lload_n 1, 1) := by decide +kernel
theorem dX7_readShot_111 : decode cX7_readShot 111 = .ok (.iload_n 3, 1) := by decide +kernel
theorem dX7_readShot_112 : decode cX7_readShot 112 = .ok (.iload 4, 2) := by decide +kernel
theorem dX7_readShot_114 : decode cX7_readShot 114 = .ok (.invokevirtual 96, 3) := by decide +kernel
theorem dX7_readShot_117 : decode cX7_readShot 117 = .ok (.iconst 1, 1) := by decide +kernel
theorem dX7_readShot_118 : decode cX7_readShot 118 = .ok (.ireturn, 1) := by decide +kernel
theorem dX7_readNeeds_0 : decode cX7_readNeeds 0 = .ok (.aload_n 0, 1) := by decide +kernel
theorem dX7_readNeeds_1 : decode cX7_readNeeds 1 = .ok (.getfield 9, 3) := by decide +kernel
theorem dX7_readNeeds_4 : decode cX7_readNeeds 4 = .ok (.invokevirtual 73, 3) := by decide +kernel
theorem dX7_readNeeds_7 : decode cX7_readNeeds 7 = .ok (.aload_n 0, 1) := by decide +kernel
theorem dX7_readNeeds_8 : decode cX7_readNeeds 8 = .ok (.getfield 15, 3) := by decide +kernel
theorem dX7_readNeeds_11 : decode cX7_readNeeds 11 = .ok (.aload_n 0, 1) := by decide +kernel
theorem dX7_readNeeds_12 : decode cX7_readNeeds 12 = .ok (.getfield 9, 3) := by decide +kernel
theorem dX7_readNeeds_15 : decode cX7_readNeeds 15 = .ok (.getfield 76, 3) := by decide +kernel
theorem dX7_readNeeds_18 : decode cX7_readNeeds 18 = .ok (.invokevirtual 100, 3) := by decide +kernel
theorem dX7_readNeeds_21 : decode cX7_readNeeds 21 = .ok (.istore_n 1, 1) := by decide +kernel
theorem dX7_readNeeds_22 : decode cX7_readNeeds 22 = .ok (.aload_n 0, 1) := by decide +kernel
theorem dX7_readNeeds_23 : decode cX7_readNeeds 23 = .ok (.iload_n 1, 1) := by decide +kernel
theorem dX7_readNeeds_24 : decode cX7_readNeeds 24 = .ok (.invokevirtual 104, 3) := by decide +kernel
theorem dX7_readNeeds_27 : decode cX7_readNeeds 27 = .ok (.ifCond .ne 5, 3) := by decide +kernel
theorem dX7_readNeeds_30 : decode cX7_readNeeds 30 = .ok (.iconst 0, 1) := by decide +kernel
theorem dX7_readNeeds_31 : decode cX7_readNeeds 31 = .ok (.ireturn, 1) := by decide +kernel
theorem dX7_readNeeds_32 : decode cX7_readNeeds 32 = .ok (.aload_n 0, 1) := by decide +kernel
theorem dX7_readNeeds_33 : decode cX7_readNeeds 33 = .ok (.getfield 15, 3) := by decide +kernel
theorem dX7_readNeeds_36 : decode cX7_readNeeds 36 = .ok (.aload_n 0, 1) := by decide +kernel
theorem dX7_readNeeds_37 : decode cX7_readNeeds 37 = .ok (.getfield 9, 3) := by decide +kernel
theorem dX7_readNeeds_40 : decode cX7_readNeeds 40 = .ok (.getfield 76, 3) := by decide +kernel
theorem dX7_readNeeds_43 : decode cX7_readNeeds 43 = .ok (.invokevirtual 100, 3) := by decide +kernel
theorem dX7_readNeeds_46 : decode cX7_readNeeds 46 = .ok (.istore_n 2, 1) := by decide +kernel
theorem dX7_readNeeds_47 : decode cX7_readNeeds 47 = .ok (.aload_n 0, 1) := by decide +kernel
theorem dX7_readNeeds_48 : decode cX7_readNeeds 48 = .ok (.invokevirtual 107, 3) := by decide +kernel
theorem dX7_readNeeds_51 : decode cX7_readNeeds 51 = .ok (.ifCond .eq 26, 3) := by decide +kernel
theorem dX7_readNeeds_54 : decode cX7_readNeeds 54 = .ok (.iload_n 2, 1) := by decide +kernel
theorem dX7_readNeeds_55 : decode cX7_readNeeds 55 = .ok (.iload_n 1, 1) := by decide +kernel
theorem dX7_readNeeds_56 : decode cX7_readNeeds 56 = .ok (.if_icmp .eq 15, 3) := by decide +kernel
theorem dX7_readNeeds_59 : decode cX7_readNeeds 59 = .ok (.aload_n 0, 1) := by decide +kernel
theorem dX7_readNeeds_60 : decode cX7_readNeeds 60 = .ok (.getfield 15, 3) := by decide +kernel
theorem dX7_readNeeds_63 : decode cX7_readNeeds 63 = .ok (.iload_n 1, 1) := by decide +kernel
theorem dX7_readNeeds_64 : decode cX7_readNeeds 64 = .ok (.iload_n 2, 1) := by decide +kernel
theorem dX7_readNeeds_65 : decode cX7_readNeeds 65 = .ok (.invokevirtual 110, 3) := by decide +kernel
theorem dX7_readNeeds_68 : decode cX7_readNeeds 68 = .ok (.ifCond .eq 9, 3) := by decide +kernel
theorem dX7_readNeeds_71 : decode cX7_readNeeds 71 = .ok (.aload_n 0, 1) := by decide +kernel
theorem dX7_readNeeds_72 : decode cX7_readNeeds 72 = .ok (.iconst 3, 1) := by decide +kernel
theorem dX7_readNeeds_73 : decode cX7_readNeeds 73 = .ok (.invokevirtual 47, 3) := by decide +kernel
theorem dX7_readNeeds_76 : decode cX7_readNeeds 76 = .ok (.ireturn, 1) := by decide +kernel
theorem dX7_readNeeds_77 : decode cX7_readNeeds 77 = .ok (.aload_n 0, 1) := by decide +kernel
theorem dX7_readNeeds_78 : decode cX7_readNeeds 78 = .ok (.iload_n 2, 1) := by decide +kernel
theorem dX7_readNeeds_79 : decode cX7_readNeeds 79 = .ok (.invokevirtual 104, 3) := by decide +kernel
theorem dX7_readNeeds_82 : decode cX7_readNeeds 82 = .ok (.ifCond .eq 10, 3) := by decide +kernel
theorem dX7_readNeeds_85 : decode cX7_readNeeds 85 = .ok (.aload_n 0, 1) := by decide +kernel
theorem dX7_readNeeds_86 : decode cX7_readNeeds 86 = .ok (.invokevirtual 93, 3) := by decide +kernel
theorem dX7_readNeeds_89 : decode cX7_readNeeds 89 = .ok (.ifCond .ne 5, 3) := by decide +kernel
theorem dX7_readNeeds_92 : decode cX7_readNeeds 92 = .ok (.iconst 0, 1) := by decide +kernel
theorem dX7_readNeeds_93 : decode cX7_readNeeds 93 = .ok (.ireturn, 1) := by decide +kernel
theorem dX7_readNeeds_94 : decode cX7_readNeeds 94 = .ok (.aload_n 0, 1) := by decide +kernel
theorem dX7_readNeeds_95 : decode cX7_readNeeds 95 = .ok (.getfield 15, 3) := by decide +kernel
theorem dX7_readNeeds_98 : decode cX7_readNeeds 98 = .ok (.iload_n 1, 1) := by decide +kernel
theorem dX7_readNeeds_99 : decode cX7_readNeeds 99 = .ok (.iload_n 2, 1) := by decide +kernel
theorem dX7_readNeeds_100 : decode cX7_readNeeds 100 = .ok (.invokevirtual 113, 3) := by decide +kernel
theorem dX7_readNeeds_103 : decode cX7_readNeeds 103 = .ok (.iconst 1, 1) := by decide +kernel
theorem dX7_readNeeds_104 : decode cX7_readNeeds 104 = .ok (.ireturn, 1) := by decide +kernel
theorem dX7_readHall_0 : decode cX7_readHall 0 = .ok (.aload_n 0, 1) := by decide +kernel
theorem dX7_readHall_1 : decode cX7_readHall 1 = .ok (.getfield 15, 3) := by decide +kernel
theorem dX7_readHall_4 : decode cX7_readHall 4 = .ok (.getfield 117, 3) := by decide +kernel
theorem dX7_readHall_7 : decode cX7_readHall 7 = .ok (.bipush 6, 2) := by decide +kernel
theorem dX7_readHall_9 : decode cX7_readHall 9 = .ok (.if_icmp .lt 9, 3) := by decide +kernel
theorem dX7_readHall_12 : decode cX7_readHall 12 = .ok (.aload_n 0, 1) := by decide +kernel
theorem dX7_readHall_13 : decode cX7_readHall 13 = .ok (.iconst 5, 1) := by decide +kernel
theorem dX7_readHall_14 : decode cX7_readHall 14 = .ok (.invokevirtual 47, 3) := by decide +kernel
theorem dX7_readHall_17 : decode cX7_readHall 17 = .ok (.ireturn, 1) := by decide +kernel
theorem dX7_readHall_18 : decode cX7_readHall 18 = .ok (.aload_n 0, 1) := by decide +kernel
theorem dX7_readHall_19 : decode cX7_readHall 19 = .ok (.getfield 9, 3) := by decide +kernel
theorem dX7_readHall_22 : decode cX7_readHall 22 = .ok (.invokevirtual 73, 3) := by decide +kernel
theorem dX7_readHall_25 : decode cX7_readHall 25 = .ok (.aload_n 0, 1) := by decide +kernel
theorem dX7_readHall_26 : decode cX7_readHall 26 = .ok (.getfield 9, 3) := by decide +kernel
theorem dX7_readHall_29 : decode cX7_readHall 29 = .ok (.getfield 76, 3) := by decide +kernel
theorem dX7_readHall_32 : decode cX7_readHall 32 = .ok (.lstore_n 1, 1) := by decide +kernel
theorem dX7_readHall_33 : decode cX7_readHall 33 = .ok (.aload_n 0, 1) := by decide +kernel
theorem dX7_readHall_34 : decode cX7_readHall 34 = .ok (.invokevirtual 80, 3) := by decide +kernel
theorem dX7_readHall_37 : decode cX7_readHall 37 = .ok (.ifCond .ne 5, 3) := by decide +kernel
theorem dX7_readHall_40 : decode cX7_readHall 40 = .ok (.iconst 0, 1) := by decide +kernel
theorem dX7_readHall_41 : decode cX7_readHall 41 = .ok (.ireturn, 1) := by decide +kernel
theorem dX7_readHall_42 : decode cX7_readHall 42 = .ok (.aload_n 0, 1) := by decide +kernel
theorem dX7_readHall_43 : decode cX7_readHall 43 = .ok (.getfield 9, 3) := by decide +kernel
theorem dX7_readHall_46 : decode cX7_readHall 46 = .ok (.getfield 34, 3) := by decide +kernel
theorem dX7_readHall_49 : decode cX7_readHall 49 = .ok (.istore_n 3, 1) := by decide +kernel
theorem dX7_readHall_50 : decode cX7_readHall 50 = .ok (.iload_n 3, 1) := by decide +kernel
theorem dX7_readHall_51 : decode cX7_readHall 51 = .ok (.bipush 10, 2) := by decide +kernel
theorem dX7_readHall_53 : decode cX7_readHall 53 = .ok (.if_icmp .lt 9, 3) := by decide +kernel
theorem dX7_readHall_56 : decode cX7_readHall 56 = .ok (.iload_n 3, 1) := by decide +kernel
theorem dX7_readHall_57 : decode cX7_readHall 57 = .ok (.bipush 13, 2) := by decide +kernel
theorem dX7_readHall_59 : decode cX7_readHall 59 = .ok (.if_icmp .le 9, 3) := by decide +kernel
theorem dX7_readHall_62 : decode cX7_readHall 62 = .ok (.aload_n 0, 1) := by decide +kernel
theorem dX7_readHall_63 : decode cX7_readHall 63 = .ok (.iconst 1, 1) := by decide +kernel
theorem dX7_readHall_64 : decode cX7_readHall 64 = .ok (.invokevirtual 47, 3) := by decide +kernel
theorem dX7_readHall_67 : decode cX7_readHall 67 = .ok (.ireturn, 1) := by decide +kernel
theorem dX7_readHall_68 : decode cX7_readHall 68 = .ok (.aload_n 0, 1) := by decide +kernel
theorem dX7_readHall_69 : decode cX7_readHall 69 = .ok (.getfield 9, 3) := by decide +kernel
theorem dX7_readHall_72 : decode cX7_readHall 72 = .ok (.invokevirtual 73, 3) := by decide +kernel
theorem dX7_readHall_75 : decode cX7_readHall 75 = .ok (.aload_n 0, 1) := by decide +kernel
theorem dX7_readHall_76 : decode cX7_readHall 76 = .ok (.iconst 5, 1) := by decide +kernel
theorem dX7_readHall_77 : decode cX7_readHall 77 = .ok (.invokevirtual 83, 3) := by decide +kernel
theorem dX7_readHall_80 : decode cX7_readHall 80 = .ok (.ifCond .eq 18, 3) := by decide +kernel
theorem dX7_readHall_83 : decode cX7_readHall 83 = .ok (.aload_n 0, 1) := by decide +kernel
theorem dX7_readHall_84 : decode cX7_readHall 84 = .ok (.iconst 0, 1) := by decide +kernel
theorem dX7_readHall_85 : decode cX7_readHall 85 = .ok (.invokevirtual 120, 3) := by decide +kernel
theorem dX7_readHall_88 : decode cX7_readHall 88 = .ok (.ifCond .eq 10, 3) := by decide +kernel
theorem dX7_readHall_91 : decode cX7_readHall 91 = .ok (.aload_n 0, 1) := by decide +kernel
theorem dX7_readHall_92 : decode cX7_readHall 92 = .ok (.invokevirtual 93, 3) := by decide +kernel
theorem dX7_readHall_95 : decode cX7_readHall 95 = .ok (.ifCond .ne 5, 3) := by decide +kernel
theorem dX7_readHall_98 : decode cX7_readHall 98 = .ok (.iconst 0, 1) := by decide +kernel
theorem dX7_readHall_99 : decode cX7_readHall 99 = .ok (.ireturn, 1) := by decide +kernel
theorem dX7_readHall_100 : decode cX7_readHall 100 = .ok (.aload_n 0, 1) := by decide +kernel
theorem dX7_readHall_101 : decode cX7_readHall 101 = .ok (.getfield 15, 3) := by decide +kernel
theorem dX7_readHall_104 : decode cX7_readHall 104 = .ok (.lload_n 1, 1) := by decide +kernel
theorem dX7_readHall_105 : decode cX7_readHall 105 = .ok (.iload_n 3, 1) := by decide +kernel
theorem dX7_readHall_106 : decode cX7_readHall 106 = .ok (.bipush 10, 2) := by decide +kernel
theorem dX7_readHall_108 : decode cX7_readHall 108 = .ok (.isub, 1) := by decide +kernel
theorem dX7_readHall_109 : decode cX7_readHall 109 = .ok (.iconst 0, 1) := by decide +kernel
theorem dX7_readHall_110 : decode cX7_readHall 110 = .ok (.iadd, 1) := by decide +kernel
theorem dX7_readHall_111 : decode cX7_readHall 111 = .ok (.invokevirtual 123, 3) := by decide +kernel
theorem dX7_readHall_114 : decode cX7_readHall 114 = .ok (.iconst 1, 1) := by decide +kernel
theorem dX7_readHall_115 : decode cX7_readHall 115 = .ok (.ireturn, 1) := by decide +kernel
theorem dX7_readPlanLine_0 : decode cX7_readPlanLine 0 = .ok (.aload_n 0, 1) := by decide +kernel
theorem dX7_readPlanLine_1 : decode cX7_readPlanLine 1 = .ok (.getfield 9, 3) := by decide +kernel
theorem dX7_readPlanLine_4 : decode cX7_readPlanLine 4 = .ok (.getfield 34, 3) := by decide +kernel
theorem dX7_readPlanLine_7 : decode cX7_readPlanLine 7 = .ok (.istore_n 2, 1) := by decide +kernel
theorem dX7_readPlanLine_8 : decode cX7_readPlanLine 8 = .ok (.iload_n 2, 1) := by decide +kernel
theorem dX7_readPlanLine_9 : decode cX7_readPlanLine 9 = .ok (.bipush 6, 2) := by decide +kernel
theorem dX7_readPlanLine_11 : decode cX7_readPlanLine 11 = .ok (.if_icmp .lt 9, 3) := by decide +kernel
theorem dX7_readPlanLine_14 : decode cX7_readPlanLine 14 = .ok (.iload_n 2, 1) := by decide +kernel
theorem dX7_readPlanLine_15 : decode cX7_readPlanLine 15 = .ok (.bipush 9, 2) := by decide +kernel
theorem dX7_readPlanLine_17 : decode cX7_readPlanLine 17 = .ok (.if_icmp .le 9, 3) := by decide +kernel
theorem dX7_readPlanLine_20 : decode cX7_readPlanLine 20 = .ok (.aload_n 0, 1) := by decide +kernel
theorem dX7_readPlanLine_21 : decode cX7_readPlanLine 21 = .ok (.iconst 1, 1) := by decide +kernel
theorem dX7_readPlanLine_22 : decode cX7_readPlanLine 22 = .ok (.invokevirtual 47, 3) := by decide +kernel
theorem dX7_readPlanLine_25 : decode cX7_readPlanLine 25 = .ok (.ireturn, 1) := by decide +kernel
theorem dX7_readPlanLine_26 : decode cX7_readPlanLine 26 = .ok (.aload_n 1, 1) := by decide +kernel
theorem dX7_readPlanLine_27 : decode cX7_readPlanLine 27 = .ok (.getfield 127, 3) := by decide +kernel
theorem dX7_readPlanLine_30 : decode cX7_readPlanLine 30 = .ok (.bipush 40, 2) := by decide +kernel
theorem dX7_readPlanLine_32 : decode cX7_readPlanLine 32 = .ok (.if_icmp .lt 9, 3) := by decide +kernel
theorem dX7_readPlanLine_35 : decode cX7_readPlanLine 35 = .ok (.aload_n 0, 1) := by decide +kernel
theorem dX7_readPlanLine_36 : decode cX7_readPlanLine 36 = .ok (.iconst 5, 1) := by decide +kernel
theorem dX7_readPlanLine_37 : decode cX7_readPlanLine 37 = .ok (.invokevirtual 47, 3) := by decide +kernel
theorem dX7_readPlanLine_40 : decode cX7_readPlanLine 40 = .ok (.ireturn, 1) := by decide +kernel
theorem dX7_readPlanLine_41 : decode cX7_readPlanLine 41 = .ok (.aload_n 0, 1) := by decide +kernel
theorem dX7_readPlanLine_42 : decode cX7_readPlanLine 42 = .ok (.getfield 9, 3) := by decide +kernel
theorem dX7_readPlanLine_45 : decode cX7_readPlanLine 45 = .ok (.invokevirtual 73, 3) := by decide +kernel
theorem dX7_readPlanLine_48 : decode cX7_readPlanLine 48 = .ok (.iload_n 2, 1) := by decide +kernel
theorem dX7_readPlanLine_49 : decode cX7_readPlanLine 49 = .ok (.bipush 6, 2) := by decide +kernel
theorem dX7_readPlanLine_51 : decode cX7_readPlanLine 51 = .ok (.isub, 1) := by decide +kernel
theorem dX7_readPlanLine_52 : decode cX7_readPlanLine 52 = .ok (.iconst 0, 1) := by decide +kernel
theorem dX7_readPlanLine_53 : decode cX7_readPlanLine 53 = .ok (.iadd, 1) := by decide +kernel
theorem dX7_readPlanLine_54 : decode cX7_readPlanLine 54 = .ok (.istore_n 3, 1) := by decide +kernel
theorem dX7_readPlanLine_55 : decode cX7_readPlanLine 55 = .ok (.iload_n 3, 1) := by decide +kernel
theorem dX7_readPlanLine_56 : decode cX7_readPlanLine 56 = .ok (.iconst 1, 1) := by decide +kernel
theorem dX7_readPlanLine_57 : decode cX7_readPlanLine 57 = .ok (.if_icmp .eq 8, 3) := by decide +kernel
theorem dX7_readPlanLine_60 : decode cX7_readPlanLine 60 = .ok (.iload_n 3, 1) := by decide +kernel
theorem dX7_readPlanLine_61 : decode cX7_readPlanLine 61 = .ok (.iconst 2, 1) := by decide +kernel
theorem dX7_readPlanLine_62 : decode cX7_readPlanLine 62 = .ok (.if_icmp .ne 12, 3) := by decide +kernel
theorem dX7_readPlanLine_65 : decode cX7_readPlanLine 65 = .ok (.aload_n 0, 1) := by decide +kernel
theorem dX7_readPlanLine_66 : decode cX7_readPlanLine 66 = .ok (.aload_n 1, 1) := by decide +kernel
theorem dX7_readPlanLine_67 : decode cX7_readPlanLine 67 = .ok (.iload_n 3, 1) := by decide +kernel
theorem dX7_readPlanLine_68 : decode cX7_readPlanLine 68 = .ok (.invokevirtual 130, 3) := by decide +kernel
theorem dX7_readPlanLine_71 : decode cX7_readPlanLine 71 = .ok (.goto 9, 3) := by decide +kernel
theorem dX7_readPlanLine_74 : decode cX7_readPlanLine 74 = .ok (.aload_n 0, 1) := by decide +kernel
theorem dX7_readPlanLine_75 : decode cX7_readPlanLine 75 = .ok (.aload_n 1, 1) := by decide +kernel
theorem dX7_readPlanLine_76 : decode cX7_readPlanLine 76 = .ok (.iload_n 3, 1) := by decide +kernel
theorem dX7_readPlanLine_77 : decode cX7_readPlanLine 77 = .ok (.invokevirtual 134, 3) := by decide +kernel
theorem dX7_readPlanLine_80 : decode cX7_readPlanLine 80 = .ok (.ireturn, 1) := by decide +kernel
theorem dX7_readBare_0 : decode cX7_readBare 0 = .ok (.aload_n 0, 1) := by decide +kernel
theorem dX7_readBare_1 : decode cX7_readBare 1 = .ok (.invokevirtual 93, 3) := by decide +kernel
theorem dX7_readBare_4 : decode cX7_readBare 4 = .ok (.ifCond .ne 5, 3) := by decide +kernel
theorem dX7_readBare_7 : decode cX7_readBare 7 = .ok (.iconst 0, 1) := by decide +kernel
theorem dX7_readBare_8 : decode cX7_readBare 8 = .ok (.ireturn, 1) := by decide +kernel
theorem dX7_readBare_9 : decode cX7_readBare 9 = .ok (.aload_n 1, 1) := by decide +kernel
theorem dX7_readBare_10 : decode cX7_readBare 10 = .ok (.iload_n 2, 1) := by decide +kernel
theorem dX7_readBare_11 : decode cX7_readBare 11 = .ok (.iconst (-1), 1) := by decide +kernel
theorem dX7_readBare_12 : decode cX7_readBare 12 = .ok (.iconst (-1), 1) := by decide +kernel
theorem dX7_readBare_13 : decode cX7_readBare 13 = .ok (.iconst (-1), 1) := by decide +kernel
theorem dX7_readBare_14 : decode cX7_readBare 14 = .ok (.invokevirtual 137, 3) := by decide +kernel
theorem dX7_readBare_17 : decode cX7_readBare 17 = .ok (.iconst 1, 1) := by decide +kernel
theorem dX7_readBare_18 : decode cX7_readBare 18 = .ok (.ireturn, 1) := by decide +kernel
theorem dX7_readHandling_0 : decode cX7_readHandling 0 = .ok (.aload_n 0, 1) := by decide +kernel
theorem dX7_readHandling_1 : decode cX7_readHandling 1 = .ok (.getfield 15, 3) := by decide +kernel
theorem dX7_readHandling_4 : decode cX7_readHandling 4 = .ok (.aload_n 0, 1) := by decide +kernel
theorem dX7_readHandling_5 : decode cX7_readHandling 5 = .ok (.getfield 9, 3) := by decide +kernel
theorem dX7_readHandling_8 : decode cX7_readHandling 8 = .ok (.getfield 76, 3) := by decide +kernel
theorem dX7_readHandling_11 : decode cX7_readHandling 11 = .ok (.invokevirtual 141, 3) := by decide +kernel
theorem dX7_readHandling_14 : decode cX7_readHandling 14 = .ok (.istore_n 3, 1) := by decide +kernel
theorem dX7_readHandling_15 : decode cX7_readHandling 15 = .ok (.aload_n 0, 1) := by decide +kernel
theorem dX7_readHandling_16 : decode cX7_readHandling 16 = .ok (.iload_n 3, 1) := by decide +kernel
theorem dX7_readHandling_17 : decode cX7_readHandling 17 = .ok (.invokevirtual 104, 3) := by decide +kernel
theorem dX7_readHandling_20 : decode cX7_readHandling 20 = .ok (.ifCond .ne 5, 3) := by decide +kernel
theorem dX7_readHandling_23 : decode cX7_readHandling 23 = .ok (.iconst 0, 1) := by decide +kernel
theorem dX7_readHandling_24 : decode cX7_readHandling 24 = .ok (.ireturn, 1) := by decide +kernel
theorem dX7_readHandling_25 : decode cX7_readHandling 25 = .ok (.iconst (-1), 1) := by decide +kernel
theorem dX7_readHandling_26 : decode cX7_readHandling 26 = .ok (.istore 4, 2) := by decide +kernel
theorem dX7_readHandling_28 : decode cX7_readHandling 28 = .ok (.iload_n 2, 1) := by decide +kernel
theorem dX7_readHandling_29 : decode cX7_readHandling 29 = .ok (.iconst 2, 1) := by decide +kernel
theorem dX7_readHandling_30 : decode cX7_readHandling 30 = .ok (.if_icmp .ne 49, 3) := by decide +kernel
theorem dX7_readHandling_33 : decode cX7_readHandling 33 = .ok (.aload_n 0, 1) := by decide +kernel
theorem dX7_readHandling_34 : decode cX7_readHandling 34 = .ok (.getfield 15, 3) := by decide +kernel
theorem dX7_readHandling_37 : decode cX7_readHandling 37 = .ok (.aload_n 0, 1) := by decide +kernel
theorem dX7_readHandling_38 : decode cX7_readHandling 38 = .ok (.getfield 9, 3) := by decide +kernel
theorem dX7_readHandling_41 : decode cX7_readHandling 41 = .ok (.getfield 76, 3) := by decide +kernel
theorem dX7_readHandling_44 : decode cX7_readHandling 44 = .ok (.invokevirtual 141, 3) := by decide +kernel
theorem dX7_readHandling_47 : decode cX7_readHandling 47 = .ok (.istore 4, 2) := by decide +kernel
theorem dX7_readHandling_49 : decode cX7_readHandling 49 = .ok (.aload_n 0, 1) := by decide +kernel
theorem dX7_readHandling_50 : decode cX7_readHandling 50 = .ok (.invokevirtual 107, 3) := by decide +kernel
theorem dX7_readHandling_53 : decode cX7_readHandling 53 = .ok (.ifCond .eq 15, 3) := by decide +kernel
theorem dX7_readHandling_56 : decode cX7_readHandling 56 = .ok (.iload 4, 2) := by decide +kernel
theorem dX7_readHandling_58 : decode cX7_readHandling 58 = .ok (.iload_n 3, 1) := by decide +kernel
theorem dX7_readHandling_59 : decode cX7_readHandling 59 = .ok (.if_icmp .ne 9, 3) := by decide +kernel
theorem dX7_readHandling_62 : decode cX7_readHandling 62 = .ok (.aload_n 0, 1) := by decide +kernel
theorem dX7_readHandling_63 : decode cX7_readHandling 63 = .ok (.iconst 3, 1) := by decide +kernel
theorem dX7_readHandling_64 : decode cX7_readHandling 64 = .ok (.invokevirtual 47, 3) := by decide +kernel
theorem dX7_readHandling_67 : decode cX7_readHandling 67 = .ok (.ireturn, 1) := by decide +kernel
theorem dX7_readHandling_68 : decode cX7_readHandling 68 = .ok (.aload_n 0, 1) := by decide +kernel
theorem dX7_readHandling_69 : decode cX7_readHandling 69 = .ok (.iload 4, 2) := by decide +kernel
theorem dX7_readHandling_71 : decode cX7_readHandling 71 = .ok (.invokevirtual 104, 3) := by decide +kernel
theorem dX7_readHandling_74 : decode cX7_readHandling 74 = .ok (.ifCond .ne 5, 3) := by decide +kernel
theorem dX7_readHandling_77 : decode cX7_readHandling 77 = .ok (.iconst 0, 1) := by decide +kernel
theorem dX7_readHandling_78 : decode cX7_readHandling 78 = .ok (.ireturn, 1) := by decide +kernel
theorem dX7_readHandling_79 : decode cX7_readHandling 79 = .ok (.aload_n 0, 1) := by decide +kernel
theorem dX7_readHandling_80 : decode cX7_readHandling 80 = .ok (.getfield 15, 3) := by decide +kernel
theorem dX7_readHandling_83 : decode cX7_readHandling 83 = .ok (.aload_n 0, 1) := by decide +kernel
theorem dX7_readHandling_84 : decode cX7_readHandling 84 = .ok (.getfield 9, 3) := by decide +kernel
theorem dX7_readHandling_87 : decode cX7_readHandling 87 = .ok (.getfield 76, 3) := by decide +kernel
theorem dX7_readHandling_90 : decode cX7_readHandling 90 = .ok (.invokevirtual 100, 3) := by decide +kernel
theorem dX7_readHandling_93 : decode cX7_readHandling 93 = .ok (.istore 5, 2) := by decide +kernel
theorem dX7_readHandling_95 : decode cX7_readHandling 95 = .ok (.aload_n 0, 1) := by decide +kernel
theorem dX7_readHandling_96 : decode cX7_readHandling 96 = .ok (.iload 5, 2) := by decide +kernel
theorem dX7_readHandling_98 : decode cX7_readHandling 98 = .ok (.invokevirtual 104, 3) := by decide +kernel
theorem dX7_readHandling_101 : decode cX7_readHandling 101 = .ok (.ifCond .eq 10, 3) := by decide +kernel
theorem dX7_readHandling_104 : decode cX7_readHandling 104 = .ok (.aload_n 0, 1) := by decide +kernel
theorem dX7_readHandling_105 : decode cX7_readHandling 105 = .ok (.invokevirtual 93, 3) := by decide +kernel
theorem dX7_readHandling_108 : decode cX7_readHandling 108 = .ok (.ifCond .ne 5, 3) := by decide +kernel
theorem dX7_readHandling_111 : decode cX7_readHandling 111 = .ok (.iconst 0, 1) := by decide +kernel
theorem dX7_readHandling_112 : decode cX7_readHandling 112 = .ok (.ireturn, 1) := by decide +kernel
theorem dX7_readHandling_113 : decode cX7_readHandling 113 = .ok (.aload_n 1, 1) := by decide +kernel
theorem dX7_readHandling_114 : decode cX7_readHandling 114 = .ok (.iload_n 2, 1) := by decide +kernel
theorem dX7_readHandling_115 : decode cX7_readHandling 115 = .ok (.iload_n 3, 1) := by decide +kernel
theorem dX7_readHandling_116 : decode cX7_readHandling 116 = .ok (.iload 4, 2) := by decide +kernel
theorem dX7_readHandling_118 : decode cX7_readHandling 118 = .ok (.iload 5, 2) := by decide +kernel
theorem dX7_readHandling_120 : decode cX7_readHandling 120 = .ok (.invokevirtual 137, 3) := by decide +kernel
theorem dX7_readHandling_123 : decode cX7_readHandling 123 = .ok (.iconst 1, 1) := by decide +kernel
theorem dX7_readHandling_124 : decode cX7_readHandling 124 = .ok (.ireturn, 1) := by decide +kernel
theorem dX7_isName_0 : decode cX7_isName 0 = .ok (.aload_n 0, 1) := by decide +kernel
theorem dX7_isName_1 : decode cX7_isName 1 = .ok (.getfield 9, 3) := by decide +kernel
theorem dX7_isName_4 : decode cX7_isName 4 = .ok (.getfield 28, 3) := by decide +kernel
theorem dX7_isName_7 : decode cX7_isName 7 = .ok (.iconst 1, 1) := by decide +kernel
theorem dX7_isName_8 : decode cX7_isName 8 = .ok (.if_icmp .ne 30, 3) := by decide +kernel
theorem dX7_isName_11 : decode cX7_isName 11 = .ok (.aload_n 0, 1) := by decide +kernel
theorem dX7_isName_12 : decode cX7_isName 12 = .ok (.getfield 9, 3) := by decide +kernel
theorem dX7_isName_15 : decode cX7_isName 15 = .ok (.getfield 34, 3) := by decide +kernel
theorem dX7_isName_18 : decode cX7_isName 18 = .ok (.iconst (-1), 1) := by decide +kernel
theorem dX7_isName_19 : decode cX7_isName 19 = .ok (.if_icmp .eq 15, 3) := by decide +kernel
theorem dX7_isName_22 : decode cX7_isName 22 = .ok (.aload_n 0, 1) := by decide +kernel
theorem dX7_isName_23 : decode cX7_isName 23 = .ok (.getfield 9, 3) := by decide +kernel
theorem dX7_isName_26 : decode cX7_isName 26 = .ok (.getfield 34, 3) := by decide +kernel
theorem dX7_isName_29 : decode cX7_isName 29 = .ok (.bipush 17, 2) := by decide +kernel
theorem dX7_isName_31 : decode cX7_isName 31 = .ok (.if_icmp .lt 7, 3) := by decide +kernel
theorem dX7_isName_34 : decode cX7_isName 34 = .ok (.iconst 1, 1) := by decide +kernel
theorem dX7_isName_35 : decode cX7_isName 35 = .ok (.goto 4, 3) := by decide +kernel
theorem dX7_isName_38 : decode cX7_isName 38 = .ok (.iconst 0, 1) := by decide +kernel
theorem dX7_isName_39 : decode cX7_isName 39 = .ok (.ireturn, 1) := by decide +kernel
theorem dX7_takeNewName_0 : decode cX7_takeNewName 0 = .ok (.aload_n 0, 1) := by decide +kernel
theorem dX7_takeNewName_1 : decode cX7_takeNewName 1 = .ok (.invokevirtual 107, 3) := by decide +kernel
theorem dX7_takeNewName_4 : decode cX7_takeNewName 4 = .ok (.ifCond .ne 9, 3) := by decide +kernel
theorem dX7_takeNewName_7 : decode cX7_takeNewName 7 = .ok (.aload_n 0, 1) := by decide +kernel
theorem dX7_takeNewName_8 : decode cX7_takeNewName 8 = .ok (.iconst 1, 1) := by decide +kernel
theorem dX7_takeNewName_9 : decode cX7_takeNewName 9 = .ok (.invokevirtual 47, 3) := by decide +kernel
theorem dX7_takeNewName_12 : decode cX7_takeNewName 12 = .ok (.ireturn, 1) := by decide +kernel
theorem dX7_takeNewName_13 : decode cX7_takeNewName 13 = .ok (.aload_n 0, 1) := by decide +kernel
theorem dX7_takeNewName_14 : decode cX7_takeNewName 14 = .ok (.getfield 15, 3) := by decide +kernel
theorem dX7_takeNewName_17 : decode cX7_takeNewName 17 = .ok (.aload_n 0, 1) := by decide +kernel
theorem dX7_takeNewName_18 : decode cX7_takeNewName 18 = .ok (.getfield 9, 3) := by decide +kernel
theorem dX7_takeNewName_21 : decode cX7_takeNewName 21 = .ok (.getfield 76, 3) := by decide +kernel
theorem dX7_takeNewName_24 : decode cX7_takeNewName 24 = .ok (.invokevirtual 100, 3) := by decide +kernel
theorem dX7_takeNewName_27 : decode cX7_takeNewName 27 = .ok (.iconst (-1), 1) := by decide +kernel
theorem dX7_takeNewName_28 : decode cX7_takeNewName 28 = .ok (.if_icmp .ne 21, 3) := by decide +kernel
theorem dX7_takeNewName_31 : decode cX7_takeNewName 31 = .ok (.aload_n 0, 1) := by decide +kernel
theorem dX7_takeNewName_32 : decode cX7_takeNewName 32 = .ok (.getfield 15, 3) := by decide +kernel
theorem dX7_takeNewName_35 : decode cX7_takeNewName 35 = .ok (.aload_n 0, 1) := by decide +kernel
theorem dX7_takeNewName_36 : decode cX7_takeNewName 36 = .ok (.getfield 9, 3) := by decide +kernel
theorem dX7_takeNewName_39 : decode cX7_takeNewName 39 = .ok (.getfield 76, 3) := by decide +kernel
theorem dX7_takeNewName_42 : decode cX7_takeNewName 42 = .ok (.invokevirtual 141, 3) := by decide +kernel
theorem dX7_takeNewName_45 : decode cX7_takeNewName 45 = .ok (.iconst (-1), 1) := by decide +kernel
theorem dX7_takeNewName_46 : decode cX7_takeNewName 46 = .ok (.if_icmp .eq 9, 3) := by decide +kernel
theorem dX7_takeNewName_49 : decode cX7_takeNewName 49 = .ok (.aload_n 0, 1) := by decide +kernel
theorem dX7_takeNewName_50 : decode cX7_takeNewName 50 = .ok (.iconst 3, 1) := by decide +kernel
theorem dX7_takeNewName_51 : decode cX7_takeNewName 51 = .ok (.invokevirtual 47, 3) := by decide +kernel
theorem dX7_takeNewName_54 : decode cX7_takeNewName 54 = .ok (.ireturn, 1) := by decide +kernel
theorem dX7_takeNewName_55 : decode cX7_takeNewName 55 = .ok (.aload_n 0, 1) := by decide +kernel
theorem dX7_takeNewName_56 : decode cX7_takeNewName 56 = .ok (.getfield 9, 3) := by decide +kernel
theorem dX7_takeNewName_59 : decode cX7_takeNewName 59 = .ok (.invokevirtual 73, 3) := by decide +kernel
theorem dX7_takeNewName_62 : decode cX7_takeNewName 62 = .ok (.iconst 1, 1) := by decide +kernel
theorem dX7_takeNewName_63 : decode cX7_takeNewName 63 = .ok (.ireturn, 1) := by decide +kernel
theorem dX7_takeTold_0 : decode cX7_takeTold 0 = .ok (.aload_n 0, 1) := by decide +kernel
theorem dX7_takeTold_1 : decode cX7_takeTold 1 = .ok (.invokevirtual 107, 3) := by decide +kernel
theorem dX7_takeTold_4 : decode cX7_takeTold 4 = .ok (.ifCond .ne 9, 3) := by decide +kernel
theorem dX7_takeTold_7 : decode cX7_takeTold 7 = .ok (.aload_n 0, 1) := by decide +kernel
theorem dX7_takeTold_8 : decode cX7_takeTold 8 = .ok (.iconst 1, 1) := by decide +kernel
theorem dX7_takeTold_9 : decode cX7_takeTold 9 = .ok (.invokevirtual 47, 3) := by decide +kernel
theorem dX7_takeTold_12 : decode cX7_takeTold 12 = .ok (.ireturn, 1) := by decide +kernel
theorem dX7_takeTold_13 : decode cX7_takeTold 13 = .ok (.iload_n 1, 1) := by decide +kernel
theorem dX7_takeTold_14 : decode cX7_takeTold 14 = .ok (.iconst (-1), 1) := by decide +kernel
theorem dX7_takeTold_15 : decode cX7_takeTold 15 = .ok (.if_icmp .ne 9, 3) := by decide +kernel
theorem dX7_takeTold_18 : decode cX7_takeTold 18 = .ok (.aload_n 0, 1) := by decide +kernel
theorem dX7_takeTold_19 : decode cX7_takeTold 19 = .ok (.iconst 2, 1) := by decide +kernel
theorem dX7_takeTold_20 : decode cX7_takeTold 20 = .ok (.invokevirtual 47, 3) := by decide +kernel
theorem dX7_takeTold_23 : decode cX7_takeTold 23 = .ok (.ireturn, 1) := by decide +kernel
theorem dX7_takeTold_24 : decode cX7_takeTold 24 = .ok (.aload_n 0, 1) := by decide +kernel
theorem dX7_takeTold_25 : decode cX7_takeTold 25 = .ok (.getfield 9, 3) := by decide +kernel
theorem dX7_takeTold_28 : decode cX7_takeTold 28 = .ok (.invokevirtual 73, 3) := by decide +kernel
theorem dX7_takeTold_31 : decode cX7_takeTold 31 = .ok (.iconst 1, 1) := by decide +kernel
theorem dX7_takeTold_32 : decode cX7_takeTold 32 = .ok (.ireturn, 1) := by decide +kernel
theorem dX7_takeKeyword_0 : decode cX7_takeKeyword 0 = .ok (.aload_n 0, 1) := by decide +kernel
theorem dX7_takeKeyword_1 : decode cX7_takeKeyword 1 = .ok (.getfield 9, 3) := by decide +kernel
theorem dX7_takeKeyword_4 : decode cX7_takeKeyword 4 = .ok (.getfield 34, 3) := by decide +kernel
theorem dX7_takeKeyword_7 : decode cX7_takeKeyword 7 = .ok (.iload_n 1, 1) := by decide +kernel
theorem dX7_takeKeyword_8 : decode cX7_takeKeyword 8 = .ok (.if_icmp .eq 9, 3) := by decide +kernel
theorem dX7_takeKeyword_11 : decode cX7_takeKeyword 11 = .ok (.aload_n 0, 1) := by decide +kernel
theorem dX7_takeKeyword_12 : decode cX7_takeKeyword 12 = .ok (.iconst 1, 1) := by decide +kernel
theorem dX7_takeKeyword_13 : decode cX7_takeKeyword 13 = .ok (.invokevirtual 47, 3) := by decide +kernel
theorem dX7_takeKeyword_16 : decode cX7_takeKeyword 16 = .ok (.ireturn, 1) := by decide +kernel
theorem dX7_takeKeyword_17 : decode cX7_takeKeyword 17 = .ok (.aload_n 0, 1) := by decide +kernel
theorem dX7_takeKeyword_18 : decode cX7_takeKeyword 18 = .ok (.getfield 9, 3) := by decide +kernel
theorem dX7_takeKeyword_21 : decode cX7_takeKeyword 21 = .ok (.invokevirtual 73, 3) := by decide +kernel
theorem dX7_takeKeyword_24 : decode cX7_takeKeyword 24 = .ok (.iconst 1, 1) := by decide +kernel
theorem dX7_takeKeyword_25 : decode cX7_takeKeyword 25 = .ok (.ireturn, 1) := by decide +kernel
theorem dX7_takeNumber_0 : decode cX7_takeNumber 0 = .ok (.aload_n 0, 1) := by decide +kernel
theorem dX7_takeNumber_1 : decode cX7_takeNumber 1 = .ok (.getfield 9, 3) := by decide +kernel
theorem dX7_takeNumber_4 : decode cX7_takeNumber 4 = .ok (.getfield 28, 3) := by decide +kernel
theorem dX7_takeNumber_7 : decode cX7_takeNumber 7 = .ok (.iconst 2, 1) := by decide +kernel
theorem dX7_takeNumber_8 : decode cX7_takeNumber 8 = .ok (.if_icmp .eq 9, 3) := by decide +kernel
theorem dX7_takeNumber_11 : decode cX7_takeNumber 11 = .ok (.aload_n 0, 1) := by decide +kernel
theorem dX7_takeNumber_12 : decode cX7_takeNumber 12 = .ok (.iconst 1, 1) := by decide +kernel
theorem dX7_takeNumber_13 : decode cX7_takeNumber 13 = .ok (.invokevirtual 47, 3) := by decide +kernel
theorem dX7_takeNumber_16 : decode cX7_takeNumber 16 = .ok (.ireturn, 1) := by decide +kernel
theorem dX7_takeNumber_17 : decode cX7_takeNumber 17 = .ok (.aload_n 0, 1) := by decide +kernel
theorem dX7_takeNumber_18 : decode cX7_takeNumber 18 = .ok (.getfield 9, 3) := by decide +kernel
theorem dX7_takeNumber_21 : decode cX7_takeNumber 21 = .ok (.getfield 86, 3) := by decide +kernel
theorem dX7_takeNumber_24 : decode cX7_takeNumber 24 = .ok (.iload_n 1, 1) := by decide +kernel
theorem dX7_takeNumber_25 : decode cX7_takeNumber 25 = .ok (.if_icmp .lt 14, 3) := by decide +kernel
theorem dX7_takeNumber_28 : decode cX7_takeNumber 28 = .ok (.aload_n 0, 1) := by decide +kernel
theorem dX7_takeNumber_29 : decode cX7_takeNumber 29 = .ok (.getfield 9, 3) := by decide +kernel
theorem dX7_takeNumber_32 : decode cX7_takeNumber 32 = .ok (.getfield 86, 3) := by decide +kernel
theorem dX7_takeNumber_35 : decode cX7_takeNumber 35 = .ok (.iload_n 2, 1) := by decide +kernel
theorem dX7_takeNumber_36 : decode cX7_takeNumber 36 = .ok (.if_icmp .le 9, 3) := by decide +kernel
theorem dX7_takeNumber_39 : decode cX7_takeNumber 39 = .ok (.aload_n 0, 1) := by decide +kernel
theorem dX7_takeNumber_40 : decode cX7_takeNumber 40 = .ok (.iconst 4, 1) := by decide +kernel
theorem dX7_takeNumber_41 : decode cX7_takeNumber 41 = .ok (.invokevirtual 47, 3) := by decide +kernel
theorem dX7_takeNumber_44 : decode cX7_takeNumber 44 = .ok (.ireturn, 1) := by decide +kernel
theorem dX7_takeNumber_45 : decode cX7_takeNumber 45 = .ok (.aload_n 0, 1) := by decide +kernel
theorem dX7_takeNumber_46 : decode cX7_takeNumber 46 = .ok (.getfield 9, 3) := by decide +kernel
theorem dX7_takeNumber_49 : decode cX7_takeNumber 49 = .ok (.invokevirtual 73, 3) := by decide +kernel
theorem dX7_takeNumber_52 : decode cX7_takeNumber 52 = .ok (.iconst 1, 1) := by decide +kernel
theorem dX7_takeNumber_53 : decode cX7_takeNumber 53 = .ok (.ireturn, 1) := by decide +kernel
theorem dX7_takeSemicolon_0 : decode cX7_takeSemicolon 0 = .ok (.aload_n 0, 1) := by decide +kernel
theorem dX7_takeSemicolon_1 : decode cX7_takeSemicolon 1 = .ok (.getfield 9, 3) := by decide +kernel
theorem dX7_takeSemicolon_4 : decode cX7_takeSemicolon 4 = .ok (.bipush 59, 2) := by decide +kernel
theorem dX7_takeSemicolon_6 : decode cX7_takeSemicolon 6 = .ok (.invokevirtual 144, 3) := by decide +kernel
theorem dX7_takeSemicolon_9 : decode cX7_takeSemicolon 9 = .ok (.ifCond .ne 9, 3) := by decide +kernel
theorem dX7_takeSemicolon_12 : decode cX7_takeSemicolon 12 = .ok (.aload_n 0, 1) := by decide +kernel
theorem dX7_takeSemicolon_13 : decode cX7_takeSemicolon 13 = .ok (.iconst 1, 1) := by decide +kernel
theorem dX7_takeSemicolon_14 : decode cX7_takeSemicolon 14 = .ok (.invokevirtual 47, 3) := by decide +kernel
theorem dX7_takeSemicolon_17 : decode cX7_takeSemicolon 17 = .ok (.ireturn, 1) := by decide +kernel
theorem dX7_takeSemicolon_18 : decode cX7_takeSemicolon 18 = .ok (.aload_n 0, 1) := by decide +kernel
theorem dX7_takeSemicolon_19 : decode cX7_takeSemicolon 19 = .ok (.getfield 9, 3) := by decide +kernel
theorem dX7_takeSemicolon_22 : decode cX7_takeSemicolon 22 = .ok (.invokevirtual 73, 3) := by decide +kernel
theorem dX7_takeSemicolon_25 : decode cX7_takeSemicolon 25 = .ok (.iconst 1, 1) := by decide +kernel
theorem dX7_takeSemicolon_26 : decode cX7_takeSemicolon 26 = .ok (.ireturn, 1) := by decide +kernel
theorem dX7_readExpression_0 : decode cX7_readExpression 0 = .ok (.aload_n 0, 1) := by decide +kernel
theorem dX7_readExpression_1 : decode cX7_readExpression 1 = .ok (.iload_n 1, 1) := by decide +kernel
theorem dX7_readExpression_2 : decode cX7_readExpression 2 = .ok (.invokevirtual 148, 3) := by decide +kernel
theorem dX7_readExpression_5 : decode cX7_readExpression 5 = .ok (.ifCond .ne 5, 3) := by decide +kernel
theorem dX7_readExpression_8 : decode cX7_readExpression 8 = .ok (.iconst 0, 1) := by decide +kernel
theorem dX7_readExpression_9 : decode cX7_readExpression 9 = .ok (.ireturn, 1) := by decide +kernel
theorem dX7_readExpression_10 : decode cX7_readExpression 10 = .ok (.iconst 0, 1) := by decide +kernel
theorem dX7_readExpression_11 : decode cX7_readExpression 11 = .ok (.istore_n 2, 1) := by decide +kernel
theorem dX7_readExpression_12 : decode cX7_readExpression 12 = .ok (.iload_n 2, 1) := by decide +kernel
theorem dX7_readExpression_13 : decode cX7_readExpression 13 = .ok (.sipush 1000, 3) := by decide +kernel
theorem dX7_readExpression_16 : decode cX7_readExpression 16 = .ok (.if_icmp .ge 71, 3) := by decide +kernel
theorem dX7_readExpression_19 : decode cX7_readExpression 19 = .ok (.aload_n 0, 1) := by decide +kernel
theorem dX7_readExpression_20 : decode cX7_readExpression 20 = .ok (.getfield 9, 3) := by decide +kernel
theorem dX7_readExpression_23 : decode cX7_readExpression 23 = .ok (.getfield 34, 3) := by decide +kernel
theorem dX7_readExpression_26 : decode cX7_readExpression 26 = .ok (.istore_n 3, 1) := by decide +kernel
theorem dX7_readExpression_27 : decode cX7_readExpression 27 = .ok (.iload_n 3, 1) := by decide +kernel
theorem dX7_readExpression_28 : decode cX7_readExpression 28 = .ok (.bipush 15, 2) := by decide +kernel
theorem dX7_readExpression_30 : decode cX7_readExpression 30 = .ok (.if_icmp .eq 11, 3) := by decide +kernel
theorem dX7_readExpression_33 : decode cX7_readExpression 33 = .ok (.iload_n 3, 1) := by decide +kernel
theorem dX7_readExpression_34 : decode cX7_readExpression 34 = .ok (.bipush 16, 2) := by decide +kernel
theorem dX7_readExpression_36 : decode cX7_readExpression 36 = .ok (.if_icmp .eq 5, 3) := by decide +kernel
theorem dX7_readExpression_39 : decode cX7_readExpression 39 = .ok (.iconst 1, 1) := by decide +kernel
theorem dX7_readExpression_40 : decode cX7_readExpression 40 = .ok (.ireturn, 1) := by decide +kernel
theorem dX7_readExpression_41 : decode cX7_readExpression 41 = .ok (.aload_n 0, 1) := by decide +kernel
theorem dX7_readExpression_42 : decode cX7_readExpression 42 = .ok (.getfield 9, 3) := by decide +kernel
theorem dX7_readExpression_45 : decode cX7_readExpression 45 = .ok (.invokevirtual 73, 3) := by decide +kernel
theorem dX7_readExpression_48 : decode cX7_readExpression 48 = .ok (.aload_n 0, 1) := by decide +kernel
theorem dX7_readExpression_49 : decode cX7_readExpression 49 = .ok (.iload_n 1, 1) := by decide +kernel
theorem dX7_readExpression_50 : decode cX7_readExpression 50 = .ok (.invokevirtual 148, 3) := by decide +kernel
theorem dX7_readExpression_53 : decode cX7_readExpression 53 = .ok (.ifCond .ne 5, 3) := by decide +kernel
theorem dX7_readExpression_56 : decode cX7_readExpression 56 = .ok (.iconst 0, 1) := by decide +kernel
theorem dX7_readExpression_57 : decode cX7_readExpression 57 = .ok (.ireturn, 1) := by decide +kernel
theorem dX7_readExpression_58 : decode cX7_readExpression 58 = .ok (.aload_n 0, 1) := by decide +kernel
theorem dX7_readExpression_59 : decode cX7_readExpression 59 = .ok (.getfield 15, 3) := by decide +kernel
theorem dX7_readExpression_62 : decode cX7_readExpression 62 = .ok (.getfield 151, 3) := by decide +kernel
theorem dX7_readExpression_65 : decode cX7_readExpression 65 = .ok (.iload_n 3, 1) := by decide +kernel
theorem dX7_readExpression_66 : decode cX7_readExpression 66 = .ok (.bipush 15, 2) := by decide +kernel
theorem dX7_readExpression_68 : decode cX7_readExpression 68 = .ok (.if_icmp .ne 8, 3) := by decide +kernel
theorem dX7_readExpression_71 : decode cX7_readExpression 71 = .ok (.bipush (-6), 2) := by decide +kernel
theorem dX7_readExpression_73 : decode cX7_readExpression 73 = .ok (.goto 5, 3) := by decide +kernel
theorem dX7_readExpression_76 : decode cX7_readExpression 76 = .ok (.bipush (-7), 2) := by decide +kernel
theorem dX7_readExpression_78 : decode cX7_readExpression 78 = .ok (.invokevirtual 157, 3) := by decide +kernel
theorem dX7_readExpression_81 : decode cX7_readExpression 81 = .ok (.iinc 2 1, 3) := by decide +kernel
theorem dX7_readExpression_84 : decode cX7_readExpression 84 = .ok (.goto (-72), 3) := by decide +kernel
theorem dX7_readExpression_87 : decode cX7_readExpression 87 = .ok (.iconst 1, 1) := by decide +kernel
theorem dX7_readExpression_88 : decode cX7_readExpression 88 = .ok (.ireturn, 1) := by decide +kernel
theorem dX7_readTest_0 : decode cX7_readTest 0 = .ok (.aload_n 0, 1) := by decide +kernel
theorem dX7_readTest_1 : decode cX7_readTest 1 = .ok (.iload_n 1, 1) := by decide +kernel
theorem dX7_readTest_2 : decode cX7_readTest 2 = .ok (.invokevirtual 160, 3) := by decide +kernel
theorem dX7_readTest_5 : decode cX7_readTest 5 = .ok (.ifCond .ne 5, 3) := by decide +kernel
theorem dX7_readTest_8 : decode cX7_readTest 8 = .ok (.iconst 0, 1) := by decide +kernel
theorem dX7_readTest_9 : decode cX7_readTest 9 = .ok (.ireturn, 1) := by decide +kernel
theorem dX7_readTest_10 : decode cX7_readTest 10 = .ok (.aload_n 0, 1) := by decide +kernel
theorem dX7_readTest_11 : decode cX7_readTest 11 = .ok (.getfield 9, 3) := by decide +kernel
theorem dX7_readTest_14 : decode cX7_readTest 14 = .ok (.bipush 60, 2) := by decide +kernel
theorem dX7_readTest_16 : decode cX7_readTest 16 = .ok (.invokevirtual 144, 3) := by decide +kernel
theorem dX7_readTest_19 : decode cX7_readTest 19 = .ok (.istore_n 2, 1) := by decide +kernel
theorem dX7_readTest_20 : decode cX7_readTest 20 = .ok (.iload_n 2, 1) := by decide +kernel
theorem dX7_readTest_21 : decode cX7_readTest 21 = .ok (.ifCond .ne 17, 3) := by decide +kernel
theorem dX7_readTest_24 : decode cX7_readTest 24 = .ok (.aload_n 0, 1) := by decide +kernel
theorem dX7_readTest_25 : decode cX7_readTest 25 = .ok (.getfield 9, 3) := by decide +kernel
theorem dX7_readTest_28 : decode cX7_readTest 28 = .ok (.bipush 61, 2) := by decide +kernel
theorem dX7_readTest_30 : decode cX7_readTest 30 = .ok (.invokevirtual 144, 3) := by decide +kernel
theorem dX7_readTest_33 : decode cX7_readTest 33 = .ok (.ifCond .ne 5, 3) := by decide +kernel
theorem dX7_readTest_36 : decode cX7_readTest 36 = .ok (.iconst 1, 1) := by decide +kernel
theorem dX7_readTest_37 : decode cX7_readTest 37 = .ok (.ireturn, 1) := by decide +kernel
theorem dX7_readTest_38 : decode cX7_readTest 38 = .ok (.aload_n 0, 1) := by decide +kernel
theorem dX7_readTest_39 : decode cX7_readTest 39 = .ok (.getfield 9, 3) := by decide +kernel
theorem dX7_readTest_42 : decode cX7_readTest 42 = .ok (.invokevirtual 73, 3) := by decide +kernel
theorem dX7_readTest_45 : decode cX7_readTest 45 = .ok (.aload_n 0, 1) := by decide +kernel
theorem dX7_readTest_46 : decode cX7_readTest 46 = .ok (.iload_n 1, 1) := by decide +kernel
theorem dX7_readTest_47 : decode cX7_readTest 47 = .ok (.invokevirtual 160, 3) := by decide +kernel
theorem dX7_readTest_50 : decode cX7_readTest 50 = .ok (.ifCond .ne 5, 3) := by decide +kernel
theorem dX7_readTest_53 : decode cX7_readTest 53 = .ok (.iconst 0, 1) := by decide +kernel
theorem dX7_readTest_54 : decode cX7_readTest 54 = .ok (.ireturn, 1) := by decide +kernel
theorem dX7_readTest_55 : decode cX7_readTest 55 = .ok (.aload_n 0, 1) := by decide +kernel
theorem dX7_readTest_56 : decode cX7_readTest 56 = .ok (.getfield 15, 3) := by decide +kernel
theorem dX7_readTest_59 : decode cX7_readTest 59 = .ok (.getfield 151, 3) := by decide +kernel
theorem dX7_readTest_62 : decode cX7_readTest 62 = .ok (.iload_n 2, 1) := by decide +kernel
theorem dX7_readTest_63 : decode cX7_readTest 63 = .ok (.ifCond .eq 8, 3) := by decide +kernel
theorem dX7_readTest_66 : decode cX7_readTest 66 = .ok (.bipush (-8), 2) := by decide +kernel
theorem dX7_readTest_68 : decode cX7_readTest 68 = .ok (.goto 5, 3) := by decide +kernel
theorem dX7_readTest_71 : decode cX7_readTest 71 = .ok (.bipush (-9), 2) := by decide +kernel
theorem dX7_readTest_73 : decode cX7_readTest 73 = .ok (.invokevirtual 157, 3) := by decide +kernel
theorem dX7_readTest_76 : decode cX7_readTest 76 = .ok (.iconst 1, 1) := by decide +kernel
theorem dX7_readTest_77 : decode cX7_readTest 77 = .ok (.ireturn, 1) := by decide +kernel
theorem dX7_readSum_0 : decode cX7_readSum 0 = .ok (.aload_n 0, 1) := by decide +kernel
theorem dX7_readSum_1 : decode cX7_readSum 1 = .ok (.iload_n 1, 1) := by decide +kernel
theorem dX7_readSum_2 : decode cX7_readSum 2 = .ok (.invokevirtual 163, 3) := by decide +kernel
theorem dX7_readSum_5 : decode cX7_readSum 5 = .ok (.ifCond .ne 5, 3) := by decide +kernel
theorem dX7_readSum_8 : decode cX7_readSum 8 = .ok (.iconst 0, 1) := by decide +kernel
theorem dX7_readSum_9 : decode cX7_readSum 9 = .ok (.ireturn, 1) := by decide +kernel
theorem dX7_readSum_10 : decode cX7_readSum 10 = .ok (.iconst 0, 1) := by decide +kernel
theorem dX7_readSum_11 : decode cX7_readSum 11 = .ok (.istore_n 2, 1) := by decide +kernel
theorem dX7_readSum_12 : decode cX7_readSum 12 = .ok (.iload_n 2, 1) := by decide +kernel
theorem dX7_readSum_13 : decode cX7_readSum 13 = .ok (.sipush 1000, 3) := by decide +kernel
theorem dX7_readSum_16 : decode cX7_readSum 16 = .ok (.if_icmp .ge 75, 3) := by decide +kernel
theorem dX7_readSum_19 : decode cX7_readSum 19 = .ok (.aload_n 0, 1) := by decide +kernel
theorem dX7_readSum_20 : decode cX7_readSum 20 = .ok (.getfield 9, 3) := by decide +kernel
theorem dX7_readSum_23 : decode cX7_readSum 23 = .ok (.bipush 43, 2) := by decide +kernel
theorem dX7_readSum_25 : decode cX7_readSum 25 = .ok (.invokevirtual 144, 3) := by decide +kernel
theorem dX7_readSum_28 : decode cX7_readSum 28 = .ok (.istore_n 3, 1) := by decide +kernel
theorem dX7_readSum_29 : decode cX7_readSum 29 = .ok (.iload_n 3, 1) := by decide +kernel
theorem dX7_readSum_30 : decode cX7_readSum 30 = .ok (.ifCond .ne 17, 3) := by decide +kernel
theorem dX7_readSum_33 : decode cX7_readSum 33 = .ok (.aload_n 0, 1) := by decide +kernel
theorem dX7_readSum_34 : decode cX7_readSum 34 = .ok (.getfield 9, 3) := by decide +kernel
theorem dX7_readSum_37 : decode cX7_readSum 37 = .ok (.bipush 45, 2) := by decide +kernel
theorem dX7_readSum_39 : decode cX7_readSum 39 = .ok (.invokevirtual 144, 3) := by decide +kernel
theorem dX7_readSum_42 : decode cX7_readSum 42 = .ok (.ifCond .ne 5, 3) := by decide +kernel
theorem dX7_readSum_45 : decode cX7_readSum 45 = .ok (.iconst 1, 1) := by decide +kernel
theorem dX7_readSum_46 : decode cX7_readSum 46 = .ok (.ireturn, 1) := by decide +kernel
theorem dX7_readSum_47 : decode cX7_readSum 47 = .ok (.aload_n 0, 1) := by decide +kernel
theorem dX7_readSum_48 : decode cX7_readSum 48 = .ok (.getfield 9, 3) := by decide +kernel
theorem dX7_readSum_51 : decode cX7_readSum 51 = .ok (.invokevirtual 73, 3) := by decide +kernel
theorem dX7_readSum_54 : decode cX7_readSum 54 = .ok (.aload_n 0, 1) := by decide +kernel
theorem dX7_readSum_55 : decode cX7_readSum 55 = .ok (.iload_n 1, 1) := by decide +kernel
theorem dX7_readSum_56 : decode cX7_readSum 56 = .ok (.invokevirtual 163, 3) := by decide +kernel
theorem dX7_readSum_59 : decode cX7_readSum 59 = .ok (.ifCond .ne 5, 3) := by decide +kernel
theorem dX7_readSum_62 : decode cX7_readSum 62 = .ok (.iconst 0, 1) := by decide +kernel
theorem dX7_readSum_63 : decode cX7_readSum 63 = .ok (.ireturn, 1) := by decide +kernel
theorem dX7_readSum_64 : decode cX7_readSum 64 = .ok (.aload_n 0, 1) := by decide +kernel
theorem dX7_readSum_65 : decode cX7_readSum 65 = .ok (.getfield 15, 3) := by decide +kernel
theorem dX7_readSum_68 : decode cX7_readSum 68 = .ok (.getfield 151, 3) := by decide +kernel
theorem dX7_readSum_71 : decode cX7_readSum 71 = .ok (.iload_n 3, 1) := by decide +kernel
theorem dX7_readSum_72 : decode cX7_readSum 72 = .ok (.ifCond .eq 8, 3) := by decide +kernel
theorem dX7_readSum_75 : decode cX7_readSum 75 = .ok (.bipush (-10), 2) := by decide +kernel
theorem dX7_readSum_77 : decode cX7_readSum 77 = .ok (.goto 5, 3) := by decide +kernel
theorem dX7_readSum_80 : decode cX7_readSum 80 = .ok (.bipush (-11), 2) := by decide +kernel
theorem dX7_readSum_82 : decode cX7_readSum 82 = .ok (.invokevirtual 157, 3) := by decide +kernel
theorem dX7_readSum_85 : decode cX7_readSum 85 = .ok (.iinc 2 1, 3) := by decide +kernel
theorem dX7_readSum_88 : decode cX7_readSum 88 = .ok (.goto (-76), 3) := by decide +kernel
theorem dX7_readSum_91 : decode cX7_readSum 91 = .ok (.iconst 1, 1) := by decide +kernel
theorem dX7_readSum_92 : decode cX7_readSum 92 = .ok (.ireturn, 1) := by decide +kernel
theorem dX7_readProduct_0 : decode cX7_readProduct 0 = .ok (.aload_n 0, 1) := by decide +kernel
theorem dX7_readProduct_1 : decode cX7_readProduct 1 = .ok (.iload_n 1, 1) := by decide +kernel
theorem dX7_readProduct_2 : decode cX7_readProduct 2 = .ok (.invokevirtual 166, 3) := by decide +kernel
theorem dX7_readProduct_5 : decode cX7_readProduct 5 = .ok (.ifCond .ne 5, 3) := by decide +kernel
theorem dX7_readProduct_8 : decode cX7_readProduct 8 = .ok (.iconst 0, 1) := by decide +kernel
theorem dX7_readProduct_9 : decode cX7_readProduct 9 = .ok (.ireturn, 1) := by decide +kernel
theorem dX7_readProduct_10 : decode cX7_readProduct 10 = .ok (.iconst 0, 1) := by decide +kernel
theorem dX7_readProduct_11 : decode cX7_readProduct 11 = .ok (.istore_n 2, 1) := by decide +kernel
theorem dX7_readProduct_12 : decode cX7_readProduct 12 = .ok (.iload_n 2, 1) := by decide +kernel
theorem dX7_readProduct_13 : decode cX7_readProduct 13 = .ok (.sipush 1000, 3) := by decide +kernel
theorem dX7_readProduct_16 : decode cX7_readProduct 16 = .ok (.if_icmp .ge 52, 3) := by decide +kernel
theorem dX7_readProduct_19 : decode cX7_readProduct 19 = .ok (.aload_n 0, 1) := by decide +kernel
theorem dX7_readProduct_20 : decode cX7_readProduct 20 = .ok (.getfield 9, 3) := by decide +kernel
theorem dX7_readProduct_23 : decode cX7_readProduct 23 = .ok (.bipush 42, 2) := by decide +kernel
theorem dX7_readProduct_25 : decode cX7_readProduct 25 = .ok (.invokevirtual 144, 3) := by decide +kernel
theorem dX7_readProduct_28 : decode cX7_readProduct 28 = .ok (.ifCond .ne 5, 3) := by decide +kernel
theorem dX7_readProduct_31 : decode cX7_readProduct 31 = .ok (.iconst 1, 1) := by decide +kernel
theorem dX7_readProduct_32 : decode cX7_readProduct 32 = .ok (.ireturn, 1) := by decide +kernel
theorem dX7_readProduct_33 : decode cX7_readProduct 33 = .ok (.aload_n 0, 1) := by decide +kernel
theorem dX7_readProduct_34 : decode cX7_readProduct 34 = .ok (.getfield 9, 3) := by decide +kernel
theorem dX7_readProduct_37 : decode cX7_readProduct 37 = .ok (.invokevirtual 73, 3) := by decide +kernel
theorem dX7_readProduct_40 : decode cX7_readProduct 40 = .ok (.aload_n 0, 1) := by decide +kernel
theorem dX7_readProduct_41 : decode cX7_readProduct 41 = .ok (.iload_n 1, 1) := by decide +kernel
theorem dX7_readProduct_42 : decode cX7_readProduct 42 = .ok (.invokevirtual 166, 3) := by decide +kernel
theorem dX7_readProduct_45 : decode cX7_readProduct 45 = .ok (.ifCond .ne 5, 3) := by decide +kernel
theorem dX7_readProduct_48 : decode cX7_readProduct 48 = .ok (.iconst 0, 1) := by decide +kernel
theorem dX7_readProduct_49 : decode cX7_readProduct 49 = .ok (.ireturn, 1) := by decide +kernel
theorem dX7_readProduct_50 : decode cX7_readProduct 50 = .ok (.aload_n 0, 1) := by decide +kernel
theorem dX7_readProduct_51 : decode cX7_readProduct 51 = .ok (.getfield 15, 3) := by decide +kernel
theorem dX7_readProduct_54 : decode cX7_readProduct 54 = .ok (.getfield 151, 3) := by decide +kernel
theorem dX7_readProduct_57 : decode cX7_readProduct 57 = .ok (.bipush (-12), 2) := by decide +kernel
theorem dX7_readProduct_59 : decode cX7_readProduct 59 = .ok (.invokevirtual 157, 3) := by decide +kernel
theorem dX7_readProduct_62 : decode cX7_readProduct 62 = .ok (.iinc 2 1, 3) := by decide +kernel
theorem dX7_readProduct_65 : decode cX7_readProduct 65 = .ok (.goto (-53), 3) := by decide +kernel
theorem dX7_readProduct_68 : decode cX7_readProduct 68 = .ok (.iconst 1, 1) := by decide +kernel
theorem dX7_readProduct_69 : decode cX7_readProduct 69 = .ok (.ireturn, 1) := by decide +kernel
theorem dX7_readPart_0 : decode cX7_readPart 0 = .ok (.aload_n 0, 1) := by decide +kernel
theorem dX7_readPart_1 : decode cX7_readPart 1 = .ok (.getfield 9, 3) := by decide +kernel
theorem dX7_readPart_4 : decode cX7_readPart 4 = .ok (.getfield 34, 3) := by decide +kernel
theorem dX7_readPart_7 : decode cX7_readPart 7 = .ok (.istore_n 2, 1) := by decide +kernel
theorem dX7_readPart_8 : decode cX7_readPart 8 = .ok (.aload_n 0, 1) := by decide +kernel
theorem dX7_readPart_9 : decode cX7_readPart 9 = .ok (.getfield 9, 3) := by decide +kernel
theorem dX7_readPart_12 : decode cX7_readPart 12 = .ok (.getfield 28, 3) := by decide +kernel
theorem dX7_readPart_15 : decode cX7_readPart 15 = .ok (.iconst 2, 1) := by decide +kernel
theorem dX7_readPart_16 : decode cX7_readPart 16 = .ok (.if_icmp .ne 7, 3) := by decide +kernel
theorem dX7_readPart_19 : decode cX7_readPart 19 = .ok (.iconst 1, 1) := by decide +kernel
theorem dX7_readPart_20 : decode cX7_readPart 20 = .ok (.goto 4, 3) := by decide +kernel
theorem dX7_readPart_23 : decode cX7_readPart 23 = .ok (.iconst 0, 1) := by decide +kernel
theorem dX7_readPart_24 : decode cX7_readPart 24 = .ok (.istore_n 3, 1) := by decide +kernel
theorem dX7_readPart_25 : decode cX7_readPart 25 = .ok (.iload_n 2, 1) := by decide +kernel
theorem dX7_readPart_26 : decode cX7_readPart 26 = .ok (.bipush 17, 2) := by decide +kernel
theorem dX7_readPart_28 : decode cX7_readPart 28 = .ok (.if_icmp .lt 13, 3) := by decide +kernel
theorem dX7_readPart_31 : decode cX7_readPart 31 = .ok (.iload_n 2, 1) := by decide +kernel
theorem dX7_readPart_32 : decode cX7_readPart 32 = .ok (.bipush 20, 2) := by decide +kernel
theorem dX7_readPart_34 : decode cX7_readPart 34 = .ok (.if_icmp .gt 7, 3) := by decide +kernel
theorem dX7_readPart_37 : decode cX7_readPart 37 = .ok (.iconst 1, 1) := by decide +kernel
theorem dX7_readPart_38 : decode cX7_readPart 38 = .ok (.goto 4, 3) := by decide +kernel
theorem dX7_readPart_41 : decode cX7_readPart 41 = .ok (.iconst 0, 1) := by decide +kernel
theorem dX7_readPart_42 : decode cX7_readPart 42 = .ok (.istore 4, 2) := by decide +kernel
theorem dX7_readPart_44 : decode cX7_readPart 44 = .ok (.aload_n 0, 1) := by decide +kernel
theorem dX7_readPart_45 : decode cX7_readPart 45 = .ok (.getfield 9, 3) := by decide +kernel
theorem dX7_readPart_48 : decode cX7_readPart 48 = .ok (.bipush 40, 2) := by decide +kernel
theorem dX7_readPart_50 : decode cX7_readPart 50 = .ok (.invokevirtual 144, 3) := by decide +kernel
theorem dX7_readPart_53 : decode cX7_readPart 53 = .ok (.istore 5, 2) := by decide +kernel
theorem dX7_readPart_55 : decode cX7_readPart 55 = .ok (.iload_n 3, 1) := by decide +kernel
theorem dX7_readPart_56 : decode cX7_readPart 56 = .ok (.ifCond .ne 25, 3) := by decide +kernel
theorem dX7_readPart_59 : decode cX7_readPart 59 = .ok (.iload 4, 2) := by decide +kernel
theorem dX7_readPart_61 : decode cX7_readPart 61 = .ok (.ifCond .ne 20, 3) := by decide +kernel
theorem dX7_readPart_64 : decode cX7_readPart 64 = .ok (.iload 5, 2) := by decide +kernel
theorem dX7_readPart_66 : decode cX7_readPart 66 = .ok (.ifCond .ne 15, 3) := by decide +kernel
theorem dX7_readPart_69 : decode cX7_readPart 69 = .ok (.iload_n 2, 1) := by decide +kernel
theorem dX7_readPart_70 : decode cX7_readPart 70 = .ok (.bipush 14, 2) := by decide +kernel
theorem dX7_readPart_72 : decode cX7_readPart 72 = .ok (.if_icmp .eq 9, 3) := by decide +kernel
theorem dX7_readPart_75 : decode cX7_readPart 75 = .ok (.aload_n 0, 1) := by decide +kernel
theorem dX7_readPart_76 : decode cX7_readPart 76 = .ok (.iconst 1, 1) := by decide +kernel
theorem dX7_readPart_77 : decode cX7_readPart 77 = .ok (.invokevirtual 47, 3) := by decide +kernel
theorem dX7_readPart_80 : decode cX7_readPart 80 = .ok (.ireturn, 1) := by decide +kernel
theorem dX7_readPart_81 : decode cX7_readPart 81 = .ok (.iload_n 1, 1) := by decide +kernel
theorem dX7_readPart_82 : decode cX7_readPart 82 = .ok (.iconst 5, 1) := by decide +kernel
theorem dX7_readPart_83 : decode cX7_readPart 83 = .ok (.if_icmp .lt 9, 3) := by decide +kernel
theorem dX7_readPart_86 : decode cX7_readPart 86 = .ok (.aload_n 0, 1) := by decide +kernel
theorem dX7_readPart_87 : decode cX7_readPart 87 = .ok (.iconst 5, 1) := by decide +kernel
theorem dX7_readPart_88 : decode cX7_readPart 88 = .ok (.invokevirtual 47, 3) := by decide +kernel
theorem dX7_readPart_91 : decode cX7_readPart 91 = .ok (.ireturn, 1) := by decide +kernel
theorem dX7_readPart_92 : decode cX7_readPart 92 = .ok (.iload_n 3, 1) := by decide +kernel
theorem dX7_readPart_93 : decode cX7_readPart 93 = .ok (.ifCond .ne 8, 3) := by decide +kernel
theorem dX7_readPart_96 : decode cX7_readPart 96 = .ok (.iload 4, 2) := by decide +kernel
theorem dX7_readPart_98 : decode cX7_readPart 98 = .ok (.ifCond .eq 42, 3) := by decide +kernel
theorem dX7_readPart_101 : decode cX7_readPart 101 = .ok (.aload_n 0, 1) := by decide +kernel
theorem dX7_readPart_102 : decode cX7_readPart 102 = .ok (.getfield 15, 3) := by decide +kernel
theorem dX7_readPart_105 : decode cX7_readPart 105 = .ok (.getfield 151, 3) := by decide +kernel
theorem dX7_readPart_108 : decode cX7_readPart 108 = .ok (.iload_n 3, 1) := by decide +kernel
theorem dX7_readPart_109 : decode cX7_readPart 109 = .ok (.ifCond .eq 13, 3) := by decide +kernel
theorem dX7_readPart_112 : decode cX7_readPart 112 = .ok (.aload_n 0, 1) := by decide +kernel
theorem dX7_readPart_113 : decode cX7_readPart 113 = .ok (.getfield 9, 3) := by decide +kernel
theorem dX7_readPart_116 : decode cX7_readPart 116 = .ok (.getfield 86, 3) := by decide +kernel
theorem dX7_readPart_119 : decode cX7_readPart 119 = .ok (.goto 9, 3) := by decide +kernel
theorem dX7_readPart_122 : decode cX7_readPart 122 = .ok (.iconst (-1), 1) := by decide +kernel
theorem dX7_readPart_123 : decode cX7_readPart 123 = .ok (.iload_n 2, 1) := by decide +kernel
theorem dX7_readPart_124 : decode cX7_readPart 124 = .ok (.bipush 17, 2) := by decide +kernel
theorem dX7_readPart_126 : decode cX7_readPart 126 = .ok (.isub, 1) := by decide +kernel
theorem dX7_readPart_127 : decode cX7_readPart 127 = .ok (.isub, 1) := by decide +kernel
theorem dX7_readPart_128 : decode cX7_readPart 128 = .ok (.invokevirtual 157, 3) := by decide +kernel
theorem dX7_readPart_131 : decode cX7_readPart 131 = .ok (.aload_n 0, 1) := by decide +kernel
theorem dX7_readPart_132 : decode cX7_readPart 132 = .ok (.getfield 9, 3) := by decide +kernel
theorem dX7_readPart_135 : decode cX7_readPart 135 = .ok (.invokevirtual 73, 3) := by decide +kernel
theorem dX7_readPart_138 : decode cX7_readPart 138 = .ok (.iconst 1, 1) := by decide +kernel
theorem dX7_readPart_139 : decode cX7_readPart 139 = .ok (.ireturn, 1) := by decide +kernel
theorem dX7_readPart_140 : decode cX7_readPart 140 = .ok (.aload_n 0, 1) := by decide +kernel
theorem dX7_readPart_141 : decode cX7_readPart 141 = .ok (.getfield 9, 3) := by decide +kernel
theorem dX7_readPart_144 : decode cX7_readPart 144 = .ok (.invokevirtual 73, 3) := by decide +kernel
theorem dX7_readPart_147 : decode cX7_readPart 147 = .ok (.iload 5, 2) := by decide +kernel
theorem dX7_readPart_149 : decode cX7_readPart 149 = .ok (.ifCond .eq 13, 3) := by decide +kernel
theorem dX7_readPart_152 : decode cX7_readPart 152 = .ok (.aload_n 0, 1) := by decide +kernel
theorem dX7_readPart_153 : decode cX7_readPart 153 = .ok (.iload_n 1, 1) := by decide +kernel
theorem dX7_readPart_154 : decode cX7_readPart 154 = .ok (.iconst 1, 1) := by decide +kernel
theorem dX7_readPart_155 : decode cX7_readPart 155 = .ok (.iadd, 1) := by decide +kernel
theorem dX7_readPart_156 : decode cX7_readPart 156 = .ok (.invokevirtual 169, 3) := by decide +kernel
theorem dX7_readPart_159 : decode cX7_readPart 159 = .ok (.goto 10, 3) := by decide +kernel
theorem dX7_readPart_162 : decode cX7_readPart 162 = .ok (.aload_n 0, 1) := by decide +kernel
theorem dX7_readPart_163 : decode cX7_readPart 163 = .ok (.iload_n 1, 1) := by decide +kernel
theorem dX7_readPart_164 : decode cX7_readPart 164 = .ok (.iconst 1, 1) := by decide +kernel
theorem dX7_readPart_165 : decode cX7_readPart 165 = .ok (.iadd, 1) := by decide +kernel
theorem dX7_readPart_166 : decode cX7_readPart 166 = .ok (.invokevirtual 172, 3) := by decide +kernel
theorem dX7_readPart_169 : decode cX7_readPart 169 = .ok (.ireturn, 1) := by decide +kernel
theorem dX7_readBracketed_0 : decode cX7_readBracketed 0 = .ok (.aload_n 0, 1) := by decide +kernel
theorem dX7_readBracketed_1 : decode cX7_readBracketed 1 = .ok (.iload_n 1, 1) := by decide +kernel
theorem dX7_readBracketed_2 : decode cX7_readBracketed 2 = .ok (.invokevirtual 120, 3) := by decide +kernel
theorem dX7_readBracketed_5 : decode cX7_readBracketed 5 = .ok (.ifCond .ne 5, 3) := by decide +kernel
theorem dX7_readBracketed_8 : decode cX7_readBracketed 8 = .ok (.iconst 0, 1) := by decide +kernel
theorem dX7_readBracketed_9 : decode cX7_readBracketed 9 = .ok (.ireturn, 1) := by decide +kernel
theorem dX7_readBracketed_10 : decode cX7_readBracketed 10 = .ok (.aload_n 0, 1) := by decide +kernel
theorem dX7_readBracketed_11 : decode cX7_readBracketed 11 = .ok (.getfield 9, 3) := by decide +kernel
theorem dX7_readBracketed_14 : decode cX7_readBracketed 14 = .ok (.bipush 41, 2) := by decide +kernel
theorem dX7_readBracketed_16 : decode cX7_readBracketed 16 = .ok (.invokevirtual 144, 3) := by decide +kernel
theorem dX7_readBracketed_19 : decode cX7_readBracketed 19 = .ok (.ifCond .ne 9, 3) := by decide +kernel
theorem dX7_readBracketed_22 : decode cX7_readBracketed 22 = .ok (.aload_n 0, 1) := by decide +kernel
theorem dX7_readBracketed_23 : decode cX7_readBracketed 23 = .ok (.iconst 1, 1) := by decide +kernel
theorem dX7_readBracketed_24 : decode cX7_readBracketed 24 = .ok (.invokevirtual 47, 3) := by decide +kernel
theorem dX7_readBracketed_27 : decode cX7_readBracketed 27 = .ok (.ireturn, 1) := by decide +kernel
theorem dX7_readBracketed_28 : decode cX7_readBracketed 28 = .ok (.aload_n 0, 1) := by decide +kernel
theorem dX7_readBracketed_29 : decode cX7_readBracketed 29 = .ok (.getfield 9, 3) := by decide +kernel
theorem dX7_readBracketed_32 : decode cX7_readBracketed 32 = .ok (.invokevirtual 73, 3) := by decide +kernel
theorem dX7_readBracketed_35 : decode cX7_readBracketed 35 = .ok (.iconst 1, 1) := by decide +kernel
theorem dX7_readBracketed_36 : decode cX7_readBracketed 36 = .ok (.ireturn, 1) := by decide +kernel
theorem dX7_readNegated_0 : decode cX7_readNegated 0 = .ok (.aload_n 0, 1) := by decide +kernel
theorem dX7_readNegated_1 : decode cX7_readNegated 1 = .ok (.iload_n 1, 1) := by decide +kernel
theorem dX7_readNegated_2 : decode cX7_readNegated 2 = .ok (.invokevirtual 166, 3) := by decide +kernel
theorem dX7_readNegated_5 : decode cX7_readNegated 5 = .ok (.ifCond .ne 5, 3) := by decide +kernel
theorem dX7_readNegated_8 : decode cX7_readNegated 8 = .ok (.iconst 0, 1) := by decide +kernel
theorem dX7_readNegated_9 : decode cX7_readNegated 9 = .ok (.ireturn, 1) := by decide +kernel
theorem dX7_readNegated_10 : decode cX7_readNegated 10 = .ok (.aload_n 0, 1) := by decide +kernel
theorem dX7_readNegated_11 : decode cX7_readNegated 11 = .ok (.getfield 15, 3) := by decide +kernel
theorem dX7_readNegated_14 : decode cX7_readNegated 14 = .ok (.getfield 151, 3) := by decide +kernel
theorem dX7_readNegated_17 : decode cX7_readNegated 17 = .ok (.bipush (-5), 2) := by decide +kernel
theorem dX7_readNegated_19 : decode cX7_readNegated 19 = .ok (.invokevirtual 157, 3) := by decide +kernel
theorem dX7_readNegated_22 : decode cX7_readNegated 22 = .ok (.iconst 1, 1) := by decide +kernel
theorem dX7_readNegated_23 : decode cX7_readNegated 23 = .ok (.ireturn, 1) := by decide +kernel
theorem dX8_init_0 : decode cX8_init 0 = .ok (.aload_n 0, 1) := by decide +kernel
theorem dX8_init_1 : decode cX8_init 1 = .ok (.invokespecial 3, 3) := by decide +kernel
theorem dX8_init_4 : decode cX8_init 4 = .ok (.aload_n 0, 1) := by decide +kernel
theorem dX8_init_5 : decode cX8_init 5 = .ok (.bipush 8, 2) := by decide +kernel
theorem dX8_init_7 : decode cX8_init 7 = .ok (.newarray .int, 2) := by decide +kernel
theorem dX8_init_9 : decode cX8_init 9 = .ok (.putfield 9, 3) := by decide +kernel
theorem dX8_init_12 : decode cX8_init 12 = .ok (.aload_n 0, 1) := by decide +kernel
theorem dX8_init_13 : decode cX8_init 13 = .ok (.bipush 8, 2) := by decide +kernel
theorem dX8_init_15 : decode cX8_init 15 = .ok (.newarray .boolean, 2) := by decide +kernel
theorem dX8_init_17 : decode cX8_init 17 = .ok (.putfield 15, 3) := by decide +kernel
theorem dX8_init_20 : decode cX8_init 20 = .ok (.return_, 1) := by decide +kernel
theorem dX8_add_0 : decode cX8_add 0 = .ok (.aload_n 0, 1) := by decide +kernel
theorem dX8_add_1 : decode cX8_add 1 = .ok (.getfield 19, 3) := by decide +kernel
theorem dX8_add_4 : decode cX8_add 4 = .ok (.bipush 8, 2) := by decide +kernel
theorem dX8_add_6 : decode cX8_add 6 = .ok (.if_icmp .lt 5, 3) := by decide +kernel
theorem dX8_add_9 : decode cX8_add 9 = .ok (.iconst 0, 1) := by decide +kernel
theorem dX8_add_10 : decode cX8_add 10 = .ok (.ireturn, 1) := by decide +kernel
theorem dX8_add_11 : decode cX8_add 11 = .ok (.aload_n 0, 1) := by decide +kernel
theorem dX8_add_12 : decode cX8_add 12 = .ok (.getfield 9, 3) := by decide +kernel
theorem dX8_add_15 : decode cX8_add 15 = .ok (.aload_n 0, 1) := by decide +kernel
theorem dX8_add_16 : decode cX8_add 16 = .ok (.getfield 19, 3) := by decide +kernel
theorem dX8_add_19 : decode cX8_add 19 = .ok (.iload_n 1, 1) := by decide +kernel
theorem dX8_add_20 : decode cX8_add 20 = .ok (.iastore, 1) := by decide +kernel
theorem dX8_add_21 : decode cX8_add 21 = .ok (.aload_n 0, 1) := by decide +kernel
theorem dX8_add_22 : decode cX8_add 22 = .ok (.getfield 15, 3) := by decide +kernel
theorem dX8_add_25 : decode cX8_add 25 = .ok (.aload_n 0, 1) := by decide +kernel
theorem dX8_add_26 : decode cX8_add 26 = .ok (.getfield 19, 3) := by decide +kernel
theorem dX8_add_29 : decode cX8_add 29 = .ok (.iload_n 2, 1) := by decide +kernel
theorem dX8_add_30 : decode cX8_add 30 = .ok (.bastore, 1) := by decide +kernel
theorem dX8_add_31 : decode cX8_add 31 = .ok (.aload_n 0, 1) := by decide +kernel
theorem dX8_add_32 : decode cX8_add 32 = .ok (.dup, 1) := by decide +kernel
theorem dX8_add_33 : decode cX8_add 33 = .ok (.getfield 19, 3) := by decide +kernel
theorem dX8_add_36 : decode cX8_add 36 = .ok (.iconst 1, 1) := by decide +kernel
theorem dX8_add_37 : decode cX8_add 37 = .ok (.iadd, 1) := by decide +kernel
theorem dX8_add_38 : decode cX8_add 38 = .ok (.putfield 19, 3) := by decide +kernel
theorem dX8_add_41 : decode cX8_add 41 = .ok (.iconst 1, 1) := by decide +kernel
theorem dX8_add_42 : decode cX8_add 42 = .ok (.ireturn, 1) := by decide +kernel
theorem dX8_copy_0 : decode cX8_copy 0 = .ok (.aload_n 0, 1) := by decide +kernel
theorem dX8_copy_1 : decode cX8_copy 1 = .ok (.aload_n 1, 1) := by decide +kernel
theorem dX8_copy_2 : decode cX8_copy 2 = .ok (.getfield 19, 3) := by decide +kernel
theorem dX8_copy_5 : decode cX8_copy 5 = .ok (.putfield 19, 3) := by decide +kernel
theorem dX8_copy_8 : decode cX8_copy 8 = .ok (.iconst 0, 1) := by decide +kernel
theorem dX8_copy_9 : decode cX8_copy 9 = .ok (.istore_n 2, 1) := by decide +kernel
theorem dX8_copy_10 : decode cX8_copy 10 = .ok (.iload_n 2, 1) := by decide +kernel
theorem dX8_copy_11 : decode cX8_copy 11 = .ok (.aload_n 0, 1) := by decide +kernel
theorem dX8_copy_12 : decode cX8_copy 12 = .ok (.getfield 19, 3) := by decide +kernel
theorem dX8_copy_15 : decode cX8_copy 15 = .ok (.if_icmp .ge 39, 3) := by decide +kernel
theorem dX8_copy_18 : decode cX8_copy 18 = .ok (.iload_n 2, 1) := by decide +kernel
theorem dX8_copy_19 : decode cX8_copy 19 = .ok (.bipush 8, 2) := by decide +kernel
theorem dX8_copy_21 : decode cX8_copy 21 = .ok (.if_icmp .ge 33, 3) := by decide +kernel
theorem dX8_copy_24 : decode cX8_copy 24 = .ok (.aload_n 0, 1) := by decide +kernel
theorem dX8_copy_25 : decode cX8_copy 25 = .ok (.getfield 9, 3) := by decide +kernel
theorem dX8_copy_28 : decode cX8_copy 28 = .ok (.iload_n 2, 1) := by decide +kernel
theorem dX8_copy_29 : decode cX8_copy 29 = .ok (.aload_n 1, 1) := by decide +kernel
theorem dX8_copy_30 : decode cX8_copy 30 = .ok (.getfield 9, 3) := by decide +kernel
theorem dX8_copy_33 : decode cX8_copy 33 = .ok (.iload_n 2, 1) := by decide +kernel
theorem dX8_copy_34 : decode cX8_copy 34 = .ok (.iaload, 1) := by decide +kernel
theorem dX8_copy_35 : decode cX8_copy 35 = .ok (.iastore, 1) := by decide +kernel
theorem dX8_copy_36 : decode cX8_copy 36 = .ok (.aload_n 0, 1) := by decide +kernel
theorem dX8_copy_37 : decode cX8_copy 37 = .ok (.getfield 15, 3) := by decide +kernel
theorem dX8_copy_40 : decode cX8_copy 40 = .ok (.iload_n 2, 1) := by decide +kernel
theorem dX8_copy_41 : decode cX8_copy 41 = .ok (.aload_n 1, 1) := by decide +kernel
theorem dX8_copy_42 : decode cX8_copy 42 = .ok (.getfield 15, 3) := by decide +kernel
theorem dX8_copy_45 : decode cX8_copy 45 = .ok (.iload_n 2, 1) := by decide +kernel
theorem dX8_copy_46 : decode cX8_copy 46 = .ok (.baload, 1) := by decide +kernel
theorem dX8_copy_47 : decode cX8_copy 47 = .ok (.bastore, 1) := by decide +kernel
theorem dX8_copy_48 : decode cX8_copy 48 = .ok (.iinc 2 1, 3) := by decide +kernel
theorem dX8_copy_51 : decode cX8_copy 51 = .ok (.goto (-41), 3) := by decide +kernel
theorem dX8_copy_54 : decode cX8_copy 54 = .ok (.return_, 1) := by decide +kernel
theorem dX8_fit_0 : decode cX8_fit 0 = .ok (.iconst 0, 1) := by decide +kernel
theorem dX8_fit_1 : decode cX8_fit 1 = .ok (.istore_n 2, 1) := by decide +kernel
theorem dX8_fit_2 : decode cX8_fit 2 = .ok (.iload_n 2, 1) := by decide +kernel
theorem dX8_fit_3 : decode cX8_fit 3 = .ok (.aload_n 0, 1) := by decide +kernel
theorem dX8_fit_4 : decode cX8_fit 4 = .ok (.getfield 19, 3) := by decide +kernel
theorem dX8_fit_7 : decode cX8_fit 7 = .ok (.if_icmp .ge 45, 3) := by decide +kernel
theorem dX8_fit_10 : decode cX8_fit 10 = .ok (.iload_n 2, 1) := by decide +kernel
theorem dX8_fit_11 : decode cX8_fit 11 = .ok (.bipush 8, 2) := by decide +kernel
theorem dX8_fit_13 : decode cX8_fit 13 = .ok (.if_icmp .ge 39, 3) := by decide +kernel
theorem dX8_fit_16 : decode cX8_fit 16 = .ok (.iload_n 1, 1) := by decide +kernel
theorem dX8_fit_17 : decode cX8_fit 17 = .ok (.aload_n 0, 1) := by decide +kernel
theorem dX8_fit_18 : decode cX8_fit 18 = .ok (.getfield 9, 3) := by decide +kernel
theorem dX8_fit_21 : decode cX8_fit 21 = .ok (.iload_n 2, 1) := by decide +kernel
theorem dX8_fit_22 : decode cX8_fit 22 = .ok (.iaload, 1) := by decide +kernel
theorem dX8_fit_23 : decode cX8_fit 23 = .ok (.ishr, 1) := by decide +kernel
theorem dX8_fit_24 : decode cX8_fit 24 = .ok (.iconst 1, 1) := by decide +kernel
theorem dX8_fit_25 : decode cX8_fit 25 = .ok (.iand, 1) := by decide +kernel
theorem dX8_fit_26 : decode cX8_fit 26 = .ok (.iconst 1, 1) := by decide +kernel
theorem dX8_fit_27 : decode cX8_fit 27 = .ok (.if_icmp .ne 7, 3) := by decide +kernel
theorem dX8_fit_30 : decode cX8_fit 30 = .ok (.iconst 1, 1) := by decide +kernel
theorem dX8_fit_31 : decode cX8_fit 31 = .ok (.goto 4, 3) := by decide +kernel
theorem dX8_fit_34 : decode cX8_fit 34 = .ok (.iconst 0, 1) := by decide +kernel
theorem dX8_fit_35 : decode cX8_fit 35 = .ok (.aload_n 0, 1) := by decide +kernel
theorem dX8_fit_36 : decode cX8_fit 36 = .ok (.getfield 15, 3) := by decide +kernel
theorem dX8_fit_39 : decode cX8_fit 39 = .ok (.iload_n 2, 1) := by decide +kernel
theorem dX8_fit_40 : decode cX8_fit 40 = .ok (.baload, 1) := by decide +kernel
theorem dX8_fit_41 : decode cX8_fit 41 = .ok (.if_icmp .eq 5, 3) := by decide +kernel
theorem dX8_fit_44 : decode cX8_fit 44 = .ok (.iconst 0, 1) := by decide +kernel
theorem dX8_fit_45 : decode cX8_fit 45 = .ok (.ireturn, 1) := by decide +kernel
theorem dX8_fit_46 : decode cX8_fit 46 = .ok (.iinc 2 1, 3) := by decide +kernel
theorem dX8_fit_49 : decode cX8_fit 49 = .ok (.goto (-47), 3) := by decide +kernel
theorem dX8_fit_52 : decode cX8_fit 52 = .ok (.iconst 1, 1) := by decide +kernel
theorem dX8_fit_53 : decode cX8_fit 53 = .ok (.ireturn, 1) := by decide +kernel
theorem dX9_init_0 : decode cX9_init 0 = .ok (.aload_n 0, 1) := by decide +kernel
theorem dX9_init_1 : decode cX9_init 1 = .ok (.invokespecial 3, 3) := by decide +kernel
theorem dX9_init_4 : decode cX9_init 4 = .ok (.aload_n 0, 1) := by decide +kernel
theorem dX9_init_5 : decode cX9_init 5 = .ok (.bipush 21, 2) := by decide +kernel
theorem dX9_init_7 : decode cX9_init 7 = .ok (.newarray .long, 2) := by decide +kernel
theorem dX9_init_9 : decode cX9_init 9 = .ok (.putfield 11, 3) := by decide +kernel
theorem dX9_init_12 : decode cX9_init 12 = .ok (.aload_n 0, 1) := by decide +kernel
theorem dX9_init_13 : decode cX9_init 13 = .ok (.sipush 1000, 3) := by decide +kernel
theorem dX9_init_16 : decode cX9_init 16 = .ok (.newarray .char, 2) := by decide +kernel
theorem dX9_init_18 : decode cX9_init 18 = .ok (.putfield 15, 3) := by decide +kernel
theorem dX9_init_21 : decode cX9_init 21 = .ok (.iconst 0, 1) := by decide +kernel
theorem dX9_init_22 : decode cX9_init 22 = .ok (.istore_n 1, 1) := by decide +kernel
theorem dX9_init_23 : decode cX9_init 23 = .ok (.iconst 0, 1) := by decide +kernel
theorem dX9_init_24 : decode cX9_init 24 = .ok (.istore_n 2, 1) := by decide +kernel
theorem dX9_init_25 : decode cX9_init 25 = .ok (.iload_n 2, 1) := by decide +kernel
theorem dX9_init_26 : decode cX9_init 26 = .ok (.ldc 19, 2) := by decide +kernel
theorem dX9_init_28 : decode cX9_init 28 = .ok (.invokevirtual 21, 3) := by decide +kernel
theorem dX9_init_31 : decode cX9_init 31 = .ok (.if_icmp .ge 58, 3) := by decide +kernel
theorem dX9_init_34 : decode cX9_init 34 = .ok (.iload_n 1, 1) := by decide +kernel
theorem dX9_init_35 : decode cX9_init 35 = .ok (.bipush 21, 2) := by decide +kernel
theorem dX9_init_37 : decode cX9_init 37 = .ok (.if_icmp .ge 52, 3) := by decide +kernel
theorem dX9_init_40 : decode cX9_init 40 = .ok (.ldc 19, 2) := by decide +kernel
theorem dX9_init_42 : decode cX9_init 42 = .ok (.iload_n 2, 1) := by decide +kernel
theorem dX9_init_43 : decode cX9_init 43 = .ok (.invokevirtual 27, 3) := by decide +kernel
theorem dX9_init_46 : decode cX9_init 46 = .ok (.istore_n 3, 1) := by decide +kernel
theorem dX9_init_47 : decode cX9_init 47 = .ok (.iload_n 3, 1) := by decide +kernel
theorem dX9_init_48 : decode cX9_init 48 = .ok (.bipush 32, 2) := by decide +kernel
theorem dX9_init_50 : decode cX9_init 50 = .ok (.if_icmp .ne 9, 3) := by decide +kernel
theorem dX9_init_53 : decode cX9_init 53 = .ok (.iinc 1 1, 3) := by decide +kernel
theorem dX9_init_56 : decode cX9_init 56 = .ok (.goto 27, 3) := by decide +kernel
theorem dX9_init_59 : decode cX9_init 59 = .ok (.aload_n 0, 1) := by decide +kernel
theorem dX9_init_60 : decode cX9_init 60 = .ok (.getfield 11, 3) := by decide +kernel
theorem dX9_init_63 : decode cX9_init 63 = .ok (.iload_n 1, 1) := by decide +kernel
theorem dX9_init_64 : decode cX9_init 64 = .ok (.aload_n 0, 1) := by decide +kernel
theorem dX9_init_65 : decode cX9_init 65 = .ok (.getfield 11, 3) := by decide +kernel
theorem dX9_init_68 : decode cX9_init 68 = .ok (.iload_n 1, 1) := by decide +kernel
theorem dX9_init_69 : decode cX9_init 69 = .ok (.laload, 1) := by decide +kernel
theorem dX9_init_70 : decode cX9_init 70 = .ok (.ldc2_w 31, 3) := by decide +kernel
theorem dX9_init_73 : decode cX9_init 73 = .ok (.lmul, 1) := by decide +kernel
theorem dX9_init_74 : decode cX9_init 74 = .ok (.iload_n 3, 1) := by decide +kernel
theorem dX9_init_75 : decode cX9_init 75 = .ok (.bipush 97, 2) := by decide +kernel
theorem dX9_init_77 : decode cX9_init 77 = .ok (.isub, 1) := by decide +kernel
theorem dX9_init_78 : decode cX9_init 78 = .ok (.iconst 1, 1) := by decide +kernel
theorem dX9_init_79 : decode cX9_init 79 = .ok (.iadd, 1) := by decide +kernel
theorem dX9_init_80 : decode cX9_init 80 = .ok (.i2l, 1) := by decide +kernel
theorem dX9_init_81 : decode cX9_init 81 = .ok (.ladd, 1) := by decide +kernel
theorem dX9_init_82 : decode cX9_init 82 = .ok (.lastore, 1) := by decide +kernel
theorem dX9_init_83 : decode cX9_init 83 = .ok (.iinc 2 1, 3) := by decide +kernel
theorem dX9_init_86 : decode cX9_init 86 = .ok (.goto (-61), 3) := by decide +kernel
theorem dX9_init_89 : decode cX9_init 89 = .ok (.return_, 1) := by decide +kernel
theorem dX9_addBytes_0 : decode cX9_addBytes 0 = .ok (.bipush 56, 2) := by decide +kernel
theorem dX9_addBytes_2 : decode cX9_addBytes 2 = .ok (.istore_n 3, 1) := by decide +kernel
theorem dX9_addBytes_3 : decode cX9_addBytes 3 = .ok (.iload_n 3, 1) := by decide +kernel
theorem dX9_addBytes_4 : decode cX9_addBytes 4 = .ok (.ifCond .lt 84, 3) := by decide +kernel
theorem dX9_addBytes_7 : decode cX9_addBytes 7 = .ok (.lload_n 1, 1) := by decide +kernel
theorem dX9_addBytes_8 : decode cX9_addBytes 8 = .ok (.iload_n 3, 1) := by decide +kernel
theorem dX9_addBytes_9 : decode cX9_addBytes 9 = .ok (.lushr, 1) := by decide +kernel
theorem dX9_addBytes_10 : decode cX9_addBytes 10 = .ok (.l2i, 1) := by decide +kernel
theorem dX9_addBytes_11 : decode cX9_addBytes 11 = .ok (.sipush 255, 3) := by decide +kernel
theorem dX9_addBytes_14 : decode cX9_addBytes 14 = .ok (.iand, 1) := by decide +kernel
theorem dX9_addBytes_15 : decode cX9_addBytes 15 = .ok (.istore 4, 2) := by decide +kernel
theorem dX9_addBytes_17 : decode cX9_addBytes 17 = .ok (.iload 4, 2) := by decide +kernel
theorem dX9_addBytes_19 : decode cX9_addBytes 19 = .ok (.bipush 10, 2) := by decide +kernel
theorem dX9_addBytes_21 : decode cX9_addBytes 21 = .ok (.if_icmp .eq 17, 3) := by decide +kernel
theorem dX9_addBytes_24 : decode cX9_addBytes 24 = .ok (.iload 4, 2) := by decide +kernel
theorem dX9_addBytes_26 : decode cX9_addBytes 26 = .ok (.bipush 32, 2) := by decide +kernel
theorem dX9_addBytes_28 : decode cX9_addBytes 28 = .ok (.if_icmp .lt 14, 3) := by decide +kernel
theorem dX9_addBytes_31 : decode cX9_addBytes 31 = .ok (.iload 4, 2) := by decide +kernel
theorem dX9_addBytes_33 : decode cX9_addBytes 33 = .ok (.bipush 126, 2) := by decide +kernel
theorem dX9_addBytes_35 : decode cX9_addBytes 35 = .ok (.if_icmp .gt 7, 3) := by decide +kernel
theorem dX9_addBytes_38 : decode cX9_addBytes 38 = .ok (.iconst 1, 1) := by decide +kernel
theorem dX9_addBytes_39 : decode cX9_addBytes 39 = .ok (.goto 4, 3) := by decide +kernel
theorem dX9_addBytes_42 : decode cX9_addBytes 42 = .ok (.iconst 0, 1) := by decide +kernel
theorem dX9_addBytes_43 : decode cX9_addBytes 43 = .ok (.istore 5, 2) := by decide +kernel
theorem dX9_addBytes_45 : decode cX9_addBytes 45 = .ok (.iload 5, 2) := by decide +kernel
theorem dX9_addBytes_47 : decode cX9_addBytes 47 = .ok (.ifCond .eq 35, 3) := by decide +kernel
theorem dX9_addBytes_50 : decode cX9_addBytes 50 = .ok (.aload_n 0, 1) := by decide +kernel
theorem dX9_addBytes_51 : decode cX9_addBytes 51 = .ok (.getfield 33, 3) := by decide +kernel
theorem dX9_addBytes_54 : decode cX9_addBytes 54 = .ok (.sipush 1000, 3) := by decide +kernel
theorem dX9_addBytes_57 : decode cX9_addBytes 57 = .ok (.if_icmp .ge 25, 3) := by decide +kernel
theorem dX9_addBytes_60 : decode cX9_addBytes 60 = .ok (.aload_n 0, 1) := by decide +kernel
theorem dX9_addBytes_61 : decode cX9_addBytes 61 = .ok (.getfield 15, 3) := by decide +kernel
theorem dX9_addBytes_64 : decode cX9_addBytes 64 = .ok (.aload_n 0, 1) := by decide +kernel
theorem dX9_addBytes_65 : decode cX9_addBytes 65 = .ok (.getfield 33, 3) := by decide +kernel
theorem dX9_addBytes_68 : decode cX9_addBytes 68 = .ok (.iload 4, 2) := by decide +kernel
theorem dX9_addBytes_70 : decode cX9_addBytes 70 = .ok (.i2c, 1) := by decide +kernel
theorem dX9_addBytes_71 : decode cX9_addBytes 71 = .ok (.castore, 1) := by decide +kernel
theorem dX9_addBytes_72 : decode cX9_addBytes 72 = .ok (.aload_n 0, 1) := by decide +kernel
theorem dX9_addBytes_73 : decode cX9_addBytes 73 = .ok (.dup, 1) := by decide +kernel
theorem dX9_addBytes_74 : decode cX9_addBytes 74 = .ok (.getfield 33, 3) := by decide +kernel
theorem dX9_addBytes_77 : decode cX9_addBytes 77 = .ok (.iconst 1, 1) := by decide +kernel
theorem dX9_addBytes_78 : decode cX9_addBytes 78 = .ok (.iadd, 1) := by decide +kernel
theorem dX9_addBytes_79 : decode cX9_addBytes 79 = .ok (.putfield 33, 3) := by decide +kernel
theorem dX9_addBytes_82 : decode cX9_addBytes 82 = .ok (.iinc 3 (-8), 3) := by decide +kernel
theorem dX9_addBytes_85 : decode cX9_addBytes 85 = .ok (.goto (-82), 3) := by decide +kernel
theorem dX9_addBytes_88 : decode cX9_addBytes 88 = .ok (.return_, 1) := by decide +kernel
theorem dX9_start_0 : decode cX9_start 0 = .ok (.aload_n 0, 1) := by decide +kernel
theorem dX9_start_1 : decode cX9_start 1 = .ok (.iconst 0, 1) := by decide +kernel
theorem dX9_start_2 : decode cX9_start 2 = .ok (.putfield 37, 3) := by decide +kernel
theorem dX9_start_5 : decode cX9_start 5 = .ok (.aload_n 0, 1) := by decide +kernel
theorem dX9_start_6 : decode cX9_start 6 = .ok (.invokevirtual 40, 3) := by decide +kernel
theorem dX9_start_9 : decode cX9_start 9 = .ok (.return_, 1) := by decide +kernel
theorem dX9_advance_0 : decode cX9_advance 0 = .ok (.aload_n 0, 1) := by decide +kernel
theorem dX9_advance_1 : decode cX9_advance 1 = .ok (.aload_n 0, 1) := by decide +kernel
theorem dX9_advance_2 : decode cX9_advance 2 = .ok (.getfield 37, 3) := by decide +kernel
theorem dX9_advance_5 : decode cX9_advance 5 = .ok (.putfield 43, 3) := by decide +kernel
theorem dX9_advance_8 : decode cX9_advance 8 = .ok (.aload_n 0, 1) := by decide +kernel
theorem dX9_advance_9 : decode cX9_advance 9 = .ok (.getfield 43, 3) := by decide +kernel
theorem dX9_advance_12 : decode cX9_advance 12 = .ok (.aload_n 0, 1) := by decide +kernel
theorem dX9_advance_13 : decode cX9_advance 13 = .ok (.getfield 33, 3) := by decide +kernel
theorem dX9_advance_16 : decode cX9_advance 16 = .ok (.if_icmp .ge 44, 3) := by decide +kernel
theorem dX9_advance_19 : decode cX9_advance 19 = .ok (.aload_n 0, 1) := by decide +kernel
theorem dX9_advance_20 : decode cX9_advance 20 = .ok (.getfield 15, 3) := by decide +kernel
theorem dX9_advance_23 : decode cX9_advance 23 = .ok (.aload_n 0, 1) := by decide +kernel
theorem dX9_advance_24 : decode cX9_advance 24 = .ok (.getfield 43, 3) := by decide +kernel
theorem dX9_advance_27 : decode cX9_advance 27 = .ok (.caload, 1) := by decide +kernel
theorem dX9_advance_28 : decode cX9_advance 28 = .ok (.bipush 10, 2) := by decide +kernel
theorem dX9_advance_30 : decode cX9_advance 30 = .ok (.if_icmp .eq 17, 3) := by decide +kernel
theorem dX9_advance_33 : decode cX9_advance 33 = .ok (.aload_n 0, 1) := by decide +kernel
theorem dX9_advance_34 : decode cX9_advance 34 = .ok (.getfield 15, 3) := by decide +kernel
theorem dX9_advance_37 : decode cX9_advance 37 = .ok (.aload_n 0, 1) := by decide +kernel
theorem dX9_advance_38 : decode cX9_advance 38 = .ok (.getfield 43, 3) := by decide +kernel
theorem dX9_advance_41 : decode cX9_advance 41 = .ok (.caload, 1) := by decide +kernel
theorem dX9_advance_42 : decode cX9_advance 42 = .ok (.bipush 32, 2) := by decide +kernel
theorem dX9_advance_44 : decode cX9_advance 44 = .ok (.if_icmp .ne 16, 3) := by decide +kernel
theorem dX9_advance_47 : decode cX9_advance 47 = .ok (.aload_n 0, 1) := by decide +kernel
theorem dX9_advance_48 : decode cX9_advance 48 = .ok (.dup, 1) := by decide +kernel
theorem dX9_advance_49 : decode cX9_advance 49 = .ok (.getfield 43, 3) := by decide +kernel
theorem dX9_advance_52 : decode cX9_advance 52 = .ok (.iconst 1, 1) := by decide +kernel
theorem dX9_advance_53 : decode cX9_advance 53 = .ok (.iadd, 1) := by decide +kernel
theorem dX9_advance_54 : decode cX9_advance 54 = .ok (.putfield 43, 3) := by decide +kernel
theorem dX9_advance_57 : decode cX9_advance 57 = .ok (.goto (-49), 3) := by decide +kernel
theorem dX9_advance_60 : decode cX9_advance 60 = .ok (.aload_n 0, 1) := by decide +kernel
theorem dX9_advance_61 : decode cX9_advance 61 = .ok (.aload_n 0, 1) := by decide +kernel
theorem dX9_advance_62 : decode cX9_advance 62 = .ok (.getfield 43, 3) := by decide +kernel
theorem dX9_advance_65 : decode cX9_advance 65 = .ok (.putfield 37, 3) := by decide +kernel
theorem dX9_advance_68 : decode cX9_advance 68 = .ok (.aload_n 0, 1) := by decide +kernel
theorem dX9_advance_69 : decode cX9_advance 69 = .ok (.iconst 0, 1) := by decide +kernel
theorem dX9_advance_70 : decode cX9_advance 70 = .ok (.putfield 46, 3) := by decide +kernel
theorem dX9_advance_73 : decode cX9_advance 73 = .ok (.aload_n 0, 1) := by decide +kernel
theorem dX9_advance_74 : decode cX9_advance 74 = .ok (.iconst (-1), 1) := by decide +kernel
theorem dX9_advance_75 : decode cX9_advance 75 = .ok (.putfield 50, 3) := by decide +kernel
theorem dX9_advance_78 : decode cX9_advance 78 = .ok (.aload_n 0, 1) := by decide +kernel
theorem dX9_advance_79 : decode cX9_advance 79 = .ok (.getfield 43, 3) := by decide +kernel
theorem dX9_advance_82 : decode cX9_advance 82 = .ok (.aload_n 0, 1) := by decide +kernel
theorem dX9_advance_83 : decode cX9_advance 83 = .ok (.getfield 33, 3) := by decide +kernel
theorem dX9_advance_86 : decode cX9_advance 86 = .ok (.if_icmp .lt 11, 3) := by decide +kernel
theorem dX9_advance_89 : decode cX9_advance 89 = .ok (.aload_n 0, 1) := by decide +kernel
theorem dX9_advance_90 : decode cX9_advance 90 = .ok (.iconst 0, 1) := by decide +kernel
theorem dX9_advance_91 : decode cX9_advance 91 = .ok (.putfield 53, 3) := by decide +kernel
theorem dX9_advance_94 : decode cX9_advance 94 = .ok (.goto 51, 3) := by decide +kernel
theorem dX9_advance_97 : decode cX9_advance 97 = .ok (.aload_n 0, 1) := by decide +kernel
theorem dX9_advance_98 : decode cX9_advance 98 = .ok (.getfield 15, 3) := by decide +kernel
theorem dX9_advance_101 : decode cX9_advance 101 = .ok (.aload_n 0, 1) := by decide +kernel
theorem dX9_advance_102 : decode cX9_advance 102 = .ok (.getfield 43, 3) := by decide +kernel
theorem dX9_advance_105 : decode cX9_advance 105 = .ok (.caload, 1) := by decide +kernel
theorem dX9_advance_106 : decode cX9_advance 106 = .ok (.invokestatic 56, 3) := by decide +kernel
theorem dX9_advance_109 : decode cX9_advance 109 = .ok (.ifCond .eq 10, 3) := by decide +kernel
theorem dX9_advance_112 : decode cX9_advance 112 = .ok (.aload_n 0, 1) := by decide +kernel
theorem dX9_advance_113 : decode cX9_advance 113 = .ok (.invokevirtual 60, 3) := by decide +kernel
theorem dX9_advance_116 : decode cX9_advance 116 = .ok (.goto 29, 3) := by decide +kernel
theorem dX9_advance_119 : decode cX9_advance 119 = .ok (.aload_n 0, 1) := by decide +kernel
theorem dX9_advance_120 : decode cX9_advance 120 = .ok (.getfield 15, 3) := by decide +kernel
theorem dX9_advance_123 : decode cX9_advance 123 = .ok (.aload_n 0, 1) := by decide +kernel
theorem dX9_advance_124 : decode cX9_advance 124 = .ok (.getfield 43, 3) := by decide +kernel
theorem dX9_advance_127 : decode cX9_advance 127 = .ok (.caload, 1) := by decide +kernel
theorem dX9_advance_128 : decode cX9_advance 128 = .ok (.invokestatic 63, 3) := by decide +kernel
theorem dX9_advance_131 : decode cX9_advance 131 = .ok (.ifCond .eq 10, 3) := by decide +kernel
theorem dX9_advance_134 : decode cX9_advance 134 = .ok (.aload_n 0, 1) := by decide +kernel
theorem dX9_advance_135 : decode cX9_advance 135 = .ok (.invokevirtual 66, 3) := by decide +kernel
theorem dX9_advance_138 : decode cX9_advance 138 = .ok (.goto 7, 3) := by decide +kernel
theorem dX9_advance_141 : decode cX9_advance 141 = .ok (.aload_n 0, 1) := by decide +kernel
theorem dX9_advance_142 : decode cX9_advance 142 = .ok (.invokevirtual 69, 3) := by decide +kernel
theorem dX9_advance_145 : decode cX9_advance 145 = .ok (.return_, 1) := by decide +kernel
theorem dX9_takeWord_0 : decode cX9_takeWord 0 = .ok (.aload_n 0, 1) := by decide +kernel
theorem dX9_takeWord_1 : decode cX9_takeWord 1 = .ok (.lconst 0, 1) := by decide +kernel
theorem dX9_takeWord_2 : decode cX9_takeWord 2 = .ok (.putfield 72, 3) := by decide +kernel
theorem dX9_takeWord_5 : decode cX9_takeWord 5 = .ok (.aload_n 0, 1) := by decide +kernel
theorem dX9_takeWord_6 : decode cX9_takeWord 6 = .ok (.getfield 37, 3) := by decide +kernel
theorem dX9_takeWord_9 : decode cX9_takeWord 9 = .ok (.aload_n 0, 1) := by decide +kernel
theorem dX9_takeWord_10 : decode cX9_takeWord 10 = .ok (.getfield 33, 3) := by decide +kernel
theorem dX9_takeWord_13 : decode cX9_takeWord 13 = .ok (.if_icmp .ge 59, 3) := by decide +kernel
theorem dX9_takeWord_16 : decode cX9_takeWord 16 = .ok (.aload_n 0, 1) := by decide +kernel
theorem dX9_takeWord_17 : decode cX9_takeWord 17 = .ok (.getfield 15, 3) := by decide +kernel
theorem dX9_takeWord_20 : decode cX9_takeWord 20 = .ok (.aload_n 0, 1) := by decide +kernel
theorem dX9_takeWord_21 : decode cX9_takeWord 21 = .ok (.getfield 37, 3) := by decide +kernel
theorem dX9_takeWord_24 : decode cX9_takeWord 24 = .ok (.caload, 1) := by decide +kernel
theorem dX9_takeWord_25 : decode cX9_takeWord 25 = .ok (.invokestatic 56, 3) := by decide +kernel
theorem dX9_takeWord_28 : decode cX9_takeWord 28 = .ok (.ifCond .eq 44, 3) := by decide +kernel
theorem dX9_takeWord_31 : decode cX9_takeWord 31 = .ok (.aload_n 0, 1) := by decide +kernel
theorem dX9_takeWord_32 : decode cX9_takeWord 32 = .ok (.aload_n 0, 1) := by decide +kernel
theorem dX9_takeWord_33 : decode cX9_takeWord 33 = .ok (.getfield 72, 3) := by decide +kernel
theorem dX9_takeWord_36 : decode cX9_takeWord 36 = .ok (.ldc2_w 31, 3) := by decide +kernel
theorem dX9_takeWord_39 : decode cX9_takeWord 39 = .ok (.lmul, 1) := by decide +kernel
theorem dX9_takeWord_40 : decode cX9_takeWord 40 = .ok (.aload_n 0, 1) := by decide +kernel
theorem dX9_takeWord_41 : decode cX9_takeWord 41 = .ok (.getfield 15, 3) := by decide +kernel
theorem dX9_takeWord_44 : decode cX9_takeWord 44 = .ok (.aload_n 0, 1) := by decide +kernel
theorem dX9_takeWord_45 : decode cX9_takeWord 45 = .ok (.getfield 37, 3) := by decide +kernel
theorem dX9_takeWord_48 : decode cX9_takeWord 48 = .ok (.caload, 1) := by decide +kernel
theorem dX9_takeWord_49 : decode cX9_takeWord 49 = .ok (.bipush 97, 2) := by decide +kernel
theorem dX9_takeWord_51 : decode cX9_takeWord 51 = .ok (.isub, 1) := by decide +kernel
theorem dX9_takeWord_52 : decode cX9_takeWord 52 = .ok (.iconst 1, 1) := by decide +kernel
theorem dX9_takeWord_53 : decode cX9_takeWord 53 = .ok (.iadd, 1) := by decide +kernel
theorem dX9_takeWord_54 : decode cX9_takeWord 54 = .ok (.i2l, 1) := by decide +kernel
theorem dX9_takeWord_55 : decode cX9_takeWord 55 = .ok (.ladd, 1) := by decide +kernel
theorem dX9_takeWord_56 : decode cX9_takeWord 56 = .ok (.putfield 72, 3) := by decide +kernel
theorem dX9_takeWord_59 : decode cX9_takeWord 59 = .ok (.aload_n 0, 1) := by decide +kernel
theorem dX9_takeWord_60 : decode cX9_takeWord 60 = .ok (.dup, 1) := by decide +kernel
theorem dX9_takeWord_61 : decode cX9_takeWord 61 = .ok (.getfield 37, 3) := by decide +kernel
theorem dX9_takeWord_64 : decode cX9_takeWord 64 = .ok (.iconst 1, 1) := by decide +kernel
theorem dX9_takeWord_65 : decode cX9_takeWord 65 = .ok (.iadd, 1) := by decide +kernel
theorem dX9_takeWord_66 : decode cX9_takeWord 66 = .ok (.putfield 37, 3) := by decide +kernel
theorem dX9_takeWord_69 : decode cX9_takeWord 69 = .ok (.goto (-64), 3) := by decide +kernel
theorem dX9_takeWord_72 : decode cX9_takeWord 72 = .ok (.aload_n 0, 1) := by decide +kernel
theorem dX9_takeWord_73 : decode cX9_takeWord 73 = .ok (.aload_n 0, 1) := by decide +kernel
theorem dX9_takeWord_74 : decode cX9_takeWord 74 = .ok (.getfield 37, 3) := by decide +kernel
theorem dX9_takeWord_77 : decode cX9_takeWord 77 = .ok (.aload_n 0, 1) := by decide +kernel
theorem dX9_takeWord_78 : decode cX9_takeWord 78 = .ok (.getfield 43, 3) := by decide +kernel
theorem dX9_takeWord_81 : decode cX9_takeWord 81 = .ok (.isub, 1) := by decide +kernel
theorem dX9_takeWord_82 : decode cX9_takeWord 82 = .ok (.bipush 8, 2) := by decide +kernel
theorem dX9_takeWord_84 : decode cX9_takeWord 84 = .ok (.if_icmp .le 7, 3) := by decide +kernel
theorem dX9_takeWord_87 : decode cX9_takeWord 87 = .ok (.iconst 4, 1) := by decide +kernel
theorem dX9_takeWord_88 : decode cX9_takeWord 88 = .ok (.goto 4, 3) := by decide +kernel
theorem dX9_takeWord_91 : decode cX9_takeWord 91 = .ok (.iconst 1, 1) := by decide +kernel
theorem dX9_takeWord_92 : decode cX9_takeWord 92 = .ok (.putfield 53, 3) := by decide +kernel
theorem dX9_takeWord_95 : decode cX9_takeWord 95 = .ok (.iconst 0, 1) := by decide +kernel
theorem dX9_takeWord_96 : decode cX9_takeWord 96 = .ok (.istore_n 1, 1) := by decide +kernel
theorem dX9_takeWord_97 : decode cX9_takeWord 97 = .ok (.iload_n 1, 1) := by decide +kernel
theorem dX9_takeWord_98 : decode cX9_takeWord 98 = .ok (.bipush 21, 2) := by decide +kernel
theorem dX9_takeWord_100 : decode cX9_takeWord 100 = .ok (.if_icmp .ge 44, 3) := by decide +kernel
theorem dX9_takeWord_103 : decode cX9_takeWord 103 = .ok (.aload_n 0, 1) := by decide +kernel
theorem dX9_takeWord_104 : decode cX9_takeWord 104 = .ok (.getfield 53, 3) := by decide +kernel
theorem dX9_takeWord_107 : decode cX9_takeWord 107 = .ok (.iconst 1, 1) := by decide +kernel
theorem dX9_takeWord_108 : decode cX9_takeWord 108 = .ok (.if_icmp .ne 36, 3) := by decide +kernel
theorem dX9_takeWord_111 : decode cX9_takeWord 111 = .ok (.aload_n 0, 1) := by decide +kernel
theorem dX9_takeWord_112 : decode cX9_takeWord 112 = .ok (.getfield 50, 3) := by decide +kernel
theorem dX9_takeWord_115 : decode cX9_takeWord 115 = .ok (.iconst (-1), 1) := by decide +kernel
theorem dX9_takeWord_116 : decode cX9_takeWord 116 = .ok (.if_icmp .ne 28, 3) := by decide +kernel
theorem dX9_takeWord_119 : decode cX9_takeWord 119 = .ok (.aload_n 0, 1) := by decide +kernel
theorem dX9_takeWord_120 : decode cX9_takeWord 120 = .ok (.getfield 11, 3) := by decide +kernel
theorem dX9_takeWord_123 : decode cX9_takeWord 123 = .ok (.iload_n 1, 1) := by decide +kernel
theorem dX9_takeWord_124 : decode cX9_takeWord 124 = .ok (.laload, 1) := by decide +kernel
theorem dX9_takeWord_125 : decode cX9_takeWord 125 = .ok (.aload_n 0, 1) := by decide +kernel
theorem dX9_takeWord_126 : decode cX9_takeWord 126 = .ok (.getfield 72, 3) := by decide +kernel
theorem dX9_takeWord_129 : decode cX9_takeWord 129 = .ok (.lcmp, 1) := by decide +kernel
theorem dX9_takeWord_130 : decode cX9_takeWord 130 = .ok (.ifCond .ne 8, 3) := by decide +kernel
theorem dX9_takeWord_133 : decode cX9_takeWord 133 = .ok (.aload_n 0, 1) := by decide +kernel
theorem dX9_takeWord_134 : decode cX9_takeWord 134 = .ok (.iload_n 1, 1) := by decide +kernel
theorem dX9_takeWord_135 : decode cX9_takeWord 135 = .ok (.putfield 50, 3) := by decide +kernel
theorem dX9_takeWord_138 : decode cX9_takeWord 138 = .ok (.iinc 1 1, 3) := by decide +kernel
theorem dX9_takeWord_141 : decode cX9_takeWord 141 = .ok (.goto (-44), 3) := by decide +kernel
theorem dX9_takeWord_144 : decode cX9_takeWord 144 = .ok (.return_, 1) := by decide +kernel
theorem dX9_takeNumber_0 : decode cX9_takeNumber 0 = .ok (.aload_n 0, 1) := by decide +kernel
theorem dX9_takeNumber_1 : decode cX9_takeNumber 1 = .ok (.iconst 0, 1) := by decide +kernel
theorem dX9_takeNumber_2 : decode cX9_takeNumber 2 = .ok (.putfield 76, 3) := by decide +kernel
theorem dX9_takeNumber_5 : decode cX9_takeNumber 5 = .ok (.aload_n 0, 1) := by decide +kernel
theorem dX9_takeNumber_6 : decode cX9_takeNumber 6 = .ok (.getfield 37, 3) := by decide +kernel
theorem dX9_takeNumber_9 : decode cX9_takeNumber 9 = .ok (.aload_n 0, 1) := by decide +kernel
theorem dX9_takeNumber_10 : decode cX9_takeNumber 10 = .ok (.getfield 33, 3) := by decide +kernel
theorem dX9_takeNumber_13 : decode cX9_takeNumber 13 = .ok (.if_icmp .ge 55, 3) := by decide +kernel
theorem dX9_takeNumber_16 : decode cX9_takeNumber 16 = .ok (.aload_n 0, 1) := by decide +kernel
theorem dX9_takeNumber_17 : decode cX9_takeNumber 17 = .ok (.getfield 15, 3) := by decide +kernel
theorem dX9_takeNumber_20 : decode cX9_takeNumber 20 = .ok (.aload_n 0, 1) := by decide +kernel
theorem dX9_takeNumber_21 : decode cX9_takeNumber 21 = .ok (.getfield 37, 3) := by decide +kernel
theorem dX9_takeNumber_24 : decode cX9_takeNumber 24 = .ok (.caload, 1) := by decide +kernel
theorem dX9_takeNumber_25 : decode cX9_takeNumber 25 = .ok (.invokestatic 63, 3) := by decide +kernel
theorem dX9_takeNumber_28 : decode cX9_takeNumber 28 = .ok (.ifCond .eq 40, 3) := by decide +kernel
theorem dX9_takeNumber_31 : decode cX9_takeNumber 31 = .ok (.aload_n 0, 1) := by decide +kernel
theorem dX9_takeNumber_32 : decode cX9_takeNumber 32 = .ok (.aload_n 0, 1) := by decide +kernel
theorem dX9_takeNumber_33 : decode cX9_takeNumber 33 = .ok (.getfield 76, 3) := by decide +kernel
theorem dX9_takeNumber_36 : decode cX9_takeNumber 36 = .ok (.bipush 10, 2) := by decide +kernel
theorem dX9_takeNumber_38 : decode cX9_takeNumber 38 = .ok (.imul, 1) := by decide +kernel
theorem dX9_takeNumber_39 : decode cX9_takeNumber 39 = .ok (.aload_n 0, 1) := by decide +kernel
theorem dX9_takeNumber_40 : decode cX9_takeNumber 40 = .ok (.getfield 15, 3) := by decide +kernel
theorem dX9_takeNumber_43 : decode cX9_takeNumber 43 = .ok (.aload_n 0, 1) := by decide +kernel
theorem dX9_takeNumber_44 : decode cX9_takeNumber 44 = .ok (.getfield 37, 3) := by decide +kernel
theorem dX9_takeNumber_47 : decode cX9_takeNumber 47 = .ok (.caload, 1) := by decide +kernel
theorem dX9_takeNumber_48 : decode cX9_takeNumber 48 = .ok (.bipush 48, 2) := by decide +kernel
theorem dX9_takeNumber_50 : decode cX9_takeNumber 50 = .ok (.isub, 1) := by decide +kernel
theorem dX9_takeNumber_51 : decode cX9_takeNumber 51 = .ok (.iadd, 1) := by decide +kernel
theorem dX9_takeNumber_52 : decode cX9_takeNumber 52 = .ok (.putfield 76, 3) := by decide +kernel
theorem dX9_takeNumber_55 : decode cX9_takeNumber 55 = .ok (.aload_n 0, 1) := by decide +kernel
theorem dX9_takeNumber_56 : decode cX9_takeNumber 56 = .ok (.dup, 1) := by decide +kernel
theorem dX9_takeNumber_57 : decode cX9_takeNumber 57 = .ok (.getfield 37, 3) := by decide +kernel
theorem dX9_takeNumber_60 : decode cX9_takeNumber 60 = .ok (.iconst 1, 1) := by decide +kernel
theorem dX9_takeNumber_61 : decode cX9_takeNumber 61 = .ok (.iadd, 1) := by decide +kernel
theorem dX9_takeNumber_62 : decode cX9_takeNumber 62 = .ok (.putfield 37, 3) := by decide +kernel
theorem dX9_takeNumber_65 : decode cX9_takeNumber 65 = .ok (.goto (-60), 3) := by decide +kernel
theorem dX9_takeNumber_68 : decode cX9_takeNumber 68 = .ok (.aload_n 0, 1) := by decide +kernel
theorem dX9_takeNumber_69 : decode cX9_takeNumber 69 = .ok (.aload_n 0, 1) := by decide +kernel
theorem dX9_takeNumber_70 : decode cX9_takeNumber 70 = .ok (.getfield 37, 3) := by decide +kernel
theorem dX9_takeNumber_73 : decode cX9_takeNumber 73 = .ok (.aload_n 0, 1) := by decide +kernel
theorem dX9_takeNumber_74 : decode cX9_takeNumber 74 = .ok (.getfield 43, 3) := by decide +kernel
theorem dX9_takeNumber_77 : decode cX9_takeNumber 77 = .ok (.isub, 1) := by decide +kernel
theorem dX9_takeNumber_78 : decode cX9_takeNumber 78 = .ok (.iconst 4, 1) := by decide +kernel
theorem dX9_takeNumber_79 : decode cX9_takeNumber 79 = .ok (.if_icmp .le 7, 3) := by decide +kernel
theorem dX9_takeNumber_82 : decode cX9_takeNumber 82 = .ok (.iconst 4, 1) := by decide +kernel
theorem dX9_takeNumber_83 : decode cX9_takeNumber 83 = .ok (.goto 4, 3) := by decide +kernel
theorem dX9_takeNumber_86 : decode cX9_takeNumber 86 = .ok (.iconst 2, 1) := by decide +kernel
theorem dX9_takeNumber_87 : decode cX9_takeNumber 87 = .ok (.putfield 53, 3) := by decide +kernel
theorem dX9_takeNumber_90 : decode cX9_takeNumber 90 = .ok (.return_, 1) := by decide +kernel
theorem dX9_takeSign_0 : decode cX9_takeSign 0 = .ok (.aload_n 0, 1) := by decide +kernel
theorem dX9_takeSign_1 : decode cX9_takeSign 1 = .ok (.getfield 37, 3) := by decide +kernel
theorem dX9_takeSign_4 : decode cX9_takeSign 4 = .ok (.aload_n 0, 1) := by decide +kernel
theorem dX9_takeSign_5 : decode cX9_takeSign 5 = .ok (.getfield 33, 3) := by decide +kernel
theorem dX9_takeSign_8 : decode cX9_takeSign 8 = .ok (.if_icmp .ge 26, 3) := by decide +kernel
theorem dX9_takeSign_11 : decode cX9_takeSign 11 = .ok (.aload_n 0, 1) := by decide +kernel
theorem dX9_takeSign_12 : decode cX9_takeSign 12 = .ok (.aload_n 0, 1) := by decide +kernel
theorem dX9_takeSign_13 : decode cX9_takeSign 13 = .ok (.getfield 15, 3) := by decide +kernel
theorem dX9_takeSign_16 : decode cX9_takeSign 16 = .ok (.aload_n 0, 1) := by decide +kernel
theorem dX9_takeSign_17 : decode cX9_takeSign 17 = .ok (.getfield 37, 3) := by decide +kernel
theorem dX9_takeSign_20 : decode cX9_takeSign 20 = .ok (.caload, 1) := by decide +kernel
theorem dX9_takeSign_21 : decode cX9_takeSign 21 = .ok (.putfield 46, 3) := by decide +kernel
theorem dX9_takeSign_24 : decode cX9_takeSign 24 = .ok (.aload_n 0, 1) := by decide +kernel
theorem dX9_takeSign_25 : decode cX9_takeSign 25 = .ok (.dup, 1) := by decide +kernel
theorem dX9_takeSign_26 : decode cX9_takeSign 26 = .ok (.getfield 37, 3) := by decide +kernel
theorem dX9_takeSign_29 : decode cX9_takeSign 29 = .ok (.iconst 1, 1) := by decide +kernel
theorem dX9_takeSign_30 : decode cX9_takeSign 30 = .ok (.iadd, 1) := by decide +kernel
theorem dX9_takeSign_31 : decode cX9_takeSign 31 = .ok (.putfield 37, 3) := by decide +kernel
theorem dX9_takeSign_34 : decode cX9_takeSign 34 = .ok (.aload_n 0, 1) := by decide +kernel
theorem dX9_takeSign_35 : decode cX9_takeSign 35 = .ok (.getfield 46, 3) := by decide +kernel
theorem dX9_takeSign_38 : decode cX9_takeSign 38 = .ok (.tableswitch 110 40 61 #[102, 102, 102, 102, 110, 102, 110, 110, 110, 110, 110, 110, 110, 110, 110, 110, 110, 110, 110, 102, 102, 102], 102) := by decide +kernel
theorem dX9_takeSign_140 : decode cX9_takeSign 140 = .ok (.aload_n 0, 1) := by decide +kernel
theorem dX9_takeSign_141 : decode cX9_takeSign 141 = .ok (.iconst 3, 1) := by decide +kernel
theorem dX9_takeSign_142 : decode cX9_takeSign 142 = .ok (.putfield 53, 3) := by decide +kernel
theorem dX9_takeSign_145 : decode cX9_takeSign 145 = .ok (.goto 8, 3) := by decide +kernel
theorem dX9_takeSign_148 : decode cX9_takeSign 148 = .ok (.aload_n 0, 1) := by decide +kernel
theorem dX9_takeSign_149 : decode cX9_takeSign 149 = .ok (.iconst 4, 1) := by decide +kernel
theorem dX9_takeSign_150 : decode cX9_takeSign 150 = .ok (.putfield 53, 3) := by decide +kernel
theorem dX9_takeSign_153 : decode cX9_takeSign 153 = .ok (.return_, 1) := by decide +kernel
theorem dX9_isSign_0 : decode cX9_isSign 0 = .ok (.aload_n 0, 1) := by decide +kernel
theorem dX9_isSign_1 : decode cX9_isSign 1 = .ok (.getfield 53, 3) := by decide +kernel
theorem dX9_isSign_4 : decode cX9_isSign 4 = .ok (.iconst 3, 1) := by decide +kernel
theorem dX9_isSign_5 : decode cX9_isSign 5 = .ok (.if_icmp .ne 15, 3) := by decide +kernel
theorem dX9_isSign_8 : decode cX9_isSign 8 = .ok (.aload_n 0, 1) := by decide +kernel
theorem dX9_isSign_9 : decode cX9_isSign 9 = .ok (.getfield 46, 3) := by decide +kernel
theorem dX9_isSign_12 : decode cX9_isSign 12 = .ok (.iload_n 1, 1) := by decide +kernel
theorem dX9_isSign_13 : decode cX9_isSign 13 = .ok (.if_icmp .ne 7, 3) := by decide +kernel
theorem dX9_isSign_16 : decode cX9_isSign 16 = .ok (.iconst 1, 1) := by decide +kernel
theorem dX9_isSign_17 : decode cX9_isSign 17 = .ok (.goto 4, 3) := by decide +kernel
theorem dX9_isSign_20 : decode cX9_isSign 20 = .ok (.iconst 0, 1) := by decide +kernel
theorem dX9_isSign_21 : decode cX9_isSign 21 = .ok (.ireturn, 1) := by decide +kernel
theorem dX9_isLetter_0 : decode cX9_isLetter 0 = .ok (.iload_n 0, 1) := by decide +kernel
theorem dX9_isLetter_1 : decode cX9_isLetter 1 = .ok (.bipush 97, 2) := by decide +kernel
theorem dX9_isLetter_3 : decode cX9_isLetter 3 = .ok (.if_icmp .lt 13, 3) := by decide +kernel
theorem dX9_isLetter_6 : decode cX9_isLetter 6 = .ok (.iload_n 0, 1) := by decide +kernel
theorem dX9_isLetter_7 : decode cX9_isLetter 7 = .ok (.bipush 122, 2) := by decide +kernel
theorem dX9_isLetter_9 : decode cX9_isLetter 9 = .ok (.if_icmp .gt 7, 3) := by decide +kernel
theorem dX9_isLetter_12 : decode cX9_isLetter 12 = .ok (.iconst 1, 1) := by decide +kernel
theorem dX9_isLetter_13 : decode cX9_isLetter 13 = .ok (.goto 4, 3) := by decide +kernel
theorem dX9_isLetter_16 : decode cX9_isLetter 16 = .ok (.iconst 0, 1) := by decide +kernel
theorem dX9_isLetter_17 : decode cX9_isLetter 17 = .ok (.ireturn, 1) := by decide +kernel
theorem dX9_isDigit_0 : decode cX9_isDigit 0 = .ok (.iload_n 0, 1) := by decide +kernel
theorem dX9_isDigit_1 : decode cX9_isDigit 1 = .ok (.bipush 48, 2) := by decide +kernel
theorem dX9_isDigit_3 : decode cX9_isDigit 3 = .ok (.if_icmp .lt 13, 3) := by decide +kernel
theorem dX9_isDigit_6 : decode cX9_isDigit 6 = .ok (.iload_n 0, 1) := by decide +kernel
theorem dX9_isDigit_7 : decode cX9_isDigit 7 = .ok (.bipush 57, 2) := by decide +kernel
theorem dX9_isDigit_9 : decode cX9_isDigit 9 = .ok (.if_icmp .gt 7, 3) := by decide +kernel
theorem dX9_isDigit_12 : decode cX9_isDigit 12 = .ok (.iconst 1, 1) := by decide +kernel
theorem dX9_isDigit_13 : decode cX9_isDigit 13 = .ok (.goto 4, 3) := by decide +kernel
theorem dX9_isDigit_16 : decode cX9_isDigit 16 = .ok (.iconst 0, 1) := by decide +kernel
theorem dX9_isDigit_17 : decode cX9_isDigit 17 = .ok (.ireturn, 1) := by decide +kernel
theorem dX10_init_0 : decode cX10_init 0 = .ok (.aload_n 0, 1) := by decide +kernel
theorem dX10_init_1 : decode cX10_init 1 = .ok (.invokespecial 3, 3) := by decide +kernel
theorem dX10_init_4 : decode cX10_init 4 = .ok (.aload_n 0, 1) := by decide +kernel
theorem dX10_init_5 : decode cX10_init 5 = .ok (.bipush 6, 2) := by decide +kernel
theorem dX10_init_7 : decode cX10_init 7 = .ok (.newarray .int, 2) := by decide +kernel
theorem dX10_init_9 : decode cX10_init 9 = .ok (.putfield 9, 3) := by decide +kernel
theorem dX10_init_12 : decode cX10_init 12 = .ok (.return_, 1) := by decide +kernel
theorem dX10_begin_0 : decode cX10_begin 0 = .ok (.aload_n 0, 1) := by decide +kernel
theorem dX10_begin_1 : decode cX10_begin 1 = .ok (.iload_n 1, 1) := by decide +kernel
theorem dX10_begin_2 : decode cX10_begin 2 = .ok (.putfield 15, 3) := by decide +kernel
theorem dX10_begin_5 : decode cX10_begin 5 = .ok (.iconst 0, 1) := by decide +kernel
theorem dX10_begin_6 : decode cX10_begin 6 = .ok (.istore_n 2, 1) := by decide +kernel
theorem dX10_begin_7 : decode cX10_begin 7 = .ok (.iload_n 2, 1) := by decide +kernel
theorem dX10_begin_8 : decode cX10_begin 8 = .ok (.bipush 6, 2) := by decide +kernel
theorem dX10_begin_10 : decode cX10_begin 10 = .ok (.if_icmp .ge 16, 3) := by decide +kernel
theorem dX10_begin_13 : decode cX10_begin 13 = .ok (.aload_n 0, 1) := by decide +kernel
theorem dX10_begin_14 : decode cX10_begin 14 = .ok (.getfield 9, 3) := by decide +kernel
theorem dX10_begin_17 : decode cX10_begin 17 = .ok (.iload_n 2, 1) := by decide +kernel
theorem dX10_begin_18 : decode cX10_begin 18 = .ok (.iconst 0, 1) := by decide +kernel
theorem dX10_begin_19 : decode cX10_begin 19 = .ok (.iastore, 1) := by decide +kernel
theorem dX10_begin_20 : decode cX10_begin 20 = .ok (.iinc 2 1, 3) := by decide +kernel
theorem dX10_begin_23 : decode cX10_begin 23 = .ok (.goto (-16), 3) := by decide +kernel
theorem dX10_begin_26 : decode cX10_begin 26 = .ok (.aload_n 0, 1) := by decide +kernel
theorem dX10_begin_27 : decode cX10_begin 27 = .ok (.iconst 0, 1) := by decide +kernel
theorem dX10_begin_28 : decode cX10_begin 28 = .ok (.putfield 19, 3) := by decide +kernel
theorem dX10_begin_31 : decode cX10_begin 31 = .ok (.aload_n 0, 1) := by decide +kernel
theorem dX10_begin_32 : decode cX10_begin 32 = .ok (.iconst 0, 1) := by decide +kernel
theorem dX10_begin_33 : decode cX10_begin 33 = .ok (.putfield 23, 3) := by decide +kernel
theorem dX10_begin_36 : decode cX10_begin 36 = .ok (.aload_n 0, 1) := by decide +kernel
theorem dX10_begin_37 : decode cX10_begin 37 = .ok (.iconst 0, 1) := by decide +kernel
theorem dX10_begin_38 : decode cX10_begin 38 = .ok (.putfield 26, 3) := by decide +kernel
theorem dX10_begin_41 : decode cX10_begin 41 = .ok (.return_, 1) := by decide +kernel
theorem dX10_copy_0 : decode cX10_copy 0 = .ok (.aload_n 0, 1) := by decide +kernel
theorem dX10_copy_1 : decode cX10_copy 1 = .ok (.aload_n 1, 1) := by decide +kernel
theorem dX10_copy_2 : decode cX10_copy 2 = .ok (.getfield 15, 3) := by decide +kernel
theorem dX10_copy_5 : decode cX10_copy 5 = .ok (.putfield 15, 3) := by decide +kernel
theorem dX10_copy_8 : decode cX10_copy 8 = .ok (.iconst 0, 1) := by decide +kernel
theorem dX10_copy_9 : decode cX10_copy 9 = .ok (.istore_n 2, 1) := by decide +kernel
theorem dX10_copy_10 : decode cX10_copy 10 = .ok (.iload_n 2, 1) := by decide +kernel
theorem dX10_copy_11 : decode cX10_copy 11 = .ok (.bipush 6, 2) := by decide +kernel
theorem dX10_copy_13 : decode cX10_copy 13 = .ok (.if_icmp .ge 21, 3) := by decide +kernel
theorem dX10_copy_16 : decode cX10_copy 16 = .ok (.aload_n 0, 1) := by decide +kernel
theorem dX10_copy_17 : decode cX10_copy 17 = .ok (.getfield 9, 3) := by decide +kernel
theorem dX10_copy_20 : decode cX10_copy 20 = .ok (.iload_n 2, 1) := by decide +kernel
theorem dX10_copy_21 : decode cX10_copy 21 = .ok (.aload_n 1, 1) := by decide +kernel
theorem dX10_copy_22 : decode cX10_copy 22 = .ok (.getfield 9, 3) := by decide +kernel
theorem dX10_copy_25 : decode cX10_copy 25 = .ok (.iload_n 2, 1) := by decide +kernel
theorem dX10_copy_26 : decode cX10_copy 26 = .ok (.iaload, 1) := by decide +kernel
theorem dX10_copy_27 : decode cX10_copy 27 = .ok (.iastore, 1) := by decide +kernel
theorem dX10_copy_28 : decode cX10_copy 28 = .ok (.iinc 2 1, 3) := by decide +kernel
theorem dX10_copy_31 : decode cX10_copy 31 = .ok (.goto (-21), 3) := by decide +kernel
theorem dX10_copy_34 : decode cX10_copy 34 = .ok (.aload_n 0, 1) := by decide +kernel
theorem dX10_copy_35 : decode cX10_copy 35 = .ok (.aload_n 1, 1) := by decide +kernel
theorem dX10_copy_36 : decode cX10_copy 36 = .ok (.getfield 19, 3) := by decide +kernel
theorem dX10_copy_39 : decode cX10_copy 39 = .ok (.putfield 19, 3) := by decide +kernel
theorem dX10_copy_42 : decode cX10_copy 42 = .ok (.aload_n 0, 1) := by decide +kernel
theorem dX10_copy_43 : decode cX10_copy 43 = .ok (.aload_n 1, 1) := by decide +kernel
theorem dX10_copy_44 : decode cX10_copy 44 = .ok (.getfield 23, 3) := by decide +kernel
theorem dX10_copy_47 : decode cX10_copy 47 = .ok (.putfield 23, 3) := by decide +kernel
theorem dX10_copy_50 : decode cX10_copy 50 = .ok (.aload_n 0, 1) := by decide +kernel
theorem dX10_copy_51 : decode cX10_copy 51 = .ok (.aload_n 1, 1) := by decide +kernel
theorem dX10_copy_52 : decode cX10_copy 52 = .ok (.getfield 26, 3) := by decide +kernel
theorem dX10_copy_55 : decode cX10_copy 55 = .ok (.putfield 26, 3) := by decide +kernel
theorem dX10_copy_58 : decode cX10_copy 58 = .ok (.return_, 1) := by decide +kernel
theorem dX10_swapPlace_0 : decode cX10_swapPlace 0 = .ok (.aload_n 0, 1) := by decide +kernel
theorem dX10_swapPlace_1 : decode cX10_swapPlace 1 = .ok (.getfield 19, 3) := by decide +kernel
theorem dX10_swapPlace_4 : decode cX10_swapPlace 4 = .ok (.ifCond .eq 14, 3) := by decide +kernel
theorem dX10_swapPlace_7 : decode cX10_swapPlace 7 = .ok (.aload_n 1, 1) := by decide +kernel
theorem dX10_swapPlace_8 : decode cX10_swapPlace 8 = .ok (.getfield 29, 3) := by decide +kernel
theorem dX10_swapPlace_11 : decode cX10_swapPlace 11 = .ok (.iconst 1, 1) := by decide +kernel
theorem dX10_swapPlace_12 : decode cX10_swapPlace 12 = .ok (.isub, 1) := by decide +kernel
theorem dX10_swapPlace_13 : decode cX10_swapPlace 13 = .ok (.iload_n 2, 1) := by decide +kernel
theorem dX10_swapPlace_14 : decode cX10_swapPlace 14 = .ok (.isub, 1) := by decide +kernel
theorem dX10_swapPlace_15 : decode cX10_swapPlace 15 = .ok (.goto 4, 3) := by decide +kernel
theorem dX10_swapPlace_18 : decode cX10_swapPlace 18 = .ok (.iload_n 2, 1) := by decide +kernel
theorem dX10_swapPlace_19 : decode cX10_swapPlace 19 = .ok (.ireturn, 1) := by decide +kernel
theorem dX10_drawn_0 : decode cX10_drawn 0 = .ok (.iconst 0, 1) := by decide +kernel
theorem dX10_drawn_1 : decode cX10_drawn 1 = .ok (.istore_n 1, 1) := by decide +kernel
theorem dX10_drawn_2 : decode cX10_drawn 2 = .ok (.iconst 0, 1) := by decide +kernel
theorem dX10_drawn_3 : decode cX10_drawn 3 = .ok (.istore_n 2, 1) := by decide +kernel
theorem dX10_drawn_4 : decode cX10_drawn 4 = .ok (.iload_n 2, 1) := by decide +kernel
theorem dX10_drawn_5 : decode cX10_drawn 5 = .ok (.bipush 6, 2) := by decide +kernel
theorem dX10_drawn_7 : decode cX10_drawn 7 = .ok (.if_icmp .ge 18, 3) := by decide +kernel
theorem dX10_drawn_10 : decode cX10_drawn 10 = .ok (.iload_n 1, 1) := by decide +kernel
theorem dX10_drawn_11 : decode cX10_drawn 11 = .ok (.aload_n 0, 1) := by decide +kernel
theorem dX10_drawn_12 : decode cX10_drawn 12 = .ok (.getfield 9, 3) := by decide +kernel
theorem dX10_drawn_15 : decode cX10_drawn 15 = .ok (.iload_n 2, 1) := by decide +kernel
theorem dX10_drawn_16 : decode cX10_drawn 16 = .ok (.iaload, 1) := by decide +kernel
theorem dX10_drawn_17 : decode cX10_drawn 17 = .ok (.ior, 1) := by decide +kernel
theorem dX10_drawn_18 : decode cX10_drawn 18 = .ok (.istore_n 1, 1) := by decide +kernel
theorem dX10_drawn_19 : decode cX10_drawn 19 = .ok (.iinc 2 1, 3) := by decide +kernel
theorem dX10_drawn_22 : decode cX10_drawn 22 = .ok (.goto (-18), 3) := by decide +kernel
theorem dX10_drawn_25 : decode cX10_drawn 25 = .ok (.iload_n 1, 1) := by decide +kernel
theorem dX10_drawn_26 : decode cX10_drawn 26 = .ok (.ireturn, 1) := by decide +kernel
theorem dX10_holds_0 : decode cX10_holds 0 = .ok (.iload_n 1, 1) := by decide +kernel
theorem dX10_holds_1 : decode cX10_holds 1 = .ok (.ifCond .lt 27, 3) := by decide +kernel
theorem dX10_holds_4 : decode cX10_holds 4 = .ok (.iload_n 1, 1) := by decide +kernel
theorem dX10_holds_5 : decode cX10_holds 5 = .ok (.bipush 6, 2) := by decide +kernel
theorem dX10_holds_7 : decode cX10_holds 7 = .ok (.if_icmp .ge 21, 3) := by decide +kernel
theorem dX10_holds_10 : decode cX10_holds 10 = .ok (.aload_n 0, 1) := by decide +kernel
theorem dX10_holds_11 : decode cX10_holds 11 = .ok (.getfield 9, 3) := by decide +kernel
theorem dX10_holds_14 : decode cX10_holds 14 = .ok (.iload_n 1, 1) := by decide +kernel
theorem dX10_holds_15 : decode cX10_holds 15 = .ok (.iaload, 1) := by decide +kernel
theorem dX10_holds_16 : decode cX10_holds 16 = .ok (.iload_n 2, 1) := by decide +kernel
theorem dX10_holds_17 : decode cX10_holds 17 = .ok (.ishr, 1) := by decide +kernel
theorem dX10_holds_18 : decode cX10_holds 18 = .ok (.iconst 1, 1) := by decide +kernel
theorem dX10_holds_19 : decode cX10_holds 19 = .ok (.iand, 1) := by decide +kernel
theorem dX10_holds_20 : decode cX10_holds 20 = .ok (.iconst 1, 1) := by decide +kernel
theorem dX10_holds_21 : decode cX10_holds 21 = .ok (.if_icmp .ne 7, 3) := by decide +kernel
theorem dX10_holds_24 : decode cX10_holds 24 = .ok (.iconst 1, 1) := by decide +kernel
theorem dX10_holds_25 : decode cX10_holds 25 = .ok (.goto 4, 3) := by decide +kernel
theorem dX10_holds_28 : decode cX10_holds 28 = .ok (.iconst 0, 1) := by decide +kernel
theorem dX10_holds_29 : decode cX10_holds 29 = .ok (.ireturn, 1) := by decide +kernel
theorem dX10_holderOf_0 : decode cX10_holderOf 0 = .ok (.iconst 0, 1) := by decide +kernel
theorem dX10_holderOf_1 : decode cX10_holderOf 1 = .ok (.istore_n 2, 1) := by decide +kernel
theorem dX10_holderOf_2 : decode cX10_holderOf 2 = .ok (.iload_n 2, 1) := by decide +kernel
theorem dX10_holderOf_3 : decode cX10_holderOf 3 = .ok (.bipush 6, 2) := by decide +kernel
theorem dX10_holderOf_5 : decode cX10_holderOf 5 = .ok (.if_icmp .ge 20, 3) := by decide +kernel
theorem dX10_holderOf_8 : decode cX10_holderOf 8 = .ok (.aload_n 0, 1) := by decide +kernel
theorem dX10_holderOf_9 : decode cX10_holderOf 9 = .ok (.iload_n 2, 1) := by decide +kernel
theorem dX10_holderOf_10 : decode cX10_holderOf 10 = .ok (.iload_n 1, 1) := by decide +kernel
theorem dX10_holderOf_11 : decode cX10_holderOf 11 = .ok (.invokevirtual 34, 3) := by decide +kernel
theorem dX10_holderOf_14 : decode cX10_holderOf 14 = .ok (.ifCond .eq 5, 3) := by decide +kernel
theorem dX10_holderOf_17 : decode cX10_holderOf 17 = .ok (.iload_n 2, 1) := by decide +kernel
theorem dX10_holderOf_18 : decode cX10_holderOf 18 = .ok (.ireturn, 1) := by decide +kernel
theorem dX10_holderOf_19 : decode cX10_holderOf 19 = .ok (.iinc 2 1, 3) := by decide +kernel
theorem dX10_holderOf_22 : decode cX10_holderOf 22 = .ok (.goto (-20), 3) := by decide +kernel
theorem dX10_holderOf_25 : decode cX10_holderOf 25 = .ok (.iconst (-1), 1) := by decide +kernel
theorem dX10_holderOf_26 : decode cX10_holderOf 26 = .ok (.ireturn, 1) := by decide +kernel
theorem dX10_showAt_0 : decode cX10_showAt 0 = .ok (.iload_n 2, 1) := by decide +kernel
theorem dX10_showAt_1 : decode cX10_showAt 1 = .ok (.ifCond .lt 41, 3) := by decide +kernel
theorem dX10_showAt_4 : decode cX10_showAt 4 = .ok (.iload_n 2, 1) := by decide +kernel
theorem dX10_showAt_5 : decode cX10_showAt 5 = .ok (.bipush 6, 2) := by decide +kernel
theorem dX10_showAt_7 : decode cX10_showAt 7 = .ok (.if_icmp .ge 35, 3) := by decide +kernel
theorem dX10_showAt_10 : decode cX10_showAt 10 = .ok (.aload_n 1, 1) := by decide +kernel
theorem dX10_showAt_11 : decode cX10_showAt 11 = .ok (.iload_n 2, 1) := by decide +kernel
theorem dX10_showAt_12 : decode cX10_showAt 12 = .ok (.aload_n 0, 1) := by decide +kernel
theorem dX10_showAt_13 : decode cX10_showAt 13 = .ok (.getfield 15, 3) := by decide +kernel
theorem dX10_showAt_16 : decode cX10_showAt 16 = .ok (.invokevirtual 38, 3) := by decide +kernel
theorem dX10_showAt_19 : decode cX10_showAt 19 = .ok (.istore_n 3, 1) := by decide +kernel
theorem dX10_showAt_20 : decode cX10_showAt 20 = .ok (.aload_n 0, 1) := by decide +kernel
theorem dX10_showAt_21 : decode cX10_showAt 21 = .ok (.getfield 9, 3) := by decide +kernel
theorem dX10_showAt_24 : decode cX10_showAt 24 = .ok (.iload_n 2, 1) := by decide +kernel
theorem dX10_showAt_25 : decode cX10_showAt 25 = .ok (.dup2, 1) := by decide +kernel
theorem dX10_showAt_26 : decode cX10_showAt 26 = .ok (.iaload, 1) := by decide +kernel
theorem dX10_showAt_27 : decode cX10_showAt 27 = .ok (.iload_n 3, 1) := by decide +kernel
theorem dX10_showAt_28 : decode cX10_showAt 28 = .ok (.ior, 1) := by decide +kernel
theorem dX10_showAt_29 : decode cX10_showAt 29 = .ok (.iastore, 1) := by decide +kernel
theorem dX10_showAt_30 : decode cX10_showAt 30 = .ok (.aload_n 0, 1) := by decide +kernel
theorem dX10_showAt_31 : decode cX10_showAt 31 = .ok (.dup, 1) := by decide +kernel
theorem dX10_showAt_32 : decode cX10_showAt 32 = .ok (.getfield 15, 3) := by decide +kernel
theorem dX10_showAt_35 : decode cX10_showAt 35 = .ok (.iload_n 3, 1) := by decide +kernel
theorem dX10_showAt_36 : decode cX10_showAt 36 = .ok (.iconst (-1), 1) := by decide +kernel
theorem dX10_showAt_37 : decode cX10_showAt 37 = .ok (.ixor, 1) := by decide +kernel
theorem dX10_showAt_38 : decode cX10_showAt 38 = .ok (.iand, 1) := by decide +kernel
theorem dX10_showAt_39 : decode cX10_showAt 39 = .ok (.putfield 15, 3) := by decide +kernel
theorem dX10_showAt_42 : decode cX10_showAt 42 = .ok (.return_, 1) := by decide +kernel
theorem dX10_showNext_0 : decode cX10_showNext 0 = .ok (.aload_n 0, 1) := by decide +kernel
theorem dX10_showNext_1 : decode cX10_showNext 1 = .ok (.aload_n 1, 1) := by decide +kernel
theorem dX10_showNext_2 : decode cX10_showNext 2 = .ok (.aload_n 0, 1) := by decide +kernel
theorem dX10_showNext_3 : decode cX10_showNext 3 = .ok (.getfield 23, 3) := by decide +kernel
theorem dX10_showNext_6 : decode cX10_showNext 6 = .ok (.invokevirtual 42, 3) := by decide +kernel
theorem dX10_showNext_9 : decode cX10_showNext 9 = .ok (.aload_n 0, 1) := by decide +kernel
theorem dX10_showNext_10 : decode cX10_showNext 10 = .ok (.aload_n 1, 1) := by decide +kernel
theorem dX10_showNext_11 : decode cX10_showNext 11 = .ok (.aload_n 0, 1) := by decide +kernel
theorem dX10_showNext_12 : decode cX10_showNext 12 = .ok (.getfield 23, 3) := by decide +kernel
theorem dX10_showNext_15 : decode cX10_showNext 15 = .ok (.invokevirtual 46, 3) := by decide +kernel
theorem dX10_showNext_18 : decode cX10_showNext 18 = .ok (.iconst 1, 1) := by decide +kernel
theorem dX10_showNext_19 : decode cX10_showNext 19 = .ok (.iadd, 1) := by decide +kernel
theorem dX10_showNext_20 : decode cX10_showNext 20 = .ok (.istore_n 2, 1) := by decide +kernel
theorem dX10_showNext_21 : decode cX10_showNext 21 = .ok (.iload_n 2, 1) := by decide +kernel
theorem dX10_showNext_22 : decode cX10_showNext 22 = .ok (.aload_n 1, 1) := by decide +kernel
theorem dX10_showNext_23 : decode cX10_showNext 23 = .ok (.getfield 29, 3) := by decide +kernel
theorem dX10_showNext_26 : decode cX10_showNext 26 = .ok (.if_icmp .lt 15, 3) := by decide +kernel
theorem dX10_showNext_29 : decode cX10_showNext 29 = .ok (.iconst 0, 1) := by decide +kernel
theorem dX10_showNext_30 : decode cX10_showNext 30 = .ok (.istore_n 2, 1) := by decide +kernel
theorem dX10_showNext_31 : decode cX10_showNext 31 = .ok (.aload_n 0, 1) := by decide +kernel
theorem dX10_showNext_32 : decode cX10_showNext 32 = .ok (.dup, 1) := by decide +kernel
theorem dX10_showNext_33 : decode cX10_showNext 33 = .ok (.getfield 26, 3) := by decide +kernel
theorem dX10_showNext_36 : decode cX10_showNext 36 = .ok (.iconst 1, 1) := by decide +kernel
theorem dX10_showNext_37 : decode cX10_showNext 37 = .ok (.iadd, 1) := by decide +kernel
theorem dX10_showNext_38 : decode cX10_showNext 38 = .ok (.putfield 26, 3) := by decide +kernel
theorem dX10_showNext_41 : decode cX10_showNext 41 = .ok (.aload_n 0, 1) := by decide +kernel
theorem dX10_showNext_42 : decode cX10_showNext 42 = .ok (.aload_n 0, 1) := by decide +kernel
theorem dX10_showNext_43 : decode cX10_showNext 43 = .ok (.aload_n 1, 1) := by decide +kernel
theorem dX10_showNext_44 : decode cX10_showNext 44 = .ok (.iload_n 2, 1) := by decide +kernel
theorem dX10_showNext_45 : decode cX10_showNext 45 = .ok (.invokevirtual 46, 3) := by decide +kernel
theorem dX10_showNext_48 : decode cX10_showNext 48 = .ok (.putfield 23, 3) := by decide +kernel
theorem dX10_showNext_51 : decode cX10_showNext 51 = .ok (.aload_n 0, 1) := by decide +kernel
theorem dX10_showNext_52 : decode cX10_showNext 52 = .ok (.getfield 15, 3) := by decide +kernel
theorem dX10_showNext_55 : decode cX10_showNext 55 = .ok (.ireturn, 1) := by decide +kernel
theorem dX10_giveBack_0 : decode cX10_giveBack 0 = .ok (.aload_n 0, 1) := by decide +kernel
theorem dX10_giveBack_1 : decode cX10_giveBack 1 = .ok (.iload_n 1, 1) := by decide +kernel
theorem dX10_giveBack_2 : decode cX10_giveBack 2 = .ok (.iload_n 2, 1) := by decide +kernel
theorem dX10_giveBack_3 : decode cX10_giveBack 3 = .ok (.invokevirtual 34, 3) := by decide +kernel
theorem dX10_giveBack_6 : decode cX10_giveBack 6 = .ok (.ifCond .eq 29, 3) := by decide +kernel
theorem dX10_giveBack_9 : decode cX10_giveBack 9 = .ok (.aload_n 0, 1) := by decide +kernel
theorem dX10_giveBack_10 : decode cX10_giveBack 10 = .ok (.getfield 9, 3) := by decide +kernel
theorem dX10_giveBack_13 : decode cX10_giveBack 13 = .ok (.iload_n 1, 1) := by decide +kernel
theorem dX10_giveBack_14 : decode cX10_giveBack 14 = .ok (.dup2, 1) := by decide +kernel
theorem dX10_giveBack_15 : decode cX10_giveBack 15 = .ok (.iaload, 1) := by decide +kernel
theorem dX10_giveBack_16 : decode cX10_giveBack 16 = .ok (.iconst 1, 1) := by decide +kernel
theorem dX10_giveBack_17 : decode cX10_giveBack 17 = .ok (.iload_n 2, 1) := by decide +kernel
theorem dX10_giveBack_18 : decode cX10_giveBack 18 = .ok (.ishl, 1) := by decide +kernel
theorem dX10_giveBack_19 : decode cX10_giveBack 19 = .ok (.iconst (-1), 1) := by decide +kernel
theorem dX10_giveBack_20 : decode cX10_giveBack 20 = .ok (.ixor, 1) := by decide +kernel
theorem dX10_giveBack_21 : decode cX10_giveBack 21 = .ok (.iand, 1) := by decide +kernel
theorem dX10_giveBack_22 : decode cX10_giveBack 22 = .ok (.iastore, 1) := by decide +kernel
theorem dX10_giveBack_23 : decode cX10_giveBack 23 = .ok (.aload_n 0, 1) := by decide +kernel
theorem dX10_giveBack_24 : decode cX10_giveBack 24 = .ok (.dup, 1) := by decide +kernel
theorem dX10_giveBack_25 : decode cX10_giveBack 25 = .ok (.getfield 15, 3) := by decide +kernel
theorem dX10_giveBack_28 : decode cX10_giveBack 28 = .ok (.iconst 1, 1) := by decide +kernel
theorem dX10_giveBack_29 : decode cX10_giveBack 29 = .ok (.iload_n 2, 1) := by decide +kernel
theorem dX10_giveBack_30 : decode cX10_giveBack 30 = .ok (.ishl, 1) := by decide +kernel
theorem dX10_giveBack_31 : decode cX10_giveBack 31 = .ok (.ior, 1) := by decide +kernel
theorem dX10_giveBack_32 : decode cX10_giveBack 32 = .ok (.putfield 15, 3) := by decide +kernel
theorem dX10_giveBack_35 : decode cX10_giveBack 35 = .ok (.return_, 1) := by decide +kernel
theorem dX10_handOver_0 : decode cX10_handOver 0 = .ok (.aload_n 0, 1) := by decide +kernel
theorem dX10_handOver_1 : decode cX10_handOver 1 = .ok (.iload_n 1, 1) := by decide +kernel
theorem dX10_handOver_2 : decode cX10_handOver 2 = .ok (.iload_n 3, 1) := by decide +kernel
theorem dX10_handOver_3 : decode cX10_handOver 3 = .ok (.invokevirtual 34, 3) := by decide +kernel
theorem dX10_handOver_6 : decode cX10_handOver 6 = .ok (.ifCond .eq 39, 3) := by decide +kernel
theorem dX10_handOver_9 : decode cX10_handOver 9 = .ok (.iload_n 2, 1) := by decide +kernel
theorem dX10_handOver_10 : decode cX10_handOver 10 = .ok (.ifCond .lt 35, 3) := by decide +kernel
theorem dX10_handOver_13 : decode cX10_handOver 13 = .ok (.iload_n 2, 1) := by decide +kernel
theorem dX10_handOver_14 : decode cX10_handOver 14 = .ok (.bipush 6, 2) := by decide +kernel
theorem dX10_handOver_16 : decode cX10_handOver 16 = .ok (.if_icmp .ge 29, 3) := by decide +kernel
theorem dX10_handOver_19 : decode cX10_handOver 19 = .ok (.aload_n 0, 1) := by decide +kernel
theorem dX10_handOver_20 : decode cX10_handOver 20 = .ok (.getfield 9, 3) := by decide +kernel
theorem dX10_handOver_23 : decode cX10_handOver 23 = .ok (.iload_n 1, 1) := by decide +kernel
theorem dX10_handOver_24 : decode cX10_handOver 24 = .ok (.dup2, 1) := by decide +kernel
theorem dX10_handOver_25 : decode cX10_handOver 25 = .ok (.iaload, 1) := by decide +kernel
theorem dX10_handOver_26 : decode cX10_handOver 26 = .ok (.iconst 1, 1) := by decide +kernel
theorem dX10_handOver_27 : decode cX10_handOver 27 = .ok (.iload_n 3, 1) := by decide +kernel
theorem dX10_handOver_28 : decode cX10_handOver 28 = .ok (.ishl, 1) := by decide +kernel
theorem dX10_handOver_29 : decode cX10_handOver 29 = .ok (.iconst (-1), 1) := by decide +kernel
theorem dX10_handOver_30 : decode cX10_handOver 30 = .ok (.ixor, 1) := by decide +kernel
theorem dX10_handOver_31 : decode cX10_handOver 31 = .ok (.iand, 1) := by decide +kernel
theorem dX10_handOver_32 : decode cX10_handOver 32 = .ok (.iastore, 1) := by decide +kernel
theorem dX10_handOver_33 : decode cX10_handOver 33 = .ok (.aload_n 0, 1) := by decide +kernel
theorem dX10_handOver_34 : decode cX10_handOver 34 = .ok (.getfield 9, 3) := by decide +kernel
theorem dX10_handOver_37 : decode cX10_handOver 37 = .ok (.iload_n 2, 1) := by decide +kernel
theorem dX10_handOver_38 : decode cX10_handOver 38 = .ok (.dup2, 1) := by decide +kernel
theorem dX10_handOver_39 : decode cX10_handOver 39 = .ok (.iaload, 1) := by decide +kernel
theorem dX10_handOver_40 : decode cX10_handOver 40 = .ok (.iconst 1, 1) := by decide +kernel
theorem dX10_handOver_41 : decode cX10_handOver 41 = .ok (.iload_n 3, 1) := by decide +kernel
theorem dX10_handOver_42 : decode cX10_handOver 42 = .ok (.ishl, 1) := by decide +kernel
theorem dX10_handOver_43 : decode cX10_handOver 43 = .ok (.ior, 1) := by decide +kernel
theorem dX10_handOver_44 : decode cX10_handOver 44 = .ok (.iastore, 1) := by decide +kernel
theorem dX10_handOver_45 : decode cX10_handOver 45 = .ok (.return_, 1) := by decide +kernel
theorem dX10_turnRound_0 : decode cX10_turnRound 0 = .ok (.aload_n 0, 1) := by decide +kernel
theorem dX10_turnRound_1 : decode cX10_turnRound 1 = .ok (.aload_n 0, 1) := by decide +kernel
theorem dX10_turnRound_2 : decode cX10_turnRound 2 = .ok (.getfield 19, 3) := by decide +kernel
theorem dX10_turnRound_5 : decode cX10_turnRound 5 = .ok (.ifCond .ne 7, 3) := by decide +kernel
theorem dX10_turnRound_8 : decode cX10_turnRound 8 = .ok (.iconst 1, 1) := by decide +kernel
theorem dX10_turnRound_9 : decode cX10_turnRound 9 = .ok (.goto 4, 3) := by decide +kernel
theorem dX10_turnRound_12 : decode cX10_turnRound 12 = .ok (.iconst 0, 1) := by decide +kernel
theorem dX10_turnRound_13 : decode cX10_turnRound 13 = .ok (.putfield 19, 3) := by decide +kernel
theorem dX10_turnRound_16 : decode cX10_turnRound 16 = .ok (.return_, 1) := by decide +kernel
theorem dJ6_bitCount_0f7a4_0 : decode cJ6_bitCount_0f7a4 0 = .ok (.iload_n 0, 1) := by decide +kernel
theorem dJ6_bitCount_0f7a4_1 : decode cJ6_bitCount_0f7a4 1 = .ok (.iload_n 0, 1) := by decide +kernel
theorem dJ6_bitCount_0f7a4_2 : decode cJ6_bitCount_0f7a4 2 = .ok (.iconst 1, 1) := by decide +kernel
theorem dJ6_bitCount_0f7a4_3 : decode cJ6_bitCount_0f7a4 3 = .ok (.iushr, 1) := by decide +kernel
theorem dJ6_bitCount_0f7a4_4 : decode cJ6_bitCount_0f7a4 4 = .ok (.ldc_w 265, 3) := by decide +kernel
theorem dJ6_bitCount_0f7a4_7 : decode cJ6_bitCount_0f7a4 7 = .ok (.iand, 1) := by decide +kernel
theorem dJ6_bitCount_0f7a4_8 : decode cJ6_bitCount_0f7a4 8 = .ok (.isub, 1) := by decide +kernel
theorem dJ6_bitCount_0f7a4_9 : decode cJ6_bitCount_0f7a4 9 = .ok (.istore_n 0, 1) := by decide +kernel
theorem dJ6_bitCount_0f7a4_10 : decode cJ6_bitCount_0f7a4 10 = .ok (.iload_n 0, 1) := by decide +kernel
theorem dJ6_bitCount_0f7a4_11 : decode cJ6_bitCount_0f7a4 11 = .ok (.ldc_w 266, 3) := by decide +kernel
theorem dJ6_bitCount_0f7a4_14 : decode cJ6_bitCount_0f7a4 14 = .ok (.iand, 1) := by decide +kernel
theorem dJ6_bitCount_0f7a4_15 : decode cJ6_bitCount_0f7a4 15 = .ok (.iload_n 0, 1) := by decide +kernel
theorem dJ6_bitCount_0f7a4_16 : decode cJ6_bitCount_0f7a4 16 = .ok (.iconst 2, 1) := by decide +kernel
theorem dJ6_bitCount_0f7a4_17 : decode cJ6_bitCount_0f7a4 17 = .ok (.iushr, 1) := by decide +kernel
theorem dJ6_bitCount_0f7a4_18 : decode cJ6_bitCount_0f7a4 18 = .ok (.ldc_w 266, 3) := by decide +kernel
theorem dJ6_bitCount_0f7a4_21 : decode cJ6_bitCount_0f7a4 21 = .ok (.iand, 1) := by decide +kernel
theorem dJ6_bitCount_0f7a4_22 : decode cJ6_bitCount_0f7a4 22 = .ok (.iadd, 1) := by decide +kernel
theorem dJ6_bitCount_0f7a4_23 : decode cJ6_bitCount_0f7a4 23 = .ok (.istore_n 0, 1) := by decide +kernel
theorem dJ6_bitCount_0f7a4_24 : decode cJ6_bitCount_0f7a4 24 = .ok (.iload_n 0, 1) := by decide +kernel
theorem dJ6_bitCount_0f7a4_25 : decode cJ6_bitCount_0f7a4 25 = .ok (.iload_n 0, 1) := by decide +kernel
theorem dJ6_bitCount_0f7a4_26 : decode cJ6_bitCount_0f7a4 26 = .ok (.iconst 4, 1) := by decide +kernel
theorem dJ6_bitCount_0f7a4_27 : decode cJ6_bitCount_0f7a4 27 = .ok (.iushr, 1) := by decide +kernel
theorem dJ6_bitCount_0f7a4_28 : decode cJ6_bitCount_0f7a4 28 = .ok (.iadd, 1) := by decide +kernel
theorem dJ6_bitCount_0f7a4_29 : decode cJ6_bitCount_0f7a4 29 = .ok (.ldc_w 267, 3) := by decide +kernel
theorem dJ6_bitCount_0f7a4_32 : decode cJ6_bitCount_0f7a4 32 = .ok (.iand, 1) := by decide +kernel
theorem dJ6_bitCount_0f7a4_33 : decode cJ6_bitCount_0f7a4 33 = .ok (.istore_n 0, 1) := by decide +kernel
theorem dJ6_bitCount_0f7a4_34 : decode cJ6_bitCount_0f7a4 34 = .ok (.iload_n 0, 1) := by decide +kernel
theorem dJ6_bitCount_0f7a4_35 : decode cJ6_bitCount_0f7a4 35 = .ok (.iload_n 0, 1) := by decide +kernel
theorem dJ6_bitCount_0f7a4_36 : decode cJ6_bitCount_0f7a4 36 = .ok (.bipush 8, 2) := by decide +kernel
theorem dJ6_bitCount_0f7a4_38 : decode cJ6_bitCount_0f7a4 38 = .ok (.iushr, 1) := by decide +kernel
theorem dJ6_bitCount_0f7a4_39 : decode cJ6_bitCount_0f7a4 39 = .ok (.iadd, 1) := by decide +kernel
theorem dJ6_bitCount_0f7a4_40 : decode cJ6_bitCount_0f7a4 40 = .ok (.istore_n 0, 1) := by decide +kernel
theorem dJ6_bitCount_0f7a4_41 : decode cJ6_bitCount_0f7a4 41 = .ok (.iload_n 0, 1) := by decide +kernel
theorem dJ6_bitCount_0f7a4_42 : decode cJ6_bitCount_0f7a4 42 = .ok (.iload_n 0, 1) := by decide +kernel
theorem dJ6_bitCount_0f7a4_43 : decode cJ6_bitCount_0f7a4 43 = .ok (.bipush 16, 2) := by decide +kernel
theorem dJ6_bitCount_0f7a4_45 : decode cJ6_bitCount_0f7a4 45 = .ok (.iushr, 1) := by decide +kernel
theorem dJ6_bitCount_0f7a4_46 : decode cJ6_bitCount_0f7a4 46 = .ok (.iadd, 1) := by decide +kernel
theorem dJ6_bitCount_0f7a4_47 : decode cJ6_bitCount_0f7a4 47 = .ok (.istore_n 0, 1) := by decide +kernel
theorem dJ6_bitCount_0f7a4_48 : decode cJ6_bitCount_0f7a4 48 = .ok (.iload_n 0, 1) := by decide +kernel
theorem dJ6_bitCount_0f7a4_49 : decode cJ6_bitCount_0f7a4 49 = .ok (.bipush 63, 2) := by decide +kernel
theorem dJ6_bitCount_0f7a4_51 : decode cJ6_bitCount_0f7a4 51 = .ok (.iand, 1) := by decide +kernel
theorem dJ6_bitCount_0f7a4_52 : decode cJ6_bitCount_0f7a4 52 = .ok (.ireturn, 1) := by decide +kernel
end
section
set_option maxRecDepth 8000 in
theorem kX0_clear_0 {g : GG} {d : Nat} {M : MM} {P : Option Value → MM → Prop} {a0 : Nat} {ba0_8 : Nat} {M1 : MM} {M2 : MM} {M3 : MM}
    (qM1 : M1 = wi M a0 0 0)
    (qM2 : M2 = wi M1 a0 5 0)
    (qM3 : M3 = wi M2 ba0_8 1 0)
    (h1 : ob M a0 0)
    (h2 : mr M a0 8 = some ba0_8)
    (h3 : ob M ba0_8 2)
    (k1 : P none M3) :
    E0 g YX0_clear d 0 [(0, .ref a0)] [] M P := by
  subst qM1 qM2 qM3
  refine x_aload_n dX0_clear_0 0 rfl ?_
  refine x_iconst (v := 0) dX0_clear_1 (by decide) ?_
  refine x_putI fdX0_41 rfl (Or.inl rfl) dX0_clear_2 h1.1 h1.2 rfl rfl ?_
  refine x_aload_n dX0_clear_5 0 rfl ?_
  refine x_iconst (v := 0) dX0_clear_6 (by decide) ?_
  refine x_putI fdX0_45 rfl (Or.inl rfl) dX0_clear_7 h1.1 h1.2 rfl rfl ?_
  refine x_aload_n dX0_clear_10 0 rfl ?_
  refine x_getR fdX0_34 rfl dX0_clear_11 h1.1 h1.2 h2 ?_
  refine x_iconst (v := 0) dX0_clear_14 (by decide) ?_
  refine x_putI fdX0_48 rfl (Or.inl rfl) dX0_clear_15 h3.1 h3.2 rfl rfl ?_
  exact x_vret rfl dX0_clear_18 (Nat.le_refl _) (Nat.le_refl _) (k1)
set_option maxRecDepth 8000 in
theorem kX0_addShot_0 {g : GG} {d : Nat} {M : MM} {P : Option Value → MM → Prop} {a0 : Nat} {j1 : Int64} {i3 : Int32} {i4 : Int32} {ba0_1 : Nat} {n_ba0_1 : Nat} {ba0_2 : Nat} {n_ba0_2 : Nat} {ba0_3 : Nat} {n_ba0_3 : Nat} {ba0_4 : Nat} {n_ba0_4 : Nat} {M1 : MM} {M2 : MM} {M3 : MM} {M4 : MM} {M5 : MM}
    (qM1 : M1 = wj M ba0_1 ((mi M a0 0) : Int32).toNatClampNeg j1)
    (qM2 : M2 = wi M1 ba0_2 ((mi M a0 0) : Int32).toNatClampNeg i3)
    (qM3 : M3 = wi M2 ba0_3 ((mi M2 a0 0) : Int32).toNatClampNeg i4)
    (qM4 : M4 = wi M3 ba0_4 ((mi M3 a0 0) : Int32).toNatClampNeg 0)
    (qM5 : M5 = wi M4 a0 0 ((mi M4 a0 0) + 1))
    (h1 : ob M a0 0)
    (h2 : mr M a0 1 = some ba0_1)
    (h3 : ar M ba0_1 2 n_ba0_1)
    (h4 : ¬ (10 ≤ (mi M a0 0)) → vp_in (mi M a0 0) n_ba0_1)
    (h5 : mr M a0 2 = some ba0_2)
    (h6 : ar M ba0_2 1 n_ba0_2)
    (h7 : ¬ (10 ≤ (mi M a0 0)) → vp_in (mi M a0 0) n_ba0_2)
    (h8 : mr M a0 3 = some ba0_3)
    (h9 : ar M ba0_3 1 n_ba0_3)
    (h10 : ¬ (10 ≤ (mi M a0 0)) → vp_in (mi M2 a0 0) n_ba0_3)
    (h11 : mr M a0 4 = some ba0_4)
    (h12 : ar M ba0_4 1 n_ba0_4)
    (h13 : ¬ (10 ≤ (mi M a0 0)) → vp_in (mi M3 a0 0) n_ba0_4)
    (k1 : 10 ≤ (mi M a0 0) → P none M)
    (k2 : ¬ (10 ≤ (mi M a0 0)) → P none M5) :
    E0 g YX0_addShot d 0 [(0, .ref a0), (1, .long j1), (3, .int i3), (4, .int i4)] [] M P := by
  subst qM1 qM2 qM3 qM4 qM5
  refine x_aload_n dX0_addShot_0 0 rfl ?_
  refine x_getI fdX0_41 rfl dX0_addShot_1 h1.1 h1.2 ?_
  refine x_bipush (v := 10) dX0_addShot_4 (by decide) ?_
  refine x_ic_ge 60 dX0_addShot_6 (by decide) (fun c1 => ?_) (fun c1 => ?_)
  · exact x_vret rfl dX0_addShot_60 (Nat.le_refl _) (Nat.le_refl _) (k1 c1)
  · refine x_aload_n dX0_addShot_9 0 rfl ?_
    refine x_getR fdX0_9 rfl dX0_addShot_10 h1.1 h1.2 h2 ?_
    refine x_aload_n dX0_addShot_13 0 rfl ?_
    refine x_getI fdX0_41 rfl dX0_addShot_14 h1.1 h1.2 ?_
    refine x_lload_n dX0_addShot_17 1 rfl ?_
    refine x_last dX0_addShot_18 h3.1 h3.2 (h4 c1) ?_
    refine x_aload_n dX0_addShot_19 0 rfl ?_
    refine x_getR fdX0_15 rfl dX0_addShot_20 h1.1 h1.2 h5 ?_
    refine x_aload_n dX0_addShot_23 0 rfl ?_
    refine x_getI fdX0_41 rfl dX0_addShot_24 h1.1 h1.2 ?_
    refine x_iload_n dX0_addShot_27 2 rfl ?_
    refine x_iast dX0_addShot_28 h6.1 h6.2 (h7 c1) ?_
    refine x_aload_n dX0_addShot_29 0 rfl ?_
    refine x_getR fdX0_19 rfl dX0_addShot_30 h1.1 h1.2 h8 ?_
    refine x_aload_n dX0_addShot_33 0 rfl ?_
    refine x_getI fdX0_41 rfl dX0_addShot_34 h1.1 h1.2 ?_
    refine x_iload dX0_addShot_37 3 rfl ?_
    refine x_iast dX0_addShot_39 h9.1 h9.2 (h10 c1) ?_
    refine x_aload_n dX0_addShot_40 0 rfl ?_
    refine x_getR fdX0_22 rfl dX0_addShot_41 h1.1 h1.2 h11 ?_
    refine x_aload_n dX0_addShot_44 0 rfl ?_
    refine x_getI fdX0_41 rfl dX0_addShot_45 h1.1 h1.2 ?_
    refine x_iconst (v := 0) dX0_addShot_48 (by decide) ?_
    refine x_iast dX0_addShot_49 h12.1 h12.2 (h13 c1) ?_
    refine x_aload_n dX0_addShot_50 0 rfl ?_
    refine x_dup dX0_addShot_51 rfl ?_
    refine x_getI fdX0_41 rfl dX0_addShot_52 h1.1 h1.2 ?_
    refine x_iconst (v := 1) dX0_addShot_55 (by decide) ?_
    refine x_iadd dX0_addShot_56 ?_
    refine x_putI fdX0_41 rfl (Or.inl rfl) dX0_addShot_57 h1.1 h1.2 rfl rfl ?_
    exact x_vret rfl dX0_addShot_60 (Nat.le_refl _) (Nat.le_refl _) (k2 c1)
set_option maxRecDepth 8000 in
theorem kX0_addNeed_0 {g : GG} {d : Nat} {M : MM} {P : Option Value → MM → Prop} {a0 : Nat} {i1 : Int32} {i2 : Int32}
    (h1 : ob M a0 0)
    (k1 : K0 g YX0_addNeed YX0_isShot d 5 [.ref a0, .int i1] [(0, .ref a0), (1, .int i1), (2, .int i2)] [] M P) :
    E0 g YX0_addNeed d 0 [(0, .ref a0), (1, .int i1), (2, .int i2)] [] M P := by
  refine x_aload_n dX0_addNeed_0 0 rfl ?_
  refine x_iload_n dX0_addNeed_1 1 rfl ?_
  refine EX.sub [0, 1, 2] (K0.v (As := [.int i1]) (st := []) cvX0_51 dX0_addNeed_2 rfl rfl h1 rfl (by decide) (k1)) rfl
set_option maxRecDepth 8000 in
theorem kX0_addNeed_5 {g : GG} {d : Nat} {M : MM} {P : Option Value → MM → Prop} {a0 : Nat} {i1 : Int32} {i2 : Int32} {s0 : Int32} {ba0_4 : Nat} {n_ba0_4 : Nat} {M1 : MM}
    (qM1 : M1 = wi M ba0_4 (i1 : Int32).toNatClampNeg ((mi M ba0_4 (i1 : Int32).toNatClampNeg) ||| (1 <<< (i2 &&& 31))))
    (h1 : ob M a0 0)
    (h2 : mr M a0 4 = some ba0_4)
    (h3 : ar M ba0_4 1 n_ba0_4)
    (h4 : ¬ (s0 = 0) → vp_in i1 n_ba0_4)
    (k1 : s0 = 0 → P none M)
    (k2 : ¬ (s0 = 0) → P none M1) :
    E0 g YX0_addNeed d 5 [(0, .ref a0), (1, .int i1), (2, .int i2)] [.int s0] M P := by
  subst qM1
  refine x_if_eq 20 dX0_addNeed_5 (by decide) (fun c1 => ?_) (fun c1 => ?_)
  · exact x_vret rfl dX0_addNeed_20 (Nat.le_refl _) (Nat.le_refl _) (k1 c1)
  · refine x_aload_n dX0_addNeed_8 0 rfl ?_
    refine x_getR fdX0_22 rfl dX0_addNeed_9 h1.1 h1.2 h2 ?_
    refine x_iload_n dX0_addNeed_12 1 rfl ?_
    refine x_dup2 dX0_addNeed_13 rfl rfl ?_
    refine x_iald dX0_addNeed_14 h3.1 h3.2 (h4 c1) ?_
    refine x_iconst (v := 1) dX0_addNeed_15 (by decide) ?_
    refine x_iload_n dX0_addNeed_16 2 rfl ?_
    refine x_ishl dX0_addNeed_17 ?_
    refine x_ior dX0_addNeed_18 ?_
    refine x_iast dX0_addNeed_19 h3.1 h3.2 (h4 c1) ?_
    exact x_vret rfl dX0_addNeed_20 (Nat.le_refl _) (Nat.le_refl _) (k2 c1)
set_option maxRecDepth 8000 in
theorem kX0_addHall_0 {g : GG} {d : Nat} {M : MM} {P : Option Value → MM → Prop} {a0 : Nat} {j1 : Int64} {i3 : Int32} {ba0_6 : Nat} {n_ba0_6 : Nat} {ba0_7 : Nat} {n_ba0_7 : Nat} {ba0_8 : Nat} {bba0_8_2 : Nat} {n_bba0_8_2 : Nat} {M1 : MM} {M2 : MM} {M3 : MM} {M4 : MM}
    (qM1 : M1 = wj M ba0_6 ((mi M a0 5) : Int32).toNatClampNeg j1)
    (qM2 : M2 = wi M1 ba0_7 ((mi M a0 5) : Int32).toNatClampNeg i3)
    (qM3 : M3 = wi M2 bba0_8_2 ((mi M2 a0 5) : Int32).toNatClampNeg (mi M2 ba0_8 1))
    (qM4 : M4 = wi M3 a0 5 ((mi M3 a0 5) + 1))
    (h1 : ob M a0 0)
    (h2 : mr M a0 6 = some ba0_6)
    (h3 : ar M ba0_6 2 n_ba0_6)
    (h4 : ¬ (6 ≤ (mi M a0 5)) → vp_in (mi M a0 5) n_ba0_6)
    (h5 : mr M a0 7 = some ba0_7)
    (h6 : ar M ba0_7 1 n_ba0_7)
    (h7 : ¬ (6 ≤ (mi M a0 5)) → vp_in (mi M a0 5) n_ba0_7)
    (h8 : mr M a0 8 = some ba0_8)
    (h9 : ob M ba0_8 2)
    (h10 : mr M ba0_8 2 = some bba0_8_2)
    (h11 : ar M bba0_8_2 1 n_bba0_8_2)
    (h12 : ¬ (6 ≤ (mi M a0 5)) → vp_in (mi M2 a0 5) n_bba0_8_2)
    (k1 : 6 ≤ (mi M a0 5) → P none M)
    (k2 : ¬ (6 ≤ (mi M a0 5)) → P none M4) :
    E0 g YX0_addHall d 0 [(0, .ref a0), (1, .long j1), (3, .int i3)] [] M P := by
  subst qM1 qM2 qM3 qM4
  refine x_aload_n dX0_addHall_0 0 rfl ?_
  refine x_getI fdX0_45 rfl dX0_addHall_1 h1.1 h1.2 ?_
  refine x_bipush (v := 6) dX0_addHall_4 (by decide) ?_
  refine x_ic_ge 58 dX0_addHall_6 (by decide) (fun c1 => ?_) (fun c1 => ?_)
  · exact x_vret rfl dX0_addHall_58 (Nat.le_refl _) (Nat.le_refl _) (k1 c1)
  · refine x_aload_n dX0_addHall_9 0 rfl ?_
    refine x_getR fdX0_25 rfl dX0_addHall_10 h1.1 h1.2 h2 ?_
    refine x_aload_n dX0_addHall_13 0 rfl ?_
    refine x_getI fdX0_45 rfl dX0_addHall_14 h1.1 h1.2 ?_
    refine x_lload_n dX0_addHall_17 1 rfl ?_
    refine x_last dX0_addHall_18 h3.1 h3.2 (h4 c1) ?_
    refine x_aload_n dX0_addHall_19 0 rfl ?_
    refine x_getR fdX0_28 rfl dX0_addHall_20 h1.1 h1.2 h5 ?_
    refine x_aload_n dX0_addHall_23 0 rfl ?_
    refine x_getI fdX0_45 rfl dX0_addHall_24 h1.1 h1.2 ?_
    refine x_iload_n dX0_addHall_27 2 rfl ?_
    refine x_iast dX0_addHall_28 h6.1 h6.2 (h7 c1) ?_
    refine x_aload_n dX0_addHall_29 0 rfl ?_
    refine x_getR fdX0_34 rfl dX0_addHall_30 h1.1 h1.2 h8 ?_
    refine x_getR fdX0_55 rfl dX0_addHall_33 h9.1 h9.2 h10 ?_
    refine x_aload_n dX0_addHall_36 0 rfl ?_
    refine x_getI fdX0_45 rfl dX0_addHall_37 h1.1 h1.2 ?_
    refine x_aload_n dX0_addHall_40 0 rfl ?_
    refine x_getR fdX0_34 rfl dX0_addHall_41 h1.1 h1.2 h8 ?_
    refine x_getI fdX0_48 rfl dX0_addHall_44 h9.1 h9.2 ?_
    refine x_iast dX0_addHall_47 h11.1 h11.2 (h12 c1) ?_
    refine x_aload_n dX0_addHall_48 0 rfl ?_
    refine x_dup dX0_addHall_49 rfl ?_
    refine x_getI fdX0_45 rfl dX0_addHall_50 h1.1 h1.2 ?_
    refine x_iconst (v := 1) dX0_addHall_53 (by decide) ?_
    refine x_iadd dX0_addHall_54 ?_
    refine x_putI fdX0_45 rfl (Or.inl rfl) dX0_addHall_55 h1.1 h1.2 rfl rfl ?_
    exact x_vret rfl dX0_addHall_58 (Nat.le_refl _) (Nat.le_refl _) (k2 c1)
set_option maxRecDepth 8000 in
theorem kX0_isShot_0 {g : GG} {d : Nat} {M : MM} {P : Option Value → MM → Prop} {a0 : Nat} {i1 : Int32}
    (h1 : ob M a0 0)
    (k1 : i1 < 0 → P (some (.int 0)) M)
    (k2 : ¬ (i1 < 0) → (mi M a0 0) ≤ i1 → P (some (.int 0)) M)
    (k3 : ¬ (i1 < 0) → ¬ ((mi M a0 0) ≤ i1) → P (some (.int 1)) M) :
    E0 g YX0_isShot d 0 [(0, .ref a0), (1, .int i1)] [] M P := by
  refine x_iload_n dX0_isShot_0 1 rfl ?_
  refine x_if_lt 16 dX0_isShot_1 (by decide) (fun c1 => ?_) (fun c1 => ?_)
  · refine x_iconst (v := 0) dX0_isShot_16 (by decide) ?_
    exact x_zret rfl dX0_isShot_17 rfl (Nat.le_refl _) (Nat.le_refl _) (k1 c1)
  · refine x_iload_n dX0_isShot_4 1 rfl ?_
    refine x_aload_n dX0_isShot_5 0 rfl ?_
    refine x_getI fdX0_41 rfl dX0_isShot_6 h1.1 h1.2 ?_
    refine x_ic_ge 16 dX0_isShot_9 (by decide) (fun c2 => ?_) (fun c2 => ?_)
    · refine x_iconst (v := 0) dX0_isShot_16 (by decide) ?_
      exact x_zret rfl dX0_isShot_17 rfl (Nat.le_refl _) (Nat.le_refl _) (k2 c1 c2)
    · refine x_iconst (v := 1) dX0_isShot_12 (by decide) ?_
      refine x_goto 17 dX0_isShot_13 (by decide) ?_
      exact x_zret rfl dX0_isShot_17 rfl (Nat.le_refl _) (Nat.le_refl _) (k3 c1 c2)
set_option maxRecDepth 8000 in
theorem kX0_isHall_0 {g : GG} {d : Nat} {M : MM} {P : Option Value → MM → Prop} {a0 : Nat} {i1 : Int32}
    (h1 : ob M a0 0)
    (k1 : i1 < 0 → P (some (.int 0)) M)
    (k2 : ¬ (i1 < 0) → (mi M a0 5) ≤ i1 → P (some (.int 0)) M)
    (k3 : ¬ (i1 < 0) → ¬ ((mi M a0 5) ≤ i1) → P (some (.int 1)) M) :
    E0 g YX0_isHall d 0 [(0, .ref a0), (1, .int i1)] [] M P := by
  refine x_iload_n dX0_isHall_0 1 rfl ?_
  refine x_if_lt 16 dX0_isHall_1 (by decide) (fun c1 => ?_) (fun c1 => ?_)
  · refine x_iconst (v := 0) dX0_isHall_16 (by decide) ?_
    exact x_zret rfl dX0_isHall_17 rfl (Nat.le_refl _) (Nat.le_refl _) (k1 c1)
  · refine x_iload_n dX0_isHall_4 1 rfl ?_
    refine x_aload_n dX0_isHall_5 0 rfl ?_
    refine x_getI fdX0_45 rfl dX0_isHall_6 h1.1 h1.2 ?_
    refine x_ic_ge 16 dX0_isHall_9 (by decide) (fun c2 => ?_) (fun c2 => ?_)
    · refine x_iconst (v := 0) dX0_isHall_16 (by decide) ?_
      exact x_zret rfl dX0_isHall_17 rfl (Nat.le_refl _) (Nat.le_refl _) (k2 c1 c2)
    · refine x_iconst (v := 1) dX0_isHall_12 (by decide) ?_
      refine x_goto 17 dX0_isHall_13 (by decide) ?_
      exact x_zret rfl dX0_isHall_17 rfl (Nat.le_refl _) (Nat.le_refl _) (k3 c1 c2)
set_option maxRecDepth 8000 in
theorem kX0_isNeeded_0 {g : GG} {d : Nat} {M : MM} {P : Option Value → MM → Prop} {a0 : Nat} {i1 : Int32} {i2 : Int32}
    (h1 : ob M a0 0)
    (k1 : K0 g YX0_isNeeded YX0_isShot d 5 [.ref a0, .int i1] [(0, .ref a0), (1, .int i1), (2, .int i2)] [] M P) :
    E0 g YX0_isNeeded d 0 [(0, .ref a0), (1, .int i1), (2, .int i2)] [] M P := by
  refine x_aload_n dX0_isNeeded_0 0 rfl ?_
  refine x_iload_n dX0_isNeeded_1 1 rfl ?_
  refine EX.sub [0, 1, 2] (K0.v (As := [.int i1]) (st := []) cvX0_51 dX0_isNeeded_2 rfl rfl h1 rfl (by decide) (k1)) rfl
set_option maxRecDepth 8000 in
theorem kX0_isNeeded_5 {g : GG} {d : Nat} {M : MM} {P : Option Value → MM → Prop} {a0 : Nat} {i1 : Int32} {i2 : Int32} {s0 : Int32}
    (h1 : ob M a0 0)
    (k1 : s0 = 0 → P (some (.int 0)) M)
    (k2 : ¬ (s0 = 0) → K0 g YX0_isNeeded YX0_isShot d 13 [.ref a0, .int i2] [(0, .ref a0), (1, .int i1), (2, .int i2)] [] M P) :
    E0 g YX0_isNeeded d 5 [(0, .ref a0), (1, .int i1), (2, .int i2)] [.int s0] M P := by
  refine x_if_eq 34 dX0_isNeeded_5 (by decide) (fun c1 => ?_) (fun c1 => ?_)
  · refine x_iconst (v := 0) dX0_isNeeded_34 (by decide) ?_
    exact x_zret rfl dX0_isNeeded_35 rfl (Nat.le_refl _) (Nat.le_refl _) (k1 c1)
  · refine x_aload_n dX0_isNeeded_8 0 rfl ?_
    refine x_iload_n dX0_isNeeded_9 2 rfl ?_
    refine EX.sub [0, 1, 2] (K0.v (As := [.int i2]) (st := []) cvX0_51 dX0_isNeeded_10 rfl rfl h1 rfl (by decide) (k2 c1)) rfl
set_option maxRecDepth 8000 in
theorem kX0_isNeeded_13 {g : GG} {d : Nat} {M : MM} {P : Option Value → MM → Prop} {a0 : Nat} {i1 : Int32} {i2 : Int32} {s0 : Int32} {ba0_4 : Nat} {n_ba0_4 : Nat}
    (h1 : ob M a0 0)
    (h2 : mr M a0 4 = some ba0_4)
    (h3 : ar M ba0_4 1 n_ba0_4)
    (h4 : ¬ (s0 = 0) → vp_in i1 n_ba0_4)
    (k1 : s0 = 0 → P (some (.int 0)) M)
    (k2 : ¬ (s0 = 0) → ¬ (((mi M ba0_4 (i1 : Int32).toNatClampNeg) >>> (i2 &&& 31)) &&& 1) = 1 → P (some (.int 0)) M)
    (k3 : ¬ (s0 = 0) → (((mi M ba0_4 (i1 : Int32).toNatClampNeg) >>> (i2 &&& 31)) &&& 1) = 1 → P (some (.int 1)) M) :
    E0 g YX0_isNeeded d 13 [(0, .ref a0), (1, .int i1), (2, .int i2)] [.int s0] M P := by
  refine x_if_eq 34 dX0_isNeeded_13 (by decide) (fun c1 => ?_) (fun c1 => ?_)
  · refine x_iconst (v := 0) dX0_isNeeded_34 (by decide) ?_
    exact x_zret rfl dX0_isNeeded_35 rfl (Nat.le_refl _) (Nat.le_refl _) (k1 c1)
  · refine x_aload_n dX0_isNeeded_16 0 rfl ?_
    refine x_getR fdX0_22 rfl dX0_isNeeded_17 h1.1 h1.2 h2 ?_
    refine x_iload_n dX0_isNeeded_20 1 rfl ?_
    refine x_iald dX0_isNeeded_21 h3.1 h3.2 (h4 c1) ?_
    refine x_iload_n dX0_isNeeded_22 2 rfl ?_
    refine x_ishr dX0_isNeeded_23 ?_
    refine x_iconst (v := 1) dX0_isNeeded_24 (by decide) ?_
    refine x_iand dX0_isNeeded_25 ?_
    refine x_iconst (v := 1) dX0_isNeeded_26 (by decide) ?_
    refine x_ic_ne 34 dX0_isNeeded_27 (by decide) (fun c2 => ?_) (fun c2 => ?_)
    · refine x_iconst (v := 0) dX0_isNeeded_34 (by decide) ?_
      exact x_zret rfl dX0_isNeeded_35 rfl (Nat.le_refl _) (Nat.le_refl _) (k2 c1 c2)
    · refine x_iconst (v := 1) dX0_isNeeded_30 (by decide) ?_
      refine x_goto 35 dX0_isNeeded_31 (by decide) ?_
      exact x_zret rfl dX0_isNeeded_35 rfl (Nat.le_refl _) (Nat.le_refl _) (k3 c1 c2)
set_option maxRecDepth 8000 in
theorem kX0_shotNamed_0 {g : GG} {d : Nat} {M : MM} {P : Option Value → MM → Prop} {a0 : Nat} {j1 : Int64}
    (k1 : E0 g YX0_shotNamed d 2 [(0, .ref a0), (1, .long j1), (3, .int 0)] [] M P) :
    E0 g YX0_shotNamed d 0 [(0, .ref a0), (1, .long j1)] [] M P := by
  refine x_iconst (v := 0) dX0_shotNamed_0 (by decide) ?_
  refine x_istore_n (lv1 := [(3, .int 0), (0, .ref a0), (1, .long j1)]) dX0_shotNamed_1 (by decide) rfl ?_
  exact EX.sub [1, 2, 0] k1 rfl
set_option maxRecDepth 8000 in
theorem kX0_shotNamed_2 {g : GG} {d : Nat} {M : MM} {P : Option Value → MM → Prop} {a0 : Nat} {j1 : Int64} {i3 : Int32} {ba0_1 : Nat} {n_ba0_1 : Nat}
    (h1 : ob M a0 0)
    (h2 : mr M a0 1 = some ba0_1)
    (h3 : ar M ba0_1 2 n_ba0_1)
    (h4 : ¬ ((mi M a0 0) ≤ i3) → vp_in i3 n_ba0_1)
    (k1 : (mi M a0 0) ≤ i3 → P (some (.int (-1))) M)
    (k2 : ¬ ((mi M a0 0) ≤ i3) → ¬ (lg_cmp (mj M ba0_1 (i3 : Int32).toNatClampNeg) j1) = 0 → E0 g YX0_shotNamed d 2 [(0, .ref a0), (1, .long j1), (3, .int (i3 + 1))] [] M P)
    (k3 : ¬ ((mi M a0 0) ≤ i3) → (lg_cmp (mj M ba0_1 (i3 : Int32).toNatClampNeg) j1) = 0 → P (some (.int i3)) M) :
    E0 g YX0_shotNamed d 2 [(0, .ref a0), (1, .long j1), (3, .int i3)] [] M P := by
  refine x_iload_n dX0_shotNamed_2 2 rfl ?_
  refine x_aload_n dX0_shotNamed_3 0 rfl ?_
  refine x_getI fdX0_41 rfl dX0_shotNamed_4 h1.1 h1.2 ?_
  refine x_ic_ge 29 dX0_shotNamed_7 (by decide) (fun c1 => ?_) (fun c1 => ?_)
  · refine x_iconst (v := (-1)) dX0_shotNamed_29 (by decide) ?_
    exact x_iret rfl dX0_shotNamed_30 (Nat.le_refl _) (Nat.le_refl _) (k1 c1)
  · refine x_aload_n dX0_shotNamed_10 0 rfl ?_
    refine x_getR fdX0_9 rfl dX0_shotNamed_11 h1.1 h1.2 h2 ?_
    refine x_iload_n dX0_shotNamed_14 2 rfl ?_
    refine x_lald dX0_shotNamed_15 h3.1 h3.2 (h4 c1) ?_
    refine x_lload_n dX0_shotNamed_16 1 rfl ?_
    refine x_lcmp dX0_shotNamed_17 ?_
    refine x_if_ne 23 dX0_shotNamed_18 (by decide) (fun c2 => ?_) (fun c2 => ?_)
    · refine x_iinc (v := (i3 + 1)) (lv1 := [(3, .int (i3 + 1)), (0, .ref a0), (1, .long j1)]) dX0_shotNamed_23 2 rfl rfl (by decide) rfl ?_
      refine x_goto 2 dX0_shotNamed_26 (by decide) ?_
      exact EX.sub [1, 2, 0] (k2 c1 c2) rfl
    · refine x_iload_n dX0_shotNamed_21 2 rfl ?_
      exact x_iret rfl dX0_shotNamed_22 (Nat.le_refl _) (Nat.le_refl _) (k3 c1 c2)
set_option maxRecDepth 8000 in
theorem kX0_hallNamed_0 {g : GG} {d : Nat} {M : MM} {P : Option Value → MM → Prop} {a0 : Nat} {j1 : Int64}
    (k1 : E0 g YX0_hallNamed d 2 [(0, .ref a0), (1, .long j1), (3, .int 0)] [] M P) :
    E0 g YX0_hallNamed d 0 [(0, .ref a0), (1, .long j1)] [] M P := by
  refine x_iconst (v := 0) dX0_hallNamed_0 (by decide) ?_
  refine x_istore_n (lv1 := [(3, .int 0), (0, .ref a0), (1, .long j1)]) dX0_hallNamed_1 (by decide) rfl ?_
  exact EX.sub [1, 2, 0] k1 rfl
set_option maxRecDepth 8000 in
theorem kX0_hallNamed_2 {g : GG} {d : Nat} {M : MM} {P : Option Value → MM → Prop} {a0 : Nat} {j1 : Int64} {i3 : Int32} {ba0_6 : Nat} {n_ba0_6 : Nat}
    (h1 : ob M a0 0)
    (h2 : mr M a0 6 = some ba0_6)
    (h3 : ar M ba0_6 2 n_ba0_6)
    (h4 : ¬ ((mi M a0 5) ≤ i3) → vp_in i3 n_ba0_6)
    (k1 : (mi M a0 5) ≤ i3 → P (some (.int (-1))) M)
    (k2 : ¬ ((mi M a0 5) ≤ i3) → ¬ (lg_cmp (mj M ba0_6 (i3 : Int32).toNatClampNeg) j1) = 0 → E0 g YX0_hallNamed d 2 [(0, .ref a0), (1, .long j1), (3, .int (i3 + 1))] [] M P)
    (k3 : ¬ ((mi M a0 5) ≤ i3) → (lg_cmp (mj M ba0_6 (i3 : Int32).toNatClampNeg) j1) = 0 → P (some (.int i3)) M) :
    E0 g YX0_hallNamed d 2 [(0, .ref a0), (1, .long j1), (3, .int i3)] [] M P := by
  refine x_iload_n dX0_hallNamed_2 2 rfl ?_
  refine x_aload_n dX0_hallNamed_3 0 rfl ?_
  refine x_getI fdX0_45 rfl dX0_hallNamed_4 h1.1 h1.2 ?_
  refine x_ic_ge 29 dX0_hallNamed_7 (by decide) (fun c1 => ?_) (fun c1 => ?_)
  · refine x_iconst (v := (-1)) dX0_hallNamed_29 (by decide) ?_
    exact x_iret rfl dX0_hallNamed_30 (Nat.le_refl _) (Nat.le_refl _) (k1 c1)
  · refine x_aload_n dX0_hallNamed_10 0 rfl ?_
    refine x_getR fdX0_25 rfl dX0_hallNamed_11 h1.1 h1.2 h2 ?_
    refine x_iload_n dX0_hallNamed_14 2 rfl ?_
    refine x_lald dX0_hallNamed_15 h3.1 h3.2 (h4 c1) ?_
    refine x_lload_n dX0_hallNamed_16 1 rfl ?_
    refine x_lcmp dX0_hallNamed_17 ?_
    refine x_if_ne 23 dX0_hallNamed_18 (by decide) (fun c2 => ?_) (fun c2 => ?_)
    · refine x_iinc (v := (i3 + 1)) (lv1 := [(3, .int (i3 + 1)), (0, .ref a0), (1, .long j1)]) dX0_hallNamed_23 2 rfl rfl (by decide) rfl ?_
      refine x_goto 2 dX0_hallNamed_26 (by decide) ?_
      exact EX.sub [1, 2, 0] (k2 c1 c2) rfl
    · refine x_iload_n dX0_hallNamed_21 2 rfl ?_
      exact x_iret rfl dX0_hallNamed_22 (Nat.le_refl _) (Nat.le_refl _) (k3 c1 c2)
set_option maxRecDepth 8000 in
theorem kX0_film_0 {g : GG} {d : Nat} {M : MM} {P : Option Value → MM → Prop} {a0 : Nat}
    (h1 : ob M a0 0)
    (k1 : P (some (.int ((1 <<< ((mi M a0 0) &&& 31)) - 1))) M) :
    E0 g YX0_film d 0 [(0, .ref a0)] [] M P := by
  refine x_iconst (v := 1) dX0_film_0 (by decide) ?_
  refine x_aload_n dX0_film_1 0 rfl ?_
  refine x_getI fdX0_41 rfl dX0_film_2 h1.1 h1.2 ?_
  refine x_ishl dX0_film_5 ?_
  refine x_iconst (v := 1) dX0_film_6 (by decide) ?_
  refine x_isub dX0_film_7 ?_
  exact x_iret rfl dX0_film_8 (Nat.le_refl _) (Nat.le_refl _) (k1)
set_option maxRecDepth 8000 in
theorem kX0_minutesOf_0 {g : GG} {d : Nat} {M : MM} {P : Option Value → MM → Prop} {a0 : Nat} {i1 : Int32}
    (k1 : E0 g YX0_minutesOf d 4 [(0, .ref a0), (1, .int i1), (2, .int 0), (3, .int 0)] [] M P) :
    E0 g YX0_minutesOf d 0 [(0, .ref a0), (1, .int i1)] [] M P := by
  refine x_iconst (v := 0) dX0_minutesOf_0 (by decide) ?_
  refine x_istore_n (lv1 := [(2, .int 0), (0, .ref a0), (1, .int i1)]) dX0_minutesOf_1 (by decide) rfl ?_
  refine x_iconst (v := 0) dX0_minutesOf_2 (by decide) ?_
  refine x_istore_n (lv1 := [(3, .int 0), (2, .int 0), (0, .ref a0), (1, .int i1)]) dX0_minutesOf_3 (by decide) rfl ?_
  exact EX.sub [2, 3, 1, 0] k1 rfl
set_option maxRecDepth 8000 in
theorem kX0_minutesOf_4 {g : GG} {d : Nat} {M : MM} {P : Option Value → MM → Prop} {a0 : Nat} {i1 : Int32} {i2 : Int32} {i3 : Int32} {ba0_3 : Nat} {n_ba0_3 : Nat}
    (h1 : ob M a0 0)
    (h2 : mr M a0 3 = some ba0_3)
    (h3 : ar M ba0_3 1 n_ba0_3)
    (h4 : ¬ ((mi M a0 0) ≤ i3) → ((i1 >>> (i3 &&& 31)) &&& 1) = 1 → vp_in i3 n_ba0_3)
    (k1 : (mi M a0 0) ≤ i3 → P (some (.int i2)) M)
    (k2 : ¬ ((mi M a0 0) ≤ i3) → ¬ ((i1 >>> (i3 &&& 31)) &&& 1) = 1 → E0 g YX0_minutesOf d 4 [(0, .ref a0), (1, .int i1), (2, .int i2), (3, .int (i3 + 1))] [] M P)
    (k3 : ¬ ((mi M a0 0) ≤ i3) → ((i1 >>> (i3 &&& 31)) &&& 1) = 1 → E0 g YX0_minutesOf d 4 [(0, .ref a0), (1, .int i1), (2, .int (i2 + (mi M ba0_3 (i3 : Int32).toNatClampNeg))), (3, .int (i3 + 1))] [] M P) :
    E0 g YX0_minutesOf d 4 [(0, .ref a0), (1, .int i1), (2, .int i2), (3, .int i3)] [] M P := by
  refine x_iload_n dX0_minutesOf_4 3 rfl ?_
  refine x_aload_n dX0_minutesOf_5 0 rfl ?_
  refine x_getI fdX0_41 rfl dX0_minutesOf_6 h1.1 h1.2 ?_
  refine x_ic_ge 36 dX0_minutesOf_9 (by decide) (fun c1 => ?_) (fun c1 => ?_)
  · refine x_iload_n dX0_minutesOf_36 2 rfl ?_
    exact x_iret rfl dX0_minutesOf_37 (Nat.le_refl _) (Nat.le_refl _) (k1 c1)
  · refine x_iload_n dX0_minutesOf_12 1 rfl ?_
    refine x_iload_n dX0_minutesOf_13 3 rfl ?_
    refine x_ishr dX0_minutesOf_14 ?_
    refine x_iconst (v := 1) dX0_minutesOf_15 (by decide) ?_
    refine x_iand dX0_minutesOf_16 ?_
    refine x_iconst (v := 1) dX0_minutesOf_17 (by decide) ?_
    refine x_ic_ne 30 dX0_minutesOf_18 (by decide) (fun c2 => ?_) (fun c2 => ?_)
    · refine x_iinc (v := (i3 + 1)) (lv1 := [(3, .int (i3 + 1)), (0, .ref a0), (1, .int i1), (2, .int i2)]) dX0_minutesOf_30 3 rfl rfl (by decide) rfl ?_
      refine x_goto 4 dX0_minutesOf_33 (by decide) ?_
      exact EX.sub [1, 2, 3, 0] (k2 c1 c2) rfl
    · refine x_iload_n dX0_minutesOf_21 2 rfl ?_
      refine x_aload_n dX0_minutesOf_22 0 rfl ?_
      refine x_getR fdX0_19 rfl dX0_minutesOf_23 h1.1 h1.2 h2 ?_
      refine x_iload_n dX0_minutesOf_26 3 rfl ?_
      refine x_iald dX0_minutesOf_27 h3.1 h3.2 (h4 c1 c2) ?_
      refine x_iadd dX0_minutesOf_28 ?_
      refine x_istore_n (lv1 := [(2, .int (i2 + (mi M ba0_3 (i3 : Int32).toNatClampNeg))), (0, .ref a0), (1, .int i1), (3, .int i3)]) dX0_minutesOf_29 (by decide) rfl ?_
      refine x_iinc (v := (i3 + 1)) (lv1 := [(3, .int (i3 + 1)), (2, .int (i2 + (mi M ba0_3 (i3 : Int32).toNatClampNeg))), (0, .ref a0), (1, .int i1)]) dX0_minutesOf_30 3 rfl rfl (by decide) rfl ?_
      refine x_goto 4 dX0_minutesOf_33 (by decide) ?_
      exact EX.sub [2, 3, 1, 0] (k3 c1 c2) rfl
set_option maxRecDepth 8000 in
theorem kX0_isLonger_0 {g : GG} {d : Nat} {M : MM} {P : Option Value → MM → Prop} {a0 : Nat} {i1 : Int32} {i2 : Int32}
    (h1 : ob M a0 0)
    (k1 : K0 g YX0_isLonger YX0_minutesOf d 5 [.ref a0, .int i1] [(0, .ref a0), (1, .int i1), (2, .int i2)] [] M P) :
    E0 g YX0_isLonger d 0 [(0, .ref a0), (1, .int i1), (2, .int i2)] [] M P := by
  refine x_aload_n dX0_isLonger_0 0 rfl ?_
  refine x_iload_n dX0_isLonger_1 1 rfl ?_
  refine EX.sub [0, 1, 2] (K0.v (As := [.int i1]) (st := []) cvX0_58 dX0_isLonger_2 rfl rfl h1 rfl (by decide) (k1)) rfl
set_option maxRecDepth 8000 in
theorem kX0_isLonger_5 {g : GG} {d : Nat} {M : MM} {P : Option Value → MM → Prop} {a0 : Nat} {i1 : Int32} {i2 : Int32} {s0 : Int32}
    (h1 : ob M a0 0)
    (k1 : K0 g YX0_isLonger YX0_minutesOf d 10 [.ref a0, .int i2] [(1, .int i1), (2, .int i2)] [.int s0] M P) :
    E0 g YX0_isLonger d 5 [(0, .ref a0), (1, .int i1), (2, .int i2)] [.int s0] M P := by
  refine x_aload_n dX0_isLonger_5 0 rfl ?_
  refine x_iload_n dX0_isLonger_6 2 rfl ?_
  refine EX.sub [1, 2] (K0.v (As := [.int i2]) (st := [.int s0]) cvX0_58 dX0_isLonger_7 rfl rfl h1 rfl (by decide) (k1)) rfl
set_option maxRecDepth 8000 in
theorem kX0_isLonger_10 {g : GG} {d : Nat} {M : MM} {P : Option Value → MM → Prop} {i1 : Int32} {i2 : Int32} {s0 : Int32} {s1 : Int32}
    (k1 : 0 < (s0 - s1) → P (some (.int 1)) M)
    (k2 : ¬ (0 < (s0 - s1)) → ¬ (s0 - s1) = 0 → P (some (.int 0)) M)
    (k3 : ¬ (0 < (s0 - s1)) → (s0 - s1) = 0 → K0 g YX0_isLonger YJ6_bitCount_0f7a4 d 24 [.int i1] [(2, .int i2)] [] M P) :
    E0 g YX0_isLonger d 10 [(1, .int i1), (2, .int i2)] [.int s1, .int s0] M P := by
  refine x_isub dX0_isLonger_10 ?_
  refine x_istore_n (lv1 := [(3, .int (s0 - s1)), (1, .int i1), (2, .int i2)]) dX0_isLonger_11 (by decide) rfl ?_
  refine x_iload_n dX0_isLonger_12 0 rfl ?_
  refine x_if_gt 31 dX0_isLonger_13 (by decide) (fun c1 => ?_) (fun c1 => ?_)
  · refine x_iconst (v := 1) dX0_isLonger_31 (by decide) ?_
    refine x_goto 36 dX0_isLonger_32 (by decide) ?_
    exact x_zret rfl dX0_isLonger_36 rfl (Nat.le_refl _) (Nat.le_refl _) (k1 c1)
  · refine x_iload_n dX0_isLonger_16 0 rfl ?_
    refine x_if_ne 35 dX0_isLonger_17 (by decide) (fun c2 => ?_) (fun c2 => ?_)
    · refine x_iconst (v := 0) dX0_isLonger_35 (by decide) ?_
      exact x_zret rfl dX0_isLonger_36 rfl (Nat.le_refl _) (Nat.le_refl _) (k2 c1 c2)
    · refine x_iload_n dX0_isLonger_20 1 rfl ?_
      refine EX.sub [2] (K0.s (As := [.int i1]) (st := []) csX0_62 dX0_isLonger_21 rfl rfl (by decide) (k3 c1 c2)) rfl
set_option maxRecDepth 8000 in
theorem kX0_isLonger_24 {g : GG} {d : Nat} {M : MM} {P : Option Value → MM → Prop} {i2 : Int32} {s0 : Int32}
    (k1 : K0 g YX0_isLonger YJ6_bitCount_0f7a4 d 28 [.int i2] [] [.int s0] M P) :
    E0 g YX0_isLonger d 24 [(2, .int i2)] [.int s0] M P := by
  refine x_iload_n dX0_isLonger_24 0 rfl ?_
  refine EX.sub [] (K0.s (As := [.int i2]) (st := [.int s0]) csX0_62 dX0_isLonger_25 rfl rfl (by decide) (k1)) rfl
set_option maxRecDepth 8000 in
theorem kX0_isLonger_28 {g : GG} {d : Nat} {M : MM} {P : Option Value → MM → Prop} {s0 : Int32} {s1 : Int32}
    (k1 : s1 ≤ s0 → P (some (.int 0)) M)
    (k2 : ¬ (s1 ≤ s0) → P (some (.int 1)) M) :
    E0 g YX0_isLonger d 28 [] [.int s1, .int s0] M P := by
  refine x_ic_ge 35 dX0_isLonger_28 (by decide) (fun c1 => ?_) (fun c1 => ?_)
  · refine x_iconst (v := 0) dX0_isLonger_35 (by decide) ?_
    exact x_zret rfl dX0_isLonger_36 rfl (Nat.le_refl _) (Nat.le_refl _) (k1 c1)
  · refine x_iconst (v := 1) dX0_isLonger_31 (by decide) ?_
    refine x_goto 36 dX0_isLonger_32 (by decide) ?_
    exact x_zret rfl dX0_isLonger_36 rfl (Nat.le_refl _) (Nat.le_refl _) (k2 c1)
set_option maxRecDepth 8000 in
theorem kX0_shotAt_0 {g : GG} {d : Nat} {M : MM} {P : Option Value → MM → Prop} {a0 : Nat} {i1 : Int32} {i2 : Int32}
    (k1 : E0 g YX0_shotAt d 5 [(0, .ref a0), (1, .int i1), (2, .int i2), (3, .int 0), (4, .int 0)] [] M P) :
    E0 g YX0_shotAt d 0 [(0, .ref a0), (1, .int i1), (2, .int i2)] [] M P := by
  refine x_iconst (v := 0) dX0_shotAt_0 (by decide) ?_
  refine x_istore_n (lv1 := [(3, .int 0), (0, .ref a0), (1, .int i1), (2, .int i2)]) dX0_shotAt_1 (by decide) rfl ?_
  refine x_iconst (v := 0) dX0_shotAt_2 (by decide) ?_
  refine x_istore (lv1 := [(4, .int 0), (3, .int 0), (0, .ref a0), (1, .int i1), (2, .int i2)]) dX0_shotAt_3 (by decide) rfl ?_
  exact EX.sub [2, 3, 4, 1, 0] k1 rfl
set_option maxRecDepth 8000 in
theorem kX0_shotAt_5 {g : GG} {d : Nat} {M : MM} {P : Option Value → MM → Prop} {a0 : Nat} {i1 : Int32} {i2 : Int32} {i3 : Int32} {i4 : Int32}
    (h1 : ob M a0 0)
    (k1 : (mi M a0 0) ≤ i4 → P (some (.int (-1))) M)
    (k2 : ¬ ((mi M a0 0) ≤ i4) → ¬ ((i1 >>> (i4 &&& 31)) &&& 1) = 1 → E0 g YX0_shotAt d 5 [(0, .ref a0), (1, .int i1), (2, .int i2), (3, .int i3), (4, .int (i4 + 1))] [] M P)
    (k3 : ¬ ((mi M a0 0) ≤ i4) → ((i1 >>> (i4 &&& 31)) &&& 1) = 1 → ¬ i3 = i2 → E0 g YX0_shotAt d 5 [(0, .ref a0), (1, .int i1), (2, .int i2), (3, .int (i3 + 1)), (4, .int (i4 + 1))] [] M P)
    (k4 : ¬ ((mi M a0 0) ≤ i4) → ((i1 >>> (i4 &&& 31)) &&& 1) = 1 → i3 = i2 → P (some (.int i4)) M) :
    E0 g YX0_shotAt d 5 [(0, .ref a0), (1, .int i1), (2, .int i2), (3, .int i3), (4, .int i4)] [] M P := by
  refine x_iload dX0_shotAt_5 4 rfl ?_
  refine x_aload_n dX0_shotAt_7 0 rfl ?_
  refine x_getI fdX0_41 rfl dX0_shotAt_8 h1.1 h1.2 ?_
  refine x_ic_ge 41 dX0_shotAt_11 (by decide) (fun c1 => ?_) (fun c1 => ?_)
  · refine x_iconst (v := (-1)) dX0_shotAt_41 (by decide) ?_
    exact x_iret rfl dX0_shotAt_42 (Nat.le_refl _) (Nat.le_refl _) (k1 c1)
  · refine x_iload_n dX0_shotAt_14 1 rfl ?_
    refine x_iload dX0_shotAt_15 4 rfl ?_
    refine x_ishr dX0_shotAt_17 ?_
    refine x_iconst (v := 1) dX0_shotAt_18 (by decide) ?_
    refine x_iand dX0_shotAt_19 ?_
    refine x_iconst (v := 1) dX0_shotAt_20 (by decide) ?_
    refine x_ic_ne 35 dX0_shotAt_21 (by decide) (fun c2 => ?_) (fun c2 => ?_)
    · refine x_iinc (v := (i4 + 1)) (lv1 := [(4, .int (i4 + 1)), (0, .ref a0), (1, .int i1), (2, .int i2), (3, .int i3)]) dX0_shotAt_35 4 rfl rfl (by decide) rfl ?_
      refine x_goto 5 dX0_shotAt_38 (by decide) ?_
      exact EX.sub [1, 2, 3, 4, 0] (k2 c1 c2) rfl
    · refine x_iload_n dX0_shotAt_24 3 rfl ?_
      refine x_iload_n dX0_shotAt_25 2 rfl ?_
      refine x_ic_ne 32 dX0_shotAt_26 (by decide) (fun c3 => ?_) (fun c3 => ?_)
      · refine x_iinc (v := (i3 + 1)) (lv1 := [(3, .int (i3 + 1)), (0, .ref a0), (1, .int i1), (2, .int i2), (4, .int i4)]) dX0_shotAt_32 3 rfl rfl (by decide) rfl ?_
        refine x_iinc (v := (i4 + 1)) (lv1 := [(4, .int (i4 + 1)), (3, .int (i3 + 1)), (0, .ref a0), (1, .int i1), (2, .int i2)]) dX0_shotAt_35 4 rfl rfl (by decide) rfl ?_
        refine x_goto 5 dX0_shotAt_38 (by decide) ?_
        exact EX.sub [2, 3, 4, 1, 0] (k3 c1 c2 c3) rfl
      · refine x_iload dX0_shotAt_29 4 rfl ?_
        exact x_iret rfl dX0_shotAt_31 (Nat.le_refl _) (Nat.le_refl _) (k4 c1 c2 c3)
set_option maxRecDepth 8000 in
theorem kX0_makesSense_0 {g : GG} {d : Nat} {M : MM} {P : Option Value → MM → Prop} {a0 : Nat} {i1 : Int32}
    (k1 : E0 g YX0_makesSense d 2 [(0, .ref a0), (1, .int i1), (2, .int 0)] [] M P) :
    E0 g YX0_makesSense d 0 [(0, .ref a0), (1, .int i1)] [] M P := by
  refine x_iconst (v := 0) dX0_makesSense_0 (by decide) ?_
  refine x_istore_n (lv1 := [(2, .int 0), (0, .ref a0), (1, .int i1)]) dX0_makesSense_1 (by decide) rfl ?_
  exact EX.sub [1, 2, 0] k1 rfl
set_option maxRecDepth 8000 in
theorem kX0_makesSense_2 {g : GG} {d : Nat} {M : MM} {P : Option Value → MM → Prop} {a0 : Nat} {i1 : Int32} {i2 : Int32} {ba0_4 : Nat} {n_ba0_4 : Nat}
    (h1 : ob M a0 0)
    (h2 : mr M a0 4 = some ba0_4)
    (h3 : ar M ba0_4 1 n_ba0_4)
    (h4 : ¬ ((mi M a0 0) ≤ i2) → ((i1 >>> (i2 &&& 31)) &&& 1) = 1 → vp_in i2 n_ba0_4)
    (k1 : (mi M a0 0) ≤ i2 → P (some (.int 1)) M)
    (k2 : ¬ ((mi M a0 0) ≤ i2) → ¬ ((i1 >>> (i2 &&& 31)) &&& 1) = 1 → E0 g YX0_makesSense d 2 [(0, .ref a0), (1, .int i1), (2, .int (i2 + 1))] [] M P)
    (k3 : ¬ ((mi M a0 0) ≤ i2) → ((i1 >>> (i2 &&& 31)) &&& 1) = 1 → ((mi M ba0_4 (i2 : Int32).toNatClampNeg) &&& ((i1 &&& ((1 <<< (i2 &&& 31)) - 1)) ^^^ (-1))) = 0 → E0 g YX0_makesSense d 2 [(0, .ref a0), (1, .int i1), (2, .int (i2 + 1))] [] M P)
    (k4 : ¬ ((mi M a0 0) ≤ i2) → ((i1 >>> (i2 &&& 31)) &&& 1) = 1 → ¬ (((mi M ba0_4 (i2 : Int32).toNatClampNeg) &&& ((i1 &&& ((1 <<< (i2 &&& 31)) - 1)) ^^^ (-1))) = 0) → P (some (.int 0)) M) :
    E0 g YX0_makesSense d 2 [(0, .ref a0), (1, .int i1), (2, .int i2)] [] M P := by
  refine x_iload_n dX0_makesSense_2 2 rfl ?_
  refine x_aload_n dX0_makesSense_3 0 rfl ?_
  refine x_getI fdX0_41 rfl dX0_makesSense_4 h1.1 h1.2 ?_
  refine x_ic_ge 48 dX0_makesSense_7 (by decide) (fun c1 => ?_) (fun c1 => ?_)
  · refine x_iconst (v := 1) dX0_makesSense_48 (by decide) ?_
    exact x_zret rfl dX0_makesSense_49 rfl (Nat.le_refl _) (Nat.le_refl _) (k1 c1)
  · refine x_iload_n dX0_makesSense_10 1 rfl ?_
    refine x_iconst (v := 1) dX0_makesSense_11 (by decide) ?_
    refine x_iload_n dX0_makesSense_12 2 rfl ?_
    refine x_ishl dX0_makesSense_13 ?_
    refine x_iconst (v := 1) dX0_makesSense_14 (by decide) ?_
    refine x_isub dX0_makesSense_15 ?_
    refine x_iand dX0_makesSense_16 ?_
    refine x_istore_n (lv1 := [(3, .int (i1 &&& ((1 <<< (i2 &&& 31)) - 1))), (0, .ref a0), (1, .int i1), (2, .int i2)]) dX0_makesSense_17 (by decide) rfl ?_
    refine x_iload_n dX0_makesSense_18 2 rfl ?_
    refine x_iload_n dX0_makesSense_19 3 rfl ?_
    refine x_ishr dX0_makesSense_20 ?_
    refine x_iconst (v := 1) dX0_makesSense_21 (by decide) ?_
    refine x_iand dX0_makesSense_22 ?_
    refine x_iconst (v := 1) dX0_makesSense_23 (by decide) ?_
    refine x_ic_ne 42 dX0_makesSense_24 (by decide) (fun c2 => ?_) (fun c2 => ?_)
    · refine x_iinc (v := (i2 + 1)) (lv1 := [(2, .int (i2 + 1)), (3, .int (i1 &&& ((1 <<< (i2 &&& 31)) - 1))), (0, .ref a0), (1, .int i1)]) dX0_makesSense_42 3 rfl rfl (by decide) rfl ?_
      refine x_goto 2 dX0_makesSense_45 (by decide) ?_
      exact EX.sub [2, 3, 0] (k2 c1 c2) rfl
    · refine x_aload_n dX0_makesSense_27 1 rfl ?_
      refine x_getR fdX0_22 rfl dX0_makesSense_28 h1.1 h1.2 h2 ?_
      refine x_iload_n dX0_makesSense_31 3 rfl ?_
      refine x_iald dX0_makesSense_32 h3.1 h3.2 (h4 c1 c2) ?_
      refine x_iload_n dX0_makesSense_33 0 rfl ?_
      refine x_iconst (v := (-1)) dX0_makesSense_34 (by decide) ?_
      refine x_ixor dX0_makesSense_35 ?_
      refine x_iand dX0_makesSense_36 ?_
      refine x_if_eq 42 dX0_makesSense_37 (by decide) (fun c3 => ?_) (fun c3 => ?_)
      · refine x_iinc (v := (i2 + 1)) (lv1 := [(2, .int (i2 + 1)), (3, .int (i1 &&& ((1 <<< (i2 &&& 31)) - 1))), (0, .ref a0), (1, .int i1)]) dX0_makesSense_42 3 rfl rfl (by decide) rfl ?_
        refine x_goto 2 dX0_makesSense_45 (by decide) ?_
        exact EX.sub [2, 3, 0] (k3 c1 c2 c3) rfl
      · refine x_iconst (v := 0) dX0_makesSense_40 (by decide) ?_
        exact x_zret rfl dX0_makesSense_41 rfl (Nat.le_refl _) (Nat.le_refl _) (k4 c1 c2 c3)
set_option maxRecDepth 8000 in
theorem kX0_allNeeds_0 {g : GG} {d : Nat} {M : MM} {P : Option Value → MM → Prop} {a0 : Nat} {i1 : Int32}
    (h1 : ob M a0 0)
    (k1 : K0 g YX0_allNeeds YX0_isShot d 5 [.ref a0, .int i1] [(0, .ref a0), (1, .int i1)] [] M P) :
    E0 g YX0_allNeeds d 0 [(0, .ref a0), (1, .int i1)] [] M P := by
  refine x_aload_n dX0_allNeeds_0 0 rfl ?_
  refine x_iload_n dX0_allNeeds_1 1 rfl ?_
  refine EX.sub [0, 1] (K0.v (As := [.int i1]) (st := []) cvX0_51 dX0_allNeeds_2 rfl rfl h1 rfl (by decide) (k1)) rfl
set_option maxRecDepth 8000 in
theorem kX0_allNeeds_5 {g : GG} {d : Nat} {M : MM} {P : Option Value → MM → Prop} {a0 : Nat} {i1 : Int32} {s0 : Int32} {ba0_4 : Nat} {n_ba0_4 : Nat}
    (h1 : ob M a0 0)
    (h2 : mr M a0 4 = some ba0_4)
    (h3 : ar M ba0_4 1 n_ba0_4)
    (h4 : ¬ (s0 = 0) → vp_in i1 n_ba0_4)
    (k1 : s0 = 0 → E0 g YX0_allNeeds d 21 [(0, .ref a0), (2, .int 0), (3, .int 0)] [] M P)
    (k2 : ¬ (s0 = 0) → E0 g YX0_allNeeds d 21 [(0, .ref a0), (2, .int (mi M ba0_4 (i1 : Int32).toNatClampNeg)), (3, .int 0)] [] M P) :
    E0 g YX0_allNeeds d 5 [(0, .ref a0), (1, .int i1)] [.int s0] M P := by
  refine x_if_eq 17 dX0_allNeeds_5 (by decide) (fun c1 => ?_) (fun c1 => ?_)
  · refine x_iconst (v := 0) dX0_allNeeds_17 (by decide) ?_
    refine x_istore_n (lv1 := [(2, .int 0), (0, .ref a0), (1, .int i1)]) dX0_allNeeds_18 (by decide) rfl ?_
    refine x_iconst (v := 0) dX0_allNeeds_19 (by decide) ?_
    refine x_istore_n (lv1 := [(3, .int 0), (2, .int 0), (0, .ref a0), (1, .int i1)]) dX0_allNeeds_20 (by decide) rfl ?_
    exact EX.sub [2, 1, 0] (k1 c1) rfl
  · refine x_aload_n dX0_allNeeds_8 0 rfl ?_
    refine x_getR fdX0_22 rfl dX0_allNeeds_9 h1.1 h1.2 h2 ?_
    refine x_iload_n dX0_allNeeds_12 1 rfl ?_
    refine x_iald dX0_allNeeds_13 h3.1 h3.2 (h4 c1) ?_
    refine x_goto 18 dX0_allNeeds_14 (by decide) ?_
    refine x_istore_n (lv1 := [(2, .int (mi M ba0_4 (i1 : Int32).toNatClampNeg)), (0, .ref a0), (1, .int i1)]) dX0_allNeeds_18 (by decide) rfl ?_
    refine x_iconst (v := 0) dX0_allNeeds_19 (by decide) ?_
    refine x_istore_n (lv1 := [(3, .int 0), (2, .int (mi M ba0_4 (i1 : Int32).toNatClampNeg)), (0, .ref a0), (1, .int i1)]) dX0_allNeeds_20 (by decide) rfl ?_
    exact EX.sub [2, 1, 0] (k2 c1) rfl
set_option maxRecDepth 8000 in
theorem kX0_allNeeds_21 {g : GG} {d : Nat} {M : MM} {P : Option Value → MM → Prop} {a0 : Nat} {i2 : Int32} {i3 : Int32}
    (h1 : ob M a0 0)
    (k1 : (mi M a0 0) ≤ i3 → P (some (.int i2)) M)
    (k2 : ¬ ((mi M a0 0) ≤ i3) → E0 g YX0_allNeeds d 32 [(0, .ref a0), (2, .int i2), (3, .int i3), (4, .int 0)] [] M P) :
    E0 g YX0_allNeeds d 21 [(0, .ref a0), (2, .int i2), (3, .int i3)] [] M P := by
  refine x_iload_n dX0_allNeeds_21 2 rfl ?_
  refine x_aload_n dX0_allNeeds_22 0 rfl ?_
  refine x_getI fdX0_41 rfl dX0_allNeeds_23 h1.1 h1.2 ?_
  refine x_ic_ge 73 dX0_allNeeds_26 (by decide) (fun c1 => ?_) (fun c1 => ?_)
  · refine x_iload_n dX0_allNeeds_73 1 rfl ?_
    exact x_iret rfl dX0_allNeeds_74 (Nat.le_refl _) (Nat.le_refl _) (k1 c1)
  · refine x_iconst (v := 0) dX0_allNeeds_29 (by decide) ?_
    refine x_istore (lv1 := [(4, .int 0), (0, .ref a0), (2, .int i2), (3, .int i3)]) dX0_allNeeds_30 (by decide) rfl ?_
    exact EX.sub [1, 2, 3, 0] (k2 c1) rfl
set_option maxRecDepth 8000 in
theorem kX0_allNeeds_32 {g : GG} {d : Nat} {M : MM} {P : Option Value → MM → Prop} {a0 : Nat} {i2 : Int32} {i3 : Int32} {i4 : Int32} {ba0_4 : Nat} {n_ba0_4 : Nat}
    (h1 : ob M a0 0)
    (h2 : mr M a0 4 = some ba0_4)
    (h3 : ar M ba0_4 1 n_ba0_4)
    (h4 : ¬ ((mi M a0 0) ≤ i4) → ((i2 >>> (i4 &&& 31)) &&& 1) = 1 → vp_in i4 n_ba0_4)
    (k1 : (mi M a0 0) ≤ i4 → E0 g YX0_allNeeds d 21 [(0, .ref a0), (2, .int i2), (3, .int (i3 + 1))] [] M P)
    (k2 : ¬ ((mi M a0 0) ≤ i4) → ¬ ((i2 >>> (i4 &&& 31)) &&& 1) = 1 → E0 g YX0_allNeeds d 32 [(0, .ref a0), (2, .int i2), (3, .int i3), (4, .int (i4 + 1))] [] M P)
    (k3 : ¬ ((mi M a0 0) ≤ i4) → ((i2 >>> (i4 &&& 31)) &&& 1) = 1 → E0 g YX0_allNeeds d 32 [(0, .ref a0), (2, .int (i2 ||| (mi M ba0_4 (i4 : Int32).toNatClampNeg))), (3, .int i3), (4, .int (i4 + 1))] [] M P) :
    E0 g YX0_allNeeds d 32 [(0, .ref a0), (2, .int i2), (3, .int i3), (4, .int i4)] [] M P := by
  refine x_iload dX0_allNeeds_32 3 rfl ?_
  refine x_aload_n dX0_allNeeds_34 0 rfl ?_
  refine x_getI fdX0_41 rfl dX0_allNeeds_35 h1.1 h1.2 ?_
  refine x_ic_ge 67 dX0_allNeeds_38 (by decide) (fun c1 => ?_) (fun c1 => ?_)
  · refine x_iinc (v := (i3 + 1)) (lv1 := [(3, .int (i3 + 1)), (0, .ref a0), (2, .int i2), (4, .int i4)]) dX0_allNeeds_67 2 rfl rfl (by decide) rfl ?_
    refine x_goto 21 dX0_allNeeds_70 (by decide) ?_
    exact EX.sub [1, 2, 0] (k1 c1) rfl
  · refine x_iload_n dX0_allNeeds_41 1 rfl ?_
    refine x_iload dX0_allNeeds_42 3 rfl ?_
    refine x_ishr dX0_allNeeds_44 ?_
    refine x_iconst (v := 1) dX0_allNeeds_45 (by decide) ?_
    refine x_iand dX0_allNeeds_46 ?_
    refine x_iconst (v := 1) dX0_allNeeds_47 (by decide) ?_
    refine x_ic_ne 61 dX0_allNeeds_48 (by decide) (fun c2 => ?_) (fun c2 => ?_)
    · refine x_iinc (v := (i4 + 1)) (lv1 := [(4, .int (i4 + 1)), (0, .ref a0), (2, .int i2), (3, .int i3)]) dX0_allNeeds_61 3 rfl rfl (by decide) rfl ?_
      refine x_goto 32 dX0_allNeeds_64 (by decide) ?_
      exact EX.sub [1, 2, 3, 0] (k2 c1 c2) rfl
    · refine x_iload_n dX0_allNeeds_51 1 rfl ?_
      refine x_aload_n dX0_allNeeds_52 0 rfl ?_
      refine x_getR fdX0_22 rfl dX0_allNeeds_53 h1.1 h1.2 h2 ?_
      refine x_iload dX0_allNeeds_56 3 rfl ?_
      refine x_iald dX0_allNeeds_58 h3.1 h3.2 (h4 c1 c2) ?_
      refine x_ior dX0_allNeeds_59 ?_
      refine x_istore_n (lv1 := [(2, .int (i2 ||| (mi M ba0_4 (i4 : Int32).toNatClampNeg))), (0, .ref a0), (3, .int i3), (4, .int i4)]) dX0_allNeeds_60 (by decide) rfl ?_
      refine x_iinc (v := (i4 + 1)) (lv1 := [(4, .int (i4 + 1)), (2, .int (i2 ||| (mi M ba0_4 (i4 : Int32).toNatClampNeg))), (0, .ref a0), (3, .int i3)]) dX0_allNeeds_61 3 rfl rfl (by decide) rfl ?_
      refine x_goto 32 dX0_allNeeds_64 (by decide) ?_
      exact EX.sub [2, 1, 3, 0] (k3 c1 c2) rfl
set_option maxRecDepth 8000 in
theorem kX0_shotsOfSort_0 {g : GG} {d : Nat} {M : MM} {P : Option Value → MM → Prop} {a0 : Nat} {i1 : Int32}
    (k1 : E0 g YX0_shotsOfSort d 4 [(0, .ref a0), (1, .int i1), (2, .int 0), (3, .int 0)] [] M P) :
    E0 g YX0_shotsOfSort d 0 [(0, .ref a0), (1, .int i1)] [] M P := by
  refine x_iconst (v := 0) dX0_shotsOfSort_0 (by decide) ?_
  refine x_istore_n (lv1 := [(2, .int 0), (0, .ref a0), (1, .int i1)]) dX0_shotsOfSort_1 (by decide) rfl ?_
  refine x_iconst (v := 0) dX0_shotsOfSort_2 (by decide) ?_
  refine x_istore_n (lv1 := [(3, .int 0), (2, .int 0), (0, .ref a0), (1, .int i1)]) dX0_shotsOfSort_3 (by decide) rfl ?_
  exact EX.sub [2, 3, 1, 0] k1 rfl
set_option maxRecDepth 8000 in
theorem kX0_shotsOfSort_4 {g : GG} {d : Nat} {M : MM} {P : Option Value → MM → Prop} {a0 : Nat} {i1 : Int32} {i2 : Int32} {i3 : Int32} {ba0_2 : Nat} {n_ba0_2 : Nat}
    (h1 : ob M a0 0)
    (h2 : mr M a0 2 = some ba0_2)
    (h3 : ar M ba0_2 1 n_ba0_2)
    (h4 : ¬ ((mi M a0 0) ≤ i3) → vp_in i3 n_ba0_2)
    (k1 : (mi M a0 0) ≤ i3 → P (some (.int i2)) M)
    (k2 : ¬ ((mi M a0 0) ≤ i3) → ¬ (mi M ba0_2 (i3 : Int32).toNatClampNeg) = i1 → E0 g YX0_shotsOfSort d 4 [(0, .ref a0), (1, .int i1), (2, .int i2), (3, .int (i3 + 1))] [] M P)
    (k3 : ¬ ((mi M a0 0) ≤ i3) → (mi M ba0_2 (i3 : Int32).toNatClampNeg) = i1 → E0 g YX0_shotsOfSort d 4 [(0, .ref a0), (1, .int i1), (2, .int (i2 ||| (1 <<< (i3 &&& 31)))), (3, .int (i3 + 1))] [] M P) :
    E0 g YX0_shotsOfSort d 4 [(0, .ref a0), (1, .int i1), (2, .int i2), (3, .int i3)] [] M P := by
  refine x_iload_n dX0_shotsOfSort_4 3 rfl ?_
  refine x_aload_n dX0_shotsOfSort_5 0 rfl ?_
  refine x_getI fdX0_41 rfl dX0_shotsOfSort_6 h1.1 h1.2 ?_
  refine x_ic_ge 34 dX0_shotsOfSort_9 (by decide) (fun c1 => ?_) (fun c1 => ?_)
  · refine x_iload_n dX0_shotsOfSort_34 2 rfl ?_
    exact x_iret rfl dX0_shotsOfSort_35 (Nat.le_refl _) (Nat.le_refl _) (k1 c1)
  · refine x_aload_n dX0_shotsOfSort_12 0 rfl ?_
    refine x_getR fdX0_15 rfl dX0_shotsOfSort_13 h1.1 h1.2 h2 ?_
    refine x_iload_n dX0_shotsOfSort_16 3 rfl ?_
    refine x_iald dX0_shotsOfSort_17 h3.1 h3.2 (h4 c1) ?_
    refine x_iload_n dX0_shotsOfSort_18 1 rfl ?_
    refine x_ic_ne 28 dX0_shotsOfSort_19 (by decide) (fun c2 => ?_) (fun c2 => ?_)
    · refine x_iinc (v := (i3 + 1)) (lv1 := [(3, .int (i3 + 1)), (0, .ref a0), (1, .int i1), (2, .int i2)]) dX0_shotsOfSort_28 3 rfl rfl (by decide) rfl ?_
      refine x_goto 4 dX0_shotsOfSort_31 (by decide) ?_
      exact EX.sub [1, 2, 3, 0] (k2 c1 c2) rfl
    · refine x_iload_n dX0_shotsOfSort_22 2 rfl ?_
      refine x_iconst (v := 1) dX0_shotsOfSort_23 (by decide) ?_
      refine x_iload_n dX0_shotsOfSort_24 3 rfl ?_
      refine x_ishl dX0_shotsOfSort_25 ?_
      refine x_ior dX0_shotsOfSort_26 ?_
      refine x_istore_n (lv1 := [(2, .int (i2 ||| (1 <<< (i3 &&& 31)))), (0, .ref a0), (1, .int i1), (3, .int i3)]) dX0_shotsOfSort_27 (by decide) rfl ?_
      refine x_iinc (v := (i3 + 1)) (lv1 := [(3, .int (i3 + 1)), (2, .int (i2 ||| (1 <<< (i3 &&& 31)))), (0, .ref a0), (1, .int i1)]) dX0_shotsOfSort_28 3 rfl rfl (by decide) rfl ?_
      refine x_goto 4 dX0_shotsOfSort_31 (by decide) ?_
      exact EX.sub [2, 3, 1, 0] (k3 c1 c2) rfl
set_option maxRecDepth 8000 in
theorem kX0_unlikeFrom_0 {g : GG} {d : Nat} {M : MM} {P : Option Value → MM → Prop} {a0 : Nat} {i1 : Int32} {i2 : Int32}
    (h1 : 1 ≤ d)
    (k1 : E0 g YX0_unlikeFrom d 9 [(0, .ref a0), (1, .int i1), (3, .int 0), (4, .int (if i2 < 0 then 0 else i2))] [] M P) :
    E0 g YX0_unlikeFrom d 0 [(0, .ref a0), (1, .int i1), (2, .int i2)] [] M P := by
  refine x_iconst (v := 0) dX0_unlikeFrom_0 (by decide) ?_
  refine x_istore_n (lv1 := [(3, .int 0), (0, .ref a0), (1, .int i1), (2, .int i2)]) dX0_unlikeFrom_1 (by decide) rfl ?_
  refine x_iload_n dX0_unlikeFrom_2 3 rfl ?_
  refine x_iconst (v := 0) dX0_unlikeFrom_3 (by decide) ?_
  refine x_max dX0_unlikeFrom_4 mmX0_67 gk_max1 gk_math gk_max2 h1 (Nat.le_refl _) (Nat.le_refl _) (by decide) ?_
  refine x_istore (lv1 := [(4, .int (if i2 < 0 then 0 else i2)), (3, .int 0), (0, .ref a0), (1, .int i1), (2, .int i2)]) dX0_unlikeFrom_7 (by decide) rfl ?_
  exact EX.sub [2, 3, 1, 0] k1 rfl
set_option maxRecDepth 8000 in
theorem kX0_unlikeFrom_9 {g : GG} {d : Nat} {M : MM} {P : Option Value → MM → Prop} {a0 : Nat} {i1 : Int32} {i3 : Int32} {i4 : Int32} {ba0_2 : Nat} {n_ba0_2 : Nat}
    (h1 : ob M a0 0)
    (h2 : mr M a0 2 = some ba0_2)
    (h3 : ar M ba0_2 1 n_ba0_2)
    (h4 : ¬ ((mi M a0 0) ≤ i4) → ((i1 >>> (i4 &&& 31)) &&& 1) = 1 → vp_in i4 n_ba0_2)
    (k1 : (mi M a0 0) ≤ i4 → K0 g YX0_unlikeFrom YJ6_bitCount_0f7a4 d 64 [.int i3] [] [] M P)
    (k2 : ¬ ((mi M a0 0) ≤ i4) → ¬ ((i1 >>> (i4 &&& 31)) &&& 1) = 1 → E0 g YX0_unlikeFrom d 9 [(0, .ref a0), (1, .int i1), (3, .int i3), (4, .int (i4 + 1))] [] M P)
    (k3 : ¬ ((mi M a0 0) ≤ i4) → ((i1 >>> (i4 &&& 31)) &&& 1) = 1 → (i3 &&& (1 <<< ((mi M ba0_2 (i4 : Int32).toNatClampNeg) &&& 31))) = 0 → E0 g YX0_unlikeFrom d 9 [(0, .ref a0), (1, .int i1), (3, .int (i3 ||| (1 <<< ((mi M ba0_2 (i4 : Int32).toNatClampNeg) &&& 31)))), (4, .int (i4 + 1))] [] M P)
    (k4 : ¬ ((mi M a0 0) ≤ i4) → ((i1 >>> (i4 &&& 31)) &&& 1) = 1 → ¬ ((i3 &&& (1 <<< ((mi M ba0_2 (i4 : Int32).toNatClampNeg) &&& 31))) = 0) → K0 g YX0_unlikeFrom YJ6_bitCount_0f7a4 d 64 [.int i3] [] [] M P) :
    E0 g YX0_unlikeFrom d 9 [(0, .ref a0), (1, .int i1), (3, .int i3), (4, .int i4)] [] M P := by
  refine x_iload dX0_unlikeFrom_9 3 rfl ?_
  refine x_aload_n dX0_unlikeFrom_11 0 rfl ?_
  refine x_getI fdX0_41 rfl dX0_unlikeFrom_12 h1.1 h1.2 ?_
  refine x_ic_ge 60 dX0_unlikeFrom_15 (by decide) (fun c1 => ?_) (fun c1 => ?_)
  · refine x_iload_n dX0_unlikeFrom_60 2 rfl ?_
    refine EX.sub [] (K0.s (As := [.int i3]) (st := []) csX0_62 dX0_unlikeFrom_61 rfl rfl (by decide) (k1 c1)) rfl
  · refine x_iload_n dX0_unlikeFrom_18 1 rfl ?_
    refine x_iload dX0_unlikeFrom_19 3 rfl ?_
    refine x_ishr dX0_unlikeFrom_21 ?_
    refine x_iconst (v := 1) dX0_unlikeFrom_22 (by decide) ?_
    refine x_iand dX0_unlikeFrom_23 ?_
    refine x_iconst (v := 1) dX0_unlikeFrom_24 (by decide) ?_
    refine x_ic_ne 54 dX0_unlikeFrom_25 (by decide) (fun c2 => ?_) (fun c2 => ?_)
    · refine x_iinc (v := (i4 + 1)) (lv1 := [(4, .int (i4 + 1)), (0, .ref a0), (1, .int i1), (3, .int i3)]) dX0_unlikeFrom_54 3 rfl rfl (by decide) rfl ?_
      refine x_goto 9 dX0_unlikeFrom_57 (by decide) ?_
      exact EX.sub [1, 2, 3, 0] (k2 c1 c2) rfl
    · refine x_iconst (v := 1) dX0_unlikeFrom_28 (by decide) ?_
      refine x_aload_n dX0_unlikeFrom_29 0 rfl ?_
      refine x_getR fdX0_15 rfl dX0_unlikeFrom_30 h1.1 h1.2 h2 ?_
      refine x_iload dX0_unlikeFrom_33 3 rfl ?_
      refine x_iald dX0_unlikeFrom_35 h3.1 h3.2 (h4 c1 c2) ?_
      refine x_ishl dX0_unlikeFrom_36 ?_
      refine x_istore (lv1 := [(5, .int (1 <<< ((mi M ba0_2 (i4 : Int32).toNatClampNeg) &&& 31))), (0, .ref a0), (1, .int i1), (3, .int i3), (4, .int i4)]) dX0_unlikeFrom_37 (by decide) rfl ?_
      refine x_iload_n dX0_unlikeFrom_39 3 rfl ?_
      refine x_iload dX0_unlikeFrom_40 0 rfl ?_
      refine x_iand dX0_unlikeFrom_42 ?_
      refine x_if_eq 49 dX0_unlikeFrom_43 (by decide) (fun c3 => ?_) (fun c3 => ?_)
      · refine x_iload_n dX0_unlikeFrom_49 3 rfl ?_
        refine x_iload dX0_unlikeFrom_50 0 rfl ?_
        refine x_ior dX0_unlikeFrom_52 ?_
        refine x_istore_n (lv1 := [(3, .int (i3 ||| (1 <<< ((mi M ba0_2 (i4 : Int32).toNatClampNeg) &&& 31)))), (5, .int (1 <<< ((mi M ba0_2 (i4 : Int32).toNatClampNeg) &&& 31))), (0, .ref a0), (1, .int i1), (4, .int i4)]) dX0_unlikeFrom_53 (by decide) rfl ?_
        refine x_iinc (v := (i4 + 1)) (lv1 := [(4, .int (i4 + 1)), (3, .int (i3 ||| (1 <<< ((mi M ba0_2 (i4 : Int32).toNatClampNeg) &&& 31)))), (5, .int (1 <<< ((mi M ba0_2 (i4 : Int32).toNatClampNeg) &&& 31))), (0, .ref a0), (1, .int i1)]) dX0_unlikeFrom_54 4 rfl rfl (by decide) rfl ?_
        refine x_goto 9 dX0_unlikeFrom_57 (by decide) ?_
        exact EX.sub [3, 4, 1, 0] (k3 c1 c2 c3) rfl
      · refine x_goto 60 dX0_unlikeFrom_46 (by decide) ?_
        refine x_iload_n dX0_unlikeFrom_60 3 rfl ?_
        refine EX.sub [] (K0.s (As := [.int i3]) (st := []) csX0_62 dX0_unlikeFrom_61 rfl rfl (by decide) (k4 c1 c2 c3)) rfl
set_option maxRecDepth 8000 in
theorem kX0_unlikeFrom_64 {g : GG} {d : Nat} {M : MM} {P : Option Value → MM → Prop} {s0 : Int32}
    (k1 : P (some (.int s0)) M) :
    E0 g YX0_unlikeFrom d 64 [] [.int s0] M P := by
  exact x_iret rfl dX0_unlikeFrom_64 (Nat.le_refl _) (Nat.le_refl _) (k1)
set_option maxRecDepth 8000 in
theorem kX0_takenOut_0 {g : GG} {d : Nat} {M : MM} {P : Option Value → MM → Prop} {a0 : Nat} {i1 : Int32} {i2 : Int32}
    (h1 : ob M a0 0)
    (k1 : K0 g YX0_takenOut YX0_isHall d 5 [.ref a0, .int i1] [(0, .ref a0), (1, .int i1), (2, .int i2)] [] M P) :
    E0 g YX0_takenOut d 0 [(0, .ref a0), (1, .int i1), (2, .int i2)] [] M P := by
  refine x_aload_n dX0_takenOut_0 0 rfl ?_
  refine x_iload_n dX0_takenOut_1 1 rfl ?_
  refine EX.sub [0, 1, 2] (K0.v (As := [.int i1]) (st := []) cvX0_73 dX0_takenOut_2 rfl rfl h1 rfl (by decide) (k1)) rfl
set_option maxRecDepth 8000 in
theorem kX0_takenOut_5 {g : GG} {d : Nat} {M : MM} {P : Option Value → MM → Prop} {a0 : Nat} {i1 : Int32} {i2 : Int32} {s0 : Int32}
    (h1 : ob M a0 0)
    (k1 : ¬ s0 = 0 → K0 g YX0_takenOut YX0_hatedIn d 16 [.ref a0, .int i1, .int i2] [(0, .ref a0), (1, .int i1), (2, .int i2)] [] M P)
    (k2 : s0 = 0 → P (some (.int 0)) M) :
    E0 g YX0_takenOut d 5 [(0, .ref a0), (1, .int i1), (2, .int i2)] [.int s0] M P := by
  refine x_if_ne 10 dX0_takenOut_5 (by decide) (fun c1 => ?_) (fun c1 => ?_)
  · refine x_aload_n dX0_takenOut_10 0 rfl ?_
    refine x_iload_n dX0_takenOut_11 1 rfl ?_
    refine x_iload_n dX0_takenOut_12 2 rfl ?_
    refine EX.sub [0, 1, 2] (K0.v (As := [.int i1, .int i2]) (st := []) cvX0_76 dX0_takenOut_13 rfl rfl h1 rfl (by decide) (k1 c1)) rfl
  · refine x_iconst (v := 0) dX0_takenOut_8 (by decide) ?_
    exact x_iret rfl dX0_takenOut_9 (Nat.le_refl _) (Nat.le_refl _) (k2 c1)
set_option maxRecDepth 8000 in
theorem kX0_takenOut_16 {g : GG} {d : Nat} {M : MM} {P : Option Value → MM → Prop} {a0 : Nat} {i1 : Int32} {i2 : Int32} {s0 : Int32} {ba0_7 : Nat} {n_ba0_7 : Nat}
    (h1 : ob M a0 0)
    (h2 : mr M a0 7 = some ba0_7)
    (h3 : ar M ba0_7 1 n_ba0_7)
    (h4 : vp_in i1 n_ba0_7)
    (k1 : ((mi M ba0_7 (i1 : Int32).toNatClampNeg) : Int32).toInt < 1 ∨ 3 < ((mi M ba0_7 (i1 : Int32).toNatClampNeg) : Int32).toInt → P (some (.int s0)) M)
    (k2 : ((mi M ba0_7 (i1 : Int32).toNatClampNeg) : Int32).toInt = 1 → P (some (.int (s0 &&& (-s0)))) M)
    (k3 : ((mi M ba0_7 (i1 : Int32).toNatClampNeg) : Int32).toInt = 2 → K0 g YX0_takenOut YX0_behind d 60 [.ref a0, .int s0, .int i2] [] [.int s0] M P)
    (k4 : ((mi M ba0_7 (i1 : Int32).toNatClampNeg) : Int32).toInt = 3 → K0 g YX0_takenOut YX0_lastOf d 68 [.ref a0, .int i2] [] [.int s0] M P) :
    E0 g YX0_takenOut d 16 [(0, .ref a0), (1, .int i1), (2, .int i2)] [.int s0] M P := by
  refine x_istore_n (lv1 := [(3, .int s0), (0, .ref a0), (1, .int i1), (2, .int i2)]) dX0_takenOut_16 (by decide) rfl ?_
  refine x_aload_n dX0_takenOut_17 1 rfl ?_
  refine x_getR fdX0_28 rfl dX0_takenOut_18 h1.1 h1.2 h2 ?_
  refine x_iload_n dX0_takenOut_21 2 rfl ?_
  refine x_iald dX0_takenOut_22 h3.1 h3.2 (h4) ?_
  by_cases c1 : ((mi M ba0_7 (i1 : Int32).toNatClampNeg) : Int32).toInt < 1 ∨ 3 < ((mi M ba0_7 (i1 : Int32).toNatClampNeg) : Int32).toInt
  · refine x_tabOut 72 dX0_takenOut_23 c1 (by decide) ?_
    refine x_iload_n dX0_takenOut_72 0 rfl ?_
    exact x_iret rfl dX0_takenOut_73 (Nat.le_refl _) (Nat.le_refl _) (k1 c1)
  · have qc1 : ((mi M ba0_7 (i1 : Int32).toNatClampNeg) : Int32).toInt = 1 ∨ ((mi M ba0_7 (i1 : Int32).toNatClampNeg) : Int32).toInt = 2 ∨ ((mi M ba0_7 (i1 : Int32).toNatClampNeg) : Int32).toInt = 3 := by omega
    clear c1
    rcases qc1 with c1 | c1 | c1
    · refine x_tabIn 48 dX0_takenOut_23 (by omega) (by omega) (off := 25) (by rw [show (((mi M ba0_7 (i1 : Int32).toNatClampNeg) : Int32).toInt - 1).toNat = 0 by omega]; rfl) (by decide) ?_
      refine x_iload_n dX0_takenOut_48 0 rfl ?_
      refine x_iload_n dX0_takenOut_49 0 rfl ?_
      refine x_ineg dX0_takenOut_50 ?_
      refine x_iand dX0_takenOut_51 ?_
      exact x_iret rfl dX0_takenOut_52 (Nat.le_refl _) (Nat.le_refl _) (k2 c1)
    · refine x_tabIn 53 dX0_takenOut_23 (by omega) (by omega) (off := 30) (by rw [show (((mi M ba0_7 (i1 : Int32).toNatClampNeg) : Int32).toInt - 1).toNat = 1 by omega]; rfl) (by decide) ?_
      refine x_iload_n dX0_takenOut_53 0 rfl ?_
      refine x_aload_n dX0_takenOut_54 1 rfl ?_
      refine x_iload_n dX0_takenOut_55 0 rfl ?_
      refine x_iload_n dX0_takenOut_56 3 rfl ?_
      refine EX.sub [] (K0.v (As := [.int s0, .int i2]) (st := [.int s0]) cvX0_79 dX0_takenOut_57 rfl rfl h1 rfl (by decide) (k3 c1)) rfl
    · refine x_tabIn 62 dX0_takenOut_23 (by omega) (by omega) (off := 39) (by rw [show (((mi M ba0_7 (i1 : Int32).toNatClampNeg) : Int32).toInt - 1).toNat = 2 by omega]; rfl) (by decide) ?_
      refine x_iload_n dX0_takenOut_62 0 rfl ?_
      refine x_aload_n dX0_takenOut_63 1 rfl ?_
      refine x_iload_n dX0_takenOut_64 3 rfl ?_
      refine EX.sub [] (K0.v (As := [.int i2]) (st := [.int s0]) cvX0_82 dX0_takenOut_65 rfl rfl h1 rfl (by decide) (k4 c1)) rfl
set_option maxRecDepth 8000 in
theorem kX0_takenOut_60 {g : GG} {d : Nat} {M : MM} {P : Option Value → MM → Prop} {s0 : Int32} {s1 : Int32}
    (k1 : P (some (.int (s0 ||| s1))) M) :
    E0 g YX0_takenOut d 60 [] [.int s1, .int s0] M P := by
  refine x_ior dX0_takenOut_60 ?_
  exact x_iret rfl dX0_takenOut_61 (Nat.le_refl _) (Nat.le_refl _) (k1)
set_option maxRecDepth 8000 in
theorem kX0_takenOut_68 {g : GG} {d : Nat} {M : MM} {P : Option Value → MM → Prop} {s0 : Int32} {s1 : Int32}
    (k1 : P (some (.int (s0 &&& (s1 ^^^ (-1))))) M) :
    E0 g YX0_takenOut d 68 [] [.int s1, .int s0] M P := by
  refine x_iconst (v := (-1)) dX0_takenOut_68 (by decide) ?_
  refine x_ixor dX0_takenOut_69 ?_
  refine x_iand dX0_takenOut_70 ?_
  exact x_iret rfl dX0_takenOut_71 (Nat.le_refl _) (Nat.le_refl _) (k1)
set_option maxRecDepth 8000 in
theorem kX0_hatedIn_0 {g : GG} {d : Nat} {M : MM} {P : Option Value → MM → Prop} {a0 : Nat} {i1 : Int32} {i2 : Int32}
    (k1 : E0 g YX0_hatedIn d 12 [(0, .ref a0), (1, .int i1), (2, .int i2), (3, .int 0), (4, .int 0), (5, .int 10), (6, .int 0)] [] M P) :
    E0 g YX0_hatedIn d 0 [(0, .ref a0), (1, .int i1), (2, .int i2)] [] M P := by
  refine x_iconst (v := 0) dX0_hatedIn_0 (by decide) ?_
  refine x_istore_n (lv1 := [(3, .int 0), (0, .ref a0), (1, .int i1), (2, .int i2)]) dX0_hatedIn_1 (by decide) rfl ?_
  refine x_iconst (v := 0) dX0_hatedIn_2 (by decide) ?_
  refine x_istore (lv1 := [(4, .int 0), (3, .int 0), (0, .ref a0), (1, .int i1), (2, .int i2)]) dX0_hatedIn_3 (by decide) rfl ?_
  refine x_bipush (v := 10) dX0_hatedIn_5 (by decide) ?_
  refine x_istore (lv1 := [(5, .int 10), (4, .int 0), (3, .int 0), (0, .ref a0), (1, .int i1), (2, .int i2)]) dX0_hatedIn_7 (by decide) rfl ?_
  refine x_iconst (v := 0) dX0_hatedIn_9 (by decide) ?_
  refine x_istore (lv1 := [(6, .int 0), (5, .int 10), (4, .int 0), (3, .int 0), (0, .ref a0), (1, .int i1), (2, .int i2)]) dX0_hatedIn_10 (by decide) rfl ?_
  exact EX.sub [4, 5, 6, 3, 2, 1, 0] k1 rfl
set_option maxRecDepth 8000 in
theorem kX0_hatedIn_12 {g : GG} {d : Nat} {M : MM} {P : Option Value → MM → Prop} {a0 : Nat} {i1 : Int32} {i2 : Int32} {i3 : Int32} {i4 : Int32} {i5 : Int32} {i6 : Int32}
    (h1 : ob M a0 0)
    (k1 : (mi M a0 0) ≤ i6 → P (some (.int i3)) M)
    (k2 : ¬ ((mi M a0 0) ≤ i6) → ¬ ((i2 >>> (i6 &&& 31)) &&& 1) = 1 → E0 g YX0_hatedIn d 12 [(0, .ref a0), (1, .int i1), (2, .int i2), (3, .int i3), (4, .int i4), (5, .int i5), (6, .int (i6 + 1))] [] M P)
    (k3 : ¬ ((mi M a0 0) ≤ i6) → ((i2 >>> (i6 &&& 31)) &&& 1) = 1 → K0 g YX0_hatedIn YX0_keyOf d 40 [.ref a0, .int i1, .int i6, .int i4] [(0, .ref a0), (1, .int i1), (2, .int i2), (3, .int i3), (4, .int i4), (5, .int i5), (6, .int i6)] [] M P) :
    E0 g YX0_hatedIn d 12 [(0, .ref a0), (1, .int i1), (2, .int i2), (3, .int i3), (4, .int i4), (5, .int i5), (6, .int i6)] [] M P := by
  refine x_iload dX0_hatedIn_12 6 rfl ?_
  refine x_aload_n dX0_hatedIn_14 0 rfl ?_
  refine x_getI fdX0_41 rfl dX0_hatedIn_15 h1.1 h1.2 ?_
  refine x_ic_ge 89 dX0_hatedIn_18 (by decide) (fun c1 => ?_) (fun c1 => ?_)
  · refine x_iload_n dX0_hatedIn_89 3 rfl ?_
    exact x_iret rfl dX0_hatedIn_90 (Nat.le_refl _) (Nat.le_refl _) (k1 c1)
  · refine x_iload_n dX0_hatedIn_21 2 rfl ?_
    refine x_iload dX0_hatedIn_22 6 rfl ?_
    refine x_ishr dX0_hatedIn_24 ?_
    refine x_iconst (v := 1) dX0_hatedIn_25 (by decide) ?_
    refine x_iand dX0_hatedIn_26 ?_
    refine x_iconst (v := 1) dX0_hatedIn_27 (by decide) ?_
    refine x_ic_ne 83 dX0_hatedIn_28 (by decide) (fun c2 => ?_) (fun c2 => ?_)
    · refine x_iinc (v := (i6 + 1)) (lv1 := [(6, .int (i6 + 1)), (0, .ref a0), (1, .int i1), (2, .int i2), (3, .int i3), (4, .int i4), (5, .int i5)]) dX0_hatedIn_83 6 rfl rfl (by decide) rfl ?_
      refine x_goto 12 dX0_hatedIn_86 (by decide) ?_
      exact EX.sub [1, 2, 3, 4, 5, 6, 0] (k2 c1 c2) rfl
    · refine x_aload_n dX0_hatedIn_31 0 rfl ?_
      refine x_iload_n dX0_hatedIn_32 1 rfl ?_
      refine x_iload dX0_hatedIn_33 6 rfl ?_
      refine x_iload dX0_hatedIn_35 4 rfl ?_
      refine EX.sub [0, 1, 2, 3, 4, 5, 6] (K0.v (As := [.int i1, .int i6, .int i4]) (st := []) cvX0_85 dX0_hatedIn_37 rfl rfl h1 rfl (by decide) (k3 c1 c2)) rfl
set_option maxRecDepth 8000 in
theorem kX0_hatedIn_40 {g : GG} {d : Nat} {M : MM} {P : Option Value → MM → Prop} {a0 : Nat} {i1 : Int32} {i2 : Int32} {i3 : Int32} {i4 : Int32} {i5 : Int32} {i6 : Int32} {s0 : Int32} {ba0_2 : Nat} {n_ba0_2 : Nat} {ba0_9 : Nat} {n_ba0_9 : Nat}
    (h1 : ob M a0 0)
    (h2 : mr M a0 2 = some ba0_2)
    (h3 : ar M ba0_2 1 n_ba0_2)
    (h4 : s0 = (-1) → vp_in i6 n_ba0_2)
    (h5 : mr M a0 9 = some ba0_9)
    (h6 : ar M ba0_9 1 n_ba0_9)
    (h7 : ¬ (s0 = (-1)) → vp_in s0 n_ba0_9)
    (h8 : ¬ (s0 = (-1)) → ¬ (((mi M ba0_9 (s0 : Int32).toNatClampNeg) >>> (i5 &&& 31)) &&& 1) = 1 → vp_in i6 n_ba0_2)
    (h9 : ¬ (s0 = (-1)) → (((mi M ba0_9 (s0 : Int32).toNatClampNeg) >>> (i5 &&& 31)) &&& 1) = 1 → vp_in i6 n_ba0_2)
    (k1 : s0 = (-1) → E0 g YX0_hatedIn d 12 [(0, .ref a0), (1, .int i1), (2, .int i2), (3, .int i3), (4, .int (i4 + 1)), (5, .int (mi M ba0_2 (i6 : Int32).toNatClampNeg)), (6, .int (i6 + 1))] [] M P)
    (k2 : ¬ (s0 = (-1)) → ¬ (((mi M ba0_9 (s0 : Int32).toNatClampNeg) >>> (i5 &&& 31)) &&& 1) = 1 → E0 g YX0_hatedIn d 12 [(0, .ref a0), (1, .int i1), (2, .int i2), (3, .int i3), (4, .int (i4 + 1)), (5, .int (mi M ba0_2 (i6 : Int32).toNatClampNeg)), (6, .int (i6 + 1))] [] M P)
    (k3 : ¬ (s0 = (-1)) → (((mi M ba0_9 (s0 : Int32).toNatClampNeg) >>> (i5 &&& 31)) &&& 1) = 1 → E0 g YX0_hatedIn d 12 [(0, .ref a0), (1, .int i1), (2, .int i2), (3, .int (i3 ||| (1 <<< (i6 &&& 31)))), (4, .int (i4 + 1)), (5, .int (mi M ba0_2 (i6 : Int32).toNatClampNeg)), (6, .int (i6 + 1))] [] M P) :
    E0 g YX0_hatedIn d 40 [(0, .ref a0), (1, .int i1), (2, .int i2), (3, .int i3), (4, .int i4), (5, .int i5), (6, .int i6)] [.int s0] M P := by
  refine x_istore (lv1 := [(7, .int s0), (0, .ref a0), (1, .int i1), (2, .int i2), (3, .int i3), (4, .int i4), (5, .int i5), (6, .int i6)]) dX0_hatedIn_40 (by decide) rfl ?_
  refine x_iload dX0_hatedIn_42 0 rfl ?_
  refine x_iconst (v := (-1)) dX0_hatedIn_44 (by decide) ?_
  refine x_ic_eq 71 dX0_hatedIn_45 (by decide) (fun c1 => ?_) (fun c1 => ?_)
  · refine x_iinc (v := (i4 + 1)) (lv1 := [(4, .int (i4 + 1)), (7, .int s0), (0, .ref a0), (1, .int i1), (2, .int i2), (3, .int i3), (5, .int i5), (6, .int i6)]) dX0_hatedIn_71 5 rfl rfl (by decide) rfl ?_
    refine x_aload_n dX0_hatedIn_74 2 rfl ?_
    refine x_getR fdX0_15 rfl dX0_hatedIn_75 h1.1 h1.2 h2 ?_
    refine x_iload dX0_hatedIn_78 7 rfl ?_
    refine x_iald dX0_hatedIn_80 h3.1 h3.2 (h4 c1) ?_
    refine x_istore (lv1 := [(5, .int (mi M ba0_2 (i6 : Int32).toNatClampNeg)), (4, .int (i4 + 1)), (7, .int s0), (0, .ref a0), (1, .int i1), (2, .int i2), (3, .int i3), (6, .int i6)]) dX0_hatedIn_81 (by decide) rfl ?_
    refine x_iinc (v := (i6 + 1)) (lv1 := [(6, .int (i6 + 1)), (5, .int (mi M ba0_2 (i6 : Int32).toNatClampNeg)), (4, .int (i4 + 1)), (7, .int s0), (0, .ref a0), (1, .int i1), (2, .int i2), (3, .int i3)]) dX0_hatedIn_83 7 rfl rfl (by decide) rfl ?_
    refine x_goto 12 dX0_hatedIn_86 (by decide) ?_
    exact EX.sub [4, 5, 6, 7, 2, 1, 0] (k1 c1) rfl
  · refine x_aload_n dX0_hatedIn_48 1 rfl ?_
    refine x_getR fdX0_38 rfl dX0_hatedIn_49 h1.1 h1.2 h5 ?_
    refine x_iload dX0_hatedIn_52 0 rfl ?_
    refine x_iald dX0_hatedIn_54 h6.1 h6.2 (h7 c1) ?_
    refine x_iload dX0_hatedIn_55 6 rfl ?_
    refine x_ishr dX0_hatedIn_57 ?_
    refine x_iconst (v := 1) dX0_hatedIn_58 (by decide) ?_
    refine x_iand dX0_hatedIn_59 ?_
    refine x_iconst (v := 1) dX0_hatedIn_60 (by decide) ?_
    refine x_ic_ne 71 dX0_hatedIn_61 (by decide) (fun c2 => ?_) (fun c2 => ?_)
    · refine x_iinc (v := (i4 + 1)) (lv1 := [(4, .int (i4 + 1)), (7, .int s0), (0, .ref a0), (1, .int i1), (2, .int i2), (3, .int i3), (5, .int i5), (6, .int i6)]) dX0_hatedIn_71 5 rfl rfl (by decide) rfl ?_
      refine x_aload_n dX0_hatedIn_74 2 rfl ?_
      refine x_getR fdX0_15 rfl dX0_hatedIn_75 h1.1 h1.2 h2 ?_
      refine x_iload dX0_hatedIn_78 7 rfl ?_
      refine x_iald dX0_hatedIn_80 h3.1 h3.2 (h8 c1 c2) ?_
      refine x_istore (lv1 := [(5, .int (mi M ba0_2 (i6 : Int32).toNatClampNeg)), (4, .int (i4 + 1)), (7, .int s0), (0, .ref a0), (1, .int i1), (2, .int i2), (3, .int i3), (6, .int i6)]) dX0_hatedIn_81 (by decide) rfl ?_
      refine x_iinc (v := (i6 + 1)) (lv1 := [(6, .int (i6 + 1)), (5, .int (mi M ba0_2 (i6 : Int32).toNatClampNeg)), (4, .int (i4 + 1)), (7, .int s0), (0, .ref a0), (1, .int i1), (2, .int i2), (3, .int i3)]) dX0_hatedIn_83 7 rfl rfl (by decide) rfl ?_
      refine x_goto 12 dX0_hatedIn_86 (by decide) ?_
      exact EX.sub [4, 5, 6, 7, 2, 1, 0] (k2 c1 c2) rfl
    · refine x_iload_n dX0_hatedIn_64 4 rfl ?_
      refine x_iconst (v := 1) dX0_hatedIn_65 (by decide) ?_
      refine x_iload dX0_hatedIn_66 7 rfl ?_
      refine x_ishl dX0_hatedIn_68 ?_
      refine x_ior dX0_hatedIn_69 ?_
      refine x_istore_n (lv1 := [(3, .int (i3 ||| (1 <<< (i6 &&& 31)))), (7, .int s0), (0, .ref a0), (1, .int i1), (2, .int i2), (4, .int i4), (5, .int i5), (6, .int i6)]) dX0_hatedIn_70 (by decide) rfl ?_
      refine x_iinc (v := (i4 + 1)) (lv1 := [(4, .int (i4 + 1)), (3, .int (i3 ||| (1 <<< (i6 &&& 31)))), (7, .int s0), (0, .ref a0), (1, .int i1), (2, .int i2), (5, .int i5), (6, .int i6)]) dX0_hatedIn_71 5 rfl rfl (by decide) rfl ?_
      refine x_aload_n dX0_hatedIn_74 3 rfl ?_
      refine x_getR fdX0_15 rfl dX0_hatedIn_75 h1.1 h1.2 h2 ?_
      refine x_iload dX0_hatedIn_78 7 rfl ?_
      refine x_iald dX0_hatedIn_80 h3.1 h3.2 (h9 c1 c2) ?_
      refine x_istore (lv1 := [(5, .int (mi M ba0_2 (i6 : Int32).toNatClampNeg)), (4, .int (i4 + 1)), (3, .int (i3 ||| (1 <<< (i6 &&& 31)))), (7, .int s0), (0, .ref a0), (1, .int i1), (2, .int i2), (6, .int i6)]) dX0_hatedIn_81 (by decide) rfl ?_
      refine x_iinc (v := (i6 + 1)) (lv1 := [(6, .int (i6 + 1)), (5, .int (mi M ba0_2 (i6 : Int32).toNatClampNeg)), (4, .int (i4 + 1)), (3, .int (i3 ||| (1 <<< (i6 &&& 31)))), (7, .int s0), (0, .ref a0), (1, .int i1), (2, .int i2)]) dX0_hatedIn_83 7 rfl rfl (by decide) rfl ?_
      refine x_goto 12 dX0_hatedIn_86 (by decide) ?_
      exact EX.sub [5, 6, 7, 3, 2, 1, 0] (k3 c1 c2) rfl
set_option maxRecDepth 8000 in
theorem kX0_judgeAll_0 {g : GG} {d : Nat} {M : MM} {P : Option Value → MM → Prop} {a0 : Nat}
    (k1 : E0 g YX0_judgeAll d 2 [(0, .ref a0), (1, .int 0)] [] M P) :
    E0 g YX0_judgeAll d 0 [(0, .ref a0)] [] M P := by
  refine x_iconst (v := 0) dX0_judgeAll_0 (by decide) ?_
  refine x_istore_n (lv1 := [(1, .int 0), (0, .ref a0)]) dX0_judgeAll_1 (by decide) rfl ?_
  exact EX.sub [1, 0] k1 rfl
set_option maxRecDepth 8000 in
theorem kX0_judgeAll_2 {g : GG} {d : Nat} {M : MM} {P : Option Value → MM → Prop} {a0 : Nat} {i1 : Int32}
    (h1 : ob M a0 0)
    (k1 : (mi M a0 5) ≤ i1 → P none M)
    (k2 : ¬ ((mi M a0 5) ≤ i1) → E0 g YX0_judgeAll d 14 [(0, .ref a0), (1, .int i1), (2, .int 0), (3, .int 0)] [] M P) :
    E0 g YX0_judgeAll d 2 [(0, .ref a0), (1, .int i1)] [] M P := by
  refine x_iload_n dX0_judgeAll_2 1 rfl ?_
  refine x_aload_n dX0_judgeAll_3 0 rfl ?_
  refine x_getI fdX0_45 rfl dX0_judgeAll_4 h1.1 h1.2 ?_
  refine x_ic_ge 79 dX0_judgeAll_7 (by decide) (fun c1 => ?_) (fun c1 => ?_)
  · exact x_vret rfl dX0_judgeAll_79 (Nat.le_refl _) (Nat.le_refl _) (k1 c1)
  · refine x_iconst (v := 0) dX0_judgeAll_10 (by decide) ?_
    refine x_istore_n (lv1 := [(2, .int 0), (0, .ref a0), (1, .int i1)]) dX0_judgeAll_11 (by decide) rfl ?_
    refine x_iconst (v := 0) dX0_judgeAll_12 (by decide) ?_
    refine x_istore_n (lv1 := [(3, .int 0), (2, .int 0), (0, .ref a0), (1, .int i1)]) dX0_judgeAll_13 (by decide) rfl ?_
    exact EX.sub [2, 3, 1, 0] (k2 c1) rfl
set_option maxRecDepth 8000 in
theorem kX0_judgeAll_14 {g : GG} {d : Nat} {M : MM} {P : Option Value → MM → Prop} {a0 : Nat} {i1 : Int32} {i2 : Int32} {i3 : Int32}
    (h1 : ob M a0 0)
    (k1 : (mi M a0 0) ≤ i3 → E0 g YX0_judgeAll d 2 [(0, .ref a0), (1, .int (i1 + 1))] [] M P)
    (k2 : ¬ ((mi M a0 0) ≤ i3) → K0 g YX0_judgeAll YX0_judge d 32 [.ref a0, .int i1, .int i3, .int 0, .int 1024] [(0, .ref a0), (1, .int i1), (2, .int i2), (3, .int i3)] [] M P) :
    E0 g YX0_judgeAll d 14 [(0, .ref a0), (1, .int i1), (2, .int i2), (3, .int i3)] [] M P := by
  refine x_iload_n dX0_judgeAll_14 3 rfl ?_
  refine x_aload_n dX0_judgeAll_15 0 rfl ?_
  refine x_getI fdX0_41 rfl dX0_judgeAll_16 h1.1 h1.2 ?_
  refine x_ic_ge 73 dX0_judgeAll_19 (by decide) (fun c1 => ?_) (fun c1 => ?_)
  · refine x_iinc (v := (i1 + 1)) (lv1 := [(1, .int (i1 + 1)), (0, .ref a0), (2, .int i2), (3, .int i3)]) dX0_judgeAll_73 1 rfl rfl (by decide) rfl ?_
    refine x_goto 2 dX0_judgeAll_76 (by decide) ?_
    exact EX.sub [1, 0] (k1 c1) rfl
  · refine x_aload_n dX0_judgeAll_22 0 rfl ?_
    refine x_iload_n dX0_judgeAll_23 1 rfl ?_
    refine x_iload_n dX0_judgeAll_24 3 rfl ?_
    refine x_iconst (v := 0) dX0_judgeAll_25 (by decide) ?_
    refine x_sipush (v := 1024) dX0_judgeAll_26 (by decide) ?_
    refine EX.sub [0, 1, 2, 3] (K0.v (As := [.int i1, .int i3, .int 0, .int 1024]) (st := []) cvX0_89 dX0_judgeAll_29 rfl rfl h1 rfl (by decide) (k2 c1)) rfl
set_option maxRecDepth 8000 in
theorem kX0_judgeAll_32 {g : GG} {d : Nat} {M : MM} {P : Option Value → MM → Prop} {a0 : Nat} {i1 : Int32} {i2 : Int32} {i3 : Int32}
    (k1 : E0 g YX0_judgeAll d 35 [(0, .ref a0), (1, .int i1), (2, .int i2), (3, .int i3), (4, .int 1)] [] M P) :
    E0 g YX0_judgeAll d 32 [(0, .ref a0), (1, .int i1), (2, .int i2), (3, .int i3)] [] M P := by
  refine x_iconst (v := 1) dX0_judgeAll_32 (by decide) ?_
  refine x_istore (lv1 := [(4, .int 1), (0, .ref a0), (1, .int i1), (2, .int i2), (3, .int i3)]) dX0_judgeAll_33 (by decide) rfl ?_
  exact EX.sub [1, 2, 3, 4, 0] k1 rfl
set_option maxRecDepth 8000 in
theorem kX0_judgeAll_35 {g : GG} {d : Nat} {M : MM} {P : Option Value → MM → Prop} {a0 : Nat} {i1 : Int32} {i2 : Int32} {i3 : Int32} {i4 : Int32} {ba0_2 : Nat} {n_ba0_2 : Nat}
    (h1 : ob M a0 0)
    (h2 : mr M a0 2 = some ba0_2)
    (h3 : ar M ba0_2 1 n_ba0_2)
    (h4 : i3 < i4 → vp_in i3 n_ba0_2)
    (k1 : i3 < i4 → E0 g YX0_judgeAll d 14 [(0, .ref a0), (1, .int i1), (2, .int (i2 ||| (1 <<< ((mi M ba0_2 (i3 : Int32).toNatClampNeg) &&& 31)))), (3, .int (i3 + 1))] [] M P)
    (k2 : ¬ (i3 < i4) → K0 g YX0_judgeAll YX0_judge d 50 [.ref a0, .int i1, .int i3, .int i4, .int i2] [(0, .ref a0), (1, .int i1), (2, .int i2), (3, .int i3), (4, .int i4)] [] M P) :
    E0 g YX0_judgeAll d 35 [(0, .ref a0), (1, .int i1), (2, .int i2), (3, .int i3), (4, .int i4)] [] M P := by
  refine x_iload dX0_judgeAll_35 4 rfl ?_
  refine x_iload_n dX0_judgeAll_37 3 rfl ?_
  refine x_ic_gt 56 dX0_judgeAll_38 (by decide) (fun c1 => ?_) (fun c1 => ?_)
  · refine x_iload_n dX0_judgeAll_56 2 rfl ?_
    refine x_iconst (v := 1) dX0_judgeAll_57 (by decide) ?_
    refine x_aload_n dX0_judgeAll_58 0 rfl ?_
    refine x_getR fdX0_15 rfl dX0_judgeAll_59 h1.1 h1.2 h2 ?_
    refine x_iload_n dX0_judgeAll_62 3 rfl ?_
    refine x_iald dX0_judgeAll_63 h3.1 h3.2 (h4 c1) ?_
    refine x_ishl dX0_judgeAll_64 ?_
    refine x_ior dX0_judgeAll_65 ?_
    refine x_istore_n (lv1 := [(2, .int (i2 ||| (1 <<< ((mi M ba0_2 (i3 : Int32).toNatClampNeg) &&& 31)))), (0, .ref a0), (1, .int i1), (3, .int i3), (4, .int i4)]) dX0_judgeAll_66 (by decide) rfl ?_
    refine x_iinc (v := (i3 + 1)) (lv1 := [(3, .int (i3 + 1)), (2, .int (i2 ||| (1 <<< ((mi M ba0_2 (i3 : Int32).toNatClampNeg) &&& 31)))), (0, .ref a0), (1, .int i1), (4, .int i4)]) dX0_judgeAll_67 3 rfl rfl (by decide) rfl ?_
    refine x_goto 14 dX0_judgeAll_70 (by decide) ?_
    exact EX.sub [2, 3, 1, 0] (k1 c1) rfl
  · refine x_aload_n dX0_judgeAll_41 0 rfl ?_
    refine x_iload_n dX0_judgeAll_42 1 rfl ?_
    refine x_iload_n dX0_judgeAll_43 3 rfl ?_
    refine x_iload dX0_judgeAll_44 4 rfl ?_
    refine x_iload_n dX0_judgeAll_46 2 rfl ?_
    refine EX.sub [0, 1, 2, 3, 4] (K0.v (As := [.int i1, .int i3, .int i4, .int i2]) (st := []) cvX0_89 dX0_judgeAll_47 rfl rfl h1 rfl (by decide) (k2 c1)) rfl
set_option maxRecDepth 8000 in
theorem kX0_judgeAll_50 {g : GG} {d : Nat} {M : MM} {P : Option Value → MM → Prop} {a0 : Nat} {i1 : Int32} {i2 : Int32} {i3 : Int32} {i4 : Int32}
    (k1 : E0 g YX0_judgeAll d 35 [(0, .ref a0), (1, .int i1), (2, .int i2), (3, .int i3), (4, .int (i4 + 1))] [] M P) :
    E0 g YX0_judgeAll d 50 [(0, .ref a0), (1, .int i1), (2, .int i2), (3, .int i3), (4, .int i4)] [] M P := by
  refine x_iinc (v := (i4 + 1)) (lv1 := [(4, .int (i4 + 1)), (0, .ref a0), (1, .int i1), (2, .int i2), (3, .int i3)]) dX0_judgeAll_50 4 rfl rfl (by decide) rfl ?_
  refine x_goto 35 dX0_judgeAll_53 (by decide) ?_
  exact EX.sub [1, 2, 3, 4, 0] k1 rfl
set_option maxRecDepth 8000 in
theorem kX0_judge_0 {g : GG} {d : Nat} {M : MM} {P : Option Value → MM → Prop} {a0 : Nat} {i1 : Int32} {i2 : Int32} {i3 : Int32} {i4 : Int32}
    (h1 : ob M a0 0)
    (k1 : K0 g YX0_judge YX0_keyOf d 7 [.ref a0, .int i1, .int i2, .int i3] [(0, .ref a0), (1, .int i1), (2, .int i2), (3, .int i3), (4, .int i4)] [] M P) :
    E0 g YX0_judge d 0 [(0, .ref a0), (1, .int i1), (2, .int i2), (3, .int i3), (4, .int i4)] [] M P := by
  refine x_aload_n dX0_judge_0 0 rfl ?_
  refine x_iload_n dX0_judge_1 1 rfl ?_
  refine x_iload_n dX0_judge_2 2 rfl ?_
  refine x_iload_n dX0_judge_3 3 rfl ?_
  refine EX.sub [0, 1, 2, 3, 4] (K0.v (As := [.int i1, .int i2, .int i3]) (st := []) cvX0_85 dX0_judge_4 rfl rfl h1 rfl (by decide) (k1)) rfl
set_option maxRecDepth 8000 in
theorem kX0_judge_7 {g : GG} {d : Nat} {M : MM} {P : Option Value → MM → Prop} {a0 : Nat} {i1 : Int32} {i2 : Int32} {i3 : Int32} {i4 : Int32} {s0 : Int32} {ba0_9 : Nat} {n_ba0_9 : Nat} {M1 : MM}
    (qM1 : M1 = wi M ba0_9 (s0 : Int32).toNatClampNeg 0)
    (h1 : ob M a0 0)
    (h2 : mr M a0 9 = some ba0_9)
    (h3 : ar M ba0_9 1 n_ba0_9)
    (h4 : ¬ s0 = (-1) → vp_in s0 n_ba0_9)
    (k1 : ¬ s0 = (-1) → E0 g YX0_judge d 27 [(0, .ref a0), (1, .int i1), (2, .int i2), (3, .int i3), (4, .int i4), (5, .int s0), (6, .int 0)] [] M1 P)
    (k2 : s0 = (-1) → P none M) :
    E0 g YX0_judge d 7 [(0, .ref a0), (1, .int i1), (2, .int i2), (3, .int i3), (4, .int i4)] [.int s0] M P := by
  subst qM1
  refine x_istore (lv1 := [(5, .int s0), (0, .ref a0), (1, .int i1), (2, .int i2), (3, .int i3), (4, .int i4)]) dX0_judge_7 (by decide) rfl ?_
  refine x_iload dX0_judge_9 0 rfl ?_
  refine x_iconst (v := (-1)) dX0_judge_11 (by decide) ?_
  refine x_ic_ne 16 dX0_judge_12 (by decide) (fun c1 => ?_) (fun c1 => ?_)
  · refine x_aload_n dX0_judge_16 1 rfl ?_
    refine x_getR fdX0_38 rfl dX0_judge_17 h1.1 h1.2 h2 ?_
    refine x_iload dX0_judge_20 0 rfl ?_
    refine x_iconst (v := 0) dX0_judge_22 (by decide) ?_
    refine x_iast dX0_judge_23 h3.1 h3.2 (h4 c1) ?_
    refine x_iconst (v := 0) dX0_judge_24 (by decide) ?_
    refine x_istore (lv1 := [(6, .int 0), (5, .int s0), (0, .ref a0), (1, .int i1), (2, .int i2), (3, .int i3), (4, .int i4)]) dX0_judge_25 (by decide) rfl ?_
    exact EX.sub [2, 3, 4, 5, 6, 1, 0] (k1 c1) rfl
  · exact x_vret rfl dX0_judge_15 (Nat.le_refl _) (Nat.le_refl _) (k2 c1)
set_option maxRecDepth 8000 in
theorem kX0_judge_27 {g : GG} {d : Nat} {M : MM} {P : Option Value → MM → Prop} {a0 : Nat} {i1 : Int32} {i2 : Int32} {i3 : Int32} {i4 : Int32} {i5 : Int32} {i6 : Int32} {ba0_8 : Nat} {ba0_2 : Nat} {n_ba0_2 : Nat} {ba0_3 : Nat} {n_ba0_3 : Nat}
    (h1 : ob M a0 0)
    (h2 : mr M a0 8 = some ba0_8)
    (h3 : mr M a0 2 = some ba0_2)
    (h4 : ar M ba0_2 1 n_ba0_2)
    (h5 : ¬ (10 < i6) → ((i4 >>> (i6 &&& 31)) &&& 1) = 1 → vp_in i2 n_ba0_2)
    (h6 : mr M a0 3 = some ba0_3)
    (h7 : ar M ba0_3 1 n_ba0_3)
    (h8 : ¬ (10 < i6) → ((i4 >>> (i6 &&& 31)) &&& 1) = 1 → vp_in i2 n_ba0_3)
    (h9 : ob M ba0_8 2)
    (k1 : 10 < i6 → P none M)
    (k2 : ¬ (10 < i6) → ¬ ((i4 >>> (i6 &&& 31)) &&& 1) = 1 → E0 g YX0_judge d 27 [(0, .ref a0), (1, .int i1), (2, .int i2), (3, .int i3), (4, .int i4), (5, .int i5), (6, .int (i6 + 1))] [] M P)
    (k3 : ¬ (10 < i6) → ((i4 >>> (i6 &&& 31)) &&& 1) = 1 → K0 g YX0_judge YX2_valueFor d 68 [.ref ba0_8, .int i1, .int (mi M ba0_2 (i2 : Int32).toNatClampNeg), .int (mi M ba0_3 (i2 : Int32).toNatClampNeg), .int i3, .int i6] [(0, .ref a0), (1, .int i1), (2, .int i2), (3, .int i3), (4, .int i4), (5, .int i5), (6, .int i6)] [] M P) :
    E0 g YX0_judge d 27 [(0, .ref a0), (1, .int i1), (2, .int i2), (3, .int i3), (4, .int i4), (5, .int i5), (6, .int i6)] [] M P := by
  refine x_iload dX0_judge_27 6 rfl ?_
  refine x_bipush (v := 10) dX0_judge_29 (by decide) ?_
  refine x_ic_gt 91 dX0_judge_31 (by decide) (fun c1 => ?_) (fun c1 => ?_)
  · exact x_vret rfl dX0_judge_91 (Nat.le_refl _) (Nat.le_refl _) (k1 c1)
  · refine x_iload dX0_judge_34 4 rfl ?_
    refine x_iload dX0_judge_36 6 rfl ?_
    refine x_ishr dX0_judge_38 ?_
    refine x_iconst (v := 1) dX0_judge_39 (by decide) ?_
    refine x_iand dX0_judge_40 ?_
    refine x_iconst (v := 1) dX0_judge_41 (by decide) ?_
    refine x_ic_ne 85 dX0_judge_42 (by decide) (fun c2 => ?_) (fun c2 => ?_)
    · refine x_iinc (v := (i6 + 1)) (lv1 := [(6, .int (i6 + 1)), (0, .ref a0), (1, .int i1), (2, .int i2), (3, .int i3), (4, .int i4), (5, .int i5)]) dX0_judge_85 6 rfl rfl (by decide) rfl ?_
      refine x_goto 27 dX0_judge_88 (by decide) ?_
      exact EX.sub [1, 2, 3, 4, 5, 6, 0] (k2 c1 c2) rfl
    · refine x_aload_n dX0_judge_45 0 rfl ?_
      refine x_getR fdX0_34 rfl dX0_judge_46 h1.1 h1.2 h2 ?_
      refine x_iload_n dX0_judge_49 1 rfl ?_
      refine x_aload_n dX0_judge_50 0 rfl ?_
      refine x_getR fdX0_15 rfl dX0_judge_51 h1.1 h1.2 h3 ?_
      refine x_iload_n dX0_judge_54 2 rfl ?_
      refine x_iald dX0_judge_55 h4.1 h4.2 (h5 c1 c2) ?_
      refine x_aload_n dX0_judge_56 0 rfl ?_
      refine x_getR fdX0_19 rfl dX0_judge_57 h1.1 h1.2 h6 ?_
      refine x_iload_n dX0_judge_60 2 rfl ?_
      refine x_iald dX0_judge_61 h7.1 h7.2 (h8 c1 c2) ?_
      refine x_iload_n dX0_judge_62 3 rfl ?_
      refine x_iload dX0_judge_63 6 rfl ?_
      refine EX.sub [0, 1, 2, 3, 4, 5, 6] (K0.v (As := [.int i1, .int (mi M ba0_2 (i2 : Int32).toNatClampNeg), .int (mi M ba0_3 (i2 : Int32).toNatClampNeg), .int i3, .int i6]) (st := []) cvX0_93 dX0_judge_65 rfl rfl h9 rfl (by decide) (k3 c1 c2)) rfl
set_option maxRecDepth 8000 in
theorem kX0_judge_68 {g : GG} {d : Nat} {M : MM} {P : Option Value → MM → Prop} {a0 : Nat} {i1 : Int32} {i2 : Int32} {i3 : Int32} {i4 : Int32} {i5 : Int32} {i6 : Int32} {s0 : Int32} {ba0_9 : Nat} {n_ba0_9 : Nat} {M1 : MM}
    (qM1 : M1 = wi M ba0_9 (i5 : Int32).toNatClampNeg ((mi M ba0_9 (i5 : Int32).toNatClampNeg) ||| (1 <<< (i6 &&& 31))))
    (h1 : ob M a0 0)
    (h2 : mr M a0 9 = some ba0_9)
    (h3 : ar M ba0_9 1 n_ba0_9)
    (h4 : ¬ (s0 = 0) → vp_in i5 n_ba0_9)
    (k1 : s0 = 0 → E0 g YX0_judge d 27 [(0, .ref a0), (1, .int i1), (2, .int i2), (3, .int i3), (4, .int i4), (5, .int i5), (6, .int (i6 + 1))] [] M P)
    (k2 : ¬ (s0 = 0) → E0 g YX0_judge d 27 [(0, .ref a0), (1, .int i1), (2, .int i2), (3, .int i3), (4, .int i4), (5, .int i5), (6, .int (i6 + 1))] [] M1 P) :
    E0 g YX0_judge d 68 [(0, .ref a0), (1, .int i1), (2, .int i2), (3, .int i3), (4, .int i4), (5, .int i5), (6, .int i6)] [.int s0] M P := by
  subst qM1
  refine x_if_eq 85 dX0_judge_68 (by decide) (fun c1 => ?_) (fun c1 => ?_)
  · refine x_iinc (v := (i6 + 1)) (lv1 := [(6, .int (i6 + 1)), (0, .ref a0), (1, .int i1), (2, .int i2), (3, .int i3), (4, .int i4), (5, .int i5)]) dX0_judge_85 6 rfl rfl (by decide) rfl ?_
    refine x_goto 27 dX0_judge_88 (by decide) ?_
    exact EX.sub [1, 2, 3, 4, 5, 6, 0] (k1 c1) rfl
  · refine x_aload_n dX0_judge_71 0 rfl ?_
    refine x_getR fdX0_38 rfl dX0_judge_72 h1.1 h1.2 h2 ?_
    refine x_iload dX0_judge_75 5 rfl ?_
    refine x_dup2 dX0_judge_77 rfl rfl ?_
    refine x_iald dX0_judge_78 h3.1 h3.2 (h4 c1) ?_
    refine x_iconst (v := 1) dX0_judge_79 (by decide) ?_
    refine x_iload dX0_judge_80 6 rfl ?_
    refine x_ishl dX0_judge_82 ?_
    refine x_ior dX0_judge_83 ?_
    refine x_iast dX0_judge_84 h3.1 h3.2 (h4 c1) ?_
    refine x_iinc (v := (i6 + 1)) (lv1 := [(6, .int (i6 + 1)), (0, .ref a0), (1, .int i1), (2, .int i2), (3, .int i3), (4, .int i4), (5, .int i5)]) dX0_judge_85 6 rfl rfl (by decide) rfl ?_
    refine x_goto 27 dX0_judge_88 (by decide) ?_
    exact EX.sub [1, 2, 3, 4, 5, 6, 0] (k2 c1) rfl
set_option maxRecDepth 8000 in
theorem kX0_keyOf_0 {g : GG} {d : Nat} {M : MM} {P : Option Value → MM → Prop} {a0 : Nat} {i1 : Int32} {i2 : Int32} {i3 : Int32}
    (h1 : ob M a0 0)
    (k1 : K0 g YX0_keyOf YX0_isHall d 5 [.ref a0, .int i1] [(0, .ref a0), (1, .int i1), (2, .int i2), (3, .int i3)] [] M P) :
    E0 g YX0_keyOf d 0 [(0, .ref a0), (1, .int i1), (2, .int i2), (3, .int i3)] [] M P := by
  refine x_aload_n dX0_keyOf_0 0 rfl ?_
  refine x_iload_n dX0_keyOf_1 1 rfl ?_
  refine EX.sub [0, 1, 2, 3] (K0.v (As := [.int i1]) (st := []) cvX0_73 dX0_keyOf_2 rfl rfl h1 rfl (by decide) (k1)) rfl
set_option maxRecDepth 8000 in
theorem kX0_keyOf_5 {g : GG} {d : Nat} {M : MM} {P : Option Value → MM → Prop} {a0 : Nat} {i1 : Int32} {i2 : Int32} {i3 : Int32} {s0 : Int32}
    (h1 : ob M a0 0)
    (k1 : s0 = 0 → (0 : Int32) = 0 → P (some (.int (-1))) M)
    (k2 : s0 = 0 → ¬ ((0 : Int32) = 0) → P (some (.int ((((i1 * 10) + i2) * 10) + i3))) M)
    (k3 : ¬ (s0 = 0) → K0 g YX0_keyOf YX0_isShot d 13 [.ref a0, .int i2] [(1, .int i1), (2, .int i2), (3, .int i3)] [] M P) :
    E0 g YX0_keyOf d 5 [(0, .ref a0), (1, .int i1), (2, .int i2), (3, .int i3)] [.int s0] M P := by
  refine x_if_eq 30 dX0_keyOf_5 (by decide) (fun c1 => ?_) (fun c1 => ?_)
  · refine x_iconst (v := 0) dX0_keyOf_30 (by decide) ?_
    refine x_istore (lv1 := [(4, .int 0), (0, .ref a0), (1, .int i1), (2, .int i2), (3, .int i3)]) dX0_keyOf_31 (by decide) rfl ?_
    refine x_iload dX0_keyOf_33 0 rfl ?_
    refine x_if_eq 52 dX0_keyOf_35 (by decide) (fun c2 => ?_) (fun c2 => ?_)
    · refine x_iconst (v := (-1)) dX0_keyOf_52 (by decide) ?_
      exact x_iret rfl dX0_keyOf_53 (Nat.le_refl _) (Nat.le_refl _) (k1 c1 c2)
    · refine x_iload_n dX0_keyOf_38 2 rfl ?_
      refine x_bipush (v := 10) dX0_keyOf_39 (by decide) ?_
      refine x_imul dX0_keyOf_41 ?_
      refine x_iload_n dX0_keyOf_42 3 rfl ?_
      refine x_iadd dX0_keyOf_43 ?_
      refine x_bipush (v := 10) dX0_keyOf_44 (by decide) ?_
      refine x_imul dX0_keyOf_46 ?_
      refine x_iload_n dX0_keyOf_47 4 rfl ?_
      refine x_iadd dX0_keyOf_48 ?_
      refine x_goto 53 dX0_keyOf_49 (by decide) ?_
      exact x_iret rfl dX0_keyOf_53 (Nat.le_refl _) (Nat.le_refl _) (k2 c1 c2)
  · refine x_aload_n dX0_keyOf_8 0 rfl ?_
    refine x_iload_n dX0_keyOf_9 2 rfl ?_
    refine EX.sub [1, 2, 3] (K0.v (As := [.int i2]) (st := []) cvX0_51 dX0_keyOf_10 rfl rfl h1 rfl (by decide) (k3 c1)) rfl
set_option maxRecDepth 8000 in
theorem kX0_keyOf_13 {g : GG} {d : Nat} {M : MM} {P : Option Value → MM → Prop} {i1 : Int32} {i2 : Int32} {i3 : Int32} {s0 : Int32}
    (k1 : s0 = 0 → (0 : Int32) = 0 → P (some (.int (-1))) M)
    (k2 : s0 = 0 → ¬ ((0 : Int32) = 0) → P (some (.int ((((i1 * 10) + i2) * 10) + i3))) M)
    (k3 : ¬ (s0 = 0) → i3 < 0 → (0 : Int32) = 0 → P (some (.int (-1))) M)
    (k4 : ¬ (s0 = 0) → i3 < 0 → ¬ ((0 : Int32) = 0) → P (some (.int ((((i1 * 10) + i2) * 10) + i3))) M)
    (k5 : ¬ (s0 = 0) → ¬ (i3 < 0) → 10 ≤ i3 → (0 : Int32) = 0 → P (some (.int (-1))) M)
    (k6 : ¬ (s0 = 0) → ¬ (i3 < 0) → 10 ≤ i3 → ¬ ((0 : Int32) = 0) → P (some (.int ((((i1 * 10) + i2) * 10) + i3))) M)
    (k7 : ¬ (s0 = 0) → ¬ (i3 < 0) → ¬ (10 ≤ i3) → (1 : Int32) = 0 → P (some (.int (-1))) M)
    (k8 : ¬ (s0 = 0) → ¬ (i3 < 0) → ¬ (10 ≤ i3) → ¬ ((1 : Int32) = 0) → P (some (.int ((((i1 * 10) + i2) * 10) + i3))) M) :
    E0 g YX0_keyOf d 13 [(1, .int i1), (2, .int i2), (3, .int i3)] [.int s0] M P := by
  refine x_if_eq 30 dX0_keyOf_13 (by decide) (fun c1 => ?_) (fun c1 => ?_)
  · refine x_iconst (v := 0) dX0_keyOf_30 (by decide) ?_
    refine x_istore (lv1 := [(4, .int 0), (1, .int i1), (2, .int i2), (3, .int i3)]) dX0_keyOf_31 (by decide) rfl ?_
    refine x_iload dX0_keyOf_33 0 rfl ?_
    refine x_if_eq 52 dX0_keyOf_35 (by decide) (fun c2 => ?_) (fun c2 => ?_)
    · refine x_iconst (v := (-1)) dX0_keyOf_52 (by decide) ?_
      exact x_iret rfl dX0_keyOf_53 (Nat.le_refl _) (Nat.le_refl _) (k1 c1 c2)
    · refine x_iload_n dX0_keyOf_38 1 rfl ?_
      refine x_bipush (v := 10) dX0_keyOf_39 (by decide) ?_
      refine x_imul dX0_keyOf_41 ?_
      refine x_iload_n dX0_keyOf_42 2 rfl ?_
      refine x_iadd dX0_keyOf_43 ?_
      refine x_bipush (v := 10) dX0_keyOf_44 (by decide) ?_
      refine x_imul dX0_keyOf_46 ?_
      refine x_iload_n dX0_keyOf_47 3 rfl ?_
      refine x_iadd dX0_keyOf_48 ?_
      refine x_goto 53 dX0_keyOf_49 (by decide) ?_
      exact x_iret rfl dX0_keyOf_53 (Nat.le_refl _) (Nat.le_refl _) (k2 c1 c2)
  · refine x_iload_n dX0_keyOf_16 2 rfl ?_
    refine x_if_lt 30 dX0_keyOf_17 (by decide) (fun c2 => ?_) (fun c2 => ?_)
    · refine x_iconst (v := 0) dX0_keyOf_30 (by decide) ?_
      refine x_istore (lv1 := [(4, .int 0), (1, .int i1), (2, .int i2), (3, .int i3)]) dX0_keyOf_31 (by decide) rfl ?_
      refine x_iload dX0_keyOf_33 0 rfl ?_
      refine x_if_eq 52 dX0_keyOf_35 (by decide) (fun c3 => ?_) (fun c3 => ?_)
      · refine x_iconst (v := (-1)) dX0_keyOf_52 (by decide) ?_
        exact x_iret rfl dX0_keyOf_53 (Nat.le_refl _) (Nat.le_refl _) (k3 c1 c2 c3)
      · refine x_iload_n dX0_keyOf_38 1 rfl ?_
        refine x_bipush (v := 10) dX0_keyOf_39 (by decide) ?_
        refine x_imul dX0_keyOf_41 ?_
        refine x_iload_n dX0_keyOf_42 2 rfl ?_
        refine x_iadd dX0_keyOf_43 ?_
        refine x_bipush (v := 10) dX0_keyOf_44 (by decide) ?_
        refine x_imul dX0_keyOf_46 ?_
        refine x_iload_n dX0_keyOf_47 3 rfl ?_
        refine x_iadd dX0_keyOf_48 ?_
        refine x_goto 53 dX0_keyOf_49 (by decide) ?_
        exact x_iret rfl dX0_keyOf_53 (Nat.le_refl _) (Nat.le_refl _) (k4 c1 c2 c3)
    · refine x_iload_n dX0_keyOf_20 2 rfl ?_
      refine x_bipush (v := 10) dX0_keyOf_21 (by decide) ?_
      refine x_ic_ge 30 dX0_keyOf_23 (by decide) (fun c3 => ?_) (fun c3 => ?_)
      · refine x_iconst (v := 0) dX0_keyOf_30 (by decide) ?_
        refine x_istore (lv1 := [(4, .int 0), (1, .int i1), (2, .int i2), (3, .int i3)]) dX0_keyOf_31 (by decide) rfl ?_
        refine x_iload dX0_keyOf_33 0 rfl ?_
        refine x_if_eq 52 dX0_keyOf_35 (by decide) (fun c4 => ?_) (fun c4 => ?_)
        · refine x_iconst (v := (-1)) dX0_keyOf_52 (by decide) ?_
          exact x_iret rfl dX0_keyOf_53 (Nat.le_refl _) (Nat.le_refl _) (k5 c1 c2 c3 c4)
        · refine x_iload_n dX0_keyOf_38 1 rfl ?_
          refine x_bipush (v := 10) dX0_keyOf_39 (by decide) ?_
          refine x_imul dX0_keyOf_41 ?_
          refine x_iload_n dX0_keyOf_42 2 rfl ?_
          refine x_iadd dX0_keyOf_43 ?_
          refine x_bipush (v := 10) dX0_keyOf_44 (by decide) ?_
          refine x_imul dX0_keyOf_46 ?_
          refine x_iload_n dX0_keyOf_47 3 rfl ?_
          refine x_iadd dX0_keyOf_48 ?_
          refine x_goto 53 dX0_keyOf_49 (by decide) ?_
          exact x_iret rfl dX0_keyOf_53 (Nat.le_refl _) (Nat.le_refl _) (k6 c1 c2 c3 c4)
      · refine x_iconst (v := 1) dX0_keyOf_26 (by decide) ?_
        refine x_goto 31 dX0_keyOf_27 (by decide) ?_
        refine x_istore (lv1 := [(4, .int 1), (1, .int i1), (2, .int i2), (3, .int i3)]) dX0_keyOf_31 (by decide) rfl ?_
        refine x_iload dX0_keyOf_33 0 rfl ?_
        refine x_if_eq 52 dX0_keyOf_35 (by decide) (fun c4 => ?_) (fun c4 => ?_)
        · refine x_iconst (v := (-1)) dX0_keyOf_52 (by decide) ?_
          exact x_iret rfl dX0_keyOf_53 (Nat.le_refl _) (Nat.le_refl _) (k7 c1 c2 c3 c4)
        · refine x_iload_n dX0_keyOf_38 1 rfl ?_
          refine x_bipush (v := 10) dX0_keyOf_39 (by decide) ?_
          refine x_imul dX0_keyOf_41 ?_
          refine x_iload_n dX0_keyOf_42 2 rfl ?_
          refine x_iadd dX0_keyOf_43 ?_
          refine x_bipush (v := 10) dX0_keyOf_44 (by decide) ?_
          refine x_imul dX0_keyOf_46 ?_
          refine x_iload_n dX0_keyOf_47 3 rfl ?_
          refine x_iadd dX0_keyOf_48 ?_
          refine x_goto 53 dX0_keyOf_49 (by decide) ?_
          exact x_iret rfl dX0_keyOf_53 (Nat.le_refl _) (Nat.le_refl _) (k8 c1 c2 c3 c4)
set_option maxRecDepth 8000 in
theorem kX0_lastOf_0 {g : GG} {d : Nat} {M : MM} {P : Option Value → MM → Prop} {a0 : Nat} {i1 : Int32}
    (k1 : E0 g YX0_lastOf d 4 [(0, .ref a0), (1, .int i1), (2, .int 0), (3, .int 0)] [] M P) :
    E0 g YX0_lastOf d 0 [(0, .ref a0), (1, .int i1)] [] M P := by
  refine x_iconst (v := 0) dX0_lastOf_0 (by decide) ?_
  refine x_istore_n (lv1 := [(2, .int 0), (0, .ref a0), (1, .int i1)]) dX0_lastOf_1 (by decide) rfl ?_
  refine x_iconst (v := 0) dX0_lastOf_2 (by decide) ?_
  refine x_istore_n (lv1 := [(3, .int 0), (2, .int 0), (0, .ref a0), (1, .int i1)]) dX0_lastOf_3 (by decide) rfl ?_
  exact EX.sub [2, 3, 1, 0] k1 rfl
set_option maxRecDepth 8000 in
theorem kX0_lastOf_4 {g : GG} {d : Nat} {M : MM} {P : Option Value → MM → Prop} {a0 : Nat} {i1 : Int32} {i2 : Int32} {i3 : Int32}
    (h1 : ob M a0 0)
    (k1 : (mi M a0 0) ≤ i3 → P (some (.int i2)) M)
    (k2 : ¬ ((mi M a0 0) ≤ i3) → ¬ ((i1 >>> (i3 &&& 31)) &&& 1) = 1 → E0 g YX0_lastOf d 4 [(0, .ref a0), (1, .int i1), (2, .int i2), (3, .int (i3 + 1))] [] M P)
    (k3 : ¬ ((mi M a0 0) ≤ i3) → ((i1 >>> (i3 &&& 31)) &&& 1) = 1 → E0 g YX0_lastOf d 4 [(0, .ref a0), (1, .int i1), (2, .int (1 <<< (i3 &&& 31))), (3, .int (i3 + 1))] [] M P) :
    E0 g YX0_lastOf d 4 [(0, .ref a0), (1, .int i1), (2, .int i2), (3, .int i3)] [] M P := by
  refine x_iload_n dX0_lastOf_4 3 rfl ?_
  refine x_aload_n dX0_lastOf_5 0 rfl ?_
  refine x_getI fdX0_41 rfl dX0_lastOf_6 h1.1 h1.2 ?_
  refine x_ic_ge 31 dX0_lastOf_9 (by decide) (fun c1 => ?_) (fun c1 => ?_)
  · refine x_iload_n dX0_lastOf_31 2 rfl ?_
    exact x_iret rfl dX0_lastOf_32 (Nat.le_refl _) (Nat.le_refl _) (k1 c1)
  · refine x_iload_n dX0_lastOf_12 1 rfl ?_
    refine x_iload_n dX0_lastOf_13 3 rfl ?_
    refine x_ishr dX0_lastOf_14 ?_
    refine x_iconst (v := 1) dX0_lastOf_15 (by decide) ?_
    refine x_iand dX0_lastOf_16 ?_
    refine x_iconst (v := 1) dX0_lastOf_17 (by decide) ?_
    refine x_ic_ne 25 dX0_lastOf_18 (by decide) (fun c2 => ?_) (fun c2 => ?_)
    · refine x_iinc (v := (i3 + 1)) (lv1 := [(3, .int (i3 + 1)), (0, .ref a0), (1, .int i1), (2, .int i2)]) dX0_lastOf_25 3 rfl rfl (by decide) rfl ?_
      refine x_goto 4 dX0_lastOf_28 (by decide) ?_
      exact EX.sub [1, 2, 3, 0] (k2 c1 c2) rfl
    · refine x_iconst (v := 1) dX0_lastOf_21 (by decide) ?_
      refine x_iload_n dX0_lastOf_22 3 rfl ?_
      refine x_ishl dX0_lastOf_23 ?_
      refine x_istore_n (lv1 := [(2, .int (1 <<< (i3 &&& 31))), (0, .ref a0), (1, .int i1), (3, .int i3)]) dX0_lastOf_24 (by decide) rfl ?_
      refine x_iinc (v := (i3 + 1)) (lv1 := [(3, .int (i3 + 1)), (2, .int (1 <<< (i3 &&& 31))), (0, .ref a0), (1, .int i1)]) dX0_lastOf_25 3 rfl rfl (by decide) rfl ?_
      refine x_goto 4 dX0_lastOf_28 (by decide) ?_
      exact EX.sub [2, 3, 1, 0] (k3 c1 c2) rfl
set_option maxRecDepth 8000 in
theorem kX0_behind_0 {g : GG} {d : Nat} {M : MM} {P : Option Value → MM → Prop} {a0 : Nat} {i1 : Int32} {i2 : Int32}
    (k1 : E0 g YX0_behind d 8 [(0, .ref a0), (1, .int i1), (2, .int i2), (3, .int 0), (4, .int 0), (5, .int 0)] [] M P) :
    E0 g YX0_behind d 0 [(0, .ref a0), (1, .int i1), (2, .int i2)] [] M P := by
  refine x_iconst (v := 0) dX0_behind_0 (by decide) ?_
  refine x_istore_n (lv1 := [(3, .int 0), (0, .ref a0), (1, .int i1), (2, .int i2)]) dX0_behind_1 (by decide) rfl ?_
  refine x_iconst (v := 0) dX0_behind_2 (by decide) ?_
  refine x_istore (lv1 := [(4, .int 0), (3, .int 0), (0, .ref a0), (1, .int i1), (2, .int i2)]) dX0_behind_3 (by decide) rfl ?_
  refine x_iconst (v := 0) dX0_behind_5 (by decide) ?_
  refine x_istore (lv1 := [(5, .int 0), (4, .int 0), (3, .int 0), (0, .ref a0), (1, .int i1), (2, .int i2)]) dX0_behind_6 (by decide) rfl ?_
  exact EX.sub [3, 4, 5, 2, 1, 0] k1 rfl
set_option maxRecDepth 8000 in
theorem kX0_behind_8 {g : GG} {d : Nat} {M : MM} {P : Option Value → MM → Prop} {a0 : Nat} {i1 : Int32} {i2 : Int32} {i3 : Int32} {i4 : Int32} {i5 : Int32}
    (h1 : ob M a0 0)
    (k1 : (mi M a0 0) ≤ i5 → P (some (.int i3)) M)
    (k2 : ¬ ((mi M a0 0) ≤ i5) → ¬ ((i2 >>> (i5 &&& 31)) &&& 1) = 1 → E0 g YX0_behind d 8 [(0, .ref a0), (1, .int i1), (2, .int i2), (3, .int i3), (4, .int i4), (5, .int (i5 + 1))] [] M P)
    (k3 : ¬ ((mi M a0 0) ≤ i5) → ((i2 >>> (i5 &&& 31)) &&& 1) = 1 → i4 = 0 → ¬ ((i1 >>> (i5 &&& 31)) &&& 1) = 1 → E0 g YX0_behind d 8 [(0, .ref a0), (1, .int i1), (2, .int i2), (3, .int i3), (4, .int 0), (5, .int (i5 + 1))] [] M P)
    (k4 : ¬ ((mi M a0 0) ≤ i5) → ((i2 >>> (i5 &&& 31)) &&& 1) = 1 → i4 = 0 → ((i1 >>> (i5 &&& 31)) &&& 1) = 1 → E0 g YX0_behind d 8 [(0, .ref a0), (1, .int i1), (2, .int i2), (3, .int i3), (4, .int 1), (5, .int (i5 + 1))] [] M P)
    (k5 : ¬ ((mi M a0 0) ≤ i5) → ((i2 >>> (i5 &&& 31)) &&& 1) = 1 → ¬ (i4 = 0) → ¬ ((i1 >>> (i5 &&& 31)) &&& 1) = 1 → E0 g YX0_behind d 8 [(0, .ref a0), (1, .int i1), (2, .int i2), (3, .int (i3 ||| (1 <<< (i5 &&& 31)))), (4, .int 0), (5, .int (i5 + 1))] [] M P)
    (k6 : ¬ ((mi M a0 0) ≤ i5) → ((i2 >>> (i5 &&& 31)) &&& 1) = 1 → ¬ (i4 = 0) → ((i1 >>> (i5 &&& 31)) &&& 1) = 1 → E0 g YX0_behind d 8 [(0, .ref a0), (1, .int i1), (2, .int i2), (3, .int (i3 ||| (1 <<< (i5 &&& 31)))), (4, .int 1), (5, .int (i5 + 1))] [] M P) :
    E0 g YX0_behind d 8 [(0, .ref a0), (1, .int i1), (2, .int i2), (3, .int i3), (4, .int i4), (5, .int i5)] [] M P := by
  refine x_iload dX0_behind_8 5 rfl ?_
  refine x_aload_n dX0_behind_10 0 rfl ?_
  refine x_getI fdX0_41 rfl dX0_behind_11 h1.1 h1.2 ?_
  refine x_ic_ge 62 dX0_behind_14 (by decide) (fun c1 => ?_) (fun c1 => ?_)
  · refine x_iload_n dX0_behind_62 3 rfl ?_
    exact x_iret rfl dX0_behind_63 (Nat.le_refl _) (Nat.le_refl _) (k1 c1)
  · refine x_iload_n dX0_behind_17 2 rfl ?_
    refine x_iload dX0_behind_18 5 rfl ?_
    refine x_ishr dX0_behind_20 ?_
    refine x_iconst (v := 1) dX0_behind_21 (by decide) ?_
    refine x_iand dX0_behind_22 ?_
    refine x_iconst (v := 1) dX0_behind_23 (by decide) ?_
    refine x_ic_ne 56 dX0_behind_24 (by decide) (fun c2 => ?_) (fun c2 => ?_)
    · refine x_iinc (v := (i5 + 1)) (lv1 := [(5, .int (i5 + 1)), (0, .ref a0), (1, .int i1), (2, .int i2), (3, .int i3), (4, .int i4)]) dX0_behind_56 5 rfl rfl (by decide) rfl ?_
      refine x_goto 8 dX0_behind_59 (by decide) ?_
      exact EX.sub [1, 2, 3, 4, 5, 0] (k2 c1 c2) rfl
    · refine x_iload dX0_behind_27 4 rfl ?_
      refine x_if_eq 39 dX0_behind_29 (by decide) (fun c3 => ?_) (fun c3 => ?_)
      · refine x_iload_n dX0_behind_39 1 rfl ?_
        refine x_iload dX0_behind_40 5 rfl ?_
        refine x_ishr dX0_behind_42 ?_
        refine x_iconst (v := 1) dX0_behind_43 (by decide) ?_
        refine x_iand dX0_behind_44 ?_
        refine x_iconst (v := 1) dX0_behind_45 (by decide) ?_
        refine x_ic_ne 53 dX0_behind_46 (by decide) (fun c4 => ?_) (fun c4 => ?_)
        · refine x_iconst (v := 0) dX0_behind_53 (by decide) ?_
          refine x_istore (lv1 := [(4, .int 0), (0, .ref a0), (1, .int i1), (2, .int i2), (3, .int i3), (5, .int i5)]) dX0_behind_54 (by decide) rfl ?_
          refine x_iinc (v := (i5 + 1)) (lv1 := [(5, .int (i5 + 1)), (4, .int 0), (0, .ref a0), (1, .int i1), (2, .int i2), (3, .int i3)]) dX0_behind_56 5 rfl rfl (by decide) rfl ?_
          refine x_goto 8 dX0_behind_59 (by decide) ?_
          exact EX.sub [2, 3, 4, 5, 1, 0] (k3 c1 c2 c3 c4) rfl
        · refine x_iconst (v := 1) dX0_behind_49 (by decide) ?_
          refine x_goto 54 dX0_behind_50 (by decide) ?_
          refine x_istore (lv1 := [(4, .int 1), (0, .ref a0), (1, .int i1), (2, .int i2), (3, .int i3), (5, .int i5)]) dX0_behind_54 (by decide) rfl ?_
          refine x_iinc (v := (i5 + 1)) (lv1 := [(5, .int (i5 + 1)), (4, .int 1), (0, .ref a0), (1, .int i1), (2, .int i2), (3, .int i3)]) dX0_behind_56 5 rfl rfl (by decide) rfl ?_
          refine x_goto 8 dX0_behind_59 (by decide) ?_
          exact EX.sub [2, 3, 4, 5, 1, 0] (k4 c1 c2 c3 c4) rfl
      · refine x_iload_n dX0_behind_32 3 rfl ?_
        refine x_iconst (v := 1) dX0_behind_33 (by decide) ?_
        refine x_iload dX0_behind_34 5 rfl ?_
        refine x_ishl dX0_behind_36 ?_
        refine x_ior dX0_behind_37 ?_
        refine x_istore_n (lv1 := [(3, .int (i3 ||| (1 <<< (i5 &&& 31)))), (0, .ref a0), (1, .int i1), (2, .int i2), (4, .int i4), (5, .int i5)]) dX0_behind_38 (by decide) rfl ?_
        refine x_iload_n dX0_behind_39 2 rfl ?_
        refine x_iload dX0_behind_40 5 rfl ?_
        refine x_ishr dX0_behind_42 ?_
        refine x_iconst (v := 1) dX0_behind_43 (by decide) ?_
        refine x_iand dX0_behind_44 ?_
        refine x_iconst (v := 1) dX0_behind_45 (by decide) ?_
        refine x_ic_ne 53 dX0_behind_46 (by decide) (fun c4 => ?_) (fun c4 => ?_)
        · refine x_iconst (v := 0) dX0_behind_53 (by decide) ?_
          refine x_istore (lv1 := [(4, .int 0), (3, .int (i3 ||| (1 <<< (i5 &&& 31)))), (0, .ref a0), (1, .int i1), (2, .int i2), (5, .int i5)]) dX0_behind_54 (by decide) rfl ?_
          refine x_iinc (v := (i5 + 1)) (lv1 := [(5, .int (i5 + 1)), (4, .int 0), (3, .int (i3 ||| (1 <<< (i5 &&& 31)))), (0, .ref a0), (1, .int i1), (2, .int i2)]) dX0_behind_56 5 rfl rfl (by decide) rfl ?_
          refine x_goto 8 dX0_behind_59 (by decide) ?_
          exact EX.sub [3, 4, 5, 2, 1, 0] (k5 c1 c2 c3 c4) rfl
        · refine x_iconst (v := 1) dX0_behind_49 (by decide) ?_
          refine x_goto 54 dX0_behind_50 (by decide) ?_
          refine x_istore (lv1 := [(4, .int 1), (3, .int (i3 ||| (1 <<< (i5 &&& 31)))), (0, .ref a0), (1, .int i1), (2, .int i2), (5, .int i5)]) dX0_behind_54 (by decide) rfl ?_
          refine x_iinc (v := (i5 + 1)) (lv1 := [(5, .int (i5 + 1)), (4, .int 1), (3, .int (i3 ||| (1 <<< (i5 &&& 31)))), (0, .ref a0), (1, .int i1), (2, .int i2)]) dX0_behind_56 5 rfl rfl (by decide) rfl ?_
          refine x_goto 8 dX0_behind_59 (by decide) ?_
          exact EX.sub [3, 4, 5, 2, 1, 0] (k6 c1 c2 c3 c4) rfl
end
