section
-- ===== PART A: goes FIRST, ahead of the names: the tables' words, and 'selects' of the private methods out of them =====
/-- a private method of a class that the tables say can be made, by its rows of tables_1 -/
def lw_okq (q : MethodName × Nat) : Prop := (q.1.cls ≠ "java/lang/invoke/MethodHandle" ∧ q.1.cls ≠ "java/lang/invoke/VarHandle") ∧ Cond.instantiable q.1.cls q.2 ∈ tables_1 ∧ Cond.privateMethod q.1 ∈ tables_1 ∧ Cond.instanceMethod q.1 ∈ tables_1
theorem lw_p0 : lw_okq (⟨"CountyPrint$Reader", "begin", "(LCountyPrint$County;)V"⟩, 3) := ⟨⟨by decide +kernel, by decide +kernel⟩, List.mem_of_getElem? (i := 201) (by decide +kernel), List.mem_of_getElem? (i := 420) (by decide +kernel), List.mem_of_getElem? (i := 421) (by decide +kernel)⟩
theorem lw_p1 : lw_okq (⟨"CountyPrint$Tape", "takeWord", "()V"⟩, 10) := ⟨⟨by decide +kernel, by decide +kernel⟩, List.mem_of_getElem? (i := 105) (by decide +kernel), List.mem_of_getElem? (i := 435) (by decide +kernel), List.mem_of_getElem? (i := 436) (by decide +kernel)⟩
theorem lw_p2 : lw_okq (⟨"CountyPrint$Tape", "takeNumber", "()V"⟩, 10) := ⟨⟨by decide +kernel, by decide +kernel⟩, List.mem_of_getElem? (i := 105) (by decide +kernel), List.mem_of_getElem? (i := 442) (by decide +kernel), List.mem_of_getElem? (i := 443) (by decide +kernel)⟩
theorem lw_p3 : lw_okq (⟨"CountyPrint$Tape", "takeSign", "()V"⟩, 10) := ⟨⟨by decide +kernel, by decide +kernel⟩, List.mem_of_getElem? (i := 105) (by decide +kernel), List.mem_of_getElem? (i := 446) (by decide +kernel), List.mem_of_getElem? (i := 447) (by decide +kernel)⟩
theorem lw_p4 : lw_okq (⟨"CountyPrint$Reader", "readShot", "()Z"⟩, 3) := ⟨⟨by decide +kernel, by decide +kernel⟩, List.mem_of_getElem? (i := 201) (by decide +kernel), List.mem_of_getElem? (i := 454) (by decide +kernel), List.mem_of_getElem? (i := 455) (by decide +kernel)⟩
theorem lw_p5 : lw_okq (⟨"CountyPrint$Reader", "fail", "(I)Z"⟩, 3) := ⟨⟨by decide +kernel, by decide +kernel⟩, List.mem_of_getElem? (i := 201) (by decide +kernel), List.mem_of_getElem? (i := 458) (by decide +kernel), List.mem_of_getElem? (i := 459) (by decide +kernel)⟩
theorem lw_p6 : lw_okq (⟨"CountyPrint$Reader", "takeNewName", "()Z"⟩, 3) := ⟨⟨by decide +kernel, by decide +kernel⟩, List.mem_of_getElem? (i := 201) (by decide +kernel), List.mem_of_getElem? (i := 463) (by decide +kernel), List.mem_of_getElem? (i := 464) (by decide +kernel)⟩
theorem lw_p7 : lw_okq (⟨"CountyPrint$Reader", "isName", "()Z"⟩, 3) := ⟨⟨by decide +kernel, by decide +kernel⟩, List.mem_of_getElem? (i := 201) (by decide +kernel), List.mem_of_getElem? (i := 467) (by decide +kernel), List.mem_of_getElem? (i := 468) (by decide +kernel)⟩
theorem lw_p8 : lw_okq (⟨"CountyPrint$Reader", "takeKeyword", "(I)Z"⟩, 3) := ⟨⟨by decide +kernel, by decide +kernel⟩, List.mem_of_getElem? (i := 201) (by decide +kernel), List.mem_of_getElem? (i := 479) (by decide +kernel), List.mem_of_getElem? (i := 480) (by decide +kernel)⟩
theorem lw_p9 : lw_okq (⟨"CountyPrint$Reader", "takeNumber", "(II)Z"⟩, 3) := ⟨⟨by decide +kernel, by decide +kernel⟩, List.mem_of_getElem? (i := 201) (by decide +kernel), List.mem_of_getElem? (i := 483) (by decide +kernel), List.mem_of_getElem? (i := 484) (by decide +kernel)⟩
theorem lw_p10 : lw_okq (⟨"CountyPrint$Reader", "takeSemicolon", "()Z"⟩, 3) := ⟨⟨by decide +kernel, by decide +kernel⟩, List.mem_of_getElem? (i := 201) (by decide +kernel), List.mem_of_getElem? (i := 487) (by decide +kernel), List.mem_of_getElem? (i := 488) (by decide +kernel)⟩
theorem lw_p11 : lw_okq (⟨"CountyPrint$Reader", "readNeeds", "()Z"⟩, 3) := ⟨⟨by decide +kernel, by decide +kernel⟩, List.mem_of_getElem? (i := 201) (by decide +kernel), List.mem_of_getElem? (i := 499) (by decide +kernel), List.mem_of_getElem? (i := 500) (by decide +kernel)⟩
theorem lw_p12 : lw_okq (⟨"CountyPrint$Reader", "takeTold", "(I)Z"⟩, 3) := ⟨⟨by decide +kernel, by decide +kernel⟩, List.mem_of_getElem? (i := 201) (by decide +kernel), List.mem_of_getElem? (i := 503) (by decide +kernel), List.mem_of_getElem? (i := 504) (by decide +kernel)⟩
theorem lw_p13 : lw_okq (⟨"CountyPrint$Reader", "readHall", "()Z"⟩, 3) := ⟨⟨by decide +kernel, by decide +kernel⟩, List.mem_of_getElem? (i := 201) (by decide +kernel), List.mem_of_getElem? (i := 519) (by decide +kernel), List.mem_of_getElem? (i := 520) (by decide +kernel)⟩
theorem lw_p14 : lw_okq (⟨"CountyPrint$Reader", "readExpression", "(I)Z"⟩, 3) := ⟨⟨by decide +kernel, by decide +kernel⟩, List.mem_of_getElem? (i := 201) (by decide +kernel), List.mem_of_getElem? (i := 523) (by decide +kernel), List.mem_of_getElem? (i := 524) (by decide +kernel)⟩
theorem lw_p15 : lw_okq (⟨"CountyPrint$Reader", "readTest", "(I)Z"⟩, 3) := ⟨⟨by decide +kernel, by decide +kernel⟩, List.mem_of_getElem? (i := 201) (by decide +kernel), List.mem_of_getElem? (i := 527) (by decide +kernel), List.mem_of_getElem? (i := 528) (by decide +kernel)⟩
def lw_privs_1 : List (MethodName × Nat) := [(⟨"CountyPrint$Reader", "begin", "(LCountyPrint$County;)V"⟩, 3), (⟨"CountyPrint$Tape", "takeWord", "()V"⟩, 10), (⟨"CountyPrint$Tape", "takeNumber", "()V"⟩, 10), (⟨"CountyPrint$Tape", "takeSign", "()V"⟩, 10), (⟨"CountyPrint$Reader", "readShot", "()Z"⟩, 3), (⟨"CountyPrint$Reader", "fail", "(I)Z"⟩, 3), (⟨"CountyPrint$Reader", "takeNewName", "()Z"⟩, 3), (⟨"CountyPrint$Reader", "isName", "()Z"⟩, 3), (⟨"CountyPrint$Reader", "takeKeyword", "(I)Z"⟩, 3), (⟨"CountyPrint$Reader", "takeNumber", "(II)Z"⟩, 3), (⟨"CountyPrint$Reader", "takeSemicolon", "()Z"⟩, 3), (⟨"CountyPrint$Reader", "readNeeds", "()Z"⟩, 3), (⟨"CountyPrint$Reader", "takeTold", "(I)Z"⟩, 3), (⟨"CountyPrint$Reader", "readHall", "()Z"⟩, 3), (⟨"CountyPrint$Reader", "readExpression", "(I)Z"⟩, 3), (⟨"CountyPrint$Reader", "readTest", "(I)Z"⟩, 3)]
theorem lw_r1 : ∀ q ∈ lw_privs_1, lw_okq q := List.forall_mem_cons.mpr ⟨lw_p0, List.forall_mem_cons.mpr ⟨lw_p1, List.forall_mem_cons.mpr ⟨lw_p2, List.forall_mem_cons.mpr ⟨lw_p3, List.forall_mem_cons.mpr ⟨lw_p4, List.forall_mem_cons.mpr ⟨lw_p5, List.forall_mem_cons.mpr ⟨lw_p6, List.forall_mem_cons.mpr ⟨lw_p7, List.forall_mem_cons.mpr ⟨lw_p8, List.forall_mem_cons.mpr ⟨lw_p9, List.forall_mem_cons.mpr ⟨lw_p10, List.forall_mem_cons.mpr ⟨lw_p11, List.forall_mem_cons.mpr ⟨lw_p12, List.forall_mem_cons.mpr ⟨lw_p13, List.forall_mem_cons.mpr ⟨lw_p14, List.forall_mem_cons.mpr ⟨lw_p15, fun _ h => absurd h List.not_mem_nil⟩⟩⟩⟩⟩⟩⟩⟩⟩⟩⟩⟩⟩⟩⟩⟩
theorem lw_p16 : lw_okq (⟨"CountyPrint$Reader", "readSum", "(I)Z"⟩, 3) := ⟨⟨by decide +kernel, by decide +kernel⟩, List.mem_of_getElem? (i := 201) (by decide +kernel), List.mem_of_getElem? (i := 531) (by decide +kernel), List.mem_of_getElem? (i := 532) (by decide +kernel)⟩
theorem lw_p17 : lw_okq (⟨"CountyPrint$Reader", "readProduct", "(I)Z"⟩, 3) := ⟨⟨by decide +kernel, by decide +kernel⟩, List.mem_of_getElem? (i := 201) (by decide +kernel), List.mem_of_getElem? (i := 535) (by decide +kernel), List.mem_of_getElem? (i := 536) (by decide +kernel)⟩
theorem lw_p18 : lw_okq (⟨"CountyPrint$Reader", "readPart", "(I)Z"⟩, 3) := ⟨⟨by decide +kernel, by decide +kernel⟩, List.mem_of_getElem? (i := 201) (by decide +kernel), List.mem_of_getElem? (i := 539) (by decide +kernel), List.mem_of_getElem? (i := 540) (by decide +kernel)⟩
theorem lw_p19 : lw_okq (⟨"CountyPrint$Reader", "readBracketed", "(I)Z"⟩, 3) := ⟨⟨by decide +kernel, by decide +kernel⟩, List.mem_of_getElem? (i := 201) (by decide +kernel), List.mem_of_getElem? (i := 547) (by decide +kernel), List.mem_of_getElem? (i := 548) (by decide +kernel)⟩
theorem lw_p20 : lw_okq (⟨"CountyPrint$Reader", "readNegated", "(I)Z"⟩, 3) := ⟨⟨by decide +kernel, by decide +kernel⟩, List.mem_of_getElem? (i := 201) (by decide +kernel), List.mem_of_getElem? (i := 551) (by decide +kernel), List.mem_of_getElem? (i := 552) (by decide +kernel)⟩
theorem lw_p21 : lw_okq (⟨"CountyPrint$County", "judge", "(IIII)V"⟩, 10) := ⟨⟨by decide +kernel, by decide +kernel⟩, List.mem_of_getElem? (i := 33) (by decide +kernel), List.mem_of_getElem? (i := 563) (by decide +kernel), List.mem_of_getElem? (i := 564) (by decide +kernel)⟩
theorem lw_p22 : lw_okq (⟨"CountyPrint$County", "keyOf", "(III)I"⟩, 10) := ⟨⟨by decide +kernel, by decide +kernel⟩, List.mem_of_getElem? (i := 33) (by decide +kernel), List.mem_of_getElem? (i := 567) (by decide +kernel), List.mem_of_getElem? (i := 568) (by decide +kernel)⟩
theorem lw_p23 : lw_okq (⟨"CountyPrint", "beginAnew", "()V"⟩, 14) := ⟨⟨by decide +kernel, by decide +kernel⟩, List.mem_of_getElem? (i := 25) (by decide +kernel), List.mem_of_getElem? (i := 582) (by decide +kernel), List.mem_of_getElem? (i := 583) (by decide +kernel)⟩
theorem lw_p24 : lw_okq (⟨"CountyPrint$Reader", "readPlanLine", "(LCountyPrint$Plan;)Z"⟩, 3) := ⟨⟨by decide +kernel, by decide +kernel⟩, List.mem_of_getElem? (i := 201) (by decide +kernel), List.mem_of_getElem? (i := 611) (by decide +kernel), List.mem_of_getElem? (i := 612) (by decide +kernel)⟩
theorem lw_p25 : lw_okq (⟨"CountyPrint$Reader", "readHandling", "(LCountyPrint$Plan;I)Z"⟩, 3) := ⟨⟨by decide +kernel, by decide +kernel⟩, List.mem_of_getElem? (i := 201) (by decide +kernel), List.mem_of_getElem? (i := 615) (by decide +kernel), List.mem_of_getElem? (i := 616) (by decide +kernel)⟩
theorem lw_p26 : lw_okq (⟨"CountyPrint$Reader", "readBare", "(LCountyPrint$Plan;I)Z"⟩, 3) := ⟨⟨by decide +kernel, by decide +kernel⟩, List.mem_of_getElem? (i := 201) (by decide +kernel), List.mem_of_getElem? (i := 623) (by decide +kernel), List.mem_of_getElem? (i := 624) (by decide +kernel)⟩
theorem lw_p27 : lw_okq (⟨"CountyPrint$County", "behind", "(II)I"⟩, 10) := ⟨⟨by decide +kernel, by decide +kernel⟩, List.mem_of_getElem? (i := 33) (by decide +kernel), List.mem_of_getElem? (i := 649) (by decide +kernel), List.mem_of_getElem? (i := 650) (by decide +kernel)⟩
theorem lw_p28 : lw_okq (⟨"CountyPrint$County", "lastOf", "(I)I"⟩, 10) := ⟨⟨by decide +kernel, by decide +kernel⟩, List.mem_of_getElem? (i := 33) (by decide +kernel), List.mem_of_getElem? (i := 653) (by decide +kernel), List.mem_of_getElem? (i := 654) (by decide +kernel)⟩
theorem lw_p29 : lw_okq (⟨"CountyPrint", "liesIn", "(II)Z"⟩, 14) := ⟨⟨by decide +kernel, by decide +kernel⟩, List.mem_of_getElem? (i := 25) (by decide +kernel), List.mem_of_getElem? (i := 690) (by decide +kernel), List.mem_of_getElem? (i := 691) (by decide +kernel)⟩
theorem lw_p30 : lw_okq (⟨"CountyPrint", "nextHall", "()I"⟩, 14) := ⟨⟨by decide +kernel, by decide +kernel⟩, List.mem_of_getElem? (i := 25) (by decide +kernel), List.mem_of_getElem? (i := 725) (by decide +kernel), List.mem_of_getElem? (i := 726) (by decide +kernel)⟩
theorem lw_p31 : lw_okq (⟨"CountyPrint", "rowShownAt", "(I)I"⟩, 14) := ⟨⟨by decide +kernel, by decide +kernel⟩, List.mem_of_getElem? (i := 25) (by decide +kernel), List.mem_of_getElem? (i := 762) (by decide +kernel), List.mem_of_getElem? (i := 763) (by decide +kernel)⟩
def lw_privs_2 : List (MethodName × Nat) := [(⟨"CountyPrint$Reader", "readSum", "(I)Z"⟩, 3), (⟨"CountyPrint$Reader", "readProduct", "(I)Z"⟩, 3), (⟨"CountyPrint$Reader", "readPart", "(I)Z"⟩, 3), (⟨"CountyPrint$Reader", "readBracketed", "(I)Z"⟩, 3), (⟨"CountyPrint$Reader", "readNegated", "(I)Z"⟩, 3), (⟨"CountyPrint$County", "judge", "(IIII)V"⟩, 10), (⟨"CountyPrint$County", "keyOf", "(III)I"⟩, 10), (⟨"CountyPrint", "beginAnew", "()V"⟩, 14), (⟨"CountyPrint$Reader", "readPlanLine", "(LCountyPrint$Plan;)Z"⟩, 3), (⟨"CountyPrint$Reader", "readHandling", "(LCountyPrint$Plan;I)Z"⟩, 3), (⟨"CountyPrint$Reader", "readBare", "(LCountyPrint$Plan;I)Z"⟩, 3), (⟨"CountyPrint$County", "behind", "(II)I"⟩, 10), (⟨"CountyPrint$County", "lastOf", "(I)I"⟩, 10), (⟨"CountyPrint", "liesIn", "(II)Z"⟩, 14), (⟨"CountyPrint", "nextHall", "()I"⟩, 14), (⟨"CountyPrint", "rowShownAt", "(I)I"⟩, 14)]
theorem lw_r2 : ∀ q ∈ lw_privs_2, lw_okq q := List.forall_mem_cons.mpr ⟨lw_p16, List.forall_mem_cons.mpr ⟨lw_p17, List.forall_mem_cons.mpr ⟨lw_p18, List.forall_mem_cons.mpr ⟨lw_p19, List.forall_mem_cons.mpr ⟨lw_p20, List.forall_mem_cons.mpr ⟨lw_p21, List.forall_mem_cons.mpr ⟨lw_p22, List.forall_mem_cons.mpr ⟨lw_p23, List.forall_mem_cons.mpr ⟨lw_p24, List.forall_mem_cons.mpr ⟨lw_p25, List.forall_mem_cons.mpr ⟨lw_p26, List.forall_mem_cons.mpr ⟨lw_p27, List.forall_mem_cons.mpr ⟨lw_p28, List.forall_mem_cons.mpr ⟨lw_p29, List.forall_mem_cons.mpr ⟨lw_p30, List.forall_mem_cons.mpr ⟨lw_p31, fun _ h => absurd h List.not_mem_nil⟩⟩⟩⟩⟩⟩⟩⟩⟩⟩⟩⟩⟩⟩⟩⟩
theorem lw_p32 : lw_okq (⟨"CountyPrint", "isAhead", "(I)Z"⟩, 14) := ⟨⟨by decide +kernel, by decide +kernel⟩, List.mem_of_getElem? (i := 25) (by decide +kernel), List.mem_of_getElem? (i := 766) (by decide +kernel), List.mem_of_getElem? (i := 767) (by decide +kernel)⟩
theorem lw_p33 : lw_okq (⟨"CountyPrint", "nextPlace", "()I"⟩, 14) := ⟨⟨by decide +kernel, by decide +kernel⟩, List.mem_of_getElem? (i := 25) (by decide +kernel), List.mem_of_getElem? (i := 770) (by decide +kernel), List.mem_of_getElem? (i := 771) (by decide +kernel)⟩
theorem lw_p34 : lw_okq (⟨"CountyPrint", "hallsAhead", "()I"⟩, 14) := ⟨⟨by decide +kernel, by decide +kernel⟩, List.mem_of_getElem? (i := 25) (by decide +kernel), List.mem_of_getElem? (i := 832) (by decide +kernel), List.mem_of_getElem? (i := 833) (by decide +kernel)⟩
theorem lw_p35 : lw_okq (⟨"CountyPrint$Ranking", "search", "(LCountyPrint$County;IIII)V"⟩, 3) := ⟨⟨by decide +kernel, by decide +kernel⟩, List.mem_of_getElem? (i := 333) (by decide +kernel), List.mem_of_getElem? (i := 840) (by decide +kernel), List.mem_of_getElem? (i := 841) (by decide +kernel)⟩
theorem lw_p36 : lw_okq (⟨"CountyPrint$Ranking", "keepPath", "()V"⟩, 3) := ⟨⟨by decide +kernel, by decide +kernel⟩, List.mem_of_getElem? (i := 333) (by decide +kernel), List.mem_of_getElem? (i := 844) (by decide +kernel), List.mem_of_getElem? (i := 845) (by decide +kernel)⟩
theorem lw_p37 : lw_okq (⟨"CountyPrint", "fillRows", "()V"⟩, 14) := ⟨⟨by decide +kernel, by decide +kernel⟩, List.mem_of_getElem? (i := 25) (by decide +kernel), List.mem_of_getElem? (i := 855) (by decide +kernel), List.mem_of_getElem? (i := 856) (by decide +kernel)⟩
theorem lw_p38 : lw_okq (⟨"CountyPrint", "seenBy", "(I)I"⟩, 14) := ⟨⟨by decide +kernel, by decide +kernel⟩, List.mem_of_getElem? (i := 25) (by decide +kernel), List.mem_of_getElem? (i := 859) (by decide +kernel), List.mem_of_getElem? (i := 860) (by decide +kernel)⟩
theorem lw_p39 : lw_okq (⟨"CountyPrint", "greaterPart", "(II)I"⟩, 14) := ⟨⟨by decide +kernel, by decide +kernel⟩, List.mem_of_getElem? (i := 25) (by decide +kernel), List.mem_of_getElem? (i := 918) (by decide +kernel), List.mem_of_getElem? (i := 919) (by decide +kernel)⟩
theorem lw_p40 : lw_okq (⟨"CountyPrint", "giveBackByDraw", "()V"⟩, 14) := ⟨⟨by decide +kernel, by decide +kernel⟩, List.mem_of_getElem? (i := 25) (by decide +kernel), List.mem_of_getElem? (i := 943) (by decide +kernel), List.mem_of_getElem? (i := 944) (by decide +kernel)⟩
theorem lw_p41 : lw_okq (⟨"java/lang/Throwable", "fillInStackTrace", "(I)Ljava/lang/Throwable;"⟩, 6) := ⟨⟨by decide +kernel, by decide +kernel⟩, List.mem_of_getElem? (i := 1016) (by decide +kernel), List.mem_of_getElem? (i := 1014) (by decide +kernel), List.mem_of_getElem? (i := 1015) (by decide +kernel)⟩
theorem lw_p42 : lw_okq (⟨"CountyPrint", "minutesTogether", "(I)I"⟩, 14) := ⟨⟨by decide +kernel, by decide +kernel⟩, List.mem_of_getElem? (i := 25) (by decide +kernel), List.mem_of_getElem? (i := 1045) (by decide +kernel), List.mem_of_getElem? (i := 1046) (by decide +kernel)⟩
theorem lw_p43 : lw_okq (⟨"CountyPrintModel", "fresh", "()V"⟩, 58) := ⟨⟨by decide +kernel, by decide +kernel⟩, List.mem_of_getElem? (i := 1067) (by decide +kernel), List.mem_of_getElem? (i := 1073) (by decide +kernel), List.mem_of_getElem? (i := 1074) (by decide +kernel)⟩
theorem lw_p44 : lw_okq (⟨"CountyPrintModel", "allShots", "()I"⟩, 58) := ⟨⟨by decide +kernel, by decide +kernel⟩, List.mem_of_getElem? (i := 1067) (by decide +kernel), List.mem_of_getElem? (i := 1077) (by decide +kernel), List.mem_of_getElem? (i := 1078) (by decide +kernel)⟩
theorem lw_p45 : lw_okq (⟨"CountyPrintModel", "readsAll", "()Z"⟩, 58) := ⟨⟨by decide +kernel, by decide +kernel⟩, List.mem_of_getElem? (i := 1067) (by decide +kernel), List.mem_of_getElem? (i := 1269) (by decide +kernel), List.mem_of_getElem? (i := 1270) (by decide +kernel)⟩
theorem lw_p46 : lw_okq (⟨"CountyPrintModel", "begins", "()V"⟩, 58) := ⟨⟨by decide +kernel, by decide +kernel⟩, List.mem_of_getElem? (i := 1067) (by decide +kernel), List.mem_of_getElem? (i := 1273) (by decide +kernel), List.mem_of_getElem? (i := 1274) (by decide +kernel)⟩
theorem lw_p47 : lw_okq (⟨"CountyPrintModel", "nextToken", "()V"⟩, 58) := ⟨⟨by decide +kernel, by decide +kernel⟩, List.mem_of_getElem? (i := 1067) (by decide +kernel), List.mem_of_getElem? (i := 1277) (by decide +kernel), List.mem_of_getElem? (i := 1278) (by decide +kernel)⟩
def lw_privs_3 : List (MethodName × Nat) := [(⟨"CountyPrint", "isAhead", "(I)Z"⟩, 14), (⟨"CountyPrint", "nextPlace", "()I"⟩, 14), (⟨"CountyPrint", "hallsAhead", "()I"⟩, 14), (⟨"CountyPrint$Ranking", "search", "(LCountyPrint$County;IIII)V"⟩, 3), (⟨"CountyPrint$Ranking", "keepPath", "()V"⟩, 3), (⟨"CountyPrint", "fillRows", "()V"⟩, 14), (⟨"CountyPrint", "seenBy", "(I)I"⟩, 14), (⟨"CountyPrint", "greaterPart", "(II)I"⟩, 14), (⟨"CountyPrint", "giveBackByDraw", "()V"⟩, 14), (⟨"java/lang/Throwable", "fillInStackTrace", "(I)Ljava/lang/Throwable;"⟩, 6), (⟨"CountyPrint", "minutesTogether", "(I)I"⟩, 14), (⟨"CountyPrintModel", "fresh", "()V"⟩, 58), (⟨"CountyPrintModel", "allShots", "()I"⟩, 58), (⟨"CountyPrintModel", "readsAll", "()Z"⟩, 58), (⟨"CountyPrintModel", "begins", "()V"⟩, 58), (⟨"CountyPrintModel", "nextToken", "()V"⟩, 58)]
theorem lw_r3 : ∀ q ∈ lw_privs_3, lw_okq q := List.forall_mem_cons.mpr ⟨lw_p32, List.forall_mem_cons.mpr ⟨lw_p33, List.forall_mem_cons.mpr ⟨lw_p34, List.forall_mem_cons.mpr ⟨lw_p35, List.forall_mem_cons.mpr ⟨lw_p36, List.forall_mem_cons.mpr ⟨lw_p37, List.forall_mem_cons.mpr ⟨lw_p38, List.forall_mem_cons.mpr ⟨lw_p39, List.forall_mem_cons.mpr ⟨lw_p40, List.forall_mem_cons.mpr ⟨lw_p41, List.forall_mem_cons.mpr ⟨lw_p42, List.forall_mem_cons.mpr ⟨lw_p43, List.forall_mem_cons.mpr ⟨lw_p44, List.forall_mem_cons.mpr ⟨lw_p45, List.forall_mem_cons.mpr ⟨lw_p46, List.forall_mem_cons.mpr ⟨lw_p47, fun _ h => absurd h List.not_mem_nil⟩⟩⟩⟩⟩⟩⟩⟩⟩⟩⟩⟩⟩⟩⟩⟩
theorem lw_p48 : lw_okq (⟨"CountyPrintModel", "signAt", "(I)I"⟩, 58) := ⟨⟨by decide +kernel, by decide +kernel⟩, List.mem_of_getElem? (i := 1067) (by decide +kernel), List.mem_of_getElem? (i := 1281) (by decide +kernel), List.mem_of_getElem? (i := 1282) (by decide +kernel)⟩
theorem lw_p49 : lw_okq (⟨"CountyPrintModel", "isWord", "(J)Z"⟩, 58) := ⟨⟨by decide +kernel, by decide +kernel⟩, List.mem_of_getElem? (i := 1067) (by decide +kernel), List.mem_of_getElem? (i := 1288) (by decide +kernel), List.mem_of_getElem? (i := 1289) (by decide +kernel)⟩
theorem lw_p50 : lw_okq (⟨"CountyPrintModel", "readsShot", "()Z"⟩, 58) := ⟨⟨by decide +kernel, by decide +kernel⟩, List.mem_of_getElem? (i := 1067) (by decide +kernel), List.mem_of_getElem? (i := 1292) (by decide +kernel), List.mem_of_getElem? (i := 1293) (by decide +kernel)⟩
theorem lw_p51 : lw_okq (⟨"CountyPrintModel", "fails", "(I)Z"⟩, 58) := ⟨⟨by decide +kernel, by decide +kernel⟩, List.mem_of_getElem? (i := 1067) (by decide +kernel), List.mem_of_getElem? (i := 1296) (by decide +kernel), List.mem_of_getElem? (i := 1297) (by decide +kernel)⟩
theorem lw_p52 : lw_okq (⟨"CountyPrintModel", "needsNew", "()Z"⟩, 58) := ⟨⟨by decide +kernel, by decide +kernel⟩, List.mem_of_getElem? (i := 1067) (by decide +kernel), List.mem_of_getElem? (i := 1300) (by decide +kernel), List.mem_of_getElem? (i := 1301) (by decide +kernel)⟩
theorem lw_p53 : lw_okq (⟨"CountyPrintModel", "isKept", "()Z"⟩, 58) := ⟨⟨by decide +kernel, by decide +kernel⟩, List.mem_of_getElem? (i := 1067) (by decide +kernel), List.mem_of_getElem? (i := 1304) (by decide +kernel), List.mem_of_getElem? (i := 1305) (by decide +kernel)⟩
theorem lw_p54 : lw_okq (⟨"CountyPrintModel", "shotNamed", "(I)I"⟩, 58) := ⟨⟨by decide +kernel, by decide +kernel⟩, List.mem_of_getElem? (i := 1067) (by decide +kernel), List.mem_of_getElem? (i := 1324) (by decide +kernel), List.mem_of_getElem? (i := 1325) (by decide +kernel)⟩
theorem lw_p55 : lw_okq (⟨"CountyPrintModel", "hallNamed", "(I)I"⟩, 58) := ⟨⟨by decide +kernel, by decide +kernel⟩, List.mem_of_getElem? (i := 1067) (by decide +kernel), List.mem_of_getElem? (i := 1328) (by decide +kernel), List.mem_of_getElem? (i := 1329) (by decide +kernel)⟩
theorem lw_p56 : lw_okq (⟨"CountyPrintModel", "needsWord", "(J)Z"⟩, 58) := ⟨⟨by decide +kernel, by decide +kernel⟩, List.mem_of_getElem? (i := 1067) (by decide +kernel), List.mem_of_getElem? (i := 1332) (by decide +kernel), List.mem_of_getElem? (i := 1333) (by decide +kernel)⟩
theorem lw_p57 : lw_okq (⟨"CountyPrintModel", "needsNumber", "(II)Z"⟩, 58) := ⟨⟨by decide +kernel, by decide +kernel⟩, List.mem_of_getElem? (i := 1067) (by decide +kernel), List.mem_of_getElem? (i := 1336) (by decide +kernel), List.mem_of_getElem? (i := 1337) (by decide +kernel)⟩
theorem lw_p58 : lw_okq (⟨"CountyPrintModel", "closes", "()Z"⟩, 58) := ⟨⟨by decide +kernel, by decide +kernel⟩, List.mem_of_getElem? (i := 1067) (by decide +kernel), List.mem_of_getElem? (i := 1343) (by decide +kernel), List.mem_of_getElem? (i := 1344) (by decide +kernel)⟩
theorem lw_p59 : lw_okq (⟨"CountyPrintModel", "isSign", "(I)Z"⟩, 58) := ⟨⟨by decide +kernel, by decide +kernel⟩, List.mem_of_getElem? (i := 1067) (by decide +kernel), List.mem_of_getElem? (i := 1347) (by decide +kernel), List.mem_of_getElem? (i := 1348) (by decide +kernel)⟩
theorem lw_p60 : lw_okq (⟨"CountyPrintModel", "readsNeeds", "()Z"⟩, 58) := ⟨⟨by decide +kernel, by decide +kernel⟩, List.mem_of_getElem? (i := 1067) (by decide +kernel), List.mem_of_getElem? (i := 1351) (by decide +kernel), List.mem_of_getElem? (i := 1352) (by decide +kernel)⟩
theorem lw_p61 : lw_okq (⟨"CountyPrintModel", "needsShot", "(I)Z"⟩, 58) := ⟨⟨by decide +kernel, by decide +kernel⟩, List.mem_of_getElem? (i := 1067) (by decide +kernel), List.mem_of_getElem? (i := 1355) (by decide +kernel), List.mem_of_getElem? (i := 1356) (by decide +kernel)⟩
theorem lw_p62 : lw_okq (⟨"CountyPrintModel", "readsHall", "()Z"⟩, 58) := ⟨⟨by decide +kernel, by decide +kernel⟩, List.mem_of_getElem? (i := 1067) (by decide +kernel), List.mem_of_getElem? (i := 1359) (by decide +kernel), List.mem_of_getElem? (i := 1360) (by decide +kernel)⟩
theorem lw_p63 : lw_okq (⟨"CountyPrintModel", "reads", "()Z"⟩, 58) := ⟨⟨by decide +kernel, by decide +kernel⟩, List.mem_of_getElem? (i := 1067) (by decide +kernel), List.mem_of_getElem? (i := 1363) (by decide +kernel), List.mem_of_getElem? (i := 1364) (by decide +kernel)⟩
def lw_privs_4 : List (MethodName × Nat) := [(⟨"CountyPrintModel", "signAt", "(I)I"⟩, 58), (⟨"CountyPrintModel", "isWord", "(J)Z"⟩, 58), (⟨"CountyPrintModel", "readsShot", "()Z"⟩, 58), (⟨"CountyPrintModel", "fails", "(I)Z"⟩, 58), (⟨"CountyPrintModel", "needsNew", "()Z"⟩, 58), (⟨"CountyPrintModel", "isKept", "()Z"⟩, 58), (⟨"CountyPrintModel", "shotNamed", "(I)I"⟩, 58), (⟨"CountyPrintModel", "hallNamed", "(I)I"⟩, 58), (⟨"CountyPrintModel", "needsWord", "(J)Z"⟩, 58), (⟨"CountyPrintModel", "needsNumber", "(II)Z"⟩, 58), (⟨"CountyPrintModel", "closes", "()Z"⟩, 58), (⟨"CountyPrintModel", "isSign", "(I)Z"⟩, 58), (⟨"CountyPrintModel", "readsNeeds", "()Z"⟩, 58), (⟨"CountyPrintModel", "needsShot", "(I)Z"⟩, 58), (⟨"CountyPrintModel", "readsHall", "()Z"⟩, 58), (⟨"CountyPrintModel", "reads", "()Z"⟩, 58)]
theorem lw_r4 : ∀ q ∈ lw_privs_4, lw_okq q := List.forall_mem_cons.mpr ⟨lw_p48, List.forall_mem_cons.mpr ⟨lw_p49, List.forall_mem_cons.mpr ⟨lw_p50, List.forall_mem_cons.mpr ⟨lw_p51, List.forall_mem_cons.mpr ⟨lw_p52, List.forall_mem_cons.mpr ⟨lw_p53, List.forall_mem_cons.mpr ⟨lw_p54, List.forall_mem_cons.mpr ⟨lw_p55, List.forall_mem_cons.mpr ⟨lw_p56, List.forall_mem_cons.mpr ⟨lw_p57, List.forall_mem_cons.mpr ⟨lw_p58, List.forall_mem_cons.mpr ⟨lw_p59, List.forall_mem_cons.mpr ⟨lw_p60, List.forall_mem_cons.mpr ⟨lw_p61, List.forall_mem_cons.mpr ⟨lw_p62, List.forall_mem_cons.mpr ⟨lw_p63, fun _ h => absurd h List.not_mem_nil⟩⟩⟩⟩⟩⟩⟩⟩⟩⟩⟩⟩⟩⟩⟩⟩
theorem lw_p64 : lw_okq (⟨"CountyPrintModel", "fact", "()I"⟩, 58) := ⟨⟨by decide +kernel, by decide +kernel⟩, List.mem_of_getElem? (i := 1067) (by decide +kernel), List.mem_of_getElem? (i := 1367) (by decide +kernel), List.mem_of_getElem? (i := 1368) (by decide +kernel)⟩
theorem lw_p65 : lw_okq (⟨"CountyPrintModel", "puts", "(I)V"⟩, 58) := ⟨⟨by decide +kernel, by decide +kernel⟩, List.mem_of_getElem? (i := 1067) (by decide +kernel), List.mem_of_getElem? (i := 1375) (by decide +kernel), List.mem_of_getElem? (i := 1376) (by decide +kernel)⟩
theorem lw_p66 : lw_okq (⟨"CountyPrintModel", "lays", "()V"⟩, 58) := ⟨⟨by decide +kernel, by decide +kernel⟩, List.mem_of_getElem? (i := 1067) (by decide +kernel), List.mem_of_getElem? (i := 1379) (by decide +kernel), List.mem_of_getElem? (i := 1380) (by decide +kernel)⟩
theorem lw_p67 : lw_okq (⟨"CountyPrintModel", "readsLine", "()Z"⟩, 58) := ⟨⟨by decide +kernel, by decide +kernel⟩, List.mem_of_getElem? (i := 1067) (by decide +kernel), List.mem_of_getElem? (i := 1393) (by decide +kernel), List.mem_of_getElem? (i := 1394) (by decide +kernel)⟩
theorem lw_p68 : lw_okq (⟨"CountyPrintModel", "needsHall", "()Z"⟩, 58) := ⟨⟨by decide +kernel, by decide +kernel⟩, List.mem_of_getElem? (i := 1067) (by decide +kernel), List.mem_of_getElem? (i := 1397) (by decide +kernel), List.mem_of_getElem? (i := 1398) (by decide +kernel)⟩
theorem lw_p69 : lw_okq (⟨"CountyPrintModel", "laysLines", "(II)V"⟩, 58) := ⟨⟨by decide +kernel, by decide +kernel⟩, List.mem_of_getElem? (i := 1067) (by decide +kernel), List.mem_of_getElem? (i := 1401) (by decide +kernel), List.mem_of_getElem? (i := 1402) (by decide +kernel)⟩
theorem lw_p70 : lw_okq (⟨"CountyPrintModel", "isShot", "(I)Z"⟩, 58) := ⟨⟨by decide +kernel, by decide +kernel⟩, List.mem_of_getElem? (i := 1067) (by decide +kernel), List.mem_of_getElem? (i := 1409) (by decide +kernel), List.mem_of_getElem? (i := 1410) (by decide +kernel)⟩
theorem lw_p71 : lw_okq (⟨"CountyPrintModel", "isHall", "(I)Z"⟩, 58) := ⟨⟨by decide +kernel, by decide +kernel⟩, List.mem_of_getElem? (i := 1067) (by decide +kernel), List.mem_of_getElem? (i := 1417) (by decide +kernel), List.mem_of_getElem? (i := 1418) (by decide +kernel)⟩
theorem lw_p72 : lw_okq (⟨"CountyPrintModel", "drawerOf", "(I)I"⟩, 58) := ⟨⟨by decide +kernel, by decide +kernel⟩, List.mem_of_getElem? (i := 1067) (by decide +kernel), List.mem_of_getElem? (i := 1421) (by decide +kernel), List.mem_of_getElem? (i := 1422) (by decide +kernel)⟩
theorem lw_p73 : lw_okq (⟨"CountyPrintModel", "placeOf", "(I)I"⟩, 58) := ⟨⟨by decide +kernel, by decide +kernel⟩, List.mem_of_getElem? (i := 1067) (by decide +kernel), List.mem_of_getElem? (i := 1425) (by decide +kernel), List.mem_of_getElem? (i := 1426) (by decide +kernel)⟩
theorem lw_p74 : lw_okq (⟨"CountyPrintModel", "takesOut", "(II)I"⟩, 58) := ⟨⟨by decide +kernel, by decide +kernel⟩, List.mem_of_getElem? (i := 1067) (by decide +kernel), List.mem_of_getElem? (i := 1429) (by decide +kernel), List.mem_of_getElem? (i := 1430) (by decide +kernel)⟩
theorem lw_p75 : lw_okq (⟨"CountyPrintModel", "hates", "(IIII)Z"⟩, 58) := ⟨⟨by decide +kernel, by decide +kernel⟩, List.mem_of_getElem? (i := 1067) (by decide +kernel), List.mem_of_getElem? (i := 1433) (by decide +kernel), List.mem_of_getElem? (i := 1434) (by decide +kernel)⟩
theorem lw_p76 : lw_okq (⟨"CountyPrintModel", "worked", "(I)I"⟩, 58) := ⟨⟨by decide +kernel, by decide +kernel⟩, List.mem_of_getElem? (i := 1067) (by decide +kernel), List.mem_of_getElem? (i := 1437) (by decide +kernel), List.mem_of_getElem? (i := 1438) (by decide +kernel)⟩
theorem lw_p77 : lw_okq (⟨"CountyPrintModel", "opens", "(I)V"⟩, 58) := ⟨⟨by decide +kernel, by decide +kernel⟩, List.mem_of_getElem? (i := 1067) (by decide +kernel), List.mem_of_getElem? (i := 1441) (by decide +kernel), List.mem_of_getElem? (i := 1442) (by decide +kernel)⟩
theorem lw_p78 : lw_okq (⟨"CountyPrintModel", "sums", "(I)V"⟩, 58) := ⟨⟨by decide +kernel, by decide +kernel⟩, List.mem_of_getElem? (i := 1067) (by decide +kernel), List.mem_of_getElem? (i := 1445) (by decide +kernel), List.mem_of_getElem? (i := 1446) (by decide +kernel)⟩
theorem lw_p79 : lw_okq (⟨"CountyPrintModel", "tests", "(I)V"⟩, 58) := ⟨⟨by decide +kernel, by decide +kernel⟩, List.mem_of_getElem? (i := 1067) (by decide +kernel), List.mem_of_getElem? (i := 1449) (by decide +kernel), List.mem_of_getElem? (i := 1450) (by decide +kernel)⟩
def lw_privs_5 : List (MethodName × Nat) := [(⟨"CountyPrintModel", "fact", "()I"⟩, 58), (⟨"CountyPrintModel", "puts", "(I)V"⟩, 58), (⟨"CountyPrintModel", "lays", "()V"⟩, 58), (⟨"CountyPrintModel", "readsLine", "()Z"⟩, 58), (⟨"CountyPrintModel", "needsHall", "()Z"⟩, 58), (⟨"CountyPrintModel", "laysLines", "(II)V"⟩, 58), (⟨"CountyPrintModel", "isShot", "(I)Z"⟩, 58), (⟨"CountyPrintModel", "isHall", "(I)Z"⟩, 58), (⟨"CountyPrintModel", "drawerOf", "(I)I"⟩, 58), (⟨"CountyPrintModel", "placeOf", "(I)I"⟩, 58), (⟨"CountyPrintModel", "takesOut", "(II)I"⟩, 58), (⟨"CountyPrintModel", "hates", "(IIII)Z"⟩, 58), (⟨"CountyPrintModel", "worked", "(I)I"⟩, 58), (⟨"CountyPrintModel", "opens", "(I)V"⟩, 58), (⟨"CountyPrintModel", "sums", "(I)V"⟩, 58), (⟨"CountyPrintModel", "tests", "(I)V"⟩, 58)]
theorem lw_r5 : ∀ q ∈ lw_privs_5, lw_okq q := List.forall_mem_cons.mpr ⟨lw_p64, List.forall_mem_cons.mpr ⟨lw_p65, List.forall_mem_cons.mpr ⟨lw_p66, List.forall_mem_cons.mpr ⟨lw_p67, List.forall_mem_cons.mpr ⟨lw_p68, List.forall_mem_cons.mpr ⟨lw_p69, List.forall_mem_cons.mpr ⟨lw_p70, List.forall_mem_cons.mpr ⟨lw_p71, List.forall_mem_cons.mpr ⟨lw_p72, List.forall_mem_cons.mpr ⟨lw_p73, List.forall_mem_cons.mpr ⟨lw_p74, List.forall_mem_cons.mpr ⟨lw_p75, List.forall_mem_cons.mpr ⟨lw_p76, List.forall_mem_cons.mpr ⟨lw_p77, List.forall_mem_cons.mpr ⟨lw_p78, List.forall_mem_cons.mpr ⟨lw_p79, fun _ h => absurd h List.not_mem_nil⟩⟩⟩⟩⟩⟩⟩⟩⟩⟩⟩⟩⟩⟩⟩⟩
theorem lw_p80 : lw_okq (⟨"CountyPrintModel", "keeps", "()V"⟩, 58) := ⟨⟨by decide +kernel, by decide +kernel⟩, List.mem_of_getElem? (i := 1067) (by decide +kernel), List.mem_of_getElem? (i := 1457) (by decide +kernel), List.mem_of_getElem? (i := 1458) (by decide +kernel)⟩
theorem lw_p81 : lw_okq (⟨"CountyPrintModel", "shows", "()V"⟩, 58) := ⟨⟨by decide +kernel, by decide +kernel⟩, List.mem_of_getElem? (i := 1067) (by decide +kernel), List.mem_of_getElem? (i := 1464) (by decide +kernel), List.mem_of_getElem? (i := 1465) (by decide +kernel)⟩
theorem lw_p82 : lw_okq (⟨"CountyPrintModel", "cuts", "(I)V"⟩, 58) := ⟨⟨by decide +kernel, by decide +kernel⟩, List.mem_of_getElem? (i := 1067) (by decide +kernel), List.mem_of_getElem? (i := 1468) (by decide +kernel), List.mem_of_getElem? (i := 1469) (by decide +kernel)⟩
theorem lw_p83 : lw_okq (⟨"CountyPrintModel", "minutesOf", "(I)I"⟩, 58) := ⟨⟨by decide +kernel, by decide +kernel⟩, List.mem_of_getElem? (i := 1067) (by decide +kernel), List.mem_of_getElem? (i := 1472) (by decide +kernel), List.mem_of_getElem? (i := 1473) (by decide +kernel)⟩
theorem lw_p84 : lw_okq (⟨"CountyPrintModel", "goesBack", "(I)V"⟩, 58) := ⟨⟨by decide +kernel, by decide +kernel⟩, List.mem_of_getElem? (i := 1067) (by decide +kernel), List.mem_of_getElem? (i := 1480) (by decide +kernel), List.mem_of_getElem? (i := 1481) (by decide +kernel)⟩
theorem lw_p85 : lw_okq (⟨"CountyPrintModel", "turns", "()V"⟩, 58) := ⟨⟨by decide +kernel, by decide +kernel⟩, List.mem_of_getElem? (i := 1067) (by decide +kernel), List.mem_of_getElem? (i := 1495) (by decide +kernel), List.mem_of_getElem? (i := 1496) (by decide +kernel)⟩
theorem lw_p86 : lw_okq (⟨"CountyPrintModel", "nextHall", "()I"⟩, 58) := ⟨⟨by decide +kernel, by decide +kernel⟩, List.mem_of_getElem? (i := 1067) (by decide +kernel), List.mem_of_getElem? (i := 1499) (by decide +kernel), List.mem_of_getElem? (i := 1500) (by decide +kernel)⟩
theorem lw_p87 : lw_okq (⟨"CountyPrintModel", "goes", "(I)Z"⟩, 58) := ⟨⟨by decide +kernel, by decide +kernel⟩, List.mem_of_getElem? (i := 1067) (by decide +kernel), List.mem_of_getElem? (i := 1511) (by decide +kernel), List.mem_of_getElem? (i := 1512) (by decide +kernel)⟩
theorem lw_p88 : lw_okq (⟨"CountyPrintModel", "makesSense", "(I)Z"⟩, 58) := ⟨⟨by decide +kernel, by decide +kernel⟩, List.mem_of_getElem? (i := 1067) (by decide +kernel), List.mem_of_getElem? (i := 1515) (by decide +kernel), List.mem_of_getElem? (i := 1516) (by decide +kernel)⟩
theorem lw_p89 : lw_okq (⟨"CountyPrintModel", "goesOn", "(I)V"⟩, 58) := ⟨⟨by decide +kernel, by decide +kernel⟩, List.mem_of_getElem? (i := 1067) (by decide +kernel), List.mem_of_getElem? (i := 1523) (by decide +kernel), List.mem_of_getElem? (i := 1524) (by decide +kernel)⟩
theorem lw_p90 : lw_okq (⟨"CountyPrintModel", "ofSort", "(II)I"⟩, 58) := ⟨⟨by decide +kernel, by decide +kernel⟩, List.mem_of_getElem? (i := 1067) (by decide +kernel), List.mem_of_getElem? (i := 1551) (by decide +kernel), List.mem_of_getElem? (i := 1552) (by decide +kernel)⟩
theorem lw_p91 : lw_okq (⟨"CountyPrintModel", "unlikeFrom", "(I)I"⟩, 58) := ⟨⟨by decide +kernel, by decide +kernel⟩, List.mem_of_getElem? (i := 1067) (by decide +kernel), List.mem_of_getElem? (i := 1559) (by decide +kernel), List.mem_of_getElem? (i := 1560) (by decide +kernel)⟩
theorem lw_p92 : lw_okq (⟨"CountyPrintModel", "orders", "(IIII)V"⟩, 58) := ⟨⟨by decide +kernel, by decide +kernel⟩, List.mem_of_getElem? (i := 1067) (by decide +kernel), List.mem_of_getElem? (i := 1576) (by decide +kernel), List.mem_of_getElem? (i := 1577) (by decide +kernel)⟩
theorem lw_p93 : lw_okq (⟨"CountyPrintModel", "otherFilm", "()I"⟩, 58) := ⟨⟨by decide +kernel, by decide +kernel⟩, List.mem_of_getElem? (i := 1067) (by decide +kernel), List.mem_of_getElem? (i := 1588) (by decide +kernel), List.mem_of_getElem? (i := 1589) (by decide +kernel)⟩
theorem lw_p94 : lw_okq (⟨"CountyPrintModel", "inDrawers", "()I"⟩, 58) := ⟨⟨by decide +kernel, by decide +kernel⟩, List.mem_of_getElem? (i := 1067) (by decide +kernel), List.mem_of_getElem? (i := 1592) (by decide +kernel), List.mem_of_getElem? (i := 1593) (by decide +kernel)⟩
theorem lw_p95 : lw_okq (⟨"CountyPrintModel", "hallsAsSeen", "()I"⟩, 58) := ⟨⟨by decide +kernel, by decide +kernel⟩, List.mem_of_getElem? (i := 1067) (by decide +kernel), List.mem_of_getElem? (i := 1620) (by decide +kernel), List.mem_of_getElem? (i := 1621) (by decide +kernel)⟩
def lw_privs_6 : List (MethodName × Nat) := [(⟨"CountyPrintModel", "keeps", "()V"⟩, 58), (⟨"CountyPrintModel", "shows", "()V"⟩, 58), (⟨"CountyPrintModel", "cuts", "(I)V"⟩, 58), (⟨"CountyPrintModel", "minutesOf", "(I)I"⟩, 58), (⟨"CountyPrintModel", "goesBack", "(I)V"⟩, 58), (⟨"CountyPrintModel", "turns", "()V"⟩, 58), (⟨"CountyPrintModel", "nextHall", "()I"⟩, 58), (⟨"CountyPrintModel", "goes", "(I)Z"⟩, 58), (⟨"CountyPrintModel", "makesSense", "(I)Z"⟩, 58), (⟨"CountyPrintModel", "goesOn", "(I)V"⟩, 58), (⟨"CountyPrintModel", "ofSort", "(II)I"⟩, 58), (⟨"CountyPrintModel", "unlikeFrom", "(I)I"⟩, 58), (⟨"CountyPrintModel", "orders", "(IIII)V"⟩, 58), (⟨"CountyPrintModel", "otherFilm", "()I"⟩, 58), (⟨"CountyPrintModel", "inDrawers", "()I"⟩, 58), (⟨"CountyPrintModel", "hallsAsSeen", "()I"⟩, 58)]
theorem lw_r6 : ∀ q ∈ lw_privs_6, lw_okq q := List.forall_mem_cons.mpr ⟨lw_p80, List.forall_mem_cons.mpr ⟨lw_p81, List.forall_mem_cons.mpr ⟨lw_p82, List.forall_mem_cons.mpr ⟨lw_p83, List.forall_mem_cons.mpr ⟨lw_p84, List.forall_mem_cons.mpr ⟨lw_p85, List.forall_mem_cons.mpr ⟨lw_p86, List.forall_mem_cons.mpr ⟨lw_p87, List.forall_mem_cons.mpr ⟨lw_p88, List.forall_mem_cons.mpr ⟨lw_p89, List.forall_mem_cons.mpr ⟨lw_p90, List.forall_mem_cons.mpr ⟨lw_p91, List.forall_mem_cons.mpr ⟨lw_p92, List.forall_mem_cons.mpr ⟨lw_p93, List.forall_mem_cons.mpr ⟨lw_p94, List.forall_mem_cons.mpr ⟨lw_p95, fun _ h => absurd h List.not_mem_nil⟩⟩⟩⟩⟩⟩⟩⟩⟩⟩⟩⟩⟩⟩⟩⟩
theorem lw_p96 : lw_okq (⟨"CountyPrintModel", "draws", "(I)I"⟩, 58) := ⟨⟨by decide +kernel, by decide +kernel⟩, List.mem_of_getElem? (i := 1067) (by decide +kernel), List.mem_of_getElem? (i := 1643) (by decide +kernel), List.mem_of_getElem? (i := 1644) (by decide +kernel)⟩
theorem lw_p97 : lw_okq (⟨"CountyPrintModel", "givesSome", "()V"⟩, 58) := ⟨⟨by decide +kernel, by decide +kernel⟩, List.mem_of_getElem? (i := 1067) (by decide +kernel), List.mem_of_getElem? (i := 1651) (by decide +kernel), List.mem_of_getElem? (i := 1652) (by decide +kernel)⟩
theorem lw_p98 : lw_okq (⟨"CountyPrintModel", "nth", "(II)I"⟩, 58) := ⟨⟨by decide +kernel, by decide +kernel⟩, List.mem_of_getElem? (i := 1067) (by decide +kernel), List.mem_of_getElem? (i := 1655) (by decide +kernel), List.mem_of_getElem? (i := 1656) (by decide +kernel)⟩
theorem lw_p99 : lw_okq (⟨"CountyPrintModel", "laysSeen", "(II)V"⟩, 58) := ⟨⟨by decide +kernel, by decide +kernel⟩, List.mem_of_getElem? (i := 1067) (by decide +kernel), List.mem_of_getElem? (i := 1663) (by decide +kernel), List.mem_of_getElem? (i := 1664) (by decide +kernel)⟩
def lw_privs_7 : List (MethodName × Nat) := [(⟨"CountyPrintModel", "draws", "(I)I"⟩, 58), (⟨"CountyPrintModel", "givesSome", "()V"⟩, 58), (⟨"CountyPrintModel", "nth", "(II)I"⟩, 58), (⟨"CountyPrintModel", "laysSeen", "(II)V"⟩, 58)]
theorem lw_r7 : ∀ q ∈ lw_privs_7, lw_okq q := List.forall_mem_cons.mpr ⟨lw_p96, List.forall_mem_cons.mpr ⟨lw_p97, List.forall_mem_cons.mpr ⟨lw_p98, List.forall_mem_cons.mpr ⟨lw_p99, fun _ h => absurd h List.not_mem_nil⟩⟩⟩⟩
def lw_privs : List (MethodName × Nat) := lw_privs_1 ++ (lw_privs_2 ++ (lw_privs_3 ++ (lw_privs_4 ++ (lw_privs_5 ++ (lw_privs_6 ++ (lw_privs_7))))))
def lw_tbl : List Cond := k2_sels lw_privs ++ tables_1
theorem lw_privs_ok : ∀ q ∈ lw_privs, lw_okq q := by
  show ∀ q ∈ lw_privs_1 ++ (lw_privs_2 ++ (lw_privs_3 ++ (lw_privs_4 ++ (lw_privs_5 ++ (lw_privs_6 ++ (lw_privs_7)))))), lw_okq q
  exact List.forall_mem_append.mpr ⟨lw_r1, List.forall_mem_append.mpr ⟨lw_r2, List.forall_mem_append.mpr ⟨lw_r3, List.forall_mem_append.mpr ⟨lw_r4, List.forall_mem_append.mpr ⟨lw_r5, List.forall_mem_append.mpr ⟨lw_r6, lw_r7⟩⟩⟩⟩⟩⟩

def RX0 : String := "CountyPrint$County"
def TX0 : u_T := fun k => match k with
  | 0 => ("CountyPrint$County", "shotCount", "I", false)
  | 1 => ("CountyPrint$County", "shotNames", "[J", true)
  | 2 => ("CountyPrint$County", "sorts", "[I", true)
  | 3 => ("CountyPrint$County", "lengths", "[I", true)
  | 4 => ("CountyPrint$County", "needs", "[I", true)
  | 5 => ("CountyPrint$County", "hallCount", "I", false)
  | 6 => ("CountyPrint$County", "hallNames", "[J", true)
  | 7 => ("CountyPrint$County", "kinds", "[I", true)
  | 8 => ("CountyPrint$County", "laws", "LCountyPrint$Laws;", true)
  | _ => ("CountyPrint$County", "verdicts", "[I", true)
def tyX0 : Nat → FieldType := fun k => match k with
  | 0 => .int
  | 1 => .array .long
  | 2 => .array .int
  | 3 => .array .int
  | 4 => .array .int
  | 5 => .int
  | 6 => .array .long
  | 7 => .array .int
  | 8 => .object "CountyPrint$Laws"
  | _ => .array .int
abbrev wsX00 : List Cond := u_ws RX0 TX0 10
theorem nmX0 : ∀ a, a < 10 → ∀ b, b < 10 → a ≠ b → (TX0 a).2.1 ≠ (TX0 b).2.1 := by decide +kernel
theorem tyX0_ok : ∀ k, k < 10 → parseFieldDescriptor (TX0 k).2.2.1 = some (tyX0 k) := by decide +kernel
abbrev cX0_init : ByteArray := prog_2_method_1_code
def yX0_init : MethodName := ⟨RX0, "<init>", "()V"⟩
abbrev cX0_clear : ByteArray := prog_2_method_2_code
def yX0_clear : MethodName := ⟨RX0, "clear", "()V"⟩
abbrev cX0_addShot : ByteArray := prog_2_method_3_code
def yX0_addShot : MethodName := ⟨RX0, "addShot", "(JII)V"⟩
abbrev cX0_addNeed : ByteArray := prog_2_method_4_code
def yX0_addNeed : MethodName := ⟨RX0, "addNeed", "(II)V"⟩
abbrev cX0_addHall : ByteArray := prog_2_method_5_code
def yX0_addHall : MethodName := ⟨RX0, "addHall", "(JI)V"⟩
abbrev cX0_isShot : ByteArray := prog_2_method_6_code
def yX0_isShot : MethodName := ⟨RX0, "isShot", "(I)Z"⟩
abbrev cX0_isHall : ByteArray := prog_2_method_7_code
def yX0_isHall : MethodName := ⟨RX0, "isHall", "(I)Z"⟩
abbrev cX0_isNeeded : ByteArray := prog_2_method_8_code
def yX0_isNeeded : MethodName := ⟨RX0, "isNeeded", "(II)Z"⟩
abbrev cX0_shotNamed : ByteArray := prog_2_method_9_code
def yX0_shotNamed : MethodName := ⟨RX0, "shotNamed", "(J)I"⟩
abbrev cX0_hallNamed : ByteArray := prog_2_method_10_code
def yX0_hallNamed : MethodName := ⟨RX0, "hallNamed", "(J)I"⟩
abbrev cX0_film : ByteArray := prog_2_method_11_code
def yX0_film : MethodName := ⟨RX0, "film", "()I"⟩
abbrev cX0_minutesOf : ByteArray := prog_2_method_12_code
def yX0_minutesOf : MethodName := ⟨RX0, "minutesOf", "(I)I"⟩
abbrev cX0_isLonger : ByteArray := prog_2_method_13_code
def yX0_isLonger : MethodName := ⟨RX0, "isLonger", "(II)Z"⟩
abbrev cX0_shotAt : ByteArray := prog_2_method_14_code
def yX0_shotAt : MethodName := ⟨RX0, "shotAt", "(II)I"⟩
abbrev cX0_makesSense : ByteArray := prog_2_method_15_code
def yX0_makesSense : MethodName := ⟨RX0, "makesSense", "(I)Z"⟩
abbrev cX0_allNeeds : ByteArray := prog_2_method_16_code
def yX0_allNeeds : MethodName := ⟨RX0, "allNeeds", "(I)I"⟩
abbrev cX0_shotsOfSort : ByteArray := prog_2_method_17_code
def yX0_shotsOfSort : MethodName := ⟨RX0, "shotsOfSort", "(I)I"⟩
abbrev cX0_unlikeFrom : ByteArray := prog_2_method_18_code
def yX0_unlikeFrom : MethodName := ⟨RX0, "unlikeFrom", "(II)I"⟩
abbrev cX0_takenOut : ByteArray := prog_2_method_19_code
def yX0_takenOut : MethodName := ⟨RX0, "takenOut", "(II)I"⟩
abbrev cX0_hatedIn : ByteArray := prog_2_method_20_code
def yX0_hatedIn : MethodName := ⟨RX0, "hatedIn", "(II)I"⟩
abbrev cX0_judgeAll : ByteArray := prog_2_method_21_code
def yX0_judgeAll : MethodName := ⟨RX0, "judgeAll", "()V"⟩
abbrev cX0_judge : ByteArray := prog_2_method_22_code
def yX0_judge : MethodName := ⟨RX0, "judge", "(IIII)V"⟩
abbrev cX0_keyOf : ByteArray := prog_2_method_23_code
def yX0_keyOf : MethodName := ⟨RX0, "keyOf", "(III)I"⟩
abbrev cX0_lastOf : ByteArray := prog_2_method_24_code
def yX0_lastOf : MethodName := ⟨RX0, "lastOf", "(I)I"⟩
abbrev cX0_behind : ByteArray := prog_2_method_25_code
def yX0_behind : MethodName := ⟨RX0, "behind", "(II)I"⟩
def RX1 : String := "CountyPrint$Draws"
def TX1 : u_T := fun k => match k with
  | _ => ("CountyPrint$Draws", "state", "J", false)
def tyX1 : Nat → FieldType := fun k => match k with
  | _ => .long
abbrev wsX10 : List Cond := u_ws RX1 TX1 1
theorem nmX1 : ∀ a, a < 1 → ∀ b, b < 1 → a ≠ b → (TX1 a).2.1 ≠ (TX1 b).2.1 := by decide +kernel
theorem tyX1_ok : ∀ k, k < 1 → parseFieldDescriptor (TX1 k).2.2.1 = some (tyX1 k) := by decide +kernel
abbrev cX1_init : ByteArray := prog_3_method_1_code
def yX1_init : MethodName := ⟨RX1, "<init>", "()V"⟩
abbrev cX1_begin : ByteArray := prog_3_method_2_code
def yX1_begin : MethodName := ⟨RX1, "begin", "(I)V"⟩
abbrev cX1_below : ByteArray := prog_3_method_3_code
def yX1_below : MethodName := ⟨RX1, "below", "(I)I"⟩
def RX2 : String := "CountyPrint$Laws"
def TX2 : u_T := fun k => match k with
  | 0 => ("CountyPrint$Laws", "code", "[I", true)
  | 1 => ("CountyPrint$Laws", "size", "I", false)
  | 2 => ("CountyPrint$Laws", "ends", "[I", true)
  | _ => ("CountyPrint$Laws", "stack", "[I", true)
def tyX2 : Nat → FieldType := fun k => match k with
  | 0 => .array .int
  | 1 => .int
  | 2 => .array .int
  | _ => .array .int
abbrev wsX20 : List Cond := u_ws RX2 TX2 4
theorem nmX2 : ∀ a, a < 4 → ∀ b, b < 4 → a ≠ b → (TX2 a).2.1 ≠ (TX2 b).2.1 := by decide +kernel
theorem tyX2_ok : ∀ k, k < 4 → parseFieldDescriptor (TX2 k).2.2.1 = some (tyX2 k) := by decide +kernel
abbrev cX2_init : ByteArray := prog_4_method_1_code
def yX2_init : MethodName := ⟨RX2, "<init>", "()V"⟩
abbrev cX2_add : ByteArray := prog_4_method_2_code
def yX2_add : MethodName := ⟨RX2, "add", "(I)V"⟩
abbrev cX2_valueFor : ByteArray := prog_4_method_3_code
def yX2_valueFor : MethodName := ⟨RX2, "valueFor", "(IIIII)I"⟩
abbrev cX2_join : ByteArray := prog_4_method_4_code
def yX2_join : MethodName := ⟨RX2, "join", "(III)I"⟩
def RX3 : String := "CountyPrint$Mark"
def TX3 : u_T := fun k => match k with
  | 0 => ("CountyPrint$Mark", "isLaid", "Z", false)
  | 1 => ("CountyPrint$Mark", "travel", "LCountyPrint$Travel;", true)
  | 2 => ("CountyPrint$Mark", "plan", "LCountyPrint$Plan;", true)
  | _ => ("CountyPrint$Mark", "sightings", "LCountyPrint$Sightings;", true)
def tyX3 : Nat → FieldType := fun k => match k with
  | 0 => .boolean
  | 1 => .object "CountyPrint$Travel"
  | 2 => .object "CountyPrint$Plan"
  | _ => .object "CountyPrint$Sightings"
abbrev wsX30 : List Cond := u_ws RX3 TX3 4
theorem nmX3 : ∀ a, a < 4 → ∀ b, b < 4 → a ≠ b → (TX3 a).2.1 ≠ (TX3 b).2.1 := by decide +kernel
theorem tyX3_ok : ∀ k, k < 4 → parseFieldDescriptor (TX3 k).2.2.1 = some (tyX3 k) := by decide +kernel
abbrev cX3_init : ByteArray := prog_5_method_1_code
def yX3_init : MethodName := ⟨RX3, "<init>", "()V"⟩
abbrev cX3_lay : ByteArray := prog_5_method_2_code
def yX3_lay : MethodName := ⟨RX3, "lay", "(LCountyPrint$Travel;LCountyPrint$Plan;LCountyPrint$Sightings;)V"⟩
abbrev cX3_goBack : ByteArray := prog_5_method_3_code
def yX3_goBack : MethodName := ⟨RX3, "goBack", "(LCountyPrint$Travel;LCountyPrint$Plan;LCountyPrint$Sightings;)V"⟩
def RX4 : String := "CountyPrint$Past"
def TX4 : u_T := fun k => match k with
  | 0 => ("CountyPrint$Past", "kept", "[LCountyPrint$Travel;", true)
  | 1 => ("CountyPrint$Past", "top", "I", false)
  | _ => ("CountyPrint$Past", "size", "I", false)
def tyX4 : Nat → FieldType := fun k => match k with
  | 0 => .array (.object "CountyPrint$Travel")
  | 1 => .int
  | _ => .int
abbrev wsX40 : List Cond := u_ws RX4 TX4 3
theorem nmX4 : ∀ a, a < 3 → ∀ b, b < 3 → a ≠ b → (TX4 a).2.1 ≠ (TX4 b).2.1 := by decide +kernel
theorem tyX4_ok : ∀ k, k < 3 → parseFieldDescriptor (TX4 k).2.2.1 = some (tyX4 k) := by decide +kernel
abbrev cX4_init : ByteArray := prog_6_method_1_code
def yX4_init : MethodName := ⟨RX4, "<init>", "()V"⟩
abbrev cX4_keep : ByteArray := prog_6_method_2_code
def yX4_keep : MethodName := ⟨RX4, "keep", "(LCountyPrint$Travel;)V"⟩
abbrev cX4_takeBack : ByteArray := prog_6_method_3_code
def yX4_takeBack : MethodName := ⟨RX4, "takeBack", "(LCountyPrint$Travel;)Z"⟩
abbrev cX4_forget : ByteArray := prog_6_method_4_code
def yX4_forget : MethodName := ⟨RX4, "forget", "()V"⟩
def RX5 : String := "CountyPrint$Plan"
def TX5 : u_T := fun k => match k with
  | 0 => ("CountyPrint$Plan", "lines", "I", false)
  | 1 => ("CountyPrint$Plan", "deeds", "[I", true)
  | 2 => ("CountyPrint$Plan", "givers", "[I", true)
  | 3 => ("CountyPrint$Plan", "takers", "[I", true)
  | _ => ("CountyPrint$Plan", "shots", "[I", true)
def tyX5 : Nat → FieldType := fun k => match k with
  | 0 => .int
  | 1 => .array .int
  | 2 => .array .int
  | 3 => .array .int
  | _ => .array .int
abbrev wsX50 : List Cond := u_ws RX5 TX5 5
theorem nmX5 : ∀ a, a < 5 → ∀ b, b < 5 → a ≠ b → (TX5 a).2.1 ≠ (TX5 b).2.1 := by decide +kernel
theorem tyX5_ok : ∀ k, k < 5 → parseFieldDescriptor (TX5 k).2.2.1 = some (tyX5 k) := by decide +kernel
abbrev cX5_init : ByteArray := prog_7_method_1_code
def yX5_init : MethodName := ⟨RX5, "<init>", "()V"⟩
abbrev cX5_clear : ByteArray := prog_7_method_2_code
def yX5_clear : MethodName := ⟨RX5, "clear", "()V"⟩
abbrev cX5_add : ByteArray := prog_7_method_3_code
def yX5_add : MethodName := ⟨RX5, "add", "(IIII)V"⟩
abbrev cX5_copy : ByteArray := prog_7_method_4_code
def yX5_copy : MethodName := ⟨RX5, "copy", "(LCountyPrint$Plan;)V"⟩
abbrev cX5_isPossible : ByteArray := prog_7_method_5_code
def yX5_isPossible : MethodName := ⟨RX5, "isPossible", "(ILCountyPrint$County;LCountyPrint$Travel;)Z"⟩
abbrev cX5_follow : ByteArray := prog_7_method_6_code
def yX5_follow : MethodName := ⟨RX5, "follow", "(ILCountyPrint$County;LCountyPrint$Travel;)V"⟩
def RX6 : String := "CountyPrint$Ranking"
def TX6 : u_T := fun k => match k with
  | 0 => ("CountyPrint$Ranking", "path", "[I", true)
  | 1 => ("CountyPrint$Ranking", "best", "[I", true)
  | _ => ("CountyPrint$Ranking", "most", "I", false)
def tyX6 : Nat → FieldType := fun k => match k with
  | 0 => .array .int
  | 1 => .array .int
  | _ => .int
abbrev wsX60 : List Cond := u_ws RX6 TX6 3
theorem nmX6 : ∀ a, a < 3 → ∀ b, b < 3 → a ≠ b → (TX6 a).2.1 ≠ (TX6 b).2.1 := by decide +kernel
theorem tyX6_ok : ∀ k, k < 3 → parseFieldDescriptor (TX6 k).2.2.1 = some (tyX6 k) := by decide +kernel
abbrev cX6_init : ByteArray := prog_8_method_1_code
def yX6_init : MethodName := ⟨RX6, "<init>", "()V"⟩
abbrev cX6_find : ByteArray := prog_8_method_2_code
def yX6_find : MethodName := ⟨RX6, "find", "(LCountyPrint$County;II)V"⟩
abbrev cX6_search : ByteArray := prog_8_method_3_code
def yX6_search : MethodName := ⟨RX6, "search", "(LCountyPrint$County;IIII)V"⟩
abbrev cX6_keepPath : ByteArray := prog_8_method_4_code
def yX6_keepPath : MethodName := ⟨RX6, "keepPath", "()V"⟩
def RX7 : String := "CountyPrint$Reader"
def TX7 : u_T := fun k => match k with
  | 0 => ("CountyPrint$Reader", "tape", "LCountyPrint$Tape;", true)
  | 1 => ("CountyPrint$Reader", "land", "LCountyPrint$County;", false)
  | _ => ("CountyPrint$Reader", "fault", "I", false)
def tyX7 : Nat → FieldType := fun k => match k with
  | 0 => .object "CountyPrint$Tape"
  | 1 => .object "CountyPrint$County"
  | _ => .int
abbrev wsX70 : List Cond := u_ws RX7 TX7 3
theorem nmX7 : ∀ a, a < 3 → ∀ b, b < 3 → a ≠ b → (TX7 a).2.1 ≠ (TX7 b).2.1 := by decide +kernel
theorem tyX7_ok : ∀ k, k < 3 → parseFieldDescriptor (TX7 k).2.2.1 = some (tyX7 k) := by decide +kernel
abbrev cX7_init : ByteArray := prog_9_method_1_code
def yX7_init : MethodName := ⟨RX7, "<init>", "(LCountyPrint$Tape;LCountyPrint$County;)V"⟩
abbrev cX7_readCounty : ByteArray := prog_9_method_2_code
def yX7_readCounty : MethodName := ⟨RX7, "readCounty", "(LCountyPrint$County;)I"⟩
abbrev cX7_readPlan : ByteArray := prog_9_method_3_code
def yX7_readPlan : MethodName := ⟨RX7, "readPlan", "(LCountyPrint$County;LCountyPrint$Plan;)I"⟩
abbrev cX7_begin : ByteArray := prog_9_method_4_code
def yX7_begin : MethodName := ⟨RX7, "begin", "(LCountyPrint$County;)V"⟩
abbrev cX7_fail : ByteArray := prog_9_method_5_code
def yX7_fail : MethodName := ⟨RX7, "fail", "(I)Z"⟩
abbrev cX7_readShot : ByteArray := prog_9_method_6_code
def yX7_readShot : MethodName := ⟨RX7, "readShot", "()Z"⟩
abbrev cX7_readNeeds : ByteArray := prog_9_method_7_code
def yX7_readNeeds : MethodName := ⟨RX7, "readNeeds", "()Z"⟩
abbrev cX7_readHall : ByteArray := prog_9_method_8_code
def yX7_readHall : MethodName := ⟨RX7, "readHall", "()Z"⟩
abbrev cX7_readPlanLine : ByteArray := prog_9_method_9_code
def yX7_readPlanLine : MethodName := ⟨RX7, "readPlanLine", "(LCountyPrint$Plan;)Z"⟩
abbrev cX7_readBare : ByteArray := prog_9_method_10_code
def yX7_readBare : MethodName := ⟨RX7, "readBare", "(LCountyPrint$Plan;I)Z"⟩
abbrev cX7_readHandling : ByteArray := prog_9_method_11_code
def yX7_readHandling : MethodName := ⟨RX7, "readHandling", "(LCountyPrint$Plan;I)Z"⟩
abbrev cX7_isName : ByteArray := prog_9_method_12_code
def yX7_isName : MethodName := ⟨RX7, "isName", "()Z"⟩
abbrev cX7_takeNewName : ByteArray := prog_9_method_13_code
def yX7_takeNewName : MethodName := ⟨RX7, "takeNewName", "()Z"⟩
abbrev cX7_takeTold : ByteArray := prog_9_method_14_code
def yX7_takeTold : MethodName := ⟨RX7, "takeTold", "(I)Z"⟩
abbrev cX7_takeKeyword : ByteArray := prog_9_method_15_code
def yX7_takeKeyword : MethodName := ⟨RX7, "takeKeyword", "(I)Z"⟩
abbrev cX7_takeNumber : ByteArray := prog_9_method_16_code
def yX7_takeNumber : MethodName := ⟨RX7, "takeNumber", "(II)Z"⟩
abbrev cX7_takeSemicolon : ByteArray := prog_9_method_17_code
def yX7_takeSemicolon : MethodName := ⟨RX7, "takeSemicolon", "()Z"⟩
abbrev cX7_readExpression : ByteArray := prog_9_method_18_code
def yX7_readExpression : MethodName := ⟨RX7, "readExpression", "(I)Z"⟩
abbrev cX7_readTest : ByteArray := prog_9_method_19_code
def yX7_readTest : MethodName := ⟨RX7, "readTest", "(I)Z"⟩
abbrev cX7_readSum : ByteArray := prog_9_method_20_code
def yX7_readSum : MethodName := ⟨RX7, "readSum", "(I)Z"⟩
abbrev cX7_readProduct : ByteArray := prog_9_method_21_code
def yX7_readProduct : MethodName := ⟨RX7, "readProduct", "(I)Z"⟩
abbrev cX7_readPart : ByteArray := prog_9_method_22_code
def yX7_readPart : MethodName := ⟨RX7, "readPart", "(I)Z"⟩
abbrev cX7_readBracketed : ByteArray := prog_9_method_23_code
def yX7_readBracketed : MethodName := ⟨RX7, "readBracketed", "(I)Z"⟩
abbrev cX7_readNegated : ByteArray := prog_9_method_24_code
def yX7_readNegated : MethodName := ⟨RX7, "readNegated", "(I)Z"⟩
def RX8 : String := "CountyPrint$Sightings"
def TX8 : u_T := fun k => match k with
  | 0 => ("CountyPrint$Sightings", "shots", "[I", true)
  | 1 => ("CountyPrint$Sightings", "isShown", "[Z", true)
  | _ => ("CountyPrint$Sightings", "size", "I", false)
def tyX8 : Nat → FieldType := fun k => match k with
  | 0 => .array .int
  | 1 => .array .boolean
  | _ => .int
abbrev wsX80 : List Cond := u_ws RX8 TX8 3
theorem nmX8 : ∀ a, a < 3 → ∀ b, b < 3 → a ≠ b → (TX8 a).2.1 ≠ (TX8 b).2.1 := by decide +kernel
theorem tyX8_ok : ∀ k, k < 3 → parseFieldDescriptor (TX8 k).2.2.1 = some (tyX8 k) := by decide +kernel
abbrev cX8_init : ByteArray := prog_10_method_1_code
def yX8_init : MethodName := ⟨RX8, "<init>", "()V"⟩
abbrev cX8_add : ByteArray := prog_10_method_2_code
def yX8_add : MethodName := ⟨RX8, "add", "(IZ)Z"⟩
abbrev cX8_copy : ByteArray := prog_10_method_3_code
def yX8_copy : MethodName := ⟨RX8, "copy", "(LCountyPrint$Sightings;)V"⟩
abbrev cX8_fit : ByteArray := prog_10_method_4_code
def yX8_fit : MethodName := ⟨RX8, "fit", "(I)Z"⟩
def RX9 : String := "CountyPrint$Tape"
def TX9 : u_T := fun k => match k with
  | 0 => ("CountyPrint$Tape", "words", "[J", true)
  | 1 => ("CountyPrint$Tape", "signs", "[C", true)
  | 2 => ("CountyPrint$Tape", "size", "I", false)
  | 3 => ("CountyPrint$Tape", "at", "I", false)
  | 4 => ("CountyPrint$Tape", "end", "I", false)
  | 5 => ("CountyPrint$Tape", "type", "I", false)
  | 6 => ("CountyPrint$Tape", "word", "J", false)
  | 7 => ("CountyPrint$Tape", "keyword", "I", false)
  | 8 => ("CountyPrint$Tape", "number", "I", false)
  | _ => ("CountyPrint$Tape", "sign", "C", false)
def tyX9 : Nat → FieldType := fun k => match k with
  | 0 => .array .long
  | 1 => .array .char
  | 2 => .int
  | 3 => .int
  | 4 => .int
  | 5 => .int
  | 6 => .long
  | 7 => .int
  | 8 => .int
  | _ => .char
abbrev wsX90 : List Cond := u_ws RX9 TX9 10
theorem nmX9 : ∀ a, a < 10 → ∀ b, b < 10 → a ≠ b → (TX9 a).2.1 ≠ (TX9 b).2.1 := by decide +kernel
theorem tyX9_ok : ∀ k, k < 10 → parseFieldDescriptor (TX9 k).2.2.1 = some (tyX9 k) := by decide +kernel
abbrev cX9_init : ByteArray := prog_11_method_1_code
def yX9_init : MethodName := ⟨RX9, "<init>", "()V"⟩
abbrev cX9_addBytes : ByteArray := prog_11_method_2_code
def yX9_addBytes : MethodName := ⟨RX9, "addBytes", "(J)V"⟩
abbrev cX9_start : ByteArray := prog_11_method_3_code
def yX9_start : MethodName := ⟨RX9, "start", "()V"⟩
abbrev cX9_advance : ByteArray := prog_11_method_4_code
def yX9_advance : MethodName := ⟨RX9, "advance", "()V"⟩
abbrev cX9_takeWord : ByteArray := prog_11_method_5_code
def yX9_takeWord : MethodName := ⟨RX9, "takeWord", "()V"⟩
abbrev cX9_takeNumber : ByteArray := prog_11_method_6_code
def yX9_takeNumber : MethodName := ⟨RX9, "takeNumber", "()V"⟩
abbrev cX9_takeSign : ByteArray := prog_11_method_7_code
def yX9_takeSign : MethodName := ⟨RX9, "takeSign", "()V"⟩
abbrev cX9_isSign : ByteArray := prog_11_method_8_code
def yX9_isSign : MethodName := ⟨RX9, "isSign", "(C)Z"⟩
abbrev cX9_isLetter : ByteArray := prog_11_method_9_code
def yX9_isLetter : MethodName := ⟨RX9, "isLetter", "(C)Z"⟩
abbrev cX9_isDigit : ByteArray := prog_11_method_10_code
def yX9_isDigit : MethodName := ⟨RX9, "isDigit", "(C)Z"⟩
def RX10 : String := "CountyPrint$Travel"
def TX10 : u_T := fun k => match k with
  | 0 => ("CountyPrint$Travel", "print", "I", false)
  | 1 => ("CountyPrint$Travel", "drawers", "[I", true)
  | 2 => ("CountyPrint$Travel", "isTurned", "Z", false)
  | 3 => ("CountyPrint$Travel", "next", "I", false)
  | _ => ("CountyPrint$Travel", "toursOver", "I", false)
def tyX10 : Nat → FieldType := fun k => match k with
  | 0 => .int
  | 1 => .array .int
  | 2 => .boolean
  | 3 => .int
  | _ => .int
abbrev wsX100 : List Cond := u_ws RX10 TX10 5
theorem nmX10 : ∀ a, a < 5 → ∀ b, b < 5 → a ≠ b → (TX10 a).2.1 ≠ (TX10 b).2.1 := by decide +kernel
theorem tyX10_ok : ∀ k, k < 5 → parseFieldDescriptor (TX10 k).2.2.1 = some (tyX10 k) := by decide +kernel
abbrev cX10_init : ByteArray := prog_12_method_1_code
def yX10_init : MethodName := ⟨RX10, "<init>", "()V"⟩
abbrev cX10_begin : ByteArray := prog_12_method_2_code
def yX10_begin : MethodName := ⟨RX10, "begin", "(I)V"⟩
abbrev cX10_copy : ByteArray := prog_12_method_3_code
def yX10_copy : MethodName := ⟨RX10, "copy", "(LCountyPrint$Travel;)V"⟩
abbrev cX10_swapPlace : ByteArray := prog_12_method_4_code
def yX10_swapPlace : MethodName := ⟨RX10, "swapPlace", "(LCountyPrint$County;I)I"⟩
abbrev cX10_drawn : ByteArray := prog_12_method_5_code
def yX10_drawn : MethodName := ⟨RX10, "drawn", "()I"⟩
abbrev cX10_holds : ByteArray := prog_12_method_6_code
def yX10_holds : MethodName := ⟨RX10, "holds", "(II)Z"⟩
abbrev cX10_holderOf : ByteArray := prog_12_method_7_code
def yX10_holderOf : MethodName := ⟨RX10, "holderOf", "(I)I"⟩
abbrev cX10_showAt : ByteArray := prog_12_method_8_code
def yX10_showAt : MethodName := ⟨RX10, "showAt", "(LCountyPrint$County;I)V"⟩
abbrev cX10_showNext : ByteArray := prog_12_method_9_code
def yX10_showNext : MethodName := ⟨RX10, "showNext", "(LCountyPrint$County;)I"⟩
abbrev cX10_giveBack : ByteArray := prog_12_method_10_code
def yX10_giveBack : MethodName := ⟨RX10, "giveBack", "(II)V"⟩
abbrev cX10_handOver : ByteArray := prog_12_method_11_code
def yX10_handOver : MethodName := ⟨RX10, "handOver", "(III)V"⟩
abbrev cX10_turnRound : ByteArray := prog_12_method_12_code
def yX10_turnRound : MethodName := ⟨RX10, "turnRound", "()V"⟩
def RX11 : String := "CountyPrint"
def TX11 : u_T := fun k => match k with
  | 0 => ("CountyPrint", "tape", "LCountyPrint$Tape;", true)
  | 1 => ("CountyPrint", "reader", "LCountyPrint$Reader;", true)
  | 2 => ("CountyPrint", "land", "LCountyPrint$County;", false)
  | 3 => ("CountyPrint", "landDraft", "LCountyPrint$County;", false)
  | 4 => ("CountyPrint", "plan", "LCountyPrint$Plan;", false)
  | 5 => ("CountyPrint", "planDraft", "LCountyPrint$Plan;", false)
  | 6 => ("CountyPrint", "now", "LCountyPrint$Travel;", true)
  | 7 => ("CountyPrint", "trial", "LCountyPrint$Travel;", true)
  | 8 => ("CountyPrint", "past", "LCountyPrint$Past;", true)
  | 9 => ("CountyPrint", "sightings", "LCountyPrint$Sightings;", true)
  | 10 => ("CountyPrint", "marks", "[LCountyPrint$Mark;", true)
  | 11 => ("CountyPrint", "ranking", "LCountyPrint$Ranking;", true)
  | 12 => ("CountyPrint", "draws", "LCountyPrint$Draws;", true)
  | _ => ("CountyPrint", "rows", "[I", true)
def tyX11 : Nat → FieldType := fun k => match k with
  | 0 => .object "CountyPrint$Tape"
  | 1 => .object "CountyPrint$Reader"
  | 2 => .object "CountyPrint$County"
  | 3 => .object "CountyPrint$County"
  | 4 => .object "CountyPrint$Plan"
  | 5 => .object "CountyPrint$Plan"
  | 6 => .object "CountyPrint$Travel"
  | 7 => .object "CountyPrint$Travel"
  | 8 => .object "CountyPrint$Past"
  | 9 => .object "CountyPrint$Sightings"
  | 10 => .array (.object "CountyPrint$Mark")
  | 11 => .object "CountyPrint$Ranking"
  | 12 => .object "CountyPrint$Draws"
  | _ => .array .int
abbrev wsX110 : List Cond := u_ws RX11 TX11 14
theorem nmX11 : ∀ a, a < 14 → ∀ b, b < 14 → a ≠ b → (TX11 a).2.1 ≠ (TX11 b).2.1 := by decide +kernel
theorem tyX11_ok : ∀ k, k < 14 → parseFieldDescriptor (TX11 k).2.2.1 = some (tyX11 k) := by decide +kernel
abbrev cX11_init : ByteArray := prog_1_method_1_code
def yX11_init : MethodName := ⟨RX11, "<init>", "()V"⟩
abbrev cX11_feed : ByteArray := prog_1_method_2_code
def yX11_feed : MethodName := ⟨RX11, "feed", "(JJJ)I"⟩
abbrev cX11_county : ByteArray := prog_1_method_3_code
def yX11_county : MethodName := ⟨RX11, "county", "()I"⟩
abbrev cX11_round : ByteArray := prog_1_method_4_code
def yX11_round : MethodName := ⟨RX11, "round", "()I"⟩
abbrev cX11_shot : ByteArray := prog_1_method_5_code
def yX11_shot : MethodName := ⟨RX11, "shot", "(II)I"⟩
abbrev cX11_hall : ByteArray := prog_1_method_6_code
def yX11_hall : MethodName := ⟨RX11, "hall", "(II)I"⟩
abbrev cX11_show : ByteArray := prog_1_method_7_code
def yX11_show : MethodName := ⟨RX11, "show", "()I"⟩
abbrev cX11_give : ByteArray := prog_1_method_8_code
def yX11_give : MethodName := ⟨RX11, "give", "(II)I"⟩
abbrev cX11_trade : ByteArray := prog_1_method_9_code
def yX11_trade : MethodName := ⟨RX11, "trade", "(III)Z"⟩
abbrev cX11_turn : ByteArray := prog_1_method_10_code
def yX11_turn : MethodName := ⟨RX11, "turn", "()I"⟩
abbrev cX11_undo : ByteArray := prog_1_method_11_code
def yX11_undo : MethodName := ⟨RX11, "undo", "()Z"⟩
abbrev cX11_judged : ByteArray := prog_1_method_12_code
def yX11_judged : MethodName := ⟨RX11, "judged", "(I)I"⟩
abbrev cX11_shown : ByteArray := prog_1_method_13_code
def yX11_shown : MethodName := ⟨RX11, "shown", "(II)I"⟩
abbrev cX11_minutes : ByteArray := prog_1_method_14_code
def yX11_minutes : MethodName := ⟨RX11, "minutes", "(I)I"⟩
abbrev cX11_silly : ByteArray := prog_1_method_15_code
def yX11_silly : MethodName := ⟨RX11, "silly", "()I"⟩
abbrev cX11_lasts : ByteArray := prog_1_method_16_code
def yX11_lasts : MethodName := ⟨RX11, "lasts", "()I"⟩
abbrev cX11_sense : ByteArray := prog_1_method_17_code
def yX11_sense : MethodName := ⟨RX11, "sense", "()Z"⟩
abbrev cX11_gone : ByteArray := prog_1_method_18_code
def yX11_gone : MethodName := ⟨RX11, "gone", "(I)I"⟩
abbrev cX11_saves : ByteArray := prog_1_method_19_code
def yX11_saves : MethodName := ⟨RX11, "saves", "(I)I"⟩
abbrev cX11_kin : ByteArray := prog_1_method_20_code
def yX11_kin : MethodName := ⟨RX11, "kin", "(I)I"⟩
abbrev cX11_hoard : ByteArray := prog_1_method_21_code
def yX11_hoard : MethodName := ⟨RX11, "hoard", "(I)I"⟩
abbrev cX11_longest : ByteArray := prog_1_method_22_code
def yX11_longest : MethodName := ⟨RX11, "longest", "()I"⟩
abbrev cX11_order : ByteArray := prog_1_method_23_code
def yX11_order : MethodName := ⟨RX11, "order", "(I)I"⟩
abbrev cX11_ride : ByteArray := prog_1_method_24_code
def yX11_ride : MethodName := ⟨RX11, "ride", "()I"⟩
abbrev cX11_other : ByteArray := prog_1_method_25_code
def yX11_other : MethodName := ⟨RX11, "other", "(I)I"⟩
abbrev cX11_mends : ByteArray := prog_1_method_26_code
def yX11_mends : MethodName := ⟨RX11, "mends", "()I"⟩
abbrev cX11_where : ByteArray := prog_1_method_27_code
def yX11_where : MethodName := ⟨RX11, "where", "(I)I"⟩
abbrev cX11_taste : ByteArray := prog_1_method_28_code
def yX11_taste : MethodName := ⟨RX11, "taste", "(II)I"⟩
abbrev cX11_mild : ByteArray := prog_1_method_29_code
def yX11_mild : MethodName := ⟨RX11, "mild", "()I"⟩
abbrev cX11_see : ByteArray := prog_1_method_30_code
def yX11_see : MethodName := ⟨RX11, "see", "(IZ)Z"⟩
abbrev cX11_halls : ByteArray := prog_1_method_31_code
def yX11_halls : MethodName := ⟨RX11, "halls", "()I"⟩
abbrev cX11_ask : ByteArray := prog_1_method_32_code
def yX11_ask : MethodName := ⟨RX11, "ask", "()I"⟩
abbrev cX11_rests : ByteArray := prog_1_method_33_code
def yX11_rests : MethodName := ⟨RX11, "rests", "(IIII)I"⟩
abbrev cX11_share : ByteArray := prog_1_method_34_code
def yX11_share : MethodName := ⟨RX11, "share", "(I)I"⟩
abbrev cX11_tours : ByteArray := prog_1_method_35_code
def yX11_tours : MethodName := ⟨RX11, "tours", "(III)I"⟩
abbrev cX11_mark : ByteArray := prog_1_method_36_code
def yX11_mark : MethodName := ⟨RX11, "mark", "(IZ)Z"⟩
abbrev cX11_count : ByteArray := prog_1_method_37_code
def yX11_count : MethodName := ⟨RX11, "count", "(I)I"⟩
abbrev cX11_beginAnew : ByteArray := prog_1_method_38_code
def yX11_beginAnew : MethodName := ⟨RX11, "beginAnew", "()V"⟩
abbrev cX11_liesIn : ByteArray := prog_1_method_39_code
def yX11_liesIn : MethodName := ⟨RX11, "liesIn", "(II)Z"⟩
abbrev cX11_nextHall : ByteArray := prog_1_method_40_code
def yX11_nextHall : MethodName := ⟨RX11, "nextHall", "()I"⟩
abbrev cX11_nextPlace : ByteArray := prog_1_method_41_code
def yX11_nextPlace : MethodName := ⟨RX11, "nextPlace", "()I"⟩
abbrev cX11_isAhead : ByteArray := prog_1_method_42_code
def yX11_isAhead : MethodName := ⟨RX11, "isAhead", "(I)Z"⟩
abbrev cX11_hallsAhead : ByteArray := prog_1_method_43_code
def yX11_hallsAhead : MethodName := ⟨RX11, "hallsAhead", "()I"⟩
abbrev cX11_rowShownAt : ByteArray := prog_1_method_44_code
def yX11_rowShownAt : MethodName := ⟨RX11, "rowShownAt", "(I)I"⟩
abbrev cX11_minutesTogether : ByteArray := prog_1_method_45_code
def yX11_minutesTogether : MethodName := ⟨RX11, "minutesTogether", "(I)I"⟩
abbrev cX11_fillRows : ByteArray := prog_1_method_46_code
def yX11_fillRows : MethodName := ⟨RX11, "fillRows", "()V"⟩
abbrev cX11_seenBy : ByteArray := prog_1_method_47_code
def yX11_seenBy : MethodName := ⟨RX11, "seenBy", "(I)I"⟩
abbrev cX11_greaterPart : ByteArray := prog_1_method_48_code
def yX11_greaterPart : MethodName := ⟨RX11, "greaterPart", "(II)I"⟩
abbrev cX11_giveBackByDraw : ByteArray := prog_1_method_49_code
def yX11_giveBackByDraw : MethodName := ⟨RX11, "giveBackByDraw", "()V"⟩
abbrev cX11_isBid : ByteArray := prog_1_method_50_code
def yX11_isBid : MethodName := ⟨RX11, "isBid", "(I)Z"⟩
abbrev cX11_isAtRest : ByteArray := prog_1_method_51_code
def yX11_isAtRest : MethodName := ⟨RX11, "isAtRest", "(IIII)Z"⟩
abbrev cX11_gain : ByteArray := prog_1_method_52_code
def yX11_gain : MethodName := ⟨RX11, "gain", "(IIIII)I"⟩
def RX12 : String := "CountyPrintModel"
def TX12 : u_T := fun k => match k with
  | 0 => ("CountyPrintModel", "thrown", "I", false)
  | 1 => ("CountyPrintModel", "taped", "I", false)
  | 2 => ("CountyPrintModel", "tape", "[I", true)
  | 3 => ("CountyPrintModel", "size", "I", false)
  | 4 => ("CountyPrintModel", "place", "I", false)
  | 5 => ("CountyPrintModel", "begin", "I", false)
  | 6 => ("CountyPrintModel", "token", "I", false)
  | 7 => ("CountyPrintModel", "word", "J", false)
  | 8 => ("CountyPrintModel", "told", "I", false)
  | 9 => ("CountyPrintModel", "wrong", "I", false)
  | 10 => ("CountyPrintModel", "county", "[I", true)
  | 11 => ("CountyPrintModel", "shotName", "[J", true)
  | 12 => ("CountyPrintModel", "hallName", "[J", true)
  | 13 => ("CountyPrintModel", "sort", "[I", true)
  | 14 => ("CountyPrintModel", "long0", "[I", true)
  | 15 => ("CountyPrintModel", "needs", "[I", true)
  | 16 => ("CountyPrintModel", "kind", "[I", true)
  | 17 => ("CountyPrintModel", "lineFrom", "[I", true)
  | 18 => ("CountyPrintModel", "lineTo", "[I", true)
  | 19 => ("CountyPrintModel", "codes", "[I", true)
  | 20 => ("CountyPrintModel", "code", "I", false)
  | 21 => ("CountyPrintModel", "opened", "[I", true)
  | 22 => ("CountyPrintModel", "compared", "[Z", true)
  | 23 => ("CountyPrintModel", "kept", "[I", true)
  | 24 => ("CountyPrintModel", "keptBy", "[I", true)
  | 25 => ("CountyPrintModel", "ahead", "[I", true)
  | 26 => ("CountyPrintModel", "against", "[I", true)
  | 27 => ("CountyPrintModel", "sum", "[I", true)
  | 28 => ("CountyPrintModel", "sumBy", "[I", true)
  | 29 => ("CountyPrintModel", "term", "[I", true)
  | 30 => ("CountyPrintModel", "termBy", "[I", true)
  | 31 => ("CountyPrintModel", "byNot", "[I", true)
  | 32 => ("CountyPrintModel", "valueOf", "[I", true)
  | 33 => ("CountyPrintModel", "given", "I", false)
  | 34 => ("CountyPrintModel", "fresh", "J", false)
  | 35 => ("CountyPrintModel", "lines", "[I", true)
  | 36 => ("CountyPrintModel", "lineWhat", "[I", true)
  | 37 => ("CountyPrintModel", "lineA", "[I", true)
  | 38 => ("CountyPrintModel", "lineB", "[I", true)
  | 39 => ("CountyPrintModel", "lineShot", "[I", true)
  | 40 => ("CountyPrintModel", "seens", "[I", true)
  | 41 => ("CountyPrintModel", "seenShot", "[I", true)
  | 42 => ("CountyPrintModel", "seenShown", "[Z", true)
  | 43 => ("CountyPrintModel", "s", "[I", true)
  | 44 => ("CountyPrintModel", "aside", "[I", true)
  | 45 => ("CountyPrintModel", "before", "[I", true)
  | 46 => ("CountyPrintModel", "marked", "[I", true)
  | 47 => ("CountyPrintModel", "undone", "[I", true)
  | 48 => ("CountyPrintModel", "isLaid", "[Z", true)
  | 49 => ("CountyPrintModel", "done", "I", false)
  | 50 => ("CountyPrintModel", "showsBy", "[I", true)
  | 51 => ("CountyPrintModel", "goneBy", "[I", true)
  | 52 => ("CountyPrintModel", "silliest", "I", false)
  | 53 => ("CountyPrintModel", "together", "I", false)
  | 54 => ("CountyPrintModel", "row", "[I", true)
  | 55 => ("CountyPrintModel", "bestRow", "[I", true)
  | 56 => ("CountyPrintModel", "mostShown", "I", false)
  | _ => ("CountyPrintModel", "g", "J", false)
def tyX12 : Nat → FieldType := fun k => match k with
  | 0 => .int
  | 1 => .int
  | 2 => .array .int
  | 3 => .int
  | 4 => .int
  | 5 => .int
  | 6 => .int
  | 7 => .long
  | 8 => .int
  | 9 => .int
  | 10 => .array .int
  | 11 => .array .long
  | 12 => .array .long
  | 13 => .array .int
  | 14 => .array .int
  | 15 => .array .int
  | 16 => .array .int
  | 17 => .array .int
  | 18 => .array .int
  | 19 => .array .int
  | 20 => .int
  | 21 => .array .int
  | 22 => .array .boolean
  | 23 => .array .int
  | 24 => .array .int
  | 25 => .array .int
  | 26 => .array .int
  | 27 => .array .int
  | 28 => .array .int
  | 29 => .array .int
  | 30 => .array .int
  | 31 => .array .int
  | 32 => .array .int
  | 33 => .int
  | 34 => .long
  | 35 => .array .int
  | 36 => .array .int
  | 37 => .array .int
  | 38 => .array .int
  | 39 => .array .int
  | 40 => .array .int
  | 41 => .array .int
  | 42 => .array .boolean
  | 43 => .array .int
  | 44 => .array .int
  | 45 => .array .int
  | 46 => .array .int
  | 47 => .array .int
  | 48 => .array .boolean
  | 49 => .int
  | 50 => .array .int
  | 51 => .array .int
  | 52 => .int
  | 53 => .int
  | 54 => .array .int
  | 55 => .array .int
  | 56 => .int
  | _ => .long
abbrev wsX120 : List Cond := u_ws RX12 TX12 58
theorem nmX12 : ∀ a, a < 58 → ∀ b, b < 58 → a ≠ b → (TX12 a).2.1 ≠ (TX12 b).2.1 := by decide +kernel
theorem tyX12_ok : ∀ k, k < 58 → parseFieldDescriptor (TX12 k).2.2.1 = some (tyX12 k) := by decide +kernel
abbrev cX12_init : ByteArray := prog_14_method_1_code
def yX12_init : MethodName := ⟨RX12, "<init>", "()V"⟩
abbrev cX12_thrown : ByteArray := prog_14_method_2_code
def yX12_thrown : MethodName := ⟨RX12, "thrown", "()I"⟩
abbrev cX12_within : ByteArray := prog_14_method_3_code
def yX12_within : MethodName := ⟨RX12, "within", "(III)Z"⟩
abbrev cX12_bits : ByteArray := prog_14_method_4_code
def yX12_bits : MethodName := ⟨RX12, "bits", "(I)I"⟩
abbrev cX12_feed : ByteArray := prog_14_method_5_code
def yX12_feed : MethodName := ⟨RX12, "feed", "(JJJ)I"⟩
abbrev cX12_signAt : ByteArray := prog_14_method_6_code
def yX12_signAt : MethodName := ⟨RX12, "signAt", "(I)I"⟩
abbrev cX12_nextToken : ByteArray := prog_14_method_7_code
def yX12_nextToken : MethodName := ⟨RX12, "nextToken", "()V"⟩
abbrev cX12_isWord : ByteArray := prog_14_method_8_code
def yX12_isWord : MethodName := ⟨RX12, "isWord", "(J)Z"⟩
abbrev cX12_isSign : ByteArray := prog_14_method_9_code
def yX12_isSign : MethodName := ⟨RX12, "isSign", "(I)Z"⟩
abbrev cX12_fails : ByteArray := prog_14_method_10_code
def yX12_fails : MethodName := ⟨RX12, "fails", "(I)Z"⟩
abbrev cX12_puts : ByteArray := prog_14_method_11_code
def yX12_puts : MethodName := ⟨RX12, "puts", "(I)V"⟩
abbrev cX12_fact : ByteArray := prog_14_method_12_code
def yX12_fact : MethodName := ⟨RX12, "fact", "()I"⟩
abbrev cX12_reads : ByteArray := prog_14_method_13_code
def yX12_reads : MethodName := ⟨RX12, "reads", "()Z"⟩
abbrev cX12_opens : ByteArray := prog_14_method_14_code
def yX12_opens : MethodName := ⟨RX12, "opens", "(I)V"⟩
abbrev cX12_sums : ByteArray := prog_14_method_15_code
def yX12_sums : MethodName := ⟨RX12, "sums", "(I)V"⟩
abbrev cX12_tests : ByteArray := prog_14_method_16_code
def yX12_tests : MethodName := ⟨RX12, "tests", "(I)V"⟩
abbrev cX12_worked : ByteArray := prog_14_method_17_code
def yX12_worked : MethodName := ⟨RX12, "worked", "(I)I"⟩
abbrev cX12_isKept : ByteArray := prog_14_method_18_code
def yX12_isKept : MethodName := ⟨RX12, "isKept", "()Z"⟩
abbrev cX12_shotNamed : ByteArray := prog_14_method_19_code
def yX12_shotNamed : MethodName := ⟨RX12, "shotNamed", "(I)I"⟩
abbrev cX12_hallNamed : ByteArray := prog_14_method_20_code
def yX12_hallNamed : MethodName := ⟨RX12, "hallNamed", "(I)I"⟩
abbrev cX12_needsNumber : ByteArray := prog_14_method_21_code
def yX12_needsNumber : MethodName := ⟨RX12, "needsNumber", "(II)Z"⟩
abbrev cX12_needsWord : ByteArray := prog_14_method_22_code
def yX12_needsWord : MethodName := ⟨RX12, "needsWord", "(J)Z"⟩
abbrev cX12_closes : ByteArray := prog_14_method_23_code
def yX12_closes : MethodName := ⟨RX12, "closes", "()Z"⟩
abbrev cX12_needsNew : ByteArray := prog_14_method_24_code
def yX12_needsNew : MethodName := ⟨RX12, "needsNew", "()Z"⟩
abbrev cX12_needsShot : ByteArray := prog_14_method_25_code
def yX12_needsShot : MethodName := ⟨RX12, "needsShot", "(I)Z"⟩
abbrev cX12_needsHall : ByteArray := prog_14_method_26_code
def yX12_needsHall : MethodName := ⟨RX12, "needsHall", "()Z"⟩
abbrev cX12_readsShot : ByteArray := prog_14_method_27_code
def yX12_readsShot : MethodName := ⟨RX12, "readsShot", "()Z"⟩
abbrev cX12_readsNeeds : ByteArray := prog_14_method_28_code
def yX12_readsNeeds : MethodName := ⟨RX12, "readsNeeds", "()Z"⟩
abbrev cX12_readsHall : ByteArray := prog_14_method_29_code
def yX12_readsHall : MethodName := ⟨RX12, "readsHall", "()Z"⟩
abbrev cX12_begins : ByteArray := prog_14_method_30_code
def yX12_begins : MethodName := ⟨RX12, "begins", "()V"⟩
abbrev cX12_readsAll : ByteArray := prog_14_method_31_code
def yX12_readsAll : MethodName := ⟨RX12, "readsAll", "()Z"⟩
abbrev cX12_shifts : ByteArray := prog_14_method_32_code
def yX12_shifts : MethodName := ⟨RX12, "shifts", "([II)V"⟩
abbrev cX12_shiftsNames : ByteArray := prog_14_method_33_code
def yX12_shiftsNames : MethodName := ⟨RX12, "shiftsNames", "([JI)V"⟩
abbrev cX12_lays : ByteArray := prog_14_method_34_code
def yX12_lays : MethodName := ⟨RX12, "lays", "()V"⟩
abbrev cX12_copies : ByteArray := prog_14_method_35_code
def yX12_copies : MethodName := ⟨RX12, "copies", "([II[II)V"⟩
abbrev cX12_readsLine : ByteArray := prog_14_method_36_code
def yX12_readsLine : MethodName := ⟨RX12, "readsLine", "()Z"⟩
abbrev cX12_laysLines : ByteArray := prog_14_method_37_code
def yX12_laysLines : MethodName := ⟨RX12, "laysLines", "(II)V"⟩
abbrev cX12_laysSeen : ByteArray := prog_14_method_38_code
def yX12_laysSeen : MethodName := ⟨RX12, "laysSeen", "(II)V"⟩
abbrev cX12_fresh : ByteArray := prog_14_method_39_code
def yX12_fresh : MethodName := ⟨RX12, "fresh", "()V"⟩
abbrev cX12_county : ByteArray := prog_14_method_40_code
def yX12_county : MethodName := ⟨RX12, "county", "()I"⟩
abbrev cX12_round : ByteArray := prog_14_method_41_code
def yX12_round : MethodName := ⟨RX12, "round", "()I"⟩
abbrev cX12_allShots : ByteArray := prog_14_method_42_code
def yX12_allShots : MethodName := ⟨RX12, "allShots", "()I"⟩
abbrev cX12_isShot : ByteArray := prog_14_method_43_code
def yX12_isShot : MethodName := ⟨RX12, "isShot", "(I)Z"⟩
abbrev cX12_isHall : ByteArray := prog_14_method_44_code
def yX12_isHall : MethodName := ⟨RX12, "isHall", "(I)Z"⟩
abbrev cX12_minutesOf : ByteArray := prog_14_method_45_code
def yX12_minutesOf : MethodName := ⟨RX12, "minutesOf", "(I)I"⟩
abbrev cX12_hates : ByteArray := prog_14_method_46_code
def yX12_hates : MethodName := ⟨RX12, "hates", "(IIII)Z"⟩
abbrev cX12_takesOut : ByteArray := prog_14_method_47_code
def yX12_takesOut : MethodName := ⟨RX12, "takesOut", "(II)I"⟩
abbrev cX12_makesSense : ByteArray := prog_14_method_48_code
def yX12_makesSense : MethodName := ⟨RX12, "makesSense", "(I)Z"⟩
abbrev cX12_drawerOf : ByteArray := prog_14_method_49_code
def yX12_drawerOf : MethodName := ⟨RX12, "drawerOf", "(I)I"⟩
abbrev cX12_inDrawers : ByteArray := prog_14_method_50_code
def yX12_inDrawers : MethodName := ⟨RX12, "inDrawers", "()I"⟩
abbrev cX12_cuts : ByteArray := prog_14_method_51_code
def yX12_cuts : MethodName := ⟨RX12, "cuts", "(I)V"⟩
abbrev cX12_shows : ByteArray := prog_14_method_52_code
def yX12_shows : MethodName := ⟨RX12, "shows", "()V"⟩
abbrev cX12_goesBack : ByteArray := prog_14_method_53_code
def yX12_goesBack : MethodName := ⟨RX12, "goesBack", "(I)V"⟩
abbrev cX12_turns : ByteArray := prog_14_method_54_code
def yX12_turns : MethodName := ⟨RX12, "turns", "()V"⟩
abbrev cX12_placeOf : ByteArray := prog_14_method_55_code
def yX12_placeOf : MethodName := ⟨RX12, "placeOf", "(I)I"⟩
abbrev cX12_shot : ByteArray := prog_14_method_56_code
def yX12_shot : MethodName := ⟨RX12, "shot", "(II)I"⟩
abbrev cX12_hall : ByteArray := prog_14_method_57_code
def yX12_hall : MethodName := ⟨RX12, "hall", "(II)I"⟩
abbrev cX12_keeps : ByteArray := prog_14_method_58_code
def yX12_keeps : MethodName := ⟨RX12, "keeps", "()V"⟩
abbrev cX12_show : ByteArray := prog_14_method_59_code
def yX12_show : MethodName := ⟨RX12, "show", "()I"⟩
abbrev cX12_give : ByteArray := prog_14_method_60_code
def yX12_give : MethodName := ⟨RX12, "give", "(II)I"⟩
abbrev cX12_trade : ByteArray := prog_14_method_61_code
def yX12_trade : MethodName := ⟨RX12, "trade", "(III)Z"⟩
abbrev cX12_nextHall : ByteArray := prog_14_method_62_code
def yX12_nextHall : MethodName := ⟨RX12, "nextHall", "()I"⟩
abbrev cX12_turn : ByteArray := prog_14_method_63_code
def yX12_turn : MethodName := ⟨RX12, "turn", "()I"⟩
abbrev cX12_undo : ByteArray := prog_14_method_64_code
def yX12_undo : MethodName := ⟨RX12, "undo", "()Z"⟩
abbrev cX12_goes : ByteArray := prog_14_method_65_code
def yX12_goes : MethodName := ⟨RX12, "goes", "(I)Z"⟩
abbrev cX12_judged : ByteArray := prog_14_method_66_code
def yX12_judged : MethodName := ⟨RX12, "judged", "(I)I"⟩
abbrev cX12_goesOn : ByteArray := prog_14_method_67_code
def yX12_goesOn : MethodName := ⟨RX12, "goesOn", "(I)V"⟩
abbrev cX12_shown : ByteArray := prog_14_method_68_code
def yX12_shown : MethodName := ⟨RX12, "shown", "(II)I"⟩
abbrev cX12_minutes : ByteArray := prog_14_method_69_code
def yX12_minutes : MethodName := ⟨RX12, "minutes", "(I)I"⟩
abbrev cX12_silly : ByteArray := prog_14_method_70_code
def yX12_silly : MethodName := ⟨RX12, "silly", "()I"⟩
abbrev cX12_gone : ByteArray := prog_14_method_71_code
def yX12_gone : MethodName := ⟨RX12, "gone", "(I)I"⟩
abbrev cX12_saves : ByteArray := prog_14_method_72_code
def yX12_saves : MethodName := ⟨RX12, "saves", "(I)I"⟩
abbrev cX12_kin : ByteArray := prog_14_method_73_code
def yX12_kin : MethodName := ⟨RX12, "kin", "(I)I"⟩
abbrev cX12_ofSort : ByteArray := prog_14_method_74_code
def yX12_ofSort : MethodName := ⟨RX12, "ofSort", "(II)I"⟩
abbrev cX12_hoard : ByteArray := prog_14_method_75_code
def yX12_hoard : MethodName := ⟨RX12, "hoard", "(I)I"⟩
abbrev cX12_unlikeFrom : ByteArray := prog_14_method_76_code
def yX12_unlikeFrom : MethodName := ⟨RX12, "unlikeFrom", "(I)I"⟩
abbrev cX12_longest : ByteArray := prog_14_method_77_code
def yX12_longest : MethodName := ⟨RX12, "longest", "()I"⟩
abbrev cX12_lasts : ByteArray := prog_14_method_78_code
def yX12_lasts : MethodName := ⟨RX12, "lasts", "()I"⟩
abbrev cX12_sense : ByteArray := prog_14_method_79_code
def yX12_sense : MethodName := ⟨RX12, "sense", "()Z"⟩
abbrev cX12_orders : ByteArray := prog_14_method_80_code
def yX12_orders : MethodName := ⟨RX12, "orders", "(IIII)V"⟩
abbrev cX12_order : ByteArray := prog_14_method_81_code
def yX12_order : MethodName := ⟨RX12, "order", "(I)I"⟩
abbrev cX12_ride : ByteArray := prog_14_method_82_code
def yX12_ride : MethodName := ⟨RX12, "ride", "()I"⟩
abbrev cX12_otherFilm : ByteArray := prog_14_method_83_code
def yX12_otherFilm : MethodName := ⟨RX12, "otherFilm", "()I"⟩
abbrev cX12_other : ByteArray := prog_14_method_84_code
def yX12_other : MethodName := ⟨RX12, "other", "(I)I"⟩
abbrev cX12_mends : ByteArray := prog_14_method_85_code
def yX12_mends : MethodName := ⟨RX12, "mends", "()I"⟩
abbrev cX12_where : ByteArray := prog_14_method_86_code
def yX12_where : MethodName := ⟨RX12, "where", "(I)I"⟩
abbrev cX12_taste : ByteArray := prog_14_method_87_code
def yX12_taste : MethodName := ⟨RX12, "taste", "(II)I"⟩
abbrev cX12_mild : ByteArray := prog_14_method_88_code
def yX12_mild : MethodName := ⟨RX12, "mild", "()I"⟩
abbrev cX12_see : ByteArray := prog_14_method_89_code
def yX12_see : MethodName := ⟨RX12, "see", "(IZ)Z"⟩
abbrev cX12_hallsAsSeen : ByteArray := prog_14_method_90_code
def yX12_hallsAsSeen : MethodName := ⟨RX12, "hallsAsSeen", "()I"⟩
abbrev cX12_halls : ByteArray := prog_14_method_91_code
def yX12_halls : MethodName := ⟨RX12, "halls", "()I"⟩
abbrev cX12_ask : ByteArray := prog_14_method_92_code
def yX12_ask : MethodName := ⟨RX12, "ask", "()I"⟩
abbrev cX12_getsBy : ByteArray := prog_14_method_93_code
def yX12_getsBy : MethodName := ⟨RX12, "getsBy", "(IIIII)I"⟩
abbrev cX12_rests : ByteArray := prog_14_method_94_code
def yX12_rests : MethodName := ⟨RX12, "rests", "(IIII)I"⟩
abbrev cX12_share : ByteArray := prog_14_method_95_code
def yX12_share : MethodName := ⟨RX12, "share", "(I)I"⟩
abbrev cX12_draws : ByteArray := prog_14_method_96_code
def yX12_draws : MethodName := ⟨RX12, "draws", "(I)I"⟩
abbrev cX12_nth : ByteArray := prog_14_method_97_code
def yX12_nth : MethodName := ⟨RX12, "nth", "(II)I"⟩
abbrev cX12_givesSome : ByteArray := prog_14_method_98_code
def yX12_givesSome : MethodName := ⟨RX12, "givesSome", "()V"⟩
abbrev cX12_tours : ByteArray := prog_14_method_99_code
def yX12_tours : MethodName := ⟨RX12, "tours", "(III)I"⟩
abbrev cX12_mark : ByteArray := prog_14_method_100_code
def yX12_mark : MethodName := ⟨RX12, "mark", "(IZ)Z"⟩
abbrev cX12_count : ByteArray := prog_14_method_101_code
def yX12_count : MethodName := ⟨RX12, "count", "(I)I"⟩
def RJx145de : String := "java/io/Serializable"
def TJx145de : u_T := fun k => match k with
  | _ => ("", "", "", false)
def tyJx145de : Nat → FieldType := fun k => match k with
  | _ => .int
abbrev wsJx145de0 : List Cond := u_ws RJx145de TJx145de 0
theorem nmJx145de : ∀ a, a < 0 → ∀ b, b < 0 → a ≠ b → (TJx145de a).2.1 ≠ (TJx145de b).2.1 := by decide +kernel
theorem tyJx145de_ok : ∀ k, k < 0 → parseFieldDescriptor (TJx145de k).2.2.1 = some (tyJx145de k) := by decide +kernel
def RJx9f9b0 : String := "java/lang/CharSequence"
def TJx9f9b0 : u_T := fun k => match k with
  | _ => ("", "", "", false)
def tyJx9f9b0 : Nat → FieldType := fun k => match k with
  | _ => .int
abbrev wsJx9f9b00 : List Cond := u_ws RJx9f9b0 TJx9f9b0 0
theorem nmJx9f9b0 : ∀ a, a < 0 → ∀ b, b < 0 → a ≠ b → (TJx9f9b0 a).2.1 ≠ (TJx9f9b0 b).2.1 := by decide +kernel
theorem tyJx9f9b0_ok : ∀ k, k < 0 → parseFieldDescriptor (TJx9f9b0 k).2.2.1 = some (tyJx9f9b0 k) := by decide +kernel
def RJxb160c : String := "java/lang/Comparable"
def TJxb160c : u_T := fun k => match k with
  | _ => ("", "", "", false)
def tyJxb160c : Nat → FieldType := fun k => match k with
  | _ => .int
abbrev wsJxb160c0 : List Cond := u_ws RJxb160c TJxb160c 0
theorem nmJxb160c : ∀ a, a < 0 → ∀ b, b < 0 → a ≠ b → (TJxb160c a).2.1 ≠ (TJxb160c b).2.1 := by decide +kernel
theorem tyJxb160c_ok : ∀ k, k < 0 → parseFieldDescriptor (TJxb160c k).2.2.1 = some (tyJxb160c k) := by decide +kernel
def RJ6 : String := "java/lang/Integer"
def TJ6 : u_T := fun k => match k with
  | _ => ("", "", "", false)
def tyJ6 : Nat → FieldType := fun k => match k with
  | _ => .int
abbrev wsJ60 : List Cond := u_ws RJ6 TJ6 0
theorem nmJ6 : ∀ a, a < 0 → ∀ b, b < 0 → a ≠ b → (TJ6 a).2.1 ≠ (TJ6 b).2.1 := by decide +kernel
theorem tyJ6_ok : ∀ k, k < 0 → parseFieldDescriptor (TJ6 k).2.2.1 = some (tyJ6 k) := by decide +kernel
abbrev cJ6_bitCount_0f7a4 : ByteArray := prog_19_method_49_code
def yJ6_bitCount_0f7a4 : MethodName := ⟨RJ6, "bitCount", "(I)I"⟩
def RJ9 : String := "java/lang/Math"
def TJ9 : u_T := fun k => match k with
  | _ => ("", "", "", false)
def tyJ9 : Nat → FieldType := fun k => match k with
  | _ => .int
abbrev wsJ90 : List Cond := u_ws RJ9 TJ9 0
theorem nmJ9 : ∀ a, a < 0 → ∀ b, b < 0 → a ≠ b → (TJ9 a).2.1 ≠ (TJ9 b).2.1 := by decide +kernel
theorem tyJ9_ok : ∀ k, k < 0 → parseFieldDescriptor (TJ9 k).2.2.1 = some (tyJ9 k) := by decide +kernel
abbrev cJ9_max_7cf53 : ByteArray := prog_20_method_65_code
def yJ9_max_7cf53 : MethodName := ⟨RJ9, "max", "(II)I"⟩
abbrev cJ9_min_7cf53 : ByteArray := prog_20_method_69_code
def yJ9_min_7cf53 : MethodName := ⟨RJ9, "min", "(II)I"⟩
def RJ0 : String := "java/lang/String"
def TJ0 : u_T := fun k => match k with
  | _ => ("", "", "", false)
def tyJ0 : Nat → FieldType := fun k => match k with
  | _ => .int
abbrev wsJ00 : List Cond := u_ws RJ0 TJ0 0
theorem nmJ0 : ∀ a, a < 0 → ∀ b, b < 0 → a ≠ b → (TJ0 a).2.1 ≠ (TJ0 b).2.1 := by decide +kernel
theorem tyJ0_ok : ∀ k, k < 0 → parseFieldDescriptor (TJ0 k).2.2.1 = some (tyJ0 k) := by decide +kernel
abbrev cJ0_length_8abf5 : ByteArray := prog_22_method_54_code
def yJ0_length_8abf5 : MethodName := ⟨RJ0, "length", "()I"⟩
abbrev cJ0_charAt_5068e : ByteArray := prog_22_method_56_code
def yJ0_charAt_5068e : MethodName := ⟨RJ0, "charAt", "(I)C"⟩
abbrev cJ0_coder_7d493 : ByteArray := prog_22_method_152_code
def yJ0_coder_7d493 : MethodName := ⟨RJ0, "coder", "()B"⟩
abbrev cJ0_isLatin1_aae02 : ByteArray := prog_22_method_154_code
def yJ0_isLatin1_aae02 : MethodName := ⟨RJ0, "isLatin1", "()Z"⟩
abbrev cJ0_checkIndex_df160 : ByteArray := prog_22_method_155_code
def yJ0_checkIndex_df160 : MethodName := ⟨RJ0, "checkIndex", "(II)V"⟩
def RJ1 : String := "java/lang/StringLatin1"
def TJ1 : u_T := fun k => match k with
  | _ => ("", "", "", false)
def tyJ1 : Nat → FieldType := fun k => match k with
  | _ => .int
abbrev wsJ10 : List Cond := u_ws RJ1 TJ1 0
theorem nmJ1 : ∀ a, a < 0 → ∀ b, b < 0 → a ≠ b → (TJ1 a).2.1 ≠ (TJ1 b).2.1 := by decide +kernel
theorem tyJ1_ok : ∀ k, k < 0 → parseFieldDescriptor (TJ1 k).2.2.1 = some (tyJ1 k) := by decide +kernel
abbrev cJ1_charAt_3b067 : ByteArray := prog_23_method_2_code
def yJ1_charAt_3b067 : MethodName := ⟨RJ1, "charAt", "([BI)C"⟩
def RJ2 : String := "java/lang/StringUTF16"
def TJ2 : u_T := fun k => match k with
  | _ => ("", "", "", false)
def tyJ2 : Nat → FieldType := fun k => match k with
  | _ => .int
abbrev wsJ20 : List Cond := u_ws RJ2 TJ2 0
theorem nmJ2 : ∀ a, a < 0 → ∀ b, b < 0 → a ≠ b → (TJ2 a).2.1 ≠ (TJ2 b).2.1 := by decide +kernel
theorem tyJ2_ok : ∀ k, k < 0 → parseFieldDescriptor (TJ2 k).2.2.1 = some (tyJ2 k) := by decide +kernel
abbrev cJ2_getChar_3b067 : ByteArray := prog_24_method_5_code
def yJ2_getChar_3b067 : MethodName := ⟨RJ2, "getChar", "([BI)C"⟩
abbrev cJ2_length_9d52b : ByteArray := prog_24_method_6_code
def yJ2_length_9d52b : MethodName := ⟨RJ2, "length", "([B)I"⟩
abbrev cJ2_charAt_3b067 : ByteArray := prog_24_method_83_code
def yJ2_charAt_3b067 : MethodName := ⟨RJ2, "charAt", "([BI)C"⟩
abbrev cJ2_checkIndex_2214a : ByteArray := prog_24_method_91_code
def yJ2_checkIndex_2214a : MethodName := ⟨RJ2, "checkIndex", "(I[B)V"⟩
def RJxfd54e : String := "java/lang/constant/Constable"
def TJxfd54e : u_T := fun k => match k with
  | _ => ("", "", "", false)
def tyJxfd54e : Nat → FieldType := fun k => match k with
  | _ => .int
abbrev wsJxfd54e0 : List Cond := u_ws RJxfd54e TJxfd54e 0
theorem nmJxfd54e : ∀ a, a < 0 → ∀ b, b < 0 → a ≠ b → (TJxfd54e a).2.1 ≠ (TJxfd54e b).2.1 := by decide +kernel
theorem tyJxfd54e_ok : ∀ k, k < 0 → parseFieldDescriptor (TJxfd54e k).2.2.1 = some (tyJxfd54e k) := by decide +kernel
def RJx3cf43 : String := "java/lang/constant/ConstantDesc"
def TJx3cf43 : u_T := fun k => match k with
  | _ => ("", "", "", false)
def tyJx3cf43 : Nat → FieldType := fun k => match k with
  | _ => .int
abbrev wsJx3cf430 : List Cond := u_ws RJx3cf43 TJx3cf43 0
theorem nmJx3cf43 : ∀ a, a < 0 → ∀ b, b < 0 → a ≠ b → (TJx3cf43 a).2.1 ≠ (TJx3cf43 b).2.1 := by decide +kernel
theorem tyJx3cf43_ok : ∀ k, k < 0 → parseFieldDescriptor (TJx3cf43 k).2.2.1 = some (tyJx3cf43 k) := by decide +kernel
def RJ3 : String := "jdk/internal/util/Preconditions"
def TJ3 : u_T := fun k => match k with
  | _ => ("", "", "", false)
def tyJ3 : Nat → FieldType := fun k => match k with
  | _ => .int
abbrev wsJ30 : List Cond := u_ws RJ3 TJ3 0
theorem nmJ3 : ∀ a, a < 0 → ∀ b, b < 0 → a ≠ b → (TJ3 a).2.1 ≠ (TJ3 b).2.1 := by decide +kernel
theorem tyJ3_ok : ∀ k, k < 0 → parseFieldDescriptor (TJ3 k).2.2.1 = some (tyJ3 k) := by decide +kernel
abbrev cJ3_checkIndex_8e157 : ByteArray := prog_29_method_11_code
def yJ3_checkIndex_8e157 : MethodName := ⟨RJ3, "checkIndex", "(IILjava/util/function/BiFunction;)I"⟩
def RL : String := "CountyPrintLaw"
abbrev cL_saves : ByteArray := method_3_code
def yL_saves : MethodName := ⟨RL, "saves", "(LCountyPrint;I[J)I"⟩
abbrev cL_rests : ByteArray := method_4_code
def yL_rests : MethodName := ⟨RL, "rests", "(LCountyPrint;IIII[J)I"⟩
abbrev cL_law : ByteArray := code
def yL_law : MethodName := ⟨RL, "law", "([I)Z"⟩
abbrev vwCl : List vw_C := [(RX0, TX0, 10), (RX1, TX1, 1), (RX2, TX2, 4), (RX3, TX3, 4), (RX4, TX4, 3), (RX5, TX5, 5), (RX6, TX6, 3), (RX7, TX7, 3), (RX8, TX8, 3), (RX9, TX9, 10), (RX10, TX10, 5), (RX11, TX11, 14), (RX12, TX12, 58)]
end
section
/-! ===== the memory that the law's run makes, and worlds out of it =====
A memory: how many cells there are (all at B + 0, B + 1 ..), the shape of each (0, c): an object of class c of vwCl; (1, n) int[n]; (2, n) long[n]; (3, n) boolean[n]; (4, n) char[n]; (5, n) Mark[n]; (6, n) Travel[n]; then the ints, the longs and the references that they hold, by cell and place. -/
abbrev MM : Type := Nat × (Nat → Nat × Nat) × (Nat → Nat → Int32) × (Nat → Nat → Int64) × (Nat → Nat → Option Nat)
abbrev mn (M : MM) : Nat := M.1
abbrev mh (M : MM) : Nat → Nat × Nat := M.2.1
abbrev mi (M : MM) : Nat → Nat → Int32 := M.2.2.1
abbrev mj (M : MM) : Nat → Nat → Int64 := M.2.2.2.1
abbrev mr (M : MM) : Nat → Nat → Option Nat := M.2.2.2.2
def mu {α : Type} (f : Nat → Nat → α) (a k : Nat) (v : α) : Nat → Nat → α := fun b j => if b = a ∧ j = k then v else f b j
theorem mu_s {α : Type} (f : Nat → Nat → α) (a k : Nat) (v : α) : mu f a k v a k = v := if_pos ⟨rfl, rfl⟩
theorem mu_a {α : Type} (f : Nat → Nat → α) {a b : Nat} (k j : Nat) (v : α) (h : b ≠ a) : mu f a k v b j = f b j := if_neg fun q => h q.1
theorem mu_k {α : Type} (f : Nat → Nat → α) (a : Nat) {b k j : Nat} (v : α) (h : j ≠ k) : mu f a k v b j = f b j := if_neg fun q => h q.2
abbrev wi (M : MM) (a k : Nat) (v : Int32) : MM := (M.1, M.2.1, mu M.2.2.1 a k v, M.2.2.2.1, M.2.2.2.2)
abbrev wj (M : MM) (a k : Nat) (v : Int64) : MM := (M.1, M.2.1, M.2.2.1, mu M.2.2.2.1 a k v, M.2.2.2.2)
abbrev wr (M : MM) (a k : Nat) (v : Option Nat) : MM := (M.1, M.2.1, M.2.2.1, M.2.2.2.1, mu M.2.2.2.2 a k v)
/-- one cell more -/
def mw (M : MM) (sh : Nat × Nat) : MM := (M.1 + 1, fun a => if a = M.1 then sh else M.2.1 a, fun a k => if a = M.1 then 0 else M.2.2.1 a k, fun a k => if a = M.1 then 0 else M.2.2.2.1 a k, fun a k => if a = M.1 then none else M.2.2.2.2 a k)
/-- of which kind the fields of the classes are: 0 ints, 1 longs, 2 references -/
def mkd : FieldType → Nat
  | .int => 0
  | .boolean => 0
  | .char => 0
  | .long => 1
  | .object _ => 2
  | .array _ => 2
  | _ => 9
def mty (ci : Nat) : Nat → FieldType := match ci with
  | 0 => tyX0
  | 1 => tyX1
  | 2 => tyX2
  | 3 => tyX3
  | 4 => tyX4
  | 5 => tyX5
  | 6 => tyX6
  | 7 => tyX7
  | 8 => tyX8
  | 9 => tyX9
  | 10 => tyX10
  | 11 => tyX11
  | _ => tyX12
def mN (ci : Nat) : Nat := match ci with
  | 0 => 10
  | 1 => 1
  | 2 => 4
  | 3 => 4
  | 4 => 3
  | 5 => 5
  | 6 => 3
  | 7 => 3
  | 8 => 3
  | 9 => 10
  | 10 => 5
  | 11 => 14
  | _ => 58
abbrev mk (ci k : Nat) : Nat := mkd (mty ci k)
def mo (B : Nat) (r : Option Nat) : Option Nat := r.map (fun a => B + a)
def mfv (B : Nat) (M : MM) (a k kd : Nat) : Value := if kd = 0 then .int (mi M a k) else if kd = 1 then .long (mj M a k) else va_rf (mo B (mr M a k))
def mF (B : Nat) (M : MM) (ci a : Nat) : List Value := (List.range (mN ci)).map fun k => mfv B M a k (mk ci k)
def mE (B : Nat) (dA : Nat → ClassId) (M : MM) (a : Nat) : va_E :=
  if (mh M a).1 = 0 then .inr ((mh M a).2, mF B M (mh M a).2 a)
  else if (mh M a).1 = 2 then .inl (dA 2, (mh M a).2, .inr (.inl (mj M a)))
  else if 5 ≤ (mh M a).1 then .inl (dA (mh M a).1, (mh M a).2, .inr (.inr (.inr (.inr (fun k => mo B (mr M a k))))))
  else .inl (dA (mh M a).1, (mh M a).2, .inl (mi M a))
/-- the context: the launch, where the run's cells begin, the classes' numbers and slots, the array classes -/
abbrev GG : Type := Launch × Nat × va_G × (Nat → ClassId)
abbrev gB (g : GG) : Nat := g.2.1
def mW (g : GG) (M : MM) : va_W := (List.range (mn M)).map fun a => (gB g + a, mE (gB g) g.2.2.2 M a)
theorem mW_at (g : GG) (M : MM) {a : Nat} (h : a < mn M) : (mW g M)[a]? = some (gB g + a, mE (gB g) g.2.2.2 M a) := by
  simp [mW, h]
theorem mW_len (g : GG) (M : MM) : (mW g M).length = mn M := by simp [mW]
theorem mW_of {g : GG} {M : MM} {k : Nat} {q : Nat × va_E} (h : (mW g M)[k]? = some q) : k < mn M ∧ q = (gB g + k, mE (gB g) g.2.2.2 M k) := by
  have hk : k < mn M := by
    have := (List.getElem?_eq_some_iff.mp h).1
    rwa [mW_len] at this
  rw [mW_at g M hk] at h
  exact ⟨hk, (Option.some.inj h).symm⟩
theorem mD (g : GG) (M : MM) : va_D (fun q => gB g ≤ q) (mW g M) := by
  refine ⟨fun i j p q hi hj h => ?_, fun k q hk => ?_⟩
  · obtain ⟨-, rfl⟩ := mW_of hi
    obtain ⟨-, rfl⟩ := mW_of hj
    have h : gB g + i = gB g + j := h
    omega
  · obtain ⟨-, rfl⟩ := mW_of hk
    exact Nat.le_add_right _ _
theorem mW_set {g : GG} {M M' : MM} {a : Nat} {e : va_E} (h : a < mn M) (hn : mn M' = mn M) (he : mE (gB g) g.2.2.2 M' a = e) (ho : ∀ b, b ≠ a → mE (gB g) g.2.2.2 M' b = mE (gB g) g.2.2.2 M b) : (mW g M).set a (gB g + a, e) = mW g M' := by
  apply List.ext_getElem?
  intro k
  rw [List.getElem?_set]
  by_cases hk : k < mn M
  · rw [mW_at g M' (by rw [hn]; exact hk)]
    by_cases e2 : a = k
    · subst e2
      rw [if_pos rfl, if_pos (by rw [mW_len]; exact h), he]
    · rw [if_neg e2, mW_at g M hk, ho k (fun q => e2 q.symm)]
  · have h1 : (mW g M)[k]? = none := by rw [List.getElem?_eq_none]; rw [mW_len]; omega
    have h2 : (mW g M')[k]? = none := by rw [List.getElem?_eq_none]; rw [mW_len, hn]; omega
    rw [h2]
    by_cases e2 : a = k
    · omega
    · rw [if_neg e2, h1]
theorem mE_ob {B : Nat} {dA : Nat → ClassId} {M : MM} {a ci : Nat} (h : mh M a = (0, ci)) : mE B dA M a = .inr (ci, mF B M ci a) := by simp [mE, h]
theorem mE_i {B : Nat} {dA : Nat → ClassId} {M : MM} {a n : Nat} (h : mh M a = (1, n)) : mE B dA M a = .inl (dA 1, n, .inl (mi M a)) := by simp [mE, h]
theorem mE_j {B : Nat} {dA : Nat → ClassId} {M : MM} {a n : Nat} (h : mh M a = (2, n)) : mE B dA M a = .inl (dA 2, n, .inr (.inl (mj M a))) := by simp [mE, h]
theorem mE_z {B : Nat} {dA : Nat → ClassId} {M : MM} {a n : Nat} (h : mh M a = (3, n)) : mE B dA M a = .inl (dA 3, n, .inl (mi M a)) := by simp [mE, h]
theorem mE_c {B : Nat} {dA : Nat → ClassId} {M : MM} {a n : Nat} (h : mh M a = (4, n)) : mE B dA M a = .inl (dA 4, n, .inl (mi M a)) := by simp [mE, h]
theorem mE_q {B : Nat} {dA : Nat → ClassId} {M : MM} {a t n : Nat} (h : mh M a = (t, n)) (ht : 5 ≤ t) : mE B dA M a = .inl (dA t, n, .inr (.inr (.inr (.inr (fun k => mo B (mr M a k)))))) := by
  have h0 : ¬ t = 0 := by omega
  have h2 : ¬ t = 2 := by omega
  simp [mE, h, h0, h2, ht]
theorem mF_at {B : Nat} {M : MM} {ci a k : Nat} (h : k < mN ci) : (mF B M ci a)[k]? = some (mfv B M a k (mk ci k)) := by simp [mF, h]
theorem mF_len {B : Nat} {M : MM} {ci a : Nat} : (mF B M ci a).length = mN ci := by simp [mF]
theorem mF_set {B : Nat} {M M' : MM} {ci a k : Nat} {v : Value} (h : k < mN ci) (hv : mfv B M' a k (mk ci k) = v) (ho : ∀ j kd, j ≠ k → mfv B M' a j kd = mfv B M a j kd) : (mF B M ci a).set k v = mF B M' ci a := by
  apply List.ext_getElem?
  intro j
  rw [List.getElem?_set]
  by_cases hj : j < mN ci
  · rw [mF_at (M := M') hj]
    by_cases e2 : k = j
    · subst e2
      rw [if_pos rfl, if_pos (by rw [mF_len]; exact h), hv]
    · rw [if_neg e2, mF_at (M := M) hj, ho j _ (fun q => e2 q.symm)]
  · have h1 : (mF B M ci a)[j]? = none := by rw [List.getElem?_eq_none]; rw [mF_len]; omega
    have h2 : (mF B M' ci a)[j]? = none := by rw [List.getElem?_eq_none]; rw [mF_len]; omega
    rw [h2]
    by_cases e2 : k = j
    · omega
    · rw [if_neg e2, h1]
/-- what is at a cell depends on its shape and what it holds alone -/
theorem mE_same {B : Nat} {dA : Nat → ClassId} {M M' : MM} {a : Nat} (h : mh M' a = mh M a) (h1 : ∀ k, mi M' a k = mi M a k) (h2 : ∀ k, mj M' a k = mj M a k) (h3 : ∀ k, mr M' a k = mr M a k) : mE B dA M' a = mE B dA M a := by
  have e1 : mi M' a = mi M a := funext h1
  have e2 : mj M' a = mj M a := funext h2
  have e3 : mr M' a = mr M a := funext h3
  unfold mE mF mfv
  rw [h, e1, e2, e3]
theorem mE_wi {B : Nat} {dA : Nat → ClassId} {M : MM} {a b k : Nat} {v : Int32} (h : b ≠ a) : mE B dA (wi M a k v) b = mE B dA M b := mE_same rfl (fun j => mu_a _ k j v h) (fun _ => rfl) (fun _ => rfl)
theorem mE_wj {B : Nat} {dA : Nat → ClassId} {M : MM} {a b k : Nat} {v : Int64} (h : b ≠ a) : mE B dA (wj M a k v) b = mE B dA M b := mE_same rfl (fun _ => rfl) (fun j => mu_a _ k j v h) (fun _ => rfl)
theorem mE_wr {B : Nat} {dA : Nat → ClassId} {M : MM} {a b k : Nat} {v : Option Nat} (h : b ≠ a) : mE B dA (wr M a k v) b = mE B dA M b := mE_same rfl (fun _ => rfl) (fun _ => rfl) (fun j => mu_a _ k j v h)
theorem mu_upd (f : Nat → Nat → Int32) (a k : Nat) (v : Int32) : mu f a k v a = upd (f a) k v := by
  funext j
  by_cases h : j = k
  · simp [mu, upd, h]
  · simp [mu, upd, h]
theorem mu_updL (f : Nat → Nat → Int64) (a k : Nat) (v : Int64) : mu f a k v a = vp_updL (f a) k v := by
  funext j
  by_cases h : j = k
  · simp [mu, vp_updL, h]
  · simp [mu, vp_updL, h]
theorem mu_upq (B : Nat) (f : Nat → Nat → Option Nat) (a k : Nat) (v : Option Nat) : (fun j => mo B (mu f a k v a j)) = va_up (fun j => mo B (f a j)) k (mo B v) := by
  funext j
  by_cases h : j = k
  · simp [mu, va_up, h]
  · simp [mu, va_up, h]
/-- values: a reference is a number of a cell -/
def xv (B : Nat) : Value → Value
  | .ref a => .ref (B + a)
  | v => v
theorem xv_cat (B : Nat) (v : Value) : (xv B v).category = v.category := by cases v <;> rfl
theorem xv_rf (B : Nat) (r : Option Nat) : va_rf (mo B r) = xv B (va_rf r) := by cases r <;> rfl
abbrev xst (g : GG) (st : List Value) : List Value := st.map (xv (gB g))
abbrev xlv (g : GG) (lv : List (Nat × Value)) : List (Nat × Value) := lv.map fun q => (q.1, xv (gB g) q.2)
theorem xlv_at {g : GG} {lv : List (Nat × Value)} {q i : Nat} {v : Value} (h : lv[q]? = some (i, v)) : (xlv g lv)[q]? = some (i, xv (gB g) v) := by simp [xlv, h]
theorem xlv_f (g : GG) (F : Nat → Nat → Bool) (lv : List (Nat × Value)) : (xlv g lv).filter (fun q => F q.1 q.2.category) = xlv g (lv.filter (fun q => F q.1 q.2.category)) := by
  induction lv with
  | nil => rfl
  | cons a l ih =>
    simp only [xlv, List.map_cons, List.filter_cons, xv_cat] at ih ⊢
    rw [ih]
    split <;> rfl
def xs1 (lv : List (Nat × Value)) (i : Nat) (v : Value) : List (Nat × Value) := (i, v) :: lv.filter (fun q => !(q.1 == i) && !(q.1 + 1 == i && q.2.category == 2))
def xs2 (lv : List (Nat × Value)) (i : Nat) (v : Value) : List (Nat × Value) := (i, v) :: lv.filter (fun q => !(q.1 == i) && (!(q.1 == i + 1) && !(q.1 + 1 == i && q.2.category == 2)))
theorem xs1_m (g : GG) (lv : List (Nat × Value)) (i : Nat) (v : Value) : (i, xv (gB g) v) :: (xlv g lv).filter (fun q => !(q.1 == i) && !(q.1 + 1 == i && q.2.category == 2)) = xlv g (xs1 lv i v) := by
  have h := xlv_f g (fun a b => !(a == i) && !(a + 1 == i && b == 2)) lv
  unfold xs1
  rw [h]
  rfl
theorem xs2_m (g : GG) (lv : List (Nat × Value)) (i : Nat) (v : Value) : (i, xv (gB g) v) :: (xlv g lv).filter (fun q => !(q.1 == i) && (!(q.1 == i + 1) && !(q.1 + 1 == i && q.2.category == 2))) = xlv g (xs2 lv i v) := by
  have h := xlv_f g (fun a b => !(a == i) && (!(a == i + 1) && !(a + 1 == i && b == 2))) lv
  unfold xs2
  rw [h]
  rfl
/-! ===== the words that every method rests on ===== -/
def gw : List Cond := lw_tbl.filter goodWord
theorem gw_good {w : Cond} (h : w ∈ gw) : (w.onTables && w.keeps) = true ∨ ∃ ty, w = .arrayClass ty := good_of_word (List.mem_filter.mp h).2
theorem gw_in {w : Cond} (h : w ∈ gw) : w ∈ lw_tbl := (List.mem_filter.mp h).1
theorem gw_of {w : Cond} (i : Nat) (h : tables_1[i]? = some w) (hg : goodWord w = true) : w ∈ gw := List.mem_filter.mpr ⟨List.mem_append_right _ (List.mem_of_getElem? h), hg⟩
theorem gw_sel {q : MethodName × Nat} (i : Nat) (h : lw_privs[i]? = some q) (hg : goodWord (Cond.selects q.1.cls q.1 q.1) = true) : Cond.selects q.1.cls q.1 q.1 ∈ gw := List.mem_filter.mpr ⟨List.mem_append_left _ (List.mem_map.mpr ⟨q, List.mem_of_getElem? h, rfl⟩), hg⟩
theorem gw_GoodIn {w : Cond} (h : w ∈ gw) : GoodIn gw (w :: gw) := fun v hv => by
  rcases List.mem_cons.mp hv with rfl | q
  · exact ⟨h, gw_good h⟩
  · exact ⟨q, gw_good q⟩
end
section
/-! ===== EX: from this point of this method the machine comes to a return with P =====
A method: its name, its code, its locals, its answer's type, how many arguments it takes beside 'this'. -/
abbrev YY : Type := MethodName × ByteArray × Nat × Option FieldType × Nat
abbrev yN (Y : YY) : MethodName := Y.1
abbrev yC (Y : YY) : ByteArray := Y.2.1
abbrev yL (Y : YY) : Nat := Y.2.2.1
abbrev yR (Y : YY) : Option FieldType := Y.2.2.2.1
abbrev yA (Y : YY) : Nat := Y.2.2.2.2
abbrev yK (Y : YY) : Cond := .code (yN Y) (yC Y) (yL Y) (yR Y)
def mT (g : GG) : List (ClassId × FieldType) := [(g.2.2.2 1, .int), (g.2.2.2 2, .long), (g.2.2.2 3, .boolean), (g.2.2.2 4, .char), (g.2.2.2 5, .object RX3), (g.2.2.2 6, .object RX10)]
abbrev gA (g : GG) : Nat → Prop := fun q => gB g ≤ q
abbrev gV (g : GG) (M : MM) (H : Heap) : Prop := va_P g.2.2.1 vwCl (mW g M) H
abbrev gK (g : GG) (s : State) : Prop := va_K g.2.2.1 vwCl (mT g) s
def xQ (g : GG) (P : Option Value → MM → Prop) : Array Value → State → Outcome → State → Prop := fun _ st o t =>
  (∃ (rv : Option Value) (M : MM), o = .returned (rv.map (xv (gB g))) ∧ P rv M ∧ gV g M t.heap ∧ t.heap.size = gB g + mn M) ∧ va_F (gA g) st t
abbrev xR (d mc ms : Nat) : Room := { frames := d, cells := mc, slots := ms, locals := 40 * d }
def xC (g : GG) (Y : YY) (p : Program) (s : State) (m : MethodId) (args : Array Value) (meth : Method) (c : Code) : Prop :=
  p.tables.exec = Jvm.exec ∧ c.code = yC Y ∧ c.maxLocals = yL Y ∧ s.vm.findClass (yN Y).cls = some m.cls ∧ (∀ w ∈ gw, w.before args s = true) ∧ meth.sig.returnType = yR Y ∧ meth.locks = false ∧ meth.name = (yN Y).name ∧ gK g s ∧ gB g ≤ s.heap.size
def EX (g : GG) (Y : YY) (d mc ms ce sl pc : Nat) (lv : List (Nat × Value)) (st : List Value) (M : MM) (P : Option Value → MM → Prop) : Prop :=
  ∀ (p : Program) (e : Env) (s : State) (m : MethodId) (args : Array Value) (below : List Frame) (meth : Method) (c : Code) (H : Heap) (locs : List Loc) (ls : Array Slot),
    xC g Y p s m args meth c → gV g M H → va_S (gA g) s.heap H locs → H.size = gB g + mn M → lv_has ls (yL Y) (xlv g lv) →
    W p g.1 e (xR d mc ms) s m args below meth c H locs ce sl (MQ below (xQ g P) args s mc ms (gA g)) (F0 m pc ls (xst g st))
/-- a method's contract: called with these arguments and this memory it returns with P; its words are gw -/
def RT (g : GG) (Y : YY) (d mc ms : Nat) (av : List Value) (M : MM) (P : Option Value → MM → Prop) : Prop :=
  Met g.1 (yN Y) (yK Y :: gw) (xR d mc ms) (va_Pc (xst g av) (fun U => U.heap.size = gB g + mn M ∧ gV g M U.heap ∧ gK g U)) (xQ g P) mc ms (gA g)
section EXB
variable {g : GG} {Y : YY} {d mc ms ce sl pc : Nat} {lv : List (Nat × Value)} {st : List Value} {M : MM} {P : Option Value → MM → Prop}
theorem EX.to {P' : Option Value → MM → Prop} (h : EX g Y d mc ms ce sl pc lv st M P') (hp : ∀ rv M', P' rv M' → P rv M') : EX g Y d mc ms ce sl pc lv st M P := by
  intro p e s m args below meth c H locs ls C hP hS hz hl T hT X
  obtain ⟨t, a, o, b1, b2, ⟨⟨rv, M', e1, e2, e3⟩, e4⟩, b4⟩ := h p e s m args below meth c H locs ls C hP hS hz hl T hT X
  exact ⟨t, a, o, b1, b2, ⟨⟨rv, M', e1, hp _ _ e2, e3⟩, e4⟩, b4⟩
theorem EX.sub {lv' : List (Nat × Value)} (ks : List Nat) (h : EX g Y d mc ms ce sl pc lv' st M P) (hk : lv_pick lv ks = lv') : EX g Y d mc ms ce sl pc lv st M P := by
  intro p e s m args below meth c H locs ls C hP hS hz hl
  refine h p e s m args below meth c H locs ls C hP hS hz (lv_sub hl ks ?_)
  subst hk
  clear h
  unfold lv_pick
  induction ks with
  | nil => rfl
  | cons k ks ih =>
    rw [List.filterMap_cons, List.filterMap_cons, List.getElem?_map]
    cases lv[k]? with
    | none => exact ih
    | some q => simp only [Option.map_some]; rw [ih]; rfl
theorem EX.entry {av : List Value} (hY : plainName (yN Y).cls = true) (hl : (lg_sl av).length ≤ yL Y) (h : EX g Y d mc ms 0 0 0 (lv_args 0 av) [] M P) : RT g Y d mc ms av M P := by
  unfold RT
  refine Met.ofW (cc := yC Y) (maxL := yL Y) (ret := yR Y) hY rfl ?_
  intro p e s m args below meth c s₁ B hml hv
  obtain ⟨rfl, hz, hP, hK⟩ := hv
  have hts := atoms_spec (ws := yK Y :: gw) B.pre
  have C : xC g Y p s m (xst g av).toArray meth c := ⟨B.exec, B.bytes, hml, findClass_of_methodNamed B.named, fun w hw => hts w (List.mem_cons_of_mem _ hw), B.returns, B.notSynchronized, (name_of_methodNamed B.named B.method).1, hK, by rw [hz]; exact Nat.le_add_right _ _⟩
  have e1 : ∀ (av : List Value), (lg_sl (xst g av)).length = (lg_sl av).length := by
    intro av
    induction av with
    | nil => rfl
    | cons v av ih =>
      unfold lg_sl at ih ⊢
      simp only [xst, List.map_cons, List.flatMap_cons, List.length_append, xv_cat] at ih ⊢
      rw [ih]
      split <;> rfl
  have e2 : ∀ (av : List Value) (i : Nat), lv_args i (xst g av) = xlv g (lv_args i av) := by
    intro av
    induction av with
    | nil => intro i; rfl
    | cons v av ih =>
      intro i
      simp only [xst, List.map_cons, lv_args, xv_cat] at ih ⊢
      rw [ih]
  have hl0 := lv_entry (xst g av) (n := yL Y) (by rw [e1]; exact hl)
  rw [e2] at hl0
  rw [lg_entry_eq]
  exact h p e s m _ below meth c s.heap [] _ C hP va_S.rf hz hl0
end EXB
end
section
/-! ===== rows over EX: an instruction each ===== -/
section EXR
variable {g : GG} {Y : YY} {d mc ms ce sl pc : Nat} {lv : List (Nat × Value)} {st : List Value} {M : MM} {P : Option Value → MM → Prop}
theorem x_iconst {n : Int} {v : Int32} (hd : decode (yC Y) pc = .ok (.iconst n, 1)) (hv : Int32.ofInt n = v) (k : EX g Y d mc ms ce sl (pc + 1) lv (.int v :: st) M P) : EX g Y d mc ms ce sl pc lv (st) M P := by
  intro p e s m args below meth c H locs ls C hP hS hz hl
  exact lv_iconst C.1 C.2.1 hd hv (k p e s m args below meth c H locs ls C hP hS hz hl)
theorem x_bipush {n : Int} {v : Int32} (hd : decode (yC Y) pc = .ok (.bipush n, 2)) (hv : (Int8.ofInt n).toInt32 = v) (k : EX g Y d mc ms ce sl (pc + 2) lv (.int v :: st) M P) : EX g Y d mc ms ce sl pc lv (st) M P := by
  intro p e s m args below meth c H locs ls C hP hS hz hl
  exact lv_bipush C.1 C.2.1 hd hv (k p e s m args below meth c H locs ls C hP hS hz hl)
theorem x_sipush {n : Int} {v : Int32} (hd : decode (yC Y) pc = .ok (.sipush n, 3)) (hv : (Int16.ofInt n).toInt32 = v) (k : EX g Y d mc ms ce sl (pc + 3) lv (.int v :: st) M P) : EX g Y d mc ms ce sl pc lv (st) M P := by
  intro p e s m args below meth c H locs ls C hP hS hz hl
  exact lv_sipush C.1 C.2.1 hd hv (k p e s m args below meth c H locs ls C hP hS hz hl)
theorem x_lconst {n : Fin 2} {v : Int64} (hd : decode (yC Y) pc = .ok (.lconst n, 1)) (hv : Int64.ofNat (n : Nat) = v) (k : EX g Y d mc ms ce sl (pc + 1) lv (.long v :: st) M P) : EX g Y d mc ms ce sl pc lv (st) M P := by
  intro p e s m args below meth c H locs ls C hP hS hz hl
  exact lv_lconst C.1 C.2.1 hd hv (k p e s m args below meth c H locs ls C hP hS hz hl)
theorem x_iadd {x y : Int32} (hd : decode (yC Y) pc = .ok (.iadd, 1))  (k : EX g Y d mc ms ce sl (pc + 1) lv (.int (x + y) :: st) M P) : EX g Y d mc ms ce sl pc lv (.int y :: .int x :: st) M P := by
  intro p e s m args below meth c H locs ls C hP hS hz hl
  exact lv_iadd C.1 C.2.1 hd  (k p e s m args below meth c H locs ls C hP hS hz hl)
theorem x_isub {x y : Int32} (hd : decode (yC Y) pc = .ok (.isub, 1))  (k : EX g Y d mc ms ce sl (pc + 1) lv (.int (x - y) :: st) M P) : EX g Y d mc ms ce sl pc lv (.int y :: .int x :: st) M P := by
  intro p e s m args below meth c H locs ls C hP hS hz hl
  exact lv_isub C.1 C.2.1 hd  (k p e s m args below meth c H locs ls C hP hS hz hl)
theorem x_imul {x y : Int32} (hd : decode (yC Y) pc = .ok (.imul, 1))  (k : EX g Y d mc ms ce sl (pc + 1) lv (.int (x * y) :: st) M P) : EX g Y d mc ms ce sl pc lv (.int y :: .int x :: st) M P := by
  intro p e s m args below meth c H locs ls C hP hS hz hl
  exact lv_imul C.1 C.2.1 hd  (k p e s m args below meth c H locs ls C hP hS hz hl)
theorem x_iand {x y : Int32} (hd : decode (yC Y) pc = .ok (.iand, 1))  (k : EX g Y d mc ms ce sl (pc + 1) lv (.int (x &&& y) :: st) M P) : EX g Y d mc ms ce sl pc lv (.int y :: .int x :: st) M P := by
  intro p e s m args below meth c H locs ls C hP hS hz hl
  exact lv_iand C.1 C.2.1 hd  (k p e s m args below meth c H locs ls C hP hS hz hl)
theorem x_ior {x y : Int32} (hd : decode (yC Y) pc = .ok (.ior, 1))  (k : EX g Y d mc ms ce sl (pc + 1) lv (.int (x ||| y) :: st) M P) : EX g Y d mc ms ce sl pc lv (.int y :: .int x :: st) M P := by
  intro p e s m args below meth c H locs ls C hP hS hz hl
  exact lv_ior C.1 C.2.1 hd  (k p e s m args below meth c H locs ls C hP hS hz hl)
theorem x_ixor {x y : Int32} (hd : decode (yC Y) pc = .ok (.ixor, 1))  (k : EX g Y d mc ms ce sl (pc + 1) lv (.int (x ^^^ y) :: st) M P) : EX g Y d mc ms ce sl pc lv (.int y :: .int x :: st) M P := by
  intro p e s m args below meth c H locs ls C hP hS hz hl
  exact lv_ixor C.1 C.2.1 hd  (k p e s m args below meth c H locs ls C hP hS hz hl)
theorem x_ishl {x y : Int32} (hd : decode (yC Y) pc = .ok (.ishl, 1))  (k : EX g Y d mc ms ce sl (pc + 1) lv (.int (x <<< (y &&& 31)) :: st) M P) : EX g Y d mc ms ce sl pc lv (.int y :: .int x :: st) M P := by
  intro p e s m args below meth c H locs ls C hP hS hz hl
  exact lv_ishl C.1 C.2.1 hd  (k p e s m args below meth c H locs ls C hP hS hz hl)
theorem x_ishr {x y : Int32} (hd : decode (yC Y) pc = .ok (.ishr, 1))  (k : EX g Y d mc ms ce sl (pc + 1) lv (.int (x >>> (y &&& 31)) :: st) M P) : EX g Y d mc ms ce sl pc lv (.int y :: .int x :: st) M P := by
  intro p e s m args below meth c H locs ls C hP hS hz hl
  exact lv_ishr C.1 C.2.1 hd  (k p e s m args below meth c H locs ls C hP hS hz hl)
theorem x_iushr {x y : Int32} (hd : decode (yC Y) pc = .ok (.iushr, 1))  (k : EX g Y d mc ms ce sl (pc + 1) lv (.int ((x.toUInt32 >>> (y.toUInt32 &&& Int32.toUInt32 31)).toInt32) :: st) M P) : EX g Y d mc ms ce sl pc lv (.int y :: .int x :: st) M P := by
  intro p e s m args below meth c H locs ls C hP hS hz hl
  exact lv_iushr C.1 C.2.1 hd rfl (k p e s m args below meth c H locs ls C hP hS hz hl)
theorem x_idiv {x y : Int32} (hd : decode (yC Y) pc = .ok (.idiv, 1)) (hne : ¬ y = 0) (k : EX g Y d mc ms ce sl (pc + 1) lv (.int (x / y) :: st) M P) : EX g Y d mc ms ce sl pc lv (.int y :: .int x :: st) M P := by
  intro p e s m args below meth c H locs ls C hP hS hz hl
  exact lv_idiv C.1 C.2.1 hd hne (k p e s m args below meth c H locs ls C hP hS hz hl)
theorem x_irem {x y : Int32} (hd : decode (yC Y) pc = .ok (.irem, 1)) (hne : ¬ y = 0) (k : EX g Y d mc ms ce sl (pc + 1) lv (.int (x - x / y * y) :: st) M P) : EX g Y d mc ms ce sl pc lv (.int y :: .int x :: st) M P := by
  intro p e s m args below meth c H locs ls C hP hS hz hl
  exact lv_irem C.1 C.2.1 hd hne (k p e s m args below meth c H locs ls C hP hS hz hl)
theorem x_ineg {x : Int32} (hd : decode (yC Y) pc = .ok (.ineg, 1))  (k : EX g Y d mc ms ce sl (pc + 1) lv (.int (-x) :: st) M P) : EX g Y d mc ms ce sl pc lv (.int x :: st) M P := by
  intro p e s m args below meth c H locs ls C hP hS hz hl
  exact lv_ineg C.1 C.2.1 hd  (k p e s m args below meth c H locs ls C hP hS hz hl)
theorem x_ladd {x y : Int64} (hd : decode (yC Y) pc = .ok (.ladd, 1))  (k : EX g Y d mc ms ce sl (pc + 1) lv (.long (x + y) :: st) M P) : EX g Y d mc ms ce sl pc lv (.long y :: .long x :: st) M P := by
  intro p e s m args below meth c H locs ls C hP hS hz hl
  exact lv_ladd C.1 C.2.1 hd  (k p e s m args below meth c H locs ls C hP hS hz hl)
theorem x_lsub {x y : Int64} (hd : decode (yC Y) pc = .ok (.lsub, 1))  (k : EX g Y d mc ms ce sl (pc + 1) lv (.long (x - y) :: st) M P) : EX g Y d mc ms ce sl pc lv (.long y :: .long x :: st) M P := by
  intro p e s m args below meth c H locs ls C hP hS hz hl
  exact lv_lsub C.1 C.2.1 hd  (k p e s m args below meth c H locs ls C hP hS hz hl)
theorem x_lmul {x y : Int64} (hd : decode (yC Y) pc = .ok (.lmul, 1))  (k : EX g Y d mc ms ce sl (pc + 1) lv (.long (x * y) :: st) M P) : EX g Y d mc ms ce sl pc lv (.long y :: .long x :: st) M P := by
  intro p e s m args below meth c H locs ls C hP hS hz hl
  exact lv_lmul C.1 C.2.1 hd  (k p e s m args below meth c H locs ls C hP hS hz hl)
theorem x_land {x y : Int64} (hd : decode (yC Y) pc = .ok (.land, 1))  (k : EX g Y d mc ms ce sl (pc + 1) lv (.long (x &&& y) :: st) M P) : EX g Y d mc ms ce sl pc lv (.long y :: .long x :: st) M P := by
  intro p e s m args below meth c H locs ls C hP hS hz hl
  exact lv_land C.1 C.2.1 hd  (k p e s m args below meth c H locs ls C hP hS hz hl)
theorem x_lor {x y : Int64} (hd : decode (yC Y) pc = .ok (.lor, 1))  (k : EX g Y d mc ms ce sl (pc + 1) lv (.long (x ||| y) :: st) M P) : EX g Y d mc ms ce sl pc lv (.long y :: .long x :: st) M P := by
  intro p e s m args below meth c H locs ls C hP hS hz hl
  exact lv_lor C.1 C.2.1 hd  (k p e s m args below meth c H locs ls C hP hS hz hl)
theorem x_ldiv {x y : Int64} (hd : decode (yC Y) pc = .ok (.ldiv, 1)) (hne : ¬ y = 0) (k : EX g Y d mc ms ce sl (pc + 1) lv (.long (x / y) :: st) M P) : EX g Y d mc ms ce sl pc lv (.long y :: .long x :: st) M P := by
  intro p e s m args below meth c H locs ls C hP hS hz hl
  exact lv_ldiv C.1 C.2.1 hd hne (k p e s m args below meth c H locs ls C hP hS hz hl)
theorem x_lrem {x y : Int64} (hd : decode (yC Y) pc = .ok (.lrem, 1)) (hne : ¬ y = 0) (k : EX g Y d mc ms ce sl (pc + 1) lv (.long (x - x / y * y) :: st) M P) : EX g Y d mc ms ce sl pc lv (.long y :: .long x :: st) M P := by
  intro p e s m args below meth c H locs ls C hP hS hz hl
  exact lv_lrem C.1 C.2.1 hd hne (k p e s m args below meth c H locs ls C hP hS hz hl)
theorem x_lushr {x : Int64} {y : Int32} (hd : decode (yC Y) pc = .ok (.lushr, 1))  (k : EX g Y d mc ms ce sl (pc + 1) lv (.long ((x.toUInt64 >>> (y.toInt64.toUInt64 &&& Int64.toUInt64 63)).toInt64) :: st) M P) : EX g Y d mc ms ce sl pc lv (.int y :: .long x :: st) M P := by
  intro p e s m args below meth c H locs ls C hP hS hz hl
  exact lv_lushr C.1 C.2.1 hd rfl (k p e s m args below meth c H locs ls C hP hS hz hl)
theorem x_lshl {x : Int64} {y : Int32} (hd : decode (yC Y) pc = .ok (.lshl, 1))  (k : EX g Y d mc ms ce sl (pc + 1) lv (.long (x <<< (y.toInt64 &&& 63)) :: st) M P) : EX g Y d mc ms ce sl pc lv (.int y :: .long x :: st) M P := by
  intro p e s m args below meth c H locs ls C hP hS hz hl
  exact lv_lshl C.1 C.2.1 hd rfl (k p e s m args below meth c H locs ls C hP hS hz hl)
theorem x_lcmp {x y : Int64} (hd : decode (yC Y) pc = .ok (.lcmp, 1))  (k : EX g Y d mc ms ce sl (pc + 1) lv (.int (lg_cmp x y) :: st) M P) : EX g Y d mc ms ce sl pc lv (.long y :: .long x :: st) M P := by
  intro p e s m args below meth c H locs ls C hP hS hz hl
  exact W.lcmp C.1 C.2.1 hd  (k p e s m args below meth c H locs ls C hP hS hz hl)
theorem x_i2l {x : Int32} (hd : decode (yC Y) pc = .ok (.i2l, 1))  (k : EX g Y d mc ms ce sl (pc + 1) lv (.long x.toInt64 :: st) M P) : EX g Y d mc ms ce sl pc lv (.int x :: st) M P := by
  intro p e s m args below meth c H locs ls C hP hS hz hl
  exact lv_i2l C.1 C.2.1 hd rfl (k p e s m args below meth c H locs ls C hP hS hz hl)
theorem x_l2i {x : Int64} (hd : decode (yC Y) pc = .ok (.l2i, 1))  (k : EX g Y d mc ms ce sl (pc + 1) lv (.int x.toInt32 :: st) M P) : EX g Y d mc ms ce sl pc lv (.long x :: st) M P := by
  intro p e s m args below meth c H locs ls C hP hS hz hl
  exact lv_l2i C.1 C.2.1 hd rfl (k p e s m args below meth c H locs ls C hP hS hz hl)
theorem x_i2c {x : Int32} (hd : decode (yC Y) pc = .ok (.i2c, 1))  (k : EX g Y d mc ms ce sl (pc + 1) lv (.int ((x.toUInt32 % 65536).toInt32) :: st) M P) : EX g Y d mc ms ce sl pc lv (.int x :: st) M P := by
  intro p e s m args below meth c H locs ls C hP hS hz hl
  exact lv_i2c C.1 C.2.1 hd rfl (k p e s m args below meth c H locs ls C hP hS hz hl)
theorem x_dup {v : Value} (hd : decode (yC Y) pc = .ok (.dup, 1)) (hc : v.category = 1) (k : EX g Y d mc ms ce sl (pc + 1) lv (v :: v :: st) M P) : EX g Y d mc ms ce sl pc lv (v :: st) M P := by
  intro p e s m args below meth c H locs ls C hP hS hz hl
  exact lv_dup C.1 C.2.1 hd (by rw [xv_cat]; exact hc) (k p e s m args below meth c H locs ls C hP hS hz hl)
theorem x_pop {v : Value} (hd : decode (yC Y) pc = .ok (.pop, 1)) (hc : v.category = 1) (k : EX g Y d mc ms ce sl (pc + 1) lv (st) M P) : EX g Y d mc ms ce sl pc lv (v :: st) M P := by
  intro p e s m args below meth c H locs ls C hP hS hz hl
  exact lv_pop C.1 C.2.1 hd (by rw [xv_cat]; exact hc) (k p e s m args below meth c H locs ls C hP hS hz hl)
theorem x_dup2 {v w : Value} (hd : decode (yC Y) pc = .ok (.dup2, 1)) (hc : v.category = 1) (hc2 : w.category = 1) (k : EX g Y d mc ms ce sl (pc + 1) lv (v :: w :: v :: w :: st) M P) : EX g Y d mc ms ce sl pc lv (v :: w :: st) M P := by
  intro p e s m args below meth c H locs ls C hP hS hz hl
  exact lv_dup2_11 C.1 C.2.1 hd (by rw [xv_cat]; exact hc) (by rw [xv_cat]; exact hc2) (k p e s m args below meth c H locs ls C hP hS hz hl)
theorem x_dup22 {v : Value} (hd : decode (yC Y) pc = .ok (.dup2, 1)) (hc : v.category = 2) (k : EX g Y d mc ms ce sl (pc + 1) lv (v :: v :: st) M P) : EX g Y d mc ms ce sl pc lv (v :: st) M P := by
  intro p e s m args below meth c H locs ls C hP hS hz hl
  exact lv_dup2_2 C.1 C.2.1 hd (by rw [xv_cat]; exact hc) (k p e s m args below meth c H locs ls C hP hS hz hl)
theorem x_iload {i : Nat} {x : Int32} (hd : decode (yC Y) pc = .ok (.iload i, 2)) (q : Nat) (h : lv[q]? = some (i, .int x)) (k : EX g Y d mc ms ce sl (pc + 2) lv (.int x :: st) M P) : EX g Y d mc ms ce sl pc lv st M P := by
  intro p e s m args below meth c H locs ls C hP hS hz hl
  exact lv_iload C.1 C.2.1 hd (lv_at hl q (xlv_at h)) (k p e s m args below meth c H locs ls C hP hS hz hl)
theorem x_iload_n {i : Fin 4} {x : Int32} (hd : decode (yC Y) pc = .ok (.iload_n i, 1)) (q : Nat) (h : lv[q]? = some ((i : Nat), .int x)) (k : EX g Y d mc ms ce sl (pc + 1) lv (.int x :: st) M P) : EX g Y d mc ms ce sl pc lv st M P := by
  intro p e s m args below meth c H locs ls C hP hS hz hl
  exact lv_iload_n C.1 C.2.1 hd rfl (lv_at hl q (xlv_at h)) (k p e s m args below meth c H locs ls C hP hS hz hl)
theorem x_istore {i : Nat} {x : Int32} {lv1 : List (Nat × Value)} (hd : decode (yC Y) pc = .ok (.istore i, 2)) (hn : i < yL Y) (h : xs1 lv i (.int x) = lv1) (k : EX g Y d mc ms ce sl (pc + 2) lv1 st M P) : EX g Y d mc ms ce sl pc lv (.int x :: st) M P := by
  intro p e s m args below meth c H locs ls C hP hS hz hl
  subst h
  exact lv_istore C.1 C.2.1 hd hl hn (xs1_m g lv i (.int x)) (fun ls1 hl1 => k p e s m args below meth c H locs ls1 C hP hS hz hl1)
theorem x_istore_n {i : Fin 4} {x : Int32} {lv1 : List (Nat × Value)} (hd : decode (yC Y) pc = .ok (.istore_n i, 1)) (hn : (i : Nat) < yL Y) (h : xs1 lv (i : Nat) (.int x) = lv1) (k : EX g Y d mc ms ce sl (pc + 1) lv1 st M P) : EX g Y d mc ms ce sl pc lv (.int x :: st) M P := by
  intro p e s m args below meth c H locs ls C hP hS hz hl
  subst h
  exact lv_istore_n C.1 C.2.1 hd rfl hl hn (xs1_m g lv (i : Nat) (.int x)) (fun ls1 hl1 => k p e s m args below meth c H locs ls1 C hP hS hz hl1)
theorem x_lload {i : Nat} {x : Int64} (hd : decode (yC Y) pc = .ok (.lload i, 2)) (q : Nat) (h : lv[q]? = some (i, .long x)) (k : EX g Y d mc ms ce sl (pc + 2) lv (.long x :: st) M P) : EX g Y d mc ms ce sl pc lv st M P := by
  intro p e s m args below meth c H locs ls C hP hS hz hl
  exact lv_lload C.1 C.2.1 hd (lv_at hl q (xlv_at h)) (k p e s m args below meth c H locs ls C hP hS hz hl)
theorem x_lload_n {i : Fin 4} {x : Int64} (hd : decode (yC Y) pc = .ok (.lload_n i, 1)) (q : Nat) (h : lv[q]? = some ((i : Nat), .long x)) (k : EX g Y d mc ms ce sl (pc + 1) lv (.long x :: st) M P) : EX g Y d mc ms ce sl pc lv st M P := by
  intro p e s m args below meth c H locs ls C hP hS hz hl
  exact lv_lload_n C.1 C.2.1 hd rfl (lv_at hl q (xlv_at h)) (k p e s m args below meth c H locs ls C hP hS hz hl)
theorem x_lstore {i : Nat} {x : Int64} {lv1 : List (Nat × Value)} (hd : decode (yC Y) pc = .ok (.lstore i, 2)) (hn : i + 1 < yL Y) (h : xs2 lv i (.long x) = lv1) (k : EX g Y d mc ms ce sl (pc + 2) lv1 st M P) : EX g Y d mc ms ce sl pc lv (.long x :: st) M P := by
  intro p e s m args below meth c H locs ls C hP hS hz hl
  subst h
  exact lv_lstore C.1 C.2.1 hd hl hn (xs2_m g lv i (.long x)) (fun ls1 hl1 => k p e s m args below meth c H locs ls1 C hP hS hz hl1)
theorem x_lstore_n {i : Fin 4} {x : Int64} {lv1 : List (Nat × Value)} (hd : decode (yC Y) pc = .ok (.lstore_n i, 1)) (hn : (i : Nat) + 1 < yL Y) (h : xs2 lv (i : Nat) (.long x) = lv1) (k : EX g Y d mc ms ce sl (pc + 1) lv1 st M P) : EX g Y d mc ms ce sl pc lv (.long x :: st) M P := by
  intro p e s m args below meth c H locs ls C hP hS hz hl
  subst h
  exact lv_lstore_n C.1 C.2.1 hd rfl hl hn (xs2_m g lv (i : Nat) (.long x)) (fun ls1 hl1 => k p e s m args below meth c H locs ls1 C hP hS hz hl1)
theorem x_aload {i : Nat} {x : Nat} (hd : decode (yC Y) pc = .ok (.aload i, 2)) (q : Nat) (h : lv[q]? = some (i, .ref x)) (k : EX g Y d mc ms ce sl (pc + 2) lv (.ref x :: st) M P) : EX g Y d mc ms ce sl pc lv st M P := by
  intro p e s m args below meth c H locs ls C hP hS hz hl
  exact lv_aload C.1 C.2.1 hd (lv_at hl q (xlv_at h)) (k p e s m args below meth c H locs ls C hP hS hz hl)
theorem x_aload_n {i : Fin 4} {x : Nat} (hd : decode (yC Y) pc = .ok (.aload_n i, 1)) (q : Nat) (h : lv[q]? = some ((i : Nat), .ref x)) (k : EX g Y d mc ms ce sl (pc + 1) lv (.ref x :: st) M P) : EX g Y d mc ms ce sl pc lv st M P := by
  intro p e s m args below meth c H locs ls C hP hS hz hl
  exact lv_aload_n C.1 C.2.1 hd rfl (lv_at hl q (xlv_at h)) (k p e s m args below meth c H locs ls C hP hS hz hl)
theorem x_astore {i : Nat} {x : Nat} {lv1 : List (Nat × Value)} (hd : decode (yC Y) pc = .ok (.astore i, 2)) (hn : i < yL Y) (h : xs1 lv i (.ref x) = lv1) (k : EX g Y d mc ms ce sl (pc + 2) lv1 st M P) : EX g Y d mc ms ce sl pc lv (.ref x :: st) M P := by
  intro p e s m args below meth c H locs ls C hP hS hz hl
  subst h
  exact lv_astore C.1 C.2.1 hd hl hn (xs1_m g lv i (.ref x)) (fun ls1 hl1 => k p e s m args below meth c H locs ls1 C hP hS hz hl1)
theorem x_astore_n {i : Fin 4} {x : Nat} {lv1 : List (Nat × Value)} (hd : decode (yC Y) pc = .ok (.astore_n i, 1)) (hn : (i : Nat) < yL Y) (h : xs1 lv (i : Nat) (.ref x) = lv1) (k : EX g Y d mc ms ce sl (pc + 1) lv1 st M P) : EX g Y d mc ms ce sl pc lv (.ref x :: st) M P := by
  intro p e s m args below meth c H locs ls C hP hS hz hl
  subst h
  exact lv_astore_n C.1 C.2.1 hd rfl hl hn (xs1_m g lv (i : Nat) (.ref x)) (fun ls1 hl1 => k p e s m args below meth c H locs ls1 C hP hS hz hl1)
theorem x_iinc {i : Nat} {n : Int} {x v : Int32} {lv1 : List (Nat × Value)} (hd : decode (yC Y) pc = .ok (.iinc i n, 3)) (q : Nat) (h0 : lv[q]? = some (i, .int x)) (hv : x + Int32.ofInt n = v) (hn : i < yL Y) (h : xs1 lv i (.int v) = lv1) (k : EX g Y d mc ms ce sl (pc + 3) lv1 st M P) : EX g Y d mc ms ce sl pc lv st M P := by
  intro p e s m args below meth c H locs ls C hP hS hz hl
  subst h
  exact lv_iinc (k := q) C.1 C.2.1 hd hl (xlv_at h0) hv hn (xs1_m g lv i (.int v)) (fun ls1 hl1 => k p e s m args below meth c H locs ls1 C hP hS hz hl1)
theorem x_if_eq {x : Int32} {off : Int} (tgt : Nat) (hd : decode (yC Y) pc = .ok (.ifCond .eq off, 3)) (ht : (pc : Int) + off = (tgt : Int)) (kt : x = 0 → EX g Y d mc ms ce sl tgt lv st M P) (kf : ¬ (x = 0) → EX g Y d mc ms ce sl (pc + 3) lv st M P) : EX g Y d mc ms ce sl pc lv (.int x :: st) M P := by
  intro p e s m args below meth c H locs ls C hP hS hz hl
  exact lv_if_eq C.1 C.2.1 hd ht (fun q => kt q p e s m args below meth c H locs ls C hP hS hz hl) (fun q => kf q p e s m args below meth c H locs ls C hP hS hz hl)
theorem x_ic_eq {x y : Int32} {off : Int} (tgt : Nat) (hd : decode (yC Y) pc = .ok (.if_icmp .eq off, 3)) (ht : (pc : Int) + off = (tgt : Int)) (kt : x = y → EX g Y d mc ms ce sl tgt lv st M P) (kf : ¬ (x = y) → EX g Y d mc ms ce sl (pc + 3) lv st M P) : EX g Y d mc ms ce sl pc lv (.int y :: .int x :: st) M P := by
  intro p e s m args below meth c H locs ls C hP hS hz hl
  exact lv_icmp_eq C.1 C.2.1 hd ht (fun q => kt q p e s m args below meth c H locs ls C hP hS hz hl) (fun q => kf q p e s m args below meth c H locs ls C hP hS hz hl)
theorem x_if_ne {x : Int32} {off : Int} (tgt : Nat) (hd : decode (yC Y) pc = .ok (.ifCond .ne off, 3)) (ht : (pc : Int) + off = (tgt : Int)) (kt : ¬ x = 0 → EX g Y d mc ms ce sl tgt lv st M P) (kf : x = 0 → EX g Y d mc ms ce sl (pc + 3) lv st M P) : EX g Y d mc ms ce sl pc lv (.int x :: st) M P := by
  intro p e s m args below meth c H locs ls C hP hS hz hl
  exact lv_if_ne C.1 C.2.1 hd ht (fun q => kt q p e s m args below meth c H locs ls C hP hS hz hl) (fun q => kf q p e s m args below meth c H locs ls C hP hS hz hl)
theorem x_ic_ne {x y : Int32} {off : Int} (tgt : Nat) (hd : decode (yC Y) pc = .ok (.if_icmp .ne off, 3)) (ht : (pc : Int) + off = (tgt : Int)) (kt : ¬ x = y → EX g Y d mc ms ce sl tgt lv st M P) (kf : x = y → EX g Y d mc ms ce sl (pc + 3) lv st M P) : EX g Y d mc ms ce sl pc lv (.int y :: .int x :: st) M P := by
  intro p e s m args below meth c H locs ls C hP hS hz hl
  exact lv_icmp_ne C.1 C.2.1 hd ht (fun q => kt q p e s m args below meth c H locs ls C hP hS hz hl) (fun q => kf q p e s m args below meth c H locs ls C hP hS hz hl)
theorem x_if_lt {x : Int32} {off : Int} (tgt : Nat) (hd : decode (yC Y) pc = .ok (.ifCond .lt off, 3)) (ht : (pc : Int) + off = (tgt : Int)) (kt : x < 0 → EX g Y d mc ms ce sl tgt lv st M P) (kf : ¬ (x < 0) → EX g Y d mc ms ce sl (pc + 3) lv st M P) : EX g Y d mc ms ce sl pc lv (.int x :: st) M P := by
  intro p e s m args below meth c H locs ls C hP hS hz hl
  exact lv_if_lt C.1 C.2.1 hd ht (fun q => kt q p e s m args below meth c H locs ls C hP hS hz hl) (fun q => kf q p e s m args below meth c H locs ls C hP hS hz hl)
theorem x_ic_lt {x y : Int32} {off : Int} (tgt : Nat) (hd : decode (yC Y) pc = .ok (.if_icmp .lt off, 3)) (ht : (pc : Int) + off = (tgt : Int)) (kt : x < y → EX g Y d mc ms ce sl tgt lv st M P) (kf : ¬ (x < y) → EX g Y d mc ms ce sl (pc + 3) lv st M P) : EX g Y d mc ms ce sl pc lv (.int y :: .int x :: st) M P := by
  intro p e s m args below meth c H locs ls C hP hS hz hl
  exact lv_icmp_lt C.1 C.2.1 hd ht (fun q => kt q p e s m args below meth c H locs ls C hP hS hz hl) (fun q => kf q p e s m args below meth c H locs ls C hP hS hz hl)
theorem x_if_ge {x : Int32} {off : Int} (tgt : Nat) (hd : decode (yC Y) pc = .ok (.ifCond .ge off, 3)) (ht : (pc : Int) + off = (tgt : Int)) (kt : 0 ≤ x → EX g Y d mc ms ce sl tgt lv st M P) (kf : ¬ (0 ≤ x) → EX g Y d mc ms ce sl (pc + 3) lv st M P) : EX g Y d mc ms ce sl pc lv (.int x :: st) M P := by
  intro p e s m args below meth c H locs ls C hP hS hz hl
  exact lv_if_ge C.1 C.2.1 hd ht (fun q => kt q p e s m args below meth c H locs ls C hP hS hz hl) (fun q => kf q p e s m args below meth c H locs ls C hP hS hz hl)
theorem x_ic_ge {x y : Int32} {off : Int} (tgt : Nat) (hd : decode (yC Y) pc = .ok (.if_icmp .ge off, 3)) (ht : (pc : Int) + off = (tgt : Int)) (kt : y ≤ x → EX g Y d mc ms ce sl tgt lv st M P) (kf : ¬ (y ≤ x) → EX g Y d mc ms ce sl (pc + 3) lv st M P) : EX g Y d mc ms ce sl pc lv (.int y :: .int x :: st) M P := by
  intro p e s m args below meth c H locs ls C hP hS hz hl
  exact lv_icmp_ge C.1 C.2.1 hd ht (fun q => kt q p e s m args below meth c H locs ls C hP hS hz hl) (fun q => kf q p e s m args below meth c H locs ls C hP hS hz hl)
theorem x_if_gt {x : Int32} {off : Int} (tgt : Nat) (hd : decode (yC Y) pc = .ok (.ifCond .gt off, 3)) (ht : (pc : Int) + off = (tgt : Int)) (kt : 0 < x → EX g Y d mc ms ce sl tgt lv st M P) (kf : ¬ (0 < x) → EX g Y d mc ms ce sl (pc + 3) lv st M P) : EX g Y d mc ms ce sl pc lv (.int x :: st) M P := by
  intro p e s m args below meth c H locs ls C hP hS hz hl
  exact lv_if_gt C.1 C.2.1 hd ht (fun q => kt q p e s m args below meth c H locs ls C hP hS hz hl) (fun q => kf q p e s m args below meth c H locs ls C hP hS hz hl)
theorem x_ic_gt {x y : Int32} {off : Int} (tgt : Nat) (hd : decode (yC Y) pc = .ok (.if_icmp .gt off, 3)) (ht : (pc : Int) + off = (tgt : Int)) (kt : y < x → EX g Y d mc ms ce sl tgt lv st M P) (kf : ¬ (y < x) → EX g Y d mc ms ce sl (pc + 3) lv st M P) : EX g Y d mc ms ce sl pc lv (.int y :: .int x :: st) M P := by
  intro p e s m args below meth c H locs ls C hP hS hz hl
  exact lv_icmp_gt C.1 C.2.1 hd ht (fun q => kt q p e s m args below meth c H locs ls C hP hS hz hl) (fun q => kf q p e s m args below meth c H locs ls C hP hS hz hl)
theorem x_if_le {x : Int32} {off : Int} (tgt : Nat) (hd : decode (yC Y) pc = .ok (.ifCond .le off, 3)) (ht : (pc : Int) + off = (tgt : Int)) (kt : x ≤ 0 → EX g Y d mc ms ce sl tgt lv st M P) (kf : ¬ (x ≤ 0) → EX g Y d mc ms ce sl (pc + 3) lv st M P) : EX g Y d mc ms ce sl pc lv (.int x :: st) M P := by
  intro p e s m args below meth c H locs ls C hP hS hz hl
  exact lv_if_le C.1 C.2.1 hd ht (fun q => kt q p e s m args below meth c H locs ls C hP hS hz hl) (fun q => kf q p e s m args below meth c H locs ls C hP hS hz hl)
theorem x_ic_le {x y : Int32} {off : Int} (tgt : Nat) (hd : decode (yC Y) pc = .ok (.if_icmp .le off, 3)) (ht : (pc : Int) + off = (tgt : Int)) (kt : x ≤ y → EX g Y d mc ms ce sl tgt lv st M P) (kf : ¬ (x ≤ y) → EX g Y d mc ms ce sl (pc + 3) lv st M P) : EX g Y d mc ms ce sl pc lv (.int y :: .int x :: st) M P := by
  intro p e s m args below meth c H locs ls C hP hS hz hl
  exact lv_icmp_le C.1 C.2.1 hd ht (fun q => kt q p e s m args below meth c H locs ls C hP hS hz hl) (fun q => kf q p e s m args below meth c H locs ls C hP hS hz hl)
theorem x_goto {off : Int} (tgt : Nat) (hd : decode (yC Y) pc = .ok (.goto off, 3)) (ht : (pc : Int) + off = (tgt : Int)) (k : EX g Y d mc ms ce sl tgt lv st M P) : EX g Y d mc ms ce sl pc lv st M P := by
  intro p e s m args below meth c H locs ls C hP hS hz hl
  exact lv_goto C.1 C.2.1 hd ht (k p e s m args below meth c H locs ls C hP hS hz hl)
theorem x_lookup {dflt : Int} {ps : Array (Int × Int)} {len : Nat} {x : Int32} (hd : decode (yC Y) pc = .ok (.lookupswitch dflt ps, len)) (hp : (ps.toList.zip (ps.toList.drop 1)).all (fun (a, next) => a.1 < next.1) = true) (k : ∀ tgt : Nat, (pc : Int) + Op.lookupswitch.offset ps.toList dflt x.toInt = (tgt : Int) → EX g Y d mc ms ce sl tgt lv st M P) (tg : ∃ tgt : Nat, (pc : Int) + Op.lookupswitch.offset ps.toList dflt x.toInt = (tgt : Int)) : EX g Y d mc ms ce sl pc lv (.int x :: st) M P := by
  intro p e s m args below meth c H locs ls C hP hS hz hl
  obtain ⟨tgt, ht⟩ := tg
  exact lv_lookup C.1 C.2.1 hd hp rfl ht (k tgt ht p e s m args below meth c H locs ls C hP hS hz hl)
theorem x_tabOut {dflt lo hi : Int} {offs : Array Int} {len : Nat} {x : Int32} (tgt : Nat) (hd : decode (yC Y) pc = .ok (.tableswitch dflt lo hi offs, len)) (h : x.toInt < lo ∨ hi < x.toInt) (ht : (pc : Int) + dflt = (tgt : Int)) (k : EX g Y d mc ms ce sl tgt lv st M P) : EX g Y d mc ms ce sl pc lv (.int x :: st) M P := by
  intro p e s m args below meth c H locs ls C hP hS hz hl
  exact lv_tableOut C.1 C.2.1 hd h ht (k p e s m args below meth c H locs ls C hP hS hz hl)
theorem x_tabIn {dflt lo hi off : Int} {offs : Array Int} {len : Nat} {x : Int32} (tgt : Nat) (hd : decode (yC Y) pc = .ok (.tableswitch dflt lo hi offs, len)) (h1 : ¬ x.toInt < lo) (h2 : ¬ hi < x.toInt) (ho : offs[(x.toInt - lo).toNat]? = some off) (ht : (pc : Int) + off = (tgt : Int)) (k : EX g Y d mc ms ce sl tgt lv st M P) : EX g Y d mc ms ce sl pc lv (.int x :: st) M P := by
  intro p e s m args below meth c H locs ls C hP hS hz hl
  exact lv_tableIn C.1 C.2.1 hd h1 h2 ho ht (k p e s m args below meth c H locs ls C hP hS hz hl)
theorem x_ldcw {idx : Nat} {v : Int32} (hd : decode (yC Y) pc = .ok (.ldc_w idx, 3)) (hc : Cond.constant (yN Y).cls idx v ∈ gw) (k : EX g Y d mc ms ce sl (pc + 3) lv (.int v :: st) M P) : EX g Y d mc ms ce sl pc lv st M P := by
  intro p e s m args below meth c H locs ls C hP hS hz hl
  exact lv_ldcw C.1 C.2.1 C.2.2.2.1 (C.2.2.2.2.1 _ hc) hd (k p e s m args below meth c H locs ls C hP hS hz hl)
theorem x_ldc2 {idx : Nat} {v : Int64} (hd : decode (yC Y) pc = .ok (.ldc2_w idx, 3)) (hc : Cond.constantLong (yN Y).cls idx v ∈ gw) (k : EX g Y d mc ms ce sl (pc + 3) lv (.long v :: st) M P) : EX g Y d mc ms ce sl pc lv st M P := by
  intro p e s m args below meth c H locs ls C hP hS hz hl
  exact lv_ldc2 C.1 C.2.1 C.2.2.2.1 (C.2.2.2.2.1 _ hc) hd (k p e s m args below meth c H locs ls C hP hS hz hl)
theorem x_iald {a n : Nat} {i : Int32} (hd : decode (yC Y) pc = .ok (.iaload, 1)) (ha : a < mn M) (hs : mh M a = (1, n)) (hi : vp_in i n) (k : EX g Y d mc ms ce sl (pc + 1) lv (.int (mi M a i.toNatClampNeg) :: st) M P) : EX g Y d mc ms ce sl pc lv (.int i :: .ref a :: st) M P := by
  intro p e s m args below meth c H locs ls C hP hS hz hl
  have h1 := mW_at g M ha
  rw [mE_i hs] at h1
  exact va_iald C.1 C.2.1 C.2.2.2.2.2.2.2.2.1 hP a 0 h1 rfl hi hd (k p e s m args below meth c H locs ls C hP hS hz hl)
theorem x_iast {a n : Nat} {i : Int32} {x : Int32} (hd : decode (yC Y) pc = .ok (.iastore, 1)) (ha : a < mn M) (hs : mh M a = (1, n)) (hi : vp_in i n) (k : EX g Y d mc ms ce sl (pc + 1) lv st (wi M a i.toNatClampNeg x) P) : EX g Y d mc ms ce sl pc lv (.int x :: .int i :: .ref a :: st) M P := by
  intro p e s m args below meth c H locs ls C hP hS hz hl
  have h1 := mW_at g M ha
  rw [mE_i hs] at h1
  have h2 : mE (gB g) g.2.2.2 (wi M a i.toNatClampNeg x) a = .inl (g.2.2.2 1, n, (.inl (upd (mi M a) i.toNatClampNeg x))) := by
    rw [mE_i (M := (wi M a i.toNatClampNeg x)) hs]
    exact congrArg (fun f => Sum.inl (g.2.2.2 1, n, Sum.inl f)) (mu_upd _ _ _ _)
  have h3 := mW_set (g := g) (M := M) (M' := (wi M a i.toNatClampNeg x)) ha rfl h2 (fun b hb => mE_wi hb)
  refine W.iast C.1 C.2.1 (hP a _ h1) ((C.2.2.2.2.2.2.2.2.1.2 0 _ rfl).1 n (fun j => .int (mi M a j))) (fun q => by cases q) (by show ¬ (i < 0 ∨ (arrV _ _ _).slots.size ≤ _); rw [arrV_size]; exact hi) rfl rfl hd fun H1 e1 z oq => ?_
  have hP1 := va_P.set hP (mD g M) h1 (e := .inl (g.2.2.2 1, n, (.inl (upd (mi M a) i.toNatClampNeg x)))) (by
    show H1[gB g + a]? = some (vp_cell _ _)
    rw [e1]
    rw [vp_cell_i, vp_cell_i, arrV_store]
    congr 2
    funext q
    by_cases hq : q = i.toNatClampNeg
    · subst hq
      simp [updV, upd]
    · simp [updV, upd, hq]) oq
  rw [h3] at hP1
  exact k p e s m args below meth c H1 _ ls C hP1 (hS.put z oq (Nat.le_add_right _ _)) (z.trans hz) hl
theorem x_zald {a n : Nat} {i : Int32} (hd : decode (yC Y) pc = .ok (.baload, 1)) (ha : a < mn M) (hs : mh M a = (3, n)) (hi : vp_in i n) (k : EX g Y d mc ms ce sl (pc + 1) lv (.int (mi M a i.toNatClampNeg) :: st) M P) : EX g Y d mc ms ce sl pc lv (.int i :: .ref a :: st) M P := by
  intro p e s m args below meth c H locs ls C hP hS hz hl
  have h1 := mW_at g M ha
  rw [mE_z hs] at h1
  exact va_zald C.1 C.2.1 C.2.2.2.2.2.2.2.2.1 hP a 2 h1 rfl hi hd (k p e s m args below meth c H locs ls C hP hS hz hl)
theorem x_zast {a n : Nat} {i : Int32} {x : Int32} (hd : decode (yC Y) pc = .ok (.bastore, 1)) (ha : a < mn M) (hs : mh M a = (3, n)) (hi : vp_in i n) (k : EX g Y d mc ms ce sl (pc + 1) lv st (wi M a i.toNatClampNeg (vp_nar .boolean x)) P) : EX g Y d mc ms ce sl pc lv (.int x :: .int i :: .ref a :: st) M P := by
  intro p e s m args below meth c H locs ls C hP hS hz hl
  have h1 := mW_at g M ha
  rw [mE_z hs] at h1
  have h2 : mE (gB g) g.2.2.2 (wi M a i.toNatClampNeg (vp_nar .boolean x)) a = .inl (g.2.2.2 3, n, (.inl (upd (mi M a) i.toNatClampNeg (vp_nar .boolean x)))) := by
    rw [mE_z (M := (wi M a i.toNatClampNeg (vp_nar .boolean x))) hs]
    exact congrArg (fun f => Sum.inl (g.2.2.2 3, n, Sum.inl f)) (mu_upd _ _ _ _)
  have h3 := mW_set (g := g) (M := M) (M' := (wi M a i.toNatClampNeg (vp_nar .boolean x))) ha rfl h2 (fun b hb => mE_wi hb)
  refine W.zast C.1 C.2.1 (hP a _ h1) ((C.2.2.2.2.2.2.2.2.1.2 2 _ rfl).1 n (fun j => .int (mi M a j))) (fun q => by cases q) (by show ¬ (i < 0 ∨ (arrV _ _ _).slots.size ≤ _); rw [arrV_size]; exact hi) rfl rfl hd fun H1 e1 z oq => ?_
  have hP1 := va_P.set hP (mD g M) h1 (e := .inl (g.2.2.2 3, n, (.inl (upd (mi M a) i.toNatClampNeg (vp_nar .boolean x))))) (by
    show H1[gB g + a]? = some (vp_cell _ _)
    rw [e1]
    rw [vp_cell_i, vp_cell_i, arrV_store]
    congr 2
    funext q
    by_cases hq : q = i.toNatClampNeg
    · subst hq
      simp [updV, upd, narrow, vp_nar]
    · simp [updV, upd, hq]) oq
  rw [h3] at hP1
  exact k p e s m args below meth c H1 _ ls C hP1 (hS.put z oq (Nat.le_add_right _ _)) (z.trans hz) hl
theorem x_cald {a n : Nat} {i : Int32} (hd : decode (yC Y) pc = .ok (.caload, 1)) (ha : a < mn M) (hs : mh M a = (4, n)) (hi : vp_in i n) (k : EX g Y d mc ms ce sl (pc + 1) lv (.int (mi M a i.toNatClampNeg) :: st) M P) : EX g Y d mc ms ce sl pc lv (.int i :: .ref a :: st) M P := by
  intro p e s m args below meth c H locs ls C hP hS hz hl
  have h1 := mW_at g M ha
  rw [mE_c hs] at h1
  exact va_cald C.1 C.2.1 C.2.2.2.2.2.2.2.2.1 hP a 3 h1 rfl hi hd (k p e s m args below meth c H locs ls C hP hS hz hl)
theorem x_cast {a n : Nat} {i : Int32} {x : Int32} (hd : decode (yC Y) pc = .ok (.castore, 1)) (ha : a < mn M) (hs : mh M a = (4, n)) (hi : vp_in i n) (k : EX g Y d mc ms ce sl (pc + 1) lv st (wi M a i.toNatClampNeg (vp_nar .char x)) P) : EX g Y d mc ms ce sl pc lv (.int x :: .int i :: .ref a :: st) M P := by
  intro p e s m args below meth c H locs ls C hP hS hz hl
  have h1 := mW_at g M ha
  rw [mE_c hs] at h1
  have h2 : mE (gB g) g.2.2.2 (wi M a i.toNatClampNeg (vp_nar .char x)) a = .inl (g.2.2.2 4, n, (.inl (upd (mi M a) i.toNatClampNeg (vp_nar .char x)))) := by
    rw [mE_c (M := (wi M a i.toNatClampNeg (vp_nar .char x))) hs]
    exact congrArg (fun f => Sum.inl (g.2.2.2 4, n, Sum.inl f)) (mu_upd _ _ _ _)
  have h3 := mW_set (g := g) (M := M) (M' := (wi M a i.toNatClampNeg (vp_nar .char x))) ha rfl h2 (fun b hb => mE_wi hb)
  refine W.cast C.1 C.2.1 (hP a _ h1) ((C.2.2.2.2.2.2.2.2.1.2 3 _ rfl).1 n (fun j => .int (mi M a j))) (fun q => by cases q) (by show ¬ (i < 0 ∨ (arrV _ _ _).slots.size ≤ _); rw [arrV_size]; exact hi) rfl rfl hd fun H1 e1 z oq => ?_
  have hP1 := va_P.set hP (mD g M) h1 (e := .inl (g.2.2.2 4, n, (.inl (upd (mi M a) i.toNatClampNeg (vp_nar .char x))))) (by
    show H1[gB g + a]? = some (vp_cell _ _)
    rw [e1]
    rw [vp_cell_i, vp_cell_i, arrV_store]
    congr 2
    funext q
    by_cases hq : q = i.toNatClampNeg
    · subst hq
      simp [updV, upd, narrow, vp_nar]
    · simp [updV, upd, hq]) oq
  rw [h3] at hP1
  exact k p e s m args below meth c H1 _ ls C hP1 (hS.put z oq (Nat.le_add_right _ _)) (z.trans hz) hl
theorem x_lald {a n : Nat} {i : Int32} (hd : decode (yC Y) pc = .ok (.laload, 1)) (ha : a < mn M) (hs : mh M a = (2, n)) (hi : vp_in i n) (k : EX g Y d mc ms ce sl (pc + 1) lv (.long (mj M a i.toNatClampNeg) :: st) M P) : EX g Y d mc ms ce sl pc lv (.int i :: .ref a :: st) M P := by
  intro p e s m args below meth c H locs ls C hP hS hz hl
  have h1 := mW_at g M ha
  rw [mE_j hs] at h1
  exact va_lald C.1 C.2.1 C.2.2.2.2.2.2.2.2.1 hP a 1 h1 rfl hi hd (k p e s m args below meth c H locs ls C hP hS hz hl)
theorem x_last {a n : Nat} {i : Int32} {x : Int64} (hd : decode (yC Y) pc = .ok (.lastore, 1)) (ha : a < mn M) (hs : mh M a = (2, n)) (hi : vp_in i n) (k : EX g Y d mc ms ce sl (pc + 1) lv st (wj M a i.toNatClampNeg x) P) : EX g Y d mc ms ce sl pc lv (.long x :: .int i :: .ref a :: st) M P := by
  intro p e s m args below meth c H locs ls C hP hS hz hl
  have h1 := mW_at g M ha
  rw [mE_j hs] at h1
  have h2 : mE (gB g) g.2.2.2 (wj M a i.toNatClampNeg x) a = .inl (g.2.2.2 2, n, .inr (.inl (vp_updL (mj M a) i.toNatClampNeg x))) := by
    rw [mE_j (M := (wj M a i.toNatClampNeg x)) hs]
    exact congrArg (fun f => Sum.inl (g.2.2.2 2, n, Sum.inr (Sum.inl f))) (mu_updL _ _ _ _)
  have h3 := mW_set (g := g) (M := M) (M' := (wj M a i.toNatClampNeg x)) ha rfl h2 (fun b hb => mE_wj hb)
  refine W.last C.1 C.2.1 (hP a _ h1) ((C.2.2.2.2.2.2.2.2.1.2 1 _ rfl).1 n (fun j => .long (mj M a j))) (fun q => by cases q) (by show ¬ (i < 0 ∨ (arrV _ _ _).slots.size ≤ _); rw [arrV_size]; exact hi) rfl rfl hd fun H1 e1 z oq => ?_
  have hP1 := va_P.set hP (mD g M) h1 (e := .inl (g.2.2.2 2, n, .inr (.inl (vp_updL (mj M a) i.toNatClampNeg x)))) (by
    show H1[gB g + a]? = some (vp_cell _ _)
    rw [e1]
    rw [vp_cell_l, vp_cell_l, arrV_store]
    congr 2
    funext q
    by_cases hq : q = i.toNatClampNeg
    · subst hq
      simp [updV, vp_updL]
    · simp [updV, vp_updL, hq]) oq
  rw [h3] at hP1
  exact k p e s m args below meth c H1 _ ls C hP1 (hS.put z oq (Nat.le_add_right _ _)) (z.trans hz) hl
end EXR
end
section
/-! ===== fields, arrays of references, new cells, calls, returns over EX ===== -/
def FD (own : String) (idx ci k : Nat) (ty : FieldType) (fin : Bool) : Prop :=
  ∃ (C : String) (T : u_T), vwCl[ci]? = some (C, T, mN ci) ∧ (∀ w ∈ u_ws C T (mN ci), w ∈ gw) ∧ (∀ j, j < mN ci → parseFieldDescriptor (T j).2.2.1 = some (mty ci j)) ∧ (∀ a, a < mN ci → ∀ b, b < mN ci → a ≠ b → (T a).2.1 ≠ (T b).2.1) ∧ k < mN ci ∧ mty ci k = ty ∧ (T k).2.2.2 = fin ∧ (T k).1 = C ∧ Cond.fieldLink own idx C (T k).2.1 (T k).2.2.1 ∈ gw
section EXH
variable {g : GG} {Y : YY} {d mc ms ce sl pc : Nat} {lv : List (Nat × Value)} {st : List Value} {M : MM} {P : Option Value → MM → Prop}
theorem x_get {idx ci k a : Nat} {ty : FieldType} {fin : Bool} {v : Value} (F : FD (yN Y).cls idx ci k ty fin) (hd : decode (yC Y) pc = .ok (.getfield idx, 3)) (ha : a < mn M) (hs : mh M a = (0, ci)) (hv : mfv (gB g) M a k (mkd ty) = xv (gB g) v) (k1 : EX g Y d mc ms ce sl (pc + 3) lv (v :: st) M P) : EX g Y d mc ms ce sl pc lv (.ref a :: st) M P := by
  intro p e s m args below meth c H locs ls C hP hS hz hl
  have h1 := mW_at g M ha
  rw [mE_ob hs] at h1
  obtain ⟨CN, T, hc, hin, hty, hnm, hkN, rfl, hfin, hdecl, hlink⟩ := F
  exact va_get C.1 C.2.1 (Ts := gw) C.2.2.2.2.1 hin C.2.2.2.1 C.2.2.2.2.2.2.2.2.1 hP a h1 hc k hkN (C.2.2.2.2.1 _ hlink) (fun x h => by rw [hdecl] at h; exact h) ((mF_at hkN).trans (congrArg some hv)) hd (k1 p e s m args below meth c H locs ls C hP hS hz hl)
theorem x_getI {idx ci k a : Nat} {ty : FieldType} {fin : Bool} (F : FD (yN Y).cls idx ci k ty fin) (hk : mkd ty = 0) (hd : decode (yC Y) pc = .ok (.getfield idx, 3)) (ha : a < mn M) (hs : mh M a = (0, ci)) (k1 : EX g Y d mc ms ce sl (pc + 3) lv (.int (mi M a k) :: st) M P) : EX g Y d mc ms ce sl pc lv (.ref a :: st) M P :=
  x_get F hd ha hs (by rw [hk]; rfl) k1
theorem x_getJ {idx ci k a : Nat} {ty : FieldType} {fin : Bool} (F : FD (yN Y).cls idx ci k ty fin) (hk : mkd ty = 1) (hd : decode (yC Y) pc = .ok (.getfield idx, 3)) (ha : a < mn M) (hs : mh M a = (0, ci)) (k1 : EX g Y d mc ms ce sl (pc + 3) lv (.long (mj M a k) :: st) M P) : EX g Y d mc ms ce sl pc lv (.ref a :: st) M P :=
  x_get F hd ha hs (by rw [hk]; rfl) k1
theorem x_getR {idx ci k a b : Nat} {ty : FieldType} {fin : Bool} (F : FD (yN Y).cls idx ci k ty fin) (hk : mkd ty = 2) (hd : decode (yC Y) pc = .ok (.getfield idx, 3)) (ha : a < mn M) (hs : mh M a = (0, ci)) (hb : mr M a k = some b) (k1 : EX g Y d mc ms ce sl (pc + 3) lv (.ref b :: st) M P) : EX g Y d mc ms ce sl pc lv (.ref a :: st) M P :=
  x_get F hd ha hs (by rw [hk]; unfold mfv; rw [if_neg (by decide), if_neg (by decide), hb]; rfl) k1
/-- a store into a field that isn't final, or of a constructor into its own final field -/
theorem x_put {idx ci k a : Nat} {ty : FieldType} {fin : Bool} {v : Value} {M1 : MM} (F : FD (yN Y).cls idx ci k ty fin) (hf : fin = false ∨ (vwCl[ci]?.map (fun r => r.1) = some (yN Y).cls ∧ (yN Y).name = "<init>")) (hd : decode (yC Y) pc = .ok (.putfield idx, 3)) (ha : a < mn M) (hs : mh M a = (0, ci)) (hnar : narrow ty (xv (gB g) v) = xv (gB g) v) (hfit : fits ty (xv (gB g) v) = true)
    (hn : mn M1 = mn M) (hh : mh M1 = mh M) (hv : mfv (gB g) M1 a k (mkd ty) = xv (gB g) v) (ho : ∀ j kd, j ≠ k → mfv (gB g) M1 a j kd = mfv (gB g) M a j kd) (hE : ∀ b, b ≠ a → mE (gB g) g.2.2.2 M1 b = mE (gB g) g.2.2.2 M b)
    (k1 : EX g Y d mc ms ce sl (pc + 3) lv st M1 P) : EX g Y d mc ms ce sl pc lv (v :: .ref a :: st) M P := by
  intro p e s m args below meth c H locs ls C hP hS0 hz hl
  have he := mW_at g M ha
  rw [mE_ob hs] at he
  obtain ⟨CN, T, hc, hin, hty, hnm, hk, rfl, hfin, hdecl, hlink⟩ := F
  have hts := C.2.2.2.2.1
  have hK := C.2.2.2.2.2.2.2.2.1
  have hlink := hts _ hlink
  have hap := va_apart (own := (yN Y).cls) hts hin (mty ci) hty hnm hK hc
  obtain ⟨r, h1, cell, q1, q2, q3, q4⟩ := hP a _ he
  have hr : r = (CN, T, mN ci) := Option.some.inj (h1.symm.trans hc)
  subst hr
  obtain ⟨hS, hfc, kC, hkC, hkind⟩ := hK.1 ci _ hc
  obtain ⟨cf, kf, fi, f, hi, hsl⟩ := hS k hk
  have hlay := hts _ (hin _ (u_in_lay hk))
  have hst := (u_facts hfc hkC (u_lays hts hin hk) hi).1
  have hi2 : s.fieldFound? CN (T k).2.1 (T k).2.2.1 = some (cf, kf, fi, f) := by
    have h := hi
    rw [hdecl] at h
    exact h
  have h3 : (mW g M).set a (gB g + a, .inr (ci, (mF (gB g) M ci a).set k (xv (gB g) v))) = mW g M1 := by
    refine mW_set ha hn ?_ hE
    rw [mE_ob (M := M1) (by rw [hh]; exact hs), mF_set hk hv ho]
  have fin1 : ∀ H' : Heap, H'[gB g + a]? = some (cell.setSlot f.slot (xv (gB g) v)) → H'.size = H.size → (∀ q, q ≠ gB g + a → H'[q]? = H[q]?) → W p g.1 e (xR d mc ms) s m args below meth c H' (locs ++ [⟨gB g + a, f.slot⟩]) ce sl (MQ below (xQ g P) args s mc ms (gA g)) (F0 m (pc + 3) ls (xst g st)) := by
    intro H' e1 e2 e3
    rw [hsl] at e1
    have hP1 := va_P.set hP (mD g M) he (e := .inr (ci, (mF (gB g) M ci a).set k (xv (gB g) v))) ⟨_, hc, t_OB.to (V := updV (vp_V (mF (gB g) M ci a)) k (xv (gB g) v)) ⟨_, e1, q2, q3, t_set q4 hap hk (xv (gB g) v)⟩ (fun j _ => vp_updV_set (by rw [mF_len]; exact hk) (xv (gB g) v) j)⟩ e3
    rw [h3] at hP1
    exact k1 p e s m args below meth c H' _ ls C hP1 (hS0.put e2 e3 (Nat.le_add_right _ _)) (by rw [e2, hz, hn]) hl
  unfold u_lay at hlay
  cases fin with
  | false =>
    rw [if_neg (by rw [hfin]; decide)] at hlay
    have h6 := u_store hfc hkC hkind hlay hi (hty k hk) hnar hfit
    exact W.putK C.1 C.2.1 (f := f) ⟨C.2.2.2.1, hlink, ⟨_, _, _, hi2⟩, hst⟩ (by rw [q2]; exact h6) q1 q3 (by rw [hsl]; exact k2_hasslot (q4 k hk)) rfl rfl hd fin1
  | true =>
    rw [if_pos hfin] at hlay
    rcases hf with hf | ⟨hown, hini⟩
    · cases hf
    · rw [hc] at hown
      have hown : CN = (yN Y).cls := Option.some.inj hown
      have hcf : m.cls = cf := by
        obtain ⟨_, _, c', _, _, _, -, -, hf', -, -, -, hown2, -⟩ := Cond.laysFinal_spec hlay
        have e1 : c' = cf := by have := hi.symm.trans hf'; simp at this; exact this.1.symm
        rw [hdecl, hown] at hown2
        rw [← e1]; exact Option.some.inj (C.2.2.2.1.symm.trans hown2)
      have h6 := u_fits hfc hkC hkind (Or.inr hlay) hi (hty k hk) hnar hfit
      exact W.putFinK C.1 C.2.1 C.2.2.2.1 hlink hi2 hst hcf (C.2.2.2.2.2.2.2.1.trans hini) (by rw [q2]; exact h6) q1 q3 (by rw [hsl]; exact k2_hasslot (q4 k hk)) rfl rfl hd fin1
theorem x_putI {idx ci k a : Nat} {ty : FieldType} {fin : Bool} {v : Int32} (F : FD (yN Y).cls idx ci k ty fin) (hk : mkd ty = 0) (hf : fin = false ∨ (vwCl[ci]?.map (fun r => r.1) = some (yN Y).cls ∧ (yN Y).name = "<init>")) (hd : decode (yC Y) pc = .ok (.putfield idx, 3)) (ha : a < mn M) (hs : mh M a = (0, ci)) (hnar : narrow ty (.int v) = .int v) (hfit : fits ty (.int v) = true) (k1 : EX g Y d mc ms ce sl (pc + 3) lv st (wi M a k v) P) : EX g Y d mc ms ce sl pc lv (.int v :: .ref a :: st) M P :=
  x_put (M1 := wi M a k v) F hf hd ha hs hnar hfit rfl rfl (by rw [hk]; exact congrArg Value.int (mu_s _ a k v)) (fun j kd hj => by
    unfold mfv
    by_cases h0 : kd = 0
    · rw [if_pos h0, if_pos h0]; exact congrArg Value.int (mu_k _ a v hj)
    · rw [if_neg h0, if_neg h0]) (fun b hb => mE_wi hb) k1
theorem x_putJ {idx ci k a : Nat} {ty : FieldType} {fin : Bool} {v : Int64} (F : FD (yN Y).cls idx ci k ty fin) (hk : ty = .long) (hf : fin = false ∨ (vwCl[ci]?.map (fun r => r.1) = some (yN Y).cls ∧ (yN Y).name = "<init>")) (hd : decode (yC Y) pc = .ok (.putfield idx, 3)) (ha : a < mn M) (hs : mh M a = (0, ci)) (k1 : EX g Y d mc ms ce sl (pc + 3) lv st (wj M a k v) P) : EX g Y d mc ms ce sl pc lv (.long v :: .ref a :: st) M P :=
  x_put (M1 := wj M a k v) F hf hd ha hs (by rw [hk]; rfl) (by rw [hk]; rfl) rfl rfl (by rw [hk]; exact congrArg Value.long (mu_s _ a k v)) (fun j kd hj => by
    unfold mfv
    by_cases h0 : kd = 0
    · rw [if_pos h0, if_pos h0]
    · rw [if_neg h0, if_neg h0]
      by_cases h1 : kd = 1
      · rw [if_pos h1, if_pos h1]; exact congrArg Value.long (mu_k _ a v hj)
      · rw [if_neg h1, if_neg h1]) (fun b hb => mE_wj hb) k1
theorem x_putR {idx ci k a b : Nat} {ty : FieldType} {fin : Bool} (F : FD (yN Y).cls idx ci k ty fin) (hk : mkd ty = 2) (hf : fin = false ∨ (vwCl[ci]?.map (fun r => r.1) = some (yN Y).cls ∧ (yN Y).name = "<init>")) (hd : decode (yC Y) pc = .ok (.putfield idx, 3)) (ha : a < mn M) (hs : mh M a = (0, ci)) (k1 : EX g Y d mc ms ce sl (pc + 3) lv st (wr M a k (some b)) P) : EX g Y d mc ms ce sl pc lv (.ref b :: .ref a :: st) M P :=
  x_put (M1 := wr M a k (some b)) F hf hd ha hs (by cases ty <;> first | rfl | cases hk) (by cases ty <;> first | rfl | cases hk) rfl rfl (by
    rw [hk]
    unfold mfv
    rw [if_neg (by decide), if_neg (by decide)]
    exact congrArg (fun r => va_rf (mo (gB g) r)) (mu_s (mr M) a k (some b))) (fun j kd hj => by
    unfold mfv
    by_cases h0 : kd = 0
    · rw [if_pos h0, if_pos h0]
    · rw [if_neg h0, if_neg h0]
      by_cases h1 : kd = 1
      · rw [if_pos h1, if_pos h1]
      · rw [if_neg h1, if_neg h1]; exact congrArg (fun r => va_rf (mo (gB g) r)) (mu_k (mr M) a (some b) hj)) (fun b hb => mE_wr hb) k1
/-- arrays of references -/
theorem x_aald {a n t b : Nat} {i : Int32} (hd : decode (yC Y) pc = .ok (.aaload, 1)) (ha : a < mn M) (hs : mh M a = (t, n)) (ht : t = 5 ∨ t = 6) (hi : vp_in i n) (hb : mr M a i.toNatClampNeg = some b) (k : EX g Y d mc ms ce sl (pc + 1) lv (.ref b :: st) M P) : EX g Y d mc ms ce sl pc lv (.int i :: .ref a :: st) M P := by
  intro p e s m args below meth c H locs ls C hP hS hz hl
  have h1 := mW_at g M ha
  have kk := k p e s m args below meth c H locs ls C hP hS hz hl
  rcases ht with rfl | rfl
  · rw [mE_q hs (by decide)] at h1
    refine va_aldq C.1 C.2.1 C.2.2.2.2.2.2.2.2.1 hP a 4 h1 rfl hi hd ?_
    rw [hb]; exact kk
  · rw [mE_q hs (by decide)] at h1
    refine va_aldq C.1 C.2.1 C.2.2.2.2.2.2.2.2.1 hP a 5 h1 rfl hi hd ?_
    rw [hb]; exact kk
theorem x_aast {a n t v ci : Nat} {i : Int32} (hd : decode (yC Y) pc = .ok (.aastore, 1)) (ha : a < mn M) (hs : mh M a = (t, n)) (ht : (t = 5 ∧ ci = 3) ∨ (t = 6 ∧ ci = 10)) (hi : vp_in i n) (hv : v < mn M) (hsv : mh M v = (0, ci)) (k : EX g Y d mc ms ce sl (pc + 1) lv st (wr M a i.toNatClampNeg (some v)) P) : EX g Y d mc ms ce sl pc lv (.ref v :: .int i :: .ref a :: st) M P := by
  intro p e s m args below meth c H locs ls C hP hS hz hl
  have hlt : i.toNatClampNeg < n := Nat.not_le.mp fun q => hi (Or.inr q)
  have h0 : ¬ i < 0 := fun q => hi (Or.inl q)
  have hK := C.2.2.2.2.2.2.2.2.1
  have ht5 : 5 ≤ t := by omega
  have h1 := mW_at g M ha
  rw [mE_q hs ht5] at h1
  have h1v := mW_at g M hv
  rw [mE_ob hsv] at h1v
  obtain ⟨rc, t0, hc, htt⟩ : ∃ (rc : vw_C) (t0 : Nat), vwCl[ci]? = some rc ∧ (mT g)[t0]? = some (g.2.2.2 t, .object rc.1) := by
    rcases ht with ⟨rfl, rfl⟩ | ⟨rfl, rfl⟩
    · exact ⟨_, 4, rfl, rfl⟩
    · exact ⟨_, 5, rfl, rfl⟩
  have h2 : mE (gB g) g.2.2.2 (wr M a i.toNatClampNeg (some v)) a = .inl (g.2.2.2 t, n, .inr (.inr (.inr (.inr (va_up (fun j => mo (gB g) (mr M a j)) i.toNatClampNeg (some (gB g + v))))))) := by
    rw [mE_q (M := wr M a i.toNatClampNeg (some v)) hs ht5]
    exact congrArg (fun f => Sum.inl (g.2.2.2 t, n, Sum.inr (Sum.inr (Sum.inr (Sum.inr f))))) (mu_upq (gB g) (mr M) a i.toNatClampNeg (some v))
  have h3 := mW_set (g := g) (M := M) (M' := wr M a i.toNatClampNeg (some v)) ha rfl h2 (fun b hb => mE_wr hb)
  obtain ⟨r', hr', cellV, g1, g2, g3, -⟩ := hP v _ h1v
  have hcls := (hK.1 ci rc hc).2
  obtain ⟨kA, comp, k1, k2, k3, -⟩ := (hK.2 t0 _ htt).2
  have hcomp : comp = g.2.2.1.1 ci := Option.some.inj (k3.symm.trans hcls.1)
  subst hcomp
  obtain ⟨kC, hkC, -⟩ := hcls.2
  refine W.aast C.1 C.2.1 (hP a _ h1) (fun q h => by cases h) (fun h => by cases h) k1 k2 rfl hkC ⟨h0, by show _ < (arrV _ _ _).slots.size; rw [arrV_size]; exact hlt⟩ g1 (fun q h => by rw [g3] at h; cases h) (by rw [g2]; exact hkC) (by rw [g2]; exact va_assign hcls) rfl rfl hd fun H1 e1 z oq => ?_
  have hP1 := va_P.set hP (mD g M) h1 (e := .inl (g.2.2.2 t, n, .inr (.inr (.inr (.inr (va_up (fun j => mo (gB g) (mr M a j)) i.toNatClampNeg (some (gB g + v)))))))) (by
    show H1[gB g + a]? = some (vp_cell _ _)
    rw [e1]
    rw [vp_cell_q, vp_cell_q, arrV_store]
    congr 2
    funext q
    by_cases hq : q = i.toNatClampNeg
    · subst hq
      simp [updV, va_up, va_rf]
    · simp [updV, va_up, hq]) oq
  rw [h3] at hP1
  exact k p e s m args below meth c H1 _ ls C hP1 (hS.put z oq (Nat.le_add_right _ _)) (z.trans hz) hl
/-- one cell more -/
theorem mW_new {g : GG} {M : MM} {sh : Nat × Nat} {H H1 : Heap} {e : va_E} (hP : gV g M H) (hz : H.size = gB g + mn M) (he : mE (gB g) g.2.2.2 (mw M sh) (mn M) = e) (hat : va_at g.2.2.1 vwCl (gB g + mn M, e) H1) (o1 : ∀ q, q < H.size → H1[q]? = H[q]?) : gV g (mw M sh) H1 := by
  intro k q hk
  obtain ⟨h1, rfl⟩ := mW_of hk
  have h1 : k < mn M + 1 := h1
  by_cases hk2 : k = mn M
  · subst hk2
    rw [he]
    exact hat
  · have hlt : k < mn M := by omega
    have e1 : mE (gB g) g.2.2.2 (mw M sh) k = mE (gB g) g.2.2.2 M k := mE_same (if_neg hk2) (fun _ => if_neg hk2) (fun _ => if_neg hk2) (fun _ => if_neg hk2)
    rw [e1]
    exact (hP k _ (mW_at g M hlt)).kept (o1 _ (by show gB g + k < H.size; rw [hz]; omega))
theorem mw_S {g : GG} {H0 H H1 : Heap} {locs : List Loc} (hS : va_S (gA g) H0 H locs) (z1 : H1.size = H.size + 1) (o1 : ∀ q, q < H.size → H1[q]? = H[q]?) : va_S (gA g) H0 H1 locs :=
  ⟨Nat.le_trans hS.1 (by omega), fun x h1 h2 => (o1 x (Nat.lt_of_lt_of_le h1 hS.1)).trans (hS.2.1 x h1 h2), hS.2.2⟩
theorem x_newarray {t : Nat} {n : Int32} {N : Nat} {atype : ArrayType} (ht : (t = 1 ∧ newarray.typeOf atype = .int) ∨ (t = 2 ∧ newarray.typeOf atype = .long) ∨ (t = 3 ∧ newarray.typeOf atype = .boolean) ∨ (t = 4 ∧ newarray.typeOf atype = .char)) (hd : decode (yC Y) pc = .ok (.newarray atype, 2)) (hw : Cond.arrayClass (newarray.typeOf atype) ∈ gw) (hn : ¬ n < 0) (hN : n.toNatClampNeg = N) (hN2 : N ≤ 4000) (hc : ce + 1 ≤ mc) (hsl : sl + N ≤ ms) (k : EX g Y d mc ms (ce + 1) (sl + N) (pc + 2) lv (.ref (mn M) :: st) (mw M (t, N)) P) : EX g Y d mc ms ce sl pc lv (.int n :: st) M P := by
  intro p e s m args below meth c H locs ls C hP hS hz hl
  have hK := C.2.2.2.2.2.2.2.2.1
  have hby : N * componentBytes (newarray.typeOf atype) ≤ 536870912 := by
    rcases ht with ⟨-, h⟩ | ⟨-, h⟩ | ⟨-, h⟩ | ⟨-, h⟩ <;> rw [h] <;> simp [componentBytes] <;> omega
  refine va_newaK C.1 C.2.1 (C.2.2.2.2.1 _ hw) rfl hd rfl hn hN hby hc hsl hz fun H1 cA e1 z1 o1 hAr hNm => ?_
  have o1' : ∀ q, q < H.size → H1[q]? = H[q]? := fun q h => o1 q (by rw [← hz]; exact h)
  have hcA : cA = g.2.2.2 t := by
    rcases ht with ⟨rfl, h⟩ | ⟨rfl, h⟩ | ⟨rfl, h⟩ | ⟨rfl, h⟩ <;> rw [h] at hNm
    · exact Option.some.inj (hNm.symm.trans (hK.2 0 _ rfl).2)
    · exact Option.some.inj (hNm.symm.trans (hK.2 1 _ rfl).2)
    · exact Option.some.inj (hNm.symm.trans (hK.2 2 _ rfl).2)
    · exact Option.some.inj (hNm.symm.trans (hK.2 3 _ rfl).2)
  subst hcA
  have hh : mh (mw M (t, N)) (mn M) = (t, N) := if_pos rfl
  have ei : mi (mw M (t, N)) (mn M) = fun _ => 0 := funext fun _ => if_pos rfl
  have ej : mj (mw M (t, N)) (mn M) = fun _ => 0 := funext fun _ => if_pos rfl
  have hP1 : gV g (mw M (t, N)) H1 := by
    refine mW_new hP hz rfl ?_ o1'
    rcases ht with ⟨rfl, h⟩ | ⟨rfl, h⟩ | ⟨rfl, h⟩ | ⟨rfl, h⟩ <;> rw [h] at e1
    · rw [mE_i hh, ei]; exact e1
    · rw [mE_j hh, ej]; exact e1
    · rw [mE_z hh, ei]; exact e1
    · rw [mE_c hh, ei]; exact e1
  exact k p e s m args below meth c H1 locs ls C hP1 (mw_S hS (by rw [z1, hz]) o1') (by rw [z1]; rfl) hl
theorem x_anew {t idx : Nat} {n : Int32} {N : Nat} {CN : String} (ht : (t = 5 ∧ CN = RX3) ∨ (t = 6 ∧ CN = RX10)) (hd : decode (yC Y) pc = .ok (.anewarray idx, 3)) (hcl : Cond.classLink (yN Y).cls idx CN ∈ gw) (hov : Cond.arrayOver (.object CN) ∈ gw) (hn : ¬ n < 0) (hN : n.toNatClampNeg = N) (hN2 : N ≤ 4000) (hc : ce + 1 ≤ mc) (hsl : sl + N ≤ ms) (k : EX g Y d mc ms (ce + 1) (sl + N) (pc + 3) lv (.ref (mn M) :: st) (mw M (t, N)) P) : EX g Y d mc ms ce sl pc lv (.int n :: st) M P := by
  intro p e s m args below meth c H locs ls C hP hS hz hl
  have hK := C.2.2.2.2.2.2.2.2.1
  subst hN
  refine W.anew C.1 C.2.1 C.2.2.2.1 (C.2.2.2.2.1 _ hcl) (C.2.2.2.2.1 _ hov) rfl hd rfl hn (by omega) hc hsl fun cA kA comp f1 f2 f3 f4 => ?_
  generalize hH1 : H.push ({ cls := cA, slots := Array.replicate n.toNatClampNeg .null, vm := .none } : Cell) = H1
  have z1 : H1.size = H.size + 1 := by rw [← hH1, Array.size_push]
  have e1 : H1[H.size]? = some (arrV cA n.toNatClampNeg (fun _ => .null)) := by rw [← hH1, Array.getElem?_push_size, ← arrV_new]
  have o1 : ∀ q : Nat, q < H.size → H1[q]? = H[q]? := fun q hq => by rw [← hH1, Array.getElem?_push, if_neg (Nat.ne_of_lt hq)]
  have hcA : cA = g.2.2.2 t := by
    rcases ht with ⟨rfl, rfl⟩ | ⟨rfl, rfl⟩
    · obtain ⟨_, _, _, _, _, h⟩ := (hK.2 4 _ rfl).2
      exact Option.some.inj (f1.symm.trans h)
    · obtain ⟨_, _, _, _, _, h⟩ := (hK.2 5 _ rfl).2
      exact Option.some.inj (f1.symm.trans h)
  subst hcA
  have ht5 : 5 ≤ t := by rcases ht with ⟨rfl, -⟩ | ⟨rfl, -⟩ <;> decide
  have hh : mh (mw M (t, n.toNatClampNeg)) (mn M) = (t, n.toNatClampNeg) := if_pos rfl
  have er : (fun k => mo (gB g) (mr (mw M (t, n.toNatClampNeg)) (mn M) k)) = fun _ => none := funext fun _ => congrArg (mo (gB g)) (if_pos rfl)
  have hP1 : gV g (mw M (t, n.toNatClampNeg)) H1 := by
    refine mW_new hP hz rfl ?_ o1
    rw [mE_q hh ht5, er, ← hz]
    show H1[H.size]? = some (vp_cell _ _)
    rw [vp_cell_q]
    exact e1
  have kk := k p e s m args below meth c H1 locs ls C hP1 (mw_S hS z1 o1) (by rw [z1, hz]; rfl) hl
  rw [hz]
  exact kk
end EXH
end
section
/-! ===== new objects, calls, returns over EX ===== -/
/-- a class that can be made here -/
def CN (own : String) (idx ci : Nat) : Prop :=
  ∃ (C : String) (T : u_T), vwCl[ci]? = some (C, T, mN ci) ∧ (∀ w ∈ u_ws C T (mN ci), w ∈ gw) ∧ (∀ j, j < mN ci → parseFieldDescriptor (T j).2.2.1 = some (mty ci j)) ∧ (∀ j, j < mN ci → mk ci j < 3) ∧ Cond.classLink own idx C ∈ gw ∧ Cond.instantiable C (mN ci) ∈ gw ∧ Cond.initialized C ∈ gw
/-- what each call of a method needs -/
def CB (Y : YY) : Prop := Cond.initialized (yN Y).cls ∈ gw ∧ yK Y ∈ gw ∧ ((yN Y).cls ≠ "java/lang/invoke/MethodHandle" ∧ (yN Y).cls ≠ "java/lang/invoke/VarHandle" ∧ (parseMethodDescriptor (yN Y).desc).map (fun d => d.parameters.length) = some (yA Y)) ∧ yL Y ≤ 21
def CV (own : String) (idx : Nat) (Y : YY) : Prop := CB Y ∧ Cond.methodLink own idx (yN Y) ∈ gw ∧ Cond.instanceMethod (yN Y) ∈ gw ∧ Cond.selects (yN Y).cls (yN Y) (yN Y) ∈ gw
def CS (own : String) (idx : Nat) (Y : YY) : Prop := CB Y ∧ Cond.methodLink own idx (yN Y) ∈ gw ∧ Cond.static (yN Y) ∈ gw
def CI (own : String) (idx : Nat) (Y : YY) : Prop := CB Y ∧ Cond.methodLink own idx (yN Y) ∈ gw ∧ Cond.instanceMethod (yN Y) ∈ gw ∧ (yN Y).name = "<init>" ∧ yR Y = none
def CIN (own : String) (idx : Nat) (Y : YY) : Prop := CB Y ∧ Cond.methodLinkNest own idx (yN Y) RX11 ∈ gw ∧ Cond.instanceMethod (yN Y) ∈ gw ∧ (yN Y).name = "<init>" ∧ yR Y = none
section EXC
variable {g : GG} {Y Z : YY} {d mc ms ce sl pc : Nat} {lv : List (Nat × Value)} {st : List Value} {M : MM} {P P1 : Option Value → MM → Prop}
theorem x_new {idx ci N : Nat} (hN : N = mN ci) (F : CN (yN Y).cls idx ci) (hd : decode (yC Y) pc = .ok (.new idx, 3)) (hc : ce + 1 ≤ mc) (hsl : sl + N ≤ ms) (k : EX g Y d mc ms (ce + 1) (sl + N) (pc + 3) lv (.ref (mn M) :: st) (mw M (0, ci)) P) : EX g Y d mc ms ce sl pc lv st M P := by
  intro p e s m args below meth c H locs ls C hP hS hz hl
  have hK := C.2.2.2.2.2.2.2.2.1
  have hts := C.2.2.2.2.1
  subst hN
  obtain ⟨CNm, T, hcl, hin, hty, hkd, w1, w2, w3⟩ := F
  have hKn := hK.1 ci _ hcl
  refine W.newcK C.1 C.2.1 C.2.2.2.1 (hts _ w1) (hts _ w2) (hts _ w3) rfl hd hc hsl hKn.2.1 hz fun H1 kC hkC e1 z1 o1 => ?_
  have o1' : ∀ q, q < H.size → H1[q]? = H[q]? := fun q h => o1 q (by rw [← hz]; exact h)
  have hh : mh (mw M (0, ci)) (mn M) = (0, ci) := if_pos rfl
  have hP1 : gV g (mw M (0, ci)) H1 := by
    refine mW_new hP hz (mE_ob hh) ⟨_, hcl, (u_born (mty ci) hts hin hKn hkC e1 hty).to (fun j hj => ?_)⟩ o1'
    unfold vp_V
    rw [List.getD_eq_getElem?_getD, mF_at hj]
    have h3 := hkd j hj
    have ei : mi (mw M (0, ci)) (mn M) j = 0 := if_pos rfl
    have ej : mj (mw M (0, ci)) (mn M) j = 0 := if_pos rfl
    have er : mr (mw M (0, ci)) (mn M) j = none := if_pos rfl
    unfold mfv
    rw [ei, ej, er]
    unfold mk at h3 ⊢
    generalize mty ci j = t at h3 ⊢
    cases t <;> first | rfl | (exfalso; revert h3; decide)
  exact k p e s m args below meth c H1 locs ls C hP1 (mw_S hS (by rw [z1, hz]) o1') (by rw [z1]; rfl) hl
theorem x_objInit {idx a : Nat} (hd : decode (yC Y) pc = .ok (.invokespecial idx, 3)) (w1 : Cond.methodLink (yN Y).cls idx objectInit ∈ gw) (w2 : Cond.instanceMethod objectInit ∈ gw) (w3 : Cond.code objectInit ⟨#[0xb1]⟩ 1 none ∈ gw) (hdd : 1 ≤ d) (hw : (st.map fun v => v.category).sum ≤ 8) (k : EX g Y d mc ms ce sl (pc + 3) lv st M P) : EX g Y d mc ms ce sl pc lv (.ref a :: st) M P := by
  intro p e s m args below meth c H locs ls C hP hS hz hl
  have hts := C.2.2.2.2.1
  have hsum : ((xst g st).map fun v => v.category).sum = (st.map fun v => v.category).sum := by
    rw [List.map_map]; congr 1; exact List.map_congr_left (fun v _ => xv_cat _ v)
  refine W.objInit C.1 C.2.1 C.2.2.2.1 (hts _ w1) (hts _ w2) (hts _ w3) rfl (hl.1.trans C.2.2.1.symm) rfl hd hdd ?_ (k p e s m args below meth c H locs ls C hP hS hz hl)
  show 2 * 0 + ((xst g st).map fun v => v.category).sum + 12 ≤ 40 * d
  rw [hsum]; omega
/-- behind a call -/
theorem x_after {mc1 ms1 : Nat} {st0 : List Value} {a : Array Value} (k : ∀ rv M1, P1 rv M1 → EX g Y d mc ms (ce + mc1) (sl + ms1) (pc + 3) lv (rv.toList ++ st) M1 P) {p : Program} {e : Env} {s : State} {m : MethodId} {args : Array Value} {below : List Frame} {meth : Method} {c : Code} {H : Heap} {locs : List Loc} {ls : Array Slot}
    (C : xC g Y p s m args meth c) (hS : va_S (gA g) s.heap H locs) (hl : lv_has ls (yL Y) (xlv g lv)) (hr : va_Run p g.1 e (xR d mc ms) s m args below meth c H locs ce sl mc1 ms1 (F0 m pc ls st0) (xst g st) (xQ g P1 a) (gA g)) :
    W p g.1 e (xR d mc ms) s m args below meth c H locs ce sl (MQ below (xQ g P) args s mc ms (gA g)) (F0 m pc ls st0) := by
  intro T hT X
  obtain ⟨v, st₀, t, T', L, h0, X', hL, e1, e2, ⟨⟨rv, M1, hv, hp, hV, hsz⟩, hz2, hk⟩, stp⟩ := hr T hT X
  have hv : v = rv.map (xv (gB g)) := by
    have := hv
    simpa using this
  rw [h0] at hz2 hk
  have hA : ∀ q : Nat, q < s.heap.size → ¬ gA g q → T'.heap[q]? = s.heap[q]? := fun q h1 h2 => by
    rw [e1, hk q (Nat.lt_of_lt_of_le h1 hS.1) h2]; exact hS.2.1 q h1 h2
  have kk := k rv M1 hp p e s m args below meth c T'.heap (locs ++ L) ls C (by rw [e1]; exact hV) ⟨Nat.le_trans hS.1 (by rw [e1]; exact hz2), hA, fun q hq => by
      rcases List.mem_append.mp hq with h | h
      · exact hS.2.2 q h
      · exact hL q h⟩ (by rw [e1]; exact hsz) hl T' rfl X'
  obtain ⟨t2, a1, b1⟩ := kk
  refine ⟨t2, stp t2 ?_, b1⟩
  have e3 : xst g (rv.toList ++ st) = v.toList ++ xst g st := by
    rw [hv]
    cases rv <;> simp
  rw [← e3]
  exact a1
theorem x_pre {av : List Value} {s : State} {H : Heap} (hK : gK g s) (hP : gV g M H) (hz : H.size = gB g + mn M) : PreS s H (va_Pc (xst g av) (fun U => U.heap.size = gB g + mn M ∧ gV g M U.heap ∧ gK g U)) (xst g av) := by
  refine ⟨fun a U f mk q => ?_, fun U hU hW => ⟨rfl, by rw [hU]; exact hz, by rw [hU]; exact hP, va_K.moved hW.alike hK⟩⟩
  obtain ⟨q0, q1, q2, q3⟩ := q
  exact ⟨q0, q1, q2, va_K.moved (u := U) (U := U.calling f mk a) (Vm.Alike.refl U.vm) q3⟩
theorem x_room {d1 d L : Nat} (hdd : d1 + 1 ≤ d) (hL : L ≤ 21) : 8 + (L + 11) + 40 * d1 ≤ 40 * d := by omega
theorem x_cb {own : String} {idx d1 mc1 ms1 : Nat} {s : State} {args : Array Value} (hb : CB Z) (hts : ∀ w ∈ gw, w.before args s = true) (hl : Cond.methodLink own idx (yN Z) ∈ gw) (hdd : d1 + 1 ≤ d) : CallB (xR d mc ms) s args own idx (yN Z) (yC Z) (yL Z) (yR Z) (yK Z :: gw) (xR d1 mc1 ms1) mc1 ms1 (yA Z) :=
  callB_of (Ts := gw) (ws' := gw) (yA Z) hts (gw_GoodIn hb.2.1) rfl rfl rfl (hts _ hb.1) (hts _ hl) hb.2.2.1 ⟨hdd, x_room hdd hb.2.2.2⟩
theorem x_sum (g : GG) (st : List Value) : ((xst g st).map fun v => v.category).sum = (st.map fun v => v.category).sum := by
  rw [List.map_map]; congr 1; exact List.map_congr_left (fun v _ => xv_cat _ v)
theorem x_callV {idx b ci d1 mc1 ms1 : Nat} {As st0 : List Value} (Z : YY) (F : CV (yN Y).cls idx Z) (hd : decode (yC Y) pc = .ok (.invokevirtual idx, 3)) (hst : st0 = As.reverse ++ .ref b :: st) (hn : As.length = yA Z) (hb : b < mn M) (hs : mh M b = (0, ci)) (hci : vwCl[ci]?.map (fun r => r.1) = some (yN Z).cls) (hdd : d1 + 1 ≤ d) (hce : ce + mc1 ≤ mc) (hsl : sl + ms1 ≤ ms) (hw : (st.map fun v => v.category).sum ≤ 8)
    (hR : RT g Z d1 mc1 ms1 (.ref b :: As) M P1) (k : ∀ rv M1, P1 rv M1 → EX g Y d mc ms (ce + mc1) (sl + ms1) (pc + 3) lv (rv.toList ++ st) M1 P) : EX g Y d mc ms ce sl pc lv st0 M P := by
  intro p e s m args below meth c H locs ls C hP hS hz hl
  have hK := C.2.2.2.2.2.2.2.2.1
  have hts := C.2.2.2.2.1
  obtain ⟨hb1, w1, w2, w3⟩ := F
  subst hst
  have hpre := x_pre (av := .ref b :: As) hK hP hz
  have he := mW_at g M hb
  rw [mE_ob hs] at he
  obtain ⟨r, hr⟩ : ∃ r, vwCl[ci]? = some r := by
    cases h : vwCl[ci]? with
    | none => rw [h] at hci; cases hci
    | some r => exact ⟨r, rfl⟩
  rw [hr] at hci
  have hrn : r.1 = (yN Z).cls := Option.some.inj hci
  have hrecv := va_recv hK hP hr he
  rw [hrn] at hrecv
  refine x_after k C hS hl (va_runV (As := xst g As) (b := gB g + b) (nL := yL Y) (Ts := gw) ⟨C.1, C.2.1, C.2.2.1, C.2.2.2.1, hts⟩ hR ⟨x_cb hb1 hts w1 hdd, hts _ w2, hts _ w3⟩ ⟨hpre.1, hrecv, hpre.2⟩ rfl (by rw [List.length_map]; exact hn) hl.1 ?_ ?_ hd ⟨hce, hsl⟩)
  · show xst g (As.reverse ++ .ref b :: st) = _
    simp [xst, xv]
  · show 2 * 0 + _ ≤ 8
    rw [x_sum]; omega
theorem x_callS {idx d1 mc1 ms1 : Nat} {As st0 : List Value} (Z : YY) (F : CS (yN Y).cls idx Z) (hd : decode (yC Y) pc = .ok (.invokestatic idx, 3)) (hst : st0 = As.reverse ++ st) (hn : As.length = yA Z) (hdd : d1 + 1 ≤ d) (hce : ce + mc1 ≤ mc) (hsl : sl + ms1 ≤ ms) (hw : (st.map fun v => v.category).sum ≤ 8)
    (hR : RT g Z d1 mc1 ms1 As M P1) (k : ∀ rv M1, P1 rv M1 → EX g Y d mc ms (ce + mc1) (sl + ms1) (pc + 3) lv (rv.toList ++ st) M1 P) : EX g Y d mc ms ce sl pc lv st0 M P := by
  intro p e s m args below meth c H locs ls C hP hS hz hl
  have hK := C.2.2.2.2.2.2.2.2.1
  have hts := C.2.2.2.2.1
  obtain ⟨hb1, w1, w2⟩ := F
  subst hst
  have hpre := x_pre (av := As) hK hP hz
  refine x_after k C hS hl (va_runS (As := xst g As) (nL := yL Y) (Ts := gw) ⟨C.1, C.2.1, C.2.2.1, C.2.2.2.1, hts⟩ hR ⟨x_cb hb1 hts w1 hdd, hts _ w2⟩ hpre rfl (by rw [List.length_map]; exact hn) hl.1 ?_ ?_ hd ⟨hce, hsl⟩)
  · show xst g (As.reverse ++ st) = _
    simp [xst]
  · show 2 * 0 + _ ≤ 8
    rw [x_sum]; omega
theorem x_callI {idx b d1 mc1 ms1 : Nat} {As st0 : List Value} (Z : YY) (F : CI (yN Y).cls idx Z) (hd : decode (yC Y) pc = .ok (.invokespecial idx, 3)) (hst : st0 = As.reverse ++ .ref b :: st) (hn : As.length = yA Z) (hdd : d1 + 1 ≤ d) (hce : ce + mc1 ≤ mc) (hsl : sl + ms1 ≤ ms) (hw : (st.map fun v => v.category).sum ≤ 8)
    (hR : RT g Z d1 mc1 ms1 (.ref b :: As) M P1) (k : ∀ rv M1, P1 rv M1 → EX g Y d mc ms (ce + mc1) (sl + ms1) (pc + 3) lv (rv.toList ++ st) M1 P) : EX g Y d mc ms ce sl pc lv st0 M P := by
  intro p e s m args below meth c H locs ls C hP hS hz hl
  have hK := C.2.2.2.2.2.2.2.2.1
  have hts := C.2.2.2.2.1
  obtain ⟨hb1, w1, w2, hnm, hret⟩ := F
  subst hst
  have hpre := x_pre (av := .ref b :: As) hK hP hz
  have hcb := x_cb (d := d) (mc := mc) (ms := ms) (d1 := d1) (mc1 := mc1) (ms1 := ms1) hb1 hts w1 hdd
  rw [hret] at hcb
  refine x_after k C hS hl (va_runI (As := xst g As) (b := gB g + b) (nL := yL Y) (Ts := gw) ⟨C.1, C.2.1, C.2.2.1, C.2.2.2.1, hts⟩ hR ⟨hcb, hnm, hts _ w2⟩ hpre rfl (by rw [List.length_map]; exact hn) hl.1 ?_ ?_ hd ⟨hce, hsl⟩)
  · show xst g (As.reverse ++ .ref b :: st) = _
    simp [xst, xv]
  · show 2 * 0 + _ ≤ 8
    rw [x_sum]; omega
theorem x_callIN {idx b d1 mc1 ms1 : Nat} {As st0 : List Value} (Z : YY) (F : CIN (yN Y).cls idx Z) (hd : decode (yC Y) pc = .ok (.invokespecial idx, 3)) (hst : st0 = As.reverse ++ .ref b :: st) (hn : As.length = yA Z) (hdd : d1 + 1 ≤ d) (hce : ce + mc1 ≤ mc) (hsl : sl + ms1 ≤ ms) (hw : (st.map fun v => v.category).sum ≤ 8)
    (hR : RT g Z d1 mc1 ms1 (.ref b :: As) M P1) (k : ∀ rv M1, P1 rv M1 → EX g Y d mc ms (ce + mc1) (sl + ms1) (pc + 3) lv (rv.toList ++ st) M1 P) : EX g Y d mc ms ce sl pc lv st0 M P := by
  intro p e s m args below meth c H locs ls C hP hS hz hl
  have hK := C.2.2.2.2.2.2.2.2.1
  have hts := C.2.2.2.2.1
  obtain ⟨hb1, w1, w2, hnm, hret⟩ := F
  subst hst
  have hpre := x_pre (av := .ref b :: As) hK hP hz
  have hcn := va_cnB (R := xR d mc ms) (args := args) (own := (yN Y).cls) (host := RX11) (index := idx) (bytes := yC Z) (maxL := yL Z) (ret := yR Z) (Ts := gw) (ws' := gw) (rm := xR d1 mc1 ms1) (mc := mc1) (ms := ms1) (yA Z) hts (gw_GoodIn hb1.2.1) rfl rfl rfl (va_Nw.of rfl (hts _ w1)) (hts _ hb1.1) hb1.2.2.1 ⟨hdd, x_room hdd hb1.2.2.2⟩
  rw [hret] at hcn
  refine x_after k C hS hl (va_runIN (As := xst g As) (b := gB g + b) (nL := yL Y) (Ts := gw) ⟨C.1, C.2.1, C.2.2.1, C.2.2.2.1, hts⟩ hR ⟨hcn, hnm, hts _ w2⟩ hpre rfl (by rw [List.length_map]; exact hn) hl.1 ?_ ?_ hd ⟨hce, hsl⟩)
  · show xst g (As.reverse ++ .ref b :: st) = _
    simp [xst, xv]
  · show 2 * 0 + _ ≤ 8
    rw [x_sum]; omega
/-- returns -/
theorem x_iret {v : Int32} (hr : yR Y = some .int) (hd : decode (yC Y) pc = .ok (.ireturn, 1)) (hc : ce ≤ mc) (hsl : sl ≤ ms) (hp : P (some (.int v)) M) : EX g Y d mc ms ce sl pc lv [.int v] M P := by
  intro p e s m args below meth c H locs ls C hP hS hz hl
  refine W.widen hc hsl (W.iret C.1 C.2.1 (C.2.2.2.2.2.1.trans hr) (fun t ht hW => ?_) hS.2.2 hd C.2.2.2.2.2.2.1)
  exact ⟨⟨some (.int v), M, rfl, hp, by rw [ht]; exact hP, by rw [ht]; exact hz⟩, hS.F ht⟩
theorem x_zret {v : Int32} (hr : yR Y = some .boolean) (hd : decode (yC Y) pc = .ok (.ireturn, 1)) (hn : v &&& 1 = v) (hc : ce ≤ mc) (hsl : sl ≤ ms) (hp : P (some (.int v)) M) : EX g Y d mc ms ce sl pc lv [.int v] M P := by
  intro p e s m args below meth c H locs ls C hP hS hz hl
  refine W.widen hc hsl (W.zret C.1 C.2.1 (C.2.2.2.2.2.1.trans hr) (congrArg Value.int hn) (fun t ht hW => ?_) hS.2.2 hd C.2.2.2.2.2.2.1)
  exact ⟨⟨some (.int v), M, rfl, hp, by rw [ht]; exact hP, by rw [ht]; exact hz⟩, hS.F ht⟩
theorem x_vret (hr : yR Y = none) (hd : decode (yC Y) pc = .ok (.return_, 1)) (hc : ce ≤ mc) (hsl : sl ≤ ms) (hp : P none M) : EX g Y d mc ms ce sl pc lv [] M P := by
  intro p e s m args below meth c H locs ls C hP hS hz hl
  refine W.widen hc hsl (W.vret C.1 C.2.1 (C.2.2.2.2.2.1.trans hr) (fun t ht hW => ?_) hS.2.2 hd C.2.2.2.2.2.2.1)
  exact ⟨⟨none, M, rfl, hp, by rw [ht]; exact hP, by rw [ht]; exact hz⟩, hS.F ht⟩
/-- Math.max, Math.min -/
theorem x_max {idx : Nat} {x y : Int32} (hd : decode (yC Y) pc = .ok (.invokestatic idx, 3)) (w1 : Cond.methodLink (yN Y).cls idx Lib.Math.max.name ∈ gw) (w2 : Cond.static Lib.Math.max.name ∈ gw) (w3 : Cond.initialized "java/lang/Math" ∈ gw) (w4 : Cond.code Lib.Math.max.name Lib.Math.max.code 2 (some .int) ∈ gw) (hdd : 1 ≤ d) (hc : ce ≤ mc) (hsl : sl ≤ ms) (hw : (st.map fun v => v.category).sum ≤ 8) (k : EX g Y d mc ms ce sl (pc + 3) lv (.int (if x < y then y else x) :: st) M P) : EX g Y d mc ms ce sl pc lv (.int y :: .int x :: st) M P := by
  intro p e s m args below meth c H locs ls C hP hS hz hl
  have hts := C.2.2.2.2.1
  refine va_mmax C.1 C.2.1 (C.2.2.1.trans hl.1.symm) C.2.2.2.1 (hts _ w1) (hts _ w2) (hts _ w3) (hts _ w4) hdd ?_ hc hsl hd (k p e s m args below meth c H locs ls C hP hS hz hl)
  rw [x_sum]; show _ ≤ 40 * d; omega
theorem x_min {idx : Nat} {x y : Int32} (hd : decode (yC Y) pc = .ok (.invokestatic idx, 3)) (w1 : Cond.methodLink (yN Y).cls idx Lib.Math.min.name ∈ gw) (w2 : Cond.static Lib.Math.min.name ∈ gw) (w3 : Cond.initialized "java/lang/Math" ∈ gw) (w4 : Cond.code Lib.Math.min.name Lib.Math.min.code 2 (some .int) ∈ gw) (hdd : 1 ≤ d) (hc : ce ≤ mc) (hsl : sl ≤ ms) (hw : (st.map fun v => v.category).sum ≤ 8) (k : EX g Y d mc ms ce sl (pc + 3) lv (.int (if y < x then y else x) :: st) M P) : EX g Y d mc ms ce sl pc lv (.int y :: .int x :: st) M P := by
  intro p e s m args below meth c H locs ls C hP hS hz hl
  have hts := C.2.2.2.2.1
  refine va_mmin C.1 C.2.1 (C.2.2.1.trans hl.1.symm) C.2.2.2.1 (hts _ w1) (hts _ w2) (hts _ w3) (hts _ w4) hdd ?_ hc hsl hd (k p e s m args below meth c H locs ls C hP hS hz hl)
  rw [x_sum]; show _ ≤ 40 * d; omega
theorem RT.to {d mc ms : Nat} {av : List Value} (h : RT g Y d mc ms av M P1) (hp : ∀ rv M', P1 rv M' → P rv M') : RT g Y d mc ms av M P := by
  intro p e ha hc hk s m args below h1 h2 h3 h4
  obtain ⟨k, o, a1, a2, a3, ⟨⟨rv, M', e1, e2, e3⟩, e4⟩, a5⟩ := h p e ha hc hk s m args below h1 h2 h3 h4
  exact ⟨k, o, a1, a2, a3, ⟨⟨rv, M', e1, hp _ _ e2, e3⟩, e4⟩, a5⟩
end EXC
end
