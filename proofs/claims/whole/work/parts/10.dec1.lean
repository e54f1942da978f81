/-! decode rows, printed with the claim -/
theorem dX0_init_0 : decode cX0_init 0 = .ok (.aload_n 0, 1) := by decide +kernel
theorem dX0_init_1 : decode cX0_init 1 = .ok (.invokespecial 3, 3) := by decide +kernel
theorem dX0_init_4 : decode cX0_init 4 = .ok (.aload_n 0, 1) := by decide +kernel
theorem dX0_init_5 : decode cX0_init 5 = .ok (.bipush 10, 2) := by decide +kernel
theorem dX0_init_7 : decode cX0_init 7 = .ok (.newarray .long, 2) := by decide +kernel
theorem dX0_init_9 : decode cX0_init 9 = .ok (.putfield 9, 3) := by decide +kernel
theorem dX0_init_12 : decode cX0_init 12 = .ok (.aload_n 0, 1) := by decide +kernel
theorem dX0_init_13 : decode cX0_init 13 = .ok (.bipush 10, 2) := by decide +kernel
theorem dX0_init_15 : decode cX0_init 15 = .ok (.newarray .int, 2) := by decide +kernel
theorem dX0_init_17 : decode cX0_init 17 = .ok (.putfield 15, 3) := by decide +kernel
theorem dX0_init_20 : decode cX0_init 20 = .ok (.aload_n 0, 1) := by decide +kernel
theorem dX0_init_21 : decode cX0_init 21 = .ok (.bipush 10, 2) := by decide +kernel
theorem dX0_init_23 : decode cX0_init 23 = .ok (.newarray .int, 2) := by decide +kernel
theorem dX0_init_25 : decode cX0_init 25 = .ok (.putfield 19, 3) := by decide +kernel
theorem dX0_init_28 : decode cX0_init 28 = .ok (.aload_n 0, 1) := by decide +kernel
theorem dX0_init_29 : decode cX0_init 29 = .ok (.bipush 10, 2) := by decide +kernel
theorem dX0_init_31 : decode cX0_init 31 = .ok (.newarray .int, 2) := by decide +kernel
theorem dX0_init_33 : decode cX0_init 33 = .ok (.putfield 22, 3) := by decide +kernel
theorem dX0_init_36 : decode cX0_init 36 = .ok (.aload_n 0, 1) := by decide +kernel
theorem dX0_init_37 : decode cX0_init 37 = .ok (.bipush 6, 2) := by decide +kernel
theorem dX0_init_39 : decode cX0_init 39 = .ok (.newarray .long, 2) := by decide +kernel
theorem dX0_init_41 : decode cX0_init 41 = .ok (.putfield 25, 3) := by decide +kernel
theorem dX0_init_44 : decode cX0_init 44 = .ok (.aload_n 0, 1) := by decide +kernel
theorem dX0_init_45 : decode cX0_init 45 = .ok (.bipush 6, 2) := by decide +kernel
theorem dX0_init_47 : decode cX0_init 47 = .ok (.newarray .int, 2) := by decide +kernel
theorem dX0_init_49 : decode cX0_init 49 = .ok (.putfield 28, 3) := by decide +kernel
theorem dX0_init_52 : decode cX0_init 52 = .ok (.aload_n 0, 1) := by decide +kernel
theorem dX0_init_53 : decode cX0_init 53 = .ok (.new 31, 3) := by decide +kernel
theorem dX0_init_56 : decode cX0_init 56 = .ok (.dup, 1) := by decide +kernel
theorem dX0_init_57 : decode cX0_init 57 = .ok (.invokespecial 33, 3) := by decide +kernel
theorem dX0_init_60 : decode cX0_init 60 = .ok (.putfield 34, 3) := by decide +kernel
theorem dX0_init_63 : decode cX0_init 63 = .ok (.aload_n 0, 1) := by decide +kernel
theorem dX0_init_64 : decode cX0_init 64 = .ok (.sipush 600, 3) := by decide +kernel
theorem dX0_init_67 : decode cX0_init 67 = .ok (.newarray .int, 2) := by decide +kernel
theorem dX0_init_69 : decode cX0_init 69 = .ok (.putfield 38, 3) := by decide +kernel
theorem dX0_init_72 : decode cX0_init 72 = .ok (.return_, 1) := by decide +kernel
theorem dX0_clear_0 : decode cX0_clear 0 = .ok (.aload_n 0, 1) := by decide +kernel
theorem dX0_clear_1 : decode cX0_clear 1 = .ok (.iconst 0, 1) := by decide +kernel
theorem dX0_clear_2 : decode cX0_clear 2 = .ok (.putfield 41, 3) := by decide +kernel
theorem dX0_clear_5 : decode cX0_clear 5 = .ok (.aload_n 0, 1) := by decide +kernel
theorem dX0_clear_6 : decode cX0_clear 6 = .ok (.iconst 0, 1) := by decide +kernel
theorem dX0_clear_7 : decode cX0_clear 7 = .ok (.putfield 45, 3) := by decide +kernel
theorem dX0_clear_10 : decode cX0_clear 10 = .ok (.aload_n 0, 1) := by decide +kernel
theorem dX0_clear_11 : decode cX0_clear 11 = .ok (.getfield 34, 3) := by decide +kernel
theorem dX0_clear_14 : decode cX0_clear 14 = .ok (.iconst 0, 1) := by decide +kernel
theorem dX0_clear_15 : decode cX0_clear 15 = .ok (.putfield 48, 3) := by decide +kernel
theorem dX0_clear_18 : decode cX0_clear 18 = .ok (.return_, 1) := by decide +kernel
theorem dX0_addShot_0 : decode cX0_addShot 0 = .ok (.aload_n 0, 1) := by decide +kernel
theorem dX0_addShot_1 : decode cX0_addShot 1 = .ok (.getfield 41, 3) := by decide +kernel
theorem dX0_addShot_4 : decode cX0_addShot 4 = .ok (.bipush 10, 2) := by decide +kernel
theorem dX0_addShot_6 : decode cX0_addShot 6 = .ok (.if_icmp .ge 54, 3) := by decide +kernel
theorem dX0_addShot_9 : decode cX0_addShot 9 = .ok (.aload_n 0, 1) := by decide +kernel
theorem dX0_addShot_10 : decode cX0_addShot 10 = .ok (.getfield 9, 3) := by decide +kernel
theorem dX0_addShot_13 : decode cX0_addShot 13 = .ok (.aload_n 0, 1) := by decide +kernel
theorem dX0_addShot_14 : decode cX0_addShot 14 = .ok (.getfield 41, 3) := by decide +kernel
theorem dX0_addShot_17 : decode cX0_addShot 17 = .ok (.lload_n 1, 1) := by decide +kernel
theorem dX0_addShot_18 : decode cX0_addShot 18 = .ok (.lastore, 1) := by decide +kernel
theorem dX0_addShot_19 : decode cX0_addShot 19 = .ok (.aload_n 0, 1) := by decide +kernel
theorem dX0_addShot_20 : decode cX0_addShot 20 = .ok (.getfield 15, 3) := by decide +kernel
theorem dX0_addShot_23 : decode cX0_addShot 23 = .ok (.aload_n 0, 1) := by decide +kernel
theorem dX0_addShot_24 : decode cX0_addShot 24 = .ok (.getfield 41, 3) := by decide +kernel
theorem dX0_addShot_27 : decode cX0_addShot 27 = .ok (.iload_n 3, 1) := by decide +kernel
theorem dX0_addShot_28 : decode cX0_addShot 28 = .ok (.iastore, 1) := by decide +kernel
theorem dX0_addShot_29 : decode cX0_addShot 29 = .ok (.aload_n 0, 1) := by decide +kernel
theorem dX0_addShot_30 : decode cX0_addShot 30 = .ok (.getfield 19, 3) := by decide +kernel
theorem dX0_addShot_33 : decode cX0_addShot 33 = .ok (.aload_n 0, 1) := by decide +kernel
theorem dX0_addShot_34 : decode cX0_addShot 34 = .ok (.getfield 41, 3) := by decide +kernel
theorem dX0_addShot_37 : decode cX0_addShot 37 = .ok (.iload 4, 2) := by decide +kernel
theorem dX0_addShot_39 : decode cX0_addShot 39 = .ok (.iastore, 1) := by decide +kernel
theorem dX0_addShot_40 : decode cX0_addShot 40 = .ok (.aload_n 0, 1) := by decide +kernel
theorem dX0_addShot_41 : decode cX0_addShot 41 = .ok (.getfield 22, 3) := by decide +kernel
theorem dX0_addShot_44 : decode cX0_addShot 44 = .ok (.aload_n 0, 1) := by decide +kernel
theorem dX0_addShot_45 : decode cX0_addShot 45 = .ok (.getfield 41, 3) := by decide +kernel
theorem dX0_addShot_48 : decode cX0_addShot 48 = .ok (.iconst 0, 1) := by decide +kernel
theorem dX0_addShot_49 : decode cX0_addShot 49 = .ok (.iastore, 1) := by decide +kernel
theorem dX0_addShot_50 : decode cX0_addShot 50 = .ok (.aload_n 0, 1) := by decide +kernel
theorem dX0_addShot_51 : decode cX0_addShot 51 = .ok (.dup, 1) := by decide +kernel
theorem dX0_addShot_52 : decode cX0_addShot 52 = .ok (.getfield 41, 3) := by decide +kernel
theorem dX0_addShot_55 : decode cX0_addShot 55 = .ok (.iconst 1, 1) := by decide +kernel
theorem dX0_addShot_56 : decode cX0_addShot 56 = .ok (.iadd, 1) := by decide +kernel
theorem dX0_addShot_57 : decode cX0_addShot 57 = .ok (.putfield 41, 3) := by decide +kernel
theorem dX0_addShot_60 : decode cX0_addShot 60 = .ok (.return_, 1) := by decide +kernel
theorem dX0_addNeed_0 : decode cX0_addNeed 0 = .ok (.aload_n 0, 1) := by decide +kernel
theorem dX0_addNeed_1 : decode cX0_addNeed 1 = .ok (.iload_n 1, 1) := by decide +kernel
theorem dX0_addNeed_2 : decode cX0_addNeed 2 = .ok (.invokevirtual 51, 3) := by decide +kernel
theorem dX0_addNeed_5 : decode cX0_addNeed 5 = .ok (.ifCond .eq 15, 3) := by decide +kernel
theorem dX0_addNeed_8 : decode cX0_addNeed 8 = .ok (.aload_n 0, 1) := by decide +kernel
theorem dX0_addNeed_9 : decode cX0_addNeed 9 = .ok (.getfield 22, 3) := by decide +kernel
theorem dX0_addNeed_12 : decode cX0_addNeed 12 = .ok (.iload_n 1, 1) := by decide +kernel
theorem dX0_addNeed_13 : decode cX0_addNeed 13 = .ok (.dup2, 1) := by decide +kernel
theorem dX0_addNeed_14 : decode cX0_addNeed 14 = .ok (.iaload, 1) := by decide +kernel
theorem dX0_addNeed_15 : decode cX0_addNeed 15 = .ok (.iconst 1, 1) := by decide +kernel
theorem dX0_addNeed_16 : decode cX0_addNeed 16 = .ok (.iload_n 2, 1) := by decide +kernel
theorem dX0_addNeed_17 : decode cX0_addNeed 17 = .ok (.ishl, 1) := by decide +kernel
theorem dX0_addNeed_18 : decode cX0_addNeed 18 = .ok (.ior, 1) := by decide +kernel
theorem dX0_addNeed_19 : decode cX0_addNeed 19 = .ok (.iastore, 1) := by decide +kernel
theorem dX0_addNeed_20 : decode cX0_addNeed 20 = .ok (.return_, 1) := by decide +kernel
theorem dX0_addHall_0 : decode cX0_addHall 0 = .ok (.aload_n 0, 1) := by decide +kernel
theorem dX0_addHall_1 : decode cX0_addHall 1 = .ok (.getfield 45, 3) := by decide +kernel
theorem dX0_addHall_4 : decode cX0_addHall 4 = .ok (.bipush 6, 2) := by decide +kernel
theorem dX0_addHall_6 : decode cX0_addHall 6 = .ok (.if_icmp .ge 52, 3) := by decide +kernel
theorem dX0_addHall_9 : decode cX0_addHall 9 = .ok (.aload_n 0, 1) := by decide +kernel
theorem dX0_addHall_10 : decode cX0_addHall 10 = .ok (.getfield 25, 3) := by decide +kernel
theorem dX0_addHall_13 : decode cX0_addHall 13 = .ok (.aload_n 0, 1) := by decide +kernel
theorem dX0_addHall_14 : decode cX0_addHall 14 = .ok (.getfield 45, 3) := by decide +kernel
theorem dX0_addHall_17 : decode cX0_addHall 17 = .ok (.lload_n 1, 1) := by decide +kernel
theorem dX0_addHall_18 : decode cX0_addHall 18 = .ok (.lastore, 1) := by decide +kernel
theorem dX0_addHall_19 : decode cX0_addHall 19 = .ok (.aload_n 0, 1) := by decide +kernel
theorem dX0_addHall_20 : decode cX0_addHall 20 = .ok (.getfield 28, 3) := by decide +kernel
theorem dX0_addHall_23 : decode cX0_addHall 23 = .ok (.aload_n 0, 1) := by decide +kernel
theorem dX0_addHall_24 : decode cX0_addHall 24 = .ok (.getfield 45, 3) := by decide +kernel
theorem dX0_addHall_27 : decode cX0_addHall 27 = .ok (.iload_n 3, 1) := by decide +kernel
theorem dX0_addHall_28 : decode cX0_addHall 28 = .ok (.iastore, 1) := by decide +kernel
theorem dX0_addHall_29 : decode cX0_addHall 29 = .ok (.aload_n 0, 1) := by decide +kernel
theorem dX0_addHall_30 : decode cX0_addHall 30 = .ok (.getfield 34, 3) := by decide +kernel
theorem dX0_addHall_33 : decode cX0_addHall 33 = .ok (.getfield 55, 3) := by decide +kernel
theorem dX0_addHall_36 : decode cX0_addHall 36 = .ok (.aload_n 0, 1) := by decide +kernel
theorem dX0_addHall_37 : decode cX0_addHall 37 = .ok (.getfield 45, 3) := by decide +kernel
theorem dX0_addHall_40 : decode cX0_addHall 40 = .ok (.aload_n 0, 1) := by decide +kernel
theorem dX0_addHall_41 : decode cX0_addHall 41 = .ok (.getfield 34, 3) := by decide +kernel
theorem dX0_addHall_44 : decode cX0_addHall 44 = .ok (.getfield 48, 3) := by decide +kernel
theorem dX0_addHall_47 : decode cX0_addHall 47 = .ok (.iastore, 1) := by decide +kernel
theorem dX0_addHall_48 : decode cX0_addHall 48 = .ok (.aload_n 0, 1) := by decide +kernel
theorem dX0_addHall_49 : decode cX0_addHall 49 = .ok (.dup, 1) := by decide +kernel
theorem dX0_addHall_50 : decode cX0_addHall 50 = .ok (.getfield 45, 3) := by decide +kernel
theorem dX0_addHall_53 : decode cX0_addHall 53 = .ok (.iconst 1, 1) := by decide +kernel
theorem dX0_addHall_54 : decode cX0_addHall 54 = .ok (.iadd, 1) := by decide +kernel
theorem dX0_addHall_55 : decode cX0_addHall 55 = .ok (.putfield 45, 3) := by decide +kernel
theorem dX0_addHall_58 : decode cX0_addHall 58 = .ok (.return_, 1) := by decide +kernel
theorem dX0_isShot_0 : decode cX0_isShot 0 = .ok (.iload_n 1, 1) := by decide +kernel
theorem dX0_isShot_1 : decode cX0_isShot 1 = .ok (.ifCond .lt 15, 3) := by decide +kernel
theorem dX0_isShot_4 : decode cX0_isShot 4 = .ok (.iload_n 1, 1) := by decide +kernel
theorem dX0_isShot_5 : decode cX0_isShot 5 = .ok (.aload_n 0, 1) := by decide +kernel
theorem dX0_isShot_6 : decode cX0_isShot 6 = .ok (.getfield 41, 3) := by decide +kernel
theorem dX0_isShot_9 : decode cX0_isShot 9 = .ok (.if_icmp .ge 7, 3) := by decide +kernel
theorem dX0_isShot_12 : decode cX0_isShot 12 = .ok (.iconst 1, 1) := by decide +kernel
theorem dX0_isShot_13 : decode cX0_isShot 13 = .ok (.goto 4, 3) := by decide +kernel
theorem dX0_isShot_16 : decode cX0_isShot 16 = .ok (.iconst 0, 1) := by decide +kernel
theorem dX0_isShot_17 : decode cX0_isShot 17 = .ok (.ireturn, 1) := by decide +kernel
theorem dX0_isHall_0 : decode cX0_isHall 0 = .ok (.iload_n 1, 1) := by decide +kernel
theorem dX0_isHall_1 : decode cX0_isHall 1 = .ok (.ifCond .lt 15, 3) := by decide +kernel
theorem dX0_isHall_4 : decode cX0_isHall 4 = .ok (.iload_n 1, 1) := by decide +kernel
theorem dX0_isHall_5 : decode cX0_isHall 5 = .ok (.aload_n 0, 1) := by decide +kernel
theorem dX0_isHall_6 : decode cX0_isHall 6 = .ok (.getfield 45, 3) := by decide +kernel
theorem dX0_isHall_9 : decode cX0_isHall 9 = .ok (.if_icmp .ge 7, 3) := by decide +kernel
theorem dX0_isHall_12 : decode cX0_isHall 12 = .ok (.iconst 1, 1) := by decide +kernel
theorem dX0_isHall_13 : decode cX0_isHall 13 = .ok (.goto 4, 3) := by decide +kernel
theorem dX0_isHall_16 : decode cX0_isHall 16 = .ok (.iconst 0, 1) := by decide +kernel
theorem dX0_isHall_17 : decode cX0_isHall 17 = .ok (.ireturn, 1) := by decide +kernel
theorem dX0_isNeeded_0 : decode cX0_isNeeded 0 = .ok (.aload_n 0, 1) := by decide +kernel
theorem dX0_isNeeded_1 : decode cX0_isNeeded 1 = .ok (.iload_n 1, 1) := by decide +kernel
theorem dX0_isNeeded_2 : decode cX0_isNeeded 2 = .ok (.invokevirtual 51, 3) := by decide +kernel
theorem dX0_isNeeded_5 : decode cX0_isNeeded 5 = .ok (.ifCond .eq 29, 3) := by decide +kernel
theorem dX0_isNeeded_8 : decode cX0_isNeeded 8 = .ok (.aload_n 0, 1) := by decide +kernel
theorem dX0_isNeeded_9 : decode cX0_isNeeded 9 = .ok (.iload_n 2, 1) := by decide +kernel
theorem dX0_isNeeded_10 : decode cX0_isNeeded 10 = .ok (.invokevirtual 51, 3) := by decide +kernel
theorem dX0_isNeeded_13 : decode cX0_isNeeded 13 = .ok (.ifCond .eq 21, 3) := by decide +kernel
theorem dX0_isNeeded_16 : decode cX0_isNeeded 16 = .ok (.aload_n 0, 1) := by decide +kernel
theorem dX0_isNeeded_17 : decode cX0_isNeeded 17 = .ok (.getfield 22, 3) := by decide +kernel
theorem dX0_isNeeded_20 : decode cX0_isNeeded 20 = .ok (.iload_n 1, 1) := by decide +kernel
theorem dX0_isNeeded_21 : decode cX0_isNeeded 21 = .ok (.iaload, 1) := by decide +kernel
theorem dX0_isNeeded_22 : decode cX0_isNeeded 22 = .ok (.iload_n 2, 1) := by decide +kernel
theorem dX0_isNeeded_23 : decode cX0_isNeeded 23 = .ok (.ishr, 1) := by decide +kernel
theorem dX0_isNeeded_24 : decode cX0_isNeeded 24 = .ok (.iconst 1, 1) := by decide +kernel
theorem dX0_isNeeded_25 : decode cX0_isNeeded 25 = .ok (.iand, 1) := by decide +kernel
theorem dX0_isNeeded_26 : decode cX0_isNeeded 26 = .ok (.iconst 1, 1) := by decide +kernel
theorem dX0_isNeeded_27 : decode cX0_isNeeded 27 = .ok (.if_icmp .ne 7, 3) := by decide +kernel
theorem dX0_isNeeded_30 : decode cX0_isNeeded 30 = .ok (.iconst 1, 1) := by decide +kernel
theorem dX0_isNeeded_31 : decode cX0_isNeeded 31 = .ok (.goto 4, 3) := by decide +kernel
theorem dX0_isNeeded_34 : decode cX0_isNeeded 34 = .ok (.iconst 0, 1) := by decide +kernel
theorem dX0_isNeeded_35 : decode cX0_isNeeded 35 = .ok (.ireturn, 1) := by decide +kernel
theorem dX0_shotNamed_0 : decode cX0_shotNamed 0 = .ok (.iconst 0, 1) := by decide +kernel
theorem dX0_shotNamed_1 : decode cX0_shotNamed 1 = .ok (.istore_n 3, 1) := by decide +kernel
theorem dX0_shotNamed_2 : decode cX0_shotNamed 2 = .ok (.iload_n 3, 1) := by decide +kernel
theorem dX0_shotNamed_3 : decode cX0_shotNamed 3 = .ok (.aload_n 0, 1) := by decide +kernel
theorem dX0_shotNamed_4 : decode cX0_shotNamed 4 = .ok (.getfield 41, 3) := by decide +kernel
theorem dX0_shotNamed_7 : decode cX0_shotNamed 7 = .ok (.if_icmp .ge 22, 3) := by decide +kernel
theorem dX0_shotNamed_10 : decode cX0_shotNamed 10 = .ok (.aload_n 0, 1) := by decide +kernel
theorem dX0_shotNamed_11 : decode cX0_shotNamed 11 = .ok (.getfield 9, 3) := by decide +kernel
theorem dX0_shotNamed_14 : decode cX0_shotNamed 14 = .ok (.iload_n 3, 1) := by decide +kernel
theorem dX0_shotNamed_15 : decode cX0_shotNamed 15 = .ok (.laload, 1) := by decide +kernel
theorem dX0_shotNamed_16 : decode cX0_shotNamed 16 = .ok (.lload_n 1, 1) := by decide +kernel
theorem dX0_shotNamed_17 : decode cX0_shotNamed 17 = .ok (.lcmp, 1) := by decide +kernel
theorem dX0_shotNamed_18 : decode cX0_shotNamed 18 = .ok (.ifCond .ne 5, 3) := by decide +kernel
theorem dX0_shotNamed_21 : decode cX0_shotNamed 21 = .ok (.iload_n 3, 1) := by decide +kernel
theorem dX0_shotNamed_22 : decode cX0_shotNamed 22 = .ok (.ireturn, 1) := by decide +kernel
theorem dX0_shotNamed_23 : decode cX0_shotNamed 23 = .ok (.iinc 3 1, 3) := by decide +kernel
theorem dX0_shotNamed_26 : decode cX0_shotNamed 26 = .ok (.goto (-24), 3) := by decide +kernel
theorem dX0_shotNamed_29 : decode cX0_shotNamed 29 = .ok (.iconst (-1), 1) := by decide +kernel
theorem dX0_shotNamed_30 : decode cX0_shotNamed 30 = .ok (.ireturn, 1) := by decide +kernel
theorem dX0_hallNamed_0 : decode cX0_hallNamed 0 = .ok (.iconst 0, 1) := by decide +kernel
theorem dX0_hallNamed_1 : decode cX0_hallNamed 1 = .ok (.istore_n 3, 1) := by decide +kernel
theorem dX0_hallNamed_2 : decode cX0_hallNamed 2 = .ok (.iload_n 3, 1) := by decide +kernel
theorem dX0_hallNamed_3 : decode cX0_hallNamed 3 = .ok (.aload_n 0, 1) := by decide +kernel
theorem dX0_hallNamed_4 : decode cX0_hallNamed 4 = .ok (.getfield 45, 3) := by decide +kernel
theorem dX0_hallNamed_7 : decode cX0_hallNamed 7 = .ok (.if_icmp .ge 22, 3) := by decide +kernel
theorem dX0_hallNamed_10 : decode cX0_hallNamed 10 = .ok (.aload_n 0, 1) := by decide +kernel
theorem dX0_hallNamed_11 : decode cX0_hallNamed 11 = .ok (.getfield 25, 3) := by decide +kernel
theorem dX0_hallNamed_14 : decode cX0_hallNamed 14 = .ok (.iload_n 3, 1) := by decide +kernel
theorem dX0_hallNamed_15 : decode cX0_hallNamed 15 = .ok (.laload, 1) := by decide +kernel
theorem dX0_hallNamed_16 : decode cX0_hallNamed 16 = .ok (.lload_n 1, 1) := by decide +kernel
theorem dX0_hallNamed_17 : decode cX0_hallNamed 17 = .ok (.lcmp, 1) := by decide +kernel
theorem dX0_hallNamed_18 : decode cX0_hallNamed 18 = .ok (.ifCond .ne 5, 3) := by decide +kernel
theorem dX0_hallNamed_21 : decode cX0_hallNamed 21 = .ok (.iload_n 3, 1) := by decide +kernel
theorem dX0_hallNamed_22 : decode cX0_hallNamed 22 = .ok (.ireturn, 1) := by decide +kernel
theorem dX0_hallNamed_23 : decode cX0_hallNamed 23 = .ok (.iinc 3 1, 3) := by decide +kernel
theorem dX0_hallNamed_26 : decode cX0_hallNamed 26 = .ok (.goto (-24), 3) := by decide +kernel
theorem dX0_hallNamed_29 : decode cX0_hallNamed 29 = .ok (.iconst (-1), 1) := by decide +kernel
theorem dX0_hallNamed_30 : decode cX0_hallNamed 30 = .ok (.ireturn, 1) := by decide +kernel
theorem dX0_film_0 : decode cX0_film 0 = .ok (.iconst 1, 1) := by decide +kernel
theorem dX0_film_1 : decode cX0_film 1 = .ok (.aload_n 0, 1) := by decide +kernel
theorem dX0_film_2 : decode cX0_film 2 = .ok (.getfield 41, 3) := by decide +kernel
theorem dX0_film_5 : decode cX0_film 5 = .ok (.ishl, 1) := by decide +kernel
theorem dX0_film_6 : decode cX0_film 6 = .ok (.iconst 1, 1) := by decide +kernel
theorem dX0_film_7 : decode cX0_film 7 = .ok (.isub, 1) := by decide +kernel
theorem dX0_film_8 : decode cX0_film 8 = .ok (.ireturn, 1) := by decide +kernel
theorem dX0_minutesOf_0 : decode cX0_minutesOf 0 = .ok (.iconst 0, 1) := by decide +kernel
theorem dX0_minutesOf_1 : decode cX0_minutesOf 1 = .ok (.istore_n 2, 1) := by decide +kernel
theorem dX0_minutesOf_2 : decode cX0_minutesOf 2 = .ok (.iconst 0, 1) := by decide +kernel
theorem dX0_minutesOf_3 : decode cX0_minutesOf 3 = .ok (.istore_n 3, 1) := by decide +kernel
theorem dX0_minutesOf_4 : decode cX0_minutesOf 4 = .ok (.iload_n 3, 1) := by decide +kernel
theorem dX0_minutesOf_5 : decode cX0_minutesOf 5 = .ok (.aload_n 0, 1) := by decide +kernel
theorem dX0_minutesOf_6 : decode cX0_minutesOf 6 = .ok (.getfield 41, 3) := by decide +kernel
theorem dX0_minutesOf_9 : decode cX0_minutesOf 9 = .ok (.if_icmp .ge 27, 3) := by decide +kernel
theorem dX0_minutesOf_12 : decode cX0_minutesOf 12 = .ok (.iload_n 1, 1) := by decide +kernel
theorem dX0_minutesOf_13 : decode cX0_minutesOf 13 = .ok (.iload_n 3, 1) := by decide +kernel
theorem dX0_minutesOf_14 : decode cX0_minutesOf 14 = .ok (.ishr, 1) := by decide +kernel
theorem dX0_minutesOf_15 : decode cX0_minutesOf 15 = .ok (.iconst 1, 1) := by decide +kernel
theorem dX0_minutesOf_16 : decode cX0_minutesOf 16 = .ok (.iand, 1) := by decide +kernel
theorem dX0_minutesOf_17 : decode cX0_minutesOf 17 = .ok (.iconst 1, 1) := by decide +kernel
theorem dX0_minutesOf_18 : decode cX0_minutesOf 18 = .ok (.if_icmp .ne 12, 3) := by decide +kernel
theorem dX0_minutesOf_21 : decode cX0_minutesOf 21 = .ok (.iload_n 2, 1) := by decide +kernel
theorem dX0_minutesOf_22 : decode cX0_minutesOf 22 = .ok (.aload_n 0, 1) := by decide +kernel
theorem dX0_minutesOf_23 : decode cX0_minutesOf 23 = .ok (.getfield 19, 3) := by decide +kernel
theorem dX0_minutesOf_26 : decode cX0_minutesOf 26 = .ok (.iload_n 3, 1) := by decide +kernel
theorem dX0_minutesOf_27 : decode cX0_minutesOf 27 = .ok (.iaload, 1) := by decide +kernel
theorem dX0_minutesOf_28 : decode cX0_minutesOf 28 = .ok (.iadd, 1) := by decide +kernel
theorem dX0_minutesOf_29 : decode cX0_minutesOf 29 = .ok (.istore_n 2, 1) := by decide +kernel
theorem dX0_minutesOf_30 : decode cX0_minutesOf 30 = .ok (.iinc 3 1, 3) := by decide +kernel
theorem dX0_minutesOf_33 : decode cX0_minutesOf 33 = .ok (.goto (-29), 3) := by decide +kernel
theorem dX0_minutesOf_36 : decode cX0_minutesOf 36 = .ok (.iload_n 2, 1) := by decide +kernel
theorem dX0_minutesOf_37 : decode cX0_minutesOf 37 = .ok (.ireturn, 1) := by decide +kernel
theorem dX0_isLonger_0 : decode cX0_isLonger 0 = .ok (.aload_n 0, 1) := by decide +kernel
theorem dX0_isLonger_1 : decode cX0_isLonger 1 = .ok (.iload_n 1, 1) := by decide +kernel
theorem dX0_isLonger_2 : decode cX0_isLonger 2 = .ok (.invokevirtual 58, 3) := by decide +kernel
theorem dX0_isLonger_5 : decode cX0_isLonger 5 = .ok (.aload_n 0, 1) := by decide +kernel
theorem dX0_isLonger_6 : decode cX0_isLonger 6 = .ok (.iload_n 2, 1) := by decide +kernel
theorem dX0_isLonger_7 : decode cX0_isLonger 7 = .ok (.invokevirtual 58, 3) := by decide +kernel
theorem dX0_isLonger_10 : decode cX0_isLonger 10 = .ok (.isub, 1) := by decide +kernel
theorem dX0_isLonger_11 : decode cX0_isLonger 11 = .ok (.istore_n 3, 1) := by decide +kernel
theorem dX0_isLonger_12 : decode cX0_isLonger 12 = .ok (.iload_n 3, 1) := by decide +kernel
theorem dX0_isLonger_13 : decode cX0_isLonger 13 = .ok (.ifCond .gt 18, 3) := by decide +kernel
theorem dX0_isLonger_16 : decode cX0_isLonger 16 = .ok (.iload_n 3, 1) := by decide +kernel
theorem dX0_isLonger_17 : decode cX0_isLonger 17 = .ok (.ifCond .ne 18, 3) := by decide +kernel
theorem dX0_isLonger_20 : decode cX0_isLonger 20 = .ok (.iload_n 1, 1) := by decide +kernel
theorem dX0_isLonger_21 : decode cX0_isLonger 21 = .ok (.invokestatic 62, 3) := by decide +kernel
theorem dX0_isLonger_24 : decode cX0_isLonger 24 = .ok (.iload_n 2, 1) := by decide +kernel
theorem dX0_isLonger_25 : decode cX0_isLonger 25 = .ok (.invokestatic 62, 3) := by decide +kernel
theorem dX0_isLonger_28 : decode cX0_isLonger 28 = .ok (.if_icmp .ge 7, 3) := by decide +kernel
theorem dX0_isLonger_31 : decode cX0_isLonger 31 = .ok (.iconst 1, 1) := by decide +kernel
theorem dX0_isLonger_32 : decode cX0_isLonger 32 = .ok (.goto 4, 3) := by decide +kernel
theorem dX0_isLonger_35 : decode cX0_isLonger 35 = .ok (.iconst 0, 1) := by decide +kernel
theorem dX0_isLonger_36 : decode cX0_isLonger 36 = .ok (.ireturn, 1) := by decide +kernel
theorem dX0_shotAt_0 : decode cX0_shotAt 0 = .ok (.iconst 0, 1) := by decide +kernel
theorem dX0_shotAt_1 : decode cX0_shotAt 1 = .ok (.istore_n 3, 1) := by decide +kernel
theorem dX0_shotAt_2 : decode cX0_shotAt 2 = .ok (.iconst 0, 1) := by decide +kernel
theorem dX0_shotAt_3 : decode cX0_shotAt 3 = .ok (.istore 4, 2) := by decide +kernel
theorem dX0_shotAt_5 : decode cX0_shotAt 5 = .ok (.iload 4, 2) := by decide +kernel
theorem dX0_shotAt_7 : decode cX0_shotAt 7 = .ok (.aload_n 0, 1) := by decide +kernel
theorem dX0_shotAt_8 : decode cX0_shotAt 8 = .ok (.getfield 41, 3) := by decide +kernel
theorem dX0_shotAt_11 : decode cX0_shotAt 11 = .ok (.if_icmp .ge 30, 3) := by decide +kernel
theorem dX0_shotAt_14 : decode cX0_shotAt 14 = .ok (.iload_n 1, 1) := by decide +kernel
theorem dX0_shotAt_15 : decode cX0_shotAt 15 = .ok (.iload 4, 2) := by decide +kernel
theorem dX0_shotAt_17 : decode cX0_shotAt 17 = .ok (.ishr, 1) := by decide +kernel
theorem dX0_shotAt_18 : decode cX0_shotAt 18 = .ok (.iconst 1, 1) := by decide +kernel
theorem dX0_shotAt_19 : decode cX0_shotAt 19 = .ok (.iand, 1) := by decide +kernel
theorem dX0_shotAt_20 : decode cX0_shotAt 20 = .ok (.iconst 1, 1) := by decide +kernel
theorem dX0_shotAt_21 : decode cX0_shotAt 21 = .ok (.if_icmp .ne 14, 3) := by decide +kernel
theorem dX0_shotAt_24 : decode cX0_shotAt 24 = .ok (.iload_n 3, 1) := by decide +kernel
theorem dX0_shotAt_25 : decode cX0_shotAt 25 = .ok (.iload_n 2, 1) := by decide +kernel
theorem dX0_shotAt_26 : decode cX0_shotAt 26 = .ok (.if_icmp .ne 6, 3) := by decide +kernel
theorem dX0_shotAt_29 : decode cX0_shotAt 29 = .ok (.iload 4, 2) := by decide +kernel
theorem dX0_shotAt_31 : decode cX0_shotAt 31 = .ok (.ireturn, 1) := by decide +kernel
theorem dX0_shotAt_32 : decode cX0_shotAt 32 = .ok (.iinc 3 1, 3) := by decide +kernel
theorem dX0_shotAt_35 : decode cX0_shotAt 35 = .ok (.iinc 4 1, 3) := by decide +kernel
theorem dX0_shotAt_38 : decode cX0_shotAt 38 = .ok (.goto (-33), 3) := by decide +kernel
theorem dX0_shotAt_41 : decode cX0_shotAt 41 = .ok (.iconst (-1), 1) := by decide +kernel
theorem dX0_shotAt_42 : decode cX0_shotAt 42 = .ok (.ireturn, 1) := by decide +kernel
theorem dX0_makesSense_0 : decode cX0_makesSense 0 = .ok (.iconst 0, 1) := by decide +kernel
theorem dX0_makesSense_1 : decode cX0_makesSense 1 = .ok (.istore_n 2, 1) := by decide +kernel
theorem dX0_makesSense_2 : decode cX0_makesSense 2 = .ok (.iload_n 2, 1) := by decide +kernel
theorem dX0_makesSense_3 : decode cX0_makesSense 3 = .ok (.aload_n 0, 1) := by decide +kernel
theorem dX0_makesSense_4 : decode cX0_makesSense 4 = .ok (.getfield 41, 3) := by decide +kernel
theorem dX0_makesSense_7 : decode cX0_makesSense 7 = .ok (.if_icmp .ge 41, 3) := by decide +kernel
theorem dX0_makesSense_10 : decode cX0_makesSense 10 = .ok (.iload_n 1, 1) := by decide +kernel
theorem dX0_makesSense_11 : decode cX0_makesSense 11 = .ok (.iconst 1, 1) := by decide +kernel
theorem dX0_makesSense_12 : decode cX0_makesSense 12 = .ok (.iload_n 2, 1) := by decide +kernel
theorem dX0_makesSense_13 : decode cX0_makesSense 13 = .ok (.ishl, 1) := by decide +kernel
theorem dX0_makesSense_14 : decode cX0_makesSense 14 = .ok (.iconst 1, 1) := by decide +kernel
theorem dX0_makesSense_15 : decode cX0_makesSense 15 = .ok (.isub, 1) := by decide +kernel
theorem dX0_makesSense_16 : decode cX0_makesSense 16 = .ok (.iand, 1) := by decide +kernel
theorem dX0_makesSense_17 : decode cX0_makesSense 17 = .ok (.istore_n 3, 1) := by decide +kernel
theorem dX0_makesSense_18 : decode cX0_makesSense 18 = .ok (.iload_n 1, 1) := by decide +kernel
theorem dX0_makesSense_19 : decode cX0_makesSense 19 = .ok (.iload_n 2, 1) := by decide +kernel
theorem dX0_makesSense_20 : decode cX0_makesSense 20 = .ok (.ishr, 1) := by decide +kernel
theorem dX0_makesSense_21 : decode cX0_makesSense 21 = .ok (.iconst 1, 1) := by decide +kernel
theorem dX0_makesSense_22 : decode cX0_makesSense 22 = .ok (.iand, 1) := by decide +kernel
theorem dX0_makesSense_23 : decode cX0_makesSense 23 = .ok (.iconst 1, 1) := by decide +kernel
theorem dX0_makesSense_24 : decode cX0_makesSense 24 = .ok (.if_icmp .ne 18, 3) := by decide +kernel
theorem dX0_makesSense_27 : decode cX0_makesSense 27 = .ok (.aload_n 0, 1) := by decide +kernel
theorem dX0_makesSense_28 : decode cX0_makesSense 28 = .ok (.getfield 22, 3) := by decide +kernel
theorem dX0_makesSense_31 : decode cX0_makesSense 31 = .ok (.iload_n 2, 1) := by decide +kernel
theorem dX0_makesSense_32 : decode cX0_makesSense 32 = .ok (.iaload, 1) := by decide +kernel
theorem dX0_makesSense_33 : decode cX0_makesSense 33 = .ok (.iload_n 3, 1) := by decide +kernel
theorem dX0_makesSense_34 : decode cX0_makesSense 34 = .ok (.iconst (-1), 1) := by decide +kernel
theorem dX0_makesSense_35 : decode cX0_makesSense 35 = .ok (.ixor, 1) := by decide +kernel
theorem dX0_makesSense_36 : decode cX0_makesSense 36 = .ok (.iand, 1) := by decide +kernel
theorem dX0_makesSense_37 : decode cX0_makesSense 37 = .ok (.ifCond .eq 5, 3) := by decide +kernel
theorem dX0_makesSense_40 : decode cX0_makesSense 40 = .ok (.iconst 0, 1) := by decide +kernel
theorem dX0_makesSense_41 : decode cX0_makesSense 41 = .ok (.ireturn, 1) := by decide +kernel
theorem dX0_makesSense_42 : decode cX0_makesSense 42 = .ok (.iinc 2 1, 3) := by decide +kernel
theorem dX0_makesSense_45 : decode cX0_makesSense 45 = .ok (.goto (-43), 3) := by decide +kernel
theorem dX0_makesSense_48 : decode cX0_makesSense 48 = .ok (.iconst 1, 1) := by decide +kernel
theorem dX0_makesSense_49 : decode cX0_makesSense 49 = .ok (.ireturn, 1) := by decide +kernel
theorem dX0_allNeeds_0 : decode cX0_allNeeds 0 = .ok (.aload_n 0, 1) := by decide +kernel
theorem dX0_allNeeds_1 : decode cX0_allNeeds 1 = .ok (.iload_n 1, 1) := by decide +kernel
theorem dX0_allNeeds_2 : decode cX0_allNeeds 2 = .ok (.invokevirtual 51, 3) := by decide +kernel
theorem dX0_allNeeds_5 : decode cX0_allNeeds 5 = .ok (.ifCond .eq 12, 3) := by decide +kernel
theorem dX0_allNeeds_8 : decode cX0_allNeeds 8 = .ok (.aload_n 0, 1) := by decide +kernel
theorem dX0_allNeeds_9 : decode cX0_allNeeds 9 = .ok (.getfield 22, 3) := by decide +kernel
theorem dX0_allNeeds_12 : decode cX0_allNeeds 12 = .ok (.iload_n 1, 1) := by decide +kernel
theorem dX0_allNeeds_13 : decode cX0_allNeeds 13 = .ok (.iaload, 1) := by decide +kernel
theorem dX0_allNeeds_14 : decode cX0_allNeeds 14 = .ok (.goto 4, 3) := by decide +kernel
theorem dX0_allNeeds_17 : decode cX0_allNeeds 17 = .ok (.iconst 0, 1) := by decide +kernel
theorem dX0_allNeeds_18 : decode cX0_allNeeds 18 = .ok (.istore_n 2, 1) := by decide +kernel
theorem dX0_allNeeds_19 : decode cX0_allNeeds 19 = .ok (.iconst 0, 1) := by decide +kernel
theorem dX0_allNeeds_20 : decode cX0_allNeeds 20 = .ok (.istore_n 3, 1) := by decide +kernel
theorem dX0_allNeeds_21 : decode cX0_allNeeds 21 = .ok (.iload_n 3, 1) := by decide +kernel
theorem dX0_allNeeds_22 : decode cX0_allNeeds 22 = .ok (.aload_n 0, 1) := by decide +kernel
theorem dX0_allNeeds_23 : decode cX0_allNeeds 23 = .ok (.getfield 41, 3) := by decide +kernel
theorem dX0_allNeeds_26 : decode cX0_allNeeds 26 = .ok (.if_icmp .ge 47, 3) := by decide +kernel
theorem dX0_allNeeds_29 : decode cX0_allNeeds 29 = .ok (.iconst 0, 1) := by decide +kernel
theorem dX0_allNeeds_30 : decode cX0_allNeeds 30 = .ok (.istore 4, 2) := by decide +kernel
theorem dX0_allNeeds_32 : decode cX0_allNeeds 32 = .ok (.iload 4, 2) := by decide +kernel
theorem dX0_allNeeds_34 : decode cX0_allNeeds 34 = .ok (.aload_n 0, 1) := by decide +kernel
theorem dX0_allNeeds_35 : decode cX0_allNeeds 35 = .ok (.getfield 41, 3) := by decide +kernel
theorem dX0_allNeeds_38 : decode cX0_allNeeds 38 = .ok (.if_icmp .ge 29, 3) := by decide +kernel
theorem dX0_allNeeds_41 : decode cX0_allNeeds 41 = .ok (.iload_n 2, 1) := by decide +kernel
theorem dX0_allNeeds_42 : decode cX0_allNeeds 42 = .ok (.iload 4, 2) := by decide +kernel
theorem dX0_allNeeds_44 : decode cX0_allNeeds 44 = .ok (.ishr, 1) := by decide +kernel
theorem dX0_allNeeds_45 : decode cX0_allNeeds 45 = .ok (.iconst 1, 1) := by decide +kernel
theorem dX0_allNeeds_46 : decode cX0_allNeeds 46 = .ok (.iand, 1) := by decide +kernel
theorem dX0_allNeeds_47 : decode cX0_allNeeds 47 = .ok (.iconst 1, 1) := by decide +kernel
theorem dX0_allNeeds_48 : decode cX0_allNeeds 48 = .ok (.if_icmp .ne 13, 3) := by decide +kernel
theorem dX0_allNeeds_51 : decode cX0_allNeeds 51 = .ok (.iload_n 2, 1) := by decide +kernel
theorem dX0_allNeeds_52 : decode cX0_allNeeds 52 = .ok (.aload_n 0, 1) := by decide +kernel
theorem dX0_allNeeds_53 : decode cX0_allNeeds 53 = .ok (.getfield 22, 3) := by decide +kernel
theorem dX0_allNeeds_56 : decode cX0_allNeeds 56 = .ok (.iload 4, 2) := by decide +kernel
theorem dX0_allNeeds_58 : decode cX0_allNeeds 58 = .ok (.iaload, 1) := by decide +kernel
theorem dX0_allNeeds_59 : decode cX0_allNeeds 59 = .ok (.ior, 1) := by decide +kernel
theorem dX0_allNeeds_60 : decode cX0_allNeeds 60 = .ok (.istore_n 2, 1) := by decide +kernel
theorem dX0_allNeeds_61 : decode cX0_allNeeds 61 = .ok (.iinc 4 1, 3) := by decide +kernel
theorem dX0_allNeeds_64 : decode cX0_allNeeds 64 = .ok (.goto (-32), 3) := by decide +kernel
theorem dX0_allNeeds_67 : decode cX0_allNeeds 67 = .ok (.iinc 3 1, 3) := by decide +kernel
theorem dX0_allNeeds_70 : decode cX0_allNeeds 70 = .ok (.goto (-49), 3) := by decide +kernel
theorem dX0_allNeeds_73 : decode cX0_allNeeds 73 = .ok (.iload_n 2, 1) := by decide +kernel
theorem dX0_allNeeds_74 : decode cX0_allNeeds 74 = .ok (.ireturn, 1) := by decide +kernel
theorem dX0_shotsOfSort_0 : decode cX0_shotsOfSort 0 = .ok (.iconst 0, 1) := by decide +kernel
theorem dX0_shotsOfSort_1 : decode cX0_shotsOfSort 1 = .ok (.istore_n 2, 1) := by decide +kernel
theorem dX0_shotsOfSort_2 : decode cX0_shotsOfSort 2 = .ok (.iconst 0, 1) := by decide +kernel
theorem dX0_shotsOfSort_3 : decode cX0_shotsOfSort 3 = .ok (.istore_n 3, 1) := by decide +kernel
theorem dX0_shotsOfSort_4 : decode cX0_shotsOfSort 4 = .ok (.iload_n 3, 1) := by decide +kernel
theorem dX0_shotsOfSort_5 : decode cX0_shotsOfSort 5 = .ok (.aload_n 0, 1) := by decide +kernel
theorem dX0_shotsOfSort_6 : decode cX0_shotsOfSort 6 = .ok (.getfield 41, 3) := by decide +kernel
theorem dX0_shotsOfSort_9 : decode cX0_shotsOfSort 9 = .ok (.if_icmp .ge 25, 3) := by decide +kernel
theorem dX0_shotsOfSort_12 : decode cX0_shotsOfSort 12 = .ok (.aload_n 0, 1) := by decide +kernel
theorem dX0_shotsOfSort_13 : decode cX0_shotsOfSort 13 = .ok (.getfield 15, 3) := by decide +kernel
theorem dX0_shotsOfSort_16 : decode cX0_shotsOfSort 16 = .ok (.iload_n 3, 1) := by decide +kernel
theorem dX0_shotsOfSort_17 : decode cX0_shotsOfSort 17 = .ok (.iaload, 1) := by decide +kernel
theorem dX0_shotsOfSort_18 : decode cX0_shotsOfSort 18 = .ok (.iload_n 1, 1) := by decide +kernel
theorem dX0_shotsOfSort_19 : decode cX0_shotsOfSort 19 = .ok (.if_icmp .ne 9, 3) := by decide +kernel
theorem dX0_shotsOfSort_22 : decode cX0_shotsOfSort 22 = .ok (.iload_n 2, 1) := by decide +kernel
theorem dX0_shotsOfSort_23 : decode cX0_shotsOfSort 23 = .ok (.iconst 1, 1) := by decide +kernel
theorem dX0_shotsOfSort_24 : decode cX0_shotsOfSort 24 = .ok (.iload_n 3, 1) := by decide +kernel
theorem dX0_shotsOfSort_25 : decode cX0_shotsOfSort 25 = .ok (.ishl, 1) := by decide +kernel
theorem dX0_shotsOfSort_26 : decode cX0_shotsOfSort 26 = .ok (.ior, 1) := by decide +kernel
theorem dX0_shotsOfSort_27 : decode cX0_shotsOfSort 27 = .ok (.istore_n 2, 1) := by decide +kernel
theorem dX0_shotsOfSort_28 : decode cX0_shotsOfSort 28 = .ok (.iinc 3 1, 3) := by decide +kernel
theorem dX0_shotsOfSort_31 : decode cX0_shotsOfSort 31 = .ok (.goto (-27), 3) := by decide +kernel
theorem dX0_shotsOfSort_34 : decode cX0_shotsOfSort 34 = .ok (.iload_n 2, 1) := by decide +kernel
theorem dX0_shotsOfSort_35 : decode cX0_shotsOfSort 35 = .ok (.ireturn, 1) := by decide +kernel
theorem dX0_unlikeFrom_0 : decode cX0_unlikeFrom 0 = .ok (.iconst 0, 1) := by decide +kernel
theorem dX0_unlikeFrom_1 : decode cX0_unlikeFrom 1 = .ok (.istore_n 3, 1) := by decide +kernel
theorem dX0_unlikeFrom_2 : decode cX0_unlikeFrom 2 = .ok (.iload_n 2, 1) := by decide +kernel
theorem dX0_unlikeFrom_3 : decode cX0_unlikeFrom 3 = .ok (.iconst 0, 1) := by decide +kernel
theorem dX0_unlikeFrom_4 : decode cX0_unlikeFrom 4 = .ok (.invokestatic 67, 3) := by decide +kernel
theorem dX0_unlikeFrom_7 : decode cX0_unlikeFrom 7 = .ok (.istore 4, 2) := by decide +kernel
theorem dX0_unlikeFrom_9 : decode cX0_unlikeFrom 9 = .ok (.iload 4, 2) := by decide +kernel
theorem dX0_unlikeFrom_11 : decode cX0_unlikeFrom 11 = .ok (.aload_n 0, 1) := by decide +kernel
theorem dX0_unlikeFrom_12 : decode cX0_unlikeFrom 12 = .ok (.getfield 41, 3) := by decide +kernel
theorem dX0_unlikeFrom_15 : decode cX0_unlikeFrom 15 = .ok (.if_icmp .ge 45, 3) := by decide +kernel
theorem dX0_unlikeFrom_18 : decode cX0_unlikeFrom 18 = .ok (.iload_n 1, 1) := by decide +kernel
theorem dX0_unlikeFrom_19 : decode cX0_unlikeFrom 19 = .ok (.iload 4, 2) := by decide +kernel
theorem dX0_unlikeFrom_21 : decode cX0_unlikeFrom 21 = .ok (.ishr, 1) := by decide +kernel
theorem dX0_unlikeFrom_22 : decode cX0_unlikeFrom 22 = .ok (.iconst 1, 1) := by decide +kernel
theorem dX0_unlikeFrom_23 : decode cX0_unlikeFrom 23 = .ok (.iand, 1) := by decide +kernel
theorem dX0_unlikeFrom_24 : decode cX0_unlikeFrom 24 = .ok (.iconst 1, 1) := by decide +kernel
theorem dX0_unlikeFrom_25 : decode cX0_unlikeFrom 25 = .ok (.if_icmp .ne 29, 3) := by decide +kernel
theorem dX0_unlikeFrom_28 : decode cX0_unlikeFrom 28 = .ok (.iconst 1, 1) := by decide +kernel
theorem dX0_unlikeFrom_29 : decode cX0_unlikeFrom 29 = .ok (.aload_n 0, 1) := by decide +kernel
theorem dX0_unlikeFrom_30 : decode cX0_unlikeFrom 30 = .ok (.getfield 15, 3) := by decide +kernel
theorem dX0_unlikeFrom_33 : decode cX0_unlikeFrom 33 = .ok (.iload 4, 2) := by decide +kernel
theorem dX0_unlikeFrom_35 : decode cX0_unlikeFrom 35 = .ok (.iaload, 1) := by decide +kernel
theorem dX0_unlikeFrom_36 : decode cX0_unlikeFrom 36 = .ok (.ishl, 1) := by decide +kernel
theorem dX0_unlikeFrom_37 : decode cX0_unlikeFrom 37 = .ok (.istore 5, 2) := by decide +kernel
theorem dX0_unlikeFrom_39 : decode cX0_unlikeFrom 39 = .ok (.iload_n 3, 1) := by decide +kernel
theorem dX0_unlikeFrom_40 : decode cX0_unlikeFrom 40 = .ok (.iload 5, 2) := by decide +kernel
theorem dX0_unlikeFrom_42 : decode cX0_unlikeFrom 42 = .ok (.iand, 1) := by decide +kernel
theorem dX0_unlikeFrom_43 : decode cX0_unlikeFrom 43 = .ok (.ifCond .eq 6, 3) := by decide +kernel
theorem dX0_unlikeFrom_46 : decode cX0_unlikeFrom 46 = .ok (.goto 14, 3) := by decide +kernel
theorem dX0_unlikeFrom_49 : decode cX0_unlikeFrom 49 = .ok (.iload_n 3, 1) := by decide +kernel
theorem dX0_unlikeFrom_50 : decode cX0_unlikeFrom 50 = .ok (.iload 5, 2) := by decide +kernel
theorem dX0_unlikeFrom_52 : decode cX0_unlikeFrom 52 = .ok (.ior, 1) := by decide +kernel
theorem dX0_unlikeFrom_53 : decode cX0_unlikeFrom 53 = .ok (.istore_n 3, 1) := by decide +kernel
theorem dX0_unlikeFrom_54 : decode cX0_unlikeFrom 54 = .ok (.iinc 4 1, 3) := by decide +kernel
theorem dX0_unlikeFrom_57 : decode cX0_unlikeFrom 57 = .ok (.goto (-48), 3) := by decide +kernel
theorem dX0_unlikeFrom_60 : decode cX0_unlikeFrom 60 = .ok (.iload_n 3, 1) := by decide +kernel
theorem dX0_unlikeFrom_61 : decode cX0_unlikeFrom 61 = .ok (.invokestatic 62, 3) := by decide +kernel
theorem dX0_unlikeFrom_64 : decode cX0_unlikeFrom 64 = .ok (.ireturn, 1) := by decide +kernel
theorem dX0_takenOut_0 : decode cX0_takenOut 0 = .ok (.aload_n 0, 1) := by decide +kernel
theorem dX0_takenOut_1 : decode cX0_takenOut 1 = .ok (.iload_n 1, 1) := by decide +kernel
theorem dX0_takenOut_2 : decode cX0_takenOut 2 = .ok (.invokevirtual 73, 3) := by decide +kernel
theorem dX0_takenOut_5 : decode cX0_takenOut 5 = .ok (.ifCond .ne 5, 3) := by decide +kernel
theorem dX0_takenOut_8 : decode cX0_takenOut 8 = .ok (.iconst 0, 1) := by decide +kernel
theorem dX0_takenOut_9 : decode cX0_takenOut 9 = .ok (.ireturn, 1) := by decide +kernel
theorem dX0_takenOut_10 : decode cX0_takenOut 10 = .ok (.aload_n 0, 1) := by decide +kernel
theorem dX0_takenOut_11 : decode cX0_takenOut 11 = .ok (.iload_n 1, 1) := by decide +kernel
theorem dX0_takenOut_12 : decode cX0_takenOut 12 = .ok (.iload_n 2, 1) := by decide +kernel
theorem dX0_takenOut_13 : decode cX0_takenOut 13 = .ok (.invokevirtual 76, 3) := by decide +kernel
theorem dX0_takenOut_16 : decode cX0_takenOut 16 = .ok (.istore_n 3, 1) := by decide +kernel
theorem dX0_takenOut_17 : decode cX0_takenOut 17 = .ok (.aload_n 0, 1) := by decide +kernel
theorem dX0_takenOut_18 : decode cX0_takenOut 18 = .ok (.getfield 28, 3) := by decide +kernel
theorem dX0_takenOut_21 : decode cX0_takenOut 21 = .ok (.iload_n 1, 1) := by decide +kernel
theorem dX0_takenOut_22 : decode cX0_takenOut 22 = .ok (.iaload, 1) := by decide +kernel
theorem dX0_takenOut_23 : decode cX0_takenOut 23 = .ok (.tableswitch 49 1 3 #[25, 30, 39], 25) := by decide +kernel
theorem dX0_takenOut_48 : decode cX0_takenOut 48 = .ok (.iload_n 3, 1) := by decide +kernel
theorem dX0_takenOut_49 : decode cX0_takenOut 49 = .ok (.iload_n 3, 1) := by decide +kernel
theorem dX0_takenOut_50 : decode cX0_takenOut 50 = .ok (.ineg, 1) := by decide +kernel
theorem dX0_takenOut_51 : decode cX0_takenOut 51 = .ok (.iand, 1) := by decide +kernel
theorem dX0_takenOut_52 : decode cX0_takenOut 52 = .ok (.ireturn, 1) := by decide +kernel
theorem dX0_takenOut_53 : decode cX0_takenOut 53 = .ok (.iload_n 3, 1) := by decide +kernel
theorem dX0_takenOut_54 : decode cX0_takenOut 54 = .ok (.aload_n 0, 1) := by decide +kernel
theorem dX0_takenOut_55 : decode cX0_takenOut 55 = .ok (.iload_n 3, 1) := by decide +kernel
theorem dX0_takenOut_56 : decode cX0_takenOut 56 = .ok (.iload_n 2, 1) := by decide +kernel
theorem dX0_takenOut_57 : decode cX0_takenOut 57 = .ok (.invokevirtual 79, 3) := by decide +kernel
theorem dX0_takenOut_60 : decode cX0_takenOut 60 = .ok (.ior, 1) := by decide +kernel
theorem dX0_takenOut_61 : decode cX0_takenOut 61 = .ok (.ireturn, 1) := by decide +kernel
theorem dX0_takenOut_62 : decode cX0_takenOut 62 = .ok (.iload_n 3, 1) := by decide +kernel
theorem dX0_takenOut_63 : decode cX0_takenOut 63 = .ok (.aload_n 0, 1) := by decide +kernel
theorem dX0_takenOut_64 : decode cX0_takenOut 64 = .ok (.iload_n 2, 1) := by decide +kernel
theorem dX0_takenOut_65 : decode cX0_takenOut 65 = .ok (.invokevirtual 82, 3) := by decide +kernel
theorem dX0_takenOut_68 : decode cX0_takenOut 68 = .ok (.iconst (-1), 1) := by decide +kernel
theorem dX0_takenOut_69 : decode cX0_takenOut 69 = .ok (.ixor, 1) := by decide +kernel
theorem dX0_takenOut_70 : decode cX0_takenOut 70 = .ok (.iand, 1) := by decide +kernel
theorem dX0_takenOut_71 : decode cX0_takenOut 71 = .ok (.ireturn, 1) := by decide +kernel
theorem dX0_takenOut_72 : decode cX0_takenOut 72 = .ok (.iload_n 3, 1) := by decide +kernel
theorem dX0_takenOut_73 : decode cX0_takenOut 73 = .ok (.ireturn, 1) := by decide +kernel
theorem dX0_hatedIn_0 : decode cX0_hatedIn 0 = .ok (.iconst 0, 1) := by decide +kernel
theorem dX0_hatedIn_1 : decode cX0_hatedIn 1 = .ok (.istore_n 3, 1) := by decide +kernel
theorem dX0_hatedIn_2 : decode cX0_hatedIn 2 = .ok (.iconst 0, 1) := by decide +kernel
theorem dX0_hatedIn_3 : decode cX0_hatedIn 3 = .ok (.istore 4, 2) := by decide +kernel
theorem dX0_hatedIn_5 : decode cX0_hatedIn 5 = .ok (.bipush 10, 2) := by decide +kernel
theorem dX0_hatedIn_7 : decode cX0_hatedIn 7 = .ok (.istore 5, 2) := by decide +kernel
theorem dX0_hatedIn_9 : decode cX0_hatedIn 9 = .ok (.iconst 0, 1) := by decide +kernel
theorem dX0_hatedIn_10 : decode cX0_hatedIn 10 = .ok (.istore 6, 2) := by decide +kernel
theorem dX0_hatedIn_12 : decode cX0_hatedIn 12 = .ok (.iload 6, 2) := by decide +kernel
theorem dX0_hatedIn_14 : decode cX0_hatedIn 14 = .ok (.aload_n 0, 1) := by decide +kernel
theorem dX0_hatedIn_15 : decode cX0_hatedIn 15 = .ok (.getfield 41, 3) := by decide +kernel
theorem dX0_hatedIn_18 : decode cX0_hatedIn 18 = .ok (.if_icmp .ge 71, 3) := by decide +kernel
theorem dX0_hatedIn_21 : decode cX0_hatedIn 21 = .ok (.iload_n 2, 1) := by decide +kernel
theorem dX0_hatedIn_22 : decode cX0_hatedIn 22 = .ok (.iload 6, 2) := by decide +kernel
theorem dX0_hatedIn_24 : decode cX0_hatedIn 24 = .ok (.ishr, 1) := by decide +kernel
theorem dX0_hatedIn_25 : decode cX0_hatedIn 25 = .ok (.iconst 1, 1) := by decide +kernel
theorem dX0_hatedIn_26 : decode cX0_hatedIn 26 = .ok (.iand, 1) := by decide +kernel
theorem dX0_hatedIn_27 : decode cX0_hatedIn 27 = .ok (.iconst 1, 1) := by decide +kernel
theorem dX0_hatedIn_28 : decode cX0_hatedIn 28 = .ok (.if_icmp .ne 55, 3) := by decide +kernel
theorem dX0_hatedIn_31 : decode cX0_hatedIn 31 = .ok (.aload_n 0, 1) := by decide +kernel
theorem dX0_hatedIn_32 : decode cX0_hatedIn 32 = .ok (.iload_n 1, 1) := by decide +kernel
theorem dX0_hatedIn_33 : decode cX0_hatedIn 33 = .ok (.iload 6, 2) := by decide +kernel
theorem dX0_hatedIn_35 : decode cX0_hatedIn 35 = .ok (.iload 4, 2) := by decide +kernel
theorem dX0_hatedIn_37 : decode cX0_hatedIn 37 = .ok (.invokevirtual 85, 3) := by decide +kernel
theorem dX0_hatedIn_40 : decode cX0_hatedIn 40 = .ok (.istore 7, 2) := by decide +kernel
theorem dX0_hatedIn_42 : decode cX0_hatedIn 42 = .ok (.iload 7, 2) := by decide +kernel
theorem dX0_hatedIn_44 : decode cX0_hatedIn 44 = .ok (.iconst (-1), 1) := by decide +kernel
theorem dX0_hatedIn_45 : decode cX0_hatedIn 45 = .ok (.if_icmp .eq 26, 3) := by decide +kernel
theorem dX0_hatedIn_48 : decode cX0_hatedIn 48 = .ok (.aload_n 0, 1) := by decide +kernel
theorem dX0_hatedIn_49 : decode cX0_hatedIn 49 = .ok (.getfield 38, 3) := by decide +kernel
theorem dX0_hatedIn_52 : decode cX0_hatedIn 52 = .ok (.iload 7, 2) := by decide +kernel
theorem dX0_hatedIn_54 : decode cX0_hatedIn 54 = .ok (.iaload, 1) := by decide +kernel
theorem dX0_hatedIn_55 : decode cX0_hatedIn 55 = .ok (.iload 5, 2) := by decide +kernel
theorem dX0_hatedIn_57 : decode cX0_hatedIn 57 = .ok (.ishr, 1) := by decide +kernel
theorem dX0_hatedIn_58 : decode cX0_hatedIn 58 = .ok (.iconst 1, 1) := by decide +kernel
theorem dX0_hatedIn_59 : decode cX0_hatedIn 59 = .ok (.iand, 1) := by decide +kernel
theorem dX0_hatedIn_60 : decode cX0_hatedIn 60 = .ok (.iconst 1, 1) := by decide +kernel
theorem dX0_hatedIn_61 : decode cX0_hatedIn 61 = .ok (.if_icmp .ne 10, 3) := by decide +kernel
theorem dX0_hatedIn_64 : decode cX0_hatedIn 64 = .ok (.iload_n 3, 1) := by decide +kernel
theorem dX0_hatedIn_65 : decode cX0_hatedIn 65 = .ok (.iconst 1, 1) := by decide +kernel
theorem dX0_hatedIn_66 : decode cX0_hatedIn 66 = .ok (.iload 6, 2) := by decide +kernel
theorem dX0_hatedIn_68 : decode cX0_hatedIn 68 = .ok (.ishl, 1) := by decide +kernel
theorem dX0_hatedIn_69 : decode cX0_hatedIn 69 = .ok (.ior, 1) := by decide +kernel
theorem dX0_hatedIn_70 : decode cX0_hatedIn 70 = .ok (.istore_n 3, 1) := by decide +kernel
theorem dX0_hatedIn_71 : decode cX0_hatedIn 71 = .ok (.iinc 4 1, 3) := by decide +kernel
theorem dX0_hatedIn_74 : decode cX0_hatedIn 74 = .ok (.aload_n 0, 1) := by decide +kernel
theorem dX0_hatedIn_75 : decode cX0_hatedIn 75 = .ok (.getfield 15, 3) := by decide +kernel
theorem dX0_hatedIn_78 : decode cX0_hatedIn 78 = .ok (.iload 6, 2) := by decide +kernel
theorem dX0_hatedIn_80 : decode cX0_hatedIn 80 = .ok (.iaload, 1) := by decide +kernel
theorem dX0_hatedIn_81 : decode cX0_hatedIn 81 = .ok (.istore 5, 2) := by decide +kernel
theorem dX0_hatedIn_83 : decode cX0_hatedIn 83 = .ok (.iinc 6 1, 3) := by decide +kernel
theorem dX0_hatedIn_86 : decode cX0_hatedIn 86 = .ok (.goto (-74), 3) := by decide +kernel
theorem dX0_hatedIn_89 : decode cX0_hatedIn 89 = .ok (.iload_n 3, 1) := by decide +kernel
theorem dX0_hatedIn_90 : decode cX0_hatedIn 90 = .ok (.ireturn, 1) := by decide +kernel
theorem dX0_judgeAll_0 : decode cX0_judgeAll 0 = .ok (.iconst 0, 1) := by decide +kernel
theorem dX0_judgeAll_1 : decode cX0_judgeAll 1 = .ok (.istore_n 1, 1) := by decide +kernel
theorem dX0_judgeAll_2 : decode cX0_judgeAll 2 = .ok (.iload_n 1, 1) := by decide +kernel
theorem dX0_judgeAll_3 : decode cX0_judgeAll 3 = .ok (.aload_n 0, 1) := by decide +kernel
theorem dX0_judgeAll_4 : decode cX0_judgeAll 4 = .ok (.getfield 45, 3) := by decide +kernel
theorem dX0_judgeAll_7 : decode cX0_judgeAll 7 = .ok (.if_icmp .ge 72, 3) := by decide +kernel
theorem dX0_judgeAll_10 : decode cX0_judgeAll 10 = .ok (.iconst 0, 1) := by decide +kernel
theorem dX0_judgeAll_11 : decode cX0_judgeAll 11 = .ok (.istore_n 2, 1) := by decide +kernel
theorem dX0_judgeAll_12 : decode cX0_judgeAll 12 = .ok (.iconst 0, 1) := by decide +kernel
theorem dX0_judgeAll_13 : decode cX0_judgeAll 13 = .ok (.istore_n 3, 1) := by decide +kernel
theorem dX0_judgeAll_14 : decode cX0_judgeAll 14 = .ok (.iload_n 3, 1) := by decide +kernel
theorem dX0_judgeAll_15 : decode cX0_judgeAll 15 = .ok (.aload_n 0, 1) := by decide +kernel
theorem dX0_judgeAll_16 : decode cX0_judgeAll 16 = .ok (.getfield 41, 3) := by decide +kernel
theorem dX0_judgeAll_19 : decode cX0_judgeAll 19 = .ok (.if_icmp .ge 54, 3) := by decide +kernel
theorem dX0_judgeAll_22 : decode cX0_judgeAll 22 = .ok (.aload_n 0, 1) := by decide +kernel
theorem dX0_judgeAll_23 : decode cX0_judgeAll 23 = .ok (.iload_n 1, 1) := by decide +kernel
theorem dX0_judgeAll_24 : decode cX0_judgeAll 24 = .ok (.iload_n 3, 1) := by decide +kernel
theorem dX0_judgeAll_25 : decode cX0_judgeAll 25 = .ok (.iconst 0, 1) := by decide +kernel
theorem dX0_judgeAll_26 : decode cX0_judgeAll 26 = .ok (.sipush 1024, 3) := by decide +kernel
theorem dX0_judgeAll_29 : decode cX0_judgeAll 29 = .ok (.invokevirtual 89, 3) := by decide +kernel
theorem dX0_judgeAll_32 : decode cX0_judgeAll 32 = .ok (.iconst 1, 1) := by decide +kernel
theorem dX0_judgeAll_33 : decode cX0_judgeAll 33 = .ok (.istore 4, 2) := by decide +kernel
theorem dX0_judgeAll_35 : decode cX0_judgeAll 35 = .ok (.iload 4, 2) := by decide +kernel
theorem dX0_judgeAll_37 : decode cX0_judgeAll 37 = .ok (.iload_n 3, 1) := by decide +kernel
theorem dX0_judgeAll_38 : decode cX0_judgeAll 38 = .ok (.if_icmp .gt 18, 3) := by decide +kernel
theorem dX0_judgeAll_41 : decode cX0_judgeAll 41 = .ok (.aload_n 0, 1) := by decide +kernel
theorem dX0_judgeAll_42 : decode cX0_judgeAll 42 = .ok (.iload_n 1, 1) := by decide +kernel
theorem dX0_judgeAll_43 : decode cX0_judgeAll 43 = .ok (.iload_n 3, 1) := by decide +kernel
theorem dX0_judgeAll_44 : decode cX0_judgeAll 44 = .ok (.iload 4, 2) := by decide +kernel
theorem dX0_judgeAll_46 : decode cX0_judgeAll 46 = .ok (.iload_n 2, 1) := by decide +kernel
theorem dX0_judgeAll_47 : decode cX0_judgeAll 47 = .ok (.invokevirtual 89, 3) := by decide +kernel
theorem dX0_judgeAll_50 : decode cX0_judgeAll 50 = .ok (.iinc 4 1, 3) := by decide +kernel
theorem dX0_judgeAll_53 : decode cX0_judgeAll 53 = .ok (.goto (-18), 3) := by decide +kernel
theorem dX0_judgeAll_56 : decode cX0_judgeAll 56 = .ok (.iload_n 2, 1) := by decide +kernel
theorem dX0_judgeAll_57 : decode cX0_judgeAll 57 = .ok (.iconst 1, 1) := by decide +kernel
theorem dX0_judgeAll_58 : decode cX0_judgeAll 58 = .ok (.aload_n 0, 1) := by decide +kernel
theorem dX0_judgeAll_59 : decode cX0_judgeAll 59 = .ok (.getfield 15, 3) := by decide +kernel
theorem dX0_judgeAll_62 : decode cX0_judgeAll 62 = .ok (.iload_n 3, 1) := by decide +kernel
theorem dX0_judgeAll_63 : decode cX0_judgeAll 63 = .ok (.iaload, 1) := by decide +kernel
theorem dX0_judgeAll_64 : decode cX0_judgeAll 64 = .ok (.ishl, 1) := by decide +kernel
theorem dX0_judgeAll_65 : decode cX0_judgeAll 65 = .ok (.ior, 1) := by decide +kernel
theorem dX0_judgeAll_66 : decode cX0_judgeAll 66 = .ok (.istore_n 2, 1) := by decide +kernel
theorem dX0_judgeAll_67 : decode cX0_judgeAll 67 = .ok (.iinc 3 1, 3) := by decide +kernel
theorem dX0_judgeAll_70 : decode cX0_judgeAll 70 = .ok (.goto (-56), 3) := by decide +kernel
theorem dX0_judgeAll_73 : decode cX0_judgeAll 73 = .ok (.iinc 1 1, 3) := by decide +kernel
theorem dX0_judgeAll_76 : decode cX0_judgeAll 76 = .ok (.goto (-74), 3) := by decide +kernel
theorem dX0_judgeAll_79 : decode cX0_judgeAll 79 = .ok (.return_, 1) := by decide +kernel
theorem dX0_judge_0 : decode cX0_judge 0 = .ok (.aload_n 0, 1) := by decide +kernel
theorem dX0_judge_1 : decode cX0_judge 1 = .ok (.iload_n 1, 1) := by decide +kernel
theorem dX0_judge_2 : decode cX0_judge 2 = .ok (.iload_n 2, 1) := by decide +kernel
theorem dX0_judge_3 : decode cX0_judge 3 = .ok (.iload_n 3, 1) := by decide +kernel
theorem dX0_judge_4 : decode cX0_judge 4 = .ok (.invokevirtual 85, 3) := by decide +kernel
theorem dX0_judge_7 : decode cX0_judge 7 = .ok (.istore 5, 2) := by decide +kernel
theorem dX0_judge_9 : decode cX0_judge 9 = .ok (.iload 5, 2) := by decide +kernel
theorem dX0_judge_11 : decode cX0_judge 11 = .ok (.iconst (-1), 1) := by decide +kernel
theorem dX0_judge_12 : decode cX0_judge 12 = .ok (.if_icmp .ne 4, 3) := by decide +kernel
theorem dX0_judge_15 : decode cX0_judge 15 = .ok (.return_, 1) := by decide +kernel
theorem dX0_judge_16 : decode cX0_judge 16 = .ok (.aload_n 0, 1) := by decide +kernel
theorem dX0_judge_17 : decode cX0_judge 17 = .ok (.getfield 38, 3) := by decide +kernel
theorem dX0_judge_20 : decode cX0_judge 20 = .ok (.iload 5, 2) := by decide +kernel
theorem dX0_judge_22 : decode cX0_judge 22 = .ok (.iconst 0, 1) := by decide +kernel
theorem dX0_judge_23 : decode cX0_judge 23 = .ok (.iastore, 1) := by decide +kernel
theorem dX0_judge_24 : decode cX0_judge 24 = .ok (.iconst 0, 1) := by decide +kernel
theorem dX0_judge_25 : decode cX0_judge 25 = .ok (.istore 6, 2) := by decide +kernel
theorem dX0_judge_27 : decode cX0_judge 27 = .ok (.iload 6, 2) := by decide +kernel
theorem dX0_judge_29 : decode cX0_judge 29 = .ok (.bipush 10, 2) := by decide +kernel
theorem dX0_judge_31 : decode cX0_judge 31 = .ok (.if_icmp .gt 60, 3) := by decide +kernel
theorem dX0_judge_34 : decode cX0_judge 34 = .ok (.iload 4, 2) := by decide +kernel
theorem dX0_judge_36 : decode cX0_judge 36 = .ok (.iload 6, 2) := by decide +kernel
theorem dX0_judge_38 : decode cX0_judge 38 = .ok (.ishr, 1) := by decide +kernel
theorem dX0_judge_39 : decode cX0_judge 39 = .ok (.iconst 1, 1) := by decide +kernel
theorem dX0_judge_40 : decode cX0_judge 40 = .ok (.iand, 1) := by decide +kernel
theorem dX0_judge_41 : decode cX0_judge 41 = .ok (.iconst 1, 1) := by decide +kernel
theorem dX0_judge_42 : decode cX0_judge 42 = .ok (.if_icmp .ne 43, 3) := by decide +kernel
theorem dX0_judge_45 : decode cX0_judge 45 = .ok (.aload_n 0, 1) := by decide +kernel
theorem dX0_judge_46 : decode cX0_judge 46 = .ok (.getfield 34, 3) := by decide +kernel
theorem dX0_judge_49 : decode cX0_judge 49 = .ok (.iload_n 1, 1) := by decide +kernel
theorem dX0_judge_50 : decode cX0_judge 50 = .ok (.aload_n 0, 1) := by decide +kernel
theorem dX0_judge_51 : decode cX0_judge 51 = .ok (.getfield 15, 3) := by decide +kernel
theorem dX0_judge_54 : decode cX0_judge 54 = .ok (.iload_n 2, 1) := by decide +kernel
theorem dX0_judge_55 : decode cX0_judge 55 = .ok (.iaload, 1) := by decide +kernel
theorem dX0_judge_56 : decode cX0_judge 56 = .ok (.aload_n 0, 1) := by decide +kernel
theorem dX0_judge_57 : decode cX0_judge 57 = .ok (.getfield 19, 3) := by decide +kernel
theorem dX0_judge_60 : decode cX0_judge 60 = .ok (.iload_n 2, 1) := by decide +kernel
theorem dX0_judge_61 : decode cX0_judge 61 = .ok (.iaload, 1) := by decide +kernel
theorem dX0_judge_62 : decode cX0_judge 62 = .ok (.iload_n 3, 1) := by decide +kernel
theorem dX0_judge_63 : decode cX0_judge 63 = .ok (.iload 6, 2) := by decide +kernel
theorem dX0_judge_65 : decode cX0_judge 65 = .ok (.invokevirtual 93, 3) := by decide +kernel
theorem dX0_judge_68 : decode cX0_judge 68 = .ok (.ifCond .eq 17, 3) := by decide +kernel
theorem dX0_judge_71 : decode cX0_judge 71 = .ok (.aload_n 0, 1) := by decide +kernel
theorem dX0_judge_72 : decode cX0_judge 72 = .ok (.getfield 38, 3) := by decide +kernel
theorem dX0_judge_75 : decode cX0_judge 75 = .ok (.iload 5, 2) := by decide +kernel
theorem dX0_judge_77 : decode cX0_judge 77 = .ok (.dup2, 1) := by decide +kernel
theorem dX0_judge_78 : decode cX0_judge 78 = .ok (.iaload, 1) := by decide +kernel
theorem dX0_judge_79 : decode cX0_judge 79 = .ok (.iconst 1, 1) := by decide +kernel
theorem dX0_judge_80 : decode cX0_judge 80 = .ok (.iload 6, 2) := by decide +kernel
theorem dX0_judge_82 : decode cX0_judge 82 = .ok (.ishl, 1) := by decide +kernel
theorem dX0_judge_83 : decode cX0_judge 83 = .ok (.ior, 1) := by decide +kernel
theorem dX0_judge_84 : decode cX0_judge 84 = .ok (.iastore, 1) := by decide +kernel
theorem dX0_judge_85 : decode cX0_judge 85 = .ok (.iinc 6 1, 3) := by decide +kernel
theorem dX0_judge_88 : decode cX0_judge 88 = .ok (.goto (-61), 3) := by decide +kernel
theorem dX0_judge_91 : decode cX0_judge 91 = .ok (.return_, 1) := by decide +kernel
theorem dX0_keyOf_0 : decode cX0_keyOf 0 = .ok (.aload_n 0, 1) := by decide +kernel
theorem dX0_keyOf_1 : decode cX0_keyOf 1 = .ok (.iload_n 1, 1) := by decide +kernel
theorem dX0_keyOf_2 : decode cX0_keyOf 2 = .ok (.invokevirtual 73, 3) := by decide +kernel
theorem dX0_keyOf_5 : decode cX0_keyOf 5 = .ok (.ifCond .eq 25, 3) := by decide +kernel
theorem dX0_keyOf_8 : decode cX0_keyOf 8 = .ok (.aload_n 0, 1) := by decide +kernel
theorem dX0_keyOf_9 : decode cX0_keyOf 9 = .ok (.iload_n 2, 1) := by decide +kernel
theorem dX0_keyOf_10 : decode cX0_keyOf 10 = .ok (.invokevirtual 51, 3) := by decide +kernel
theorem dX0_keyOf_13 : decode cX0_keyOf 13 = .ok (.ifCond .eq 17, 3) := by decide +kernel
theorem dX0_keyOf_16 : decode cX0_keyOf 16 = .ok (.iload_n 3, 1) := by decide +kernel
theorem dX0_keyOf_17 : decode cX0_keyOf 17 = .ok (.ifCond .lt 13, 3) := by decide +kernel
theorem dX0_keyOf_20 : decode cX0_keyOf 20 = .ok (.iload_n 3, 1) := by decide +kernel
theorem dX0_keyOf_21 : decode cX0_keyOf 21 = .ok (.bipush 10, 2) := by decide +kernel
theorem dX0_keyOf_23 : decode cX0_keyOf 23 = .ok (.if_icmp .ge 7, 3) := by decide +kernel
theorem dX0_keyOf_26 : decode cX0_keyOf 26 = .ok (.iconst 1, 1) := by decide +kernel
theorem dX0_keyOf_27 : decode cX0_keyOf 27 = .ok (.goto 4, 3) := by decide +kernel
theorem dX0_keyOf_30 : decode cX0_keyOf 30 = .ok (.iconst 0, 1) := by decide +kernel
theorem dX0_keyOf_31 : decode cX0_keyOf 31 = .ok (.istore 4, 2) := by decide +kernel
theorem dX0_keyOf_33 : decode cX0_keyOf 33 = .ok (.iload 4, 2) := by decide +kernel
theorem dX0_keyOf_35 : decode cX0_keyOf 35 = .ok (.ifCond .eq 17, 3) := by decide +kernel
theorem dX0_keyOf_38 : decode cX0_keyOf 38 = .ok (.iload_n 1, 1) := by decide +kernel
theorem dX0_keyOf_39 : decode cX0_keyOf 39 = .ok (.bipush 10, 2) := by decide +kernel
theorem dX0_keyOf_41 : decode cX0_keyOf 41 = .ok (.imul, 1) := by decide +kernel
theorem dX0_keyOf_42 : decode cX0_keyOf 42 = .ok (.iload_n 2, 1) := by decide +kernel
theorem dX0_keyOf_43 : decode cX0_keyOf 43 = .ok (.iadd, 1) := by decide +kernel
theorem dX0_keyOf_44 : decode cX0_keyOf 44 = .ok (.bipush 10, 2) := by decide +kernel
theorem dX0_keyOf_46 : decode cX0_keyOf 46 = .ok (.imul, 1) := by decide +kernel
theorem dX0_keyOf_47 : decode cX0_keyOf 47 = .ok (.iload_n 3, 1) := by decide +kernel
theorem dX0_keyOf_48 : decode cX0_keyOf 48 = .ok (.iadd, 1) := by decide +kernel
theorem dX0_keyOf_49 : decode cX0_keyOf 49 = .ok (.goto 4, 3) := by decide +kernel
theorem dX0_keyOf_52 : decode cX0_keyOf 52 = .ok (.iconst (-1), 1) := by decide +kernel
theorem dX0_keyOf_53 : decode cX0_keyOf 53 = .ok (.ireturn, 1) := by decide +kernel
theorem dX0_lastOf_0 : decode cX0_lastOf 0 = .ok (.iconst 0, 1) := by decide +kernel
theorem dX0_lastOf_1 : decode cX0_lastOf 1 = .ok (.istore_n 2, 1) := by decide +kernel
theorem dX0_lastOf_2 : decode cX0_lastOf 2 = .ok (.iconst 0, 1) := by decide +kernel
theorem dX0_lastOf_3 : decode cX0_lastOf 3 = .ok (.istore_n 3, 1) := by decide +kernel
theorem dX0_lastOf_4 : decode cX0_lastOf 4 = .ok (.iload_n 3, 1) := by decide +kernel
theorem dX0_lastOf_5 : decode cX0_lastOf 5 = .ok (.aload_n 0, 1) := by decide +kernel
theorem dX0_lastOf_6 : decode cX0_lastOf 6 = .ok (.getfield 41, 3) := by decide +kernel
theorem dX0_lastOf_9 : decode cX0_lastOf 9 = .ok (.if_icmp .ge 22, 3) := by decide +kernel
theorem dX0_lastOf_12 : decode cX0_lastOf 12 = .ok (.iload_n 1, 1) := by decide +kernel
theorem dX0_lastOf_13 : decode cX0_lastOf 13 = .ok (.iload_n 3, 1) := by decide +kernel
theorem dX0_lastOf_14 : decode cX0_lastOf 14 = .ok (.ishr, 1) := by decide +kernel
theorem dX0_lastOf_15 : decode cX0_lastOf 15 = .ok (.iconst 1, 1) := by decide +kernel
theorem dX0_lastOf_16 : decode cX0_lastOf 16 = .ok (.iand, 1) := by decide +kernel
theorem dX0_lastOf_17 : decode cX0_lastOf 17 = .ok (.iconst 1, 1) := by decide +kernel
theorem dX0_lastOf_18 : decode cX0_lastOf 18 = .ok (.if_icmp .ne 7, 3) := by decide +kernel
theorem dX0_lastOf_21 : decode cX0_lastOf 21 = .ok (.iconst 1, 1) := by decide +kernel
theorem dX0_lastOf_22 : decode cX0_lastOf 22 = .ok (.iload_n 3, 1) := by decide +kernel
theorem dX0_lastOf_23 : decode cX0_lastOf 23 = .ok (.ishl, 1) := by decide +kernel
theorem dX0_lastOf_24 : decode cX0_lastOf 24 = .ok (.istore_n 2, 1) := by decide +kernel
theorem dX0_lastOf_25 : decode cX0_lastOf 25 = .ok (.iinc 3 1, 3) := by decide +kernel
theorem dX0_lastOf_28 : decode cX0_lastOf 28 = .ok (.goto (-24), 3) := by decide +kernel
theorem dX0_lastOf_31 : decode cX0_lastOf 31 = .ok (.iload_n 2, 1) := by decide +kernel
theorem dX0_lastOf_32 : decode cX0_lastOf 32 = .ok (.ireturn, 1) := by decide +kernel
theorem dX0_behind_0 : decode cX0_behind 0 = .ok (.iconst 0, 1) := by decide +kernel
theorem dX0_behind_1 : decode cX0_behind 1 = .ok (.istore_n 3, 1) := by decide +kernel
theorem dX0_behind_2 : decode cX0_behind 2 = .ok (.iconst 0, 1) := by decide +kernel
theorem dX0_behind_3 : decode cX0_behind 3 = .ok (.istore 4, 2) := by decide +kernel
theorem dX0_behind_5 : decode cX0_behind 5 = .ok (.iconst 0, 1) := by decide +kernel
theorem dX0_behind_6 : decode cX0_behind 6 = .ok (.istore 5, 2) := by decide +kernel
theorem dX0_behind_8 : decode cX0_behind 8 = .ok (.iload 5, 2) := by decide +kernel
theorem dX0_behind_10 : decode cX0_behind 10 = .ok (.aload_n 0, 1) := by decide +kernel
theorem dX0_behind_11 : decode cX0_behind 11 = .ok (.getfield 41, 3) := by decide +kernel
theorem dX0_behind_14 : decode cX0_behind 14 = .ok (.if_icmp .ge 48, 3) := by decide +kernel
theorem dX0_behind_17 : decode cX0_behind 17 = .ok (.iload_n 2, 1) := by decide +kernel
theorem dX0_behind_18 : decode cX0_behind 18 = .ok (.iload 5, 2) := by decide +kernel
theorem dX0_behind_20 : decode cX0_behind 20 = .ok (.ishr, 1) := by decide +kernel
theorem dX0_behind_21 : decode cX0_behind 21 = .ok (.iconst 1, 1) := by decide +kernel
theorem dX0_behind_22 : decode cX0_behind 22 = .ok (.iand, 1) := by decide +kernel
theorem dX0_behind_23 : decode cX0_behind 23 = .ok (.iconst 1, 1) := by decide +kernel
theorem dX0_behind_24 : decode cX0_behind 24 = .ok (.if_icmp .ne 32, 3) := by decide +kernel
theorem dX0_behind_27 : decode cX0_behind 27 = .ok (.iload 4, 2) := by decide +kernel
theorem dX0_behind_29 : decode cX0_behind 29 = .ok (.ifCond .eq 10, 3) := by decide +kernel
theorem dX0_behind_32 : decode cX0_behind 32 = .ok (.iload_n 3, 1) := by decide +kernel
theorem dX0_behind_33 : decode cX0_behind 33 = .ok (.iconst 1, 1) := by decide +kernel
theorem dX0_behind_34 : decode cX0_behind 34 = .ok (.iload 5, 2) := by decide +kernel
theorem dX0_behind_36 : decode cX0_behind 36 = .ok (.ishl, 1) := by decide +kernel
theorem dX0_behind_37 : decode cX0_behind 37 = .ok (.ior, 1) := by decide +kernel
theorem dX0_behind_38 : decode cX0_behind 38 = .ok (.istore_n 3, 1) := by decide +kernel
theorem dX0_behind_39 : decode cX0_behind 39 = .ok (.iload_n 1, 1) := by decide +kernel
theorem dX0_behind_40 : decode cX0_behind 40 = .ok (.iload 5, 2) := by decide +kernel
theorem dX0_behind_42 : decode cX0_behind 42 = .ok (.ishr, 1) := by decide +kernel
theorem dX0_behind_43 : decode cX0_behind 43 = .ok (.iconst 1, 1) := by decide +kernel
theorem dX0_behind_44 : decode cX0_behind 44 = .ok (.iand, 1) := by decide +kernel
theorem dX0_behind_45 : decode cX0_behind 45 = .ok (.iconst 1, 1) := by decide +kernel
theorem dX0_behind_46 : decode cX0_behind 46 = .ok (.if_icmp .ne 7, 3) := by decide +kernel
theorem dX0_behind_49 : decode cX0_behind 49 = .ok (.iconst 1, 1) := by decide +kernel
theorem dX0_behind_50 : decode cX0_behind 50 = .ok (.goto 4, 3) := by decide +kernel
theorem dX0_behind_53 : decode cX0_behind 53 = .ok (.iconst 0, 1) := by decide +kernel
theorem dX0_behind_54 : decode cX0_behind 54 = .ok (.istore 4, 2) := by decide +kernel
theorem dX0_behind_56 : decode cX0_behind 56 = .ok (.iinc 5 1, 3) := by decide +kernel
theorem dX0_behind_59 : decode cX0_behind 59 = .ok (.goto (-51), 3) := by decide +kernel
theorem dX0_behind_62 : decode cX0_behind 62 = .ok (.iload_n 3, 1) := by decide +kernel
theorem dX0_behind_63 : decode cX0_behind 63 = .ok (.ireturn, 1) := by decide +kernel
theorem dX1_init_0 : decode cX1_init 0 = .ok (.aload_n 0, 1) := by decide +kernel
theorem dX1_init_1 : decode cX1_init 1 = .ok (.invokespecial 1, 3) := by decide +kernel
theorem dX1_init_4 : decode cX1_init 4 = .ok (.return_, 1) := by decide +kernel
theorem dX1_begin_0 : decode cX1_begin 0 = .ok (.aload_n 0, 1) := by decide +kernel
theorem dX1_begin_1 : decode cX1_begin 1 = .ok (.iload_n 1, 1) := by decide +kernel
theorem dX1_begin_2 : decode cX1_begin 2 = .ok (.i2l, 1) := by decide +kernel
theorem dX1_begin_3 : decode cX1_begin 3 = .ok (.putfield 7, 3) := by decide +kernel
theorem dX1_begin_6 : decode cX1_begin 6 = .ok (.return_, 1) := by decide +kernel
theorem dX1_below_0 : decode cX1_below 0 = .ok (.aload_n 0, 1) := by decide +kernel
theorem dX1_below_1 : decode cX1_below 1 = .ok (.aload_n 0, 1) := by decide +kernel
theorem dX1_below_2 : decode cX1_below 2 = .ok (.getfield 7, 3) := by decide +kernel
theorem dX1_below_5 : decode cX1_below 5 = .ok (.ldc2_w 13, 3) := by decide +kernel
theorem dX1_below_8 : decode cX1_below 8 = .ok (.lmul, 1) := by decide +kernel
theorem dX1_below_9 : decode cX1_below 9 = .ok (.ldc2_w 15, 3) := by decide +kernel
theorem dX1_below_12 : decode cX1_below 12 = .ok (.ladd, 1) := by decide +kernel
theorem dX1_below_13 : decode cX1_below 13 = .ok (.ldc2_w 17, 3) := by decide +kernel
theorem dX1_below_16 : decode cX1_below 16 = .ok (.lrem, 1) := by decide +kernel
theorem dX1_below_17 : decode cX1_below 17 = .ok (.putfield 7, 3) := by decide +kernel
theorem dX1_below_20 : decode cX1_below 20 = .ok (.iload_n 1, 1) := by decide +kernel
theorem dX1_below_21 : decode cX1_below 21 = .ok (.iconst 1, 1) := by decide +kernel
theorem dX1_below_22 : decode cX1_below 22 = .ok (.if_icmp .ge 7, 3) := by decide +kernel
theorem dX1_below_25 : decode cX1_below 25 = .ok (.iconst 0, 1) := by decide +kernel
theorem dX1_below_26 : decode cX1_below 26 = .ok (.goto 15, 3) := by decide +kernel
theorem dX1_below_29 : decode cX1_below 29 = .ok (.aload_n 0, 1) := by decide +kernel
theorem dX1_below_30 : decode cX1_below 30 = .ok (.getfield 7, 3) := by decide +kernel
theorem dX1_below_33 : decode cX1_below 33 = .ok (.ldc2_w 19, 3) := by decide +kernel
theorem dX1_below_36 : decode cX1_below 36 = .ok (.ldiv, 1) := by decide +kernel
theorem dX1_below_37 : decode cX1_below 37 = .ok (.iload_n 1, 1) := by decide +kernel
theorem dX1_below_38 : decode cX1_below 38 = .ok (.i2l, 1) := by decide +kernel
theorem dX1_below_39 : decode cX1_below 39 = .ok (.lrem, 1) := by decide +kernel
theorem dX1_below_40 : decode cX1_below 40 = .ok (.l2i, 1) := by decide +kernel
theorem dX1_below_41 : decode cX1_below 41 = .ok (.ireturn, 1) := by decide +kernel
theorem dX2_init_0 : decode cX2_init 0 = .ok (.aload_n 0, 1) := by decide +kernel
theorem dX2_init_1 : decode cX2_init 1 = .ok (.invokespecial 3, 3) := by decide +kernel
theorem dX2_init_4 : decode cX2_init 4 = .ok (.aload_n 0, 1) := by decide +kernel
theorem dX2_init_5 : decode cX2_init 5 = .ok (.sipush 1000, 3) := by decide +kernel
theorem dX2_init_8 : decode cX2_init 8 = .ok (.newarray .int, 2) := by decide +kernel
theorem dX2_init_10 : decode cX2_init 10 = .ok (.putfield 9, 3) := by decide +kernel
theorem dX2_init_13 : decode cX2_init 13 = .ok (.aload_n 0, 1) := by decide +kernel
theorem dX2_init_14 : decode cX2_init 14 = .ok (.bipush 6, 2) := by decide +kernel
theorem dX2_init_16 : decode cX2_init 16 = .ok (.newarray .int, 2) := by decide +kernel
theorem dX2_init_18 : decode cX2_init 18 = .ok (.putfield 15, 3) := by decide +kernel
theorem dX2_init_21 : decode cX2_init 21 = .ok (.aload_n 0, 1) := by decide +kernel
theorem dX2_init_22 : decode cX2_init 22 = .ok (.bipush 24, 2) := by decide +kernel
theorem dX2_init_24 : decode cX2_init 24 = .ok (.newarray .int, 2) := by decide +kernel
theorem dX2_init_26 : decode cX2_init 26 = .ok (.putfield 18, 3) := by decide +kernel
theorem dX2_init_29 : decode cX2_init 29 = .ok (.return_, 1) := by decide +kernel
theorem dX2_add_0 : decode cX2_add 0 = .ok (.aload_n 0, 1) := by decide +kernel
theorem dX2_add_1 : decode cX2_add 1 = .ok (.getfield 21, 3) := by decide +kernel
theorem dX2_add_4 : decode cX2_add 4 = .ok (.sipush 1000, 3) := by decide +kernel
theorem dX2_add_7 : decode cX2_add 7 = .ok (.if_icmp .ge 23, 3) := by decide +kernel
theorem dX2_add_10 : decode cX2_add 10 = .ok (.aload_n 0, 1) := by decide +kernel
theorem dX2_add_11 : decode cX2_add 11 = .ok (.getfield 9, 3) := by decide +kernel
theorem dX2_add_14 : decode cX2_add 14 = .ok (.aload_n 0, 1) := by decide +kernel
theorem dX2_add_15 : decode cX2_add 15 = .ok (.getfield 21, 3) := by decide +kernel
theorem dX2_add_18 : decode cX2_add 18 = .ok (.iload_n 1, 1) := by decide +kernel
theorem dX2_add_19 : decode cX2_add 19 = .ok (.iastore, 1) := by decide +kernel
theorem dX2_add_20 : decode cX2_add 20 = .ok (.aload_n 0, 1) := by decide +kernel
theorem dX2_add_21 : decode cX2_add 21 = .ok (.dup, 1) := by decide +kernel
theorem dX2_add_22 : decode cX2_add 22 = .ok (.getfield 21, 3) := by decide +kernel
theorem dX2_add_25 : decode cX2_add 25 = .ok (.iconst 1, 1) := by decide +kernel
theorem dX2_add_26 : decode cX2_add 26 = .ok (.iadd, 1) := by decide +kernel
theorem dX2_add_27 : decode cX2_add 27 = .ok (.putfield 21, 3) := by decide +kernel
theorem dX2_add_30 : decode cX2_add 30 = .ok (.return_, 1) := by decide +kernel
theorem dX2_valueFor_0 : decode cX2_valueFor 0 = .ok (.iload_n 1, 1) := by decide +kernel
theorem dX2_valueFor_1 : decode cX2_valueFor 1 = .ok (.ifCond .lt 9, 3) := by decide +kernel
theorem dX2_valueFor_4 : decode cX2_valueFor 4 = .ok (.iload_n 1, 1) := by decide +kernel
theorem dX2_valueFor_5 : decode cX2_valueFor 5 = .ok (.bipush 6, 2) := by decide +kernel
theorem dX2_valueFor_7 : decode cX2_valueFor 7 = .ok (.if_icmp .lt 5, 3) := by decide +kernel
theorem dX2_valueFor_10 : decode cX2_valueFor 10 = .ok (.iconst 0, 1) := by decide +kernel
theorem dX2_valueFor_11 : decode cX2_valueFor 11 = .ok (.ireturn, 1) := by decide +kernel
theorem dX2_valueFor_12 : decode cX2_valueFor 12 = .ok (.iconst 0, 1) := by decide +kernel
theorem dX2_valueFor_13 : decode cX2_valueFor 13 = .ok (.istore 6, 2) := by decide +kernel
theorem dX2_valueFor_15 : decode cX2_valueFor 15 = .ok (.iload_n 1, 1) := by decide +kernel
theorem dX2_valueFor_16 : decode cX2_valueFor 16 = .ok (.ifCond .ne 7, 3) := by decide +kernel
theorem dX2_valueFor_19 : decode cX2_valueFor 19 = .ok (.iconst 0, 1) := by decide +kernel
theorem dX2_valueFor_20 : decode cX2_valueFor 20 = .ok (.goto 11, 3) := by decide +kernel
theorem dX2_valueFor_23 : decode cX2_valueFor 23 = .ok (.aload_n 0, 1) := by decide +kernel
theorem dX2_valueFor_24 : decode cX2_valueFor 24 = .ok (.getfield 15, 3) := by decide +kernel
theorem dX2_valueFor_27 : decode cX2_valueFor 27 = .ok (.iload_n 1, 1) := by decide +kernel
theorem dX2_valueFor_28 : decode cX2_valueFor 28 = .ok (.iconst 1, 1) := by decide +kernel
theorem dX2_valueFor_29 : decode cX2_valueFor 29 = .ok (.isub, 1) := by decide +kernel
theorem dX2_valueFor_30 : decode cX2_valueFor 30 = .ok (.iaload, 1) := by decide +kernel
theorem dX2_valueFor_31 : decode cX2_valueFor 31 = .ok (.istore 7, 2) := by decide +kernel
theorem dX2_valueFor_33 : decode cX2_valueFor 33 = .ok (.iload 7, 2) := by decide +kernel
theorem dX2_valueFor_35 : decode cX2_valueFor 35 = .ok (.aload_n 0, 1) := by decide +kernel
theorem dX2_valueFor_36 : decode cX2_valueFor 36 = .ok (.getfield 15, 3) := by decide +kernel
theorem dX2_valueFor_39 : decode cX2_valueFor 39 = .ok (.iload_n 1, 1) := by decide +kernel
theorem dX2_valueFor_40 : decode cX2_valueFor 40 = .ok (.iaload, 1) := by decide +kernel
theorem dX2_valueFor_41 : decode cX2_valueFor 41 = .ok (.if_icmp .ge 222, 3) := by decide +kernel
theorem dX2_valueFor_44 : decode cX2_valueFor 44 = .ok (.iload 7, 2) := by decide +kernel
theorem dX2_valueFor_46 : decode cX2_valueFor 46 = .ok (.sipush 1000, 3) := by decide +kernel
theorem dX2_valueFor_49 : decode cX2_valueFor 49 = .ok (.if_icmp .ge 214, 3) := by decide +kernel
theorem dX2_valueFor_52 : decode cX2_valueFor 52 = .ok (.aload_n 0, 1) := by decide +kernel
theorem dX2_valueFor_53 : decode cX2_valueFor 53 = .ok (.getfield 9, 3) := by decide +kernel
theorem dX2_valueFor_56 : decode cX2_valueFor 56 = .ok (.iload 7, 2) := by decide +kernel
theorem dX2_valueFor_58 : decode cX2_valueFor 58 = .ok (.iaload, 1) := by decide +kernel
theorem dX2_valueFor_59 : decode cX2_valueFor 59 = .ok (.istore 8, 2) := by decide +kernel
theorem dX2_valueFor_61 : decode cX2_valueFor 61 = .ok (.iload 8, 2) := by decide +kernel
theorem dX2_valueFor_63 : decode cX2_valueFor 63 = .ok (.bipush (-5), 2) := by decide +kernel
theorem dX2_valueFor_65 : decode cX2_valueFor 65 = .ok (.if_icmp .le 107, 3) := by decide +kernel
theorem dX2_valueFor_68 : decode cX2_valueFor 68 = .ok (.iload 6, 2) := by decide +kernel
theorem dX2_valueFor_70 : decode cX2_valueFor 70 = .ok (.bipush 24, 2) := by decide +kernel
theorem dX2_valueFor_72 : decode cX2_valueFor 72 = .ok (.if_icmp .lt 5, 3) := by decide +kernel
theorem dX2_valueFor_75 : decode cX2_valueFor 75 = .ok (.iconst 0, 1) := by decide +kernel
theorem dX2_valueFor_76 : decode cX2_valueFor 76 = .ok (.ireturn, 1) := by decide +kernel
theorem dX2_valueFor_77 : decode cX2_valueFor 77 = .ok (.aload_n 0, 1) := by decide +kernel
theorem dX2_valueFor_78 : decode cX2_valueFor 78 = .ok (.getfield 18, 3) := by decide +kernel
theorem dX2_valueFor_81 : decode cX2_valueFor 81 = .ok (.iload 6, 2) := by decide +kernel
theorem dX2_valueFor_83 : decode cX2_valueFor 83 = .ok (.iload 8, 2) := by decide +kernel
theorem dX2_valueFor_85 : decode cX2_valueFor 85 = .ok (.iastore, 1) := by decide +kernel
theorem dX2_valueFor_86 : decode cX2_valueFor 86 = .ok (.iload 8, 2) := by decide +kernel
theorem dX2_valueFor_88 : decode cX2_valueFor 88 = .ok (.tableswitch 78 (-4) (-1) #[66, 54, 43, 32], 32) := by decide +kernel
theorem dX2_valueFor_120 : decode cX2_valueFor 120 = .ok (.aload_n 0, 1) := by decide +kernel
theorem dX2_valueFor_121 : decode cX2_valueFor 121 = .ok (.getfield 18, 3) := by decide +kernel
theorem dX2_valueFor_124 : decode cX2_valueFor 124 = .ok (.iload 6, 2) := by decide +kernel
theorem dX2_valueFor_126 : decode cX2_valueFor 126 = .ok (.iload_n 2, 1) := by decide +kernel
theorem dX2_valueFor_127 : decode cX2_valueFor 127 = .ok (.iastore, 1) := by decide +kernel
theorem dX2_valueFor_128 : decode cX2_valueFor 128 = .ok (.goto 38, 3) := by decide +kernel
theorem dX2_valueFor_131 : decode cX2_valueFor 131 = .ok (.aload_n 0, 1) := by decide +kernel
theorem dX2_valueFor_132 : decode cX2_valueFor 132 = .ok (.getfield 18, 3) := by decide +kernel
theorem dX2_valueFor_135 : decode cX2_valueFor 135 = .ok (.iload 6, 2) := by decide +kernel
theorem dX2_valueFor_137 : decode cX2_valueFor 137 = .ok (.iload_n 3, 1) := by decide +kernel
theorem dX2_valueFor_138 : decode cX2_valueFor 138 = .ok (.iastore, 1) := by decide +kernel
theorem dX2_valueFor_139 : decode cX2_valueFor 139 = .ok (.goto 27, 3) := by decide +kernel
theorem dX2_valueFor_142 : decode cX2_valueFor 142 = .ok (.aload_n 0, 1) := by decide +kernel
theorem dX2_valueFor_143 : decode cX2_valueFor 143 = .ok (.getfield 18, 3) := by decide +kernel
theorem dX2_valueFor_146 : decode cX2_valueFor 146 = .ok (.iload 6, 2) := by decide +kernel
theorem dX2_valueFor_148 : decode cX2_valueFor 148 = .ok (.iload 4, 2) := by decide +kernel
theorem dX2_valueFor_150 : decode cX2_valueFor 150 = .ok (.iastore, 1) := by decide +kernel
theorem dX2_valueFor_151 : decode cX2_valueFor 151 = .ok (.goto 15, 3) := by decide +kernel
theorem dX2_valueFor_154 : decode cX2_valueFor 154 = .ok (.aload_n 0, 1) := by decide +kernel
theorem dX2_valueFor_155 : decode cX2_valueFor 155 = .ok (.getfield 18, 3) := by decide +kernel
theorem dX2_valueFor_158 : decode cX2_valueFor 158 = .ok (.iload 6, 2) := by decide +kernel
theorem dX2_valueFor_160 : decode cX2_valueFor 160 = .ok (.iload 5, 2) := by decide +kernel
theorem dX2_valueFor_162 : decode cX2_valueFor 162 = .ok (.iastore, 1) := by decide +kernel
theorem dX2_valueFor_163 : decode cX2_valueFor 163 = .ok (.goto 3, 3) := by decide +kernel
theorem dX2_valueFor_166 : decode cX2_valueFor 166 = .ok (.iinc 6 1, 3) := by decide +kernel
theorem dX2_valueFor_169 : decode cX2_valueFor 169 = .ok (.goto 88, 3) := by decide +kernel
theorem dX2_valueFor_172 : decode cX2_valueFor 172 = .ok (.iload 8, 2) := by decide +kernel
theorem dX2_valueFor_174 : decode cX2_valueFor 174 = .ok (.bipush (-5), 2) := by decide +kernel
theorem dX2_valueFor_176 : decode cX2_valueFor 176 = .ok (.if_icmp .ne 40, 3) := by decide +kernel
theorem dX2_valueFor_179 : decode cX2_valueFor 179 = .ok (.iload 6, 2) := by decide +kernel
theorem dX2_valueFor_181 : decode cX2_valueFor 181 = .ok (.iconst 1, 1) := by decide +kernel
theorem dX2_valueFor_182 : decode cX2_valueFor 182 = .ok (.if_icmp .ge 5, 3) := by decide +kernel
theorem dX2_valueFor_185 : decode cX2_valueFor 185 = .ok (.iconst 0, 1) := by decide +kernel
theorem dX2_valueFor_186 : decode cX2_valueFor 186 = .ok (.ireturn, 1) := by decide +kernel
theorem dX2_valueFor_187 : decode cX2_valueFor 187 = .ok (.aload_n 0, 1) := by decide +kernel
theorem dX2_valueFor_188 : decode cX2_valueFor 188 = .ok (.getfield 18, 3) := by decide +kernel
theorem dX2_valueFor_191 : decode cX2_valueFor 191 = .ok (.iload 6, 2) := by decide +kernel
theorem dX2_valueFor_193 : decode cX2_valueFor 193 = .ok (.iconst 1, 1) := by decide +kernel
theorem dX2_valueFor_194 : decode cX2_valueFor 194 = .ok (.isub, 1) := by decide +kernel
theorem dX2_valueFor_195 : decode cX2_valueFor 195 = .ok (.aload_n 0, 1) := by decide +kernel
theorem dX2_valueFor_196 : decode cX2_valueFor 196 = .ok (.getfield 18, 3) := by decide +kernel
theorem dX2_valueFor_199 : decode cX2_valueFor 199 = .ok (.iload 6, 2) := by decide +kernel
theorem dX2_valueFor_201 : decode cX2_valueFor 201 = .ok (.iconst 1, 1) := by decide +kernel
theorem dX2_valueFor_202 : decode cX2_valueFor 202 = .ok (.isub, 1) := by decide +kernel
theorem dX2_valueFor_203 : decode cX2_valueFor 203 = .ok (.iaload, 1) := by decide +kernel
theorem dX2_valueFor_204 : decode cX2_valueFor 204 = .ok (.ifCond .ne 7, 3) := by decide +kernel
theorem dX2_valueFor_207 : decode cX2_valueFor 207 = .ok (.iconst 1, 1) := by decide +kernel
theorem dX2_valueFor_208 : decode cX2_valueFor 208 = .ok (.goto 4, 3) := by decide +kernel
theorem dX2_valueFor_211 : decode cX2_valueFor 211 = .ok (.iconst 0, 1) := by decide +kernel
theorem dX2_valueFor_212 : decode cX2_valueFor 212 = .ok (.iastore, 1) := by decide +kernel
theorem dX2_valueFor_213 : decode cX2_valueFor 213 = .ok (.goto 44, 3) := by decide +kernel
theorem dX2_valueFor_216 : decode cX2_valueFor 216 = .ok (.iload 6, 2) := by decide +kernel
theorem dX2_valueFor_218 : decode cX2_valueFor 218 = .ok (.iconst 2, 1) := by decide +kernel
theorem dX2_valueFor_219 : decode cX2_valueFor 219 = .ok (.if_icmp .ge 5, 3) := by decide +kernel
theorem dX2_valueFor_222 : decode cX2_valueFor 222 = .ok (.iconst 0, 1) := by decide +kernel
theorem dX2_valueFor_223 : decode cX2_valueFor 223 = .ok (.ireturn, 1) := by decide +kernel
theorem dX2_valueFor_224 : decode cX2_valueFor 224 = .ok (.iinc 6 (-1), 3) := by decide +kernel
theorem dX2_valueFor_227 : decode cX2_valueFor 227 = .ok (.aload_n 0, 1) := by decide +kernel
theorem dX2_valueFor_228 : decode cX2_valueFor 228 = .ok (.getfield 18, 3) := by decide +kernel
theorem dX2_valueFor_231 : decode cX2_valueFor 231 = .ok (.iload 6, 2) := by decide +kernel
theorem dX2_valueFor_233 : decode cX2_valueFor 233 = .ok (.iconst 1, 1) := by decide +kernel
theorem dX2_valueFor_234 : decode cX2_valueFor 234 = .ok (.isub, 1) := by decide +kernel
theorem dX2_valueFor_235 : decode cX2_valueFor 235 = .ok (.iload 8, 2) := by decide +kernel
theorem dX2_valueFor_237 : decode cX2_valueFor 237 = .ok (.aload_n 0, 1) := by decide +kernel
theorem dX2_valueFor_238 : decode cX2_valueFor 238 = .ok (.getfield 18, 3) := by decide +kernel
theorem dX2_valueFor_241 : decode cX2_valueFor 241 = .ok (.iload 6, 2) := by decide +kernel
theorem dX2_valueFor_243 : decode cX2_valueFor 243 = .ok (.iconst 1, 1) := by decide +kernel
theorem dX2_valueFor_244 : decode cX2_valueFor 244 = .ok (.isub, 1) := by decide +kernel
theorem dX2_valueFor_245 : decode cX2_valueFor 245 = .ok (.iaload, 1) := by decide +kernel
theorem dX2_valueFor_246 : decode cX2_valueFor 246 = .ok (.aload_n 0, 1) := by decide +kernel
theorem dX2_valueFor_247 : decode cX2_valueFor 247 = .ok (.getfield 18, 3) := by decide +kernel
theorem dX2_valueFor_250 : decode cX2_valueFor 250 = .ok (.iload 6, 2) := by decide +kernel
theorem dX2_valueFor_252 : decode cX2_valueFor 252 = .ok (.iaload, 1) := by decide +kernel
theorem dX2_valueFor_253 : decode cX2_valueFor 253 = .ok (.invokestatic 25, 3) := by decide +kernel
theorem dX2_valueFor_256 : decode cX2_valueFor 256 = .ok (.iastore, 1) := by decide +kernel
theorem dX2_valueFor_257 : decode cX2_valueFor 257 = .ok (.iinc 7 1, 3) := by decide +kernel
theorem dX2_valueFor_260 : decode cX2_valueFor 260 = .ok (.goto (-227), 3) := by decide +kernel
theorem dX2_valueFor_263 : decode cX2_valueFor 263 = .ok (.aload_n 0, 1) := by decide +kernel
theorem dX2_valueFor_264 : decode cX2_valueFor 264 = .ok (.getfield 18, 3) := by decide +kernel
theorem dX2_valueFor_267 : decode cX2_valueFor 267 = .ok (.iconst 0, 1) := by decide +kernel
theorem dX2_valueFor_268 : decode cX2_valueFor 268 = .ok (.iaload, 1) := by decide +kernel
theorem dX2_valueFor_269 : decode cX2_valueFor 269 = .ok (.ireturn, 1) := by decide +kernel
theorem dX2_join_0 : decode cX2_join 0 = .ok (.iload_n 0, 1) := by decide +kernel
theorem dX2_join_1 : decode cX2_join 1 = .ok (.tableswitch 97 (-11) (-6) #[93, 89, 78, 67, 53, 39], 39) := by decide +kernel
theorem dX2_join_40 : decode cX2_join 40 = .ok (.iload_n 1, 1) := by decide +kernel
theorem dX2_join_41 : decode cX2_join 41 = .ok (.ifCond .eq 11, 3) := by decide +kernel
theorem dX2_join_44 : decode cX2_join 44 = .ok (.iload_n 2, 1) := by decide +kernel
theorem dX2_join_45 : decode cX2_join 45 = .ok (.ifCond .eq 7, 3) := by decide +kernel
theorem dX2_join_48 : decode cX2_join 48 = .ok (.iconst 1, 1) := by decide +kernel
theorem dX2_join_49 : decode cX2_join 49 = .ok (.goto 4, 3) := by decide +kernel
theorem dX2_join_52 : decode cX2_join 52 = .ok (.iconst 0, 1) := by decide +kernel
theorem dX2_join_53 : decode cX2_join 53 = .ok (.ireturn, 1) := by decide +kernel
theorem dX2_join_54 : decode cX2_join 54 = .ok (.iload_n 1, 1) := by decide +kernel
theorem dX2_join_55 : decode cX2_join 55 = .ok (.ifCond .ne 7, 3) := by decide +kernel
theorem dX2_join_58 : decode cX2_join 58 = .ok (.iload_n 2, 1) := by decide +kernel
theorem dX2_join_59 : decode cX2_join 59 = .ok (.ifCond .eq 7, 3) := by decide +kernel
theorem dX2_join_62 : decode cX2_join 62 = .ok (.iconst 1, 1) := by decide +kernel
theorem dX2_join_63 : decode cX2_join 63 = .ok (.goto 4, 3) := by decide +kernel
theorem dX2_join_66 : decode cX2_join 66 = .ok (.iconst 0, 1) := by decide +kernel
theorem dX2_join_67 : decode cX2_join 67 = .ok (.ireturn, 1) := by decide +kernel
theorem dX2_join_68 : decode cX2_join 68 = .ok (.iload_n 1, 1) := by decide +kernel
theorem dX2_join_69 : decode cX2_join 69 = .ok (.iload_n 2, 1) := by decide +kernel
theorem dX2_join_70 : decode cX2_join 70 = .ok (.if_icmp .ge 7, 3) := by decide +kernel
theorem dX2_join_73 : decode cX2_join 73 = .ok (.iconst 1, 1) := by decide +kernel
theorem dX2_join_74 : decode cX2_join 74 = .ok (.goto 4, 3) := by decide +kernel
theorem dX2_join_77 : decode cX2_join 77 = .ok (.iconst 0, 1) := by decide +kernel
theorem dX2_join_78 : decode cX2_join 78 = .ok (.ireturn, 1) := by decide +kernel
theorem dX2_join_79 : decode cX2_join 79 = .ok (.iload_n 1, 1) := by decide +kernel
theorem dX2_join_80 : decode cX2_join 80 = .ok (.iload_n 2, 1) := by decide +kernel
theorem dX2_join_81 : decode cX2_join 81 = .ok (.if_icmp .ne 7, 3) := by decide +kernel
theorem dX2_join_84 : decode cX2_join 84 = .ok (.iconst 1, 1) := by decide +kernel
theorem dX2_join_85 : decode cX2_join 85 = .ok (.goto 4, 3) := by decide +kernel
theorem dX2_join_88 : decode cX2_join 88 = .ok (.iconst 0, 1) := by decide +kernel
theorem dX2_join_89 : decode cX2_join 89 = .ok (.ireturn, 1) := by decide +kernel
theorem dX2_join_90 : decode cX2_join 90 = .ok (.iload_n 1, 1) := by decide +kernel
theorem dX2_join_91 : decode cX2_join 91 = .ok (.iload_n 2, 1) := by decide +kernel
theorem dX2_join_92 : decode cX2_join 92 = .ok (.iadd, 1) := by decide +kernel
theorem dX2_join_93 : decode cX2_join 93 = .ok (.ireturn, 1) := by decide +kernel
theorem dX2_join_94 : decode cX2_join 94 = .ok (.iload_n 1, 1) := by decide +kernel
theorem dX2_join_95 : decode cX2_join 95 = .ok (.iload_n 2, 1) := by decide +kernel
theorem dX2_join_96 : decode cX2_join 96 = .ok (.isub, 1) := by decide +kernel
theorem dX2_join_97 : decode cX2_join 97 = .ok (.ireturn, 1) := by decide +kernel
theorem dX2_join_98 : decode cX2_join 98 = .ok (.iload_n 1, 1) := by decide +kernel
theorem dX2_join_99 : decode cX2_join 99 = .ok (.iload_n 2, 1) := by decide +kernel
theorem dX2_join_100 : decode cX2_join 100 = .ok (.imul, 1) := by decide +kernel
theorem dX2_join_101 : decode cX2_join 101 = .ok (.ireturn, 1) := by decide +kernel
theorem dX3_init_0 : decode cX3_init 0 = .ok (.aload_n 0, 1) := by decide +kernel
theorem dX3_init_1 : decode cX3_init 1 = .ok (.invokespecial 1, 3) := by decide +kernel
theorem dX3_init_4 : decode cX3_init 4 = .ok (.aload_n 0, 1) := by decide +kernel
theorem dX3_init_5 : decode cX3_init 5 = .ok (.new 7, 3) := by decide +kernel
theorem dX3_init_8 : decode cX3_init 8 = .ok (.dup, 1) := by decide +kernel
theorem dX3_init_9 : decode cX3_init 9 = .ok (.invokespecial 9, 3) := by decide +kernel
theorem dX3_init_12 : decode cX3_init 12 = .ok (.putfield 10, 3) := by decide +kernel
theorem dX3_init_15 : decode cX3_init 15 = .ok (.aload_n 0, 1) := by decide +kernel
theorem dX3_init_16 : decode cX3_init 16 = .ok (.new 16, 3) := by decide +kernel
theorem dX3_init_19 : decode cX3_init 19 = .ok (.dup, 1) := by decide +kernel
theorem dX3_init_20 : decode cX3_init 20 = .ok (.invokespecial 18, 3) := by decide +kernel
theorem dX3_init_23 : decode cX3_init 23 = .ok (.putfield 19, 3) := by decide +kernel
theorem dX3_init_26 : decode cX3_init 26 = .ok (.aload_n 0, 1) := by decide +kernel
theorem dX3_init_27 : decode cX3_init 27 = .ok (.new 23, 3) := by decide +kernel
theorem dX3_init_30 : decode cX3_init 30 = .ok (.dup, 1) := by decide +kernel
theorem dX3_init_31 : decode cX3_init 31 = .ok (.invokespecial 25, 3) := by decide +kernel
theorem dX3_init_34 : decode cX3_init 34 = .ok (.putfield 26, 3) := by decide +kernel
theorem dX3_init_37 : decode cX3_init 37 = .ok (.return_, 1) := by decide +kernel
theorem dX3_lay_0 : decode cX3_lay 0 = .ok (.aload_n 0, 1) := by decide +kernel
theorem dX3_lay_1 : decode cX3_lay 1 = .ok (.getfield 10, 3) := by decide +kernel
theorem dX3_lay_4 : decode cX3_lay 4 = .ok (.aload_n 1, 1) := by decide +kernel
theorem dX3_lay_5 : decode cX3_lay 5 = .ok (.invokevirtual 30, 3) := by decide +kernel
theorem dX3_lay_8 : decode cX3_lay 8 = .ok (.aload_n 0, 1) := by decide +kernel
theorem dX3_lay_9 : decode cX3_lay 9 = .ok (.getfield 19, 3) := by decide +kernel
theorem dX3_lay_12 : decode cX3_lay 12 = .ok (.aload_n 2, 1) := by decide +kernel
theorem dX3_lay_13 : decode cX3_lay 13 = .ok (.invokevirtual 34, 3) := by decide +kernel
theorem dX3_lay_16 : decode cX3_lay 16 = .ok (.aload_n 0, 1) := by decide +kernel
theorem dX3_lay_17 : decode cX3_lay 17 = .ok (.getfield 26, 3) := by decide +kernel
theorem dX3_lay_20 : decode cX3_lay 20 = .ok (.aload_n 3, 1) := by decide +kernel
theorem dX3_lay_21 : decode cX3_lay 21 = .ok (.invokevirtual 37, 3) := by decide +kernel
theorem dX3_lay_24 : decode cX3_lay 24 = .ok (.aload_n 0, 1) := by decide +kernel
theorem dX3_lay_25 : decode cX3_lay 25 = .ok (.iconst 1, 1) := by decide +kernel
theorem dX3_lay_26 : decode cX3_lay 26 = .ok (.putfield 40, 3) := by decide +kernel
theorem dX3_lay_29 : decode cX3_lay 29 = .ok (.return_, 1) := by decide +kernel
theorem dX3_goBack_0 : decode cX3_goBack 0 = .ok (.aload_n 1, 1) := by decide +kernel
theorem dX3_goBack_1 : decode cX3_goBack 1 = .ok (.aload_n 0, 1) := by decide +kernel
theorem dX3_goBack_2 : decode cX3_goBack 2 = .ok (.getfield 10, 3) := by decide +kernel
theorem dX3_goBack_5 : decode cX3_goBack 5 = .ok (.invokevirtual 30, 3) := by decide +kernel
theorem dX3_goBack_8 : decode cX3_goBack 8 = .ok (.aload_n 2, 1) := by decide +kernel
theorem dX3_goBack_9 : decode cX3_goBack 9 = .ok (.aload_n 0, 1) := by decide +kernel
theorem dX3_goBack_10 : decode cX3_goBack 10 = .ok (.getfield 19, 3) := by decide +kernel
theorem dX3_goBack_13 : decode cX3_goBack 13 = .ok (.invokevirtual 34, 3) := by decide +kernel
theorem dX3_goBack_16 : decode cX3_goBack 16 = .ok (.aload_n 3, 1) := by decide +kernel
theorem dX3_goBack_17 : decode cX3_goBack 17 = .ok (.aload_n 0, 1) := by decide +kernel
theorem dX3_goBack_18 : decode cX3_goBack 18 = .ok (.getfield 26, 3) := by decide +kernel
theorem dX3_goBack_21 : decode cX3_goBack 21 = .ok (.invokevirtual 37, 3) := by decide +kernel
theorem dX3_goBack_24 : decode cX3_goBack 24 = .ok (.return_, 1) := by decide +kernel
theorem dX4_init_0 : decode cX4_init 0 = .ok (.aload_n 0, 1) := by decide +kernel
theorem dX4_init_1 : decode cX4_init 1 = .ok (.invokespecial 3, 3) := by decide +kernel
theorem dX4_init_4 : decode cX4_init 4 = .ok (.aload_n 0, 1) := by decide +kernel
theorem dX4_init_5 : decode cX4_init 5 = .ok (.bipush 16, 2) := by decide +kernel
theorem dX4_init_7 : decode cX4_init 7 = .ok (.anewarray 9, 3) := by decide +kernel
theorem dX4_init_10 : decode cX4_init 10 = .ok (.putfield 11, 3) := by decide +kernel
theorem dX4_init_13 : decode cX4_init 13 = .ok (.iconst 0, 1) := by decide +kernel
theorem dX4_init_14 : decode cX4_init 14 = .ok (.istore_n 1, 1) := by decide +kernel
theorem dX4_init_15 : decode cX4_init 15 = .ok (.iload_n 1, 1) := by decide +kernel
theorem dX4_init_16 : decode cX4_init 16 = .ok (.bipush 16, 2) := by decide +kernel
theorem dX4_init_18 : decode cX4_init 18 = .ok (.if_icmp .ge 22, 3) := by decide +kernel
theorem dX4_init_21 : decode cX4_init 21 = .ok (.aload_n 0, 1) := by decide +kernel
theorem dX4_init_22 : decode cX4_init 22 = .ok (.getfield 11, 3) := by decide +kernel
theorem dX4_init_25 : decode cX4_init 25 = .ok (.iload_n 1, 1) := by decide +kernel
theorem dX4_init_26 : decode cX4_init 26 = .ok (.new 9, 3) := by decide +kernel
theorem dX4_init_29 : decode cX4_init 29 = .ok (.dup, 1) := by decide +kernel
theorem dX4_init_30 : decode cX4_init 30 = .ok (.invokespecial 17, 3) := by decide +kernel
theorem dX4_init_33 : decode cX4_init 33 = .ok (.aastore, 1) := by decide +kernel
theorem dX4_init_34 : decode cX4_init 34 = .ok (.iinc 1 1, 3) := by decide +kernel
theorem dX4_init_37 : decode cX4_init 37 = .ok (.goto (-22), 3) := by decide +kernel
theorem dX4_init_40 : decode cX4_init 40 = .ok (.return_, 1) := by decide +kernel
theorem dX4_keep_0 : decode cX4_keep 0 = .ok (.aload_n 0, 1) := by decide +kernel
theorem dX4_keep_1 : decode cX4_keep 1 = .ok (.getfield 18, 3) := by decide +kernel
theorem dX4_keep_4 : decode cX4_keep 4 = .ok (.ifCond .lt 53, 3) := by decide +kernel
theorem dX4_keep_7 : decode cX4_keep 7 = .ok (.aload_n 0, 1) := by decide +kernel
theorem dX4_keep_8 : decode cX4_keep 8 = .ok (.getfield 18, 3) := by decide +kernel
theorem dX4_keep_11 : decode cX4_keep 11 = .ok (.bipush 16, 2) := by decide +kernel
theorem dX4_keep_13 : decode cX4_keep 13 = .ok (.if_icmp .ge 44, 3) := by decide +kernel
theorem dX4_keep_16 : decode cX4_keep 16 = .ok (.aload_n 0, 1) := by decide +kernel
theorem dX4_keep_17 : decode cX4_keep 17 = .ok (.getfield 11, 3) := by decide +kernel
theorem dX4_keep_20 : decode cX4_keep 20 = .ok (.aload_n 0, 1) := by decide +kernel
theorem dX4_keep_21 : decode cX4_keep 21 = .ok (.getfield 18, 3) := by decide +kernel
theorem dX4_keep_24 : decode cX4_keep 24 = .ok (.aaload, 1) := by decide +kernel
theorem dX4_keep_25 : decode cX4_keep 25 = .ok (.aload_n 1, 1) := by decide +kernel
theorem dX4_keep_26 : decode cX4_keep 26 = .ok (.invokevirtual 22, 3) := by decide +kernel
theorem dX4_keep_29 : decode cX4_keep 29 = .ok (.aload_n 0, 1) := by decide +kernel
theorem dX4_keep_30 : decode cX4_keep 30 = .ok (.aload_n 0, 1) := by decide +kernel
theorem dX4_keep_31 : decode cX4_keep 31 = .ok (.getfield 18, 3) := by decide +kernel
theorem dX4_keep_34 : decode cX4_keep 34 = .ok (.iconst 1, 1) := by decide +kernel
theorem dX4_keep_35 : decode cX4_keep 35 = .ok (.iadd, 1) := by decide +kernel
theorem dX4_keep_36 : decode cX4_keep 36 = .ok (.bipush 16, 2) := by decide +kernel
theorem dX4_keep_38 : decode cX4_keep 38 = .ok (.irem, 1) := by decide +kernel
theorem dX4_keep_39 : decode cX4_keep 39 = .ok (.putfield 18, 3) := by decide +kernel
theorem dX4_keep_42 : decode cX4_keep 42 = .ok (.aload_n 0, 1) := by decide +kernel
theorem dX4_keep_43 : decode cX4_keep 43 = .ok (.aload_n 0, 1) := by decide +kernel
theorem dX4_keep_44 : decode cX4_keep 44 = .ok (.getfield 26, 3) := by decide +kernel
theorem dX4_keep_47 : decode cX4_keep 47 = .ok (.iconst 1, 1) := by decide +kernel
theorem dX4_keep_48 : decode cX4_keep 48 = .ok (.iadd, 1) := by decide +kernel
theorem dX4_keep_49 : decode cX4_keep 49 = .ok (.bipush 16, 2) := by decide +kernel
theorem dX4_keep_51 : decode cX4_keep 51 = .ok (.invokestatic 29, 3) := by decide +kernel
theorem dX4_keep_54 : decode cX4_keep 54 = .ok (.putfield 26, 3) := by decide +kernel
theorem dX4_keep_57 : decode cX4_keep 57 = .ok (.return_, 1) := by decide +kernel
theorem dX4_takeBack_0 : decode cX4_takeBack 0 = .ok (.aload_n 0, 1) := by decide +kernel
theorem dX4_takeBack_1 : decode cX4_takeBack 1 = .ok (.getfield 18, 3) := by decide +kernel
theorem dX4_takeBack_4 : decode cX4_takeBack 4 = .ok (.bipush 16, 2) := by decide +kernel
theorem dX4_takeBack_6 : decode cX4_takeBack 6 = .ok (.iadd, 1) := by decide +kernel
theorem dX4_takeBack_7 : decode cX4_takeBack 7 = .ok (.iconst 1, 1) := by decide +kernel
theorem dX4_takeBack_8 : decode cX4_takeBack 8 = .ok (.isub, 1) := by decide +kernel
theorem dX4_takeBack_9 : decode cX4_takeBack 9 = .ok (.bipush 16, 2) := by decide +kernel
theorem dX4_takeBack_11 : decode cX4_takeBack 11 = .ok (.irem, 1) := by decide +kernel
theorem dX4_takeBack_12 : decode cX4_takeBack 12 = .ok (.istore_n 2, 1) := by decide +kernel
theorem dX4_takeBack_13 : decode cX4_takeBack 13 = .ok (.aload_n 0, 1) := by decide +kernel
theorem dX4_takeBack_14 : decode cX4_takeBack 14 = .ok (.getfield 26, 3) := by decide +kernel
theorem dX4_takeBack_17 : decode cX4_takeBack 17 = .ok (.ifCond .eq 7, 3) := by decide +kernel
theorem dX4_takeBack_20 : decode cX4_takeBack 20 = .ok (.iload_n 2, 1) := by decide +kernel
theorem dX4_takeBack_21 : decode cX4_takeBack 21 = .ok (.ifCond .ge 5, 3) := by decide +kernel
theorem dX4_takeBack_24 : decode cX4_takeBack 24 = .ok (.iconst 0, 1) := by decide +kernel
theorem dX4_takeBack_25 : decode cX4_takeBack 25 = .ok (.ireturn, 1) := by decide +kernel
theorem dX4_takeBack_26 : decode cX4_takeBack 26 = .ok (.aload_n 1, 1) := by decide +kernel
theorem dX4_takeBack_27 : decode cX4_takeBack 27 = .ok (.aload_n 0, 1) := by decide +kernel
theorem dX4_takeBack_28 : decode cX4_takeBack 28 = .ok (.getfield 11, 3) := by decide +kernel
theorem dX4_takeBack_31 : decode cX4_takeBack 31 = .ok (.iload_n 2, 1) := by decide +kernel
theorem dX4_takeBack_32 : decode cX4_takeBack 32 = .ok (.aaload, 1) := by decide +kernel
theorem dX4_takeBack_33 : decode cX4_takeBack 33 = .ok (.invokevirtual 22, 3) := by decide +kernel
theorem dX4_takeBack_36 : decode cX4_takeBack 36 = .ok (.aload_n 0, 1) := by decide +kernel
theorem dX4_takeBack_37 : decode cX4_takeBack 37 = .ok (.iload_n 2, 1) := by decide +kernel
theorem dX4_takeBack_38 : decode cX4_takeBack 38 = .ok (.putfield 18, 3) := by decide +kernel
theorem dX4_takeBack_41 : decode cX4_takeBack 41 = .ok (.aload_n 0, 1) := by decide +kernel
theorem dX4_takeBack_42 : decode cX4_takeBack 42 = .ok (.dup, 1) := by decide +kernel
theorem dX4_takeBack_43 : decode cX4_takeBack 43 = .ok (.getfield 26, 3) := by decide +kernel
theorem dX4_takeBack_46 : decode cX4_takeBack 46 = .ok (.iconst 1, 1) := by decide +kernel
theorem dX4_takeBack_47 : decode cX4_takeBack 47 = .ok (.isub, 1) := by decide +kernel
theorem dX4_takeBack_48 : decode cX4_takeBack 48 = .ok (.putfield 26, 3) := by decide +kernel
theorem dX4_takeBack_51 : decode cX4_takeBack 51 = .ok (.iconst 1, 1) := by decide +kernel
theorem dX4_takeBack_52 : decode cX4_takeBack 52 = .ok (.ireturn, 1) := by decide +kernel
theorem dX4_forget_0 : decode cX4_forget 0 = .ok (.aload_n 0, 1) := by decide +kernel
theorem dX4_forget_1 : decode cX4_forget 1 = .ok (.iconst 0, 1) := by decide +kernel
theorem dX4_forget_2 : decode cX4_forget 2 = .ok (.putfield 26, 3) := by decide +kernel
theorem dX4_forget_5 : decode cX4_forget 5 = .ok (.return_, 1) := by decide +kernel
theorem dX5_init_0 : decode cX5_init 0 = .ok (.aload_n 0, 1) := by decide +kernel
theorem dX5_init_1 : decode cX5_init 1 = .ok (.invokespecial 3, 3) := by decide +kernel
theorem dX5_init_4 : decode cX5_init 4 = .ok (.aload_n 0, 1) := by decide +kernel
theorem dX5_init_5 : decode cX5_init 5 = .ok (.bipush 40, 2) := by decide +kernel
theorem dX5_init_7 : decode cX5_init 7 = .ok (.newarray .int, 2) := by decide +kernel
theorem dX5_init_9 : decode cX5_init 9 = .ok (.putfield 9, 3) := by decide +kernel
theorem dX5_init_12 : decode cX5_init 12 = .ok (.aload_n 0, 1) := by decide +kernel
theorem dX5_init_13 : decode cX5_init 13 = .ok (.bipush 40, 2) := by decide +kernel
theorem dX5_init_15 : decode cX5_init 15 = .ok (.newarray .int, 2) := by decide +kernel
theorem dX5_init_17 : decode cX5_init 17 = .ok (.putfield 15, 3) := by decide +kernel
theorem dX5_init_20 : decode cX5_init 20 = .ok (.aload_n 0, 1) := by decide +kernel
theorem dX5_init_21 : decode cX5_init 21 = .ok (.bipush 40, 2) := by decide +kernel
theorem dX5_init_23 : decode cX5_init 23 = .ok (.newarray .int, 2) := by decide +kernel
theorem dX5_init_25 : decode cX5_init 25 = .ok (.putfield 18, 3) := by decide +kernel
theorem dX5_init_28 : decode cX5_init 28 = .ok (.aload_n 0, 1) := by decide +kernel
theorem dX5_init_29 : decode cX5_init 29 = .ok (.bipush 40, 2) := by decide +kernel
theorem dX5_init_31 : decode cX5_init 31 = .ok (.newarray .int, 2) := by decide +kernel
theorem dX5_init_33 : decode cX5_init 33 = .ok (.putfield 21, 3) := by decide +kernel
theorem dX5_init_36 : decode cX5_init 36 = .ok (.return_, 1) := by decide +kernel
theorem dX5_clear_0 : decode cX5_clear 0 = .ok (.aload_n 0, 1) := by decide +kernel
theorem dX5_clear_1 : decode cX5_clear 1 = .ok (.iconst 0, 1) := by decide +kernel
theorem dX5_clear_2 : decode cX5_clear 2 = .ok (.putfield 24, 3) := by decide +kernel
theorem dX5_clear_5 : decode cX5_clear 5 = .ok (.return_, 1) := by decide +kernel
theorem dX5_add_0 : decode cX5_add 0 = .ok (.aload_n 0, 1) := by decide +kernel
theorem dX5_add_1 : decode cX5_add 1 = .ok (.getfield 24, 3) := by decide +kernel
theorem dX5_add_4 : decode cX5_add 4 = .ok (.bipush 40, 2) := by decide +kernel
theorem dX5_add_6 : decode cX5_add 6 = .ok (.if_icmp .ge 54, 3) := by decide +kernel
theorem dX5_add_9 : decode cX5_add 9 = .ok (.aload_n 0, 1) := by decide +kernel
theorem dX5_add_10 : decode cX5_add 10 = .ok (.getfield 9, 3) := by decide +kernel
theorem dX5_add_13 : decode cX5_add 13 = .ok (.aload_n 0, 1) := by decide +kernel
theorem dX5_add_14 : decode cX5_add 14 = .ok (.getfield 24, 3) := by decide +kernel
theorem dX5_add_17 : decode cX5_add 17 = .ok (.iload_n 1, 1) := by decide +kernel
theorem dX5_add_18 : decode cX5_add 18 = .ok (.iastore, 1) := by decide +kernel
theorem dX5_add_19 : decode cX5_add 19 = .ok (.aload_n 0, 1) := by decide +kernel
theorem dX5_add_20 : decode cX5_add 20 = .ok (.getfield 15, 3) := by decide +kernel
theorem dX5_add_23 : decode cX5_add 23 = .ok (.aload_n 0, 1) := by decide +kernel
theorem dX5_add_24 : decode cX5_add 24 = .ok (.getfield 24, 3) := by decide +kernel
theorem dX5_add_27 : decode cX5_add 27 = .ok (.iload_n 2, 1) := by decide +kernel
theorem dX5_add_28 : decode cX5_add 28 = .ok (.iastore, 1) := by decide +kernel
theorem dX5_add_29 : decode cX5_add 29 = .ok (.aload_n 0, 1) := by decide +kernel
theorem dX5_add_30 : decode cX5_add 30 = .ok (.getfield 18, 3) := by decide +kernel
theorem dX5_add_33 : decode cX5_add 33 = .ok (.aload_n 0, 1) := by decide +kernel
theorem dX5_add_34 : decode cX5_add 34 = .ok (.getfield 24, 3) := by decide +kernel
theorem dX5_add_37 : decode cX5_add 37 = .ok (.iload_n 3, 1) := by decide +kernel
theorem dX5_add_38 : decode cX5_add 38 = .ok (.iastore, 1) := by decide +kernel
theorem dX5_add_39 : decode cX5_add 39 = .ok (.aload_n 0, 1) := by decide +kernel
theorem dX5_add_40 : decode cX5_add 40 = .ok (.getfield 21, 3) := by decide +kernel
theorem dX5_add_43 : decode cX5_add 43 = .ok (.aload_n 0, 1) := by decide +kernel
theorem dX5_add_44 : decode cX5_add 44 = .ok (.getfield 24, 3) := by decide +kernel
theorem dX5_add_47 : decode cX5_add 47 = .ok (.iload 4, 2) := by decide +kernel
theorem dX5_add_49 : decode cX5_add 49 = .ok (.iastore, 1) := by decide +kernel
theorem dX5_add_50 : decode cX5_add 50 = .ok (.aload_n 0, 1) := by decide +kernel
theorem dX5_add_51 : decode cX5_add 51 = .ok (.dup, 1) := by decide +kernel
theorem dX5_add_52 : decode cX5_add 52 = .ok (.getfield 24, 3) := by decide +kernel
theorem dX5_add_55 : decode cX5_add 55 = .ok (.iconst 1, 1) := by decide +kernel
theorem dX5_add_56 : decode cX5_add 56 = .ok (.iadd, 1) := by decide +kernel
theorem dX5_add_57 : decode cX5_add 57 = .ok (.putfield 24, 3) := by decide +kernel
theorem dX5_add_60 : decode cX5_add 60 = .ok (.return_, 1) := by decide +kernel
theorem dX5_copy_0 : decode cX5_copy 0 = .ok (.aload_n 0, 1) := by decide +kernel
theorem dX5_copy_1 : decode cX5_copy 1 = .ok (.aload_n 1, 1) := by decide +kernel
theorem dX5_copy_2 : decode cX5_copy 2 = .ok (.getfield 24, 3) := by decide +kernel
theorem dX5_copy_5 : decode cX5_copy 5 = .ok (.putfield 24, 3) := by decide +kernel
theorem dX5_copy_8 : decode cX5_copy 8 = .ok (.iconst 0, 1) := by decide +kernel
theorem dX5_copy_9 : decode cX5_copy 9 = .ok (.istore_n 2, 1) := by decide +kernel
theorem dX5_copy_10 : decode cX5_copy 10 = .ok (.iload_n 2, 1) := by decide +kernel
theorem dX5_copy_11 : decode cX5_copy 11 = .ok (.aload_n 0, 1) := by decide +kernel
theorem dX5_copy_12 : decode cX5_copy 12 = .ok (.getfield 24, 3) := by decide +kernel
theorem dX5_copy_15 : decode cX5_copy 15 = .ok (.if_icmp .ge 63, 3) := by decide +kernel
theorem dX5_copy_18 : decode cX5_copy 18 = .ok (.iload_n 2, 1) := by decide +kernel
theorem dX5_copy_19 : decode cX5_copy 19 = .ok (.bipush 40, 2) := by decide +kernel
theorem dX5_copy_21 : decode cX5_copy 21 = .ok (.if_icmp .ge 57, 3) := by decide +kernel
theorem dX5_copy_24 : decode cX5_copy 24 = .ok (.aload_n 0, 1) := by decide +kernel
theorem dX5_copy_25 : decode cX5_copy 25 = .ok (.getfield 9, 3) := by decide +kernel
theorem dX5_copy_28 : decode cX5_copy 28 = .ok (.iload_n 2, 1) := by decide +kernel
theorem dX5_copy_29 : decode cX5_copy 29 = .ok (.aload_n 1, 1) := by decide +kernel
theorem dX5_copy_30 : decode cX5_copy 30 = .ok (.getfield 9, 3) := by decide +kernel
theorem dX5_copy_33 : decode cX5_copy 33 = .ok (.iload_n 2, 1) := by decide +kernel
theorem dX5_copy_34 : decode cX5_copy 34 = .ok (.iaload, 1) := by decide +kernel
theorem dX5_copy_35 : decode cX5_copy 35 = .ok (.iastore, 1) := by decide +kernel
theorem dX5_copy_36 : decode cX5_copy 36 = .ok (.aload_n 0, 1) := by decide +kernel
theorem dX5_copy_37 : decode cX5_copy 37 = .ok (.getfield 15, 3) := by decide +kernel
theorem dX5_copy_40 : decode cX5_copy 40 = .ok (.iload_n 2, 1) := by decide +kernel
theorem dX5_copy_41 : decode cX5_copy 41 = .ok (.aload_n 1, 1) := by decide +kernel
theorem dX5_copy_42 : decode cX5_copy 42 = .ok (.getfield 15, 3) := by decide +kernel
theorem dX5_copy_45 : decode cX5_copy 45 = .ok (.iload_n 2, 1) := by decide +kernel
theorem dX5_copy_46 : decode cX5_copy 46 = .ok (.iaload, 1) := by decide +kernel
theorem dX5_copy_47 : decode cX5_copy 47 = .ok (.iastore, 1) := by decide +kernel
theorem dX5_copy_48 : decode cX5_copy 48 = .ok (.aload_n 0, 1) := by decide +kernel
theorem dX5_copy_49 : decode cX5_copy 49 = .ok (.getfield 18, 3) := by decide +kernel
theorem dX5_copy_52 : decode cX5_copy 52 = .ok (.iload_n 2, 1) := by decide +kernel
theorem dX5_copy_53 : decode cX5_copy 53 = .ok (.aload_n 1, 1) := by decide +kernel
theorem dX5_copy_54 : decode cX5_copy 54 = .ok (.getfield 18, 3) := by decide +kernel
theorem dX5_copy_57 : decode cX5_copy 57 = .ok (.iload_n 2, 1) := by decide +kernel
theorem dX5_copy_58 : decode cX5_copy 58 = .ok (.iaload, 1) := by decide +kernel
theorem dX5_copy_59 : decode cX5_copy 59 = .ok (.iastore, 1) := by decide +kernel
theorem dX5_copy_60 : decode cX5_copy 60 = .ok (.aload_n 0, 1) := by decide +kernel
theorem dX5_copy_61 : decode cX5_copy 61 = .ok (.getfield 21, 3) := by decide +kernel
theorem dX5_copy_64 : decode cX5_copy 64 = .ok (.iload_n 2, 1) := by decide +kernel
theorem dX5_copy_65 : decode cX5_copy 65 = .ok (.aload_n 1, 1) := by decide +kernel
theorem dX5_copy_66 : decode cX5_copy 66 = .ok (.getfield 21, 3) := by decide +kernel
theorem dX5_copy_69 : decode cX5_copy 69 = .ok (.iload_n 2, 1) := by decide +kernel
theorem dX5_copy_70 : decode cX5_copy 70 = .ok (.iaload, 1) := by decide +kernel
theorem dX5_copy_71 : decode cX5_copy 71 = .ok (.iastore, 1) := by decide +kernel
theorem dX5_copy_72 : decode cX5_copy 72 = .ok (.iinc 2 1, 3) := by decide +kernel
theorem dX5_copy_75 : decode cX5_copy 75 = .ok (.goto (-65), 3) := by decide +kernel
theorem dX5_copy_78 : decode cX5_copy 78 = .ok (.return_, 1) := by decide +kernel
theorem dX5_isPossible_0 : decode cX5_isPossible 0 = .ok (.iload_n 1, 1) := by decide +kernel
theorem dX5_isPossible_1 : decode cX5_isPossible 1 = .ok (.ifCond .lt 11, 3) := by decide +kernel
theorem dX5_isPossible_4 : decode cX5_isPossible 4 = .ok (.iload_n 1, 1) := by decide +kernel
theorem dX5_isPossible_5 : decode cX5_isPossible 5 = .ok (.aload_n 0, 1) := by decide +kernel
theorem dX5_isPossible_6 : decode cX5_isPossible 6 = .ok (.getfield 24, 3) := by decide +kernel
theorem dX5_isPossible_9 : decode cX5_isPossible 9 = .ok (.if_icmp .lt 5, 3) := by decide +kernel
theorem dX5_isPossible_12 : decode cX5_isPossible 12 = .ok (.iconst 0, 1) := by decide +kernel
theorem dX5_isPossible_13 : decode cX5_isPossible 13 = .ok (.ireturn, 1) := by decide +kernel
theorem dX5_isPossible_14 : decode cX5_isPossible 14 = .ok (.aload_n 0, 1) := by decide +kernel
theorem dX5_isPossible_15 : decode cX5_isPossible 15 = .ok (.getfield 9, 3) := by decide +kernel
theorem dX5_isPossible_18 : decode cX5_isPossible 18 = .ok (.iload_n 1, 1) := by decide +kernel
theorem dX5_isPossible_19 : decode cX5_isPossible 19 = .ok (.iaload, 1) := by decide +kernel
theorem dX5_isPossible_20 : decode cX5_isPossible 20 = .ok (.lookupswitch 43 #[(0, 28), (3, 41)], 28) := by decide +kernel
theorem dX5_isPossible_48 : decode cX5_isPossible 48 = .ok (.aload_n 2, 1) := by decide +kernel
theorem dX5_isPossible_49 : decode cX5_isPossible 49 = .ok (.getfield 28, 3) := by decide +kernel
theorem dX5_isPossible_52 : decode cX5_isPossible 52 = .ok (.ifCond .le 7, 3) := by decide +kernel
theorem dX5_isPossible_55 : decode cX5_isPossible 55 = .ok (.iconst 1, 1) := by decide +kernel
theorem dX5_isPossible_56 : decode cX5_isPossible 56 = .ok (.goto 4, 3) := by decide +kernel
theorem dX5_isPossible_59 : decode cX5_isPossible 59 = .ok (.iconst 0, 1) := by decide +kernel
theorem dX5_isPossible_60 : decode cX5_isPossible 60 = .ok (.ireturn, 1) := by decide +kernel
theorem dX5_isPossible_61 : decode cX5_isPossible 61 = .ok (.iconst 1, 1) := by decide +kernel
theorem dX5_isPossible_62 : decode cX5_isPossible 62 = .ok (.ireturn, 1) := by decide +kernel
theorem dX5_isPossible_63 : decode cX5_isPossible 63 = .ok (.aload_n 3, 1) := by decide +kernel
theorem dX5_isPossible_64 : decode cX5_isPossible 64 = .ok (.aload_n 0, 1) := by decide +kernel
theorem dX5_isPossible_65 : decode cX5_isPossible 65 = .ok (.getfield 15, 3) := by decide +kernel
theorem dX5_isPossible_68 : decode cX5_isPossible 68 = .ok (.iload_n 1, 1) := by decide +kernel
theorem dX5_isPossible_69 : decode cX5_isPossible 69 = .ok (.iaload, 1) := by decide +kernel
theorem dX5_isPossible_70 : decode cX5_isPossible 70 = .ok (.aload_n 0, 1) := by decide +kernel
theorem dX5_isPossible_71 : decode cX5_isPossible 71 = .ok (.getfield 21, 3) := by decide +kernel
theorem dX5_isPossible_74 : decode cX5_isPossible 74 = .ok (.iload_n 1, 1) := by decide +kernel
theorem dX5_isPossible_75 : decode cX5_isPossible 75 = .ok (.iaload, 1) := by decide +kernel
theorem dX5_isPossible_76 : decode cX5_isPossible 76 = .ok (.invokevirtual 33, 3) := by decide +kernel
theorem dX5_isPossible_79 : decode cX5_isPossible 79 = .ok (.ireturn, 1) := by decide +kernel
theorem dX5_follow_0 : decode cX5_follow 0 = .ok (.iload_n 1, 1) := by decide +kernel
theorem dX5_follow_1 : decode cX5_follow 1 = .ok (.ifCond .lt 11, 3) := by decide +kernel
theorem dX5_follow_4 : decode cX5_follow 4 = .ok (.iload_n 1, 1) := by decide +kernel
theorem dX5_follow_5 : decode cX5_follow 5 = .ok (.aload_n 0, 1) := by decide +kernel
theorem dX5_follow_6 : decode cX5_follow 6 = .ok (.getfield 24, 3) := by decide +kernel
theorem dX5_follow_9 : decode cX5_follow 9 = .ok (.if_icmp .lt 4, 3) := by decide +kernel
theorem dX5_follow_12 : decode cX5_follow 12 = .ok (.return_, 1) := by decide +kernel
theorem dX5_follow_13 : decode cX5_follow 13 = .ok (.aload_n 0, 1) := by decide +kernel
theorem dX5_follow_14 : decode cX5_follow 14 = .ok (.getfield 9, 3) := by decide +kernel
theorem dX5_follow_17 : decode cX5_follow 17 = .ok (.iload_n 1, 1) := by decide +kernel
theorem dX5_follow_18 : decode cX5_follow 18 = .ok (.iaload, 1) := by decide +kernel
theorem dX5_follow_19 : decode cX5_follow 19 = .ok (.tableswitch 78 0 2 #[25, 34, 53], 25) := by decide +kernel
theorem dX5_follow_44 : decode cX5_follow 44 = .ok (.aload_n 3, 1) := by decide +kernel
theorem dX5_follow_45 : decode cX5_follow 45 = .ok (.aload_n 2, 1) := by decide +kernel
theorem dX5_follow_46 : decode cX5_follow 46 = .ok (.invokevirtual 39, 3) := by decide +kernel
theorem dX5_follow_49 : decode cX5_follow 49 = .ok (.pop, 1) := by decide +kernel
theorem dX5_follow_50 : decode cX5_follow 50 = .ok (.goto 51, 3) := by decide +kernel
theorem dX5_follow_53 : decode cX5_follow 53 = .ok (.aload_n 3, 1) := by decide +kernel
theorem dX5_follow_54 : decode cX5_follow 54 = .ok (.aload_n 0, 1) := by decide +kernel
theorem dX5_follow_55 : decode cX5_follow 55 = .ok (.getfield 15, 3) := by decide +kernel
theorem dX5_follow_58 : decode cX5_follow 58 = .ok (.iload_n 1, 1) := by decide +kernel
theorem dX5_follow_59 : decode cX5_follow 59 = .ok (.iaload, 1) := by decide +kernel
theorem dX5_follow_60 : decode cX5_follow 60 = .ok (.aload_n 0, 1) := by decide +kernel
theorem dX5_follow_61 : decode cX5_follow 61 = .ok (.getfield 21, 3) := by decide +kernel
theorem dX5_follow_64 : decode cX5_follow 64 = .ok (.iload_n 1, 1) := by decide +kernel
theorem dX5_follow_65 : decode cX5_follow 65 = .ok (.iaload, 1) := by decide +kernel
theorem dX5_follow_66 : decode cX5_follow 66 = .ok (.invokevirtual 43, 3) := by decide +kernel
theorem dX5_follow_69 : decode cX5_follow 69 = .ok (.goto 32, 3) := by decide +kernel
theorem dX5_follow_72 : decode cX5_follow 72 = .ok (.aload_n 3, 1) := by decide +kernel
theorem dX5_follow_73 : decode cX5_follow 73 = .ok (.aload_n 0, 1) := by decide +kernel
theorem dX5_follow_74 : decode cX5_follow 74 = .ok (.getfield 15, 3) := by decide +kernel
theorem dX5_follow_77 : decode cX5_follow 77 = .ok (.iload_n 1, 1) := by decide +kernel
theorem dX5_follow_78 : decode cX5_follow 78 = .ok (.iaload, 1) := by decide +kernel
theorem dX5_follow_79 : decode cX5_follow 79 = .ok (.aload_n 0, 1) := by decide +kernel
theorem dX5_follow_80 : decode cX5_follow 80 = .ok (.getfield 18, 3) := by decide +kernel
theorem dX5_follow_83 : decode cX5_follow 83 = .ok (.iload_n 1, 1) := by decide +kernel
theorem dX5_follow_84 : decode cX5_follow 84 = .ok (.iaload, 1) := by decide +kernel
theorem dX5_follow_85 : decode cX5_follow 85 = .ok (.aload_n 0, 1) := by decide +kernel
theorem dX5_follow_86 : decode cX5_follow 86 = .ok (.getfield 21, 3) := by decide +kernel
theorem dX5_follow_89 : decode cX5_follow 89 = .ok (.iload_n 1, 1) := by decide +kernel
theorem dX5_follow_90 : decode cX5_follow 90 = .ok (.iaload, 1) := by decide +kernel
theorem dX5_follow_91 : decode cX5_follow 91 = .ok (.invokevirtual 47, 3) := by decide +kernel
theorem dX5_follow_94 : decode cX5_follow 94 = .ok (.goto 7, 3) := by decide +kernel
theorem dX5_follow_97 : decode cX5_follow 97 = .ok (.aload_n 3, 1) := by decide +kernel
theorem dX5_follow_98 : decode cX5_follow 98 = .ok (.invokevirtual 51, 3) := by decide +kernel
theorem dX5_follow_101 : decode cX5_follow 101 = .ok (.return_, 1) := by decide +kernel
theorem dX6_init_0 : decode cX6_init 0 = .ok (.aload_n 0, 1) := by decide +kernel
theorem dX6_init_1 : decode cX6_init 1 = .ok (.invokespecial 3, 3) := by decide +kernel
theorem dX6_init_4 : decode cX6_init 4 = .ok (.aload_n 0, 1) := by decide +kernel
theorem dX6_init_5 : decode cX6_init 5 = .ok (.bipush 6, 2) := by decide +kernel
theorem dX6_init_7 : decode cX6_init 7 = .ok (.newarray .int, 2) := by decide +kernel
theorem dX6_init_9 : decode cX6_init 9 = .ok (.putfield 9, 3) := by decide +kernel
theorem dX6_init_12 : decode cX6_init 12 = .ok (.aload_n 0, 1) := by decide +kernel
theorem dX6_init_13 : decode cX6_init 13 = .ok (.bipush 6, 2) := by decide +kernel
theorem dX6_init_15 : decode cX6_init 15 = .ok (.newarray .int, 2) := by decide +kernel
theorem dX6_init_17 : decode cX6_init 17 = .ok (.putfield 15, 3) := by decide +kernel
theorem dX6_init_20 : decode cX6_init 20 = .ok (.return_, 1) := by decide +kernel
theorem dX6_find_0 : decode cX6_find 0 = .ok (.aload_n 0, 1) := by decide +kernel
theorem dX6_find_1 : decode cX6_find 1 = .ok (.iconst (-1), 1) := by decide +kernel
theorem dX6_find_2 : decode cX6_find 2 = .ok (.putfield 18, 3) := by decide +kernel
theorem dX6_find_5 : decode cX6_find 5 = .ok (.aload_n 0, 1) := by decide +kernel
theorem dX6_find_6 : decode cX6_find 6 = .ok (.aload_n 1, 1) := by decide +kernel
theorem dX6_find_7 : decode cX6_find 7 = .ok (.iconst 0, 1) := by decide +kernel
theorem dX6_find_8 : decode cX6_find 8 = .ok (.iload_n 2, 1) := by decide +kernel
theorem dX6_find_9 : decode cX6_find 9 = .ok (.iload_n 3, 1) := by decide +kernel
theorem dX6_find_10 : decode cX6_find 10 = .ok (.iconst 0, 1) := by decide +kernel
theorem dX6_find_11 : decode cX6_find 11 = .ok (.invokevirtual 22, 3) := by decide +kernel
theorem dX6_find_14 : decode cX6_find 14 = .ok (.return_, 1) := by decide +kernel
theorem dX6_search_0 : decode cX6_search 0 = .ok (.iload_n 3, 1) := by decide +kernel
theorem dX6_search_1 : decode cX6_search 1 = .ok (.ifCond .eq 9, 3) := by decide +kernel
theorem dX6_search_4 : decode cX6_search 4 = .ok (.iload_n 2, 1) := by decide +kernel
theorem dX6_search_5 : decode cX6_search 5 = .ok (.bipush 6, 2) := by decide +kernel
theorem dX6_search_7 : decode cX6_search 7 = .ok (.if_icmp .lt 23, 3) := by decide +kernel
theorem dX6_search_10 : decode cX6_search 10 = .ok (.iload 5, 2) := by decide +kernel
theorem dX6_search_12 : decode cX6_search 12 = .ok (.aload_n 0, 1) := by decide +kernel
theorem dX6_search_13 : decode cX6_search 13 = .ok (.getfield 18, 3) := by decide +kernel
theorem dX6_search_16 : decode cX6_search 16 = .ok (.if_icmp .le 13, 3) := by decide +kernel
theorem dX6_search_19 : decode cX6_search 19 = .ok (.aload_n 0, 1) := by decide +kernel
theorem dX6_search_20 : decode cX6_search 20 = .ok (.iload 5, 2) := by decide +kernel
theorem dX6_search_22 : decode cX6_search 22 = .ok (.putfield 18, 3) := by decide +kernel
theorem dX6_search_25 : decode cX6_search 25 = .ok (.aload_n 0, 1) := by decide +kernel
theorem dX6_search_26 : decode cX6_search 26 = .ok (.invokevirtual 26, 3) := by decide +kernel
theorem dX6_search_29 : decode cX6_search 29 = .ok (.return_, 1) := by decide +kernel
theorem dX6_search_30 : decode cX6_search 30 = .ok (.iload 5, 2) := by decide +kernel
theorem dX6_search_32 : decode cX6_search 32 = .ok (.iload_n 3, 1) := by decide +kernel
theorem dX6_search_33 : decode cX6_search 33 = .ok (.invokestatic 29, 3) := by decide +kernel
theorem dX6_search_36 : decode cX6_search 36 = .ok (.aload_n 1, 1) := by decide +kernel
theorem dX6_search_37 : decode cX6_search 37 = .ok (.iload 4, 2) := by decide +kernel
theorem dX6_search_39 : decode cX6_search 39 = .ok (.invokevirtual 35, 3) := by decide +kernel
theorem dX6_search_42 : decode cX6_search 42 = .ok (.imul, 1) := by decide +kernel
theorem dX6_search_43 : decode cX6_search 43 = .ok (.iadd, 1) := by decide +kernel
theorem dX6_search_44 : decode cX6_search 44 = .ok (.aload_n 0, 1) := by decide +kernel
theorem dX6_search_45 : decode cX6_search 45 = .ok (.getfield 18, 3) := by decide +kernel
theorem dX6_search_48 : decode cX6_search 48 = .ok (.if_icmp .gt 4, 3) := by decide +kernel
theorem dX6_search_51 : decode cX6_search 51 = .ok (.return_, 1) := by decide +kernel
theorem dX6_search_52 : decode cX6_search 52 = .ok (.iconst 0, 1) := by decide +kernel
theorem dX6_search_53 : decode cX6_search 53 = .ok (.istore 6, 2) := by decide +kernel
theorem dX6_search_55 : decode cX6_search 55 = .ok (.iload 6, 2) := by decide +kernel
theorem dX6_search_57 : decode cX6_search 57 = .ok (.aload_n 1, 1) := by decide +kernel
theorem dX6_search_58 : decode cX6_search 58 = .ok (.getfield 40, 3) := by decide +kernel
theorem dX6_search_61 : decode cX6_search 61 = .ok (.if_icmp .ge 69, 3) := by decide +kernel
theorem dX6_search_64 : decode cX6_search 64 = .ok (.iload_n 3, 1) := by decide +kernel
theorem dX6_search_65 : decode cX6_search 65 = .ok (.iload 6, 2) := by decide +kernel
theorem dX6_search_67 : decode cX6_search 67 = .ok (.ishr, 1) := by decide +kernel
theorem dX6_search_68 : decode cX6_search 68 = .ok (.iconst 1, 1) := by decide +kernel
theorem dX6_search_69 : decode cX6_search 69 = .ok (.iand, 1) := by decide +kernel
theorem dX6_search_70 : decode cX6_search 70 = .ok (.iconst 1, 1) := by decide +kernel
theorem dX6_search_71 : decode cX6_search 71 = .ok (.if_icmp .ne 53, 3) := by decide +kernel
theorem dX6_search_74 : decode cX6_search 74 = .ok (.iload 4, 2) := by decide +kernel
theorem dX6_search_76 : decode cX6_search 76 = .ok (.aload_n 1, 1) := by decide +kernel
theorem dX6_search_77 : decode cX6_search 77 = .ok (.iload 6, 2) := by decide +kernel
theorem dX6_search_79 : decode cX6_search 79 = .ok (.iload 4, 2) := by decide +kernel
theorem dX6_search_81 : decode cX6_search 81 = .ok (.invokevirtual 43, 3) := by decide +kernel
theorem dX6_search_84 : decode cX6_search 84 = .ok (.iconst (-1), 1) := by decide +kernel
theorem dX6_search_85 : decode cX6_search 85 = .ok (.ixor, 1) := by decide +kernel
theorem dX6_search_86 : decode cX6_search 86 = .ok (.iand, 1) := by decide +kernel
theorem dX6_search_87 : decode cX6_search 87 = .ok (.istore 7, 2) := by decide +kernel
theorem dX6_search_89 : decode cX6_search 89 = .ok (.aload_n 0, 1) := by decide +kernel
theorem dX6_search_90 : decode cX6_search 90 = .ok (.getfield 9, 3) := by decide +kernel
theorem dX6_search_93 : decode cX6_search 93 = .ok (.iload_n 2, 1) := by decide +kernel
theorem dX6_search_94 : decode cX6_search 94 = .ok (.iload 6, 2) := by decide +kernel
theorem dX6_search_96 : decode cX6_search 96 = .ok (.iastore, 1) := by decide +kernel
theorem dX6_search_97 : decode cX6_search 97 = .ok (.aload_n 0, 1) := by decide +kernel
theorem dX6_search_98 : decode cX6_search 98 = .ok (.aload_n 1, 1) := by decide +kernel
theorem dX6_search_99 : decode cX6_search 99 = .ok (.iload_n 2, 1) := by decide +kernel
theorem dX6_search_100 : decode cX6_search 100 = .ok (.iconst 1, 1) := by decide +kernel
theorem dX6_search_101 : decode cX6_search 101 = .ok (.iadd, 1) := by decide +kernel
theorem dX6_search_102 : decode cX6_search 102 = .ok (.iload_n 3, 1) := by decide +kernel
theorem dX6_search_103 : decode cX6_search 103 = .ok (.iconst 1, 1) := by decide +kernel
theorem dX6_search_104 : decode cX6_search 104 = .ok (.iload 6, 2) := by decide +kernel
theorem dX6_search_106 : decode cX6_search 106 = .ok (.ishl, 1) := by decide +kernel
theorem dX6_search_107 : decode cX6_search 107 = .ok (.iconst (-1), 1) := by decide +kernel
theorem dX6_search_108 : decode cX6_search 108 = .ok (.ixor, 1) := by decide +kernel
theorem dX6_search_109 : decode cX6_search 109 = .ok (.iand, 1) := by decide +kernel
theorem dX6_search_110 : decode cX6_search 110 = .ok (.iload 7, 2) := by decide +kernel
theorem dX6_search_112 : decode cX6_search 112 = .ok (.iload 5, 2) := by decide +kernel
theorem dX6_search_114 : decode cX6_search 114 = .ok (.aload_n 1, 1) := by decide +kernel
theorem dX6_search_115 : decode cX6_search 115 = .ok (.iload 7, 2) := by decide +kernel
theorem dX6_search_117 : decode cX6_search 117 = .ok (.invokevirtual 35, 3) := by decide +kernel
theorem dX6_search_120 : decode cX6_search 120 = .ok (.iadd, 1) := by decide +kernel
theorem dX6_search_121 : decode cX6_search 121 = .ok (.invokevirtual 22, 3) := by decide +kernel
theorem dX6_search_124 : decode cX6_search 124 = .ok (.iinc 6 1, 3) := by decide +kernel
theorem dX6_search_127 : decode cX6_search 127 = .ok (.goto (-72), 3) := by decide +kernel
theorem dX6_search_130 : decode cX6_search 130 = .ok (.return_, 1) := by decide +kernel
theorem dX6_keepPath_0 : decode cX6_keepPath 0 = .ok (.iconst 0, 1) := by decide +kernel
theorem dX6_keepPath_1 : decode cX6_keepPath 1 = .ok (.istore_n 1, 1) := by decide +kernel
theorem dX6_keepPath_2 : decode cX6_keepPath 2 = .ok (.iload_n 1, 1) := by decide +kernel
theorem dX6_keepPath_3 : decode cX6_keepPath 3 = .ok (.bipush 6, 2) := by decide +kernel
theorem dX6_keepPath_5 : decode cX6_keepPath 5 = .ok (.if_icmp .ge 21, 3) := by decide +kernel
theorem dX6_keepPath_8 : decode cX6_keepPath 8 = .ok (.aload_n 0, 1) := by decide +kernel
theorem dX6_keepPath_9 : decode cX6_keepPath 9 = .ok (.getfield 15, 3) := by decide +kernel
theorem dX6_keepPath_12 : decode cX6_keepPath 12 = .ok (.iload_n 1, 1) := by decide +kernel
theorem dX6_keepPath_13 : decode cX6_keepPath 13 = .ok (.aload_n 0, 1) := by decide +kernel
theorem dX6_keepPath_14 : decode cX6_keepPath 14 = .ok (.getfield 9, 3) := by decide +kernel
theorem dX6_keepPath_17 : decode cX6_keepPath 17 = .ok (.iload_n 1, 1) := by decide +kernel
theorem dX6_keepPath_18 : decode cX6_keepPath 18 = .ok (.iaload, 1) := by decide +kernel
theorem dX6_keepPath_19 : decode cX6_keepPath 19 = .ok (.iastore, 1) := by decide +kernel
theorem dX6_keepPath_20 : decode cX6_keepPath 20 = .ok (.iinc 1 1, 3) := by decide +kernel
theorem dX6_keepPath_23 : decode cX6_keepPath 23 = .ok (.goto (-21), 3) := by decide +kernel
theorem dX6_keepPath_26 : decode cX6_keepPath 26 = .ok (.return_, 1) := by decide +kernel
theorem dX7_init_0 : decode cX7_init 0 = .ok (.aload_n 0, 1) := by decide +kernel
theorem dX7_init_1 : decode cX7_init 1 = .ok (.invokespecial 3, 3) := by decide +kernel
theorem dX7_init_4 : decode cX7_init 4 = .ok (.aload_n 0, 1) := by decide +kernel
theorem dX7_init_5 : decode cX7_init 5 = .ok (.aload_n 1, 1) := by decide +kernel
theorem dX7_init_6 : decode cX7_init 6 = .ok (.putfield 9, 3) := by decide +kernel
theorem dX7_init_9 : decode cX7_init 9 = .ok (.aload_n 0, 1) := by decide +kernel
theorem dX7_init_10 : decode cX7_init 10 = .ok (.aload_n 2, 1) := by decide +kernel
theorem dX7_init_11 : decode cX7_init 11 = .ok (.putfield 15, 3) := by decide +kernel
theorem dX7_init_14 : decode cX7_init 14 = .ok (.return_, 1) := by decide +kernel
theorem dX7_readCounty_0 : decode cX7_readCounty 0 = .ok (.aload_n 0, 1) := by decide +kernel
theorem dX7_readCounty_1 : decode cX7_readCounty 1 = .ok (.aload_n 1, 1) := by decide +kernel
theorem dX7_readCounty_2 : decode cX7_readCounty 2 = .ok (.invokevirtual 19, 3) := by decide +kernel
theorem dX7_readCounty_5 : decode cX7_readCounty 5 = .ok (.aload_n 1, 1) := by decide +kernel
theorem dX7_readCounty_6 : decode cX7_readCounty 6 = .ok (.invokevirtual 23, 3) := by decide +kernel
theorem dX7_readCounty_9 : decode cX7_readCounty 9 = .ok (.iconst 1, 1) := by decide +kernel
theorem dX7_readCounty_10 : decode cX7_readCounty 10 = .ok (.istore_n 2, 1) := by decide +kernel
theorem dX7_readCounty_11 : decode cX7_readCounty 11 = .ok (.iconst 0, 1) := by decide +kernel
theorem dX7_readCounty_12 : decode cX7_readCounty 12 = .ok (.istore_n 3, 1) := by decide +kernel
theorem dX7_readCounty_13 : decode cX7_readCounty 13 = .ok (.iload_n 3, 1) := by decide +kernel
theorem dX7_readCounty_14 : decode cX7_readCounty 14 = .ok (.sipush 1000, 3) := by decide +kernel
theorem dX7_readCounty_17 : decode cX7_readCounty 17 = .ok (.if_icmp .ge 95, 3) := by decide +kernel
theorem dX7_readCounty_20 : decode cX7_readCounty 20 = .ok (.iload_n 2, 1) := by decide +kernel
theorem dX7_readCounty_21 : decode cX7_readCounty 21 = .ok (.ifCond .eq 91, 3) := by decide +kernel
theorem dX7_readCounty_24 : decode cX7_readCounty 24 = .ok (.aload_n 0, 1) := by decide +kernel
theorem dX7_readCounty_25 : decode cX7_readCounty 25 = .ok (.getfield 9, 3) := by decide +kernel
theorem dX7_readCounty_28 : decode cX7_readCounty 28 = .ok (.getfield 28, 3) := by decide +kernel
theorem dX7_readCounty_31 : decode cX7_readCounty 31 = .ok (.ifCond .eq 81, 3) := by decide +kernel
theorem dX7_readCounty_34 : decode cX7_readCounty 34 = .ok (.aload_n 0, 1) := by decide +kernel
theorem dX7_readCounty_35 : decode cX7_readCounty 35 = .ok (.getfield 9, 3) := by decide +kernel
theorem dX7_readCounty_38 : decode cX7_readCounty 38 = .ok (.getfield 34, 3) := by decide +kernel
theorem dX7_readCounty_41 : decode cX7_readCounty 41 = .ok (.tableswitch 59 0 4 #[35, 59, 59, 43, 51], 35) := by decide +kernel
theorem dX7_readCounty_76 : decode cX7_readCounty 76 = .ok (.aload_n 0, 1) := by decide +kernel
theorem dX7_readCounty_77 : decode cX7_readCounty 77 = .ok (.invokevirtual 37, 3) := by decide +kernel
theorem dX7_readCounty_80 : decode cX7_readCounty 80 = .ok (.istore_n 2, 1) := by decide +kernel
theorem dX7_readCounty_81 : decode cX7_readCounty 81 = .ok (.goto 25, 3) := by decide +kernel
theorem dX7_readCounty_84 : decode cX7_readCounty 84 = .ok (.aload_n 0, 1) := by decide +kernel
theorem dX7_readCounty_85 : decode cX7_readCounty 85 = .ok (.invokevirtual 41, 3) := by decide +kernel
theorem dX7_readCounty_88 : decode cX7_readCounty 88 = .ok (.istore_n 2, 1) := by decide +kernel
theorem dX7_readCounty_89 : decode cX7_readCounty 89 = .ok (.goto 17, 3) := by decide +kernel
theorem dX7_readCounty_92 : decode cX7_readCounty 92 = .ok (.aload_n 0, 1) := by decide +kernel
theorem dX7_readCounty_93 : decode cX7_readCounty 93 = .ok (.invokevirtual 44, 3) := by decide +kernel
theorem dX7_readCounty_96 : decode cX7_readCounty 96 = .ok (.istore_n 2, 1) := by decide +kernel
theorem dX7_readCounty_97 : decode cX7_readCounty 97 = .ok (.goto 9, 3) := by decide +kernel
theorem dX7_readCounty_100 : decode cX7_readCounty 100 = .ok (.aload_n 0, 1) := by decide +kernel
theorem dX7_readCounty_101 : decode cX7_readCounty 101 = .ok (.iconst 1, 1) := by decide +kernel
theorem dX7_readCounty_102 : decode cX7_readCounty 102 = .ok (.invokevirtual 47, 3) := by decide +kernel
theorem dX7_readCounty_105 : decode cX7_readCounty 105 = .ok (.istore_n 2, 1) := by decide +kernel
theorem dX7_readCounty_106 : decode cX7_readCounty 106 = .ok (.iinc 3 1, 3) := by decide +kernel
theorem dX7_readCounty_109 : decode cX7_readCounty 109 = .ok (.goto (-96), 3) := by decide +kernel
theorem dX7_readCounty_112 : decode cX7_readCounty 112 = .ok (.aload_n 0, 1) := by decide +kernel
theorem dX7_readCounty_113 : decode cX7_readCounty 113 = .ok (.getfield 9, 3) := by decide +kernel
theorem dX7_readCounty_116 : decode cX7_readCounty 116 = .ok (.iconst 0, 1) := by decide +kernel
theorem dX7_readCounty_117 : decode cX7_readCounty 117 = .ok (.putfield 51, 3) := by decide +kernel
theorem dX7_readCounty_120 : decode cX7_readCounty 120 = .ok (.aload_n 0, 1) := by decide +kernel
theorem dX7_readCounty_121 : decode cX7_readCounty 121 = .ok (.getfield 54, 3) := by decide +kernel
theorem dX7_readCounty_124 : decode cX7_readCounty 124 = .ok (.ireturn, 1) := by decide +kernel
theorem dX7_readPlan_0 : decode cX7_readPlan 0 = .ok (.aload_n 0, 1) := by decide +kernel
theorem dX7_readPlan_1 : decode cX7_readPlan 1 = .ok (.aload_n 1, 1) := by decide +kernel
theorem dX7_readPlan_2 : decode cX7_readPlan 2 = .ok (.invokevirtual 19, 3) := by decide +kernel
theorem dX7_readPlan_5 : decode cX7_readPlan 5 = .ok (.aload_n 2, 1) := by decide +kernel
theorem dX7_readPlan_6 : decode cX7_readPlan 6 = .ok (.invokevirtual 57, 3) := by decide +kernel
theorem dX7_readPlan_9 : decode cX7_readPlan 9 = .ok (.iconst 1, 1) := by decide +kernel
theorem dX7_readPlan_10 : decode cX7_readPlan 10 = .ok (.istore_n 3, 1) := by decide +kernel
theorem dX7_readPlan_11 : decode cX7_readPlan 11 = .ok (.iconst 0, 1) := by decide +kernel
theorem dX7_readPlan_12 : decode cX7_readPlan 12 = .ok (.istore 4, 2) := by decide +kernel
theorem dX7_readPlan_14 : decode cX7_readPlan 14 = .ok (.iload 4, 2) := by decide +kernel
theorem dX7_readPlan_16 : decode cX7_readPlan 16 = .ok (.sipush 1000, 3) := by decide +kernel
theorem dX7_readPlan_19 : decode cX7_readPlan 19 = .ok (.if_icmp .ge 29, 3) := by decide +kernel
theorem dX7_readPlan_22 : decode cX7_readPlan 22 = .ok (.iload_n 3, 1) := by decide +kernel
theorem dX7_readPlan_23 : decode cX7_readPlan 23 = .ok (.ifCond .eq 25, 3) := by decide +kernel
theorem dX7_readPlan_26 : decode cX7_readPlan 26 = .ok (.aload_n 0, 1) := by decide +kernel
theorem dX7_readPlan_27 : decode cX7_readPlan 27 = .ok (.getfield 9, 3) := by decide +kernel
theorem dX7_readPlan_30 : decode cX7_readPlan 30 = .ok (.getfield 28, 3) := by decide +kernel
theorem dX7_readPlan_33 : decode cX7_readPlan 33 = .ok (.ifCond .eq 15, 3) := by decide +kernel
theorem dX7_readPlan_36 : decode cX7_readPlan 36 = .ok (.aload_n 0, 1) := by decide +kernel
theorem dX7_readPlan_37 : decode cX7_readPlan 37 = .ok (.aload_n 2, 1) := by decide +kernel
theorem dX7_readPlan_38 : decode cX7_readPlan 38 = .ok (.invokevirtual 60, 3) := by decide +kernel
theorem dX7_readPlan_41 : decode cX7_readPlan 41 = .ok (.istore_n 3, 1) := by decide +kernel
theorem dX7_readPlan_42 : decode cX7_readPlan 42 = .ok (.iinc 4 1, 3) := by decide +kernel
theorem dX7_readPlan_45 : decode cX7_readPlan 45 = .ok (.goto (-31), 3) := by decide +kernel
theorem dX7_readPlan_48 : decode cX7_readPlan 48 = .ok (.aload_n 0, 1) := by decide +kernel
theorem dX7_readPlan_49 : decode cX7_readPlan 49 = .ok (.getfield 9, 3) := by decide +kernel
theorem dX7_readPlan_52 : decode cX7_readPlan 52 = .ok (.iconst 0, 1) := by decide +kernel
theorem dX7_readPlan_53 : decode cX7_readPlan 53 = .ok (.putfield 51, 3) := by decide +kernel
theorem dX7_readPlan_56 : decode cX7_readPlan 56 = .ok (.aload_n 0, 1) := by decide +kernel
theorem dX7_readPlan_57 : decode cX7_readPlan 57 = .ok (.getfield 54, 3) := by decide +kernel
theorem dX7_readPlan_60 : decode cX7_readPlan 60 = .ok (.ireturn, 1) := by decide +kernel
theorem dX7_begin_0 : decode cX7_begin 0 = .ok (.aload_n 0, 1) := by decide +kernel
theorem dX7_begin_1 : decode cX7_begin 1 = .ok (.aload_n 1, 1) := by decide +kernel
theorem dX7_begin_2 : decode cX7_begin 2 = .ok (.putfield 15, 3) := by decide +kernel
theorem dX7_begin_5 : decode cX7_begin 5 = .ok (.aload_n 0, 1) := by decide +kernel
theorem dX7_begin_6 : decode cX7_begin 6 = .ok (.iconst 0, 1) := by decide +kernel
theorem dX7_begin_7 : decode cX7_begin 7 = .ok (.putfield 54, 3) := by decide +kernel
theorem dX7_begin_10 : decode cX7_begin 10 = .ok (.aload_n 0, 1) := by decide +kernel
theorem dX7_begin_11 : decode cX7_begin 11 = .ok (.getfield 9, 3) := by decide +kernel
theorem dX7_begin_14 : decode cX7_begin 14 = .ok (.invokevirtual 64, 3) := by decide +kernel
theorem dX7_begin_17 : decode cX7_begin 17 = .ok (.return_, 1) := by decide +kernel
theorem dX7_fail_0 : decode cX7_fail 0 = .ok (.aload_n 0, 1) := by decide +kernel
theorem dX7_fail_1 : decode cX7_fail 1 = .ok (.iload_n 1, 1) := by decide +kernel
theorem dX7_fail_2 : decode cX7_fail 2 = .ok (.bipush 16, 2) := by decide +kernel
theorem dX7_fail_4 : decode cX7_fail 4 = .ok (.aload_n 0, 1) := by decide +kernel
theorem dX7_fail_5 : decode cX7_fail 5 = .ok (.getfield 9, 3) := by decide +kernel
theorem dX7_fail_8 : decode cX7_fail 8 = .ok (.getfield 67, 3) := by decide +kernel
theorem dX7_fail_11 : decode cX7_fail 11 = .ok (.imul, 1) := by decide +kernel
theorem dX7_fail_12 : decode cX7_fail 12 = .ok (.iadd, 1) := by decide +kernel
theorem dX7_fail_13 : decode cX7_fail 13 = .ok (.putfield 54, 3) := by decide +kernel
theorem dX7_fail_16 : decode cX7_fail 16 = .ok (.iconst 0, 1) := by decide +kernel
theorem dX7_fail_17 : decode cX7_fail 17 = .ok (.ireturn, 1) := by decide +kernel
theorem dX7_readShot_0 : decode cX7_readShot 0 = .ok (.aload_n 0, 1) := by decide +kernel
theorem dX7_readShot_1 : decode cX7_readShot 1 = .ok (.getfield 15, 3) := by decide +kernel
theorem dX7_readShot_4 : decode cX7_readShot 4 = .ok (.getfield 70, 3) := by decide +kernel
theorem dX7_readShot_7 : decode cX7_readShot 7 = .ok (.bipush 10, 2) := by decide +kernel
theorem dX7_readShot_9 : decode cX7_readShot 9 = .ok (.if_icmp .lt 9, 3) := by decide +kernel
theorem dX7_readShot_12 : decode cX7_readShot 12 = .ok (.aload_n 0, 1) := by decide +kernel
theorem dX7_readShot_13 : decode cX7_readShot 13 = .ok (.iconst 5, 1) := by decide +kernel
theorem dX7_readShot_14 : decode cX7_readShot 14 = .ok (.invokevirtual 47, 3) := by decide +kernel
theorem dX7_readShot_17 : decode cX7_readShot 17 = .ok (.ireturn, 1) := by decide +kernel
theorem dX7_readShot_18 : decode cX7_readShot 18 = .ok (.aload_n 0, 1) := by decide +kernel
theorem dX7_readShot_19 : decode cX7_readShot 19 = .ok (.getfield 9, 3) := by decide +kernel
theorem dX7_readShot_22 : decode cX7_readShot 22 = .ok (.invokevirtual 73, 3) := by decide +kernel
theorem dX7_readShot_25 : decode cX7_readShot 25 = .ok (.aload_n 0, 1) := by decide +kernel
theorem dX7_readShot_26 : decode cX7_readShot 26 = .ok (.getfield 9, 3) := by decide +kernel
theorem dX7_readShot_29 : decode cX7_readShot 29 = .ok (.getfield 76, 3) := by decide +kernel
theorem dX7_readShot_32 : decode cX7_readShot 32 = .ok (.lstore_n 1, 1) := by decide +kernel
theorem dX7_readShot_33 : decode cX7_readShot 33 = .ok (.aload_n 0, 1) := by decide +kernel
theorem dX7_readShot_34 : decode cX7_readShot 34 = .ok (.invokevirtual 80, 3) := by decide +kernel
theorem dX7_readShot_37 : decode cX7_readShot 37 = .ok (.ifCond .eq 11, 3) := by decide +kernel
theorem dX7_readShot_40 : decode cX7_readShot 40 = .ok (.aload_n 0, 1) := by decide +kernel
theorem dX7_readShot_41 : decode cX7_readShot 41 = .ok (.iconst 1, 1) := by decide +kernel
theorem dX7_readShot_42 : decode cX7_readShot 42 = .ok (.invokevirtual 83, 3) := by decide +kernel
theorem dX7_readShot_45 : decode cX7_readShot 45 = .ok (.ifCond .ne 5, 3) := by decide +kernel
theorem dX7_readShot_48 : decode cX7_readShot 48 = .ok (.iconst 0, 1) := by decide +kernel
theorem dX7_readShot_49 : decode cX7_readShot 49 = .ok (.ireturn, 1) := by decide +kernel
theorem dX7_readShot_50 : decode cX7_readShot 50 = .ok (.aload_n 0, 1) := by decide +kernel
theorem dX7_readShot_51 : decode cX7_readShot 51 = .ok (.getfield 9, 3) := by decide +kernel
theorem dX7_readShot_54 : decode cX7_readShot 54 = .ok (.getfield 86, 3) := by decide +kernel
theorem dX7_readShot_57 : decode cX7_readShot 57 = .ok (.istore_n 3, 1) := by decide +kernel
theorem dX7_readShot_58 : decode cX7_readShot 58 = .ok (.aload_n 0, 1) := by decide +kernel
theorem dX7_readShot_59 : decode cX7_readShot 59 = .ok (.iconst 0, 1) := by decide +kernel
theorem dX7_readShot_60 : decode cX7_readShot 60 = .ok (.bipush 9, 2) := by decide +kernel
theorem dX7_readShot_62 : decode cX7_readShot 62 = .ok (.invokevirtual 89, 3) := by decide +kernel
theorem dX7_readShot_65 : decode cX7_readShot 65 = .ok (.ifCond .eq 11, 3) := by decide +kernel
theorem dX7_readShot_68 : decode cX7_readShot 68 = .ok (.aload_n 0, 1) := by decide +kernel
theorem dX7_readShot_69 : decode cX7_readShot 69 = .ok (.iconst 2, 1) := by decide +kernel
theorem dX7_readShot_70 : decode cX7_readShot 70 = .ok (.invokevirtual 83, 3) := by decide +kernel
theorem dX7_readShot_73 : decode cX7_readShot 73 = .ok (.ifCond .ne 5, 3) := by decide +kernel
theorem dX7_readShot_76 : decode cX7_readShot 76 = .ok (.iconst 0, 1) := by decide +kernel
theorem dX7_readShot_77 : decode cX7_readShot 77 = .ok (.ireturn, 1) := by decide +kernel
theorem dX7_readShot_78 : decode cX7_readShot 78 = .ok (.aload_n 0, 1) := by decide +kernel
theorem dX7_readShot_79 : decode cX7_readShot 79 = .ok (.getfield 9, 3) := by decide +kernel
theorem dX7_readShot_82 : decode cX7_readShot 82 = .ok (.getfield 86, 3) := by decide +kernel
theorem dX7_readShot_85 : decode cX7_readShot 85 = .ok (.istore 4, 2) := by decide +kernel
theorem dX7_readShot_87 : decode cX7_readShot 87 = .ok (.aload_n 0, 1) := by decide +kernel
theorem dX7_readShot_88 : decode cX7_readShot 88 = .ok (.iconst 1, 1) := by decide +kernel
theorem dX7_readShot_89 : decode cX7_readShot 89 = .ok (.bipush 60, 2) := by decide +kernel
theorem dX7_readShot_91 : decode cX7_readShot 91 = .ok (.invokevirtual 89, 3) := by decide +kernel
theorem dX7_readShot_94 : decode cX7_readShot 94 = .ok (.ifCond .eq 10, 3) := by decide +kernel
theorem dX7_readShot_97 : decode cX7_readShot 97 = .ok (.aload_n 0, 1) := by decide +kernel
theorem dX7_readShot_98 : decode cX7_readShot 98 = .ok (.invokevirtual 93, 3) := by decide +kernel
theorem dX7_readShot_101 : decode cX7_readShot 101 = .ok (.ifCond .ne 5, 3) := by decide +kernel
theorem dX7_readShot_104 : decode cX7_readShot 104 = .ok (.iconst 0, 1) := by decide +kernel
theorem dX7_readShot_105 : decode cX7_readShot 105 = .ok (.ireturn, 1) := by decide +kernel
theorem dX7_readShot_106 : decode cX7_readShot 106 = .ok (.aload_n 0, 1) := by decide +kernel
theorem dX7_readShot_107 : decode cX7_readShot 107 = .ok (.getfield 15, 3) := by decide +kernel
theorem dX7_readShot_110 : decode cX7_readShot 110 = .ok (.lload_n 1, 1) := by decide +kernel
theorem dX7_readShot_111 : decode cX7_readShot 111 = .ok (.iload_n 3, 1) := by decide +kernel
theorem dX7_readShot_112 : decode cX7_readShot 112 = .ok (.iload 4, 2) := by decide +kernel
theorem dX7_readShot_114 : decode cX7_readShot 114 = .ok (.invokevirtual 96, 3) := by decide +kernel
theorem dX7_readShot_117 : decode cX7_readShot 117 = .ok (.iconst 1, 1) := by decide +kernel
theorem dX7_readShot_118 : decode cX7_readShot 118 = .ok (.ireturn, 1) := by decide +kernel
theorem dX7_readNeeds_0 : decode cX7_readNeeds 0 = .ok (.aload_n 0, 1) := by decide +kernel
theorem dX7_readNeeds_1 : decode cX7_readNeeds 1 = .ok (.getfield 9, 3) := by decide +kernel
theorem dX7_readNeeds_4 : decode cX7_readNeeds 4 = .ok (.invokevirtual 73, 3) := by decide +kernel
theorem dX7_readNeeds_7 : decode cX7_readNeeds 7 = .ok (.aload_n 0, 1) := by decide +kernel
theorem dX7_readNeeds_8 : decode cX7_readNeeds 8 = .ok (.getfield 15, 3) := by decide +kernel
theorem dX7_readNeeds_11 : decode cX7_readNeeds 11 = .ok (.aload_n 0, 1) := by decide +kernel
theorem dX7_readNeeds_12 : decode cX7_readNeeds 12 = .ok (.getfield 9, 3) := by decide +kernel
theorem dX7_readNeeds_15 : decode cX7_readNeeds 15 = .ok (.getfield 76, 3) := by decide +kernel
theorem dX7_readNeeds_18 : decode cX7_readNeeds 18 = .ok (.invokevirtual 100, 3) := by decide +kernel
theorem dX7_readNeeds_21 : decode cX7_readNeeds 21 = .ok (.istore_n 1, 1) := by decide +kernel
theorem dX7_readNeeds_22 : decode cX7_readNeeds 22 = .ok (.aload_n 0, 1) := by decide +kernel
theorem dX7_readNeeds_23 : decode cX7_readNeeds 23 = .ok (.iload_n 1, 1) := by decide +kernel
theorem dX7_readNeeds_24 : decode cX7_readNeeds 24 = .ok (.invokevirtual 104, 3) := by decide +kernel
theorem dX7_readNeeds_27 : decode cX7_readNeeds 27 = .ok (.ifCond .ne 5, 3) := by decide +kernel
theorem dX7_readNeeds_30 : decode cX7_readNeeds 30 = .ok (.iconst 0, 1) := by decide +kernel
theorem dX7_readNeeds_31 : decode cX7_readNeeds 31 = .ok (.ireturn, 1) := by decide +kernel
theorem dX7_readNeeds_32 : decode cX7_readNeeds 32 = .ok (.aload_n 0, 1) := by decide +kernel
theorem dX7_readNeeds_33 : decode cX7_readNeeds 33 = .ok (.getfield 15, 3) := by decide +kernel
theorem dX7_readNeeds_36 : decode cX7_readNeeds 36 = .ok (.aload_n 0, 1) := by decide +kernel
theorem dX7_readNeeds_37 : decode cX7_readNeeds 37 = .ok (.getfield 9, 3) := by decide +kernel
theorem dX7_readNeeds_40 : decode cX7_readNeeds 40 = .ok (.getfield 76, 3) := by decide +kernel
theorem dX7_readNeeds_43 : decode cX7_readNeeds 43 = .ok (.invokevirtual 100, 3) := by decide +kernel
theorem dX7_readNeeds_46 : decode cX7_readNeeds 46 = .ok (.istore_n 2, 1) := by decide +kernel
theorem dX7_readNeeds_47 : decode cX7_readNeeds 47 = .ok (.aload_n 0, 1) := by decide +kernel
theorem dX7_readNeeds_48 : decode cX7_readNeeds 48 = .ok (.invokevirtual 107, 3) := by decide +kernel
theorem dX7_readNeeds_51 : decode cX7_readNeeds 51 = .ok (.ifCond .eq 26, 3) := by decide +kernel
theorem dX7_readNeeds_54 : decode cX7_readNeeds 54 = .ok (.iload_n 2, 1) := by decide +kernel
theorem dX7_readNeeds_55 : decode cX7_readNeeds 55 = .ok (.iload_n 1, 1) := by decide +kernel
theorem dX7_readNeeds_56 : decode cX7_readNeeds 56 = .ok (.if_icmp .eq 15, 3) := by decide +kernel
theorem dX7_readNeeds_59 : decode cX7_readNeeds 59 = .ok (.aload_n 0, 1) := by decide +kernel
theorem dX7_readNeeds_60 : decode cX7_readNeeds 60 = .ok (.getfield 15, 3) := by decide +kernel
theorem dX7_readNeeds_63 : decode cX7_readNeeds 63 = .ok (.iload_n 1, 1) := by decide +kernel
theorem dX7_readNeeds_64 : decode cX7_readNeeds 64 = .ok (.iload_n 2, 1) := by decide +kernel
theorem dX7_readNeeds_65 : decode cX7_readNeeds 65 = .ok (.invokevirtual 110, 3) := by decide +kernel
theorem dX7_readNeeds_68 : decode cX7_readNeeds 68 = .ok (.ifCond .eq 9, 3) := by decide +kernel
theorem dX7_readNeeds_71 : decode cX7_readNeeds 71 = .ok (.aload_n 0, 1) := by decide +kernel
theorem dX7_readNeeds_72 : decode cX7_readNeeds 72 = .ok (.iconst 3, 1) := by decide +kernel
theorem dX7_readNeeds_73 : decode cX7_readNeeds 73 = .ok (.invokevirtual 47, 3) := by decide +kernel
theorem dX7_readNeeds_76 : decode cX7_readNeeds 76 = .ok (.ireturn, 1) := by decide +kernel
theorem dX7_readNeeds_77 : decode cX7_readNeeds 77 = .ok (.aload_n 0, 1) := by decide +kernel
theorem dX7_readNeeds_78 : decode cX7_readNeeds 78 = .ok (.iload_n 2, 1) := by decide +kernel
theorem dX7_readNeeds_79 : decode cX7_readNeeds 79 = .ok (.invokevirtual 104, 3) := by decide +kernel
theorem dX7_readNeeds_82 : decode cX7_readNeeds 82 = .ok (.ifCond .eq 10, 3) := by decide +kernel
theorem dX7_readNeeds_85 : decode cX7_readNeeds 85 = .ok (.aload_n 0, 1) := by decide +kernel
theorem dX7_readNeeds_86 : decode cX7_readNeeds 86 = .ok (.invokevirtual 93, 3) := by decide +kernel
theorem dX7_readNeeds_89 : decode cX7_readNeeds 89 = .ok (.ifCond .ne 5, 3) := by decide +kernel
theorem dX7_readNeeds_92 : decode cX7_readNeeds 92 = .ok (.iconst 0, 1) := by decide +kernel
theorem dX7_readNeeds_93 : decode cX7_readNeeds 93 = .ok (.ireturn, 1) := by decide +kernel
theorem dX7_readNeeds_94 : decode cX7_readNeeds 94 = .ok (.aload_n 0, 1) := by decide +kernel
theorem dX7_readNeeds_95 : decode cX7_readNeeds 95 = .ok (.getfield 15, 3) := by decide +kernel
theorem dX7_readNeeds_98 : decode cX7_readNeeds 98 = .ok (.iload_n 1, 1) := by decide +kernel
theorem dX7_readNeeds_99 : decode cX7_readNeeds 99 = .ok (.iload_n 2, 1) := by decide +kernel
theorem dX7_readNeeds_100 : decode cX7_readNeeds 100 = .ok (.invokevirtual 113, 3) := by decide +kernel
theorem dX7_readNeeds_103 : decode cX7_readNeeds 103 = .ok (.iconst 1, 1) := by decide +kernel
theorem dX7_readNeeds_104 : decode cX7_readNeeds 104 = .ok (.ireturn, 1) := by decide +kernel
theorem dX7_readHall_0 : decode cX7_readHall 0 = .ok (.aload_n 0, 1) := by decide +kernel
theorem dX7_readHall_1 : decode cX7_readHall 1 = .ok (.getfield 15, 3) := by decide +kernel
theorem dX7_readHall_4 : decode cX7_readHall 4 = .ok (.getfield 117, 3) := by decide +kernel
theorem dX7_readHall_7 : decode cX7_readHall 7 = .ok (.bipush 6, 2) := by decide +kernel
theorem dX7_readHall_9 : decode cX7_readHall 9 = .ok (.if_icmp .lt 9, 3) := by decide +kernel
theorem dX7_readHall_12 : decode cX7_readHall 12 = .ok (.aload_n 0, 1) := by decide +kernel
theorem dX7_readHall_13 : decode cX7_readHall 13 = .ok (.iconst 5, 1) := by decide +kernel
theorem dX7_readHall_14 : decode cX7_readHall 14 = .ok (.invokevirtual 47, 3) := by decide +kernel
theorem dX7_readHall_17 : decode cX7_readHall 17 = .ok (.ireturn, 1) := by decide +kernel
theorem dX7_readHall_18 : decode cX7_readHall 18 = .ok (.aload_n 0, 1) := by decide +kernel
theorem dX7_readHall_19 : decode cX7_readHall 19 = .ok (.getfield 9, 3) := by decide +kernel
theorem dX7_readHall_22 : decode cX7_readHall 22 = .ok (.invokevirtual 73, 3) := by decide +kernel
theorem dX7_readHall_25 : decode cX7_readHall 25 = .ok (.aload_n 0, 1) := by decide +kernel
theorem dX7_readHall_26 : decode cX7_readHall 26 = .ok (.getfield 9, 3) := by decide +kernel
theorem dX7_readHall_29 : decode cX7_readHall 29 = .ok (.getfield 76, 3) := by decide +kernel
theorem dX7_readHall_32 : decode cX7_readHall 32 = .ok (.lstore_n 1, 1) := by decide +kernel
theorem dX7_readHall_33 : decode cX7_readHall 33 = .ok (.aload_n 0, 1) := by decide +kernel
theorem dX7_readHall_34 : decode cX7_readHall 34 = .ok (.invokevirtual 80, 3) := by decide +kernel
theorem dX7_readHall_37 : decode cX7_readHall 37 = .ok (.ifCond .ne 5, 3) := by decide +kernel
theorem dX7_readHall_40 : decode cX7_readHall 40 = .ok (.iconst 0, 1) := by decide +kernel
theorem dX7_readHall_41 : decode cX7_readHall 41 = .ok (.ireturn, 1) := by decide +kernel
theorem dX7_readHall_42 : decode cX7_readHall 42 = .ok (.aload_n 0, 1) := by decide +kernel
theorem dX7_readHall_43 : decode cX7_readHall 43 = .ok (.getfield 9, 3) := by decide +kernel
theorem dX7_readHall_46 : decode cX7_readHall 46 = .ok (.getfield 34, 3) := by decide +kernel
theorem dX7_readHall_49 : decode cX7_readHall 49 = .ok (.istore_n 3, 1) := by decide +kernel
theorem dX7_readHall_50 : decode cX7_readHall 50 = .ok (.iload_n 3, 1) := by decide +kernel
theorem dX7_readHall_51 : decode cX7_readHall 51 = .ok (.bipush 10, 2) := by decide +kernel
theorem dX7_readHall_53 : decode cX7_readHall 53 = .ok (.if_icmp .lt 9, 3) := by decide +kernel
theorem dX7_readHall_56 : decode cX7_readHall 56 = .ok (.iload_n 3, 1) := by decide +kernel
theorem dX7_readHall_57 : decode cX7_readHall 57 = .ok (.bipush 13, 2) := by decide +kernel
theorem dX7_readHall_59 : decode cX7_readHall 59 = .ok (.if_icmp .le 9, 3) := by decide +kernel
theorem dX7_readHall_62 : decode cX7_readHall 62 = .ok (.aload_n 0, 1) := by decide +kernel
theorem dX7_readHall_63 : decode cX7_readHall 63 = .ok (.iconst 1, 1) := by decide +kernel
theorem dX7_readHall_64 : decode cX7_readHall 64 = .ok (.invokevirtual 47, 3) := by decide +kernel
theorem dX7_readHall_67 : decode cX7_readHall 67 = .ok (.ireturn, 1) := by decide +kernel
theorem dX7_readHall_68 : decode cX7_readHall 68 = .ok (.aload_n 0, 1) := by decide +kernel
theorem dX7_readHall_69 : decode cX7_readHall 69 = .ok (.getfield 9, 3) := by decide +kernel
theorem dX7_readHall_72 : decode cX7_readHall 72 = .ok (.invokevirtual 73, 3) := by decide +kernel
theorem dX7_readHall_75 : decode cX7_readHall 75 = .ok (.aload_n 0, 1) := by decide +kernel
theorem dX7_readHall_76 : decode cX7_readHall 76 = .ok (.iconst 5, 1) := by decide +kernel
theorem dX7_readHall_77 : decode cX7_readHall 77 = .ok (.invokevirtual 83, 3) := by decide +kernel
theorem dX7_readHall_80 : decode cX7_readHall 80 = .ok (.ifCond .eq 18, 3) := by decide +kernel
theorem dX7_readHall_83 : decode cX7_readHall 83 = .ok (.aload_n 0, 1) := by decide +kernel
theorem dX7_readHall_84 : decode cX7_readHall 84 = .ok (.iconst 0, 1) := by decide +kernel
theorem dX7_readHall_85 : decode cX7_readHall 85 = .ok (.invokevirtual 120, 3) := by decide +kernel
theorem dX7_readHall_88 : decode cX7_readHall 88 = .ok (.ifCond .eq 10, 3) := by decide +kernel
theorem dX7_readHall_91 : decode cX7_readHall 91 = .ok (.aload_n 0, 1) := by decide +kernel
theorem dX7_readHall_92 : decode cX7_readHall 92 = .ok (.invokevirtual 93, 3) := by decide +kernel
theorem dX7_readHall_95 : decode cX7_readHall 95 = .ok (.ifCond .ne 5, 3) := by decide +kernel
theorem dX7_readHall_98 : decode cX7_readHall 98 = .ok (.iconst 0, 1) := by decide +kernel
theorem dX7_readHall_99 : decode cX7_readHall 99 = .ok (.ireturn, 1) := by decide +kernel
theorem dX7_readHall_100 : decode cX7_readHall 100 = .ok (.aload_n 0, 1) := by decide +kernel
theorem dX7_readHall_101 : decode cX7_readHall 101 = .ok (.getfield 15, 3) := by decide +kernel
theorem dX7_readHall_104 : decode cX7_readHall 104 = .ok (.lload_n 1, 1) := by decide +kernel
theorem dX7_readHall_105 : decode cX7_readHall 105 = .ok (.iload_n 3, 1) := by decide +kernel
theorem dX7_readHall_106 : decode cX7_readHall 106 = .ok (.bipush 10, 2) := by decide +kernel
theorem dX7_readHall_108 : decode cX7_readHall 108 = .ok (.isub, 1) := by decide +kernel
theorem dX7_readHall_109 : decode cX7_readHall 109 = .ok (.iconst 0, 1) := by decide +kernel
theorem dX7_readHall_110 : decode cX7_readHall 110 = .ok (.iadd, 1) := by decide +kernel
theorem dX7_readHall_111 : decode cX7_readHall 111 = .ok (.invokevirtual 123, 3) := by decide +kernel
theorem dX7_readHall_114 : decode cX7_readHall 114 = .ok (.iconst 1, 1) := by decide +kernel
theorem dX7_readHall_115 : decode cX7_readHall 115 = .ok (.ireturn, 1) := by decide +kernel
theorem dX7_readPlanLine_0 : decode cX7_readPlanLine 0 = .ok (.aload_n 0, 1) := by decide +kernel
theorem dX7_readPlanLine_1 : decode cX7_readPlanLine 1 = .ok (.getfield 9, 3) := by decide +kernel
theorem dX7_readPlanLine_4 : decode cX7_readPlanLine 4 = .ok (.getfield 34, 3) := by decide +kernel
theorem dX7_readPlanLine_7 : decode cX7_readPlanLine 7 = .ok (.istore_n 2, 1) := by decide +kernel
theorem dX7_readPlanLine_8 : decode cX7_readPlanLine 8 = .ok (.iload_n 2, 1) := by decide +kernel
theorem dX7_readPlanLine_9 : decode cX7_readPlanLine 9 = .ok (.bipush 6, 2) := by decide +kernel
theorem dX7_readPlanLine_11 : decode cX7_readPlanLine 11 = .ok (.if_icmp .lt 9, 3) := by decide +kernel
theorem dX7_readPlanLine_14 : decode cX7_readPlanLine 14 = .ok (.iload_n 2, 1) := by decide +kernel
theorem dX7_readPlanLine_15 : decode cX7_readPlanLine 15 = .ok (.bipush 9, 2) := by decide +kernel
theorem dX7_readPlanLine_17 : decode cX7_readPlanLine 17 = .ok (.if_icmp .le 9, 3) := by decide +kernel
theorem dX7_readPlanLine_20 : decode cX7_readPlanLine 20 = .ok (.aload_n 0, 1) := by decide +kernel
theorem dX7_readPlanLine_21 : decode cX7_readPlanLine 21 = .ok (.iconst 1, 1) := by decide +kernel
theorem dX7_readPlanLine_22 : decode cX7_readPlanLine 22 = .ok (.invokevirtual 47, 3) := by decide +kernel
theorem dX7_readPlanLine_25 : decode cX7_readPlanLine 25 = .ok (.ireturn, 1) := by decide +kernel
theorem dX7_readPlanLine_26 : decode cX7_readPlanLine 26 = .ok (.aload_n 1, 1) := by decide +kernel
theorem dX7_readPlanLine_27 : decode cX7_readPlanLine 27 = .ok (.getfield 127, 3) := by decide +kernel
theorem dX7_readPlanLine_30 : decode cX7_readPlanLine 30 = .ok (.bipush 40, 2) := by decide +kernel
theorem dX7_readPlanLine_32 : decode cX7_readPlanLine 32 = .ok (.if_icmp .lt 9, 3) := by decide +kernel
theorem dX7_readPlanLine_35 : decode cX7_readPlanLine 35 = .ok (.aload_n 0, 1) := by decide +kernel
theorem dX7_readPlanLine_36 : decode cX7_readPlanLine 36 = .ok (.iconst 5, 1) := by decide +kernel
theorem dX7_readPlanLine_37 : decode cX7_readPlanLine 37 = .ok (.invokevirtual 47, 3) := by decide +kernel
theorem dX7_readPlanLine_40 : decode cX7_readPlanLine 40 = .ok (.ireturn, 1) := by decide +kernel
theorem dX7_readPlanLine_41 : decode cX7_readPlanLine 41 = .ok (.aload_n 0, 1) := by decide +kernel
theorem dX7_readPlanLine_42 : decode cX7_readPlanLine 42 = .ok (.getfield 9, 3) := by decide +kernel
theorem dX7_readPlanLine_45 : decode cX7_readPlanLine 45 = .ok (.invokevirtual 73, 3) := by decide +kernel
theorem dX7_readPlanLine_48 : decode cX7_readPlanLine 48 = .ok (.iload_n 2, 1) := by decide +kernel
theorem dX7_readPlanLine_49 : decode cX7_readPlanLine 49 = .ok (.bipush 6, 2) := by decide +kernel
theorem dX7_readPlanLine_51 : decode cX7_readPlanLine 51 = .ok (.isub, 1) := by decide +kernel
theorem dX7_readPlanLine_52 : decode cX7_readPlanLine 52 = .ok (.iconst 0, 1) := by decide +kernel
theorem dX7_readPlanLine_53 : decode cX7_readPlanLine 53 = .ok (.iadd, 1) := by decide +kernel
theorem dX7_readPlanLine_54 : decode cX7_readPlanLine 54 = .ok (.istore_n 3, 1) := by decide +kernel
theorem dX7_readPlanLine_55 : decode cX7_readPlanLine 55 = .ok (.iload_n 3, 1) := by decide +kernel
theorem dX7_readPlanLine_56 : decode cX7_readPlanLine 56 = .ok (.iconst 1, 1) := by decide +kernel
theorem dX7_readPlanLine_57 : decode cX7_readPlanLine 57 = .ok (.if_icmp .eq 8, 3) := by decide +kernel
theorem dX7_readPlanLine_60 : decode cX7_readPlanLine 60 = .ok (.iload_n 3, 1) := by decide +kernel
theorem dX7_readPlanLine_61 : decode cX7_readPlanLine 61 = .ok (.iconst 2, 1) := by decide +kernel
theorem dX7_readPlanLine_62 : decode cX7_readPlanLine 62 = .ok (.if_icmp .ne 12, 3) := by decide +kernel
theorem dX7_readPlanLine_65 : decode cX7_readPlanLine 65 = .ok (.aload_n 0, 1) := by decide +kernel
theorem dX7_readPlanLine_66 : decode cX7_readPlanLine 66 = .ok (.aload_n 1, 1) := by decide +kernel
theorem dX7_readPlanLine_67 : decode cX7_readPlanLine 67 = .ok (.iload_n 3, 1) := by decide +kernel
theorem dX7_readPlanLine_68 : decode cX7_readPlanLine 68 = .ok (.invokevirtual 130, 3) := by decide +kernel
theorem dX7_readPlanLine_71 : decode cX7_readPlanLine 71 = .ok (.goto 9, 3) := by decide +kernel
theorem dX7_readPlanLine_74 : decode cX7_readPlanLine 74 = .ok (.aload_n 0, 1) := by decide +kernel
theorem dX7_readPlanLine_75 : decode cX7_readPlanLine 75 = .ok (.aload_n 1, 1) := by decide +kernel
theorem dX7_readPlanLine_76 : decode cX7_readPlanLine 76 = .ok (.iload_n 3, 1) := by decide +kernel
theorem dX7_readPlanLine_77 : decode cX7_readPlanLine 77 = .ok (.invokevirtual 134, 3) := by decide +kernel
theorem dX7_readPlanLine_80 : decode cX7_readPlanLine 80 = .ok (.ireturn, 1) := by decide +kernel
theorem dX7_readBare_0 : decode cX7_readBare 0 = .ok (.aload_n 0, 1) := by decide +kernel
theorem dX7_readBare_1 : decode cX7_readBare 1 = .ok (.invokevirtual 93, 3) := by decide +kernel
theorem dX7_readBare_4 : decode cX7_readBare 4 = .ok (.ifCond .ne 5, 3) := by decide +kernel
theorem dX7_readBare_7 : decode cX7_readBare 7 = .ok (.iconst 0, 1) := by decide +kernel
theorem dX7_readBare_8 : decode cX7_readBare 8 = .ok (.ireturn, 1) := by decide +kernel
theorem dX7_readBare_9 : decode cX7_readBare 9 = .ok (.aload_n 1, 1) := by decide +kernel
theorem dX7_readBare_10 : decode cX7_readBare 10 = .ok (.iload_n 2, 1) := by decide +kernel
theorem dX7_readBare_11 : decode cX7_readBare 11 = .ok (.iconst (-1), 1) := by decide +kernel
theorem dX7_readBare_12 : decode cX7_readBare 12 = .ok (.iconst (-1), 1) := by decide +kernel
theorem dX7_readBare_13 : decode cX7_readBare 13 = .ok (.iconst (-1), 1) := by decide +kernel
theorem dX7_readBare_14 : decode cX7_readBare 14 = .ok (.invokevirtual 137, 3) := by decide +kernel
theorem dX7_readBare_17 : decode cX7_readBare 17 = .ok (.iconst 1, 1) := by decide +kernel
theorem dX7_readBare_18 : decode cX7_readBare 18 = .ok (.ireturn, 1) := by decide +kernel
theorem dX7_readHandling_0 : decode cX7_readHandling 0 = .ok (.aload_n 0, 1) := by decide +kernel
theorem dX7_readHandling_1 : decode cX7_readHandling 1 = .ok (.getfield 15, 3) := by decide +kernel
theorem dX7_readHandling_4 : decode cX7_readHandling 4 = .ok (.aload_n 0, 1) := by decide +kernel
theorem dX7_readHandling_5 : decode cX7_readHandling 5 = .ok (.getfield 9, 3) := by decide +kernel
theorem dX7_readHandling_8 : decode cX7_readHandling 8 = .ok (.getfield 76, 3) := by decide +kernel
theorem dX7_readHandling_11 : decode cX7_readHandling 11 = .ok (.invokevirtual 141, 3) := by decide +kernel
theorem dX7_readHandling_14 : decode cX7_readHandling 14 = .ok (.istore_n 3, 1) := by decide +kernel
theorem dX7_readHandling_15 : decode cX7_readHandling 15 = .ok (.aload_n 0, 1) := by decide +kernel
theorem dX7_readHandling_16 : decode cX7_readHandling 16 = .ok (.iload_n 3, 1) := by decide +kernel
theorem dX7_readHandling_17 : decode cX7_readHandling 17 = .ok (.invokevirtual 104, 3) := by decide +kernel
theorem dX7_readHandling_20 : decode cX7_readHandling 20 = .ok (.ifCond .ne 5, 3) := by decide +kernel
theorem dX7_readHandling_23 : decode cX7_readHandling 23 = .ok (.iconst 0, 1) := by decide +kernel
theorem dX7_readHandling_24 : decode cX7_readHandling 24 = .ok (.ireturn, 1) := by decide +kernel
theorem dX7_readHandling_25 : decode cX7_readHandling 25 = .ok (.iconst (-1), 1) := by decide +kernel
theorem dX7_readHandling_26 : decode cX7_readHandling 26 = .ok (.istore 4, 2) := by decide +kernel
theorem dX7_readHandling_28 : decode cX7_readHandling 28 = .ok (.iload_n 2, 1) := by decide +kernel
theorem dX7_readHandling_29 : decode cX7_readHandling 29 = .ok (.iconst 2, 1) := by decide +kernel
theorem dX7_readHandling_30 : decode cX7_readHandling 30 = .ok (.if_icmp .ne 49, 3) := by decide +kernel
theorem dX7_readHandling_33 : decode cX7_readHandling 33 = .ok (.aload_n 0, 1) := by decide +kernel
theorem dX7_readHandling_34 : decode cX7_readHandling 34 = .ok (.getfield 15, 3) := by decide +kernel
theorem dX7_readHandling_37 : decode cX7_readHandling 37 = .ok (.aload_n 0, 1) := by decide +kernel
theorem dX7_readHandling_38 : decode cX7_readHandling 38 = .ok (.getfield 9, 3) := by decide +kernel
theorem dX7_readHandling_41 : decode cX7_readHandling 41 = .ok (.getfield 76, 3) := by decide +kernel
theorem dX7_readHandling_44 : decode cX7_readHandling 44 = .ok (.invokevirtual 141, 3) := by decide +kernel
theorem dX7_readHandling_47 : decode cX7_readHandling 47 = .ok (.istore 4, 2) := by decide +kernel
theorem dX7_readHandling_49 : decode cX7_readHandling 49 = .ok (.aload_n 0, 1) := by decide +kernel
theorem dX7_readHandling_50 : decode cX7_readHandling 50 = .ok (.invokevirtual 107, 3) := by decide +kernel
theorem dX7_readHandling_53 : decode cX7_readHandling 53 = .ok (.ifCond .eq 15, 3) := by decide +kernel
theorem dX7_readHandling_56 : decode cX7_readHandling 56 = .ok (.iload 4, 2) := by decide +kernel
theorem dX7_readHandling_58 : decode cX7_readHandling 58 = .ok (.iload_n 3, 1) := by decide +kernel
theorem dX7_readHandling_59 : decode cX7_readHandling 59 = .ok (.if_icmp .ne 9, 3) := by decide +kernel
theorem dX7_readHandling_62 : decode cX7_readHandling 62 = .ok (.aload_n 0, 1) := by decide +kernel
theorem dX7_readHandling_63 : decode cX7_readHandling 63 = .ok (.iconst 3, 1) := by decide +kernel
theorem dX7_readHandling_64 : decode cX7_readHandling 64 = .ok (.invokevirtual 47, 3) := by decide +kernel
theorem dX7_readHandling_67 : decode cX7_readHandling 67 = .ok (.ireturn, 1) := by decide +kernel
theorem dX7_readHandling_68 : decode cX7_readHandling 68 = .ok (.aload_n 0, 1) := by decide +kernel
theorem dX7_readHandling_69 : decode cX7_readHandling 69 = .ok (.iload 4, 2) := by decide +kernel
theorem dX7_readHandling_71 : decode cX7_readHandling 71 = .ok (.invokevirtual 104, 3) := by decide +kernel
theorem dX7_readHandling_74 : decode cX7_readHandling 74 = .ok (.ifCond .ne 5, 3) := by decide +kernel
theorem dX7_readHandling_77 : decode cX7_readHandling 77 = .ok (.iconst 0, 1) := by decide +kernel
theorem dX7_readHandling_78 : decode cX7_readHandling 78 = .ok (.ireturn, 1) := by decide +kernel
theorem dX7_readHandling_79 : decode cX7_readHandling 79 = .ok (.aload_n 0, 1) := by decide +kernel
theorem dX7_readHandling_80 : decode cX7_readHandling 80 = .ok (.getfield 15, 3) := by decide +kernel
theorem dX7_readHandling_83 : decode cX7_readHandling 83 = .ok (.aload_n 0, 1) := by decide +kernel
theorem dX7_readHandling_84 : decode cX7_readHandling 84 = .ok (.getfield 9, 3) := by decide +kernel
theorem dX7_readHandling_87 : decode cX7_readHandling 87 = .ok (.getfield 76, 3) := by decide +kernel
theorem dX7_readHandling_90 : decode cX7_readHandling 90 = .ok (.invokevirtual 100, 3) := by decide +kernel
theorem dX7_readHandling_93 : decode cX7_readHandling 93 = .ok (.istore 5, 2) := by decide +kernel
theorem dX7_readHandling_95 : decode cX7_readHandling 95 = .ok (.aload_n 0, 1) := by decide +kernel
theorem dX7_readHandling_96 : decode cX7_readHandling 96 = .ok (.iload 5, 2) := by decide +kernel
theorem dX7_readHandling_98 : decode cX7_readHandling 98 = .ok (.invokevirtual 104, 3) := by decide +kernel
theorem dX7_readHandling_101 : decode cX7_readHandling 101 = .ok (.ifCond .eq 10, 3) := by decide +kernel
theorem dX7_readHandling_104 : decode cX7_readHandling 104 = .ok (.aload_n 0, 1) := by decide +kernel
theorem dX7_readHandling_105 : decode cX7_readHandling 105 = .ok (.invokevirtual 93, 3) := by decide +kernel
theorem dX7_readHandling_108 : decode cX7_readHandling 108 = .ok (.ifCond .ne 5, 3) := by decide +kernel
theorem dX7_readHandling_111 : decode cX7_readHandling 111 = .ok (.iconst 0, 1) := by decide +kernel
theorem dX7_readHandling_112 : decode cX7_readHandling 112 = .ok (.ireturn, 1) := by decide +kernel
theorem dX7_readHandling_113 : decode cX7_readHandling 113 = .ok (.aload_n 1, 1) := by decide +kernel
theorem dX7_readHandling_114 : decode cX7_readHandling 114 = .ok (.iload_n 2, 1) := by decide +kernel
theorem dX7_readHandling_115 : decode cX7_readHandling 115 = .ok (.iload_n 3, 1) := by decide +kernel
theorem dX7_readHandling_116 : decode cX7_readHandling 116 = .ok (.iload 4, 2) := by decide +kernel
theorem dX7_readHandling_118 : decode cX7_readHandling 118 = .ok (.iload 5, 2) := by decide +kernel
theorem dX7_readHandling_120 : decode cX7_readHandling 120 = .ok (.invokevirtual 137, 3) := by decide +kernel
theorem dX7_readHandling_123 : decode cX7_readHandling 123 = .ok (.iconst 1, 1) := by decide +kernel
theorem dX7_readHandling_124 : decode cX7_readHandling 124 = .ok (.ireturn, 1) := by decide +kernel
theorem dX7_isName_0 : decode cX7_isName 0 = .ok (.aload_n 0, 1) := by decide +kernel
theorem dX7_isName_1 : decode cX7_isName 1 = .ok (.getfield 9, 3) := by decide +kernel
theorem dX7_isName_4 : decode cX7_isName 4 = .ok (.getfield 28, 3) := by decide +kernel
theorem dX7_isName_7 : decode cX7_isName 7 = .ok (.iconst 1, 1) := by decide +kernel
theorem dX7_isName_8 : decode cX7_isName 8 = .ok (.if_icmp .ne 30, 3) := by decide +kernel
theorem dX7_isName_11 : decode cX7_isName 11 = .ok (.aload_n 0, 1) := by decide +kernel
theorem dX7_isName_12 : decode cX7_isName 12 = .ok (.getfield 9, 3) := by decide +kernel
theorem dX7_isName_15 : decode cX7_isName 15 = .ok (.getfield 34, 3) := by decide +kernel
theorem dX7_isName_18 : decode cX7_isName 18 = .ok (.iconst (-1), 1) := by decide +kernel
theorem dX7_isName_19 : decode cX7_isName 19 = .ok (.if_icmp .eq 15, 3) := by decide +kernel
theorem dX7_isName_22 : decode cX7_isName 22 = .ok (.aload_n 0, 1) := by decide +kernel
theorem dX7_isName_23 : decode cX7_isName 23 = .ok (.getfield 9, 3) := by decide +kernel
theorem dX7_isName_26 : decode cX7_isName 26 = .ok (.getfield 34, 3) := by decide +kernel
theorem dX7_isName_29 : decode cX7_isName 29 = .ok (.bipush 17, 2) := by decide +kernel
theorem dX7_isName_31 : decode cX7_isName 31 = .ok (.if_icmp .lt 7, 3) := by decide +kernel
theorem dX7_isName_34 : decode cX7_isName 34 = .ok (.iconst 1, 1) := by decide +kernel
theorem dX7_isName_35 : decode cX7_isName 35 = .ok (.goto 4, 3) := by decide +kernel
theorem dX7_isName_38 : decode cX7_isName 38 = .ok (.iconst 0, 1) := by decide +kernel
theorem dX7_isName_39 : decode cX7_isName 39 = .ok (.ireturn, 1) := by decide +kernel
theorem dX7_takeNewName_0 : decode cX7_takeNewName 0 = .ok (.aload_n 0, 1) := by decide +kernel
theorem dX7_takeNewName_1 : decode cX7_takeNewName 1 = .ok (.invokevirtual 107, 3) := by decide +kernel
theorem dX7_takeNewName_4 : decode cX7_takeNewName 4 = .ok (.ifCond .ne 9, 3) := by decide +kernel
theorem dX7_takeNewName_7 : decode cX7_takeNewName 7 = .ok (.aload_n 0, 1) := by decide +kernel
theorem dX7_takeNewName_8 : decode cX7_takeNewName 8 = .ok (.iconst 1, 1) := by decide +kernel
theorem dX7_takeNewName_9 : decode cX7_takeNewName 9 = .ok (.invokevirtual 47, 3) := by decide +kernel
theorem dX7_takeNewName_12 : decode cX7_takeNewName 12 = .ok (.ireturn, 1) := by decide +kernel
theorem dX7_takeNewName_13 : decode cX7_takeNewName 13 = .ok (.aload_n 0, 1) := by decide +kernel
theorem dX7_takeNewName_14 : decode cX7_takeNewName 14 = .ok (.getfield 15, 3) := by decide +kernel
theorem dX7_takeNewName_17 : decode cX7_takeNewName 17 = .ok (.aload_n 0, 1) := by decide +kernel
theorem dX7_takeNewName_18 : decode cX7_takeNewName 18 = .ok (.getfield 9, 3) := by decide +kernel
theorem dX7_takeNewName_21 : decode cX7_takeNewName 21 = .ok (.getfield 76, 3) := by decide +kernel
theorem dX7_takeNewName_24 : decode cX7_takeNewName 24 = .ok (.invokevirtual 100, 3) := by decide +kernel
theorem dX7_takeNewName_27 : decode cX7_takeNewName 27 = .ok (.iconst (-1), 1) := by decide +kernel
theorem dX7_takeNewName_28 : decode cX7_takeNewName 28 = .ok (.if_icmp .ne 21, 3) := by decide +kernel
theorem dX7_takeNewName_31 : decode cX7_takeNewName 31 = .ok (.aload_n 0, 1) := by decide +kernel
theorem dX7_takeNewName_32 : decode cX7_takeNewName 32 = .ok (.getfield 15, 3) := by decide +kernel
theorem dX7_takeNewName_35 : decode cX7_takeNewName 35 = .ok (.aload_n 0, 1) := by decide +kernel
theorem dX7_takeNewName_36 : decode cX7_takeNewName 36 = .ok (.getfield 9, 3) := by decide +kernel
theorem dX7_takeNewName_39 : decode cX7_takeNewName 39 = .ok (.getfield 76, 3) := by decide +kernel
theorem dX7_takeNewName_42 : decode cX7_takeNewName 42 = .ok (.invokevirtual 141, 3) := by decide +kernel
theorem dX7_takeNewName_45 : decode cX7_takeNewName 45 = .ok (.iconst (-1), 1) := by decide +kernel
theorem dX7_takeNewName_46 : decode cX7_takeNewName 46 = .ok (.if_icmp .eq 9, 3) := by decide +kernel
theorem dX7_takeNewName_49 : decode cX7_takeNewName 49 = .ok (.aload_n 0, 1) := by decide +kernel
theorem dX7_takeNewName_50 : decode cX7_takeNewName 50 = .ok (.iconst 3, 1) := by decide +kernel
theorem dX7_takeNewName_51 : decode cX7_takeNewName 51 = .ok (.invokevirtual 47, 3) := by decide +kernel
theorem dX7_takeNewName_54 : decode cX7_takeNewName 54 = .ok (.ireturn, 1) := by decide +kernel
theorem dX7_takeNewName_55 : decode cX7_takeNewName 55 = .ok (.aload_n 0, 1) := by decide +kernel
theorem dX7_takeNewName_56 : decode cX7_takeNewName 56 = .ok (.getfield 9, 3) := by decide +kernel
theorem dX7_takeNewName_59 : decode cX7_takeNewName 59 = .ok (.invokevirtual 73, 3) := by decide +kernel
theorem dX7_takeNewName_62 : decode cX7_takeNewName 62 = .ok (.iconst 1, 1) := by decide +kernel
theorem dX7_takeNewName_63 : decode cX7_takeNewName 63 = .ok (.ireturn, 1) := by decide +kernel
theorem dX7_takeTold_0 : decode cX7_takeTold 0 = .ok (.aload_n 0, 1) := by decide +kernel
theorem dX7_takeTold_1 : decode cX7_takeTold 1 = .ok (.invokevirtual 107, 3) := by decide +kernel
theorem dX7_takeTold_4 : decode cX7_takeTold 4 = .ok (.ifCond .ne 9, 3) := by decide +kernel
theorem dX7_takeTold_7 : decode cX7_takeTold 7 = .ok (.aload_n 0, 1) := by decide +kernel
theorem dX7_takeTold_8 : decode cX7_takeTold 8 = .ok (.iconst 1, 1) := by decide +kernel
theorem dX7_takeTold_9 : decode cX7_takeTold 9 = .ok (.invokevirtual 47, 3) := by decide +kernel
theorem dX7_takeTold_12 : decode cX7_takeTold 12 = .ok (.ireturn, 1) := by decide +kernel
theorem dX7_takeTold_13 : decode cX7_takeTold 13 = .ok (.iload_n 1, 1) := by decide +kernel
theorem dX7_takeTold_14 : decode cX7_takeTold 14 = .ok (.iconst (-1), 1) := by decide +kernel
theorem dX7_takeTold_15 : decode cX7_takeTold 15 = .ok (.if_icmp .ne 9, 3) := by decide +kernel
theorem dX7_takeTold_18 : decode cX7_takeTold 18 = .ok (.aload_n 0, 1) := by decide +kernel
theorem dX7_takeTold_19 : decode cX7_takeTold 19 = .ok (.iconst 2, 1) := by decide +kernel
theorem dX7_takeTold_20 : decode cX7_takeTold 20 = .ok (.invokevirtual 47, 3) := by decide +kernel
theorem dX7_takeTold_23 : decode cX7_takeTold 23 = .ok (.ireturn, 1) := by decide +kernel
theorem dX7_takeTold_24 : decode cX7_takeTold 24 = .ok (.aload_n 0, 1) := by decide +kernel
theorem dX7_takeTold_25 : decode cX7_takeTold 25 = .ok (.getfield 9, 3) := by decide +kernel
theorem dX7_takeTold_28 : decode cX7_takeTold 28 = .ok (.invokevirtual 73, 3) := by decide +kernel
theorem dX7_takeTold_31 : decode cX7_takeTold 31 = .ok (.iconst 1, 1) := by decide +kernel
theorem dX7_takeTold_32 : decode cX7_takeTold 32 = .ok (.ireturn, 1) := by decide +kernel
theorem dX7_takeKeyword_0 : decode cX7_takeKeyword 0 = .ok (.aload_n 0, 1) := by decide +kernel
theorem dX7_takeKeyword_1 : decode cX7_takeKeyword 1 = .ok (.getfield 9, 3) := by decide +kernel
theorem dX7_takeKeyword_4 : decode cX7_takeKeyword 4 = .ok (.getfield 34, 3) := by decide +kernel
theorem dX7_takeKeyword_7 : decode cX7_takeKeyword 7 = .ok (.iload_n 1, 1) := by decide +kernel
theorem dX7_takeKeyword_8 : decode cX7_takeKeyword 8 = .ok (.if_icmp .eq 9, 3) := by decide +kernel
theorem dX7_takeKeyword_11 : decode cX7_takeKeyword 11 = .ok (.aload_n 0, 1) := by decide +kernel
theorem dX7_takeKeyword_12 : decode cX7_takeKeyword 12 = .ok (.iconst 1, 1) := by decide +kernel
theorem dX7_takeKeyword_13 : decode cX7_takeKeyword 13 = .ok (.invokevirtual 47, 3) := by decide +kernel
theorem dX7_takeKeyword_16 : decode cX7_takeKeyword 16 = .ok (.ireturn, 1) := by decide +kernel
theorem dX7_takeKeyword_17 : decode cX7_takeKeyword 17 = .ok (.aload_n 0, 1) := by decide +kernel
theorem dX7_takeKeyword_18 : decode cX7_takeKeyword 18 = .ok (.getfield 9, 3) := by decide +kernel
theorem dX7_takeKeyword_21 : decode cX7_takeKeyword 21 = .ok (.invokevirtual 73, 3) := by decide +kernel
theorem dX7_takeKeyword_24 : decode cX7_takeKeyword 24 = .ok (.iconst 1, 1) := by decide +kernel
theorem dX7_takeKeyword_25 : decode cX7_takeKeyword 25 = .ok (.ireturn, 1) := by decide +kernel
theorem dX7_takeNumber_0 : decode cX7_takeNumber 0 = .ok (.aload_n 0, 1) := by decide +kernel
theorem dX7_takeNumber_1 : decode cX7_takeNumber 1 = .ok (.getfield 9, 3) := by decide +kernel
theorem dX7_takeNumber_4 : decode cX7_takeNumber 4 = .ok (.getfield 28, 3) := by decide +kernel
theorem dX7_takeNumber_7 : decode cX7_takeNumber 7 = .ok (.iconst 2, 1) := by decide +kernel
theorem dX7_takeNumber_8 : decode cX7_takeNumber 8 = .ok (.if_icmp .eq 9, 3) := by decide +kernel
theorem dX7_takeNumber_11 : decode cX7_takeNumber 11 = .ok (.aload_n 0, 1) := by decide +kernel
theorem dX7_takeNumber_12 : decode cX7_takeNumber 12 = .ok (.iconst 1, 1) := by decide +kernel
theorem dX7_takeNumber_13 : decode cX7_takeNumber 13 = .ok (.invokevirtual 47, 3) := by decide +kernel
theorem dX7_takeNumber_16 : decode cX7_takeNumber 16 = .ok (.ireturn, 1) := by decide +kernel
theorem dX7_takeNumber_17 : decode cX7_takeNumber 17 = .ok (.aload_n 0, 1) := by decide +kernel
theorem dX7_takeNumber_18 : decode cX7_takeNumber 18 = .ok (.getfield 9, 3) := by decide +kernel
theorem dX7_takeNumber_21 : decode cX7_takeNumber 21 = .ok (.getfield 86, 3) := by decide +kernel
theorem dX7_takeNumber_24 : decode cX7_takeNumber 24 = .ok (.iload_n 1, 1) := by decide +kernel
theorem dX7_takeNumber_25 : decode cX7_takeNumber 25 = .ok (.if_icmp .lt 14, 3) := by decide +kernel
theorem dX7_takeNumber_28 : decode cX7_takeNumber 28 = .ok (.aload_n 0, 1) := by decide +kernel
theorem dX7_takeNumber_29 : decode cX7_takeNumber 29 = .ok (.getfield 9, 3) := by decide +kernel
theorem dX7_takeNumber_32 : decode cX7_takeNumber 32 = .ok (.getfield 86, 3) := by decide +kernel
theorem dX7_takeNumber_35 : decode cX7_takeNumber 35 = .ok (.iload_n 2, 1) := by decide +kernel
theorem dX7_takeNumber_36 : decode cX7_takeNumber 36 = .ok (.if_icmp .le 9, 3) := by decide +kernel
theorem dX7_takeNumber_39 : decode cX7_takeNumber 39 = .ok (.aload_n 0, 1) := by decide +kernel
theorem dX7_takeNumber_40 : decode cX7_takeNumber 40 = .ok (.iconst 4, 1) := by decide +kernel
theorem dX7_takeNumber_41 : decode cX7_takeNumber 41 = .ok (.invokevirtual 47, 3) := by decide +kernel
theorem dX7_takeNumber_44 : decode cX7_takeNumber 44 = .ok (.ireturn, 1) := by decide +kernel
theorem dX7_takeNumber_45 : decode cX7_takeNumber 45 = .ok (.aload_n 0, 1) := by decide +kernel
theorem dX7_takeNumber_46 : decode cX7_takeNumber 46 = .ok (.getfield 9, 3) := by decide +kernel
theorem dX7_takeNumber_49 : decode cX7_takeNumber 49 = .ok (.invokevirtual 73, 3) := by decide +kernel
theorem dX7_takeNumber_52 : decode cX7_takeNumber 52 = .ok (.iconst 1, 1) := by decide +kernel
theorem dX7_takeNumber_53 : decode cX7_takeNumber 53 = .ok (.ireturn, 1) := by decide +kernel
theorem dX7_takeSemicolon_0 : decode cX7_takeSemicolon 0 = .ok (.aload_n 0, 1) := by decide +kernel
theorem dX7_takeSemicolon_1 : decode cX7_takeSemicolon 1 = .ok (.getfield 9, 3) := by decide +kernel
theorem dX7_takeSemicolon_4 : decode cX7_takeSemicolon 4 = .ok (.bipush 59, 2) := by decide +kernel
theorem dX7_takeSemicolon_6 : decode cX7_takeSemicolon 6 = .ok (.invokevirtual 144, 3) := by decide +kernel
theorem dX7_takeSemicolon_9 : decode cX7_takeSemicolon 9 = .ok (.ifCond .ne 9, 3) := by decide +kernel
theorem dX7_takeSemicolon_12 : decode cX7_takeSemicolon 12 = .ok (.aload_n 0, 1) := by decide +kernel
theorem dX7_takeSemicolon_13 : decode cX7_takeSemicolon 13 = .ok (.iconst 1, 1) := by decide +kernel
theorem dX7_takeSemicolon_14 : decode cX7_takeSemicolon 14 = .ok (.invokevirtual 47, 3) := by decide +kernel
theorem dX7_takeSemicolon_17 : decode cX7_takeSemicolon 17 = .ok (.ireturn, 1) := by decide +kernel
theorem dX7_takeSemicolon_18 : decode cX7_takeSemicolon 18 = .ok (.aload_n 0, 1) := by decide +kernel
theorem dX7_takeSemicolon_19 : decode cX7_takeSemicolon 19 = .ok (.getfield 9, 3) := by decide +kernel
theorem dX7_takeSemicolon_22 : decode cX7_takeSemicolon 22 = .ok (.invokevirtual 73, 3) := by decide +kernel
theorem dX7_takeSemicolon_25 : decode cX7_takeSemicolon 25 = .ok (.iconst 1, 1) := by decide +kernel
theorem dX7_takeSemicolon_26 : decode cX7_takeSemicolon 26 = .ok (.ireturn, 1) := by decide +kernel
theorem dX7_readExpression_0 : decode cX7_readExpression 0 = .ok (.aload_n 0, 1) := by decide +kernel
theorem dX7_readExpression_1 : decode cX7_readExpression 1 = .ok (.iload_n 1, 1) := by decide +kernel
theorem dX7_readExpression_2 : decode cX7_readExpression 2 = .ok (.invokevirtual 148, 3) := by decide +kernel
theorem dX7_readExpression_5 : decode cX7_readExpression 5 = .ok (.ifCond .ne 5, 3) := by decide +kernel
theorem dX7_readExpression_8 : decode cX7_readExpression 8 = .ok (.iconst 0, 1) := by decide +kernel
theorem dX7_readExpression_9 : decode cX7_readExpression 9 = .ok (.ireturn, 1) := by decide +kernel
theorem dX7_readExpression_10 : decode cX7_readExpression 10 = .ok (.iconst 0, 1) := by decide +kernel
theorem dX7_readExpression_11 : decode cX7_readExpression 11 = .ok (.istore_n 2, 1) := by decide +kernel
theorem dX7_readExpression_12 : decode cX7_readExpression 12 = .ok (.iload_n 2, 1) := by decide +kernel
theorem dX7_readExpression_13 : decode cX7_readExpression 13 = .ok (.sipush 1000, 3) := by decide +kernel
theorem dX7_readExpression_16 : decode cX7_readExpression 16 = .ok (.if_icmp .ge 71, 3) := by decide +kernel
theorem dX7_readExpression_19 : decode cX7_readExpression 19 = .ok (.aload_n 0, 1) := by decide +kernel
theorem dX7_readExpression_20 : decode cX7_readExpression 20 = .ok (.getfield 9, 3) := by decide +kernel
theorem dX7_readExpression_23 : decode cX7_readExpression 23 = .ok (.getfield 34, 3) := by decide +kernel
theorem dX7_readExpression_26 : decode cX7_readExpression 26 = .ok (.istore_n 3, 1) := by decide +kernel
theorem dX7_readExpression_27 : decode cX7_readExpression 27 = .ok (.iload_n 3, 1) := by decide +kernel
theorem dX7_readExpression_28 : decode cX7_readExpression 28 = .ok (.bipush 15, 2) := by decide +kernel
theorem dX7_readExpression_30 : decode cX7_readExpression 30 = .ok (.if_icmp .eq 11, 3) := by decide +kernel
theorem dX7_readExpression_33 : decode cX7_readExpression 33 = .ok (.iload_n 3, 1) := by decide +kernel
theorem dX7_readExpression_34 : decode cX7_readExpression 34 = .ok (.bipush 16, 2) := by decide +kernel
theorem dX7_readExpression_36 : decode cX7_readExpression 36 = .ok (.if_icmp .eq 5, 3) := by decide +kernel
theorem dX7_readExpression_39 : decode cX7_readExpression 39 = .ok (.iconst 1, 1) := by decide +kernel
theorem dX7_readExpression_40 : decode cX7_readExpression 40 = .ok (.ireturn, 1) := by decide +kernel
theorem dX7_readExpression_41 : decode cX7_readExpression 41 = .ok (.aload_n 0, 1) := by decide +kernel
theorem dX7_readExpression_42 : decode cX7_readExpression 42 = .ok (.getfield 9, 3) := by decide +kernel
theorem dX7_readExpression_45 : decode cX7_readExpression 45 = .ok (.invokevirtual 73, 3) := by decide +kernel
theorem dX7_readExpression_48 : decode cX7_readExpression 48 = .ok (.aload_n 0, 1) := by decide +kernel
theorem dX7_readExpression_49 : decode cX7_readExpression 49 = .ok (.iload_n 1, 1) := by decide +kernel
theorem dX7_readExpression_50 : decode cX7_readExpression 50 = .ok (.invokevirtual 148, 3) := by decide +kernel
theorem dX7_readExpression_53 : decode cX7_readExpression 53 = .ok (.ifCond .ne 5, 3) := by decide +kernel
theorem dX7_readExpression_56 : decode cX7_readExpression 56 = .ok (.iconst 0, 1) := by decide +kernel
theorem dX7_readExpression_57 : decode cX7_readExpression 57 = .ok (.ireturn, 1) := by decide +kernel
theorem dX7_readExpression_58 : decode cX7_readExpression 58 = .ok (.aload_n 0, 1) := by decide +kernel
theorem dX7_readExpression_59 : decode cX7_readExpression 59 = .ok (.getfield 15, 3) := by decide +kernel
theorem dX7_readExpression_62 : decode cX7_readExpression 62 = .ok (.getfield 151, 3) := by decide +kernel
theorem dX7_readExpression_65 : decode cX7_readExpression 65 = .ok (.iload_n 3, 1) := by decide +kernel
theorem dX7_readExpression_66 : decode cX7_readExpression 66 = .ok (.bipush 15, 2) := by decide +kernel
theorem dX7_readExpression_68 : decode cX7_readExpression 68 = .ok (.if_icmp .ne 8, 3) := by decide +kernel
theorem dX7_readExpression_71 : decode cX7_readExpression 71 = .ok (.bipush (-6), 2) := by decide +kernel
theorem dX7_readExpression_73 : decode cX7_readExpression 73 = .ok (.goto 5, 3) := by decide +kernel
theorem dX7_readExpression_76 : decode cX7_readExpression 76 = .ok (.bipush (-7), 2) := by decide +kernel
theorem dX7_readExpression_78 : decode cX7_readExpression 78 = .ok (.invokevirtual 157, 3) := by decide +kernel
theorem dX7_readExpression_81 : decode cX7_readExpression 81 = .ok (.iinc 2 1, 3) := by decide +kernel
theorem dX7_readExpression_84 : decode cX7_readExpression 84 = .ok (.goto (-72), 3) := by decide +kernel
theorem dX7_readExpression_87 : decode cX7_readExpression 87 = .ok (.iconst 1, 1) := by decide +kernel
theorem dX7_readExpression_88 : decode cX7_readExpression 88 = .ok (.ireturn, 1) := by decide +kernel
theorem dX7_readTest_0 : decode cX7_readTest 0 = .ok (.aload_n 0, 1) := by decide +kernel
theorem dX7_readTest_1 : decode cX7_readTest 1 = .ok (.iload_n 1, 1) := by decide +kernel
theorem dX7_readTest_2 : decode cX7_readTest 2 = .ok (.invokevirtual 160, 3) := by decide +kernel
theorem dX7_readTest_5 : decode cX7_readTest 5 = .ok (.ifCond .ne 5, 3) := by decide +kernel
theorem dX7_readTest_8 : decode cX7_readTest 8 = .ok (.iconst 0, 1) := by decide +kernel
theorem dX7_readTest_9 : decode cX7_readTest 9 = .ok (.ireturn, 1) := by decide +kernel
theorem dX7_readTest_10 : decode cX7_readTest 10 = .ok (.aload_n 0, 1) := by decide +kernel
theorem dX7_readTest_11 : decode cX7_readTest 11 = .ok (.getfield 9, 3) := by decide +kernel
theorem dX7_readTest_14 : decode cX7_readTest 14 = .ok (.bipush 60, 2) := by decide +kernel
theorem dX7_readTest_16 : decode cX7_readTest 16 = .ok (.invokevirtual 144, 3) := by decide +kernel
theorem dX7_readTest_19 : decode cX7_readTest 19 = .ok (.istore_n 2, 1) := by decide +kernel
theorem dX7_readTest_20 : decode cX7_readTest 20 = .ok (.iload_n 2, 1) := by decide +kernel
theorem dX7_readTest_21 : decode cX7_readTest 21 = .ok (.ifCond .ne 17, 3) := by decide +kernel
theorem dX7_readTest_24 : decode cX7_readTest 24 = .ok (.aload_n 0, 1) := by decide +kernel
theorem dX7_readTest_25 : decode cX7_readTest 25 = .ok (.getfield 9, 3) := by decide +kernel
theorem dX7_readTest_28 : decode cX7_readTest 28 = .ok (.bipush 61, 2) := by decide +kernel
theorem dX7_readTest_30 : decode cX7_readTest 30 = .ok (.invokevirtual 144, 3) := by decide +kernel
theorem dX7_readTest_33 : decode cX7_readTest 33 = .ok (.ifCond .ne 5, 3) := by decide +kernel
theorem dX7_readTest_36 : decode cX7_readTest 36 = .ok (.iconst 1, 1) := by decide +kernel
theorem dX7_readTest_37 : decode cX7_readTest 37 = .ok (.ireturn, 1) := by decide +kernel
theorem dX7_readTest_38 : decode cX7_readTest 38 = .ok (.aload_n 0, 1) := by decide +kernel
theorem dX7_readTest_39 : decode cX7_readTest 39 = .ok (.getfield 9, 3) := by decide +kernel
theorem dX7_readTest_42 : decode cX7_readTest 42 = .ok (.invokevirtual 73, 3) := by decide +kernel
theorem dX7_readTest_45 : decode cX7_readTest 45 = .ok (.aload_n 0, 1) := by decide +kernel
theorem dX7_readTest_46 : decode cX7_readTest 46 = .ok (.iload_n 1, 1) := by decide +kernel
theorem dX7_readTest_47 : decode cX7_readTest 47 = .ok (.invokevirtual 160, 3) := by decide +kernel
theorem dX7_readTest_50 : decode cX7_readTest 50 = .ok (.ifCond .ne 5, 3) := by decide +kernel
theorem dX7_readTest_53 : decode cX7_readTest 53 = .ok (.iconst 0, 1) := by decide +kernel
theorem dX7_readTest_54 : decode cX7_readTest 54 = .ok (.ireturn, 1) := by decide +kernel
theorem dX7_readTest_55 : decode cX7_readTest 55 = .ok (.aload_n 0, 1) := by decide +kernel
theorem dX7_readTest_56 : decode cX7_readTest 56 = .ok (.getfield 15, 3) := by decide +kernel
theorem dX7_readTest_59 : decode cX7_readTest 59 = .ok (.getfield 151, 3) := by decide +kernel
theorem dX7_readTest_62 : decode cX7_readTest 62 = .ok (.iload_n 2, 1) := by decide +kernel
theorem dX7_readTest_63 : decode cX7_readTest 63 = .ok (.ifCond .eq 8, 3) := by decide +kernel
theorem dX7_readTest_66 : decode cX7_readTest 66 = .ok (.bipush (-8), 2) := by decide +kernel
theorem dX7_readTest_68 : decode cX7_readTest 68 = .ok (.goto 5, 3) := by decide +kernel
theorem dX7_readTest_71 : decode cX7_readTest 71 = .ok (.bipush (-9), 2) := by decide +kernel
theorem dX7_readTest_73 : decode cX7_readTest 73 = .ok (.invokevirtual 157, 3) := by decide +kernel
theorem dX7_readTest_76 : decode cX7_readTest 76 = .ok (.iconst 1, 1) := by decide +kernel
theorem dX7_readTest_77 : decode cX7_readTest 77 = .ok (.ireturn, 1) := by decide +kernel
theorem dX7_readSum_0 : decode cX7_readSum 0 = .ok (.aload_n 0, 1) := by decide +kernel
theorem dX7_readSum_1 : decode cX7_readSum 1 = .ok (.iload_n 1, 1) := by decide +kernel
theorem dX7_readSum_2 : decode cX7_readSum 2 = .ok (.invokevirtual 163, 3) := by decide +kernel
theorem dX7_readSum_5 : decode cX7_readSum 5 = .ok (.ifCond .ne 5, 3) := by decide +kernel
theorem dX7_readSum_8 : decode cX7_readSum 8 = .ok (.iconst 0, 1) := by decide +kernel
theorem dX7_readSum_9 : decode cX7_readSum 9 = .ok (.ireturn, 1) := by decide +kernel
theorem dX7_readSum_10 : decode cX7_readSum 10 = .ok (.iconst 0, 1) := by decide +kernel
theorem dX7_readSum_11 : decode cX7_readSum 11 = .ok (.istore_n 2, 1) := by decide +kernel
theorem dX7_readSum_12 : decode cX7_readSum 12 = .ok (.iload_n 2, 1) := by decide +kernel
theorem dX7_readSum_13 : decode cX7_readSum 13 = .ok (.sipush 1000, 3) := by decide +kernel
theorem dX7_readSum_16 : decode cX7_readSum 16 = .ok (.if_icmp .ge 75, 3) := by decide +kernel
theorem dX7_readSum_19 : decode cX7_readSum 19 = .ok (.aload_n 0, 1) := by decide +kernel
theorem dX7_readSum_20 : decode cX7_readSum 20 = .ok (.getfield 9, 3) := by decide +kernel
theorem dX7_readSum_23 : decode cX7_readSum 23 = .ok (.bipush 43, 2) := by decide +kernel
theorem dX7_readSum_25 : decode cX7_readSum 25 = .ok (.invokevirtual 144, 3) := by decide +kernel
theorem dX7_readSum_28 : decode cX7_readSum 28 = .ok (.istore_n 3, 1) := by decide +kernel
theorem dX7_readSum_29 : decode cX7_readSum 29 = .ok (.iload_n 3, 1) := by decide +kernel
theorem dX7_readSum_30 : decode cX7_readSum 30 = .ok (.ifCond .ne 17, 3) := by decide +kernel
theorem dX7_readSum_33 : decode cX7_readSum 33 = .ok (.aload_n 0, 1) := by decide +kernel
theorem dX7_readSum_34 : decode cX7_readSum 34 = .ok (.getfield 9, 3) := by decide +kernel
theorem dX7_readSum_37 : decode cX7_readSum 37 = .ok (.bipush 45, 2) := by decide +kernel
theorem dX7_readSum_39 : decode cX7_readSum 39 = .ok (.invokevirtual 144, 3) := by decide +kernel
theorem dX7_readSum_42 : decode cX7_readSum 42 = .ok (.ifCond .ne 5, 3) := by decide +kernel
theorem dX7_readSum_45 : decode cX7_readSum 45 = .ok (.iconst 1, 1) := by decide +kernel
theorem dX7_readSum_46 : decode cX7_readSum 46 = .ok (.ireturn, 1) := by decide +kernel
theorem dX7_readSum_47 : decode cX7_readSum 47 = .ok (.aload_n 0, 1) := by decide +kernel
theorem dX7_readSum_48 : decode cX7_readSum 48 = .ok (.getfield 9, 3) := by decide +kernel
theorem dX7_readSum_51 : decode cX7_readSum 51 = .ok (.invokevirtual 73, 3) := by decide +kernel
theorem dX7_readSum_54 : decode cX7_readSum 54 = .ok (.aload_n 0, 1) := by decide +kernel
theorem dX7_readSum_55 : decode cX7_readSum 55 = .ok (.iload_n 1, 1) := by decide +kernel
theorem dX7_readSum_56 : decode cX7_readSum 56 = .ok (.invokevirtual 163, 3) := by decide +kernel
theorem dX7_readSum_59 : decode cX7_readSum 59 = .ok (.ifCond .ne 5, 3) := by decide +kernel
theorem dX7_readSum_62 : decode cX7_readSum 62 = .ok (.iconst 0, 1) := by decide +kernel
theorem dX7_readSum_63 : decode cX7_readSum 63 = .ok (.ireturn, 1) := by decide +kernel
theorem dX7_readSum_64 : decode cX7_readSum 64 = .ok (.aload_n 0, 1) := by decide +kernel
theorem dX7_readSum_65 : decode cX7_readSum 65 = .ok (.getfield 15, 3) := by decide +kernel
theorem dX7_readSum_68 : decode cX7_readSum 68 = .ok (.getfield 151, 3) := by decide +kernel
theorem dX7_readSum_71 : decode cX7_readSum 71 = .ok (.iload_n 3, 1) := by decide +kernel
theorem dX7_readSum_72 : decode cX7_readSum 72 = .ok (.ifCond .eq 8, 3) := by decide +kernel
theorem dX7_readSum_75 : decode cX7_readSum 75 = .ok (.bipush (-10), 2) := by decide +kernel
theorem dX7_readSum_77 : decode cX7_readSum 77 = .ok (.goto 5, 3) := by decide +kernel
theorem dX7_readSum_80 : decode cX7_readSum 80 = .ok (.bipush (-11), 2) := by decide +kernel
theorem dX7_readSum_82 : decode cX7_readSum 82 = .ok (.invokevirtual 157, 3) := by decide +kernel
theorem dX7_readSum_85 : decode cX7_readSum 85 = .ok (.iinc 2 1, 3) := by decide +kernel
theorem dX7_readSum_88 : decode cX7_readSum 88 = .ok (.goto (-76), 3) := by decide +kernel
theorem dX7_readSum_91 : decode cX7_readSum 91 = .ok (.iconst 1, 1) := by decide +kernel
theorem dX7_readSum_92 : decode cX7_readSum 92 = .ok (.ireturn, 1) := by decide +kernel
theorem dX7_readProduct_0 : decode cX7_readProduct 0 = .ok (.aload_n 0, 1) := by decide +kernel
theorem dX7_readProduct_1 : decode cX7_readProduct 1 = .ok (.iload_n 1, 1) := by decide +kernel
theorem dX7_readProduct_2 : decode cX7_readProduct 2 = .ok (.invokevirtual 166, 3) := by decide +kernel
theorem dX7_readProduct_5 : decode cX7_readProduct 5 = .ok (.ifCond .ne 5, 3) := by decide +kernel
theorem dX7_readProduct_8 : decode cX7_readProduct 8 = .ok (.iconst 0, 1) := by decide +kernel
theorem dX7_readProduct_9 : decode cX7_readProduct 9 = .ok (.ireturn, 1) := by decide +kernel
theorem dX7_readProduct_10 : decode cX7_readProduct 10 = .ok (.iconst 0, 1) := by decide +kernel
theorem dX7_readProduct_11 : decode cX7_readProduct 11 = .ok (.istore_n 2, 1) := by decide +kernel
theorem dX7_readProduct_12 : decode cX7_readProduct 12 = .ok (.iload_n 2, 1) := by decide +kernel
theorem dX7_readProduct_13 : decode cX7_readProduct 13 = .ok (.sipush 1000, 3) := by decide +kernel
theorem dX7_readProduct_16 : decode cX7_readProduct 16 = .ok (.if_icmp .ge 52, 3) := by decide +kernel
theorem dX7_readProduct_19 : decode cX7_readProduct 19 = .ok (.aload_n 0, 1) := by decide +kernel
theorem dX7_readProduct_20 : decode cX7_readProduct 20 = .ok (.getfield 9, 3) := by decide +kernel
theorem dX7_readProduct_23 : decode cX7_readProduct 23 = .ok (.bipush 42, 2) := by decide +kernel
theorem dX7_readProduct_25 : decode cX7_readProduct 25 = .ok (.invokevirtual 144, 3) := by decide +kernel
theorem dX7_readProduct_28 : decode cX7_readProduct 28 = .ok (.ifCond .ne 5, 3) := by decide +kernel
theorem dX7_readProduct_31 : decode cX7_readProduct 31 = .ok (.iconst 1, 1) := by decide +kernel
theorem dX7_readProduct_32 : decode cX7_readProduct 32 = .ok (.ireturn, 1) := by decide +kernel
theorem dX7_readProduct_33 : decode cX7_readProduct 33 = .ok (.aload_n 0, 1) := by decide +kernel
theorem dX7_readProduct_34 : decode cX7_readProduct 34 = .ok (.getfield 9, 3) := by decide +kernel
theorem dX7_readProduct_37 : decode cX7_readProduct 37 = .ok (.invokevirtual 73, 3) := by decide +kernel
theorem dX7_readProduct_40 : decode cX7_readProduct 40 = .ok (.aload_n 0, 1) := by decide +kernel
theorem dX7_readProduct_41 : decode cX7_readProduct 41 = .ok (.iload_n 1, 1) := by decide +kernel
theorem dX7_readProduct_42 : decode cX7_readProduct 42 = .ok (.invokevirtual 166, 3) := by decide +kernel
theorem dX7_readProduct_45 : decode cX7_readProduct 45 = .ok (.ifCond .ne 5, 3) := by decide +kernel
theorem dX7_readProduct_48 : decode cX7_readProduct 48 = .ok (.iconst 0, 1) := by decide +kernel
theorem dX7_readProduct_49 : decode cX7_readProduct 49 = .ok (.ireturn, 1) := by decide +kernel
theorem dX7_readProduct_50 : decode cX7_readProduct 50 = .ok (.aload_n 0, 1) := by decide +kernel
theorem dX7_readProduct_51 : decode cX7_readProduct 51 = .ok (.getfield 15, 3) := by decide +kernel
theorem dX7_readProduct_54 : decode cX7_readProduct 54 = .ok (.getfield 151, 3) := by decide +kernel
theorem dX7_readProduct_57 : decode cX7_readProduct 57 = .ok (.bipush (-12), 2) := by decide +kernel
theorem dX7_readProduct_59 : decode cX7_readProduct 59 = .ok (.invokevirtual 157, 3) := by decide +kernel
theorem dX7_readProduct_62 : decode cX7_readProduct 62 = .ok (.iinc 2 1, 3) := by decide +kernel
theorem dX7_readProduct_65 : decode cX7_readProduct 65 = .ok (.goto (-53), 3) := by decide +kernel
theorem dX7_readProduct_68 : decode cX7_readProduct 68 = .ok (.iconst 1, 1) := by decide +kernel
theorem dX7_readProduct_69 : decode cX7_readProduct 69 = .ok (.ireturn, 1) := by decide +kernel
theorem dX7_readPart_0 : decode cX7_readPart 0 = .ok (.aload_n 0, 1) := by decide +kernel
theorem dX7_readPart_1 : decode cX7_readPart 1 = .ok (.getfield 9, 3) := by decide +kernel
theorem dX7_readPart_4 : decode cX7_readPart 4 = .ok (.getfield 34, 3) := by decide +kernel
theorem dX7_readPart_7 : decode cX7_readPart 7 = .ok (.istore_n 2, 1) := by decide +kernel
theorem dX7_readPart_8 : decode cX7_readPart 8 = .ok (.aload_n 0, 1) := by decide +kernel
theorem dX7_readPart_9 : decode cX7_readPart 9 = .ok (.getfield 9, 3) := by decide +kernel
theorem dX7_readPart_12 : decode cX7_readPart 12 = .ok (.getfield 28, 3) := by decide +kernel
theorem dX7_readPart_15 : decode cX7_readPart 15 = .ok (.iconst 2, 1) := by decide +kernel
theorem dX7_readPart_16 : decode cX7_readPart 16 = .ok (.if_icmp .ne 7, 3) := by decide +kernel
theorem dX7_readPart_19 : decode cX7_readPart 19 = .ok (.iconst 1, 1) := by decide +kernel
theorem dX7_readPart_20 : decode cX7_readPart 20 = .ok (.goto 4, 3) := by decide +kernel
theorem dX7_readPart_23 : decode cX7_readPart 23 = .ok (.iconst 0, 1) := by decide +kernel
theorem dX7_readPart_24 : decode cX7_readPart 24 = .ok (.istore_n 3, 1) := by decide +kernel
theorem dX7_readPart_25 : decode cX7_readPart 25 = .ok (.iload_n 2, 1) := by decide +kernel
theorem dX7_readPart_26 : decode cX7_readPart 26 = .ok (.bipush 17, 2) := by decide +kernel
theorem dX7_readPart_28 : decode cX7_readPart 28 = .ok (.if_icmp .lt 13, 3) := by decide +kernel
theorem dX7_readPart_31 : decode cX7_readPart 31 = .ok (.iload_n 2, 1) := by decide +kernel
theorem dX7_readPart_32 : decode cX7_readPart 32 = .ok (.bipush 20, 2) := by decide +kernel
theorem dX7_readPart_34 : decode cX7_readPart 34 = .ok (.if_icmp .gt 7, 3) := by decide +kernel
theorem dX7_readPart_37 : decode cX7_readPart 37 = .ok (.iconst 1, 1) := by decide +kernel
theorem dX7_readPart_38 : decode cX7_readPart 38 = .ok (.goto 4, 3) := by decide +kernel
theorem dX7_readPart_41 : decode cX7_readPart 41 = .ok (.iconst 0, 1) := by decide +kernel
theorem dX7_readPart_42 : decode cX7_readPart 42 = .ok (.istore 4, 2) := by decide +kernel
theorem dX7_readPart_44 : decode cX7_readPart 44 = .ok (.aload_n 0, 1) := by decide +kernel
theorem dX7_readPart_45 : decode cX7_readPart 45 = .ok (.getfield 9, 3) := by decide +kernel
theorem dX7_readPart_48 : decode cX7_readPart 48 = .ok (.bipush 40, 2) := by decide +kernel
theorem dX7_readPart_50 : decode cX7_readPart 50 = .ok (.invokevirtual 144, 3) := by decide +kernel
theorem dX7_readPart_53 : decode cX7_readPart 53 = .ok (.istore 5, 2) := by decide +kernel
theorem dX7_readPart_55 : decode cX7_readPart 55 = .ok (.iload_n 3, 1) := by decide +kernel
theorem dX7_readPart_56 : decode cX7_readPart 56 = .ok (.ifCond .ne 25, 3) := by decide +kernel
theorem dX7_readPart_59 : decode cX7_readPart 59 = .ok (.iload 4, 2) := by decide +kernel
theorem dX7_readPart_61 : decode cX7_readPart 61 = .ok (.ifCond .ne 20, 3) := by decide +kernel
theorem dX7_readPart_64 : decode cX7_readPart 64 = .ok (.iload 5, 2) := by decide +kernel
theorem dX7_readPart_66 : decode cX7_readPart 66 = .ok (.ifCond .ne 15, 3) := by decide +kernel
theorem dX7_readPart_69 : decode cX7_readPart 69 = .ok (.iload_n 2, 1) := by decide +kernel
theorem dX7_readPart_70 : decode cX7_readPart 70 = .ok (.bipush 14, 2) := by decide +kernel
theorem dX7_readPart_72 : decode cX7_readPart 72 = .ok (.if_icmp .eq 9, 3) := by decide +kernel
theorem dX7_readPart_75 : decode cX7_readPart 75 = .ok (.aload_n 0, 1) := by decide +kernel
theorem dX7_readPart_76 : decode cX7_readPart 76 = .ok (.iconst 1, 1) := by decide +kernel
theorem dX7_readPart_77 : decode cX7_readPart 77 = .ok (.invokevirtual 47, 3) := by decide +kernel
theorem dX7_readPart_80 : decode cX7_readPart 80 = .ok (.ireturn, 1) := by decide +kernel
theorem dX7_readPart_81 : decode cX7_readPart 81 = .ok (.iload_n 1, 1) := by decide +kernel
theorem dX7_readPart_82 : decode cX7_readPart 82 = .ok (.iconst 5, 1) := by decide +kernel
theorem dX7_readPart_83 : decode cX7_readPart 83 = .ok (.if_icmp .lt 9, 3) := by decide +kernel
theorem dX7_readPart_86 : decode cX7_readPart 86 = .ok (.aload_n 0, 1) := by decide +kernel
theorem dX7_readPart_87 : decode cX7_readPart 87 = .ok (.iconst 5, 1) := by decide +kernel
theorem dX7_readPart_88 : decode cX7_readPart 88 = .ok (.invokevirtual 47, 3) := by decide +kernel
theorem dX7_readPart_91 : decode cX7_readPart 91 = .ok (.ireturn, 1) := by decide +kernel
theorem dX7_readPart_92 : decode cX7_readPart 92 = .ok (.iload_n 3, 1) := by decide +kernel
theorem dX7_readPart_93 : decode cX7_readPart 93 = .ok (.ifCond .ne 8, 3) := by decide +kernel
theorem dX7_readPart_96 : decode cX7_readPart 96 = .ok (.iload 4, 2) := by decide +kernel
theorem dX7_readPart_98 : decode cX7_readPart 98 = .ok (.ifCond .eq 42, 3) := by decide +kernel
theorem dX7_readPart_101 : decode cX7_readPart 101 = .ok (.aload_n 0, 1) := by decide +kernel
theorem dX7_readPart_102 : decode cX7_readPart 102 = .ok (.getfield 15, 3) := by decide +kernel
theorem dX7_readPart_105 : decode cX7_readPart 105 = .ok (.getfield 151, 3) := by decide +kernel
theorem dX7_readPart_108 : decode cX7_readPart 108 = .ok (.iload_n 3, 1) := by decide +kernel
theorem dX7_readPart_109 : decode cX7_readPart 109 = .ok (.ifCond .eq 13, 3) := by decide +kernel
theorem dX7_readPart_112 : decode cX7_readPart 112 = .ok (.aload_n 0, 1) := by decide +kernel
theorem dX7_readPart_113 : decode cX7_readPart 113 = .ok (.getfield 9, 3) := by decide +kernel
theorem dX7_readPart_116 : decode cX7_readPart 116 = .ok (.getfield 86, 3) := by decide +kernel
theorem dX7_readPart_119 : decode cX7_readPart 119 = .ok (.goto 9, 3) := by decide +kernel
theorem dX7_readPart_122 : decode cX7_readPart 122 = .ok (.iconst (-1), 1) := by decide +kernel
theorem dX7_readPart_123 : decode cX7_readPart 123 = .ok (.iload_n 2, 1) := by decide +kernel
theorem dX7_readPart_124 : decode cX7_readPart 124 = .ok (.bipush 17, 2) := by decide +kernel
theorem dX7_readPart_126 : decode cX7_readPart 126 = .ok (.isub, 1) := by decide +kernel
theorem dX7_readPart_127 : decode cX7_readPart 127 = .ok (.isub, 1) := by decide +kernel
theorem dX7_readPart_128 : decode cX7_readPart 128 = .ok (.invokevirtual 157, 3) := by decide +kernel
theorem dX7_readPart_131 : decode cX7_readPart 131 = .ok (.aload_n 0, 1) := by decide +kernel
theorem dX7_readPart_132 : decode cX7_readPart 132 = .ok (.getfield 9, 3) := by decide +kernel
theorem dX7_readPart_135 : decode cX7_readPart 135 = .ok (.invokevirtual 73, 3) := by decide +kernel
theorem dX7_readPart_138 : decode cX7_readPart 138 = .ok (.iconst 1, 1) := by decide +kernel
theorem dX7_readPart_139 : decode cX7_readPart 139 = .ok (.ireturn, 1) := by decide +kernel
theorem dX7_readPart_140 : decode cX7_readPart 140 = .ok (.aload_n 0, 1) := by decide +kernel
theorem dX7_readPart_141 : decode cX7_readPart 141 = .ok (.getfield 9, 3) := by decide +kernel
theorem dX7_readPart_144 : decode cX7_readPart 144 = .ok (.invokevirtual 73, 3) := by decide +kernel
theorem dX7_readPart_147 : decode cX7_readPart 147 = .ok (.iload 5, 2) := by decide +kernel
theorem dX7_readPart_149 : decode cX7_readPart 149 = .ok (.ifCond .eq 13, 3) := by decide +kernel
theorem dX7_readPart_152 : decode cX7_readPart 152 = .ok (.aload_n 0, 1) := by decide +kernel
theorem dX7_readPart_153 : decode cX7_readPart 153 = .ok (.iload_n 1, 1) := by decide +kernel
theorem dX7_readPart_154 : decode cX7_readPart 154 = .ok (.iconst 1, 1) := by decide +kernel
theorem dX7_readPart_155 : decode cX7_readPart 155 = .ok (.iadd, 1) := by decide +kernel
theorem dX7_readPart_156 : decode cX7_readPart 156 = .ok (.invokevirtual 169, 3) := by decide +kernel
theorem dX7_readPart_159 : decode cX7_readPart 159 = .ok (.goto 10, 3) := by decide +kernel
theorem dX7_readPart_162 : decode cX7_readPart 162 = .ok (.aload_n 0, 1) := by decide +kernel
theorem dX7_readPart_163 : decode cX7_readPart 163 = .ok (.iload_n 1, 1) := by decide +kernel
theorem dX7_readPart_164 : decode cX7_readPart 164 = .ok (.iconst 1, 1) := by decide +kernel
theorem dX7_readPart_165 : decode cX7_readPart 165 = .ok (.iadd, 1) := by decide +kernel
theorem dX7_readPart_166 : decode cX7_readPart 166 = .ok (.invokevirtual 172, 3) := by decide +kernel
theorem dX7_readPart_169 : decode cX7_readPart 169 = .ok (.ireturn, 1) := by decide +kernel
theorem dX7_readBracketed_0 : decode cX7_readBracketed 0 = .ok (.aload_n 0, 1) := by decide +kernel
theorem dX7_readBracketed_1 : decode cX7_readBracketed 1 = .ok (.iload_n 1, 1) := by decide +kernel
theorem dX7_readBracketed_2 : decode cX7_readBracketed 2 = .ok (.invokevirtual 120, 3) := by decide +kernel
theorem dX7_readBracketed_5 : decode cX7_readBracketed 5 = .ok (.ifCond .ne 5, 3) := by decide +kernel
theorem dX7_readBracketed_8 : decode cX7_readBracketed 8 = .ok (.iconst 0, 1) := by decide +kernel
theorem dX7_readBracketed_9 : decode cX7_readBracketed 9 = .ok (.ireturn, 1) := by decide +kernel
theorem dX7_readBracketed_10 : decode cX7_readBracketed 10 = .ok (.aload_n 0, 1) := by decide +kernel
theorem dX7_readBracketed_11 : decode cX7_readBracketed 11 = .ok (.getfield 9, 3) := by decide +kernel
theorem dX7_readBracketed_14 : decode cX7_readBracketed 14 = .ok (.bipush 41, 2) := by decide +kernel
theorem dX7_readBracketed_16 : decode cX7_readBracketed 16 = .ok (.invokevirtual 144, 3) := by decide +kernel
theorem dX7_readBracketed_19 : decode cX7_readBracketed 19 = .ok (.ifCond .ne 9, 3) := by decide +kernel
theorem dX7_readBracketed_22 : decode cX7_readBracketed 22 = .ok (.aload_n 0, 1) := by decide +kernel
theorem dX7_readBracketed_23 : decode cX7_readBracketed 23 = .ok (.iconst 1, 1) := by decide +kernel
theorem dX7_readBracketed_24 : decode cX7_readBracketed 24 = .ok (.invokevirtual 47, 3) := by decide +kernel
theorem dX7_readBracketed_27 : decode cX7_readBracketed 27 = .ok (.ireturn, 1) := by decide +kernel
theorem dX7_readBracketed_28 : decode cX7_readBracketed 28 = .ok (.aload_n 0, 1) := by decide +kernel
theorem dX7_readBracketed_29 : decode cX7_readBracketed 29 = .ok (.getfield 9, 3) := by decide +kernel
theorem dX7_readBracketed_32 : decode cX7_readBracketed 32 = .ok (.invokevirtual 73, 3) := by decide +kernel
theorem dX7_readBracketed_35 : decode cX7_readBracketed 35 = .ok (.iconst 1, 1) := by decide +kernel
theorem dX7_readBracketed_36 : decode cX7_readBracketed 36 = .ok (.ireturn, 1) := by decide +kernel
theorem dX7_readNegated_0 : decode cX7_readNegated 0 = .ok (.aload_n 0, 1) := by decide +kernel
theorem dX7_readNegated_1 : decode cX7_readNegated 1 = .ok (.iload_n 1, 1) := by decide +kernel
theorem dX7_readNegated_2 : decode cX7_readNegated 2 = .ok (.invokevirtual 166, 3) := by decide +kernel
theorem dX7_readNegated_5 : decode cX7_readNegated 5 = .ok (.ifCond .ne 5, 3) := by decide +kernel
theorem dX7_readNegated_8 : decode cX7_readNegated 8 = .ok (.iconst 0, 1) := by decide +kernel
theorem dX7_readNegated_9 : decode cX7_readNegated 9 = .ok (.ireturn, 1) := by decide +kernel
theorem dX7_readNegated_10 : decode cX7_readNegated 10 = .ok (.aload_n 0, 1) := by decide +kernel
theorem dX7_readNegated_11 : decode cX7_readNegated 11 = .ok (.getfield 15, 3) := by decide +kernel
theorem dX7_readNegated_14 : decode cX7_readNegated 14 = .ok (.getfield 151, 3) := by decide +kernel
theorem dX7_readNegated_17 : decode cX7_readNegated 17 = .ok (.bipush (-5), 2) := by decide +kernel
theorem dX7_readNegated_19 : decode cX7_readNegated 19 = .ok (.invokevirtual 157, 3) := by decide +kernel
theorem dX7_readNegated_22 : decode cX7_readNegated 22 = .ok (.iconst 1, 1) := by decide +kernel
theorem dX7_readNegated_23 : decode cX7_readNegated 23 = .ok (.ireturn, 1) := by decide +kernel
theorem dX8_init_0 : decode cX8_init 0 = .ok (.aload_n 0, 1) := by decide +kernel
theorem dX8_init_1 : decode cX8_init 1 = .ok (.invokespecial 3, 3) := by decide +kernel
theorem dX8_init_4 : decode cX8_init 4 = .ok (.aload_n 0, 1) := by decide +kernel
theorem dX8_init_5 : decode cX8_init 5 = .ok (.bipush 8, 2) := by decide +kernel
theorem dX8_init_7 : decode cX8_init 7 = .ok (.newarray .int, 2) := by decide +kernel
theorem dX8_init_9 : decode cX8_init 9 = .ok (.putfield 9, 3) := by decide +kernel
theorem dX8_init_12 : decode cX8_init 12 = .ok (.aload_n 0, 1) := by decide +kernel
theorem dX8_init_13 : decode cX8_init 13 = .ok (.bipush 8, 2) := by decide +kernel
theorem dX8_init_15 : decode cX8_init 15 = .ok (.newarray .boolean, 2) := by decide +kernel
theorem dX8_init_17 : decode cX8_init 17 = .ok (.putfield 15, 3) := by decide +kernel
theorem dX8_init_20 : decode cX8_init 20 = .ok (.return_, 1) := by decide +kernel
theorem dX8_add_0 : decode cX8_add 0 = .ok (.aload_n 0, 1) := by decide +kernel
theorem dX8_add_1 : decode cX8_add 1 = .ok (.getfield 19, 3) := by decide +kernel
theorem dX8_add_4 : decode cX8_add 4 = .ok (.bipush 8, 2) := by decide +kernel
theorem dX8_add_6 : decode cX8_add 6 = .ok (.if_icmp .lt 5, 3) := by decide +kernel
theorem dX8_add_9 : decode cX8_add 9 = .ok (.iconst 0, 1) := by decide +kernel
theorem dX8_add_10 : decode cX8_add 10 = .ok (.ireturn, 1) := by decide +kernel
theorem dX8_add_11 : decode cX8_add 11 = .ok (.aload_n 0, 1) := by decide +kernel
theorem dX8_add_12 : decode cX8_add 12 = .ok (.getfield 9, 3) := by decide +kernel
theorem dX8_add_15 : decode cX8_add 15 = .ok (.aload_n 0, 1) := by decide +kernel
theorem dX8_add_16 : decode cX8_add 16 = .ok (.getfield 19, 3) := by decide +kernel
theorem dX8_add_19 : decode cX8_add 19 = .ok (.iload_n 1, 1) := by decide +kernel
theorem dX8_add_20 : decode cX8_add 20 = .ok (.iastore, 1) := by decide +kernel
theorem dX8_add_21 : decode cX8_add 21 = .ok (.aload_n 0, 1) := by decide +kernel
theorem dX8_add_22 : decode cX8_add 22 = .ok (.getfield 15, 3) := by decide +kernel
theorem dX8_add_25 : decode cX8_add 25 = .ok (.aload_n 0, 1) := by decide +kernel
theorem dX8_add_26 : decode cX8_add 26 = .ok (.getfield 19, 3) := by decide +kernel
theorem dX8_add_29 : decode cX8_add 29 = .ok (.iload_n 2, 1) := by decide +kernel
theorem dX8_add_30 : decode cX8_add 30 = .ok (.bastore, 1) := by decide +kernel
theorem dX8_add_31 : decode cX8_add 31 = .ok (.aload_n 0, 1) := by decide +kernel
theorem dX8_add_32 : decode cX8_add 32 = .ok (.dup, 1) := by decide +kernel
theorem dX8_add_33 : decode cX8_add 33 = .ok (.getfield 19, 3) := by decide +kernel
theorem dX8_add_36 : decode cX8_add 36 = .ok (.iconst 1, 1) := by decide +kernel
theorem dX8_add_37 : decode cX8_add 37 = .ok (.iadd, 1) := by decide +kernel
theorem dX8_add_38 : decode cX8_add 38 = .ok (.putfield 19, 3) := by decide +kernel
theorem dX8_add_41 : decode cX8_add 41 = .ok (.iconst 1, 1) := by decide +kernel
theorem dX8_add_42 : decode cX8_add 42 = .ok (.ireturn, 1) := by decide +kernel
theorem dX8_copy_0 : decode cX8_copy 0 = .ok (.aload_n 0, 1) := by decide +kernel
theorem dX8_copy_1 : decode cX8_copy 1 = .ok (.aload_n 1, 1) := by decide +kernel
theorem dX8_copy_2 : decode cX8_copy 2 = .ok (.getfield 19, 3) := by decide +kernel
theorem dX8_copy_5 : decode cX8_copy 5 = .ok (.putfield 19, 3) := by decide +kernel
theorem dX8_copy_8 : decode cX8_copy 8 = .ok (.iconst 0, 1) := by decide +kernel
theorem dX8_copy_9 : decode cX8_copy 9 = .ok (.istore_n 2, 1) := by decide +kernel
theorem dX8_copy_10 : decode cX8_copy 10 = .ok (.iload_n 2, 1) := by decide +kernel
theorem dX8_copy_11 : decode cX8_copy 11 = .ok (.aload_n 0, 1) := by decide +kernel
theorem dX8_copy_12 : decode cX8_copy 12 = .ok (.getfield 19, 3) := by decide +kernel
theorem dX8_copy_15 : decode cX8_copy 15 = .ok (.if_icmp .ge 39, 3) := by decide +kernel
theorem dX8_copy_18 : decode cX8_copy 18 = .ok (.iload_n 2, 1) := by decide +kernel
theorem dX8_copy_19 : decode cX8_copy 19 = .ok (.bipush 8, 2) := by decide +kernel
theorem dX8_copy_21 : decode cX8_copy 21 = .ok (.if_icmp .ge 33, 3) := by decide +kernel
theorem dX8_copy_24 : decode cX8_copy 24 = .ok (.aload_n 0, 1) := by decide +kernel
theorem dX8_copy_25 : decode cX8_copy 25 = .ok (.getfield 9, 3) := by decide +kernel
theorem dX8_copy_28 : decode cX8_copy 28 = .ok (.iload_n 2, 1) := by decide +kernel
theorem dX8_copy_29 : decode cX8_copy 29 = .ok (.aload_n 1, 1) := by decide +kernel
theorem dX8_copy_30 : decode cX8_copy 30 = .ok (.getfield 9, 3) := by decide +kernel
theorem dX8_copy_33 : decode cX8_copy 33 = .ok (.iload_n 2, 1) := by decide +kernel
theorem dX8_copy_34 : decode cX8_copy 34 = .ok (.iaload, 1) := by decide +kernel
theorem dX8_copy_35 : decode cX8_copy 35 = .ok (.iastore, 1) := by decide +kernel
theorem dX8_copy_36 : decode cX8_copy 36 = .ok (.aload_n 0, 1) := by decide +kernel
theorem dX8_copy_37 : decode cX8_copy 37 = .ok (.getfield 15, 3) := by decide +kernel
theorem dX8_copy_40 : decode cX8_copy 40 = .ok (.iload_n 2, 1) := by decide +kernel
theorem dX8_copy_41 : decode cX8_copy 41 = .ok (.aload_n 1, 1) := by decide +kernel
theorem dX8_copy_42 : decode cX8_copy 42 = .ok (.getfield 15, 3) := by decide +kernel
theorem dX8_copy_45 : decode cX8_copy 45 = .ok (.iload_n 2, 1) := by decide +kernel
theorem dX8_copy_46 : decode cX8_copy 46 = .ok (.baload, 1) := by decide +kernel
theorem dX8_copy_47 : decode cX8_copy 47 = .ok (.bastore, 1) := by decide +kernel
theorem dX8_copy_48 : decode cX8_copy 48 = .ok (.iinc 2 1, 3) := by decide +kernel
theorem dX8_copy_51 : decode cX8_copy 51 = .ok (.goto (-41), 3) := by decide +kernel
theorem dX8_copy_54 : decode cX8_copy 54 = .ok (.return_, 1) := by decide +kernel
theorem dX8_fit_0 : decode cX8_fit 0 = .ok (.iconst 0, 1) := by decide +kernel
theorem dX8_fit_1 : decode cX8_fit 1 = .ok (.istore_n 2, 1) := by decide +kernel
theorem dX8_fit_2 : decode cX8_fit 2 = .ok (.iload_n 2, 1) := by decide +kernel
theorem dX8_fit_3 : decode cX8_fit 3 = .ok (.aload_n 0, 1) := by decide +kernel
theorem dX8_fit_4 : decode cX8_fit 4 = .ok (.getfield 19, 3) := by decide +kernel
theorem dX8_fit_7 : decode cX8_fit 7 = .ok (.if_icmp .ge 45, 3) := by decide +kernel
theorem dX8_fit_10 : decode cX8_fit 10 = .ok (.iload_n 2, 1) := by decide +kernel
theorem dX8_fit_11 : decode cX8_fit 11 = .ok (.bipush 8, 2) := by decide +kernel
theorem dX8_fit_13 : decode cX8_fit 13 = .ok (.if_icmp .ge 39, 3) := by decide +kernel
theorem dX8_fit_16 : decode cX8_fit 16 = .ok (.iload_n 1, 1) := by decide +kernel
theorem dX8_fit_17 : decode cX8_fit 17 = .ok (.aload_n 0, 1) := by decide +kernel
theorem dX8_fit_18 : decode cX8_fit 18 = .ok (.getfield 9, 3) := by decide +kernel
theorem dX8_fit_21 : decode cX8_fit 21 = .ok (.iload_n 2, 1) := by decide +kernel
theorem dX8_fit_22 : decode cX8_fit 22 = .ok (.iaload, 1) := by decide +kernel
theorem dX8_fit_23 : decode cX8_fit 23 = .ok (.ishr, 1) := by decide +kernel
theorem dX8_fit_24 : decode cX8_fit 24 = .ok (.iconst 1, 1) := by decide +kernel
theorem dX8_fit_25 : decode cX8_fit 25 = .ok (.iand, 1) := by decide +kernel
theorem dX8_fit_26 : decode cX8_fit 26 = .ok (.iconst 1, 1) := by decide +kernel
theorem dX8_fit_27 : decode cX8_fit 27 = .ok (.if_icmp .ne 7, 3) := by decide +kernel
theorem dX8_fit_30 : decode cX8_fit 30 = .ok (.iconst 1, 1) := by decide +kernel
theorem dX8_fit_31 : decode cX8_fit 31 = .ok (.goto 4, 3) := by decide +kernel
theorem dX8_fit_34 : decode cX8_fit 34 = .ok (.iconst 0, 1) := by decide +kernel
theorem dX8_fit_35 : decode cX8_fit 35 = .ok (.aload_n 0, 1) := by decide +kernel
theorem dX8_fit_36 : decode cX8_fit 36 = .ok (.getfield 15, 3) := by decide +kernel
theorem dX8_fit_39 : decode cX8_fit 39 = .ok (.iload_n 2, 1) := by decide +kernel
theorem dX8_fit_40 : decode cX8_fit 40 = .ok (.baload, 1) := by decide +kernel
theorem dX8_fit_41 : decode cX8_fit 41 = .ok (.if_icmp .eq 5, 3) := by decide +kernel
theorem dX8_fit_44 : decode cX8_fit 44 = .ok (.iconst 0, 1) := by decide +kernel
theorem dX8_fit_45 : decode cX8_fit 45 = .ok (.ireturn, 1) := by decide +kernel
theorem dX8_fit_46 : decode cX8_fit 46 = .ok (.iinc 2 1, 3) := by decide +kernel
theorem dX8_fit_49 : decode cX8_fit 49 = .ok (.goto (-47), 3) := by decide +kernel
theorem dX8_fit_52 : decode cX8_fit 52 = .ok (.iconst 1, 1) := by decide +kernel
theorem dX8_fit_53 : decode cX8_fit 53 = .ok (.ireturn, 1) := by decide +kernel
theorem dX9_init_0 : decode cX9_init 0 = .ok (.aload_n 0, 1) := by decide +kernel
theorem dX9_init_1 : decode cX9_init 1 = .ok (.invokespecial 3, 3) := by decide +kernel
theorem dX9_init_4 : decode cX9_init 4 = .ok (.aload_n 0, 1) := by decide +kernel
theorem dX9_init_5 : decode cX9_init 5 = .ok (.bipush 21, 2) := by decide +kernel
theorem dX9_init_7 : decode cX9_init 7 = .ok (.newarray .long, 2) := by decide +kernel
theorem dX9_init_9 : decode cX9_init 9 = .ok (.putfield 11, 3) := by decide +kernel
theorem dX9_init_12 : decode cX9_init 12 = .ok (.aload_n 0, 1) := by decide +kernel
theorem dX9_init_13 : decode cX9_init 13 = .ok (.sipush 1000, 3) := by decide +kernel
theorem dX9_init_16 : decode cX9_init 16 = .ok (.newarray .char, 2) := by decide +kernel
theorem dX9_init_18 : decode cX9_init 18 = .ok (.putfield 15, 3) := by decide +kernel
theorem dX9_init_21 : decode cX9_init 21 = .ok (.iconst 0, 1) := by decide +kernel
theorem dX9_init_22 : decode cX9_init 22 = .ok (.istore_n 1, 1) := by decide +kernel
theorem dX9_init_23 : decode cX9_init 23 = .ok (.iconst 0, 1) := by decide +kernel
theorem dX9_init_24 : decode cX9_init 24 = .ok (.istore_n 2, 1) := by decide +kernel
theorem dX9_init_25 : decode cX9_init 25 = .ok (.iload_n 2, 1) := by decide +kernel
theorem dX9_init_26 : decode cX9_init 26 = .ok (.ldc 19, 2) := by decide +kernel
theorem dX9_init_28 : decode cX9_init 28 = .ok (.invokevirtual 21, 3) := by decide +kernel
theorem dX9_init_31 : decode cX9_init 31 = .ok (.if_icmp .ge 58, 3) := by decide +kernel
theorem dX9_init_34 : decode cX9_init 34 = .ok (.iload_n 1, 1) := by decide +kernel
theorem dX9_init_35 : decode cX9_init 35 = .ok (.bipush 21, 2) := by decide +kernel
theorem dX9_init_37 : decode cX9_init 37 = .ok (.if_icmp .ge 52, 3) := by decide +kernel
theorem dX9_init_40 : decode cX9_init 40 = .ok (.ldc 19, 2) := by decide +kernel
theorem dX9_init_42 : decode cX9_init 42 = .ok (.iload_n 2, 1) := by decide +kernel
theorem dX9_init_43 : decode cX9_init 43 = .ok (.invokevirtual 27, 3) := by decide +kernel
theorem dX9_init_46 : decode cX9_init 46 = .ok (.istore_n 3, 1) := by decide +kernel
theorem dX9_init_47 : decode cX9_init 47 = .ok (.iload_n 3, 1) := by decide +kernel
theorem dX9_init_48 : decode cX9_init 48 = .ok (.bipush 32, 2) := by decide +kernel
theorem dX9_init_50 : decode cX9_init 50 = .ok (.if_icmp .ne 9, 3) := by decide +kernel
theorem dX9_init_53 : decode cX9_init 53 = .ok (.iinc 1 1, 3) := by decide +kernel
theorem dX9_init_56 : decode cX9_init 56 = .ok (.goto 27, 3) := by decide +kernel
theorem dX9_init_59 : decode cX9_init 59 = .ok (.aload_n 0, 1) := by decide +kernel
theorem dX9_init_60 : decode cX9_init 60 = .ok (.getfield 11, 3) := by decide +kernel
theorem dX9_init_63 : decode cX9_init 63 = .ok (.iload_n 1, 1) := by decide +kernel
theorem dX9_init_64 : decode cX9_init 64 = .ok (.aload_n 0, 1) := by decide +kernel
theorem dX9_init_65 : decode cX9_init 65 = .ok (.getfield 11, 3) := by decide +kernel
theorem dX9_init_68 : decode cX9_init 68 = .ok (.iload_n 1, 1) := by decide +kernel
theorem dX9_init_69 : decode cX9_init 69 = .ok (.laload, 1) := by decide +kernel
theorem dX9_init_70 : decode cX9_init 70 = .ok (.ldc2_w 31, 3) := by decide +kernel
theorem dX9_init_73 : decode cX9_init 73 = .ok (.lmul, 1) := by decide +kernel
theorem dX9_init_74 : decode cX9_init 74 = .ok (.iload_n 3, 1) := by decide +kernel
theorem dX9_init_75 : decode cX9_init 75 = .ok (.bipush 97, 2) := by decide +kernel
theorem dX9_init_77 : decode cX9_init 77 = .ok (.isub, 1) := by decide +kernel
theorem dX9_init_78 : decode cX9_init 78 = .ok (.iconst 1, 1) := by decide +kernel
theorem dX9_init_79 : decode cX9_init 79 = .ok (.iadd, 1) := by decide +kernel
theorem dX9_init_80 : decode cX9_init 80 = .ok (.i2l, 1) := by decide +kernel
theorem dX9_init_81 : decode cX9_init 81 = .ok (.ladd, 1) := by decide +kernel
theorem dX9_init_82 : decode cX9_init 82 = .ok (.lastore, 1) := by decide +kernel
theorem dX9_init_83 : decode cX9_init 83 = .ok (.iinc 2 1, 3) := by decide +kernel
theorem dX9_init_86 : decode cX9_init 86 = .ok (.goto (-61), 3) := by decide +kernel
theorem dX9_init_89 : decode cX9_init 89 = .ok (.return_, 1) := by decide +kernel
theorem dX9_addBytes_0 : decode cX9_addBytes 0 = .ok (.bipush 56, 2) := by decide +kernel
theorem dX9_addBytes_2 : decode cX9_addBytes 2 = .ok (.istore_n 3, 1) := by decide +kernel
theorem dX9_addBytes_3 : decode cX9_addBytes 3 = .ok (.iload_n 3, 1) := by decide +kernel
theorem dX9_addBytes_4 : decode cX9_addBytes 4 = .ok (.ifCond .lt 84, 3) := by decide +kernel
theorem dX9_addBytes_7 : decode cX9_addBytes 7 = .ok (.lload_n 1, 1) := by decide +kernel
theorem dX9_addBytes_8 : decode cX9_addBytes 8 = .ok (.iload_n 3, 1) := by decide +kernel
theorem dX9_addBytes_9 : decode cX9_addBytes 9 = .ok (.lushr, 1) := by decide +kernel
theorem dX9_addBytes_10 : decode cX9_addBytes 10 = .ok (.l2i, 1) := by decide +kernel
theorem dX9_addBytes_11 : decode cX9_addBytes 11 = .ok (.sipush 255, 3) := by decide +kernel
theorem dX9_addBytes_14 : decode cX9_addBytes 14 = .ok (.iand, 1) := by decide +kernel
theorem dX9_addBytes_15 : decode cX9_addBytes 15 = .ok (.istore 4, 2) := by decide +kernel
theorem dX9_addBytes_17 : decode cX9_addBytes 17 = .ok (.iload 4, 2) := by decide +kernel
theorem dX9_addBytes_19 : decode cX9_addBytes 19 = .ok (.bipush 10, 2) := by decide +kernel
theorem dX9_addBytes_21 : decode cX9_addBytes 21 = .ok (.if_icmp .eq 17, 3) := by decide +kernel
theorem dX9_addBytes_24 : decode cX9_addBytes 24 = .ok (.iload 4, 2) := by decide +kernel
theorem dX9_addBytes_26 : decode cX9_addBytes 26 = .ok (.bipush 32, 2) := by decide +kernel
theorem dX9_addBytes_28 : decode cX9_addBytes 28 = .ok (.if_icmp .lt 14, 3) := by decide +kernel
theorem dX9_addBytes_31 : decode cX9_addBytes 31 = .ok (.iload 4, 2) := by decide +kernel
theorem dX9_addBytes_33 : decode cX9_addBytes 33 = .ok (.bipush 126, 2) := by decide +kernel
theorem dX9_addBytes_35 : decode cX9_addBytes 35 = .ok (.if_icmp .gt 7, 3) := by decide +kernel
theorem dX9_addBytes_38 : decode cX9_addBytes 38 = .ok (.iconst 1, 1) := by decide +kernel
theorem dX9_addBytes_39 : decode cX9_addBytes 39 = .ok (.goto 4, 3) := by decide +kernel
theorem dX9_addBytes_42 : decode cX9_addBytes 42 = .ok (.iconst 0, 1) := by decide +kernel
theorem dX9_addBytes_43 : decode cX9_addBytes 43 = .ok (.istore 5, 2) := by decide +kernel
theorem dX9_addBytes_45 : decode cX9_addBytes 45 = .ok (.iload 5, 2) := by decide +kernel
theorem dX9_addBytes_47 : decode cX9_addBytes 47 = .ok (.ifCond .eq 35, 3) := by decide +kernel
theorem dX9_addBytes_50 : decode cX9_addBytes 50 = .ok (.aload_n 0, 1) := by decide +kernel
theorem dX9_addBytes_51 : decode cX9_addBytes 51 = .ok (.getfield 33, 3) := by decide +kernel
theorem dX9_addBytes_54 : decode cX9_addBytes 54 = .ok (.sipush 1000, 3) := by decide +kernel
theorem dX9_addBytes_57 : decode cX9_addBytes 57 = .ok (.if_icmp .ge 25, 3) := by decide +kernel
theorem dX9_addBytes_60 : decode cX9_addBytes 60 = .ok (.aload_n 0, 1) := by decide +kernel
theorem dX9_addBytes_61 : decode cX9_addBytes 61 = .ok (.getfield 15, 3) := by decide +kernel
theorem dX9_addBytes_64 : decode cX9_addBytes 64 = .ok (.aload_n 0, 1) := by decide +kernel
theorem dX9_addBytes_65 : decode cX9_addBytes 65 = .ok (.getfield 33, 3) := by decide +kernel
theorem dX9_addBytes_68 : decode cX9_addBytes 68 = .ok (.iload 4, 2) := by decide +kernel
theorem dX9_addBytes_70 : decode cX9_addBytes 70 = .ok (.i2c, 1) := by decide +kernel
theorem dX9_addBytes_71 : decode cX9_addBytes 71 = .ok (.castore, 1) := by decide +kernel
theorem dX9_addBytes_72 : decode cX9_addBytes 72 = .ok (.aload_n 0, 1) := by decide +kernel
theorem dX9_addBytes_73 : decode cX9_addBytes 73 = .ok (.dup, 1) := by decide +kernel
theorem dX9_addBytes_74 : decode cX9_addBytes 74 = .ok (.getfield 33, 3) := by decide +kernel
theorem dX9_addBytes_77 : decode cX9_addBytes 77 = .ok (.iconst 1, 1) := by decide +kernel
theorem dX9_addBytes_78 : decode cX9_addBytes 78 = .ok (.iadd, 1) := by decide +kernel
theorem dX9_addBytes_79 : decode cX9_addBytes 79 = .ok (.putfield 33, 3) := by decide +kernel
theorem dX9_addBytes_82 : decode cX9_addBytes 82 = .ok (.iinc 3 (-8), 3) := by decide +kernel
theorem dX9_addBytes_85 : decode cX9_addBytes 85 = .ok (.goto (-82), 3) := by decide +kernel
theorem dX9_addBytes_88 : decode cX9_addBytes 88 = .ok (.return_, 1) := by decide +kernel
theorem dX9_start_0 : decode cX9_start 0 = .ok (.aload_n 0, 1) := by decide +kernel
theorem dX9_start_1 : decode cX9_start 1 = .ok (.iconst 0, 1) := by decide +kernel
theorem dX9_start_2 : decode cX9_start 2 = .ok (.putfield 37, 3) := by decide +kernel
theorem dX9_start_5 : decode cX9_start 5 = .ok (.aload_n 0, 1) := by decide +kernel
theorem dX9_start_6 : decode cX9_start 6 = .ok (.invokevirtual 40, 3) := by decide +kernel
theorem dX9_start_9 : decode cX9_start 9 = .ok (.return_, 1) := by decide +kernel
theorem dX9_advance_0 : decode cX9_advance 0 = .ok (.aload_n 0, 1) := by decide +kernel
theorem dX9_advance_1 : decode cX9_advance 1 = .ok (.aload_n 0, 1) := by decide +kernel
theorem dX9_advance_2 : decode cX9_advance 2 = .ok (.getfield 37, 3) := by decide +kernel
theorem dX9_advance_5 : decode cX9_advance 5 = .ok (.putfield 43, 3) := by decide +kernel
theorem dX9_advance_8 : decode cX9_advance 8 = .ok (.aload_n 0, 1) := by decide +kernel
theorem dX9_advance_9 : decode cX9_advance 9 = .ok (.getfield 43, 3) := by decide +kernel
theorem dX9_advance_12 : decode cX9_advance 12 = .ok (.aload_n 0, 1) := by decide +kernel
theorem dX9_advance_13 : decode cX9_advance 13 = .ok (.getfield 33, 3) := by decide +kernel
theorem dX9_advance_16 : decode cX9_advance 16 = .ok (.if_icmp .ge 44, 3) := by decide +kernel
theorem dX9_advance_19 : decode cX9_advance 19 = .ok (.aload_n 0, 1) := by decide +kernel
theorem dX9_advance_20 : decode cX9_advance 20 = .ok (.getfield 15, 3) := by decide +kernel
theorem dX9_advance_23 : decode cX9_advance 23 = .ok (.aload_n 0, 1) := by decide +kernel
theorem dX9_advance_24 : decode cX9_advance 24 = .ok (.getfield 43, 3) := by decide +kernel
theorem dX9_advance_27 : decode cX9_advance 27 = .ok (.caload, 1) := by decide +kernel
theorem dX9_advance_28 : decode cX9_advance 28 = .ok (.bipush 10, 2) := by decide +kernel
theorem dX9_advance_30 : decode cX9_advance 30 = .ok (.if_icmp .eq 17, 3) := by decide +kernel
theorem dX9_advance_33 : decode cX9_advance 33 = .ok (.aload_n 0, 1) := by decide +kernel
theorem dX9_advance_34 : decode cX9_advance 34 = .ok (.getfield 15, 3) := by decide +kernel
theorem dX9_advance_37 : decode cX9_advance 37 = .ok (.aload_n 0, 1) := by decide +kernel
theorem dX9_advance_38 : decode cX9_advance 38 = .ok (.getfield 43, 3) := by decide +kernel
theorem dX9_advance_41 : decode cX9_advance 41 = .ok (.caload, 1) := by decide +kernel
theorem dX9_advance_42 : decode cX9_advance 42 = .ok (.bipush 32, 2) := by decide +kernel
theorem dX9_advance_44 : decode cX9_advance 44 = .ok (.if_icmp .ne 16, 3) := by decide +kernel
theorem dX9_advance_47 : decode cX9_advance 47 = .ok (.aload_n 0, 1) := by decide +kernel
theorem dX9_advance_48 : decode cX9_advance 48 = .ok (.dup, 1) := by decide +kernel
theorem dX9_advance_49 : decode cX9_advance 49 = .ok (.getfield 43, 3) := by decide +kernel
theorem dX9_advance_52 : decode cX9_advance 52 = .ok (.iconst 1, 1) := by decide +kernel
theorem dX9_advance_53 : decode cX9_advance 53 = .ok (.iadd, 1) := by decide +kernel
theorem dX9_advance_54 : decode cX9_advance 54 = .ok (.putfield 43, 3) := by decide +kernel
theorem dX9_advance_57 : decode cX9_advance 57 = .ok (.goto (-49), 3) := by decide +kernel
theorem dX9_advance_60 : decode cX9_advance 60 = .ok (.aload_n 0, 1) := by decide +kernel
theorem dX9_advance_61 : decode cX9_advance 61 = .ok (.aload_n 0, 1) := by decide +kernel
theorem dX9_advance_62 : decode cX9_advance 62 = .ok (.getfield 43, 3) := by decide +kernel
theorem dX9_advance_65 : decode cX9_advance 65 = .ok (.putfield 37, 3) := by decide +kernel
theorem dX9_advance_68 : decode cX9_advance 68 = .ok (.aload_n 0, 1) := by decide +kernel
theorem dX9_advance_69 : decode cX9_advance 69 = .ok (.iconst 0, 1) := by decide +kernel
theorem dX9_advance_70 : decode cX9_advance 70 = .ok (.putfield 46, 3) := by decide +kernel
theorem dX9_advance_73 : decode cX9_advance 73 = .ok (.aload_n 0, 1) := by decide +kernel
theorem dX9_advance_74 : decode cX9_advance 74 = .ok (.iconst (-1), 1) := by decide +kernel
theorem dX9_advance_75 : decode cX9_advance 75 = .ok (.putfield 50, 3) := by decide +kernel
theorem dX9_advance_78 : decode cX9_advance 78 = .ok (.aload_n 0, 1) := by decide +kernel
theorem dX9_advance_79 : decode cX9_advance 79 = .ok (.getfield 43, 3) := by decide +kernel
theorem dX9_advance_82 : decode cX9_advance 82 = .ok (.aload_n 0, 1) := by decide +kernel
theorem dX9_advance_83 : decode cX9_advance 83 = .ok (.getfield 33, 3) := by decide +kernel
theorem dX9_advance_86 : decode cX9_advance 86 = .ok (.if_icmp .lt 11, 3) := by decide +kernel
theorem dX9_advance_89 : decode cX9_advance 89 = .ok (.aload_n 0, 1) := by decide +kernel
theorem dX9_advance_90 : decode cX9_advance 90 = .ok (.iconst 0, 1) := by decide +kernel
theorem dX9_advance_91 : decode cX9_advance 91 = .ok (.putfield 53, 3) := by decide +kernel
theorem dX9_advance_94 : decode cX9_advance 94 = .ok (.goto 51, 3) := by decide +kernel
theorem dX9_advance_97 : decode cX9_advance 97 = .ok (.aload_n 0, 1) := by decide +kernel
theorem dX9_advance_98 : decode cX9_advance 98 = .ok (.getfield 15, 3) := by decide +kernel
theorem dX9_advance_101 : decode cX9_advance 101 = .ok (.aload_n 0, 1) := by decide +kernel
theorem dX9_advance_102 : decode cX9_advance 102 = .ok (.getfield 43, 3) := by decide +kernel
theorem dX9_advance_105 : decode cX9_advance 105 = .ok (.caload, 1) := by decide +kernel
theorem dX9_advance_106 : decode cX9_advance 106 = .ok (.invokestatic 56, 3) := by decide +kernel
theorem dX9_advance_109 : decode cX9_advance 109 = .ok (.ifCond .eq 10, 3) := by decide +kernel
theorem dX9_advance_112 : decode cX9_advance 112 = .ok (.aload_n 0, 1) := by decide +kernel
theorem dX9_advance_113 : decode cX9_advance 113 = .ok (.invokevirtual 60, 3) := by decide +kernel
theorem dX9_advance_116 : decode cX9_advance 116 = .ok (.goto 29, 3) := by decide +kernel
theorem dX9_advance_119 : decode cX9_advance 119 = .ok (.aload_n 0, 1) := by decide +kernel
theorem dX9_advance_120 : decode cX9_advance 120 = .ok (.getfield 15, 3) := by decide +kernel
theorem dX9_advance_123 : decode cX9_advance 123 = .ok (.aload_n 0, 1) := by decide +kernel
theorem dX9_advance_124 : decode cX9_advance 124 = .ok (.getfield 43, 3) := by decide +kernel
theorem dX9_advance_127 : decode cX9_advance 127 = .ok (.caload, 1) := by decide +kernel
theorem dX9_advance_128 : decode cX9_advance 128 = .ok (.invokestatic 63, 3) := by decide +kernel
theorem dX9_advance_131 : decode cX9_advance 131 = .ok (.ifCond .eq 10, 3) := by decide +kernel
theorem dX9_advance_134 : decode cX9_advance 134 = .ok (.aload_n 0, 1) := by decide +kernel
theorem dX9_advance_135 : decode cX9_advance 135 = .ok (.invokevirtual 66, 3) := by decide +kernel
theorem dX9_advance_138 : decode cX9_advance 138 = .ok (.goto 7, 3) := by decide +kernel
theorem dX9_advance_141 : decode cX9_advance 141 = .ok (.aload_n 0, 1) := by decide +kernel
theorem dX9_advance_142 : decode cX9_advance 142 = .ok (.invokevirtual 69, 3) := by decide +kernel
theorem dX9_advance_145 : decode cX9_advance 145 = .ok (.return_, 1) := by decide +kernel
theorem dX9_takeWord_0 : decode cX9_takeWord 0 = .ok (.aload_n 0, 1) := by decide +kernel
theorem dX9_takeWord_1 : decode cX9_takeWord 1 = .ok (.lconst 0, 1) := by decide +kernel
theorem dX9_takeWord_2 : decode cX9_takeWord 2 = .ok (.putfield 72, 3) := by decide +kernel
theorem dX9_takeWord_5 : decode cX9_takeWord 5 = .ok (.aload_n 0, 1) := by decide +kernel
theorem dX9_takeWord_6 : decode cX9_takeWord 6 = .ok (.getfield 37, 3) := by decide +kernel
theorem dX9_takeWord_9 : decode cX9_takeWord 9 = .ok (.aload_n 0, 1) := by decide +kernel
theorem dX9_takeWord_10 : decode cX9_takeWord 10 = .ok (.getfield 33, 3) := by decide +kernel
theorem dX9_takeWord_13 : decode cX9_takeWord 13 = .ok (.if_icmp .ge 59, 3) := by decide +kernel
theorem dX9_takeWord_16 : decode cX9_takeWord 16 = .ok (.aload_n 0, 1) := by decide +kernel
theorem dX9_takeWord_17 : decode cX9_takeWord 17 = .ok (.getfield 15, 3) := by decide +kernel
theorem dX9_takeWord_20 : decode cX9_takeWord 20 = .ok (.aload_n 0, 1) := by decide +kernel
theorem dX9_takeWord_21 : decode cX9_takeWord 21 = .ok (.getfield 37, 3) := by decide +kernel
theorem dX9_takeWord_24 : decode cX9_takeWord 24 = .ok (.caload, 1) := by decide +kernel
theorem dX9_takeWord_25 : decode cX9_takeWord 25 = .ok (.invokestatic 56, 3) := by decide +kernel
theorem dX9_takeWord_28 : decode cX9_takeWord 28 = .ok (.ifCond .eq 44, 3) := by decide +kernel
theorem dX9_takeWord_31 : decode cX9_takeWord 31 = .ok (.aload_n 0, 1) := by decide +kernel
theorem dX9_takeWord_32 : decode cX9_takeWord 32 = .ok (.aload_n 0, 1) := by decide +kernel
theorem dX9_takeWord_33 : decode cX9_takeWord 33 = .ok (.getfield 72, 3) := by decide +kernel
theorem dX9_takeWord_36 : decode cX9_takeWord 36 = .ok (.ldc2_w 31, 3) := by decide +kernel
theorem dX9_takeWord_39 : decode cX9_takeWord 39 = .ok (.lmul, 1) := by decide +kernel
theorem dX9_takeWord_40 : decode cX9_takeWord 40 = .ok (.aload_n 0, 1) := by decide +kernel
theorem dX9_takeWord_41 : decode cX9_takeWord 41 = .ok (.getfield 15, 3) := by decide +kernel
theorem dX9_takeWord_44 : decode cX9_takeWord 44 = .ok (.aload_n 0, 1) := by decide +kernel
theorem dX9_takeWord_45 : decode cX9_takeWord 45 = .ok (.getfield 37, 3) := by decide +kernel
theorem dX9_takeWord_48 : decode cX9_takeWord 48 = .ok (.caload, 1) := by decide +kernel
theorem dX9_takeWord_49 : decode cX9_takeWord 49 = .ok (.bipush 97, 2) := by decide +kernel
theorem dX9_takeWord_51 : decode cX9_takeWord 51 = .ok (.isub, 1) := by decide +kernel
theorem dX9_takeWord_52 : decode cX9_takeWord 52 = .ok (.iconst 1, 1) := by decide +kernel
theorem dX9_takeWord_53 : decode cX9_takeWord 53 = .ok (.iadd, 1) := by decide +kernel
theorem dX9_takeWord_54 : decode cX9_takeWord 54 = .ok (.i2l, 1) := by decide +kernel
theorem dX9_takeWord_55 : decode cX9_takeWord 55 = .ok (.ladd, 1) := by decide +kernel
theorem dX9_takeWord_56 : decode cX9_takeWord 56 = .ok (.putfield 72, 3) := by decide +kernel
theorem dX9_takeWord_59 : decode cX9_takeWord 59 = .ok (.aload_n 0, 1) := by decide +kernel
theorem dX9_takeWord_60 : decode cX9_takeWord 60 = .ok (.dup, 1) := by decide +kernel
theorem dX9_takeWord_61 : decode cX9_takeWord 61 = .ok (.getfield 37, 3) := by decide +kernel
theorem dX9_takeWord_64 : decode cX9_takeWord 64 = .ok (.iconst 1, 1) := by decide +kernel
theorem dX9_takeWord_65 : decode cX9_takeWord 65 = .ok (.iadd, 1) := by decide +kernel
theorem dX9_takeWord_66 : decode cX9_takeWord 66 = .ok (.putfield 37, 3) := by decide +kernel
theorem dX9_takeWord_69 : decode cX9_takeWord 69 = .ok (.goto (-64), 3) := by decide +kernel
theorem dX9_takeWord_72 : decode cX9_takeWord 72 = .ok (.aload_n 0, 1) := by decide +kernel
theorem dX9_takeWord_73 : decode cX9_takeWord 73 = .ok (.aload_n 0, 1) := by decide +kernel
theorem dX9_takeWord_74 : decode cX9_takeWord 74 = .ok (.getfield 37, 3) := by decide +kernel
theorem dX9_takeWord_77 : decode cX9_takeWord 77 = .ok (.aload_n 0, 1) := by decide +kernel
theorem dX9_takeWord_78 : decode cX9_takeWord 78 = .ok (.getfield 43, 3) := by decide +kernel
theorem dX9_takeWord_81 : decode cX9_takeWord 81 = .ok (.isub, 1) := by decide +kernel
theorem dX9_takeWord_82 : decode cX9_takeWord 82 = .ok (.bipush 8, 2) := by decide +kernel
theorem dX9_takeWord_84 : decode cX9_takeWord 84 = .ok (.if_icmp .le 7, 3) := by decide +kernel
theorem dX9_takeWord_87 : decode cX9_takeWord 87 = .ok (.iconst 4, 1) := by decide +kernel
theorem dX9_takeWord_88 : decode cX9_takeWord 88 = .ok (.goto 4, 3) := by decide +kernel
theorem dX9_takeWord_91 : decode cX9_takeWord 91 = .ok (.iconst 1, 1) := by decide +kernel
theorem dX9_takeWord_92 : decode cX9_takeWord 92 = .ok (.putfield 53, 3) := by decide +kernel
theorem dX9_takeWord_95 : decode cX9_takeWord 95 = .ok (.iconst 0, 1) := by decide +kernel
theorem dX9_takeWord_96 : decode cX9_takeWord 96 = .ok (.istore_n 1, 1) := by decide +kernel
theorem dX9_takeWord_97 : decode cX9_takeWord 97 = .ok (.iload_n 1, 1) := by decide +kernel
theorem dX9_takeWord_98 : decode cX9_takeWord 98 = .ok (.bipush 21, 2) := by decide +kernel
theorem dX9_takeWord_100 : decode cX9_takeWord 100 = .ok (.if_icmp .ge 44, 3) := by decide +kernel
theorem dX9_takeWord_103 : decode cX9_takeWord 103 = .ok (.aload_n 0, 1) := by decide +kernel
theorem dX9_takeWord_104 : decode cX9_takeWord 104 = .ok (.getfield 53, 3) := by decide +kernel
theorem dX9_takeWord_107 : decode cX9_takeWord 107 = .ok (.iconst 1, 1) := by decide +kernel
theorem dX9_takeWord_108 : decode cX9_takeWord 108 = .ok (.if_icmp .ne 36, 3) := by decide +kernel
theorem dX9_takeWord_111 : decode cX9_takeWord 111 = .ok (.aload_n 0, 1) := by decide +kernel
theorem dX9_takeWord_112 : decode cX9_takeWord 112 = .ok (.getfield 50, 3) := by decide +kernel
theorem dX9_takeWord_115 : decode cX9_takeWord 115 = .ok (.iconst (-1), 1) := by decide +kernel
theorem dX9_takeWord_116 : decode cX9_takeWord 116 = .ok (.if_icmp .ne 28, 3) := by decide +kernel
theorem dX9_takeWord_119 : decode cX9_takeWord 119 = .ok (.aload_n 0, 1) := by decide +kernel
theorem dX9_takeWord_120 : decode cX9_takeWord 120 = .ok (.getfield 11, 3) := by decide +kernel
theorem dX9_takeWord_123 : decode cX9_takeWord 123 = .ok (.iload_n 1, 1) := by decide +kernel
theorem dX9_takeWord_124 : decode cX9_takeWord 124 = .ok (.laload, 1) := by decide +kernel
theorem dX9_takeWord_125 : decode cX9_takeWord 125 = .ok (.aload_n 0, 1) := by decide +kernel
theorem dX9_takeWord_126 : decode cX9_takeWord 126 = .ok (.getfield 72, 3) := by decide +kernel
theorem dX9_takeWord_129 : decode cX9_takeWord 129 = .ok (.lcmp, 1) := by decide +kernel
theorem dX9_takeWord_130 : decode cX9_takeWord 130 = .ok (.ifCond .ne 8, 3) := by decide +kernel
theorem dX9_takeWord_133 : decode cX9_takeWord 133 = .ok (.aload_n 0, 1) := by decide +kernel
theorem dX9_takeWord_134 : decode cX9_takeWord 134 = .ok (.iload_n 1, 1) := by decide +kernel
theorem dX9_takeWord_135 : decode cX9_takeWord 135 = .ok (.putfield 50, 3) := by decide +kernel
theorem dX9_takeWord_138 : decode cX9_takeWord 138 = .ok (.iinc 1 1, 3) := by decide +kernel
theorem dX9_takeWord_141 : decode cX9_takeWord 141 = .ok (.goto (-44), 3) := by decide +kernel
theorem dX9_takeWord_144 : decode cX9_takeWord 144 = .ok (.return_, 1) := by decide +kernel
theorem dX9_takeNumber_0 : decode cX9_takeNumber 0 = .ok (.aload_n 0, 1) := by decide +kernel
theorem dX9_takeNumber_1 : decode cX9_takeNumber 1 = .ok (.iconst 0, 1) := by decide +kernel
theorem dX9_takeNumber_2 : decode cX9_takeNumber 2 = .ok (.putfield 76, 3) := by decide +kernel
theorem dX9_takeNumber_5 : decode cX9_takeNumber 5 = .ok (.aload_n 0, 1) := by decide +kernel
theorem dX9_takeNumber_6 : decode cX9_takeNumber 6 = .ok (.getfield 37, 3) := by decide +kernel
theorem dX9_takeNumber_9 : decode cX9_takeNumber 9 = .ok (.aload_n 0, 1) := by decide +kernel
theorem dX9_takeNumber_10 : decode cX9_takeNumber 10 = .ok (.getfield 33, 3) := by decide +kernel
theorem dX9_takeNumber_13 : decode cX9_takeNumber 13 = .ok (.if_icmp .ge 55, 3) := by decide +kernel
theorem dX9_takeNumber_16 : decode cX9_takeNumber 16 = .ok (.aload_n 0, 1) := by decide +kernel
theorem dX9_takeNumber_17 : decode cX9_takeNumber 17 = .ok (.getfield 15, 3) := by decide +kernel
theorem dX9_takeNumber_20 : decode cX9_takeNumber 20 = .ok (.aload_n 0, 1) := by decide +kernel
theorem dX9_takeNumber_21 : decode cX9_takeNumber 21 = .ok (.getfield 37, 3) := by decide +kernel
theorem dX9_takeNumber_24 : decode cX9_takeNumber 24 = .ok (.caload, 1) := by decide +kernel
theorem dX9_takeNumber_25 : decode cX9_takeNumber 25 = .ok (.invokestatic 63, 3) := by decide +kernel
theorem dX9_takeNumber_28 : decode cX9_takeNumber 28 = .ok (.ifCond .eq 40, 3) := by decide +kernel
theorem dX9_takeNumber_31 : decode cX9_takeNumber 31 = .ok (.aload_n 0, 1) := by decide +kernel
theorem dX9_takeNumber_32 : decode cX9_takeNumber 32 = .ok (.aload_n 0, 1) := by decide +kernel
theorem dX9_takeNumber_33 : decode cX9_takeNumber 33 = .ok (.getfield 76, 3) := by decide +kernel
theorem dX9_takeNumber_36 : decode cX9_takeNumber 36 = .ok (.bipush 10, 2) := by decide +kernel
theorem dX9_takeNumber_38 : decode cX9_takeNumber 38 = .ok (.imul, 1) := by decide +kernel
theorem dX9_takeNumber_39 : decode cX9_takeNumber 39 = .ok (.aload_n 0, 1) := by decide +kernel
theorem dX9_takeNumber_40 : decode cX9_takeNumber 40 = .ok (.getfield 15, 3) := by decide +kernel
theorem dX9_takeNumber_43 : decode cX9_takeNumber 43 = .ok (.aload_n 0, 1) := by decide +kernel
theorem dX9_takeNumber_44 : decode cX9_takeNumber 44 = .ok (.getfield 37, 3) := by decide +kernel
theorem dX9_takeNumber_47 : decode cX9_takeNumber 47 = .ok (.caload, 1) := by decide +kernel
theorem dX9_takeNumber_48 : decode cX9_takeNumber 48 = .ok (.bipush 48, 2) := by decide +kernel
theorem dX9_takeNumber_50 : decode cX9_takeNumber 50 = .ok (.isub, 1) := by decide +kernel
theorem dX9_takeNumber_51 : decode cX9_takeNumber 51 = .ok (.iadd, 1) := by decide +kernel
theorem dX9_takeNumber_52 : decode cX9_takeNumber 52 = .ok (.putfield 76, 3) := by decide +kernel
theorem dX9_takeNumber_55 : decode cX9_takeNumber 55 = .ok (.aload_n 0, 1) := by decide +kernel
theorem dX9_takeNumber_56 : decode cX9_takeNumber 56 = .ok (.dup, 1) := by decide +kernel
theorem dX9_takeNumber_57 : decode cX9_takeNumber 57 = .ok (.getfield 37, 3) := by decide +kernel
theorem dX9_takeNumber_60 : decode cX9_takeNumber 60 = .ok (.iconst 1, 1) := by decide +kernel
theorem dX9_takeNumber_61 : decode cX9_takeNumber 61 = .ok (.iadd, 1) := by decide +kernel
theorem dX9_takeNumber_62 : decode cX9_takeNumber 62 = .ok (.putfield 37, 3) := by decide +kernel
theorem dX9_takeNumber_65 : decode cX9_takeNumber 65 = .ok (.goto (-60), 3) := by decide +kernel
theorem dX9_takeNumber_68 : decode cX9_takeNumber 68 = .ok (.aload_n 0, 1) := by decide +kernel
theorem dX9_takeNumber_69 : decode cX9_takeNumber 69 = .ok (.aload_n 0, 1) := by decide +kernel
theorem dX9_takeNumber_70 : decode cX9_takeNumber 70 = .ok (.getfield 37, 3) := by decide +kernel
theorem dX9_takeNumber_73 : decode cX9_takeNumber 73 = .ok (.aload_n 0, 1) := by decide +kernel
theorem dX9_takeNumber_74 : decode cX9_takeNumber 74 = .ok (.getfield 43, 3) := by decide +kernel
theorem dX9_takeNumber_77 : decode cX9_takeNumber 77 = .ok (.isub, 1) := by decide +kernel
theorem dX9_takeNumber_78 : decode cX9_takeNumber 78 = .ok (.iconst 4, 1) := by decide +kernel
theorem dX9_takeNumber_79 : decode cX9_takeNumber 79 = .ok (.if_icmp .le 7, 3) := by decide +kernel
theorem dX9_takeNumber_82 : decode cX9_takeNumber 82 = .ok (.iconst 4, 1) := by decide +kernel
theorem dX9_takeNumber_83 : decode cX9_takeNumber 83 = .ok (.goto 4, 3) := by decide +kernel
theorem dX9_takeNumber_86 : decode cX9_takeNumber 86 = .ok (.iconst 2, 1) := by decide +kernel
theorem dX9_takeNumber_87 : decode cX9_takeNumber 87 = .ok (.putfield 53, 3) := by decide +kernel
theorem dX9_takeNumber_90 : decode cX9_takeNumber 90 = .ok (.return_, 1) := by decide +kernel
theorem dX9_takeSign_0 : decode cX9_takeSign 0 = .ok (.aload_n 0, 1) := by decide +kernel
theorem dX9_takeSign_1 : decode cX9_takeSign 1 = .ok (.getfield 37, 3) := by decide +kernel
theorem dX9_takeSign_4 : decode cX9_takeSign 4 = .ok (.aload_n 0, 1) := by decide +kernel
theorem dX9_takeSign_5 : decode cX9_takeSign 5 = .ok (.getfield 33, 3) := by decide +kernel
theorem dX9_takeSign_8 : decode cX9_takeSign 8 = .ok (.if_icmp .ge 26, 3) := by decide +kernel
theorem dX9_takeSign_11 : decode cX9_takeSign 11 = .ok (.aload_n 0, 1) := by decide +kernel
theorem dX9_takeSign_12 : decode cX9_takeSign 12 = .ok (.aload_n 0, 1) := by decide +kernel
theorem dX9_takeSign_13 : decode cX9_takeSign 13 = .ok (.getfield 15, 3) := by decide +kernel
theorem dX9_takeSign_16 : decode cX9_takeSign 16 = .ok (.aload_n 0, 1) := by decide +kernel
theorem dX9_takeSign_17 : decode cX9_takeSign 17 = .ok (.getfield 37, 3) := by decide +kernel
theorem dX9_takeSign_20 : decode cX9_takeSign 20 = .ok (.caload, 1) := by decide +kernel
theorem dX9_takeSign_21 : decode cX9_takeSign 21 = .ok (.putfield 46, 3) := by decide +kernel
theorem dX9_takeSign_24 : decode cX9_takeSign 24 = .ok (.aload_n 0, 1) := by decide +kernel
theorem dX9_takeSign_25 : decode cX9_takeSign 25 = .ok (.dup, 1) := by decide +kernel
theorem dX9_takeSign_26 : decode cX9_takeSign 26 = .ok (.getfield 37, 3) := by decide +kernel
theorem dX9_takeSign_29 : decode cX9_takeSign 29 = .ok (.iconst 1, 1) := by decide +kernel
theorem dX9_takeSign_30 : decode cX9_takeSign 30 = .ok (.iadd, 1) := by decide +kernel
theorem dX9_takeSign_31 : decode cX9_takeSign 31 = .ok (.putfield 37, 3) := by decide +kernel
theorem dX9_takeSign_34 : decode cX9_takeSign 34 = .ok (.aload_n 0, 1) := by decide +kernel
theorem dX9_takeSign_35 : decode cX9_takeSign 35 = .ok (.getfield 46, 3) := by decide +kernel
theorem dX9_takeSign_38 : decode cX9_takeSign 38 = .ok (.tableswitch 110 40 61 #[102, 102, 102, 102, 110, 102, 110, 110, 110, 110, 110, 110, 110, 110, 110, 110, 110, 110, 110, 102, 102, 102], 102) := by decide +kernel
theorem dX9_takeSign_140 : decode cX9_takeSign 140 = .ok (.aload_n 0, 1) := by decide +kernel
theorem dX9_takeSign_141 : decode cX9_takeSign 141 = .ok (.iconst 3, 1) := by decide +kernel
theorem dX9_takeSign_142 : decode cX9_takeSign 142 = .ok (.putfield 53, 3) := by decide +kernel
theorem dX9_takeSign_145 : decode cX9_takeSign 145 = .ok (.goto 8, 3) := by decide +kernel
theorem dX9_takeSign_148 : decode cX9_takeSign 148 = .ok (.aload_n 0, 1) := by decide +kernel
theorem dX9_takeSign_149 : decode cX9_takeSign 149 = .ok (.iconst 4, 1) := by decide +kernel
theorem dX9_takeSign_150 : decode cX9_takeSign 150 = .ok (.putfield 53, 3) := by decide +kernel
theorem dX9_takeSign_153 : decode cX9_takeSign 153 = .ok (.return_, 1) := by decide +kernel
theorem dX9_isSign_0 : decode cX9_isSign 0 = .ok (.aload_n 0, 1) := by decide +kernel
theorem dX9_isSign_1 : decode cX9_isSign 1 = .ok (.getfield 53, 3) := by decide +kernel
theorem dX9_isSign_4 : decode cX9_isSign 4 = .ok (.iconst 3, 1) := by decide +kernel
theorem dX9_isSign_5 : decode cX9_isSign 5 = .ok (.if_icmp .ne 15, 3) := by decide +kernel
theorem dX9_isSign_8 : decode cX9_isSign 8 = .ok (.aload_n 0, 1) := by decide +kernel
theorem dX9_isSign_9 : decode cX9_isSign 9 = .ok (.getfield 46, 3) := by decide +kernel
theorem dX9_isSign_12 : decode cX9_isSign 12 = .ok (.iload_n 1, 1) := by decide +kernel
theorem dX9_isSign_13 : decode cX9_isSign 13 = .ok (.if_icmp .ne 7, 3) := by decide +kernel
theorem dX9_isSign_16 : decode cX9_isSign 16 = .ok (.iconst 1, 1) := by decide +kernel
theorem dX9_isSign_17 : decode cX9_isSign 17 = .ok (.goto 4, 3) := by decide +kernel
theorem dX9_isSign_20 : decode cX9_isSign 20 = .ok (.iconst 0, 1) := by decide +kernel
theorem dX9_isSign_21 : decode cX9_isSign 21 = .ok (.ireturn, 1) := by decide +kernel
theorem dX9_isLetter_0 : decode cX9_isLetter 0 = .ok (.iload_n 0, 1) := by decide +kernel
theorem dX9_isLetter_1 : decode cX9_isLetter 1 = .ok (.bipush 97, 2) := by decide +kernel
theorem dX9_isLetter_3 : decode cX9_isLetter 3 = .ok (.if_icmp .lt 13, 3) := by decide +kernel
theorem dX9_isLetter_6 : decode cX9_isLetter 6 = .ok (.iload_n 0, 1) := by decide +kernel
theorem dX9_isLetter_7 : decode cX9_isLetter 7 = .ok (.bipush 122, 2) := by decide +kernel
theorem dX9_isLetter_9 : decode cX9_isLetter 9 = .ok (.if_icmp .gt 7, 3) := by decide +kernel
theorem dX9_isLetter_12 : decode cX9_isLetter 12 = .ok (.iconst 1, 1) := by decide +kernel
theorem dX9_isLetter_13 : decode cX9_isLetter 13 = .ok (.goto 4, 3) := by decide +kernel
theorem dX9_isLetter_16 : decode cX9_isLetter 16 = .ok (.iconst 0, 1) := by decide +kernel
theorem dX9_isLetter_17 : decode cX9_isLetter 17 = .ok (.ireturn, 1) := by decide +kernel
theorem dX9_isDigit_0 : decode cX9_isDigit 0 = .ok (.iload_n 0, 1) := by decide +kernel
theorem dX9_isDigit_1 : decode cX9_isDigit 1 = .ok (.bipush 48, 2) := by decide +kernel
theorem dX9_isDigit_3 : decode cX9_isDigit 3 = .ok (.if_icmp .lt 13, 3) := by decide +kernel
theorem dX9_isDigit_6 : decode cX9_isDigit 6 = .ok (.iload_n 0, 1) := by decide +kernel
theorem dX9_isDigit_7 : decode cX9_isDigit 7 = .ok (.bipush 57, 2) := by decide +kernel
theorem dX9_isDigit_9 : decode cX9_isDigit 9 = .ok (.if_icmp .gt 7, 3) := by decide +kernel
theorem dX9_isDigit_12 : decode cX9_isDigit 12 = .ok (.iconst 1, 1) := by decide +kernel
theorem dX9_isDigit_13 : decode cX9_isDigit 13 = .ok (.goto 4, 3) := by decide +kernel
theorem dX9_isDigit_16 : decode cX9_isDigit 16 = .ok (.iconst 0, 1) := by decide +kernel
theorem dX9_isDigit_17 : decode cX9_isDigit 17 = .ok (.ireturn, 1) := by decide +kernel
theorem dX10_init_0 : decode cX10_init 0 = .ok (.aload_n 0, 1) := by decide +kernel
theorem dX10_init_1 : decode cX10_init 1 = .ok (.invokespecial 3, 3) := by decide +kernel
theorem dX10_init_4 : decode cX10_init 4 = .ok (.aload_n 0, 1) := by decide +kernel
theorem dX10_init_5 : decode cX10_init 5 = .ok (.bipush 6, 2) := by decide +kernel
theorem dX10_init_7 : decode cX10_init 7 = .ok (.newarray .int, 2) := by decide +kernel
theorem dX10_init_9 : decode cX10_init 9 = .ok (.putfield 9, 3) := by decide +kernel
theorem dX10_init_12 : decode cX10_init 12 = .ok (.return_, 1) := by decide +kernel
theorem dX10_begin_0 : decode cX10_begin 0 = .ok (.aload_n 0, 1) := by decide +kernel
theorem dX10_begin_1 : decode cX10_begin 1 = .ok (.iload_n 1, 1) := by decide +kernel
theorem dX10_begin_2 : decode cX10_begin 2 = .ok (.putfield 15, 3) := by decide +kernel
theorem dX10_begin_5 : decode cX10_begin 5 = .ok (.iconst 0, 1) := by decide +kernel
theorem dX10_begin_6 : decode cX10_begin 6 = .ok (.istore_n 2, 1) := by decide +kernel
theorem dX10_begin_7 : decode cX10_begin 7 = .ok (.iload_n 2, 1) := by decide +kernel
theorem dX10_begin_8 : decode cX10_begin 8 = .ok (.bipush 6, 2) := by decide +kernel
theorem dX10_begin_10 : decode cX10_begin 10 = .ok (.if_icmp .ge 16, 3) := by decide +kernel
theorem dX10_begin_13 : decode cX10_begin 13 = .ok (.aload_n 0, 1) := by decide +kernel
theorem dX10_begin_14 : decode cX10_begin 14 = .ok (.getfield 9, 3) := by decide +kernel
theorem dX10_begin_17 : decode cX10_begin 17 = .ok (.iload_n 2, 1) := by decide +kernel
theorem dX10_begin_18 : decode cX10_begin 18 = .ok (.iconst 0, 1) := by decide +kernel
theorem dX10_begin_19 : decode cX10_begin 19 = .ok (.iastore, 1) := by decide +kernel
theorem dX10_begin_20 : decode cX10_begin 20 = .ok (.iinc 2 1, 3) := by decide +kernel
theorem dX10_begin_23 : decode cX10_begin 23 = .ok (.goto (-16), 3) := by decide +kernel
theorem dX10_begin_26 : decode cX10_begin 26 = .ok (.aload_n 0, 1) := by decide +kernel
theorem dX10_begin_27 : decode cX10_begin 27 = .ok (.iconst 0, 1) := by decide +kernel
theorem dX10_begin_28 : decode cX10_begin 28 = .ok (.putfield 19, 3) := by decide +kernel
theorem dX10_begin_31 : decode cX10_begin 31 = .ok (.aload_n 0, 1) := by decide +kernel
theorem dX10_begin_32 : decode cX10_begin 32 = .ok (.iconst 0, 1) := by decide +kernel
theorem dX10_begin_33 : decode cX10_begin 33 = .ok (.putfield 23, 3) := by decide +kernel
theorem dX10_begin_36 : decode cX10_begin 36 = .ok (.aload_n 0, 1) := by decide +kernel
theorem dX10_begin_37 : decode cX10_begin 37 = .ok (.iconst 0, 1) := by decide +kernel
theorem dX10_begin_38 : decode cX10_begin 38 = .ok (.putfield 26, 3) := by decide +kernel
theorem dX10_begin_41 : decode cX10_begin 41 = .ok (.return_, 1) := by decide +kernel
theorem dX10_copy_0 : decode cX10_copy 0 = .ok (.aload_n 0, 1) := by decide +kernel
theorem dX10_copy_1 : decode cX10_copy 1 = .ok (.aload_n 1, 1) := by decide +kernel
theorem dX10_copy_2 : decode cX10_copy 2 = .ok (.getfield 15, 3) := by decide +kernel
theorem dX10_copy_5 : decode cX10_copy 5 = .ok (.putfield 15, 3) := by decide +kernel
theorem dX10_copy_8 : decode cX10_copy 8 = .ok (.iconst 0, 1) := by decide +kernel
theorem dX10_copy_9 : decode cX10_copy 9 = .ok (.istore_n 2, 1) := by decide +kernel
theorem dX10_copy_10 : decode cX10_copy 10 = .ok (.iload_n 2, 1) := by decide +kernel
theorem dX10_copy_11 : decode cX10_copy 11 = .ok (.bipush 6, 2) := by decide +kernel
theorem dX10_copy_13 : decode cX10_copy 13 = .ok (.if_icmp .ge 21, 3) := by decide +kernel
theorem dX10_copy_16 : decode cX10_copy 16 = .ok (.aload_n 0, 1) := by decide +kernel
theorem dX10_copy_17 : decode cX10_copy 17 = .ok (.getfield 9, 3) := by decide +kernel
theorem dX10_copy_20 : decode cX10_copy 20 = .ok (.iload_n 2, 1) := by decide +kernel
theorem dX10_copy_21 : decode cX10_copy 21 = .ok (.aload_n 1, 1) := by decide +kernel
theorem dX10_copy_22 : decode cX10_copy 22 = .ok (.getfield 9, 3) := by decide +kernel
theorem dX10_copy_25 : decode cX10_copy 25 = .ok (.iload_n 2, 1) := by decide +kernel
theorem dX10_copy_26 : decode cX10_copy 26 = .ok (.iaload, 1) := by decide +kernel
theorem dX10_copy_27 : decode cX10_copy 27 = .ok (.iastore, 1) := by decide +kernel
theorem dX10_copy_28 : decode cX10_copy 28 = .ok (.iinc 2 1, 3) := by decide +kernel
theorem dX10_copy_31 : decode cX10_copy 31 = .ok (.goto (-21), 3) := by decide +kernel
theorem dX10_copy_34 : decode cX10_copy 34 = .ok (.aload_n 0, 1) := by decide +kernel
theorem dX10_copy_35 : decode cX10_copy 35 = .ok (.aload_n 1, 1) := by decide +kernel
theorem dX10_copy_36 : decode cX10_copy 36 = .ok (.getfield 19, 3) := by decide +kernel
theorem dX10_copy_39 : decode cX10_copy 39 = .ok (.putfield 19, 3) := by decide +kernel
theorem dX10_copy_42 : decode cX10_copy 42 = .ok (.aload_n 0, 1) := by decide +kernel
theorem dX10_copy_43 : decode cX10_copy 43 = .ok (.aload_n 1, 1) := by decide +kernel
theorem dX10_copy_44 : decode cX10_copy 44 = .ok (.getfield 23, 3) := by decide +kernel
theorem dX10_copy_47 : decode cX10_copy 47 = .ok (.putfield 23, 3) := by decide +kernel
theorem dX10_copy_50 : decode cX10_copy 50 = .ok (.aload_n 0, 1) := by decide +kernel
theorem dX10_copy_51 : decode cX10_copy 51 = .ok (.aload_n 1, 1) := by decide +kernel
theorem dX10_copy_52 : decode cX10_copy 52 = .ok (.getfield 26, 3) := by decide +kernel
theorem dX10_copy_55 : decode cX10_copy 55 = .ok (.putfield 26, 3) := by decide +kernel
theorem dX10_copy_58 : decode cX10_copy 58 = .ok (.return_, 1) := by decide +kernel
theorem dX10_swapPlace_0 : decode cX10_swapPlace 0 = .ok (.aload_n 0, 1) := by decide +kernel
theorem dX10_swapPlace_1 : decode cX10_swapPlace 1 = .ok (.getfield 19, 3) := by decide +kernel
theorem dX10_swapPlace_4 : decode cX10_swapPlace 4 = .ok (.ifCond .eq 14, 3) := by decide +kernel
theorem dX10_swapPlace_7 : decode cX10_swapPlace 7 = .ok (.aload_n 1, 1) := by decide +kernel
theorem dX10_swapPlace_8 : decode cX10_swapPlace 8 = .ok (.getfield 29, 3) := by decide +kernel
theorem dX10_swapPlace_11 : decode cX10_swapPlace 11 = .ok (.iconst 1, 1) := by decide +kernel
theorem dX10_swapPlace_12 : decode cX10_swapPlace 12 = .ok (.isub, 1) := by decide +kernel
theorem dX10_swapPlace_13 : decode cX10_swapPlace 13 = .ok (.iload_n 2, 1) := by decide +kernel
theorem dX10_swapPlace_14 : decode cX10_swapPlace 14 = .ok (.isub, 1) := by decide +kernel
theorem dX10_swapPlace_15 : decode cX10_swapPlace 15 = .ok (.goto 4, 3) := by decide +kernel
theorem dX10_swapPlace_18 : decode cX10_swapPlace 18 = .ok (.iload_n 2, 1) := by decide +kernel
theorem dX10_swapPlace_19 : decode cX10_swapPlace 19 = .ok (.ireturn, 1) := by decide +kernel
theorem dX10_drawn_0 : decode cX10_drawn 0 = .ok (.iconst 0, 1) := by decide +kernel
theorem dX10_drawn_1 : decode cX10_drawn 1 = .ok (.istore_n 1, 1) := by decide +kernel
theorem dX10_drawn_2 : decode cX10_drawn 2 = .ok (.iconst 0, 1) := by decide +kernel
theorem dX10_drawn_3 : decode cX10_drawn 3 = .ok (.istore_n 2, 1) := by decide +kernel
theorem dX10_drawn_4 : decode cX10_drawn 4 = .ok (.iload_n 2, 1) := by decide +kernel
theorem dX10_drawn_5 : decode cX10_drawn 5 = .ok (.bipush 6, 2) := by decide +kernel
theorem dX10_drawn_7 : decode cX10_drawn 7 = .ok (.if_icmp .ge 18, 3) := by decide +kernel
theorem dX10_drawn_10 : decode cX10_drawn 10 = .ok (.iload_n 1, 1) := by decide +kernel
theorem dX10_drawn_11 : decode cX10_drawn 11 = .ok (.aload_n 0, 1) := by decide +kernel
theorem dX10_drawn_12 : decode cX10_drawn 12 = .ok (.getfield 9, 3) := by decide +kernel
theorem dX10_drawn_15 : decode cX10_drawn 15 = .ok (.iload_n 2, 1) := by decide +kernel
theorem dX10_drawn_16 : decode cX10_drawn 16 = .ok (.iaload, 1) := by decide +kernel
theorem dX10_drawn_17 : decode cX10_drawn 17 = .ok (.ior, 1) := by decide +kernel
theorem dX10_drawn_18 : decode cX10_drawn 18 = .ok (.istore_n 1, 1) := by decide +kernel
theorem dX10_drawn_19 : decode cX10_drawn 19 = .ok (.iinc 2 1, 3) := by decide +kernel
theorem dX10_drawn_22 : decode cX10_drawn 22 = .ok (.goto (-18), 3) := by decide +kernel
theorem dX10_drawn_25 : decode cX10_drawn 25 = .ok (.iload_n 1, 1) := by decide +kernel
theorem dX10_drawn_26 : decode cX10_drawn 26 = .ok (.ireturn, 1) := by decide +kernel
theorem dX10_holds_0 : decode cX10_holds 0 = .ok (.iload_n 1, 1) := by decide +kernel
theorem dX10_holds_1 : decode cX10_holds 1 = .ok (.ifCond .lt 27, 3) := by decide +kernel
theorem dX10_holds_4 : decode cX10_holds 4 = .ok (.iload_n 1, 1) := by decide +kernel
theorem dX10_holds_5 : decode cX10_holds 5 = .ok (.bipush 6, 2) := by decide +kernel
theorem dX10_holds_7 : decode cX10_holds 7 = .ok (.if_icmp .ge 21, 3) := by decide +kernel
theorem dX10_holds_10 : decode cX10_holds 10 = .ok (.aload_n 0, 1) := by decide +kernel
theorem dX10_holds_11 : decode cX10_holds 11 = .ok (.getfield 9, 3) := by decide +kernel
theorem dX10_holds_14 : decode cX10_holds 14 = .ok (.iload_n 1, 1) := by decide +kernel
theorem dX10_holds_15 : decode cX10_holds 15 = .ok (.iaload, 1) := by decide +kernel
theorem dX10_holds_16 : decode cX10_holds 16 = .ok (.iload_n 2, 1) := by decide +kernel
theorem dX10_holds_17 : decode cX10_holds 17 = .ok (.ishr, 1) := by decide +kernel
theorem dX10_holds_18 : decode cX10_holds 18 = .ok (.iconst 1, 1) := by decide +kernel
theorem dX10_holds_19 : decode cX10_holds 19 = .ok (.iand, 1) := by decide +kernel
theorem dX10_holds_20 : decode cX10_holds 20 = .ok (.iconst 1, 1) := by decide +kernel
theorem dX10_holds_21 : decode cX10_holds 21 = .ok (.if_icmp .ne 7, 3) := by decide +kernel
theorem dX10_holds_24 : decode cX10_holds 24 = .ok (.iconst 1, 1) := by decide +kernel
theorem dX10_holds_25 : decode cX10_holds 25 = .ok (.goto 4, 3) := by decide +kernel
theorem dX10_holds_28 : decode cX10_holds 28 = .ok (.iconst 0, 1) := by decide +kernel
theorem dX10_holds_29 : decode cX10_holds 29 = .ok (.ireturn, 1) := by decide +kernel
theorem dX10_holderOf_0 : decode cX10_holderOf 0 = .ok (.iconst 0, 1) := by decide +kernel
theorem dX10_holderOf_1 : decode cX10_holderOf 1 = .ok (.istore_n 2, 1) := by decide +kernel
theorem dX10_holderOf_2 : decode cX10_holderOf 2 = .ok (.iload_n 2, 1) := by decide +kernel
theorem dX10_holderOf_3 : decode cX10_holderOf 3 = .ok (.bipush 6, 2) := by decide +kernel
theorem dX10_holderOf_5 : decode cX10_holderOf 5 = .ok (.if_icmp .ge 20, 3) := by decide +kernel
theorem dX10_holderOf_8 : decode cX10_holderOf 8 = .ok (.aload_n 0, 1) := by decide +kernel
theorem dX10_holderOf_9 : decode cX10_holderOf 9 = .ok (.iload_n 2, 1) := by decide +kernel
theorem dX10_holderOf_10 : decode cX10_holderOf 10 = .ok (.iload_n 1, 1) := by decide +kernel
theorem dX10_holderOf_11 : decode cX10_holderOf 11 = .ok (.invokevirtual 34, 3) := by decide +kernel
theorem dX10_holderOf_14 : decode cX10_holderOf 14 = .ok (.ifCond .eq 5, 3) := by decide +kernel
theorem dX10_holderOf_17 : decode cX10_holderOf 17 = .ok (.iload_n 2, 1) := by decide +kernel
theorem dX10_holderOf_18 : decode cX10_holderOf 18 = .ok (.ireturn, 1) := by decide +kernel
theorem dX10_holderOf_19 : decode cX10_holderOf 19 = .ok (.iinc 2 1, 3) := by decide +kernel
theorem dX10_holderOf_22 : decode cX10_holderOf 22 = .ok (.goto (-20), 3) := by decide +kernel
theorem dX10_holderOf_25 : decode cX10_holderOf 25 = .ok (.iconst (-1), 1) := by decide +kernel
theorem dX10_holderOf_26 : decode cX10_holderOf 26 = .ok (.ireturn, 1) := by decide +kernel
theorem dX10_showAt_0 : decode cX10_showAt 0 = .ok (.iload_n 2, 1) := by decide +kernel
theorem dX10_showAt_1 : decode cX10_showAt 1 = .ok (.ifCond .lt 41, 3) := by decide +kernel
theorem dX10_showAt_4 : decode cX10_showAt 4 = .ok (.iload_n 2, 1) := by decide +kernel
theorem dX10_showAt_5 : decode cX10_showAt 5 = .ok (.bipush 6, 2) := by decide +kernel
theorem dX10_showAt_7 : decode cX10_showAt 7 = .ok (.if_icmp .ge 35, 3) := by decide +kernel
theorem dX10_showAt_10 : decode cX10_showAt 10 = .ok (.aload_n 1, 1) := by decide +kernel
theorem dX10_showAt_11 : decode cX10_showAt 11 = .ok (.iload_n 2, 1) := by decide +kernel
theorem dX10_showAt_12 : decode cX10_showAt 12 = .ok (.aload_n 0, 1) := by decide +kernel
theorem dX10_showAt_13 : decode cX10_showAt 13 = .ok (.getfield 15, 3) := by decide +kernel
theorem dX10_showAt_16 : decode cX10_showAt 16 = .ok (.invokevirtual 38, 3) := by decide +kernel
theorem dX10_showAt_19 : decode cX10_showAt 19 = .ok (.istore_n 3, 1) := by decide +kernel
theorem dX10_showAt_20 : decode cX10_showAt 20 = .ok (.aload_n 0, 1) := by decide +kernel
theorem dX10_showAt_21 : decode cX10_showAt 21 = .ok (.getfield 9, 3) := by decide +kernel
theorem dX10_showAt_24 : decode cX10_showAt 24 = .ok (.iload_n 2, 1) := by decide +kernel
theorem dX10_showAt_25 : decode cX10_showAt 25 = .ok (.dup2, 1) := by decide +kernel
theorem dX10_showAt_26 : decode cX10_showAt 26 = .ok (.iaload, 1) := by decide +kernel
theorem dX10_showAt_27 : decode cX10_showAt 27 = .ok (.iload_n 3, 1) := by decide +kernel
theorem dX10_showAt_28 : decode cX10_showAt 28 = .ok (.ior, 1) := by decide +kernel
theorem dX10_showAt_29 : decode cX10_showAt 29 = .ok (.iastore, 1) := by decide +kernel
theorem dX10_showAt_30 : decode cX10_showAt 30 = .ok (.aload_n 0, 1) := by decide +kernel
theorem dX10_showAt_31 : decode cX10_showAt 31 = .ok (.dup, 1) := by decide +kernel
theorem dX10_showAt_32 : decode cX10_showAt 32 = .ok (.getfield 15, 3) := by decide +kernel
theorem dX10_showAt_35 : decode cX10_showAt 35 = .ok (.iload_n 3, 1) := by decide +kernel
theorem dX10_showAt_36 : decode cX10_showAt 36 = .ok (.iconst (-1), 1) := by decide +kernel
theorem dX10_showAt_37 : decode cX10_showAt 37 = .ok (.ixor, 1) := by decide +kernel
theorem dX10_showAt_38 : decode cX10_showAt 38 = .ok (.iand, 1) := by decide +kernel
theorem dX10_showAt_39 : decode cX10_showAt 39 = .ok (.putfield 15, 3) := by decide +kernel
theorem dX10_showAt_42 : decode cX10_showAt 42 = .ok (.return_, 1) := by decide +kernel
theorem dX10_showNext_0 : decode cX10_showNext 0 = .ok (.aload_n 0, 1) := by decide +kernel
theorem dX10_showNext_1 : decode cX10_showNext 1 = .ok (.aload_n 1, 1) := by decide +kernel
theorem dX10_showNext_2 : decode cX10_showNext 2 = .ok (.aload_n 0, 1) := by decide +kernel
theorem dX10_showNext_3 : decode cX10_showNext 3 = .ok (.getfield 23, 3) := by decide +kernel
theorem dX10_showNext_6 : decode cX10_showNext 6 = .ok (.invokevirtual 42, 3) := by decide +kernel
theorem dX10_showNext_9 : decode cX10_showNext 9 = .ok (.aload_n 0, 1) := by decide +kernel
theorem dX10_showNext_10 : decode cX10_showNext 10 = .ok (.aload_n 1, 1) := by decide +kernel
theorem dX10_showNext_11 : decode cX10_showNext 11 = .ok (.aload_n 0, 1) := by decide +kernel
theorem dX10_showNext_12 : decode cX10_showNext 12 = .ok (.getfield 23, 3) := by decide +kernel
theorem dX10_showNext_15 : decode cX10_showNext 15 = .ok (.invokevirtual 46, 3) := by decide +kernel
theorem dX10_showNext_18 : decode cX10_showNext 18 = .ok (.iconst 1, 1) := by decide +kernel
theorem dX10_showNext_19 : decode cX10_showNext 19 = .ok (.iadd, 1) := by decide +kernel
theorem dX10_showNext_20 : decode cX10_showNext 20 = .ok (.istore_n 2, 1) := by decide +kernel
theorem dX10_showNext_21 : decode cX10_showNext 21 = .ok (.iload_n 2, 1) := by decide +kernel
theorem dX10_showNext_22 : decode cX10_showNext 22 = .ok (.aload_n 1, 1) := by decide +kernel
theorem dX10_showNext_23 : decode cX10_showNext 23 = .ok (.getfield 29, 3) := by decide +kernel
theorem dX10_showNext_26 : decode cX10_showNext 26 = .ok (.if_icmp .lt 15, 3) := by decide +kernel
theorem dX10_showNext_29 : decode cX10_showNext 29 = .ok (.iconst 0, 1) := by decide +kernel
theorem dX10_showNext_30 : decode cX10_showNext 30 = .ok (.istore_n 2, 1) := by decide +kernel
theorem dX10_showNext_31 : decode cX10_showNext 31 = .ok (.aload_n 0, 1) := by decide +kernel
theorem dX10_showNext_32 : decode cX10_showNext 32 = .ok (.dup, 1) := by decide +kernel
theorem dX10_showNext_33 : decode cX10_showNext 33 = .ok (.getfield 26, 3) := by decide +kernel
theorem dX10_showNext_36 : decode cX10_showNext 36 = .ok (.iconst 1, 1) := by decide +kernel
theorem dX10_showNext_37 : decode cX10_showNext 37 = .ok (.iadd, 1) := by decide +kernel
theorem dX10_showNext_38 : decode cX10_showNext 38 = .ok (.putfield 26, 3) := by decide +kernel
theorem dX10_showNext_41 : decode cX10_showNext 41 = .ok (.aload_n 0, 1) := by decide +kernel
theorem dX10_showNext_42 : decode cX10_showNext 42 = .ok (.aload_n 0, 1) := by decide +kernel
theorem dX10_showNext_43 : decode cX10_showNext 43 = .ok (.aload_n 1, 1) := by decide +kernel
theorem dX10_showNext_44 : decode cX10_showNext 44 = .ok (.iload_n 2, 1) := by decide +kernel
theorem dX10_showNext_45 : decode cX10_showNext 45 = .ok (.invokevirtual 46, 3) := by decide +kernel
theorem dX10_showNext_48 : decode cX10_showNext 48 = .ok (.putfield 23, 3) := by decide +kernel
theorem dX10_showNext_51 : decode cX10_showNext 51 = .ok (.aload_n 0, 1) := by decide +kernel
theorem dX10_showNext_52 : decode cX10_showNext 52 = .ok (.getfield 15, 3) := by decide +kernel
theorem dX10_showNext_55 : decode cX10_showNext 55 = .ok (.ireturn, 1) := by decide +kernel
theorem dX10_giveBack_0 : decode cX10_giveBack 0 = .ok (.aload_n 0, 1) := by decide +kernel
theorem dX10_giveBack_1 : decode cX10_giveBack 1 = .ok (.iload_n 1, 1) := by decide +kernel
theorem dX10_giveBack_2 : decode cX10_giveBack 2 = .ok (.iload_n 2, 1) := by decide +kernel
theorem dX10_giveBack_3 : decode cX10_giveBack 3 = .ok (.invokevirtual 34, 3) := by decide +kernel
theorem dX10_giveBack_6 : decode cX10_giveBack 6 = .ok (.ifCond .eq 29, 3) := by decide +kernel
theorem dX10_giveBack_9 : decode cX10_giveBack 9 = .ok (.aload_n 0, 1) := by decide +kernel
theorem dX10_giveBack_10 : decode cX10_giveBack 10 = .ok (.getfield 9, 3) := by decide +kernel
theorem dX10_giveBack_13 : decode cX10_giveBack 13 = .ok (.iload_n 1, 1) := by decide +kernel
theorem dX10_giveBack_14 : decode cX10_giveBack 14 = .ok (.dup2, 1) := by decide +kernel
theorem dX10_giveBack_15 : decode cX10_giveBack 15 = .ok (.iaload, 1) := by decide +kernel
theorem dX10_giveBack_16 : decode cX10_giveBack 16 = .ok (.iconst 1, 1) := by decide +kernel
theorem dX10_giveBack_17 : decode cX10_giveBack 17 = .ok (.iload_n 2, 1) := by decide +kernel
theorem dX10_giveBack_18 : decode cX10_giveBack 18 = .ok (.ishl, 1) := by decide +kernel
theorem dX10_giveBack_19 : decode cX10_giveBack 19 = .ok (.iconst (-1), 1) := by decide +kernel
theorem dX10_giveBack_20 : decode cX10_giveBack 20 = .ok (.ixor, 1) := by decide +kernel
theorem dX10_giveBack_21 : decode cX10_giveBack 21 = .ok (.iand, 1) := by decide +kernel
theorem dX10_giveBack_22 : decode cX10_giveBack 22 = .ok (.iastore, 1) := by decide +kernel
theorem dX10_giveBack_23 : decode cX10_giveBack 23 = .ok (.aload_n 0, 1) := by decide +kernel
theorem dX10_giveBack_24 : decode cX10_giveBack 24 = .ok (.dup, 1) := by decide +kernel
theorem dX10_giveBack_25 : decode cX10_giveBack 25 = .ok (.getfield 15, 3) := by decide +kernel
theorem dX10_giveBack_28 : decode cX10_giveBack 28 = .ok (.iconst 1, 1) := by decide +kernel
theorem dX10_giveBack_29 : decode cX10_giveBack 29 = .ok (.iload_n 2, 1) := by decide +kernel
theorem dX10_giveBack_30 : decode cX10_giveBack 30 = .ok (.ishl, 1) := by decide +kernel
theorem dX10_giveBack_31 : decode cX10_giveBack 31 = .ok (.ior, 1) := by decide +kernel
theorem dX10_giveBack_32 : decode cX10_giveBack 32 = .ok (.putfield 15, 3) := by decide +kernel
theorem dX10_giveBack_35 : decode cX10_giveBack 35 = .ok (.return_, 1) := by decide +kernel
theorem dX10_handOver_0 : decode cX10_handOver 0 = .ok (.aload_n 0, 1) := by decide +kernel
theorem dX10_handOver_1 : decode cX10_handOver 1 = .ok (.iload_n 1, 1) := by decide +kernel
theorem dX10_handOver_2 : decode cX10_handOver 2 = .ok (.iload_n 3, 1) := by decide +kernel
theorem dX10_handOver_3 : decode cX10_handOver 3 = .ok (.invokevirtual 34, 3) := by decide +kernel
theorem dX10_handOver_6 : decode cX10_handOver 6 = .ok (.ifCond .eq 39, 3) := by decide +kernel
theorem dX10_handOver_9 : decode cX10_handOver 9 = .ok (.iload_n 2, 1) := by decide +kernel
theorem dX10_handOver_10 : decode cX10_handOver 10 = .ok (.ifCond .lt 35, 3) := by decide +kernel
theorem dX10_handOver_13 : decode cX10_handOver 13 = .ok (.iload_n 2, 1) := by decide +kernel
theorem dX10_handOver_14 : decode cX10_handOver 14 = .ok (.bipush 6, 2) := by decide +kernel
theorem dX10_handOver_16 : decode cX10_handOver 16 = .ok (.if_icmp .ge 29, 3) := by decide +kernel
theorem dX10_handOver_19 : decode cX10_handOver 19 = .ok (.aload_n 0, 1) := by decide +kernel
theorem dX10_handOver_20 : decode cX10_handOver 20 = .ok (.getfield 9, 3) := by decide +kernel
theorem dX10_handOver_23 : decode cX10_handOver 23 = .ok (.iload_n 1, 1) := by decide +kernel
theorem dX10_handOver_24 : decode cX10_handOver 24 = .ok (.dup2, 1) := by decide +kernel
theorem dX10_handOver_25 : decode cX10_handOver 25 = .ok (.iaload, 1) := by decide +kernel
theorem dX10_handOver_26 : decode cX10_handOver 26 = .ok (.iconst 1, 1) := by decide +kernel
theorem dX10_handOver_27 : decode cX10_handOver 27 = .ok (.iload_n 3, 1) := by decide +kernel
theorem dX10_handOver_28 : decode cX10_handOver 28 = .ok (.ishl, 1) := by decide +kernel
theorem dX10_handOver_29 : decode cX10_handOver 29 = .ok (.iconst (-1), 1) := by decide +kernel
theorem dX10_handOver_30 : decode cX10_handOver 30 = .ok (.ixor, 1) := by decide +kernel
theorem dX10_handOver_31 : decode cX10_handOver 31 = .ok (.iand, 1) := by decide +kernel
theorem dX10_handOver_32 : decode cX10_handOver 32 = .ok (.iastore, 1) := by decide +kernel
theorem dX10_handOver_33 : decode cX10_handOver 33 = .ok (.aload_n 0, 1) := by decide +kernel
theorem dX10_handOver_34 : decode cX10_handOver 34 = .ok (.getfield 9, 3) := by decide +kernel
theorem dX10_handOver_37 : decode cX10_handOver 37 = .ok (.iload_n 2, 1) := by decide +kernel
theorem dX10_handOver_38 : decode cX10_handOver 38 = .ok (.dup2, 1) := by decide +kernel
theorem dX10_handOver_39 : decode cX10_handOver 39 = .ok (.iaload, 1) := by decide +kernel
theorem dX10_handOver_40 : decode cX10_handOver 40 = .ok (.iconst 1, 1) := by decide +kernel
theorem dX10_handOver_41 : decode cX10_handOver 41 = .ok (.iload_n 3, 1) := by decide +kernel
theorem dX10_handOver_42 : decode cX10_handOver 42 = .ok (.ishl, 1) := by decide +kernel
theorem dX10_handOver_43 : decode cX10_handOver 43 = .ok (.ior, 1) := by decide +kernel
theorem dX10_handOver_44 : decode cX10_handOver 44 = .ok (.iastore, 1) := by decide +kernel
theorem dX10_handOver_45 : decode cX10_handOver 45 = .ok (.return_, 1) := by decide +kernel
theorem dX10_turnRound_0 : decode cX10_turnRound 0 = .ok (.aload_n 0, 1) := by decide +kernel
theorem dX10_turnRound_1 : decode cX10_turnRound 1 = .ok (.aload_n 0, 1) := by decide +kernel
theorem dX10_turnRound_2 : decode cX10_turnRound 2 = .ok (.getfield 19, 3) := by decide +kernel
theorem dX10_turnRound_5 : decode cX10_turnRound 5 = .ok (.ifCond .ne 7, 3) := by decide +kernel
theorem dX10_turnRound_8 : decode cX10_turnRound 8 = .ok (.iconst 1, 1) := by decide +kernel
theorem dX10_turnRound_9 : decode cX10_turnRound 9 = .ok (.goto 4, 3) := by decide +kernel
theorem dX10_turnRound_12 : decode cX10_turnRound 12 = .ok (.iconst 0, 1) := by decide +kernel
theorem dX10_turnRound_13 : decode cX10_turnRound 13 = .ok (.putfield 19, 3) := by decide +kernel
theorem dX10_turnRound_16 : decode cX10_turnRound 16 = .ok (.return_, 1) := by decide +kernel
theorem dJ6_bitCount_0f7a4_0 : decode cJ6_bitCount_0f7a4 0 = .ok (.iload_n 0, 1) := by decide +kernel
theorem dJ6_bitCount_0f7a4_1 : decode cJ6_bitCount_0f7a4 1 = .ok (.iload_n 0, 1) := by decide +kernel
theorem dJ6_bitCount_0f7a4_2 : decode cJ6_bitCount_0f7a4 2 = .ok (.iconst 1, 1) := by decide +kernel
theorem dJ6_bitCount_0f7a4_3 : decode cJ6_bitCount_0f7a4 3 = .ok (.iushr, 1) := by decide +kernel
theorem dJ6_bitCount_0f7a4_4 : decode cJ6_bitCount_0f7a4 4 = .ok (.ldc_w 265, 3) := by decide +kernel
theorem dJ6_bitCount_0f7a4_7 : decode cJ6_bitCount_0f7a4 7 = .ok (.iand, 1) := by decide +kernel
theorem dJ6_bitCount_0f7a4_8 : decode cJ6_bitCount_0f7a4 8 = .ok (.isub, 1) := by decide +kernel
theorem dJ6_bitCount_0f7a4_9 : decode cJ6_bitCount_0f7a4 9 = .ok (.istore_n 0, 1) := by decide +kernel
theorem dJ6_bitCount_0f7a4_10 : decode cJ6_bitCount_0f7a4 10 = .ok (.iload_n 0, 1) := by decide +kernel
theorem dJ6_bitCount_0f7a4_11 : decode cJ6_bitCount_0f7a4 11 = .ok (.ldc_w 266, 3) := by decide +kernel
theorem dJ6_bitCount_0f7a4_14 : decode cJ6_bitCount_0f7a4 14 = .ok (.iand, 1) := by decide +kernel
theorem dJ6_bitCount_0f7a4_15 : decode cJ6_bitCount_0f7a4 15 = .ok (.iload_n 0, 1) := by decide +kernel
theorem dJ6_bitCount_0f7a4_16 : decode cJ6_bitCount_0f7a4 16 = .ok (.iconst 2, 1) := by decide +kernel
theorem dJ6_bitCount_0f7a4_17 : decode cJ6_bitCount_0f7a4 17 = .ok (.iushr, 1) := by decide +kernel
theorem dJ6_bitCount_0f7a4_18 : decode cJ6_bitCount_0f7a4 18 = .ok (.ldc_w 266, 3) := by decide +kernel
theorem dJ6_bitCount_0f7a4_21 : decode cJ6_bitCount_0f7a4 21 = .ok (.iand, 1) := by decide +kernel
theorem dJ6_bitCount_0f7a4_22 : decode cJ6_bitCount_0f7a4 22 = .ok (.iadd, 1) := by decide +kernel
theorem dJ6_bitCount_0f7a4_23 : decode cJ6_bitCount_0f7a4 23 = .ok (.istore_n 0, 1) := by decide +kernel
theorem dJ6_bitCount_0f7a4_24 : decode cJ6_bitCount_0f7a4 24 = .ok (.iload_n 0, 1) := by decide +kernel
theorem dJ6_bitCount_0f7a4_25 : decode cJ6_bitCount_0f7a4 25 = .ok (.iload_n 0, 1) := by decide +kernel
theorem dJ6_bitCount_0f7a4_26 : decode cJ6_bitCount_0f7a4 26 = .ok (.iconst 4, 1) := by decide +kernel
theorem dJ6_bitCount_0f7a4_27 : decode cJ6_bitCount_0f7a4 27 = .ok (.iushr, 1) := by decide +kernel
theorem dJ6_bitCount_0f7a4_28 : decode cJ6_bitCount_0f7a4 28 = .ok (.iadd, 1) := by decide +kernel
theorem dJ6_bitCount_0f7a4_29 : decode cJ6_bitCount_0f7a4 29 = .ok (.ldc_w 267, 3) := by decide +kernel
theorem dJ6_bitCount_0f7a4_32 : decode cJ6_bitCount_0f7a4 32 = .ok (.iand, 1) := by decide +kernel
theorem dJ6_bitCount_0f7a4_33 : decode cJ6_bitCount_0f7a4 33 = .ok (.istore_n 0, 1) := by decide +kernel
theorem dJ6_bitCount_0f7a4_34 : decode cJ6_bitCount_0f7a4 34 = .ok (.iload_n 0, 1) := by decide +kernel
theorem dJ6_bitCount_0f7a4_35 : decode cJ6_bitCount_0f7a4 35 = .ok (.iload_n 0, 1) := by decide +kernel
theorem dJ6_bitCount_0f7a4_36 : decode cJ6_bitCount_0f7a4 36 = .ok (.bipush 8, 2) := by decide +kernel
theorem dJ6_bitCount_0f7a4_38 : decode cJ6_bitCount_0f7a4 38 = .ok (.iushr, 1) := by decide +kernel
theorem dJ6_bitCount_0f7a4_39 : decode cJ6_bitCount_0f7a4 39 = .ok (.iadd, 1) := by decide +kernel
theorem dJ6_bitCount_0f7a4_40 : decode cJ6_bitCount_0f7a4 40 = .ok (.istore_n 0, 1) := by decide +kernel
theorem dJ6_bitCount_0f7a4_41 : decode cJ6_bitCount_0f7a4 41 = .ok (.iload_n 0, 1) := by decide +kernel
theorem dJ6_bitCount_0f7a4_42 : decode cJ6_bitCount_0f7a4 42 = .ok (.iload_n 0, 1) := by decide +kernel
theorem dJ6_bitCount_0f7a4_43 : decode cJ6_bitCount_0f7a4 43 = .ok (.bipush 16, 2) := by decide +kernel
theorem dJ6_bitCount_0f7a4_45 : decode cJ6_bitCount_0f7a4 45 = .ok (.iushr, 1) := by decide +kernel
theorem dJ6_bitCount_0f7a4_46 : decode cJ6_bitCount_0f7a4 46 = .ok (.iadd, 1) := by decide +kernel
theorem dJ6_bitCount_0f7a4_47 : decode cJ6_bitCount_0f7a4 47 = .ok (.istore_n 0, 1) := by decide +kernel
theorem dJ6_bitCount_0f7a4_48 : decode cJ6_bitCount_0f7a4 48 = .ok (.iload_n 0, 1) := by decide +kernel
theorem dJ6_bitCount_0f7a4_49 : decode cJ6_bitCount_0f7a4 49 = .ok (.bipush 63, 2) := by decide +kernel
theorem dJ6_bitCount_0f7a4_51 : decode cJ6_bitCount_0f7a4 51 = .ok (.iand, 1) := by decide +kernel
theorem dJ6_bitCount_0f7a4_52 : decode cJ6_bitCount_0f7a4 52 = .ok (.ireturn, 1) := by decide +kernel
