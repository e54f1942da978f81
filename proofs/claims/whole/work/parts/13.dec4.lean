/-! decode rows, printed with the claim -/
theorem dX12_makesSense_4 : decode cX12_makesSense 4 = .ok (.getfield 13, 3) := by decide +kernel
theorem dX12_makesSense_7 : decode cX12_makesSense 7 = .ok (.iconst 0, 1) := by decide +kernel
theorem dX12_makesSense_8 : decode cX12_makesSense 8 = .ok (.iaload, 1) := by decide +kernel
theorem dX12_makesSense_9 : decode cX12_makesSense 9 = .ok (.if_icmp .ge 39, 3) := by decide +kernel
theorem dX12_makesSense_12 : decode cX12_makesSense 12 = .ok (.iload_n 1, 1) := by decide +kernel
theorem dX12_makesSense_13 : decode cX12_makesSense 13 = .ok (.iload_n 2, 1) := by decide +kernel
theorem dX12_makesSense_14 : decode cX12_makesSense 14 = .ok (.ishr, 1) := by decide +kernel
theorem dX12_makesSense_15 : decode cX12_makesSense 15 = .ok (.iconst 1, 1) := by decide +kernel
theorem dX12_makesSense_16 : decode cX12_makesSense 16 = .ok (.iand, 1) := by decide +kernel
theorem dX12_makesSense_17 : decode cX12_makesSense 17 = .ok (.iconst 1, 1) := by decide +kernel
theorem dX12_makesSense_18 : decode cX12_makesSense 18 = .ok (.if_icmp .ne 24, 3) := by decide +kernel
theorem dX12_makesSense_21 : decode cX12_makesSense 21 = .ok (.aload_n 0, 1) := by decide +kernel
theorem dX12_makesSense_22 : decode cX12_makesSense 22 = .ok (.getfield 29, 3) := by decide +kernel
theorem dX12_makesSense_25 : decode cX12_makesSense 25 = .ok (.iload_n 2, 1) := by decide +kernel
theorem dX12_makesSense_26 : decode cX12_makesSense 26 = .ok (.iaload, 1) := by decide +kernel
theorem dX12_makesSense_27 : decode cX12_makesSense 27 = .ok (.iload_n 1, 1) := by decide +kernel
theorem dX12_makesSense_28 : decode cX12_makesSense 28 = .ok (.iconst 1, 1) := by decide +kernel
theorem dX12_makesSense_29 : decode cX12_makesSense 29 = .ok (.iload_n 2, 1) := by decide +kernel
theorem dX12_makesSense_30 : decode cX12_makesSense 30 = .ok (.ishl, 1) := by decide +kernel
theorem dX12_makesSense_31 : decode cX12_makesSense 31 = .ok (.iconst 1, 1) := by decide +kernel
theorem dX12_makesSense_32 : decode cX12_makesSense 32 = .ok (.isub, 1) := by decide +kernel
theorem dX12_makesSense_33 : decode cX12_makesSense 33 = .ok (.iand, 1) := by decide +kernel
theorem dX12_makesSense_34 : decode cX12_makesSense 34 = .ok (.iconst (-1), 1) := by decide +kernel
theorem dX12_makesSense_35 : decode cX12_makesSense 35 = .ok (.ixor, 1) := by decide +kernel
theorem dX12_makesSense_36 : decode cX12_makesSense 36 = .ok (.iand, 1) := by decide +kernel
theorem dX12_makesSense_37 : decode cX12_makesSense 37 = .ok (.ifCond .eq 5, 3) := by decide +kernel
theorem dX12_makesSense_40 : decode cX12_makesSense 40 = .ok (.iconst 0, 1) := by decide +kernel
theorem dX12_makesSense_41 : decode cX12_makesSense 41 = .ok (.ireturn, 1) := by decide +kernel
theorem dX12_makesSense_42 : decode cX12_makesSense 42 = .ok (.iinc 2 1, 3) := by decide +kernel
theorem dX12_makesSense_45 : decode cX12_makesSense 45 = .ok (.goto (-43), 3) := by decide +kernel
theorem dX12_makesSense_48 : decode cX12_makesSense 48 = .ok (.iconst 1, 1) := by decide +kernel
theorem dX12_makesSense_49 : decode cX12_makesSense 49 = .ok (.ireturn, 1) := by decide +kernel
theorem dX12_drawerOf_0 : decode cX12_drawerOf 0 = .ok (.iconst 0, 1) := by decide +kernel
theorem dX12_drawerOf_1 : decode cX12_drawerOf 1 = .ok (.istore_n 2, 1) := by decide +kernel
theorem dX12_drawerOf_2 : decode cX12_drawerOf 2 = .ok (.iconst 0, 1) := by decide +kernel
theorem dX12_drawerOf_3 : decode cX12_drawerOf 3 = .ok (.istore_n 3, 1) := by decide +kernel
theorem dX12_drawerOf_4 : decode cX12_drawerOf 4 = .ok (.iload_n 3, 1) := by decide +kernel
theorem dX12_drawerOf_5 : decode cX12_drawerOf 5 = .ok (.aload_n 0, 1) := by decide +kernel
theorem dX12_drawerOf_6 : decode cX12_drawerOf 6 = .ok (.getfield 13, 3) := by decide +kernel
theorem dX12_drawerOf_9 : decode cX12_drawerOf 9 = .ok (.iconst 0, 1) := by decide +kernel
theorem dX12_drawerOf_10 : decode cX12_drawerOf 10 = .ok (.iaload, 1) := by decide +kernel
theorem dX12_drawerOf_11 : decode cX12_drawerOf 11 = .ok (.if_icmp .ge 34, 3) := by decide +kernel
theorem dX12_drawerOf_14 : decode cX12_drawerOf 14 = .ok (.iload_n 2, 1) := by decide +kernel
theorem dX12_drawerOf_15 : decode cX12_drawerOf 15 = .ok (.aload_n 0, 1) := by decide +kernel
theorem dX12_drawerOf_16 : decode cX12_drawerOf 16 = .ok (.getfield 105, 3) := by decide +kernel
theorem dX12_drawerOf_19 : decode cX12_drawerOf 19 = .ok (.bipush 9, 2) := by decide +kernel
theorem dX12_drawerOf_21 : decode cX12_drawerOf 21 = .ok (.iload_n 3, 1) := by decide +kernel
theorem dX12_drawerOf_22 : decode cX12_drawerOf 22 = .ok (.iadd, 1) := by decide +kernel
theorem dX12_drawerOf_23 : decode cX12_drawerOf 23 = .ok (.iaload, 1) := by decide +kernel
theorem dX12_drawerOf_24 : decode cX12_drawerOf 24 = .ok (.iload_n 1, 1) := by decide +kernel
theorem dX12_drawerOf_25 : decode cX12_drawerOf 25 = .ok (.iconst 1, 1) := by decide +kernel
theorem dX12_drawerOf_26 : decode cX12_drawerOf 26 = .ok (.iadd, 1) := by decide +kernel
theorem dX12_drawerOf_27 : decode cX12_drawerOf 27 = .ok (.if_icmp .ne 9, 3) := by decide +kernel
theorem dX12_drawerOf_30 : decode cX12_drawerOf 30 = .ok (.iconst 1, 1) := by decide +kernel
theorem dX12_drawerOf_31 : decode cX12_drawerOf 31 = .ok (.iload_n 3, 1) := by decide +kernel
theorem dX12_drawerOf_32 : decode cX12_drawerOf 32 = .ok (.ishl, 1) := by decide +kernel
theorem dX12_drawerOf_33 : decode cX12_drawerOf 33 = .ok (.goto 4, 3) := by decide +kernel
theorem dX12_drawerOf_36 : decode cX12_drawerOf 36 = .ok (.iconst 0, 1) := by decide +kernel
theorem dX12_drawerOf_37 : decode cX12_drawerOf 37 = .ok (.ior, 1) := by decide +kernel
theorem dX12_drawerOf_38 : decode cX12_drawerOf 38 = .ok (.istore_n 2, 1) := by decide +kernel
theorem dX12_drawerOf_39 : decode cX12_drawerOf 39 = .ok (.iinc 3 1, 3) := by decide +kernel
theorem dX12_drawerOf_42 : decode cX12_drawerOf 42 = .ok (.goto (-38), 3) := by decide +kernel
theorem dX12_drawerOf_45 : decode cX12_drawerOf 45 = .ok (.iload_n 2, 1) := by decide +kernel
theorem dX12_drawerOf_46 : decode cX12_drawerOf 46 = .ok (.ireturn, 1) := by decide +kernel
theorem dX12_inDrawers_0 : decode cX12_inDrawers 0 = .ok (.iconst 0, 1) := by decide +kernel
theorem dX12_inDrawers_1 : decode cX12_inDrawers 1 = .ok (.istore_n 1, 1) := by decide +kernel
theorem dX12_inDrawers_2 : decode cX12_inDrawers 2 = .ok (.iconst 0, 1) := by decide +kernel
theorem dX12_inDrawers_3 : decode cX12_inDrawers 3 = .ok (.istore_n 2, 1) := by decide +kernel
theorem dX12_inDrawers_4 : decode cX12_inDrawers 4 = .ok (.iload_n 2, 1) := by decide +kernel
theorem dX12_inDrawers_5 : decode cX12_inDrawers 5 = .ok (.aload_n 0, 1) := by decide +kernel
theorem dX12_inDrawers_6 : decode cX12_inDrawers 6 = .ok (.getfield 13, 3) := by decide +kernel
theorem dX12_inDrawers_9 : decode cX12_inDrawers 9 = .ok (.iconst 0, 1) := by decide +kernel
theorem dX12_inDrawers_10 : decode cX12_inDrawers 10 = .ok (.iaload, 1) := by decide +kernel
theorem dX12_inDrawers_11 : decode cX12_inDrawers 11 = .ok (.if_icmp .ge 31, 3) := by decide +kernel
theorem dX12_inDrawers_14 : decode cX12_inDrawers 14 = .ok (.iload_n 1, 1) := by decide +kernel
theorem dX12_inDrawers_15 : decode cX12_inDrawers 15 = .ok (.aload_n 0, 1) := by decide +kernel
theorem dX12_inDrawers_16 : decode cX12_inDrawers 16 = .ok (.getfield 105, 3) := by decide +kernel
theorem dX12_inDrawers_19 : decode cX12_inDrawers 19 = .ok (.bipush 9, 2) := by decide +kernel
theorem dX12_inDrawers_21 : decode cX12_inDrawers 21 = .ok (.iload_n 2, 1) := by decide +kernel
theorem dX12_inDrawers_22 : decode cX12_inDrawers 22 = .ok (.iadd, 1) := by decide +kernel
theorem dX12_inDrawers_23 : decode cX12_inDrawers 23 = .ok (.iaload, 1) := by decide +kernel
theorem dX12_inDrawers_24 : decode cX12_inDrawers 24 = .ok (.ifCond .le 9, 3) := by decide +kernel
theorem dX12_inDrawers_27 : decode cX12_inDrawers 27 = .ok (.iconst 1, 1) := by decide +kernel
theorem dX12_inDrawers_28 : decode cX12_inDrawers 28 = .ok (.iload_n 2, 1) := by decide +kernel
theorem dX12_inDrawers_29 : decode cX12_inDrawers 29 = .ok (.ishl, 1) := by decide +kernel
theorem dX12_inDrawers_30 : decode cX12_inDrawers 30 = .ok (.goto 4, 3) := by decide +kernel
theorem dX12_inDrawers_33 : decode cX12_inDrawers 33 = .ok (.iconst 0, 1) := by decide +kernel
theorem dX12_inDrawers_34 : decode cX12_inDrawers 34 = .ok (.ior, 1) := by decide +kernel
theorem dX12_inDrawers_35 : decode cX12_inDrawers 35 = .ok (.istore_n 1, 1) := by decide +kernel
theorem dX12_inDrawers_36 : decode cX12_inDrawers 36 = .ok (.iinc 2 1, 3) := by decide +kernel
theorem dX12_inDrawers_39 : decode cX12_inDrawers 39 = .ok (.goto (-35), 3) := by decide +kernel
theorem dX12_inDrawers_42 : decode cX12_inDrawers 42 = .ok (.iload_n 1, 1) := by decide +kernel
theorem dX12_inDrawers_43 : decode cX12_inDrawers 43 = .ok (.ireturn, 1) := by decide +kernel
theorem dX12_cuts_0 : decode cX12_cuts 0 = .ok (.aload_n 0, 1) := by decide +kernel
theorem dX12_cuts_1 : decode cX12_cuts 1 = .ok (.iload_n 1, 1) := by decide +kernel
theorem dX12_cuts_2 : decode cX12_cuts 2 = .ok (.aload_n 0, 1) := by decide +kernel
theorem dX12_cuts_3 : decode cX12_cuts 3 = .ok (.getfield 105, 3) := by decide +kernel
theorem dX12_cuts_6 : decode cX12_cuts 6 = .ok (.iconst 0, 1) := by decide +kernel
theorem dX12_cuts_7 : decode cX12_cuts 7 = .ok (.iaload, 1) := by decide +kernel
theorem dX12_cuts_8 : decode cX12_cuts 8 = .ok (.invokevirtual 340, 3) := by decide +kernel
theorem dX12_cuts_11 : decode cX12_cuts 11 = .ok (.istore_n 2, 1) := by decide +kernel
theorem dX12_cuts_12 : decode cX12_cuts 12 = .ok (.aload_n 0, 1) := by decide +kernel
theorem dX12_cuts_13 : decode cX12_cuts 13 = .ok (.getfield 105, 3) := by decide +kernel
theorem dX12_cuts_16 : decode cX12_cuts 16 = .ok (.iconst 0, 1) := by decide +kernel
theorem dX12_cuts_17 : decode cX12_cuts 17 = .ok (.dup2, 1) := by decide +kernel
theorem dX12_cuts_18 : decode cX12_cuts 18 = .ok (.iaload, 1) := by decide +kernel
theorem dX12_cuts_19 : decode cX12_cuts 19 = .ok (.iload_n 2, 1) := by decide +kernel
theorem dX12_cuts_20 : decode cX12_cuts 20 = .ok (.iconst (-1), 1) := by decide +kernel
theorem dX12_cuts_21 : decode cX12_cuts 21 = .ok (.ixor, 1) := by decide +kernel
theorem dX12_cuts_22 : decode cX12_cuts 22 = .ok (.iand, 1) := by decide +kernel
theorem dX12_cuts_23 : decode cX12_cuts 23 = .ok (.iastore, 1) := by decide +kernel
theorem dX12_cuts_24 : decode cX12_cuts 24 = .ok (.iconst 0, 1) := by decide +kernel
theorem dX12_cuts_25 : decode cX12_cuts 25 = .ok (.istore_n 3, 1) := by decide +kernel
theorem dX12_cuts_26 : decode cX12_cuts 26 = .ok (.iload_n 3, 1) := by decide +kernel
theorem dX12_cuts_27 : decode cX12_cuts 27 = .ok (.aload_n 0, 1) := by decide +kernel
theorem dX12_cuts_28 : decode cX12_cuts 28 = .ok (.getfield 13, 3) := by decide +kernel
theorem dX12_cuts_31 : decode cX12_cuts 31 = .ok (.iconst 0, 1) := by decide +kernel
theorem dX12_cuts_32 : decode cX12_cuts 32 = .ok (.iaload, 1) := by decide +kernel
theorem dX12_cuts_33 : decode cX12_cuts 33 = .ok (.if_icmp .ge 30, 3) := by decide +kernel
theorem dX12_cuts_36 : decode cX12_cuts 36 = .ok (.iload_n 2, 1) := by decide +kernel
theorem dX12_cuts_37 : decode cX12_cuts 37 = .ok (.iload_n 3, 1) := by decide +kernel
theorem dX12_cuts_38 : decode cX12_cuts 38 = .ok (.ishr, 1) := by decide +kernel
theorem dX12_cuts_39 : decode cX12_cuts 39 = .ok (.iconst 1, 1) := by decide +kernel
theorem dX12_cuts_40 : decode cX12_cuts 40 = .ok (.iand, 1) := by decide +kernel
theorem dX12_cuts_41 : decode cX12_cuts 41 = .ok (.iconst 1, 1) := by decide +kernel
theorem dX12_cuts_42 : decode cX12_cuts 42 = .ok (.if_icmp .ne 15, 3) := by decide +kernel
theorem dX12_cuts_45 : decode cX12_cuts 45 = .ok (.aload_n 0, 1) := by decide +kernel
theorem dX12_cuts_46 : decode cX12_cuts 46 = .ok (.getfield 105, 3) := by decide +kernel
theorem dX12_cuts_49 : decode cX12_cuts 49 = .ok (.bipush 9, 2) := by decide +kernel
theorem dX12_cuts_51 : decode cX12_cuts 51 = .ok (.iload_n 3, 1) := by decide +kernel
theorem dX12_cuts_52 : decode cX12_cuts 52 = .ok (.iadd, 1) := by decide +kernel
theorem dX12_cuts_53 : decode cX12_cuts 53 = .ok (.iload_n 1, 1) := by decide +kernel
theorem dX12_cuts_54 : decode cX12_cuts 54 = .ok (.iconst 1, 1) := by decide +kernel
theorem dX12_cuts_55 : decode cX12_cuts 55 = .ok (.iadd, 1) := by decide +kernel
theorem dX12_cuts_56 : decode cX12_cuts 56 = .ok (.iastore, 1) := by decide +kernel
theorem dX12_cuts_57 : decode cX12_cuts 57 = .ok (.iinc 3 1, 3) := by decide +kernel
theorem dX12_cuts_60 : decode cX12_cuts 60 = .ok (.goto (-34), 3) := by decide +kernel
theorem dX12_cuts_63 : decode cX12_cuts 63 = .ok (.return_, 1) := by decide +kernel
theorem dX12_shows_0 : decode cX12_shows 0 = .ok (.aload_n 0, 1) := by decide +kernel
theorem dX12_shows_1 : decode cX12_shows 1 = .ok (.aload_n 0, 1) := by decide +kernel
theorem dX12_shows_2 : decode cX12_shows 2 = .ok (.getfield 105, 3) := by decide +kernel
theorem dX12_shows_5 : decode cX12_shows 5 = .ok (.iconst 3, 1) := by decide +kernel
theorem dX12_shows_6 : decode cX12_shows 6 = .ok (.aload_n 0, 1) := by decide +kernel
theorem dX12_shows_7 : decode cX12_shows 7 = .ok (.getfield 105, 3) := by decide +kernel
theorem dX12_shows_10 : decode cX12_shows 10 = .ok (.iconst 1, 1) := by decide +kernel
theorem dX12_shows_11 : decode cX12_shows 11 = .ok (.iaload, 1) := by decide +kernel
theorem dX12_shows_12 : decode cX12_shows 12 = .ok (.iadd, 1) := by decide +kernel
theorem dX12_shows_13 : decode cX12_shows 13 = .ok (.iaload, 1) := by decide +kernel
theorem dX12_shows_14 : decode cX12_shows 14 = .ok (.invokevirtual 344, 3) := by decide +kernel
theorem dX12_shows_17 : decode cX12_shows 17 = .ok (.aload_n 0, 1) := by decide +kernel
theorem dX12_shows_18 : decode cX12_shows 18 = .ok (.getfield 105, 3) := by decide +kernel
theorem dX12_shows_21 : decode cX12_shows 21 = .ok (.iconst 1, 1) := by decide +kernel
theorem dX12_shows_22 : decode cX12_shows 22 = .ok (.dup2, 1) := by decide +kernel
theorem dX12_shows_23 : decode cX12_shows 23 = .ok (.iaload, 1) := by decide +kernel
theorem dX12_shows_24 : decode cX12_shows 24 = .ok (.iconst 1, 1) := by decide +kernel
theorem dX12_shows_25 : decode cX12_shows 25 = .ok (.iadd, 1) := by decide +kernel
theorem dX12_shows_26 : decode cX12_shows 26 = .ok (.iastore, 1) := by decide +kernel
theorem dX12_shows_27 : decode cX12_shows 27 = .ok (.aload_n 0, 1) := by decide +kernel
theorem dX12_shows_28 : decode cX12_shows 28 = .ok (.getfield 105, 3) := by decide +kernel
theorem dX12_shows_31 : decode cX12_shows 31 = .ok (.iconst 1, 1) := by decide +kernel
theorem dX12_shows_32 : decode cX12_shows 32 = .ok (.iaload, 1) := by decide +kernel
theorem dX12_shows_33 : decode cX12_shows 33 = .ok (.aload_n 0, 1) := by decide +kernel
theorem dX12_shows_34 : decode cX12_shows 34 = .ok (.getfield 13, 3) := by decide +kernel
theorem dX12_shows_37 : decode cX12_shows 37 = .ok (.iconst 1, 1) := by decide +kernel
theorem dX12_shows_38 : decode cX12_shows 38 = .ok (.iaload, 1) := by decide +kernel
theorem dX12_shows_39 : decode cX12_shows 39 = .ok (.if_icmp .ge 4, 3) := by decide +kernel
theorem dX12_shows_42 : decode cX12_shows 42 = .ok (.return_, 1) := by decide +kernel
theorem dX12_shows_43 : decode cX12_shows 43 = .ok (.aload_n 0, 1) := by decide +kernel
theorem dX12_shows_44 : decode cX12_shows 44 = .ok (.getfield 105, 3) := by decide +kernel
theorem dX12_shows_47 : decode cX12_shows 47 = .ok (.iconst 1, 1) := by decide +kernel
theorem dX12_shows_48 : decode cX12_shows 48 = .ok (.iconst 0, 1) := by decide +kernel
theorem dX12_shows_49 : decode cX12_shows 49 = .ok (.iastore, 1) := by decide +kernel
theorem dX12_shows_50 : decode cX12_shows 50 = .ok (.aload_n 0, 1) := by decide +kernel
theorem dX12_shows_51 : decode cX12_shows 51 = .ok (.getfield 105, 3) := by decide +kernel
theorem dX12_shows_54 : decode cX12_shows 54 = .ok (.iconst 2, 1) := by decide +kernel
theorem dX12_shows_55 : decode cX12_shows 55 = .ok (.dup2, 1) := by decide +kernel
theorem dX12_shows_56 : decode cX12_shows 56 = .ok (.iaload, 1) := by decide +kernel
theorem dX12_shows_57 : decode cX12_shows 57 = .ok (.iconst 1, 1) := by decide +kernel
theorem dX12_shows_58 : decode cX12_shows 58 = .ok (.iadd, 1) := by decide +kernel
theorem dX12_shows_59 : decode cX12_shows 59 = .ok (.iastore, 1) := by decide +kernel
theorem dX12_shows_60 : decode cX12_shows 60 = .ok (.return_, 1) := by decide +kernel
theorem dX12_goesBack_0 : decode cX12_goesBack 0 = .ok (.aload_n 0, 1) := by decide +kernel
theorem dX12_goesBack_1 : decode cX12_goesBack 1 = .ok (.getfield 105, 3) := by decide +kernel
theorem dX12_goesBack_4 : decode cX12_goesBack 4 = .ok (.bipush 9, 2) := by decide +kernel
theorem dX12_goesBack_6 : decode cX12_goesBack 6 = .ok (.iload_n 1, 1) := by decide +kernel
theorem dX12_goesBack_7 : decode cX12_goesBack 7 = .ok (.iadd, 1) := by decide +kernel
theorem dX12_goesBack_8 : decode cX12_goesBack 8 = .ok (.iconst 0, 1) := by decide +kernel
theorem dX12_goesBack_9 : decode cX12_goesBack 9 = .ok (.iastore, 1) := by decide +kernel
theorem dX12_goesBack_10 : decode cX12_goesBack 10 = .ok (.aload_n 0, 1) := by decide +kernel
theorem dX12_goesBack_11 : decode cX12_goesBack 11 = .ok (.getfield 105, 3) := by decide +kernel
theorem dX12_goesBack_14 : decode cX12_goesBack 14 = .ok (.iconst 0, 1) := by decide +kernel
theorem dX12_goesBack_15 : decode cX12_goesBack 15 = .ok (.dup2, 1) := by decide +kernel
theorem dX12_goesBack_16 : decode cX12_goesBack 16 = .ok (.iaload, 1) := by decide +kernel
theorem dX12_goesBack_17 : decode cX12_goesBack 17 = .ok (.iconst 1, 1) := by decide +kernel
theorem dX12_goesBack_18 : decode cX12_goesBack 18 = .ok (.iload_n 1, 1) := by decide +kernel
theorem dX12_goesBack_19 : decode cX12_goesBack 19 = .ok (.ishl, 1) := by decide +kernel
theorem dX12_goesBack_20 : decode cX12_goesBack 20 = .ok (.ior, 1) := by decide +kernel
theorem dX12_goesBack_21 : decode cX12_goesBack 21 = .ok (.iastore, 1) := by decide +kernel
theorem dX12_goesBack_22 : decode cX12_goesBack 22 = .ok (.return_, 1) := by decide +kernel
theorem dX12_turns_0 : decode cX12_turns 0 = .ok (.aload_n 0, 1) := by decide +kernel
theorem dX12_turns_1 : decode cX12_turns 1 = .ok (.getfield 13, 3) := by decide +kernel
theorem dX12_turns_4 : decode cX12_turns 4 = .ok (.iconst 1, 1) := by decide +kernel
theorem dX12_turns_5 : decode cX12_turns 5 = .ok (.iaload, 1) := by decide +kernel
theorem dX12_turns_6 : decode cX12_turns 6 = .ok (.istore_n 1, 1) := by decide +kernel
theorem dX12_turns_7 : decode cX12_turns 7 = .ok (.iconst 0, 1) := by decide +kernel
theorem dX12_turns_8 : decode cX12_turns 8 = .ok (.istore_n 2, 1) := by decide +kernel
theorem dX12_turns_9 : decode cX12_turns 9 = .ok (.iload_n 2, 1) := by decide +kernel
theorem dX12_turns_10 : decode cX12_turns 10 = .ok (.iload_n 1, 1) := by decide +kernel
theorem dX12_turns_11 : decode cX12_turns 11 = .ok (.iconst 2, 1) := by decide +kernel
theorem dX12_turns_12 : decode cX12_turns 12 = .ok (.idiv, 1) := by decide +kernel
theorem dX12_turns_13 : decode cX12_turns 13 = .ok (.if_icmp .ge 51, 3) := by decide +kernel
theorem dX12_turns_16 : decode cX12_turns 16 = .ok (.aload_n 0, 1) := by decide +kernel
theorem dX12_turns_17 : decode cX12_turns 17 = .ok (.getfield 105, 3) := by decide +kernel
theorem dX12_turns_20 : decode cX12_turns 20 = .ok (.iconst 3, 1) := by decide +kernel
theorem dX12_turns_21 : decode cX12_turns 21 = .ok (.iload_n 2, 1) := by decide +kernel
theorem dX12_turns_22 : decode cX12_turns 22 = .ok (.iadd, 1) := by decide +kernel
theorem dX12_turns_23 : decode cX12_turns 23 = .ok (.iaload, 1) := by decide +kernel
theorem dX12_turns_24 : decode cX12_turns 24 = .ok (.istore_n 3, 1) := by decide +kernel
theorem dX12_turns_25 : decode cX12_turns 25 = .ok (.aload_n 0, 1) := by decide +kernel
theorem dX12_turns_26 : decode cX12_turns 26 = .ok (.getfield 105, 3) := by decide +kernel
theorem dX12_turns_29 : decode cX12_turns 29 = .ok (.iconst 3, 1) := by decide +kernel
theorem dX12_turns_30 : decode cX12_turns 30 = .ok (.iload_n 2, 1) := by decide +kernel
theorem dX12_turns_31 : decode cX12_turns 31 = .ok (.iadd, 1) := by decide +kernel
theorem dX12_turns_32 : decode cX12_turns 32 = .ok (.aload_n 0, 1) := by decide +kernel
theorem dX12_turns_33 : decode cX12_turns 33 = .ok (.getfield 105, 3) := by decide +kernel
theorem dX12_turns_36 : decode cX12_turns 36 = .ok (.iconst 3, 1) := by decide +kernel
theorem dX12_turns_37 : decode cX12_turns 37 = .ok (.iload_n 1, 1) := by decide +kernel
theorem dX12_turns_38 : decode cX12_turns 38 = .ok (.iadd, 1) := by decide +kernel
theorem dX12_turns_39 : decode cX12_turns 39 = .ok (.iconst 1, 1) := by decide +kernel
theorem dX12_turns_40 : decode cX12_turns 40 = .ok (.isub, 1) := by decide +kernel
theorem dX12_turns_41 : decode cX12_turns 41 = .ok (.iload_n 2, 1) := by decide +kernel
theorem dX12_turns_42 : decode cX12_turns 42 = .ok (.isub, 1) := by decide +kernel
theorem dX12_turns_43 : decode cX12_turns 43 = .ok (.iaload, 1) := by decide +kernel
theorem dX12_turns_44 : decode cX12_turns 44 = .ok (.iastore, 1) := by decide +kernel
theorem dX12_turns_45 : decode cX12_turns 45 = .ok (.aload_n 0, 1) := by decide +kernel
theorem dX12_turns_46 : decode cX12_turns 46 = .ok (.getfield 105, 3) := by decide +kernel
theorem dX12_turns_49 : decode cX12_turns 49 = .ok (.iconst 3, 1) := by decide +kernel
theorem dX12_turns_50 : decode cX12_turns 50 = .ok (.iload_n 1, 1) := by decide +kernel
theorem dX12_turns_51 : decode cX12_turns 51 = .ok (.iadd, 1) := by decide +kernel
theorem dX12_turns_52 : decode cX12_turns 52 = .ok (.iconst 1, 1) := by decide +kernel
theorem dX12_turns_53 : decode cX12_turns 53 = .ok (.isub, 1) := by decide +kernel
theorem dX12_turns_54 : decode cX12_turns 54 = .ok (.iload_n 2, 1) := by decide +kernel
theorem dX12_turns_55 : decode cX12_turns 55 = .ok (.isub, 1) := by decide +kernel
theorem dX12_turns_56 : decode cX12_turns 56 = .ok (.iload_n 3, 1) := by decide +kernel
theorem dX12_turns_57 : decode cX12_turns 57 = .ok (.iastore, 1) := by decide +kernel
theorem dX12_turns_58 : decode cX12_turns 58 = .ok (.iinc 2 1, 3) := by decide +kernel
theorem dX12_turns_61 : decode cX12_turns 61 = .ok (.goto (-52), 3) := by decide +kernel
theorem dX12_turns_64 : decode cX12_turns 64 = .ok (.iload_n 1, 1) := by decide +kernel
theorem dX12_turns_65 : decode cX12_turns 65 = .ok (.ifCond .le 19, 3) := by decide +kernel
theorem dX12_turns_68 : decode cX12_turns 68 = .ok (.aload_n 0, 1) := by decide +kernel
theorem dX12_turns_69 : decode cX12_turns 69 = .ok (.getfield 105, 3) := by decide +kernel
theorem dX12_turns_72 : decode cX12_turns 72 = .ok (.iconst 1, 1) := by decide +kernel
theorem dX12_turns_73 : decode cX12_turns 73 = .ok (.iload_n 1, 1) := by decide +kernel
theorem dX12_turns_74 : decode cX12_turns 74 = .ok (.iconst 1, 1) := by decide +kernel
theorem dX12_turns_75 : decode cX12_turns 75 = .ok (.isub, 1) := by decide +kernel
theorem dX12_turns_76 : decode cX12_turns 76 = .ok (.aload_n 0, 1) := by decide +kernel
theorem dX12_turns_77 : decode cX12_turns 77 = .ok (.getfield 105, 3) := by decide +kernel
theorem dX12_turns_80 : decode cX12_turns 80 = .ok (.iconst 1, 1) := by decide +kernel
theorem dX12_turns_81 : decode cX12_turns 81 = .ok (.iaload, 1) := by decide +kernel
theorem dX12_turns_82 : decode cX12_turns 82 = .ok (.isub, 1) := by decide +kernel
theorem dX12_turns_83 : decode cX12_turns 83 = .ok (.iastore, 1) := by decide +kernel
theorem dX12_turns_84 : decode cX12_turns 84 = .ok (.return_, 1) := by decide +kernel
theorem dX12_placeOf_0 : decode cX12_placeOf 0 = .ok (.iconst 0, 1) := by decide +kernel
theorem dX12_placeOf_1 : decode cX12_placeOf 1 = .ok (.istore_n 2, 1) := by decide +kernel
theorem dX12_placeOf_2 : decode cX12_placeOf 2 = .ok (.aload_n 0, 1) := by decide +kernel
theorem dX12_placeOf_3 : decode cX12_placeOf 3 = .ok (.getfield 105, 3) := by decide +kernel
theorem dX12_placeOf_6 : decode cX12_placeOf 6 = .ok (.iconst 3, 1) := by decide +kernel
theorem dX12_placeOf_7 : decode cX12_placeOf 7 = .ok (.iload_n 2, 1) := by decide +kernel
theorem dX12_placeOf_8 : decode cX12_placeOf 8 = .ok (.iadd, 1) := by decide +kernel
theorem dX12_placeOf_9 : decode cX12_placeOf 9 = .ok (.iaload, 1) := by decide +kernel
theorem dX12_placeOf_10 : decode cX12_placeOf 10 = .ok (.iload_n 1, 1) := by decide +kernel
theorem dX12_placeOf_11 : decode cX12_placeOf 11 = .ok (.if_icmp .eq 9, 3) := by decide +kernel
theorem dX12_placeOf_14 : decode cX12_placeOf 14 = .ok (.iinc 2 1, 3) := by decide +kernel
theorem dX12_placeOf_17 : decode cX12_placeOf 17 = .ok (.goto (-15), 3) := by decide +kernel
theorem dX12_placeOf_20 : decode cX12_placeOf 20 = .ok (.iload_n 2, 1) := by decide +kernel
theorem dX12_placeOf_21 : decode cX12_placeOf 21 = .ok (.ireturn, 1) := by decide +kernel
theorem dX12_shot_0 : decode cX12_shot 0 = .ok (.aload_n 0, 1) := by decide +kernel
theorem dX12_shot_1 : decode cX12_shot 1 = .ok (.iconst 0, 1) := by decide +kernel
theorem dX12_shot_2 : decode cX12_shot 2 = .ok (.putfield 138, 3) := by decide +kernel
theorem dX12_shot_5 : decode cX12_shot 5 = .ok (.aload_n 0, 1) := by decide +kernel
theorem dX12_shot_6 : decode cX12_shot 6 = .ok (.iload_n 1, 1) := by decide +kernel
theorem dX12_shot_7 : decode cX12_shot 7 = .ok (.invokevirtual 347, 3) := by decide +kernel
theorem dX12_shot_10 : decode cX12_shot 10 = .ok (.ifCond .eq 12, 3) := by decide +kernel
theorem dX12_shot_13 : decode cX12_shot 13 = .ok (.iload_n 2, 1) := by decide +kernel
theorem dX12_shot_14 : decode cX12_shot 14 = .ok (.iconst 0, 1) := by decide +kernel
theorem dX12_shot_15 : decode cX12_shot 15 = .ok (.iconst 3, 1) := by decide +kernel
theorem dX12_shot_16 : decode cX12_shot 16 = .ok (.invokestatic 253, 3) := by decide +kernel
theorem dX12_shot_19 : decode cX12_shot 19 = .ok (.ifCond .ne 6, 3) := by decide +kernel
theorem dX12_shot_22 : decode cX12_shot 22 = .ok (.bipush (-2), 2) := by decide +kernel
theorem dX12_shot_24 : decode cX12_shot 24 = .ok (.ireturn, 1) := by decide +kernel
theorem dX12_shot_25 : decode cX12_shot 25 = .ok (.iload_n 2, 1) := by decide +kernel
theorem dX12_shot_26 : decode cX12_shot 26 = .ok (.ifCond .ne 12, 3) := by decide +kernel
theorem dX12_shot_29 : decode cX12_shot 29 = .ok (.aload_n 0, 1) := by decide +kernel
theorem dX12_shot_30 : decode cX12_shot 30 = .ok (.getfield 23, 3) := by decide +kernel
theorem dX12_shot_33 : decode cX12_shot 33 = .ok (.iload_n 1, 1) := by decide +kernel
theorem dX12_shot_34 : decode cX12_shot 34 = .ok (.iaload, 1) := by decide +kernel
theorem dX12_shot_35 : decode cX12_shot 35 = .ok (.goto 41, 3) := by decide +kernel
theorem dX12_shot_38 : decode cX12_shot 38 = .ok (.iload_n 2, 1) := by decide +kernel
theorem dX12_shot_39 : decode cX12_shot 39 = .ok (.iconst 1, 1) := by decide +kernel
theorem dX12_shot_40 : decode cX12_shot 40 = .ok (.if_icmp .ne 12, 3) := by decide +kernel
theorem dX12_shot_43 : decode cX12_shot 43 = .ok (.aload_n 0, 1) := by decide +kernel
theorem dX12_shot_44 : decode cX12_shot 44 = .ok (.getfield 26, 3) := by decide +kernel
theorem dX12_shot_47 : decode cX12_shot 47 = .ok (.iload_n 1, 1) := by decide +kernel
theorem dX12_shot_48 : decode cX12_shot 48 = .ok (.iaload, 1) := by decide +kernel
theorem dX12_shot_49 : decode cX12_shot 49 = .ok (.goto 27, 3) := by decide +kernel
theorem dX12_shot_52 : decode cX12_shot 52 = .ok (.iload_n 2, 1) := by decide +kernel
theorem dX12_shot_53 : decode cX12_shot 53 = .ok (.iconst 2, 1) := by decide +kernel
theorem dX12_shot_54 : decode cX12_shot 54 = .ok (.if_icmp .ne 12, 3) := by decide +kernel
theorem dX12_shot_57 : decode cX12_shot 57 = .ok (.aload_n 0, 1) := by decide +kernel
theorem dX12_shot_58 : decode cX12_shot 58 = .ok (.getfield 29, 3) := by decide +kernel
theorem dX12_shot_61 : decode cX12_shot 61 = .ok (.iload_n 1, 1) := by decide +kernel
theorem dX12_shot_62 : decode cX12_shot 62 = .ok (.iaload, 1) := by decide +kernel
theorem dX12_shot_63 : decode cX12_shot 63 = .ok (.goto 13, 3) := by decide +kernel
theorem dX12_shot_66 : decode cX12_shot 66 = .ok (.aload_n 0, 1) := by decide +kernel
theorem dX12_shot_67 : decode cX12_shot 67 = .ok (.getfield 105, 3) := by decide +kernel
theorem dX12_shot_70 : decode cX12_shot 70 = .ok (.iconst 0, 1) := by decide +kernel
theorem dX12_shot_71 : decode cX12_shot 71 = .ok (.iaload, 1) := by decide +kernel
theorem dX12_shot_72 : decode cX12_shot 72 = .ok (.iload_n 1, 1) := by decide +kernel
theorem dX12_shot_73 : decode cX12_shot 73 = .ok (.ishr, 1) := by decide +kernel
theorem dX12_shot_74 : decode cX12_shot 74 = .ok (.iconst 1, 1) := by decide +kernel
theorem dX12_shot_75 : decode cX12_shot 75 = .ok (.iand, 1) := by decide +kernel
theorem dX12_shot_76 : decode cX12_shot 76 = .ok (.ireturn, 1) := by decide +kernel
theorem dX12_hall_0 : decode cX12_hall 0 = .ok (.aload_n 0, 1) := by decide +kernel
theorem dX12_hall_1 : decode cX12_hall 1 = .ok (.iconst 0, 1) := by decide +kernel
theorem dX12_hall_2 : decode cX12_hall 2 = .ok (.putfield 138, 3) := by decide +kernel
theorem dX12_hall_5 : decode cX12_hall 5 = .ok (.aload_n 0, 1) := by decide +kernel
theorem dX12_hall_6 : decode cX12_hall 6 = .ok (.iload_n 1, 1) := by decide +kernel
theorem dX12_hall_7 : decode cX12_hall 7 = .ok (.invokevirtual 350, 3) := by decide +kernel
theorem dX12_hall_10 : decode cX12_hall 10 = .ok (.ifCond .eq 12, 3) := by decide +kernel
theorem dX12_hall_13 : decode cX12_hall 13 = .ok (.iload_n 2, 1) := by decide +kernel
theorem dX12_hall_14 : decode cX12_hall 14 = .ok (.iconst 0, 1) := by decide +kernel
theorem dX12_hall_15 : decode cX12_hall 15 = .ok (.iconst 3, 1) := by decide +kernel
theorem dX12_hall_16 : decode cX12_hall 16 = .ok (.invokestatic 253, 3) := by decide +kernel
theorem dX12_hall_19 : decode cX12_hall 19 = .ok (.ifCond .ne 5, 3) := by decide +kernel
theorem dX12_hall_22 : decode cX12_hall 22 = .ok (.iconst (-1), 1) := by decide +kernel
theorem dX12_hall_23 : decode cX12_hall 23 = .ok (.ireturn, 1) := by decide +kernel
theorem dX12_hall_24 : decode cX12_hall 24 = .ok (.iload_n 2, 1) := by decide +kernel
theorem dX12_hall_25 : decode cX12_hall 25 = .ok (.ifCond .ne 12, 3) := by decide +kernel
theorem dX12_hall_28 : decode cX12_hall 28 = .ok (.aload_n 0, 1) := by decide +kernel
theorem dX12_hall_29 : decode cX12_hall 29 = .ok (.getfield 32, 3) := by decide +kernel
theorem dX12_hall_32 : decode cX12_hall 32 = .ok (.iload_n 1, 1) := by decide +kernel
theorem dX12_hall_33 : decode cX12_hall 33 = .ok (.iaload, 1) := by decide +kernel
theorem dX12_hall_34 : decode cX12_hall 34 = .ok (.goto 40, 3) := by decide +kernel
theorem dX12_hall_37 : decode cX12_hall 37 = .ok (.iload_n 2, 1) := by decide +kernel
theorem dX12_hall_38 : decode cX12_hall 38 = .ok (.iconst 1, 1) := by decide +kernel
theorem dX12_hall_39 : decode cX12_hall 39 = .ok (.if_icmp .ne 11, 3) := by decide +kernel
theorem dX12_hall_42 : decode cX12_hall 42 = .ok (.aload_n 0, 1) := by decide +kernel
theorem dX12_hall_43 : decode cX12_hall 43 = .ok (.iload_n 1, 1) := by decide +kernel
theorem dX12_hall_44 : decode cX12_hall 44 = .ok (.invokevirtual 353, 3) := by decide +kernel
theorem dX12_hall_47 : decode cX12_hall 47 = .ok (.goto 27, 3) := by decide +kernel
theorem dX12_hall_50 : decode cX12_hall 50 = .ok (.iload_n 2, 1) := by decide +kernel
theorem dX12_hall_51 : decode cX12_hall 51 = .ok (.iconst 2, 1) := by decide +kernel
theorem dX12_hall_52 : decode cX12_hall 52 = .ok (.if_icmp .ne 11, 3) := by decide +kernel
theorem dX12_hall_55 : decode cX12_hall 55 = .ok (.aload_n 0, 1) := by decide +kernel
theorem dX12_hall_56 : decode cX12_hall 56 = .ok (.iload_n 1, 1) := by decide +kernel
theorem dX12_hall_57 : decode cX12_hall 57 = .ok (.invokevirtual 356, 3) := by decide +kernel
theorem dX12_hall_60 : decode cX12_hall 60 = .ok (.goto 14, 3) := by decide +kernel
theorem dX12_hall_63 : decode cX12_hall 63 = .ok (.aload_n 0, 1) := by decide +kernel
theorem dX12_hall_64 : decode cX12_hall 64 = .ok (.iload_n 1, 1) := by decide +kernel
theorem dX12_hall_65 : decode cX12_hall 65 = .ok (.aload_n 0, 1) := by decide +kernel
theorem dX12_hall_66 : decode cX12_hall 66 = .ok (.getfield 105, 3) := by decide +kernel
theorem dX12_hall_69 : decode cX12_hall 69 = .ok (.iconst 0, 1) := by decide +kernel
theorem dX12_hall_70 : decode cX12_hall 70 = .ok (.iaload, 1) := by decide +kernel
theorem dX12_hall_71 : decode cX12_hall 71 = .ok (.invokevirtual 340, 3) := by decide +kernel
theorem dX12_hall_74 : decode cX12_hall 74 = .ok (.ireturn, 1) := by decide +kernel
theorem dX12_keeps_0 : decode cX12_keeps 0 = .ok (.aload_n 0, 1) := by decide +kernel
theorem dX12_keeps_1 : decode cX12_keeps 1 = .ok (.getfield 323, 3) := by decide +kernel
theorem dX12_keeps_4 : decode cX12_keeps 4 = .ok (.bipush 16, 2) := by decide +kernel
theorem dX12_keeps_6 : decode cX12_keeps 6 = .ok (.if_icmp .ne 43, 3) := by decide +kernel
theorem dX12_keeps_9 : decode cX12_keeps 9 = .ok (.iconst 0, 1) := by decide +kernel
theorem dX12_keeps_10 : decode cX12_keeps 10 = .ok (.istore_n 1, 1) := by decide +kernel
theorem dX12_keeps_11 : decode cX12_keeps 11 = .ok (.iload_n 1, 1) := by decide +kernel
theorem dX12_keeps_12 : decode cX12_keeps 12 = .ok (.sipush 285, 3) := by decide +kernel
theorem dX12_keeps_15 : decode cX12_keeps 15 = .ok (.if_icmp .ge 24, 3) := by decide +kernel
theorem dX12_keeps_18 : decode cX12_keeps 18 = .ok (.aload_n 0, 1) := by decide +kernel
theorem dX12_keeps_19 : decode cX12_keeps 19 = .ok (.getfield 117, 3) := by decide +kernel
theorem dX12_keeps_22 : decode cX12_keeps 22 = .ok (.iload_n 1, 1) := by decide +kernel
theorem dX12_keeps_23 : decode cX12_keeps 23 = .ok (.aload_n 0, 1) := by decide +kernel
theorem dX12_keeps_24 : decode cX12_keeps 24 = .ok (.getfield 117, 3) := by decide +kernel
theorem dX12_keeps_27 : decode cX12_keeps 27 = .ok (.iload_n 1, 1) := by decide +kernel
theorem dX12_keeps_28 : decode cX12_keeps 28 = .ok (.bipush 19, 2) := by decide +kernel
theorem dX12_keeps_30 : decode cX12_keeps 30 = .ok (.iadd, 1) := by decide +kernel
theorem dX12_keeps_31 : decode cX12_keeps 31 = .ok (.iaload, 1) := by decide +kernel
theorem dX12_keeps_32 : decode cX12_keeps 32 = .ok (.iastore, 1) := by decide +kernel
theorem dX12_keeps_33 : decode cX12_keeps 33 = .ok (.iinc 1 1, 3) := by decide +kernel
theorem dX12_keeps_36 : decode cX12_keeps 36 = .ok (.goto (-25), 3) := by decide +kernel
theorem dX12_keeps_39 : decode cX12_keeps 39 = .ok (.aload_n 0, 1) := by decide +kernel
theorem dX12_keeps_40 : decode cX12_keeps 40 = .ok (.dup, 1) := by decide +kernel
theorem dX12_keeps_41 : decode cX12_keeps 41 = .ok (.getfield 323, 3) := by decide +kernel
theorem dX12_keeps_44 : decode cX12_keeps 44 = .ok (.iconst 1, 1) := by decide +kernel
theorem dX12_keeps_45 : decode cX12_keeps 45 = .ok (.isub, 1) := by decide +kernel
theorem dX12_keeps_46 : decode cX12_keeps 46 = .ok (.putfield 323, 3) := by decide +kernel
theorem dX12_keeps_49 : decode cX12_keeps 49 = .ok (.aload_n 0, 1) := by decide +kernel
theorem dX12_keeps_50 : decode cX12_keeps 50 = .ok (.getfield 105, 3) := by decide +kernel
theorem dX12_keeps_53 : decode cX12_keeps 53 = .ok (.iconst 0, 1) := by decide +kernel
theorem dX12_keeps_54 : decode cX12_keeps 54 = .ok (.aload_n 0, 1) := by decide +kernel
theorem dX12_keeps_55 : decode cX12_keeps 55 = .ok (.getfield 117, 3) := by decide +kernel
theorem dX12_keeps_58 : decode cX12_keeps 58 = .ok (.bipush 19, 2) := by decide +kernel
theorem dX12_keeps_60 : decode cX12_keeps 60 = .ok (.aload_n 0, 1) := by decide +kernel
theorem dX12_keeps_61 : decode cX12_keeps 61 = .ok (.getfield 323, 3) := by decide +kernel
theorem dX12_keeps_64 : decode cX12_keeps 64 = .ok (.imul, 1) := by decide +kernel
theorem dX12_keeps_65 : decode cX12_keeps 65 = .ok (.invokestatic 359, 3) := by decide +kernel
theorem dX12_keeps_68 : decode cX12_keeps 68 = .ok (.aload_n 0, 1) := by decide +kernel
theorem dX12_keeps_69 : decode cX12_keeps 69 = .ok (.dup, 1) := by decide +kernel
theorem dX12_keeps_70 : decode cX12_keeps 70 = .ok (.getfield 323, 3) := by decide +kernel
theorem dX12_keeps_73 : decode cX12_keeps 73 = .ok (.iconst 1, 1) := by decide +kernel
theorem dX12_keeps_74 : decode cX12_keeps 74 = .ok (.iadd, 1) := by decide +kernel
theorem dX12_keeps_75 : decode cX12_keeps 75 = .ok (.putfield 323, 3) := by decide +kernel
theorem dX12_keeps_78 : decode cX12_keeps 78 = .ok (.return_, 1) := by decide +kernel
theorem dX12_show_0 : decode cX12_show 0 = .ok (.aload_n 0, 1) := by decide +kernel
theorem dX12_show_1 : decode cX12_show 1 = .ok (.iconst 0, 1) := by decide +kernel
theorem dX12_show_2 : decode cX12_show 2 = .ok (.putfield 138, 3) := by decide +kernel
theorem dX12_show_5 : decode cX12_show 5 = .ok (.aload_n 0, 1) := by decide +kernel
theorem dX12_show_6 : decode cX12_show 6 = .ok (.getfield 13, 3) := by decide +kernel
theorem dX12_show_9 : decode cX12_show 9 = .ok (.iconst 1, 1) := by decide +kernel
theorem dX12_show_10 : decode cX12_show 10 = .ok (.iaload, 1) := by decide +kernel
theorem dX12_show_11 : decode cX12_show 11 = .ok (.ifCond .ne 5, 3) := by decide +kernel
theorem dX12_show_14 : decode cX12_show 14 = .ok (.iconst (-1), 1) := by decide +kernel
theorem dX12_show_15 : decode cX12_show 15 = .ok (.ireturn, 1) := by decide +kernel
theorem dX12_show_16 : decode cX12_show 16 = .ok (.aload_n 0, 1) := by decide +kernel
theorem dX12_show_17 : decode cX12_show 17 = .ok (.invokevirtual 363, 3) := by decide +kernel
theorem dX12_show_20 : decode cX12_show 20 = .ok (.aload_n 0, 1) := by decide +kernel
theorem dX12_show_21 : decode cX12_show 21 = .ok (.invokevirtual 366, 3) := by decide +kernel
theorem dX12_show_24 : decode cX12_show 24 = .ok (.aload_n 0, 1) := by decide +kernel
theorem dX12_show_25 : decode cX12_show 25 = .ok (.aload_n 0, 1) := by decide +kernel
theorem dX12_show_26 : decode cX12_show 26 = .ok (.getfield 105, 3) := by decide +kernel
theorem dX12_show_29 : decode cX12_show 29 = .ok (.iconst 0, 1) := by decide +kernel
theorem dX12_show_30 : decode cX12_show 30 = .ok (.iaload, 1) := by decide +kernel
theorem dX12_show_31 : decode cX12_show 31 = .ok (.invokevirtual 369, 3) := by decide +kernel
theorem dX12_show_34 : decode cX12_show 34 = .ok (.ireturn, 1) := by decide +kernel
theorem dX12_give_0 : decode cX12_give 0 = .ok (.aload_n 0, 1) := by decide +kernel
theorem dX12_give_1 : decode cX12_give 1 = .ok (.iconst 0, 1) := by decide +kernel
theorem dX12_give_2 : decode cX12_give 2 = .ok (.putfield 138, 3) := by decide +kernel
theorem dX12_give_5 : decode cX12_give 5 = .ok (.aload_n 0, 1) := by decide +kernel
theorem dX12_give_6 : decode cX12_give 6 = .ok (.iload_n 1, 1) := by decide +kernel
theorem dX12_give_7 : decode cX12_give 7 = .ok (.invokevirtual 350, 3) := by decide +kernel
theorem dX12_give_10 : decode cX12_give 10 = .ok (.ifCond .eq 26, 3) := by decide +kernel
theorem dX12_give_13 : decode cX12_give 13 = .ok (.aload_n 0, 1) := by decide +kernel
theorem dX12_give_14 : decode cX12_give 14 = .ok (.iload_n 2, 1) := by decide +kernel
theorem dX12_give_15 : decode cX12_give 15 = .ok (.invokevirtual 347, 3) := by decide +kernel
theorem dX12_give_18 : decode cX12_give 18 = .ok (.ifCond .eq 18, 3) := by decide +kernel
theorem dX12_give_21 : decode cX12_give 21 = .ok (.aload_n 0, 1) := by decide +kernel
theorem dX12_give_22 : decode cX12_give 22 = .ok (.getfield 105, 3) := by decide +kernel
theorem dX12_give_25 : decode cX12_give 25 = .ok (.bipush 9, 2) := by decide +kernel
theorem dX12_give_27 : decode cX12_give 27 = .ok (.iload_n 2, 1) := by decide +kernel
theorem dX12_give_28 : decode cX12_give 28 = .ok (.iadd, 1) := by decide +kernel
theorem dX12_give_29 : decode cX12_give 29 = .ok (.iaload, 1) := by decide +kernel
theorem dX12_give_30 : decode cX12_give 30 = .ok (.iload_n 1, 1) := by decide +kernel
theorem dX12_give_31 : decode cX12_give 31 = .ok (.iconst 1, 1) := by decide +kernel
theorem dX12_give_32 : decode cX12_give 32 = .ok (.iadd, 1) := by decide +kernel
theorem dX12_give_33 : decode cX12_give 33 = .ok (.if_icmp .eq 5, 3) := by decide +kernel
theorem dX12_give_36 : decode cX12_give 36 = .ok (.iconst (-1), 1) := by decide +kernel
theorem dX12_give_37 : decode cX12_give 37 = .ok (.ireturn, 1) := by decide +kernel
theorem dX12_give_38 : decode cX12_give 38 = .ok (.aload_n 0, 1) := by decide +kernel
theorem dX12_give_39 : decode cX12_give 39 = .ok (.invokevirtual 363, 3) := by decide +kernel
theorem dX12_give_42 : decode cX12_give 42 = .ok (.aload_n 0, 1) := by decide +kernel
theorem dX12_give_43 : decode cX12_give 43 = .ok (.iload_n 2, 1) := by decide +kernel
theorem dX12_give_44 : decode cX12_give 44 = .ok (.invokevirtual 372, 3) := by decide +kernel
theorem dX12_give_47 : decode cX12_give 47 = .ok (.aload_n 0, 1) := by decide +kernel
theorem dX12_give_48 : decode cX12_give 48 = .ok (.getfield 105, 3) := by decide +kernel
theorem dX12_give_51 : decode cX12_give 51 = .ok (.iconst 0, 1) := by decide +kernel
theorem dX12_give_52 : decode cX12_give 52 = .ok (.iaload, 1) := by decide +kernel
theorem dX12_give_53 : decode cX12_give 53 = .ok (.invokestatic 375, 3) := by decide +kernel
theorem dX12_give_56 : decode cX12_give 56 = .ok (.ireturn, 1) := by decide +kernel
theorem dX12_trade_0 : decode cX12_trade 0 = .ok (.aload_n 0, 1) := by decide +kernel
theorem dX12_trade_1 : decode cX12_trade 1 = .ok (.iconst 0, 1) := by decide +kernel
theorem dX12_trade_2 : decode cX12_trade 2 = .ok (.putfield 138, 3) := by decide +kernel
theorem dX12_trade_5 : decode cX12_trade 5 = .ok (.aload_n 0, 1) := by decide +kernel
theorem dX12_trade_6 : decode cX12_trade 6 = .ok (.iload_n 1, 1) := by decide +kernel
theorem dX12_trade_7 : decode cX12_trade 7 = .ok (.invokevirtual 350, 3) := by decide +kernel
theorem dX12_trade_10 : decode cX12_trade 10 = .ok (.ifCond .eq 39, 3) := by decide +kernel
theorem dX12_trade_13 : decode cX12_trade 13 = .ok (.aload_n 0, 1) := by decide +kernel
theorem dX12_trade_14 : decode cX12_trade 14 = .ok (.iload_n 2, 1) := by decide +kernel
theorem dX12_trade_15 : decode cX12_trade 15 = .ok (.invokevirtual 350, 3) := by decide +kernel
theorem dX12_trade_18 : decode cX12_trade 18 = .ok (.ifCond .eq 31, 3) := by decide +kernel
theorem dX12_trade_21 : decode cX12_trade 21 = .ok (.iload_n 1, 1) := by decide +kernel
theorem dX12_trade_22 : decode cX12_trade 22 = .ok (.iload_n 2, 1) := by decide +kernel
theorem dX12_trade_23 : decode cX12_trade 23 = .ok (.if_icmp .eq 26, 3) := by decide +kernel
theorem dX12_trade_26 : decode cX12_trade 26 = .ok (.aload_n 0, 1) := by decide +kernel
theorem dX12_trade_27 : decode cX12_trade 27 = .ok (.iload_n 3, 1) := by decide +kernel
theorem dX12_trade_28 : decode cX12_trade 28 = .ok (.invokevirtual 347, 3) := by decide +kernel
theorem dX12_trade_31 : decode cX12_trade 31 = .ok (.ifCond .eq 18, 3) := by decide +kernel
theorem dX12_trade_34 : decode cX12_trade 34 = .ok (.aload_n 0, 1) := by decide +kernel
theorem dX12_trade_35 : decode cX12_trade 35 = .ok (.getfield 105, 3) := by decide +kernel
theorem dX12_trade_38 : decode cX12_trade 38 = .ok (.bipush 9, 2) := by decide +kernel
theorem dX12_trade_40 : decode cX12_trade 40 = .ok (.iload_n 3, 1) := by decide +kernel
theorem dX12_trade_41 : decode cX12_trade 41 = .ok (.iadd, 1) := by decide +kernel
theorem dX12_trade_42 : decode cX12_trade 42 = .ok (.iaload, 1) := by decide +kernel
theorem dX12_trade_43 : decode cX12_trade 43 = .ok (.iload_n 1, 1) := by decide +kernel
theorem dX12_trade_44 : decode cX12_trade 44 = .ok (.iconst 1, 1) := by decide +kernel
theorem dX12_trade_45 : decode cX12_trade 45 = .ok (.iadd, 1) := by decide +kernel
theorem dX12_trade_46 : decode cX12_trade 46 = .ok (.if_icmp .eq 5, 3) := by decide +kernel
theorem dX12_trade_49 : decode cX12_trade 49 = .ok (.iconst 0, 1) := by decide +kernel
theorem dX12_trade_50 : decode cX12_trade 50 = .ok (.ireturn, 1) := by decide +kernel
theorem dX12_trade_51 : decode cX12_trade 51 = .ok (.aload_n 0, 1) := by decide +kernel
theorem dX12_trade_52 : decode cX12_trade 52 = .ok (.invokevirtual 363, 3) := by decide +kernel
theorem dX12_trade_55 : decode cX12_trade 55 = .ok (.aload_n 0, 1) := by decide +kernel
theorem dX12_trade_56 : decode cX12_trade 56 = .ok (.getfield 105, 3) := by decide +kernel
theorem dX12_trade_59 : decode cX12_trade 59 = .ok (.bipush 9, 2) := by decide +kernel
theorem dX12_trade_61 : decode cX12_trade 61 = .ok (.iload_n 3, 1) := by decide +kernel
theorem dX12_trade_62 : decode cX12_trade 62 = .ok (.iadd, 1) := by decide +kernel
theorem dX12_trade_63 : decode cX12_trade 63 = .ok (.iload_n 2, 1) := by decide +kernel
theorem dX12_trade_64 : decode cX12_trade 64 = .ok (.iconst 1, 1) := by decide +kernel
theorem dX12_trade_65 : decode cX12_trade 65 = .ok (.iadd, 1) := by decide +kernel
theorem dX12_trade_66 : decode cX12_trade 66 = .ok (.iastore, 1) := by decide +kernel
theorem dX12_trade_67 : decode cX12_trade 67 = .ok (.iconst 1, 1) := by decide +kernel
theorem dX12_trade_68 : decode cX12_trade 68 = .ok (.ireturn, 1) := by decide +kernel
theorem dX12_nextHall_0 : decode cX12_nextHall 0 = .ok (.aload_n 0, 1) := by decide +kernel
theorem dX12_nextHall_1 : decode cX12_nextHall 1 = .ok (.getfield 13, 3) := by decide +kernel
theorem dX12_nextHall_4 : decode cX12_nextHall 4 = .ok (.iconst 1, 1) := by decide +kernel
theorem dX12_nextHall_5 : decode cX12_nextHall 5 = .ok (.iaload, 1) := by decide +kernel
theorem dX12_nextHall_6 : decode cX12_nextHall 6 = .ok (.ifCond .ne 7, 3) := by decide +kernel
theorem dX12_nextHall_9 : decode cX12_nextHall 9 = .ok (.iconst (-1), 1) := by decide +kernel
theorem dX12_nextHall_10 : decode cX12_nextHall 10 = .ok (.goto 16, 3) := by decide +kernel
theorem dX12_nextHall_13 : decode cX12_nextHall 13 = .ok (.aload_n 0, 1) := by decide +kernel
theorem dX12_nextHall_14 : decode cX12_nextHall 14 = .ok (.getfield 105, 3) := by decide +kernel
theorem dX12_nextHall_17 : decode cX12_nextHall 17 = .ok (.iconst 3, 1) := by decide +kernel
theorem dX12_nextHall_18 : decode cX12_nextHall 18 = .ok (.aload_n 0, 1) := by decide +kernel
theorem dX12_nextHall_19 : decode cX12_nextHall 19 = .ok (.getfield 105, 3) := by decide +kernel
theorem dX12_nextHall_22 : decode cX12_nextHall 22 = .ok (.iconst 1, 1) := by decide +kernel
theorem dX12_nextHall_23 : decode cX12_nextHall 23 = .ok (.iaload, 1) := by decide +kernel
theorem dX12_nextHall_24 : decode cX12_nextHall 24 = .ok (.iadd, 1) := by decide +kernel
theorem dX12_nextHall_25 : decode cX12_nextHall 25 = .ok (.iaload, 1) := by decide +kernel
theorem dX12_nextHall_26 : decode cX12_nextHall 26 = .ok (.ireturn, 1) := by decide +kernel
theorem dX12_turn_0 : decode cX12_turn 0 = .ok (.aload_n 0, 1) := by decide +kernel
theorem dX12_turn_1 : decode cX12_turn 1 = .ok (.iconst 0, 1) := by decide +kernel
theorem dX12_turn_2 : decode cX12_turn 2 = .ok (.putfield 138, 3) := by decide +kernel
theorem dX12_turn_5 : decode cX12_turn 5 = .ok (.aload_n 0, 1) := by decide +kernel
theorem dX12_turn_6 : decode cX12_turn 6 = .ok (.invokevirtual 363, 3) := by decide +kernel
theorem dX12_turn_9 : decode cX12_turn 9 = .ok (.aload_n 0, 1) := by decide +kernel
theorem dX12_turn_10 : decode cX12_turn 10 = .ok (.invokevirtual 378, 3) := by decide +kernel
theorem dX12_turn_13 : decode cX12_turn 13 = .ok (.aload_n 0, 1) := by decide +kernel
theorem dX12_turn_14 : decode cX12_turn 14 = .ok (.invokevirtual 381, 3) := by decide +kernel
theorem dX12_turn_17 : decode cX12_turn 17 = .ok (.ireturn, 1) := by decide +kernel
theorem dX12_undo_0 : decode cX12_undo 0 = .ok (.aload_n 0, 1) := by decide +kernel
theorem dX12_undo_1 : decode cX12_undo 1 = .ok (.iconst 0, 1) := by decide +kernel
theorem dX12_undo_2 : decode cX12_undo 2 = .ok (.putfield 138, 3) := by decide +kernel
theorem dX12_undo_5 : decode cX12_undo 5 = .ok (.aload_n 0, 1) := by decide +kernel
theorem dX12_undo_6 : decode cX12_undo 6 = .ok (.getfield 323, 3) := by decide +kernel
theorem dX12_undo_9 : decode cX12_undo 9 = .ok (.ifCond .ne 5, 3) := by decide +kernel
theorem dX12_undo_12 : decode cX12_undo 12 = .ok (.iconst 0, 1) := by decide +kernel
theorem dX12_undo_13 : decode cX12_undo 13 = .ok (.ireturn, 1) := by decide +kernel
theorem dX12_undo_14 : decode cX12_undo 14 = .ok (.aload_n 0, 1) := by decide +kernel
theorem dX12_undo_15 : decode cX12_undo 15 = .ok (.dup, 1) := by decide +kernel
theorem dX12_undo_16 : decode cX12_undo 16 = .ok (.getfield 323, 3) := by decide +kernel
theorem dX12_undo_19 : decode cX12_undo 19 = .ok (.iconst 1, 1) := by decide +kernel
theorem dX12_undo_20 : decode cX12_undo 20 = .ok (.isub, 1) := by decide +kernel
theorem dX12_undo_21 : decode cX12_undo 21 = .ok (.putfield 323, 3) := by decide +kernel
theorem dX12_undo_24 : decode cX12_undo 24 = .ok (.aload_n 0, 1) := by decide +kernel
theorem dX12_undo_25 : decode cX12_undo 25 = .ok (.getfield 117, 3) := by decide +kernel
theorem dX12_undo_28 : decode cX12_undo 28 = .ok (.bipush 19, 2) := by decide +kernel
theorem dX12_undo_30 : decode cX12_undo 30 = .ok (.aload_n 0, 1) := by decide +kernel
theorem dX12_undo_31 : decode cX12_undo 31 = .ok (.getfield 323, 3) := by decide +kernel
theorem dX12_undo_34 : decode cX12_undo 34 = .ok (.imul, 1) := by decide +kernel
theorem dX12_undo_35 : decode cX12_undo 35 = .ok (.aload_n 0, 1) := by decide +kernel
theorem dX12_undo_36 : decode cX12_undo 36 = .ok (.getfield 105, 3) := by decide +kernel
theorem dX12_undo_39 : decode cX12_undo 39 = .ok (.iconst 0, 1) := by decide +kernel
theorem dX12_undo_40 : decode cX12_undo 40 = .ok (.invokestatic 359, 3) := by decide +kernel
theorem dX12_undo_43 : decode cX12_undo 43 = .ok (.iconst 1, 1) := by decide +kernel
theorem dX12_undo_44 : decode cX12_undo 44 = .ok (.ireturn, 1) := by decide +kernel
theorem dX12_goes_0 : decode cX12_goes 0 = .ok (.aload_n 0, 1) := by decide +kernel
theorem dX12_goes_1 : decode cX12_goes 1 = .ok (.getfield 84, 3) := by decide +kernel
theorem dX12_goes_4 : decode cX12_goes 4 = .ok (.iload_n 1, 1) := by decide +kernel
theorem dX12_goes_5 : decode cX12_goes 5 = .ok (.iaload, 1) := by decide +kernel
theorem dX12_goes_6 : decode cX12_goes 6 = .ok (.istore_n 2, 1) := by decide +kernel
theorem dX12_goes_7 : decode cX12_goes 7 = .ok (.aload_n 0, 1) := by decide +kernel
theorem dX12_goes_8 : decode cX12_goes 8 = .ok (.getfield 93, 3) := by decide +kernel
theorem dX12_goes_11 : decode cX12_goes 11 = .ok (.iload_n 1, 1) := by decide +kernel
theorem dX12_goes_12 : decode cX12_goes 12 = .ok (.iaload, 1) := by decide +kernel
theorem dX12_goes_13 : decode cX12_goes 13 = .ok (.istore_n 3, 1) := by decide +kernel
theorem dX12_goes_14 : decode cX12_goes 14 = .ok (.iload_n 2, 1) := by decide +kernel
theorem dX12_goes_15 : decode cX12_goes 15 = .ok (.ifCond .ne 21, 3) := by decide +kernel
theorem dX12_goes_18 : decode cX12_goes 18 = .ok (.aload_n 0, 1) := by decide +kernel
theorem dX12_goes_19 : decode cX12_goes 19 = .ok (.getfield 13, 3) := by decide +kernel
theorem dX12_goes_22 : decode cX12_goes 22 = .ok (.iconst 1, 1) := by decide +kernel
theorem dX12_goes_23 : decode cX12_goes 23 = .ok (.iaload, 1) := by decide +kernel
theorem dX12_goes_24 : decode cX12_goes 24 = .ok (.ifCond .ne 5, 3) := by decide +kernel
theorem dX12_goes_27 : decode cX12_goes 27 = .ok (.iconst 0, 1) := by decide +kernel
theorem dX12_goes_28 : decode cX12_goes 28 = .ok (.ireturn, 1) := by decide +kernel
theorem dX12_goes_29 : decode cX12_goes 29 = .ok (.aload_n 0, 1) := by decide +kernel
theorem dX12_goes_30 : decode cX12_goes 30 = .ok (.invokevirtual 366, 3) := by decide +kernel
theorem dX12_goes_33 : decode cX12_goes 33 = .ok (.goto 67, 3) := by decide +kernel
theorem dX12_goes_36 : decode cX12_goes 36 = .ok (.iload_n 2, 1) := by decide +kernel
theorem dX12_goes_37 : decode cX12_goes 37 = .ok (.iconst 3, 1) := by decide +kernel
theorem dX12_goes_38 : decode cX12_goes 38 = .ok (.if_icmp .ne 10, 3) := by decide +kernel
theorem dX12_goes_41 : decode cX12_goes 41 = .ok (.aload_n 0, 1) := by decide +kernel
theorem dX12_goes_42 : decode cX12_goes 42 = .ok (.invokevirtual 378, 3) := by decide +kernel
theorem dX12_goes_45 : decode cX12_goes 45 = .ok (.goto 55, 3) := by decide +kernel
theorem dX12_goes_48 : decode cX12_goes 48 = .ok (.aload_n 0, 1) := by decide +kernel
theorem dX12_goes_49 : decode cX12_goes 49 = .ok (.getfield 105, 3) := by decide +kernel
theorem dX12_goes_52 : decode cX12_goes 52 = .ok (.bipush 9, 2) := by decide +kernel
theorem dX12_goes_54 : decode cX12_goes 54 = .ok (.iload_n 3, 1) := by decide +kernel
theorem dX12_goes_55 : decode cX12_goes 55 = .ok (.iadd, 1) := by decide +kernel
theorem dX12_goes_56 : decode cX12_goes 56 = .ok (.iaload, 1) := by decide +kernel
theorem dX12_goes_57 : decode cX12_goes 57 = .ok (.aload_n 0, 1) := by decide +kernel
theorem dX12_goes_58 : decode cX12_goes 58 = .ok (.getfield 87, 3) := by decide +kernel
theorem dX12_goes_61 : decode cX12_goes 61 = .ok (.iload_n 1, 1) := by decide +kernel
theorem dX12_goes_62 : decode cX12_goes 62 = .ok (.iaload, 1) := by decide +kernel
theorem dX12_goes_63 : decode cX12_goes 63 = .ok (.iconst 1, 1) := by decide +kernel
theorem dX12_goes_64 : decode cX12_goes 64 = .ok (.iadd, 1) := by decide +kernel
theorem dX12_goes_65 : decode cX12_goes 65 = .ok (.if_icmp .eq 5, 3) := by decide +kernel
theorem dX12_goes_68 : decode cX12_goes 68 = .ok (.iconst 0, 1) := by decide +kernel
theorem dX12_goes_69 : decode cX12_goes 69 = .ok (.ireturn, 1) := by decide +kernel
theorem dX12_goes_70 : decode cX12_goes 70 = .ok (.iload_n 2, 1) := by decide +kernel
theorem dX12_goes_71 : decode cX12_goes 71 = .ok (.iconst 1, 1) := by decide +kernel
theorem dX12_goes_72 : decode cX12_goes 72 = .ok (.if_icmp .ne 11, 3) := by decide +kernel
theorem dX12_goes_75 : decode cX12_goes 75 = .ok (.aload_n 0, 1) := by decide +kernel
theorem dX12_goes_76 : decode cX12_goes 76 = .ok (.iload_n 3, 1) := by decide +kernel
theorem dX12_goes_77 : decode cX12_goes 77 = .ok (.invokevirtual 372, 3) := by decide +kernel
theorem dX12_goes_80 : decode cX12_goes 80 = .ok (.goto 20, 3) := by decide +kernel
theorem dX12_goes_83 : decode cX12_goes 83 = .ok (.aload_n 0, 1) := by decide +kernel
theorem dX12_goes_84 : decode cX12_goes 84 = .ok (.getfield 105, 3) := by decide +kernel
theorem dX12_goes_87 : decode cX12_goes 87 = .ok (.bipush 9, 2) := by decide +kernel
theorem dX12_goes_89 : decode cX12_goes 89 = .ok (.iload_n 3, 1) := by decide +kernel
theorem dX12_goes_90 : decode cX12_goes 90 = .ok (.iadd, 1) := by decide +kernel
theorem dX12_goes_91 : decode cX12_goes 91 = .ok (.aload_n 0, 1) := by decide +kernel
theorem dX12_goes_92 : decode cX12_goes 92 = .ok (.getfield 90, 3) := by decide +kernel
theorem dX12_goes_95 : decode cX12_goes 95 = .ok (.iload_n 1, 1) := by decide +kernel
theorem dX12_goes_96 : decode cX12_goes 96 = .ok (.iaload, 1) := by decide +kernel
theorem dX12_goes_97 : decode cX12_goes 97 = .ok (.iconst 1, 1) := by decide +kernel
theorem dX12_goes_98 : decode cX12_goes 98 = .ok (.iadd, 1) := by decide +kernel
theorem dX12_goes_99 : decode cX12_goes 99 = .ok (.iastore, 1) := by decide +kernel
theorem dX12_goes_100 : decode cX12_goes 100 = .ok (.iconst 1, 1) := by decide +kernel
theorem dX12_goes_101 : decode cX12_goes 101 = .ok (.ireturn, 1) := by decide +kernel
theorem dX12_judged_0 : decode cX12_judged 0 = .ok (.aload_n 0, 1) := by decide +kernel
theorem dX12_judged_1 : decode cX12_judged 1 = .ok (.iconst 0, 1) := by decide +kernel
theorem dX12_judged_2 : decode cX12_judged 2 = .ok (.putfield 138, 3) := by decide +kernel
theorem dX12_judged_5 : decode cX12_judged 5 = .ok (.iload_n 1, 1) := by decide +kernel
theorem dX12_judged_6 : decode cX12_judged 6 = .ok (.iconst 0, 1) := by decide +kernel
theorem dX12_judged_7 : decode cX12_judged 7 = .ok (.iconst 2, 1) := by decide +kernel
theorem dX12_judged_8 : decode cX12_judged 8 = .ok (.invokestatic 253, 3) := by decide +kernel
theorem dX12_judged_11 : decode cX12_judged 11 = .ok (.ifCond .ne 6, 3) := by decide +kernel
theorem dX12_judged_14 : decode cX12_judged 14 = .ok (.bipush (-2), 2) := by decide +kernel
theorem dX12_judged_16 : decode cX12_judged 16 = .ok (.ireturn, 1) := by decide +kernel
theorem dX12_judged_17 : decode cX12_judged 17 = .ok (.aload_n 0, 1) := by decide +kernel
theorem dX12_judged_18 : decode cX12_judged 18 = .ok (.getfield 105, 3) := by decide +kernel
theorem dX12_judged_21 : decode cX12_judged 21 = .ok (.iconst 0, 1) := by decide +kernel
theorem dX12_judged_22 : decode cX12_judged 22 = .ok (.aload_n 0, 1) := by decide +kernel
theorem dX12_judged_23 : decode cX12_judged 23 = .ok (.getfield 108, 3) := by decide +kernel
theorem dX12_judged_26 : decode cX12_judged 26 = .ok (.iconst 0, 1) := by decide +kernel
theorem dX12_judged_27 : decode cX12_judged 27 = .ok (.invokestatic 359, 3) := by decide +kernel
theorem dX12_judged_30 : decode cX12_judged 30 = .ok (.aload_n 0, 1) := by decide +kernel
theorem dX12_judged_31 : decode cX12_judged 31 = .ok (.invokevirtual 135, 3) := by decide +kernel
theorem dX12_judged_34 : decode cX12_judged 34 = .ok (.iconst (-1), 1) := by decide +kernel
theorem dX12_judged_35 : decode cX12_judged 35 = .ok (.istore_n 2, 1) := by decide +kernel
theorem dX12_judged_36 : decode cX12_judged 36 = .ok (.iconst (-1), 1) := by decide +kernel
theorem dX12_judged_37 : decode cX12_judged 37 = .ok (.istore_n 3, 1) := by decide +kernel
theorem dX12_judged_38 : decode cX12_judged 38 = .ok (.iconst 0, 1) := by decide +kernel
theorem dX12_judged_39 : decode cX12_judged 39 = .ok (.istore 4, 2) := by decide +kernel
theorem dX12_judged_41 : decode cX12_judged 41 = .ok (.iconst 0, 1) := by decide +kernel
theorem dX12_judged_42 : decode cX12_judged 42 = .ok (.istore 5, 2) := by decide +kernel
theorem dX12_judged_44 : decode cX12_judged 44 = .ok (.iload 5, 2) := by decide +kernel
theorem dX12_judged_46 : decode cX12_judged 46 = .ok (.aload_n 0, 1) := by decide +kernel
theorem dX12_judged_47 : decode cX12_judged 47 = .ok (.getfield 81, 3) := by decide +kernel
theorem dX12_judged_50 : decode cX12_judged 50 = .ok (.iconst 0, 1) := by decide +kernel
theorem dX12_judged_51 : decode cX12_judged 51 = .ok (.iaload, 1) := by decide +kernel
theorem dX12_judged_52 : decode cX12_judged 52 = .ok (.if_icmp .ge 82, 3) := by decide +kernel
theorem dX12_judged_55 : decode cX12_judged 55 = .ok (.aload_n 0, 1) := by decide +kernel
theorem dX12_judged_56 : decode cX12_judged 56 = .ok (.iload 5, 2) := by decide +kernel
theorem dX12_judged_58 : decode cX12_judged 58 = .ok (.invokevirtual 384, 3) := by decide +kernel
theorem dX12_judged_61 : decode cX12_judged 61 = .ok (.istore 6, 2) := by decide +kernel
theorem dX12_judged_63 : decode cX12_judged 63 = .ok (.iload 6, 2) := by decide +kernel
theorem dX12_judged_65 : decode cX12_judged 65 = .ok (.ifCond .ne 10, 3) := by decide +kernel
theorem dX12_judged_68 : decode cX12_judged 68 = .ok (.iload_n 2, 1) := by decide +kernel
theorem dX12_judged_69 : decode cX12_judged 69 = .ok (.ifCond .ge 6, 3) := by decide +kernel
theorem dX12_judged_72 : decode cX12_judged 72 = .ok (.iload 5, 2) := by decide +kernel
theorem dX12_judged_74 : decode cX12_judged 74 = .ok (.istore_n 2, 1) := by decide +kernel
theorem dX12_judged_75 : decode cX12_judged 75 = .ok (.iload 6, 2) := by decide +kernel
theorem dX12_judged_77 : decode cX12_judged 77 = .ok (.ifCond .eq 51, 3) := by decide +kernel
theorem dX12_judged_80 : decode cX12_judged 80 = .ok (.aload_n 0, 1) := by decide +kernel
theorem dX12_judged_81 : decode cX12_judged 81 = .ok (.getfield 84, 3) := by decide +kernel
theorem dX12_judged_84 : decode cX12_judged 84 = .ok (.iload 5, 2) := by decide +kernel
theorem dX12_judged_86 : decode cX12_judged 86 = .ok (.iaload, 1) := by decide +kernel
theorem dX12_judged_87 : decode cX12_judged 87 = .ok (.ifCond .eq 6, 3) := by decide +kernel
theorem dX12_judged_90 : decode cX12_judged 90 = .ok (.goto 38, 3) := by decide +kernel
theorem dX12_judged_93 : decode cX12_judged 93 = .ok (.iload 4, 2) := by decide +kernel
theorem dX12_judged_95 : decode cX12_judged 95 = .ok (.aload_n 0, 1) := by decide +kernel
theorem dX12_judged_96 : decode cX12_judged 96 = .ok (.aload_n 0, 1) := by decide +kernel
theorem dX12_judged_97 : decode cX12_judged 97 = .ok (.getfield 105, 3) := by decide +kernel
theorem dX12_judged_100 : decode cX12_judged 100 = .ok (.iconst 0, 1) := by decide +kernel
theorem dX12_judged_101 : decode cX12_judged 101 = .ok (.iaload, 1) := by decide +kernel
theorem dX12_judged_102 : decode cX12_judged 102 = .ok (.invokevirtual 369, 3) := by decide +kernel
theorem dX12_judged_105 : decode cX12_judged 105 = .ok (.iadd, 1) := by decide +kernel
theorem dX12_judged_106 : decode cX12_judged 106 = .ok (.istore 4, 2) := by decide +kernel
theorem dX12_judged_108 : decode cX12_judged 108 = .ok (.iload_n 3, 1) := by decide +kernel
theorem dX12_judged_109 : decode cX12_judged 109 = .ok (.ifCond .ge 19, 3) := by decide +kernel
theorem dX12_judged_112 : decode cX12_judged 112 = .ok (.aload_n 0, 1) := by decide +kernel
theorem dX12_judged_113 : decode cX12_judged 113 = .ok (.aload_n 0, 1) := by decide +kernel
theorem dX12_judged_114 : decode cX12_judged 114 = .ok (.getfield 105, 3) := by decide +kernel
theorem dX12_judged_117 : decode cX12_judged 117 = .ok (.iconst 0, 1) := by decide +kernel
theorem dX12_judged_118 : decode cX12_judged 118 = .ok (.iaload, 1) := by decide +kernel
theorem dX12_judged_119 : decode cX12_judged 119 = .ok (.invokevirtual 387, 3) := by decide +kernel
theorem dX12_judged_122 : decode cX12_judged 122 = .ok (.ifCond .ne 6, 3) := by decide +kernel
theorem dX12_judged_125 : decode cX12_judged 125 = .ok (.iload 5, 2) := by decide +kernel
theorem dX12_judged_127 : decode cX12_judged 127 = .ok (.istore_n 3, 1) := by decide +kernel
theorem dX12_judged_128 : decode cX12_judged 128 = .ok (.iinc 5 1, 3) := by decide +kernel
theorem dX12_judged_131 : decode cX12_judged 131 = .ok (.goto (-87), 3) := by decide +kernel
theorem dX12_judged_134 : decode cX12_judged 134 = .ok (.aload_n 0, 1) := by decide +kernel
theorem dX12_judged_135 : decode cX12_judged 135 = .ok (.getfield 108, 3) := by decide +kernel
theorem dX12_judged_138 : decode cX12_judged 138 = .ok (.iconst 0, 1) := by decide +kernel
theorem dX12_judged_139 : decode cX12_judged 139 = .ok (.aload_n 0, 1) := by decide +kernel
theorem dX12_judged_140 : decode cX12_judged 140 = .ok (.getfield 105, 3) := by decide +kernel
theorem dX12_judged_143 : decode cX12_judged 143 = .ok (.iconst 0, 1) := by decide +kernel
theorem dX12_judged_144 : decode cX12_judged 144 = .ok (.invokestatic 359, 3) := by decide +kernel
theorem dX12_judged_147 : decode cX12_judged 147 = .ok (.iload_n 1, 1) := by decide +kernel
theorem dX12_judged_148 : decode cX12_judged 148 = .ok (.ifCond .ne 7, 3) := by decide +kernel
theorem dX12_judged_151 : decode cX12_judged 151 = .ok (.iload_n 2, 1) := by decide +kernel
theorem dX12_judged_152 : decode cX12_judged 152 = .ok (.goto 14, 3) := by decide +kernel
theorem dX12_judged_155 : decode cX12_judged 155 = .ok (.iload_n 1, 1) := by decide +kernel
theorem dX12_judged_156 : decode cX12_judged 156 = .ok (.iconst 1, 1) := by decide +kernel
theorem dX12_judged_157 : decode cX12_judged 157 = .ok (.if_icmp .ne 7, 3) := by decide +kernel
theorem dX12_judged_160 : decode cX12_judged 160 = .ok (.iload_n 3, 1) := by decide +kernel
theorem dX12_judged_161 : decode cX12_judged 161 = .ok (.goto 5, 3) := by decide +kernel
theorem dX12_judged_164 : decode cX12_judged 164 = .ok (.iload 4, 2) := by decide +kernel
theorem dX12_judged_166 : decode cX12_judged 166 = .ok (.ireturn, 1) := by decide +kernel
theorem dX12_goesOn_0 : decode cX12_goesOn 0 = .ok (.aload_n 0, 1) := by decide +kernel
theorem dX12_goesOn_1 : decode cX12_goesOn 1 = .ok (.getfield 105, 3) := by decide +kernel
theorem dX12_goesOn_4 : decode cX12_goesOn 4 = .ok (.iconst 0, 1) := by decide +kernel
theorem dX12_goesOn_5 : decode cX12_goesOn 5 = .ok (.aload_n 0, 1) := by decide +kernel
theorem dX12_goesOn_6 : decode cX12_goesOn 6 = .ok (.getfield 108, 3) := by decide +kernel
theorem dX12_goesOn_9 : decode cX12_goesOn 9 = .ok (.iconst 0, 1) := by decide +kernel
theorem dX12_goesOn_10 : decode cX12_goesOn 10 = .ok (.invokestatic 359, 3) := by decide +kernel
theorem dX12_goesOn_13 : decode cX12_goesOn 13 = .ok (.aload_n 0, 1) := by decide +kernel
theorem dX12_goesOn_14 : decode cX12_goesOn 14 = .ok (.iconst (-1), 1) := by decide +kernel
theorem dX12_goesOn_15 : decode cX12_goesOn 15 = .ok (.putfield 390, 3) := by decide +kernel
theorem dX12_goesOn_18 : decode cX12_goesOn 18 = .ok (.aload_n 0, 1) := by decide +kernel
theorem dX12_goesOn_19 : decode cX12_goesOn 19 = .ok (.iconst 0, 1) := by decide +kernel
theorem dX12_goesOn_20 : decode cX12_goesOn 20 = .ok (.putfield 393, 3) := by decide +kernel
theorem dX12_goesOn_23 : decode cX12_goesOn 23 = .ok (.iconst 0, 1) := by decide +kernel
theorem dX12_goesOn_24 : decode cX12_goesOn 24 = .ok (.istore_n 2, 1) := by decide +kernel
theorem dX12_goesOn_25 : decode cX12_goesOn 25 = .ok (.iload_n 2, 1) := by decide +kernel
theorem dX12_goesOn_26 : decode cX12_goesOn 26 = .ok (.bipush 6, 2) := by decide +kernel
theorem dX12_goesOn_28 : decode cX12_goesOn 28 = .ok (.if_icmp .ge 16, 3) := by decide +kernel
theorem dX12_goesOn_31 : decode cX12_goesOn 31 = .ok (.aload_n 0, 1) := by decide +kernel
theorem dX12_goesOn_32 : decode cX12_goesOn 32 = .ok (.getfield 123, 3) := by decide +kernel
theorem dX12_goesOn_35 : decode cX12_goesOn 35 = .ok (.iload_n 2, 1) := by decide +kernel
theorem dX12_goesOn_36 : decode cX12_goesOn 36 = .ok (.iconst (-1), 1) := by decide +kernel
theorem dX12_goesOn_37 : decode cX12_goesOn 37 = .ok (.iastore, 1) := by decide +kernel
theorem dX12_goesOn_38 : decode cX12_goesOn 38 = .ok (.iinc 2 1, 3) := by decide +kernel
theorem dX12_goesOn_41 : decode cX12_goesOn 41 = .ok (.goto (-16), 3) := by decide +kernel
theorem dX12_goesOn_44 : decode cX12_goesOn 44 = .ok (.iconst 0, 1) := by decide +kernel
theorem dX12_goesOn_45 : decode cX12_goesOn 45 = .ok (.istore_n 2, 1) := by decide +kernel
theorem dX12_goesOn_46 : decode cX12_goesOn 46 = .ok (.iload_n 2, 1) := by decide +kernel
theorem dX12_goesOn_47 : decode cX12_goesOn 47 = .ok (.bipush 10, 2) := by decide +kernel
theorem dX12_goesOn_49 : decode cX12_goesOn 49 = .ok (.if_icmp .ge 16, 3) := by decide +kernel
theorem dX12_goesOn_52 : decode cX12_goesOn 52 = .ok (.aload_n 0, 1) := by decide +kernel
theorem dX12_goesOn_53 : decode cX12_goesOn 53 = .ok (.getfield 126, 3) := by decide +kernel
theorem dX12_goesOn_56 : decode cX12_goesOn 56 = .ok (.iload_n 2, 1) := by decide +kernel
theorem dX12_goesOn_57 : decode cX12_goesOn 57 = .ok (.iconst (-1), 1) := by decide +kernel
theorem dX12_goesOn_58 : decode cX12_goesOn 58 = .ok (.iastore, 1) := by decide +kernel
theorem dX12_goesOn_59 : decode cX12_goesOn 59 = .ok (.iinc 2 1, 3) := by decide +kernel
theorem dX12_goesOn_62 : decode cX12_goesOn 62 = .ok (.goto (-16), 3) := by decide +kernel
theorem dX12_goesOn_65 : decode cX12_goesOn 65 = .ok (.aload_n 0, 1) := by decide +kernel
theorem dX12_goesOn_66 : decode cX12_goesOn 66 = .ok (.getfield 105, 3) := by decide +kernel
theorem dX12_goesOn_69 : decode cX12_goesOn 69 = .ok (.iconst 1, 1) := by decide +kernel
theorem dX12_goesOn_70 : decode cX12_goesOn 70 = .ok (.iaload, 1) := by decide +kernel
theorem dX12_goesOn_71 : decode cX12_goesOn 71 = .ok (.istore_n 2, 1) := by decide +kernel
theorem dX12_goesOn_72 : decode cX12_goesOn 72 = .ok (.iload_n 2, 1) := by decide +kernel
theorem dX12_goesOn_73 : decode cX12_goesOn 73 = .ok (.aload_n 0, 1) := by decide +kernel
theorem dX12_goesOn_74 : decode cX12_goesOn 74 = .ok (.getfield 13, 3) := by decide +kernel
theorem dX12_goesOn_77 : decode cX12_goesOn 77 = .ok (.iconst 1, 1) := by decide +kernel
theorem dX12_goesOn_78 : decode cX12_goesOn 78 = .ok (.iaload, 1) := by decide +kernel
theorem dX12_goesOn_79 : decode cX12_goesOn 79 = .ok (.if_icmp .ge 139, 3) := by decide +kernel
theorem dX12_goesOn_82 : decode cX12_goesOn 82 = .ok (.aload_n 0, 1) := by decide +kernel
theorem dX12_goesOn_83 : decode cX12_goesOn 83 = .ok (.getfield 105, 3) := by decide +kernel
theorem dX12_goesOn_86 : decode cX12_goesOn 86 = .ok (.iconst 3, 1) := by decide +kernel
theorem dX12_goesOn_87 : decode cX12_goesOn 87 = .ok (.iload_n 2, 1) := by decide +kernel
theorem dX12_goesOn_88 : decode cX12_goesOn 88 = .ok (.iadd, 1) := by decide +kernel
theorem dX12_goesOn_89 : decode cX12_goesOn 89 = .ok (.iaload, 1) := by decide +kernel
theorem dX12_goesOn_90 : decode cX12_goesOn 90 = .ok (.istore_n 3, 1) := by decide +kernel
theorem dX12_goesOn_91 : decode cX12_goesOn 91 = .ok (.aload_n 0, 1) := by decide +kernel
theorem dX12_goesOn_92 : decode cX12_goesOn 92 = .ok (.getfield 105, 3) := by decide +kernel
theorem dX12_goesOn_95 : decode cX12_goesOn 95 = .ok (.iconst 0, 1) := by decide +kernel
theorem dX12_goesOn_96 : decode cX12_goesOn 96 = .ok (.iaload, 1) := by decide +kernel
theorem dX12_goesOn_97 : decode cX12_goesOn 97 = .ok (.istore 4, 2) := by decide +kernel
theorem dX12_goesOn_99 : decode cX12_goesOn 99 = .ok (.iload_n 3, 1) := by decide +kernel
theorem dX12_goesOn_100 : decode cX12_goesOn 100 = .ok (.iload_n 1, 1) := by decide +kernel
theorem dX12_goesOn_101 : decode cX12_goesOn 101 = .ok (.if_icmp .eq 8, 3) := by decide +kernel
theorem dX12_goesOn_104 : decode cX12_goesOn 104 = .ok (.aload_n 0, 1) := by decide +kernel
theorem dX12_goesOn_105 : decode cX12_goesOn 105 = .ok (.iload_n 3, 1) := by decide +kernel
theorem dX12_goesOn_106 : decode cX12_goesOn 106 = .ok (.invokevirtual 344, 3) := by decide +kernel
theorem dX12_goesOn_109 : decode cX12_goesOn 109 = .ok (.iconst 0, 1) := by decide +kernel
theorem dX12_goesOn_110 : decode cX12_goesOn 110 = .ok (.istore 5, 2) := by decide +kernel
theorem dX12_goesOn_112 : decode cX12_goesOn 112 = .ok (.iload 5, 2) := by decide +kernel
theorem dX12_goesOn_114 : decode cX12_goesOn 114 = .ok (.aload_n 0, 1) := by decide +kernel
theorem dX12_goesOn_115 : decode cX12_goesOn 115 = .ok (.getfield 13, 3) := by decide +kernel
theorem dX12_goesOn_118 : decode cX12_goesOn 118 = .ok (.iconst 0, 1) := by decide +kernel
theorem dX12_goesOn_119 : decode cX12_goesOn 119 = .ok (.iaload, 1) := by decide +kernel
theorem dX12_goesOn_120 : decode cX12_goesOn 120 = .ok (.if_icmp .ge 36, 3) := by decide +kernel
theorem dX12_goesOn_123 : decode cX12_goesOn 123 = .ok (.iload 4, 2) := by decide +kernel
theorem dX12_goesOn_125 : decode cX12_goesOn 125 = .ok (.aload_n 0, 1) := by decide +kernel
theorem dX12_goesOn_126 : decode cX12_goesOn 126 = .ok (.getfield 105, 3) := by decide +kernel
theorem dX12_goesOn_129 : decode cX12_goesOn 129 = .ok (.iconst 0, 1) := by decide +kernel
theorem dX12_goesOn_130 : decode cX12_goesOn 130 = .ok (.iaload, 1) := by decide +kernel
theorem dX12_goesOn_131 : decode cX12_goesOn 131 = .ok (.iconst (-1), 1) := by decide +kernel
theorem dX12_goesOn_132 : decode cX12_goesOn 132 = .ok (.ixor, 1) := by decide +kernel
theorem dX12_goesOn_133 : decode cX12_goesOn 133 = .ok (.iand, 1) := by decide +kernel
theorem dX12_goesOn_134 : decode cX12_goesOn 134 = .ok (.iconst 1, 1) := by decide +kernel
theorem dX12_goesOn_135 : decode cX12_goesOn 135 = .ok (.iload 5, 2) := by decide +kernel
theorem dX12_goesOn_137 : decode cX12_goesOn 137 = .ok (.ishl, 1) := by decide +kernel
theorem dX12_goesOn_138 : decode cX12_goesOn 138 = .ok (.iand, 1) := by decide +kernel
theorem dX12_goesOn_139 : decode cX12_goesOn 139 = .ok (.ifCond .eq 11, 3) := by decide +kernel
theorem dX12_goesOn_142 : decode cX12_goesOn 142 = .ok (.aload_n 0, 1) := by decide +kernel
theorem dX12_goesOn_143 : decode cX12_goesOn 143 = .ok (.getfield 126, 3) := by decide +kernel
theorem dX12_goesOn_146 : decode cX12_goesOn 146 = .ok (.iload 5, 2) := by decide +kernel
theorem dX12_goesOn_148 : decode cX12_goesOn 148 = .ok (.iload_n 3, 1) := by decide +kernel
theorem dX12_goesOn_149 : decode cX12_goesOn 149 = .ok (.iastore, 1) := by decide +kernel
theorem dX12_goesOn_150 : decode cX12_goesOn 150 = .ok (.iinc 5 1, 3) := by decide +kernel
theorem dX12_goesOn_153 : decode cX12_goesOn 153 = .ok (.goto (-41), 3) := by decide +kernel
theorem dX12_goesOn_156 : decode cX12_goesOn 156 = .ok (.aload_n 0, 1) := by decide +kernel
theorem dX12_goesOn_157 : decode cX12_goesOn 157 = .ok (.getfield 123, 3) := by decide +kernel
theorem dX12_goesOn_160 : decode cX12_goesOn 160 = .ok (.iload_n 3, 1) := by decide +kernel
theorem dX12_goesOn_161 : decode cX12_goesOn 161 = .ok (.aload_n 0, 1) := by decide +kernel
theorem dX12_goesOn_162 : decode cX12_goesOn 162 = .ok (.getfield 105, 3) := by decide +kernel
theorem dX12_goesOn_165 : decode cX12_goesOn 165 = .ok (.iconst 0, 1) := by decide +kernel
theorem dX12_goesOn_166 : decode cX12_goesOn 166 = .ok (.iaload, 1) := by decide +kernel
theorem dX12_goesOn_167 : decode cX12_goesOn 167 = .ok (.iastore, 1) := by decide +kernel
theorem dX12_goesOn_168 : decode cX12_goesOn 168 = .ok (.aload_n 0, 1) := by decide +kernel
theorem dX12_goesOn_169 : decode cX12_goesOn 169 = .ok (.dup, 1) := by decide +kernel
theorem dX12_goesOn_170 : decode cX12_goesOn 170 = .ok (.getfield 393, 3) := by decide +kernel
theorem dX12_goesOn_173 : decode cX12_goesOn 173 = .ok (.aload_n 0, 1) := by decide +kernel
theorem dX12_goesOn_174 : decode cX12_goesOn 174 = .ok (.aload_n 0, 1) := by decide +kernel
theorem dX12_goesOn_175 : decode cX12_goesOn 175 = .ok (.getfield 105, 3) := by decide +kernel
theorem dX12_goesOn_178 : decode cX12_goesOn 178 = .ok (.iconst 0, 1) := by decide +kernel
theorem dX12_goesOn_179 : decode cX12_goesOn 179 = .ok (.iaload, 1) := by decide +kernel
theorem dX12_goesOn_180 : decode cX12_goesOn 180 = .ok (.invokevirtual 369, 3) := by decide +kernel
theorem dX12_goesOn_183 : decode cX12_goesOn 183 = .ok (.iadd, 1) := by decide +kernel
theorem dX12_goesOn_184 : decode cX12_goesOn 184 = .ok (.putfield 393, 3) := by decide +kernel
theorem dX12_goesOn_187 : decode cX12_goesOn 187 = .ok (.aload_n 0, 1) := by decide +kernel
theorem dX12_goesOn_188 : decode cX12_goesOn 188 = .ok (.getfield 390, 3) := by decide +kernel
theorem dX12_goesOn_191 : decode cX12_goesOn 191 = .ok (.ifCond .ge 21, 3) := by decide +kernel
theorem dX12_goesOn_194 : decode cX12_goesOn 194 = .ok (.aload_n 0, 1) := by decide +kernel
theorem dX12_goesOn_195 : decode cX12_goesOn 195 = .ok (.aload_n 0, 1) := by decide +kernel
theorem dX12_goesOn_196 : decode cX12_goesOn 196 = .ok (.getfield 105, 3) := by decide +kernel
theorem dX12_goesOn_199 : decode cX12_goesOn 199 = .ok (.iconst 0, 1) := by decide +kernel
theorem dX12_goesOn_200 : decode cX12_goesOn 200 = .ok (.iaload, 1) := by decide +kernel
theorem dX12_goesOn_201 : decode cX12_goesOn 201 = .ok (.invokevirtual 387, 3) := by decide +kernel
theorem dX12_goesOn_204 : decode cX12_goesOn 204 = .ok (.ifCond .ne 8, 3) := by decide +kernel
theorem dX12_goesOn_207 : decode cX12_goesOn 207 = .ok (.aload_n 0, 1) := by decide +kernel
theorem dX12_goesOn_208 : decode cX12_goesOn 208 = .ok (.iload_n 3, 1) := by decide +kernel
theorem dX12_goesOn_209 : decode cX12_goesOn 209 = .ok (.putfield 390, 3) := by decide +kernel
theorem dX12_goesOn_212 : decode cX12_goesOn 212 = .ok (.iinc 2 1, 3) := by decide +kernel
theorem dX12_goesOn_215 : decode cX12_goesOn 215 = .ok (.goto (-143), 3) := by decide +kernel
theorem dX12_goesOn_218 : decode cX12_goesOn 218 = .ok (.aload_n 0, 1) := by decide +kernel
theorem dX12_goesOn_219 : decode cX12_goesOn 219 = .ok (.getfield 108, 3) := by decide +kernel
theorem dX12_goesOn_222 : decode cX12_goesOn 222 = .ok (.iconst 0, 1) := by decide +kernel
theorem dX12_goesOn_223 : decode cX12_goesOn 223 = .ok (.aload_n 0, 1) := by decide +kernel
theorem dX12_goesOn_224 : decode cX12_goesOn 224 = .ok (.getfield 105, 3) := by decide +kernel
theorem dX12_goesOn_227 : decode cX12_goesOn 227 = .ok (.iconst 0, 1) := by decide +kernel
theorem dX12_goesOn_228 : decode cX12_goesOn 228 = .ok (.invokestatic 359, 3) := by decide +kernel
theorem dX12_goesOn_231 : decode cX12_goesOn 231 = .ok (.return_, 1) := by decide +kernel
theorem dX12_shown_0 : decode cX12_shown 0 = .ok (.aload_n 0, 1) := by decide +kernel
theorem dX12_shown_1 : decode cX12_shown 1 = .ok (.iconst 0, 1) := by decide +kernel
theorem dX12_shown_2 : decode cX12_shown 2 = .ok (.putfield 138, 3) := by decide +kernel
theorem dX12_shown_5 : decode cX12_shown 5 = .ok (.aload_n 0, 1) := by decide +kernel
theorem dX12_shown_6 : decode cX12_shown 6 = .ok (.iload_n 1, 1) := by decide +kernel
theorem dX12_shown_7 : decode cX12_shown 7 = .ok (.invokevirtual 350, 3) := by decide +kernel
theorem dX12_shown_10 : decode cX12_shown 10 = .ok (.ifCond .eq 7, 3) := by decide +kernel
theorem dX12_shown_13 : decode cX12_shown 13 = .ok (.iload_n 2, 1) := by decide +kernel
theorem dX12_shown_14 : decode cX12_shown 14 = .ok (.ifCond .ge 5, 3) := by decide +kernel
theorem dX12_shown_17 : decode cX12_shown 17 = .ok (.iconst (-1), 1) := by decide +kernel
theorem dX12_shown_18 : decode cX12_shown 18 = .ok (.ireturn, 1) := by decide +kernel
theorem dX12_shown_19 : decode cX12_shown 19 = .ok (.aload_n 0, 1) := by decide +kernel
theorem dX12_shown_20 : decode cX12_shown 20 = .ok (.iconst (-1), 1) := by decide +kernel
theorem dX12_shown_21 : decode cX12_shown 21 = .ok (.invokevirtual 396, 3) := by decide +kernel
theorem dX12_shown_24 : decode cX12_shown 24 = .ok (.aload_n 0, 1) := by decide +kernel
theorem dX12_shown_25 : decode cX12_shown 25 = .ok (.getfield 123, 3) := by decide +kernel
theorem dX12_shown_28 : decode cX12_shown 28 = .ok (.iload_n 1, 1) := by decide +kernel
theorem dX12_shown_29 : decode cX12_shown 29 = .ok (.iaload, 1) := by decide +kernel
theorem dX12_shown_30 : decode cX12_shown 30 = .ok (.ifCond .ge 5, 3) := by decide +kernel
theorem dX12_shown_33 : decode cX12_shown 33 = .ok (.iconst (-1), 1) := by decide +kernel
theorem dX12_shown_34 : decode cX12_shown 34 = .ok (.ireturn, 1) := by decide +kernel
theorem dX12_shown_35 : decode cX12_shown 35 = .ok (.iconst 0, 1) := by decide +kernel
theorem dX12_shown_36 : decode cX12_shown 36 = .ok (.istore_n 3, 1) := by decide +kernel
theorem dX12_shown_37 : decode cX12_shown 37 = .ok (.iconst 0, 1) := by decide +kernel
theorem dX12_shown_38 : decode cX12_shown 38 = .ok (.istore 4, 2) := by decide +kernel
theorem dX12_shown_40 : decode cX12_shown 40 = .ok (.iload 4, 2) := by decide +kernel
theorem dX12_shown_42 : decode cX12_shown 42 = .ok (.aload_n 0, 1) := by decide +kernel
theorem dX12_shown_43 : decode cX12_shown 43 = .ok (.getfield 13, 3) := by decide +kernel
theorem dX12_shown_46 : decode cX12_shown 46 = .ok (.iconst 0, 1) := by decide +kernel
theorem dX12_shown_47 : decode cX12_shown 47 = .ok (.iaload, 1) := by decide +kernel
theorem dX12_shown_48 : decode cX12_shown 48 = .ok (.if_icmp .ge 37, 3) := by decide +kernel
theorem dX12_shown_51 : decode cX12_shown 51 = .ok (.aload_n 0, 1) := by decide +kernel
theorem dX12_shown_52 : decode cX12_shown 52 = .ok (.getfield 123, 3) := by decide +kernel
theorem dX12_shown_55 : decode cX12_shown 55 = .ok (.iload_n 1, 1) := by decide +kernel
theorem dX12_shown_56 : decode cX12_shown 56 = .ok (.iaload, 1) := by decide +kernel
theorem dX12_shown_57 : decode cX12_shown 57 = .ok (.iload 4, 2) := by decide +kernel
theorem dX12_shown_59 : decode cX12_shown 59 = .ok (.ishr, 1) := by decide +kernel
theorem dX12_shown_60 : decode cX12_shown 60 = .ok (.iconst 1, 1) := by decide +kernel
theorem dX12_shown_61 : decode cX12_shown 61 = .ok (.iand, 1) := by decide +kernel
theorem dX12_shown_62 : decode cX12_shown 62 = .ok (.ifCond .ne 6, 3) := by decide +kernel
theorem dX12_shown_65 : decode cX12_shown 65 = .ok (.goto 14, 3) := by decide +kernel
theorem dX12_shown_68 : decode cX12_shown 68 = .ok (.iload_n 3, 1) := by decide +kernel
theorem dX12_shown_69 : decode cX12_shown 69 = .ok (.iload_n 2, 1) := by decide +kernel
theorem dX12_shown_70 : decode cX12_shown 70 = .ok (.if_icmp .ne 6, 3) := by decide +kernel
theorem dX12_shown_73 : decode cX12_shown 73 = .ok (.iload 4, 2) := by decide +kernel
theorem dX12_shown_75 : decode cX12_shown 75 = .ok (.ireturn, 1) := by decide +kernel
theorem dX12_shown_76 : decode cX12_shown 76 = .ok (.iinc 3 1, 3) := by decide +kernel
theorem dX12_shown_79 : decode cX12_shown 79 = .ok (.iinc 4 1, 3) := by decide +kernel
theorem dX12_shown_82 : decode cX12_shown 82 = .ok (.goto (-42), 3) := by decide +kernel
theorem dX12_shown_85 : decode cX12_shown 85 = .ok (.iconst (-1), 1) := by decide +kernel
theorem dX12_shown_86 : decode cX12_shown 86 = .ok (.ireturn, 1) := by decide +kernel
theorem dX12_minutes_0 : decode cX12_minutes 0 = .ok (.aload_n 0, 1) := by decide +kernel
theorem dX12_minutes_1 : decode cX12_minutes 1 = .ok (.iconst 0, 1) := by decide +kernel
theorem dX12_minutes_2 : decode cX12_minutes 2 = .ok (.putfield 138, 3) := by decide +kernel
theorem dX12_minutes_5 : decode cX12_minutes 5 = .ok (.aload_n 0, 1) := by decide +kernel
theorem dX12_minutes_6 : decode cX12_minutes 6 = .ok (.iload_n 1, 1) := by decide +kernel
theorem dX12_minutes_7 : decode cX12_minutes 7 = .ok (.invokevirtual 350, 3) := by decide +kernel
theorem dX12_minutes_10 : decode cX12_minutes 10 = .ok (.ifCond .ne 5, 3) := by decide +kernel
theorem dX12_minutes_13 : decode cX12_minutes 13 = .ok (.iconst (-1), 1) := by decide +kernel
theorem dX12_minutes_14 : decode cX12_minutes 14 = .ok (.ireturn, 1) := by decide +kernel
theorem dX12_minutes_15 : decode cX12_minutes 15 = .ok (.aload_n 0, 1) := by decide +kernel
theorem dX12_minutes_16 : decode cX12_minutes 16 = .ok (.iconst (-1), 1) := by decide +kernel
theorem dX12_minutes_17 : decode cX12_minutes 17 = .ok (.invokevirtual 396, 3) := by decide +kernel
theorem dX12_minutes_20 : decode cX12_minutes 20 = .ok (.aload_n 0, 1) := by decide +kernel
theorem dX12_minutes_21 : decode cX12_minutes 21 = .ok (.getfield 123, 3) := by decide +kernel
theorem dX12_minutes_24 : decode cX12_minutes 24 = .ok (.iload_n 1, 1) := by decide +kernel
theorem dX12_minutes_25 : decode cX12_minutes 25 = .ok (.iaload, 1) := by decide +kernel
theorem dX12_minutes_26 : decode cX12_minutes 26 = .ok (.ifCond .ge 7, 3) := by decide +kernel
theorem dX12_minutes_29 : decode cX12_minutes 29 = .ok (.iconst (-1), 1) := by decide +kernel
theorem dX12_minutes_30 : decode cX12_minutes 30 = .ok (.goto 13, 3) := by decide +kernel
theorem dX12_minutes_33 : decode cX12_minutes 33 = .ok (.aload_n 0, 1) := by decide +kernel
theorem dX12_minutes_34 : decode cX12_minutes 34 = .ok (.aload_n 0, 1) := by decide +kernel
theorem dX12_minutes_35 : decode cX12_minutes 35 = .ok (.getfield 123, 3) := by decide +kernel
theorem dX12_minutes_38 : decode cX12_minutes 38 = .ok (.iload_n 1, 1) := by decide +kernel
theorem dX12_minutes_39 : decode cX12_minutes 39 = .ok (.iaload, 1) := by decide +kernel
theorem dX12_minutes_40 : decode cX12_minutes 40 = .ok (.invokevirtual 369, 3) := by decide +kernel
theorem dX12_minutes_43 : decode cX12_minutes 43 = .ok (.ireturn, 1) := by decide +kernel
theorem dX12_silly_0 : decode cX12_silly 0 = .ok (.aload_n 0, 1) := by decide +kernel
theorem dX12_silly_1 : decode cX12_silly 1 = .ok (.iconst 0, 1) := by decide +kernel
theorem dX12_silly_2 : decode cX12_silly 2 = .ok (.putfield 138, 3) := by decide +kernel
theorem dX12_silly_5 : decode cX12_silly 5 = .ok (.aload_n 0, 1) := by decide +kernel
theorem dX12_silly_6 : decode cX12_silly 6 = .ok (.iconst (-1), 1) := by decide +kernel
theorem dX12_silly_7 : decode cX12_silly 7 = .ok (.invokevirtual 396, 3) := by decide +kernel
theorem dX12_silly_10 : decode cX12_silly 10 = .ok (.aload_n 0, 1) := by decide +kernel
theorem dX12_silly_11 : decode cX12_silly 11 = .ok (.getfield 390, 3) := by decide +kernel
theorem dX12_silly_14 : decode cX12_silly 14 = .ok (.ireturn, 1) := by decide +kernel
theorem dX12_gone_0 : decode cX12_gone 0 = .ok (.aload_n 0, 1) := by decide +kernel
theorem dX12_gone_1 : decode cX12_gone 1 = .ok (.iconst 0, 1) := by decide +kernel
theorem dX12_gone_2 : decode cX12_gone 2 = .ok (.putfield 138, 3) := by decide +kernel
theorem dX12_gone_5 : decode cX12_gone 5 = .ok (.aload_n 0, 1) := by decide +kernel
theorem dX12_gone_6 : decode cX12_gone 6 = .ok (.iload_n 1, 1) := by decide +kernel
theorem dX12_gone_7 : decode cX12_gone 7 = .ok (.invokevirtual 347, 3) := by decide +kernel
theorem dX12_gone_10 : decode cX12_gone 10 = .ok (.ifCond .ne 5, 3) := by decide +kernel
theorem dX12_gone_13 : decode cX12_gone 13 = .ok (.iconst (-1), 1) := by decide +kernel
theorem dX12_gone_14 : decode cX12_gone 14 = .ok (.ireturn, 1) := by decide +kernel
theorem dX12_gone_15 : decode cX12_gone 15 = .ok (.aload_n 0, 1) := by decide +kernel
theorem dX12_gone_16 : decode cX12_gone 16 = .ok (.iconst (-1), 1) := by decide +kernel
theorem dX12_gone_17 : decode cX12_gone 17 = .ok (.invokevirtual 396, 3) := by decide +kernel
theorem dX12_gone_20 : decode cX12_gone 20 = .ok (.aload_n 0, 1) := by decide +kernel
theorem dX12_gone_21 : decode cX12_gone 21 = .ok (.getfield 126, 3) := by decide +kernel
theorem dX12_gone_24 : decode cX12_gone 24 = .ok (.iload_n 1, 1) := by decide +kernel
theorem dX12_gone_25 : decode cX12_gone 25 = .ok (.iaload, 1) := by decide +kernel
theorem dX12_gone_26 : decode cX12_gone 26 = .ok (.ireturn, 1) := by decide +kernel
theorem dX12_saves_0 : decode cX12_saves 0 = .ok (.aload_n 0, 1) := by decide +kernel
theorem dX12_saves_1 : decode cX12_saves 1 = .ok (.aload_n 0, 1) := by decide +kernel
theorem dX12_saves_2 : decode cX12_saves 2 = .ok (.iload_n 1, 1) := by decide +kernel
theorem dX12_saves_3 : decode cX12_saves 3 = .ok (.invokevirtual 350, 3) := by decide +kernel
theorem dX12_saves_6 : decode cX12_saves 6 = .ok (.ifCond .eq 21, 3) := by decide +kernel
theorem dX12_saves_9 : decode cX12_saves 9 = .ok (.aload_n 0, 1) := by decide +kernel
theorem dX12_saves_10 : decode cX12_saves 10 = .ok (.iload_n 1, 1) := by decide +kernel
theorem dX12_saves_11 : decode cX12_saves 11 = .ok (.invokevirtual 356, 3) := by decide +kernel
theorem dX12_saves_14 : decode cX12_saves 14 = .ok (.aload_n 0, 1) := by decide +kernel
theorem dX12_saves_15 : decode cX12_saves 15 = .ok (.getfield 105, 3) := by decide +kernel
theorem dX12_saves_18 : decode cX12_saves 18 = .ok (.iconst 1, 1) := by decide +kernel
theorem dX12_saves_19 : decode cX12_saves 19 = .ok (.iaload, 1) := by decide +kernel
theorem dX12_saves_20 : decode cX12_saves 20 = .ok (.if_icmp .lt 7, 3) := by decide +kernel
theorem dX12_saves_23 : decode cX12_saves 23 = .ok (.iconst 0, 1) := by decide +kernel
theorem dX12_saves_24 : decode cX12_saves 24 = .ok (.goto 4, 3) := by decide +kernel
theorem dX12_saves_27 : decode cX12_saves 27 = .ok (.iconst 1, 1) := by decide +kernel
theorem dX12_saves_28 : decode cX12_saves 28 = .ok (.putfield 138, 3) := by decide +kernel
theorem dX12_saves_31 : decode cX12_saves 31 = .ok (.aload_n 0, 1) := by decide +kernel
theorem dX12_saves_32 : decode cX12_saves 32 = .ok (.getfield 138, 3) := by decide +kernel
theorem dX12_saves_35 : decode cX12_saves 35 = .ok (.iconst 1, 1) := by decide +kernel
theorem dX12_saves_36 : decode cX12_saves 36 = .ok (.if_icmp .ne 5, 3) := by decide +kernel
theorem dX12_saves_39 : decode cX12_saves 39 = .ok (.iconst 0, 1) := by decide +kernel
theorem dX12_saves_40 : decode cX12_saves 40 = .ok (.ireturn, 1) := by decide +kernel
theorem dX12_saves_41 : decode cX12_saves 41 = .ok (.aload_n 0, 1) := by decide +kernel
theorem dX12_saves_42 : decode cX12_saves 42 = .ok (.iconst (-1), 1) := by decide +kernel
theorem dX12_saves_43 : decode cX12_saves 43 = .ok (.invokevirtual 396, 3) := by decide +kernel
theorem dX12_saves_46 : decode cX12_saves 46 = .ok (.aload_n 0, 1) := by decide +kernel
theorem dX12_saves_47 : decode cX12_saves 47 = .ok (.getfield 393, 3) := by decide +kernel
theorem dX12_saves_50 : decode cX12_saves 50 = .ok (.istore_n 2, 1) := by decide +kernel
theorem dX12_saves_51 : decode cX12_saves 51 = .ok (.aload_n 0, 1) := by decide +kernel
theorem dX12_saves_52 : decode cX12_saves 52 = .ok (.iload_n 1, 1) := by decide +kernel
theorem dX12_saves_53 : decode cX12_saves 53 = .ok (.invokevirtual 396, 3) := by decide +kernel
theorem dX12_saves_56 : decode cX12_saves 56 = .ok (.aload_n 0, 1) := by decide +kernel
theorem dX12_saves_57 : decode cX12_saves 57 = .ok (.getfield 393, 3) := by decide +kernel
theorem dX12_saves_60 : decode cX12_saves 60 = .ok (.iload_n 2, 1) := by decide +kernel
theorem dX12_saves_61 : decode cX12_saves 61 = .ok (.isub, 1) := by decide +kernel
theorem dX12_saves_62 : decode cX12_saves 62 = .ok (.ireturn, 1) := by decide +kernel
theorem dX12_kin_0 : decode cX12_kin 0 = .ok (.aload_n 0, 1) := by decide +kernel
theorem dX12_kin_1 : decode cX12_kin 1 = .ok (.iconst 0, 1) := by decide +kernel
theorem dX12_kin_2 : decode cX12_kin 2 = .ok (.putfield 138, 3) := by decide +kernel
theorem dX12_kin_5 : decode cX12_kin 5 = .ok (.aload_n 0, 1) := by decide +kernel
theorem dX12_kin_6 : decode cX12_kin 6 = .ok (.iload_n 1, 1) := by decide +kernel
theorem dX12_kin_7 : decode cX12_kin 7 = .ok (.invokevirtual 347, 3) := by decide +kernel
theorem dX12_kin_10 : decode cX12_kin 10 = .ok (.ifCond .ne 5, 3) := by decide +kernel
theorem dX12_kin_13 : decode cX12_kin 13 = .ok (.iconst (-1), 1) := by decide +kernel
theorem dX12_kin_14 : decode cX12_kin 14 = .ok (.ireturn, 1) := by decide +kernel
theorem dX12_kin_15 : decode cX12_kin 15 = .ok (.aload_n 0, 1) := by decide +kernel
theorem dX12_kin_16 : decode cX12_kin 16 = .ok (.getfield 29, 3) := by decide +kernel
theorem dX12_kin_19 : decode cX12_kin 19 = .ok (.iload_n 1, 1) := by decide +kernel
theorem dX12_kin_20 : decode cX12_kin 20 = .ok (.iaload, 1) := by decide +kernel
theorem dX12_kin_21 : decode cX12_kin 21 = .ok (.istore_n 2, 1) := by decide +kernel
theorem dX12_kin_22 : decode cX12_kin 22 = .ok (.iconst 0, 1) := by decide +kernel
theorem dX12_kin_23 : decode cX12_kin 23 = .ok (.istore_n 3, 1) := by decide +kernel
theorem dX12_kin_24 : decode cX12_kin 24 = .ok (.iload_n 2, 1) := by decide +kernel
theorem dX12_kin_25 : decode cX12_kin 25 = .ok (.iload_n 3, 1) := by decide +kernel
theorem dX12_kin_26 : decode cX12_kin 26 = .ok (.if_icmp .eq 52, 3) := by decide +kernel
theorem dX12_kin_29 : decode cX12_kin 29 = .ok (.iload_n 2, 1) := by decide +kernel
theorem dX12_kin_30 : decode cX12_kin 30 = .ok (.istore_n 3, 1) := by decide +kernel
theorem dX12_kin_31 : decode cX12_kin 31 = .ok (.iconst 0, 1) := by decide +kernel
theorem dX12_kin_32 : decode cX12_kin 32 = .ok (.istore 4, 2) := by decide +kernel
theorem dX12_kin_34 : decode cX12_kin 34 = .ok (.iload 4, 2) := by decide +kernel
theorem dX12_kin_36 : decode cX12_kin 36 = .ok (.aload_n 0, 1) := by decide +kernel
theorem dX12_kin_37 : decode cX12_kin 37 = .ok (.getfield 13, 3) := by decide +kernel
theorem dX12_kin_40 : decode cX12_kin 40 = .ok (.iconst 0, 1) := by decide +kernel
theorem dX12_kin_41 : decode cX12_kin 41 = .ok (.iaload, 1) := by decide +kernel
theorem dX12_kin_42 : decode cX12_kin 42 = .ok (.if_icmp .ge 33, 3) := by decide +kernel
theorem dX12_kin_45 : decode cX12_kin 45 = .ok (.iload_n 2, 1) := by decide +kernel
theorem dX12_kin_46 : decode cX12_kin 46 = .ok (.iload_n 3, 1) := by decide +kernel
theorem dX12_kin_47 : decode cX12_kin 47 = .ok (.iload 4, 2) := by decide +kernel
theorem dX12_kin_49 : decode cX12_kin 49 = .ok (.ishr, 1) := by decide +kernel
theorem dX12_kin_50 : decode cX12_kin 50 = .ok (.iconst 1, 1) := by decide +kernel
theorem dX12_kin_51 : decode cX12_kin 51 = .ok (.iand, 1) := by decide +kernel
theorem dX12_kin_52 : decode cX12_kin 52 = .ok (.iconst 1, 1) := by decide +kernel
theorem dX12_kin_53 : decode cX12_kin 53 = .ok (.if_icmp .ne 13, 3) := by decide +kernel
theorem dX12_kin_56 : decode cX12_kin 56 = .ok (.aload_n 0, 1) := by decide +kernel
theorem dX12_kin_57 : decode cX12_kin 57 = .ok (.getfield 29, 3) := by decide +kernel
theorem dX12_kin_60 : decode cX12_kin 60 = .ok (.iload 4, 2) := by decide +kernel
theorem dX12_kin_62 : decode cX12_kin 62 = .ok (.iaload, 1) := by decide +kernel
theorem dX12_kin_63 : decode cX12_kin 63 = .ok (.goto 4, 3) := by decide +kernel
theorem dX12_kin_66 : decode cX12_kin 66 = .ok (.iconst 0, 1) := by decide +kernel
theorem dX12_kin_67 : decode cX12_kin 67 = .ok (.ior, 1) := by decide +kernel
theorem dX12_kin_68 : decode cX12_kin 68 = .ok (.istore_n 2, 1) := by decide +kernel
theorem dX12_kin_69 : decode cX12_kin 69 = .ok (.iinc 4 1, 3) := by decide +kernel
theorem dX12_kin_72 : decode cX12_kin 72 = .ok (.goto (-38), 3) := by decide +kernel
theorem dX12_kin_75 : decode cX12_kin 75 = .ok (.goto (-51), 3) := by decide +kernel
theorem dX12_kin_78 : decode cX12_kin 78 = .ok (.iload_n 2, 1) := by decide +kernel
theorem dX12_kin_79 : decode cX12_kin 79 = .ok (.ireturn, 1) := by decide +kernel
theorem dX12_ofSort_0 : decode cX12_ofSort 0 = .ok (.iconst 0, 1) := by decide +kernel
theorem dX12_ofSort_1 : decode cX12_ofSort 1 = .ok (.istore_n 3, 1) := by decide +kernel
theorem dX12_ofSort_2 : decode cX12_ofSort 2 = .ok (.iconst 0, 1) := by decide +kernel
theorem dX12_ofSort_3 : decode cX12_ofSort 3 = .ok (.istore 4, 2) := by decide +kernel
theorem dX12_ofSort_5 : decode cX12_ofSort 5 = .ok (.iload 4, 2) := by decide +kernel
theorem dX12_ofSort_7 : decode cX12_ofSort 7 = .ok (.aload_n 0, 1) := by decide +kernel
theorem dX12_ofSort_8 : decode cX12_ofSort 8 = .ok (.getfield 13, 3) := by decide +kernel
theorem dX12_ofSort_11 : decode cX12_ofSort 11 = .ok (.iconst 0, 1) := by decide +kernel
theorem dX12_ofSort_12 : decode cX12_ofSort 12 = .ok (.iaload, 1) := by decide +kernel
theorem dX12_ofSort_13 : decode cX12_ofSort 13 = .ok (.if_icmp .ge 41, 3) := by decide +kernel
theorem dX12_ofSort_16 : decode cX12_ofSort 16 = .ok (.iload_n 3, 1) := by decide +kernel
theorem dX12_ofSort_17 : decode cX12_ofSort 17 = .ok (.iload_n 1, 1) := by decide +kernel
theorem dX12_ofSort_18 : decode cX12_ofSort 18 = .ok (.iload 4, 2) := by decide +kernel
theorem dX12_ofSort_20 : decode cX12_ofSort 20 = .ok (.ishr, 1) := by decide +kernel
theorem dX12_ofSort_21 : decode cX12_ofSort 21 = .ok (.iconst 1, 1) := by decide +kernel
theorem dX12_ofSort_22 : decode cX12_ofSort 22 = .ok (.iand, 1) := by decide +kernel
theorem dX12_ofSort_23 : decode cX12_ofSort 23 = .ok (.iconst 1, 1) := by decide +kernel
theorem dX12_ofSort_24 : decode cX12_ofSort 24 = .ok (.if_icmp .ne 21, 3) := by decide +kernel
theorem dX12_ofSort_27 : decode cX12_ofSort 27 = .ok (.aload_n 0, 1) := by decide +kernel
theorem dX12_ofSort_28 : decode cX12_ofSort 28 = .ok (.getfield 23, 3) := by decide +kernel
theorem dX12_ofSort_31 : decode cX12_ofSort 31 = .ok (.iload 4, 2) := by decide +kernel
theorem dX12_ofSort_33 : decode cX12_ofSort 33 = .ok (.iaload, 1) := by decide +kernel
theorem dX12_ofSort_34 : decode cX12_ofSort 34 = .ok (.iload_n 2, 1) := by decide +kernel
theorem dX12_ofSort_35 : decode cX12_ofSort 35 = .ok (.if_icmp .ne 10, 3) := by decide +kernel
theorem dX12_ofSort_38 : decode cX12_ofSort 38 = .ok (.iconst 1, 1) := by decide +kernel
theorem dX12_ofSort_39 : decode cX12_ofSort 39 = .ok (.iload 4, 2) := by decide +kernel
theorem dX12_ofSort_41 : decode cX12_ofSort 41 = .ok (.ishl, 1) := by decide +kernel
theorem dX12_ofSort_42 : decode cX12_ofSort 42 = .ok (.goto 4, 3) := by decide +kernel
theorem dX12_ofSort_45 : decode cX12_ofSort 45 = .ok (.iconst 0, 1) := by decide +kernel
theorem dX12_ofSort_46 : decode cX12_ofSort 46 = .ok (.ior, 1) := by decide +kernel
theorem dX12_ofSort_47 : decode cX12_ofSort 47 = .ok (.istore_n 3, 1) := by decide +kernel
theorem dX12_ofSort_48 : decode cX12_ofSort 48 = .ok (.iinc 4 1, 3) := by decide +kernel
theorem dX12_ofSort_51 : decode cX12_ofSort 51 = .ok (.goto (-46), 3) := by decide +kernel
theorem dX12_ofSort_54 : decode cX12_ofSort 54 = .ok (.iload_n 3, 1) := by decide +kernel
theorem dX12_ofSort_55 : decode cX12_ofSort 55 = .ok (.ireturn, 1) := by decide +kernel
theorem dX12_hoard_0 : decode cX12_hoard 0 = .ok (.aload_n 0, 1) := by decide +kernel
theorem dX12_hoard_1 : decode cX12_hoard 1 = .ok (.iconst 0, 1) := by decide +kernel
theorem dX12_hoard_2 : decode cX12_hoard 2 = .ok (.putfield 138, 3) := by decide +kernel
theorem dX12_hoard_5 : decode cX12_hoard 5 = .ok (.iload_n 1, 1) := by decide +kernel
theorem dX12_hoard_6 : decode cX12_hoard 6 = .ok (.iconst 0, 1) := by decide +kernel
theorem dX12_hoard_7 : decode cX12_hoard 7 = .ok (.bipush 9, 2) := by decide +kernel
theorem dX12_hoard_9 : decode cX12_hoard 9 = .ok (.invokestatic 253, 3) := by decide +kernel
theorem dX12_hoard_12 : decode cX12_hoard 12 = .ok (.ifCond .ne 5, 3) := by decide +kernel
theorem dX12_hoard_15 : decode cX12_hoard 15 = .ok (.iconst (-1), 1) := by decide +kernel
theorem dX12_hoard_16 : decode cX12_hoard 16 = .ok (.ireturn, 1) := by decide +kernel
theorem dX12_hoard_17 : decode cX12_hoard 17 = .ok (.iconst (-1), 1) := by decide +kernel
theorem dX12_hoard_18 : decode cX12_hoard 18 = .ok (.istore_n 2, 1) := by decide +kernel
theorem dX12_hoard_19 : decode cX12_hoard 19 = .ok (.iconst 0, 1) := by decide +kernel
theorem dX12_hoard_20 : decode cX12_hoard 20 = .ok (.istore_n 3, 1) := by decide +kernel
theorem dX12_hoard_21 : decode cX12_hoard 21 = .ok (.iconst 0, 1) := by decide +kernel
theorem dX12_hoard_22 : decode cX12_hoard 22 = .ok (.istore 4, 2) := by decide +kernel
theorem dX12_hoard_24 : decode cX12_hoard 24 = .ok (.iload 4, 2) := by decide +kernel
theorem dX12_hoard_26 : decode cX12_hoard 26 = .ok (.aload_n 0, 1) := by decide +kernel
theorem dX12_hoard_27 : decode cX12_hoard 27 = .ok (.getfield 13, 3) := by decide +kernel
theorem dX12_hoard_30 : decode cX12_hoard 30 = .ok (.iconst 1, 1) := by decide +kernel
theorem dX12_hoard_31 : decode cX12_hoard 31 = .ok (.iaload, 1) := by decide +kernel
theorem dX12_hoard_32 : decode cX12_hoard 32 = .ok (.if_icmp .ge 41, 3) := by decide +kernel
theorem dX12_hoard_35 : decode cX12_hoard 35 = .ok (.aload_n 0, 1) := by decide +kernel
theorem dX12_hoard_36 : decode cX12_hoard 36 = .ok (.aload_n 0, 1) := by decide +kernel
theorem dX12_hoard_37 : decode cX12_hoard 37 = .ok (.aload_n 0, 1) := by decide +kernel
theorem dX12_hoard_38 : decode cX12_hoard 38 = .ok (.iload 4, 2) := by decide +kernel
theorem dX12_hoard_40 : decode cX12_hoard 40 = .ok (.invokevirtual 353, 3) := by decide +kernel
theorem dX12_hoard_43 : decode cX12_hoard 43 = .ok (.iload_n 1, 1) := by decide +kernel
theorem dX12_hoard_44 : decode cX12_hoard 44 = .ok (.invokevirtual 399, 3) := by decide +kernel
theorem dX12_hoard_47 : decode cX12_hoard 47 = .ok (.invokevirtual 369, 3) := by decide +kernel
theorem dX12_hoard_50 : decode cX12_hoard 50 = .ok (.istore 5, 2) := by decide +kernel
theorem dX12_hoard_52 : decode cX12_hoard 52 = .ok (.iload 5, 2) := by decide +kernel
theorem dX12_hoard_54 : decode cX12_hoard 54 = .ok (.iload_n 3, 1) := by decide +kernel
theorem dX12_hoard_55 : decode cX12_hoard 55 = .ok (.if_icmp .gt 6, 3) := by decide +kernel
theorem dX12_hoard_58 : decode cX12_hoard 58 = .ok (.goto 9, 3) := by decide +kernel
theorem dX12_hoard_61 : decode cX12_hoard 61 = .ok (.iload 4, 2) := by decide +kernel
theorem dX12_hoard_63 : decode cX12_hoard 63 = .ok (.istore_n 2, 1) := by decide +kernel
theorem dX12_hoard_64 : decode cX12_hoard 64 = .ok (.iload 5, 2) := by decide +kernel
theorem dX12_hoard_66 : decode cX12_hoard 66 = .ok (.istore_n 3, 1) := by decide +kernel
theorem dX12_hoard_67 : decode cX12_hoard 67 = .ok (.iinc 4 1, 3) := by decide +kernel
theorem dX12_hoard_70 : decode cX12_hoard 70 = .ok (.goto (-46), 3) := by decide +kernel
theorem dX12_hoard_73 : decode cX12_hoard 73 = .ok (.iload_n 2, 1) := by decide +kernel
theorem dX12_hoard_74 : decode cX12_hoard 74 = .ok (.ireturn, 1) := by decide +kernel
theorem dX12_unlikeFrom_0 : decode cX12_unlikeFrom 0 = .ok (.iconst 0, 1) := by decide +kernel
theorem dX12_unlikeFrom_1 : decode cX12_unlikeFrom 1 = .ok (.istore_n 2, 1) := by decide +kernel
theorem dX12_unlikeFrom_2 : decode cX12_unlikeFrom 2 = .ok (.iconst 0, 1) := by decide +kernel
theorem dX12_unlikeFrom_3 : decode cX12_unlikeFrom 3 = .ok (.istore_n 3, 1) := by decide +kernel
theorem dX12_unlikeFrom_4 : decode cX12_unlikeFrom 4 = .ok (.iload_n 1, 1) := by decide +kernel
theorem dX12_unlikeFrom_5 : decode cX12_unlikeFrom 5 = .ok (.istore 4, 2) := by decide +kernel
theorem dX12_unlikeFrom_7 : decode cX12_unlikeFrom 7 = .ok (.iload 4, 2) := by decide +kernel
theorem dX12_unlikeFrom_9 : decode cX12_unlikeFrom 9 = .ok (.aload_n 0, 1) := by decide +kernel
theorem dX12_unlikeFrom_10 : decode cX12_unlikeFrom 10 = .ok (.getfield 13, 3) := by decide +kernel
theorem dX12_unlikeFrom_13 : decode cX12_unlikeFrom 13 = .ok (.iconst 0, 1) := by decide +kernel
theorem dX12_unlikeFrom_14 : decode cX12_unlikeFrom 14 = .ok (.iaload, 1) := by decide +kernel
theorem dX12_unlikeFrom_15 : decode cX12_unlikeFrom 15 = .ok (.if_icmp .ge 58, 3) := by decide +kernel
theorem dX12_unlikeFrom_18 : decode cX12_unlikeFrom 18 = .ok (.aload_n 0, 1) := by decide +kernel
theorem dX12_unlikeFrom_19 : decode cX12_unlikeFrom 19 = .ok (.getfield 105, 3) := by decide +kernel
theorem dX12_unlikeFrom_22 : decode cX12_unlikeFrom 22 = .ok (.iconst 0, 1) := by decide +kernel
theorem dX12_unlikeFrom_23 : decode cX12_unlikeFrom 23 = .ok (.iaload, 1) := by decide +kernel
theorem dX12_unlikeFrom_24 : decode cX12_unlikeFrom 24 = .ok (.iload 4, 2) := by decide +kernel
theorem dX12_unlikeFrom_26 : decode cX12_unlikeFrom 26 = .ok (.ishr, 1) := by decide +kernel
theorem dX12_unlikeFrom_27 : decode cX12_unlikeFrom 27 = .ok (.iconst 1, 1) := by decide +kernel
theorem dX12_unlikeFrom_28 : decode cX12_unlikeFrom 28 = .ok (.iand, 1) := by decide +kernel
theorem dX12_unlikeFrom_29 : decode cX12_unlikeFrom 29 = .ok (.ifCond .ne 6, 3) := by decide +kernel
theorem dX12_unlikeFrom_32 : decode cX12_unlikeFrom 32 = .ok (.goto 35, 3) := by decide +kernel
theorem dX12_unlikeFrom_35 : decode cX12_unlikeFrom 35 = .ok (.iload_n 2, 1) := by decide +kernel
theorem dX12_unlikeFrom_36 : decode cX12_unlikeFrom 36 = .ok (.aload_n 0, 1) := by decide +kernel
theorem dX12_unlikeFrom_37 : decode cX12_unlikeFrom 37 = .ok (.getfield 23, 3) := by decide +kernel
theorem dX12_unlikeFrom_40 : decode cX12_unlikeFrom 40 = .ok (.iload 4, 2) := by decide +kernel
theorem dX12_unlikeFrom_42 : decode cX12_unlikeFrom 42 = .ok (.iaload, 1) := by decide +kernel
theorem dX12_unlikeFrom_43 : decode cX12_unlikeFrom 43 = .ok (.ishr, 1) := by decide +kernel
theorem dX12_unlikeFrom_44 : decode cX12_unlikeFrom 44 = .ok (.iconst 1, 1) := by decide +kernel
theorem dX12_unlikeFrom_45 : decode cX12_unlikeFrom 45 = .ok (.iand, 1) := by decide +kernel
theorem dX12_unlikeFrom_46 : decode cX12_unlikeFrom 46 = .ok (.iconst 1, 1) := by decide +kernel
theorem dX12_unlikeFrom_47 : decode cX12_unlikeFrom 47 = .ok (.if_icmp .ne 5, 3) := by decide +kernel
theorem dX12_unlikeFrom_50 : decode cX12_unlikeFrom 50 = .ok (.iload_n 3, 1) := by decide +kernel
theorem dX12_unlikeFrom_51 : decode cX12_unlikeFrom 51 = .ok (.ireturn, 1) := by decide +kernel
theorem dX12_unlikeFrom_52 : decode cX12_unlikeFrom 52 = .ok (.iload_n 2, 1) := by decide +kernel
theorem dX12_unlikeFrom_53 : decode cX12_unlikeFrom 53 = .ok (.iconst 1, 1) := by decide +kernel
theorem dX12_unlikeFrom_54 : decode cX12_unlikeFrom 54 = .ok (.aload_n 0, 1) := by decide +kernel
theorem dX12_unlikeFrom_55 : decode cX12_unlikeFrom 55 = .ok (.getfield 23, 3) := by decide +kernel
theorem dX12_unlikeFrom_58 : decode cX12_unlikeFrom 58 = .ok (.iload 4, 2) := by decide +kernel
theorem dX12_unlikeFrom_60 : decode cX12_unlikeFrom 60 = .ok (.iaload, 1) := by decide +kernel
theorem dX12_unlikeFrom_61 : decode cX12_unlikeFrom 61 = .ok (.ishl, 1) := by decide +kernel
theorem dX12_unlikeFrom_62 : decode cX12_unlikeFrom 62 = .ok (.ior, 1) := by decide +kernel
theorem dX12_unlikeFrom_63 : decode cX12_unlikeFrom 63 = .ok (.istore_n 2, 1) := by decide +kernel
theorem dX12_unlikeFrom_64 : decode cX12_unlikeFrom 64 = .ok (.iinc 3 1, 3) := by decide +kernel
theorem dX12_unlikeFrom_67 : decode cX12_unlikeFrom 67 = .ok (.iinc 4 1, 3) := by decide +kernel
theorem dX12_unlikeFrom_70 : decode cX12_unlikeFrom 70 = .ok (.goto (-63), 3) := by decide +kernel
theorem dX12_unlikeFrom_73 : decode cX12_unlikeFrom 73 = .ok (.iload_n 3, 1) := by decide +kernel
theorem dX12_unlikeFrom_74 : decode cX12_unlikeFrom 74 = .ok (.ireturn, 1) := by decide +kernel
theorem dX12_longest_0 : decode cX12_longest 0 = .ok (.aload_n 0, 1) := by decide +kernel
theorem dX12_longest_1 : decode cX12_longest 1 = .ok (.iconst 0, 1) := by decide +kernel
theorem dX12_longest_2 : decode cX12_longest 2 = .ok (.putfield 138, 3) := by decide +kernel
theorem dX12_longest_5 : decode cX12_longest 5 = .ok (.iconst 0, 1) := by decide +kernel
theorem dX12_longest_6 : decode cX12_longest 6 = .ok (.istore_n 1, 1) := by decide +kernel
theorem dX12_longest_7 : decode cX12_longest 7 = .ok (.iconst 0, 1) := by decide +kernel
theorem dX12_longest_8 : decode cX12_longest 8 = .ok (.istore_n 2, 1) := by decide +kernel
theorem dX12_longest_9 : decode cX12_longest 9 = .ok (.iload_n 2, 1) := by decide +kernel
theorem dX12_longest_10 : decode cX12_longest 10 = .ok (.aload_n 0, 1) := by decide +kernel
theorem dX12_longest_11 : decode cX12_longest 11 = .ok (.getfield 13, 3) := by decide +kernel
theorem dX12_longest_14 : decode cX12_longest 14 = .ok (.iconst 0, 1) := by decide +kernel
theorem dX12_longest_15 : decode cX12_longest 15 = .ok (.iaload, 1) := by decide +kernel
theorem dX12_longest_16 : decode cX12_longest 16 = .ok (.if_icmp .ge 33, 3) := by decide +kernel
theorem dX12_longest_19 : decode cX12_longest 19 = .ok (.aload_n 0, 1) := by decide +kernel
theorem dX12_longest_20 : decode cX12_longest 20 = .ok (.getfield 105, 3) := by decide +kernel
theorem dX12_longest_23 : decode cX12_longest 23 = .ok (.iconst 0, 1) := by decide +kernel
theorem dX12_longest_24 : decode cX12_longest 24 = .ok (.iaload, 1) := by decide +kernel
theorem dX12_longest_25 : decode cX12_longest 25 = .ok (.iload_n 2, 1) := by decide +kernel
theorem dX12_longest_26 : decode cX12_longest 26 = .ok (.ishr, 1) := by decide +kernel
theorem dX12_longest_27 : decode cX12_longest 27 = .ok (.iconst 1, 1) := by decide +kernel
theorem dX12_longest_28 : decode cX12_longest 28 = .ok (.iand, 1) := by decide +kernel
theorem dX12_longest_29 : decode cX12_longest 29 = .ok (.iconst 1, 1) := by decide +kernel
theorem dX12_longest_30 : decode cX12_longest 30 = .ok (.if_icmp .ne 13, 3) := by decide +kernel
theorem dX12_longest_33 : decode cX12_longest 33 = .ok (.iload_n 1, 1) := by decide +kernel
theorem dX12_longest_34 : decode cX12_longest 34 = .ok (.aload_n 0, 1) := by decide +kernel
theorem dX12_longest_35 : decode cX12_longest 35 = .ok (.iload_n 2, 1) := by decide +kernel
theorem dX12_longest_36 : decode cX12_longest 36 = .ok (.invokevirtual 402, 3) := by decide +kernel
theorem dX12_longest_39 : decode cX12_longest 39 = .ok (.invokestatic 405, 3) := by decide +kernel
theorem dX12_longest_42 : decode cX12_longest 42 = .ok (.istore_n 1, 1) := by decide +kernel
theorem dX12_longest_43 : decode cX12_longest 43 = .ok (.iinc 2 1, 3) := by decide +kernel
theorem dX12_longest_46 : decode cX12_longest 46 = .ok (.goto (-37), 3) := by decide +kernel
theorem dX12_longest_49 : decode cX12_longest 49 = .ok (.iload_n 1, 1) := by decide +kernel
theorem dX12_longest_50 : decode cX12_longest 50 = .ok (.ireturn, 1) := by decide +kernel
theorem dX12_lasts_0 : decode cX12_lasts 0 = .ok (.aload_n 0, 1) := by decide +kernel
theorem dX12_lasts_1 : decode cX12_lasts 1 = .ok (.iconst 0, 1) := by decide +kernel
theorem dX12_lasts_2 : decode cX12_lasts 2 = .ok (.putfield 138, 3) := by decide +kernel
theorem dX12_lasts_5 : decode cX12_lasts 5 = .ok (.aload_n 0, 1) := by decide +kernel
theorem dX12_lasts_6 : decode cX12_lasts 6 = .ok (.getfield 105, 3) := by decide +kernel
theorem dX12_lasts_9 : decode cX12_lasts 9 = .ok (.iconst 0, 1) := by decide +kernel
theorem dX12_lasts_10 : decode cX12_lasts 10 = .ok (.aload_n 0, 1) := by decide +kernel
theorem dX12_lasts_11 : decode cX12_lasts 11 = .ok (.getfield 108, 3) := by decide +kernel
theorem dX12_lasts_14 : decode cX12_lasts 14 = .ok (.iconst 0, 1) := by decide +kernel
theorem dX12_lasts_15 : decode cX12_lasts 15 = .ok (.invokestatic 359, 3) := by decide +kernel
theorem dX12_lasts_18 : decode cX12_lasts 18 = .ok (.iconst 0, 1) := by decide +kernel
theorem dX12_lasts_19 : decode cX12_lasts 19 = .ok (.istore_n 1, 1) := by decide +kernel
theorem dX12_lasts_20 : decode cX12_lasts 20 = .ok (.iload_n 1, 1) := by decide +kernel
theorem dX12_lasts_21 : decode cX12_lasts 21 = .ok (.bipush 100, 2) := by decide +kernel
theorem dX12_lasts_23 : decode cX12_lasts 23 = .ok (.if_icmp .ge 31, 3) := by decide +kernel
theorem dX12_lasts_26 : decode cX12_lasts 26 = .ok (.aload_n 0, 1) := by decide +kernel
theorem dX12_lasts_27 : decode cX12_lasts 27 = .ok (.getfield 105, 3) := by decide +kernel
theorem dX12_lasts_30 : decode cX12_lasts 30 = .ok (.iconst 0, 1) := by decide +kernel
theorem dX12_lasts_31 : decode cX12_lasts 31 = .ok (.iaload, 1) := by decide +kernel
theorem dX12_lasts_32 : decode cX12_lasts 32 = .ok (.ifCond .eq 22, 3) := by decide +kernel
theorem dX12_lasts_35 : decode cX12_lasts 35 = .ok (.aload_n 0, 1) := by decide +kernel
theorem dX12_lasts_36 : decode cX12_lasts 36 = .ok (.getfield 13, 3) := by decide +kernel
theorem dX12_lasts_39 : decode cX12_lasts 39 = .ok (.iconst 1, 1) := by decide +kernel
theorem dX12_lasts_40 : decode cX12_lasts 40 = .ok (.iaload, 1) := by decide +kernel
theorem dX12_lasts_41 : decode cX12_lasts 41 = .ok (.ifCond .le 13, 3) := by decide +kernel
theorem dX12_lasts_44 : decode cX12_lasts 44 = .ok (.aload_n 0, 1) := by decide +kernel
theorem dX12_lasts_45 : decode cX12_lasts 45 = .ok (.invokevirtual 366, 3) := by decide +kernel
theorem dX12_lasts_48 : decode cX12_lasts 48 = .ok (.iinc 1 1, 3) := by decide +kernel
theorem dX12_lasts_51 : decode cX12_lasts 51 = .ok (.goto (-31), 3) := by decide +kernel
theorem dX12_lasts_54 : decode cX12_lasts 54 = .ok (.aload_n 0, 1) := by decide +kernel
theorem dX12_lasts_55 : decode cX12_lasts 55 = .ok (.getfield 105, 3) := by decide +kernel
theorem dX12_lasts_58 : decode cX12_lasts 58 = .ok (.iconst 0, 1) := by decide +kernel
theorem dX12_lasts_59 : decode cX12_lasts 59 = .ok (.iaload, 1) := by decide +kernel
theorem dX12_lasts_60 : decode cX12_lasts 60 = .ok (.ifCond .ne 7, 3) := by decide +kernel
theorem dX12_lasts_63 : decode cX12_lasts 63 = .ok (.iconst 1, 1) := by decide +kernel
theorem dX12_lasts_64 : decode cX12_lasts 64 = .ok (.goto 4, 3) := by decide +kernel
theorem dX12_lasts_67 : decode cX12_lasts 67 = .ok (.iconst 0, 1) := by decide +kernel
theorem dX12_lasts_68 : decode cX12_lasts 68 = .ok (.istore_n 2, 1) := by decide +kernel
theorem dX12_lasts_69 : decode cX12_lasts 69 = .ok (.aload_n 0, 1) := by decide +kernel
theorem dX12_lasts_70 : decode cX12_lasts 70 = .ok (.getfield 108, 3) := by decide +kernel
theorem dX12_lasts_73 : decode cX12_lasts 73 = .ok (.iconst 0, 1) := by decide +kernel
theorem dX12_lasts_74 : decode cX12_lasts 74 = .ok (.aload_n 0, 1) := by decide +kernel
theorem dX12_lasts_75 : decode cX12_lasts 75 = .ok (.getfield 105, 3) := by decide +kernel
theorem dX12_lasts_78 : decode cX12_lasts 78 = .ok (.iconst 0, 1) := by decide +kernel
theorem dX12_lasts_79 : decode cX12_lasts 79 = .ok (.invokestatic 359, 3) := by decide +kernel
theorem dX12_lasts_82 : decode cX12_lasts 82 = .ok (.iload_n 2, 1) := by decide +kernel
theorem dX12_lasts_83 : decode cX12_lasts 83 = .ok (.ifCond .eq 13, 3) := by decide +kernel
theorem dX12_lasts_86 : decode cX12_lasts 86 = .ok (.iload_n 1, 1) := by decide +kernel
theorem dX12_lasts_87 : decode cX12_lasts 87 = .ok (.bipush 100, 2) := by decide +kernel
theorem dX12_lasts_89 : decode cX12_lasts 89 = .ok (.if_icmp .ge 7, 3) := by decide +kernel
theorem dX12_lasts_92 : decode cX12_lasts 92 = .ok (.iload_n 1, 1) := by decide +kernel
theorem dX12_lasts_93 : decode cX12_lasts 93 = .ok (.goto 4, 3) := by decide +kernel
theorem dX12_lasts_96 : decode cX12_lasts 96 = .ok (.iconst (-1), 1) := by decide +kernel
theorem dX12_lasts_97 : decode cX12_lasts 97 = .ok (.ireturn, 1) := by decide +kernel
theorem dX12_sense_0 : decode cX12_sense 0 = .ok (.aload_n 0, 1) := by decide +kernel
theorem dX12_sense_1 : decode cX12_sense 1 = .ok (.iconst 0, 1) := by decide +kernel
theorem dX12_sense_2 : decode cX12_sense 2 = .ok (.putfield 138, 3) := by decide +kernel
theorem dX12_sense_5 : decode cX12_sense 5 = .ok (.aload_n 0, 1) := by decide +kernel
theorem dX12_sense_6 : decode cX12_sense 6 = .ok (.aload_n 0, 1) := by decide +kernel
theorem dX12_sense_7 : decode cX12_sense 7 = .ok (.getfield 105, 3) := by decide +kernel
theorem dX12_sense_10 : decode cX12_sense 10 = .ok (.iconst 0, 1) := by decide +kernel
theorem dX12_sense_11 : decode cX12_sense 11 = .ok (.iaload, 1) := by decide +kernel
theorem dX12_sense_12 : decode cX12_sense 12 = .ok (.invokevirtual 387, 3) := by decide +kernel
theorem dX12_sense_15 : decode cX12_sense 15 = .ok (.ireturn, 1) := by decide +kernel
theorem dX12_orders_0 : decode cX12_orders 0 = .ok (.iload_n 2, 1) := by decide +kernel
theorem dX12_orders_1 : decode cX12_orders 1 = .ok (.ifCond .ne 50, 3) := by decide +kernel
theorem dX12_orders_4 : decode cX12_orders 4 = .ok (.iload 4, 2) := by decide +kernel
theorem dX12_orders_6 : decode cX12_orders 6 = .ok (.aload_n 0, 1) := by decide +kernel
theorem dX12_orders_7 : decode cX12_orders 7 = .ok (.getfield 410, 3) := by decide +kernel
theorem dX12_orders_10 : decode cX12_orders 10 = .ok (.if_icmp .gt 4, 3) := by decide +kernel
theorem dX12_orders_13 : decode cX12_orders 13 = .ok (.return_, 1) := by decide +kernel
theorem dX12_orders_14 : decode cX12_orders 14 = .ok (.aload_n 0, 1) := by decide +kernel
theorem dX12_orders_15 : decode cX12_orders 15 = .ok (.iload 4, 2) := by decide +kernel
theorem dX12_orders_17 : decode cX12_orders 17 = .ok (.putfield 410, 3) := by decide +kernel
theorem dX12_orders_20 : decode cX12_orders 20 = .ok (.iconst 0, 1) := by decide +kernel
theorem dX12_orders_21 : decode cX12_orders 21 = .ok (.istore 5, 2) := by decide +kernel
theorem dX12_orders_23 : decode cX12_orders 23 = .ok (.iload 5, 2) := by decide +kernel
theorem dX12_orders_25 : decode cX12_orders 25 = .ok (.bipush 6, 2) := by decide +kernel
theorem dX12_orders_27 : decode cX12_orders 27 = .ok (.if_icmp .ge 23, 3) := by decide +kernel
theorem dX12_orders_30 : decode cX12_orders 30 = .ok (.aload_n 0, 1) := by decide +kernel
theorem dX12_orders_31 : decode cX12_orders 31 = .ok (.getfield 132, 3) := by decide +kernel
theorem dX12_orders_34 : decode cX12_orders 34 = .ok (.iload 5, 2) := by decide +kernel
theorem dX12_orders_36 : decode cX12_orders 36 = .ok (.aload_n 0, 1) := by decide +kernel
theorem dX12_orders_37 : decode cX12_orders 37 = .ok (.getfield 129, 3) := by decide +kernel
theorem dX12_orders_40 : decode cX12_orders 40 = .ok (.iload 5, 2) := by decide +kernel
theorem dX12_orders_42 : decode cX12_orders 42 = .ok (.iaload, 1) := by decide +kernel
theorem dX12_orders_43 : decode cX12_orders 43 = .ok (.iastore, 1) := by decide +kernel
theorem dX12_orders_44 : decode cX12_orders 44 = .ok (.iinc 5 1, 3) := by decide +kernel
theorem dX12_orders_47 : decode cX12_orders 47 = .ok (.goto (-24), 3) := by decide +kernel
theorem dX12_orders_50 : decode cX12_orders 50 = .ok (.return_, 1) := by decide +kernel
theorem dX12_orders_51 : decode cX12_orders 51 = .ok (.iconst 0, 1) := by decide +kernel
theorem dX12_orders_52 : decode cX12_orders 52 = .ok (.istore 5, 2) := by decide +kernel
theorem dX12_orders_54 : decode cX12_orders 54 = .ok (.iload 5, 2) := by decide +kernel
theorem dX12_orders_56 : decode cX12_orders 56 = .ok (.aload_n 0, 1) := by decide +kernel
theorem dX12_orders_57 : decode cX12_orders 57 = .ok (.getfield 13, 3) := by decide +kernel
theorem dX12_orders_60 : decode cX12_orders 60 = .ok (.iconst 1, 1) := by decide +kernel
theorem dX12_orders_61 : decode cX12_orders 61 = .ok (.iaload, 1) := by decide +kernel
theorem dX12_orders_62 : decode cX12_orders 62 = .ok (.if_icmp .ge 68, 3) := by decide +kernel
theorem dX12_orders_65 : decode cX12_orders 65 = .ok (.iload_n 2, 1) := by decide +kernel
theorem dX12_orders_66 : decode cX12_orders 66 = .ok (.iload 5, 2) := by decide +kernel
theorem dX12_orders_68 : decode cX12_orders 68 = .ok (.ishr, 1) := by decide +kernel
theorem dX12_orders_69 : decode cX12_orders 69 = .ok (.iconst 1, 1) := by decide +kernel
theorem dX12_orders_70 : decode cX12_orders 70 = .ok (.iand, 1) := by decide +kernel
theorem dX12_orders_71 : decode cX12_orders 71 = .ok (.ifCond .ne 6, 3) := by decide +kernel
theorem dX12_orders_74 : decode cX12_orders 74 = .ok (.goto 50, 3) := by decide +kernel
theorem dX12_orders_77 : decode cX12_orders 77 = .ok (.iload_n 3, 1) := by decide +kernel
theorem dX12_orders_78 : decode cX12_orders 78 = .ok (.aload_n 0, 1) := by decide +kernel
theorem dX12_orders_79 : decode cX12_orders 79 = .ok (.iload 5, 2) := by decide +kernel
theorem dX12_orders_81 : decode cX12_orders 81 = .ok (.iload_n 3, 1) := by decide +kernel
theorem dX12_orders_82 : decode cX12_orders 82 = .ok (.invokevirtual 340, 3) := by decide +kernel
theorem dX12_orders_85 : decode cX12_orders 85 = .ok (.iconst (-1), 1) := by decide +kernel
theorem dX12_orders_86 : decode cX12_orders 86 = .ok (.ixor, 1) := by decide +kernel
theorem dX12_orders_87 : decode cX12_orders 87 = .ok (.iand, 1) := by decide +kernel
theorem dX12_orders_88 : decode cX12_orders 88 = .ok (.istore 6, 2) := by decide +kernel
theorem dX12_orders_90 : decode cX12_orders 90 = .ok (.aload_n 0, 1) := by decide +kernel
theorem dX12_orders_91 : decode cX12_orders 91 = .ok (.getfield 129, 3) := by decide +kernel
theorem dX12_orders_94 : decode cX12_orders 94 = .ok (.iload_n 1, 1) := by decide +kernel
theorem dX12_orders_95 : decode cX12_orders 95 = .ok (.iload 5, 2) := by decide +kernel
theorem dX12_orders_97 : decode cX12_orders 97 = .ok (.iastore, 1) := by decide +kernel
theorem dX12_orders_98 : decode cX12_orders 98 = .ok (.aload_n 0, 1) := by decide +kernel
theorem dX12_orders_99 : decode cX12_orders 99 = .ok (.iload_n 1, 1) := by decide +kernel
theorem dX12_orders_100 : decode cX12_orders 100 = .ok (.iconst 1, 1) := by decide +kernel
theorem dX12_orders_101 : decode cX12_orders 101 = .ok (.iadd, 1) := by decide +kernel
theorem dX12_orders_102 : decode cX12_orders 102 = .ok (.iload_n 2, 1) := by decide +kernel
theorem dX12_orders_103 : decode cX12_orders 103 = .ok (.iconst 1, 1) := by decide +kernel
theorem dX12_orders_104 : decode cX12_orders 104 = .ok (.iload 5, 2) := by decide +kernel
theorem dX12_orders_106 : decode cX12_orders 106 = .ok (.ishl, 1) := by decide +kernel
theorem dX12_orders_107 : decode cX12_orders 107 = .ok (.iconst (-1), 1) := by decide +kernel
theorem dX12_orders_108 : decode cX12_orders 108 = .ok (.ixor, 1) := by decide +kernel
theorem dX12_orders_109 : decode cX12_orders 109 = .ok (.iand, 1) := by decide +kernel
theorem dX12_orders_110 : decode cX12_orders 110 = .ok (.iload 6, 2) := by decide +kernel
theorem dX12_orders_112 : decode cX12_orders 112 = .ok (.iload 4, 2) := by decide +kernel
theorem dX12_orders_114 : decode cX12_orders 114 = .ok (.aload_n 0, 1) := by decide +kernel
theorem dX12_orders_115 : decode cX12_orders 115 = .ok (.iload 6, 2) := by decide +kernel
theorem dX12_orders_117 : decode cX12_orders 117 = .ok (.invokevirtual 369, 3) := by decide +kernel
theorem dX12_orders_120 : decode cX12_orders 120 = .ok (.iadd, 1) := by decide +kernel
theorem dX12_orders_121 : decode cX12_orders 121 = .ok (.invokevirtual 413, 3) := by decide +kernel
theorem dX12_orders_124 : decode cX12_orders 124 = .ok (.iinc 5 1, 3) := by decide +kernel
theorem dX12_orders_127 : decode cX12_orders 127 = .ok (.goto (-73), 3) := by decide +kernel
theorem dX12_orders_130 : decode cX12_orders 130 = .ok (.return_, 1) := by decide +kernel
theorem dX12_order_0 : decode cX12_order 0 = .ok (.aload_n 0, 1) := by decide +kernel
theorem dX12_order_1 : decode cX12_order 1 = .ok (.iconst 0, 1) := by decide +kernel
theorem dX12_order_2 : decode cX12_order 2 = .ok (.putfield 138, 3) := by decide +kernel
theorem dX12_order_5 : decode cX12_order 5 = .ok (.aload_n 0, 1) := by decide +kernel
theorem dX12_order_6 : decode cX12_order 6 = .ok (.getfield 13, 3) := by decide +kernel
theorem dX12_order_9 : decode cX12_order 9 = .ok (.iconst 1, 1) := by decide +kernel
theorem dX12_order_10 : decode cX12_order 10 = .ok (.iaload, 1) := by decide +kernel
theorem dX12_order_11 : decode cX12_order 11 = .ok (.aload_n 0, 1) := by decide +kernel
theorem dX12_order_12 : decode cX12_order 12 = .ok (.getfield 105, 3) := by decide +kernel
theorem dX12_order_15 : decode cX12_order 15 = .ok (.iconst 1, 1) := by decide +kernel
theorem dX12_order_16 : decode cX12_order 16 = .ok (.iaload, 1) := by decide +kernel
theorem dX12_order_17 : decode cX12_order 17 = .ok (.isub, 1) := by decide +kernel
theorem dX12_order_18 : decode cX12_order 18 = .ok (.istore_n 2, 1) := by decide +kernel
theorem dX12_order_19 : decode cX12_order 19 = .ok (.iload_n 1, 1) := by decide +kernel
theorem dX12_order_20 : decode cX12_order 20 = .ok (.iconst (-1), 1) := by decide +kernel
theorem dX12_order_21 : decode cX12_order 21 = .ok (.iload_n 2, 1) := by decide +kernel
theorem dX12_order_22 : decode cX12_order 22 = .ok (.iconst 1, 1) := by decide +kernel
theorem dX12_order_23 : decode cX12_order 23 = .ok (.isub, 1) := by decide +kernel
theorem dX12_order_24 : decode cX12_order 24 = .ok (.invokestatic 253, 3) := by decide +kernel
theorem dX12_order_27 : decode cX12_order 27 = .ok (.ifCond .ne 6, 3) := by decide +kernel
theorem dX12_order_30 : decode cX12_order 30 = .ok (.bipush (-2), 2) := by decide +kernel
theorem dX12_order_32 : decode cX12_order 32 = .ok (.ireturn, 1) := by decide +kernel
theorem dX12_order_33 : decode cX12_order 33 = .ok (.iconst 0, 1) := by decide +kernel
theorem dX12_order_34 : decode cX12_order 34 = .ok (.istore_n 3, 1) := by decide +kernel
theorem dX12_order_35 : decode cX12_order 35 = .ok (.aload_n 0, 1) := by decide +kernel
theorem dX12_order_36 : decode cX12_order 36 = .ok (.getfield 105, 3) := by decide +kernel
theorem dX12_order_39 : decode cX12_order 39 = .ok (.iconst 1, 1) := by decide +kernel
theorem dX12_order_40 : decode cX12_order 40 = .ok (.iaload, 1) := by decide +kernel
theorem dX12_order_41 : decode cX12_order 41 = .ok (.istore 4, 2) := by decide +kernel
theorem dX12_order_43 : decode cX12_order 43 = .ok (.iload 4, 2) := by decide +kernel
theorem dX12_order_45 : decode cX12_order 45 = .ok (.aload_n 0, 1) := by decide +kernel
theorem dX12_order_46 : decode cX12_order 46 = .ok (.getfield 13, 3) := by decide +kernel
theorem dX12_order_49 : decode cX12_order 49 = .ok (.iconst 1, 1) := by decide +kernel
theorem dX12_order_50 : decode cX12_order 50 = .ok (.iaload, 1) := by decide +kernel
theorem dX12_order_51 : decode cX12_order 51 = .ok (.if_icmp .ge 23, 3) := by decide +kernel
theorem dX12_order_54 : decode cX12_order 54 = .ok (.iload_n 3, 1) := by decide +kernel
theorem dX12_order_55 : decode cX12_order 55 = .ok (.iconst 1, 1) := by decide +kernel
theorem dX12_order_56 : decode cX12_order 56 = .ok (.aload_n 0, 1) := by decide +kernel
theorem dX12_order_57 : decode cX12_order 57 = .ok (.getfield 105, 3) := by decide +kernel
theorem dX12_order_60 : decode cX12_order 60 = .ok (.iconst 3, 1) := by decide +kernel
theorem dX12_order_61 : decode cX12_order 61 = .ok (.iload 4, 2) := by decide +kernel
theorem dX12_order_63 : decode cX12_order 63 = .ok (.iadd, 1) := by decide +kernel
theorem dX12_order_64 : decode cX12_order 64 = .ok (.iaload, 1) := by decide +kernel
theorem dX12_order_65 : decode cX12_order 65 = .ok (.ishl, 1) := by decide +kernel
theorem dX12_order_66 : decode cX12_order 66 = .ok (.ior, 1) := by decide +kernel
theorem dX12_order_67 : decode cX12_order 67 = .ok (.istore_n 3, 1) := by decide +kernel
theorem dX12_order_68 : decode cX12_order 68 = .ok (.iinc 4 1, 3) := by decide +kernel
theorem dX12_order_71 : decode cX12_order 71 = .ok (.goto (-28), 3) := by decide +kernel
theorem dX12_order_74 : decode cX12_order 74 = .ok (.aload_n 0, 1) := by decide +kernel
theorem dX12_order_75 : decode cX12_order 75 = .ok (.iconst (-1), 1) := by decide +kernel
theorem dX12_order_76 : decode cX12_order 76 = .ok (.putfield 410, 3) := by decide +kernel
theorem dX12_order_79 : decode cX12_order 79 = .ok (.aload_n 0, 1) := by decide +kernel
theorem dX12_order_80 : decode cX12_order 80 = .ok (.iconst 0, 1) := by decide +kernel
theorem dX12_order_81 : decode cX12_order 81 = .ok (.iload_n 3, 1) := by decide +kernel
theorem dX12_order_82 : decode cX12_order 82 = .ok (.aload_n 0, 1) := by decide +kernel
theorem dX12_order_83 : decode cX12_order 83 = .ok (.getfield 105, 3) := by decide +kernel
theorem dX12_order_86 : decode cX12_order 86 = .ok (.iconst 0, 1) := by decide +kernel
theorem dX12_order_87 : decode cX12_order 87 = .ok (.iaload, 1) := by decide +kernel
theorem dX12_order_88 : decode cX12_order 88 = .ok (.iconst 0, 1) := by decide +kernel
theorem dX12_order_89 : decode cX12_order 89 = .ok (.invokevirtual 413, 3) := by decide +kernel
theorem dX12_order_92 : decode cX12_order 92 = .ok (.iload_n 1, 1) := by decide +kernel
theorem dX12_order_93 : decode cX12_order 93 = .ok (.iconst (-1), 1) := by decide +kernel
theorem dX12_order_94 : decode cX12_order 94 = .ok (.if_icmp .ne 10, 3) := by decide +kernel
theorem dX12_order_97 : decode cX12_order 97 = .ok (.aload_n 0, 1) := by decide +kernel
theorem dX12_order_98 : decode cX12_order 98 = .ok (.getfield 410, 3) := by decide +kernel
theorem dX12_order_101 : decode cX12_order 101 = .ok (.goto 9, 3) := by decide +kernel
theorem dX12_order_104 : decode cX12_order 104 = .ok (.aload_n 0, 1) := by decide +kernel
theorem dX12_order_105 : decode cX12_order 105 = .ok (.getfield 132, 3) := by decide +kernel
theorem dX12_order_108 : decode cX12_order 108 = .ok (.iload_n 1, 1) := by decide +kernel
theorem dX12_order_109 : decode cX12_order 109 = .ok (.iaload, 1) := by decide +kernel
theorem dX12_order_110 : decode cX12_order 110 = .ok (.ireturn, 1) := by decide +kernel
theorem dX12_ride_0 : decode cX12_ride 0 = .ok (.aload_n 0, 1) := by decide +kernel
theorem dX12_ride_1 : decode cX12_ride 1 = .ok (.iconst 0, 1) := by decide +kernel
theorem dX12_ride_2 : decode cX12_ride 2 = .ok (.putfield 138, 3) := by decide +kernel
theorem dX12_ride_5 : decode cX12_ride 5 = .ok (.iconst (-1), 1) := by decide +kernel
theorem dX12_ride_6 : decode cX12_ride 6 = .ok (.istore_n 1, 1) := by decide +kernel
theorem dX12_ride_7 : decode cX12_ride 7 = .ok (.iconst 0, 1) := by decide +kernel
theorem dX12_ride_8 : decode cX12_ride 8 = .ok (.istore_n 2, 1) := by decide +kernel
theorem dX12_ride_9 : decode cX12_ride 9 = .ok (.iload_n 2, 1) := by decide +kernel
theorem dX12_ride_10 : decode cX12_ride 10 = .ok (.iconst 1, 1) := by decide +kernel
theorem dX12_ride_11 : decode cX12_ride 11 = .ok (.aload_n 0, 1) := by decide +kernel
theorem dX12_ride_12 : decode cX12_ride 12 = .ok (.getfield 13, 3) := by decide +kernel
theorem dX12_ride_15 : decode cX12_ride 15 = .ok (.iconst 1, 1) := by decide +kernel
theorem dX12_ride_16 : decode cX12_ride 16 = .ok (.iaload, 1) := by decide +kernel
theorem dX12_ride_17 : decode cX12_ride 17 = .ok (.ishl, 1) := by decide +kernel
theorem dX12_ride_18 : decode cX12_ride 18 = .ok (.if_icmp .ge 104, 3) := by decide +kernel
theorem dX12_ride_21 : decode cX12_ride 21 = .ok (.iload_n 1, 1) := by decide +kernel
theorem dX12_ride_22 : decode cX12_ride 22 = .ok (.ifCond .lt 17, 3) := by decide +kernel
theorem dX12_ride_25 : decode cX12_ride 25 = .ok (.iload_n 2, 1) := by decide +kernel
theorem dX12_ride_26 : decode cX12_ride 26 = .ok (.invokestatic 375, 3) := by decide +kernel
theorem dX12_ride_29 : decode cX12_ride 29 = .ok (.iload_n 1, 1) := by decide +kernel
theorem dX12_ride_30 : decode cX12_ride 30 = .ok (.invokestatic 375, 3) := by decide +kernel
theorem dX12_ride_33 : decode cX12_ride 33 = .ok (.if_icmp .lt 6, 3) := by decide +kernel
theorem dX12_ride_36 : decode cX12_ride 36 = .ok (.goto 80, 3) := by decide +kernel
theorem dX12_ride_39 : decode cX12_ride 39 = .ok (.iconst 0, 1) := by decide +kernel
theorem dX12_ride_40 : decode cX12_ride 40 = .ok (.istore_n 3, 1) := by decide +kernel
theorem dX12_ride_41 : decode cX12_ride 41 = .ok (.iconst 0, 1) := by decide +kernel
theorem dX12_ride_42 : decode cX12_ride 42 = .ok (.istore 4, 2) := by decide +kernel
theorem dX12_ride_44 : decode cX12_ride 44 = .ok (.iload 4, 2) := by decide +kernel
theorem dX12_ride_46 : decode cX12_ride 46 = .ok (.aload_n 0, 1) := by decide +kernel
theorem dX12_ride_47 : decode cX12_ride 47 = .ok (.getfield 13, 3) := by decide +kernel
theorem dX12_ride_50 : decode cX12_ride 50 = .ok (.iconst 1, 1) := by decide +kernel
theorem dX12_ride_51 : decode cX12_ride 51 = .ok (.iaload, 1) := by decide +kernel
theorem dX12_ride_52 : decode cX12_ride 52 = .ok (.if_icmp .ge 54, 3) := by decide +kernel
theorem dX12_ride_55 : decode cX12_ride 55 = .ok (.iload_n 3, 1) := by decide +kernel
theorem dX12_ride_56 : decode cX12_ride 56 = .ok (.iload_n 2, 1) := by decide +kernel
theorem dX12_ride_57 : decode cX12_ride 57 = .ok (.iload 4, 2) := by decide +kernel
theorem dX12_ride_59 : decode cX12_ride 59 = .ok (.ishr, 1) := by decide +kernel
theorem dX12_ride_60 : decode cX12_ride 60 = .ok (.iconst 1, 1) := by decide +kernel
theorem dX12_ride_61 : decode cX12_ride 61 = .ok (.iand, 1) := by decide +kernel
theorem dX12_ride_62 : decode cX12_ride 62 = .ok (.iconst 1, 1) := by decide +kernel
theorem dX12_ride_63 : decode cX12_ride 63 = .ok (.if_icmp .ne 34, 3) := by decide +kernel
theorem dX12_ride_66 : decode cX12_ride 66 = .ok (.aload_n 0, 1) := by decide +kernel
theorem dX12_ride_67 : decode cX12_ride 67 = .ok (.getfield 105, 3) := by decide +kernel
theorem dX12_ride_70 : decode cX12_ride 70 = .ok (.iconst 0, 1) := by decide +kernel
theorem dX12_ride_71 : decode cX12_ride 71 = .ok (.iaload, 1) := by decide +kernel
theorem dX12_ride_72 : decode cX12_ride 72 = .ok (.aload_n 0, 1) := by decide +kernel
theorem dX12_ride_73 : decode cX12_ride 73 = .ok (.iload 4, 2) := by decide +kernel
theorem dX12_ride_75 : decode cX12_ride 75 = .ok (.aload_n 0, 1) := by decide +kernel
theorem dX12_ride_76 : decode cX12_ride 76 = .ok (.getfield 105, 3) := by decide +kernel
theorem dX12_ride_79 : decode cX12_ride 79 = .ok (.iconst 0, 1) := by decide +kernel
theorem dX12_ride_80 : decode cX12_ride 80 = .ok (.iaload, 1) := by decide +kernel
theorem dX12_ride_81 : decode cX12_ride 81 = .ok (.invokevirtual 340, 3) := by decide +kernel
theorem dX12_ride_84 : decode cX12_ride 84 = .ok (.iconst (-1), 1) := by decide +kernel
theorem dX12_ride_85 : decode cX12_ride 85 = .ok (.ixor, 1) := by decide +kernel
theorem dX12_ride_86 : decode cX12_ride 86 = .ok (.iand, 1) := by decide +kernel
theorem dX12_ride_87 : decode cX12_ride 87 = .ok (.aload_n 0, 1) := by decide +kernel
theorem dX12_ride_88 : decode cX12_ride 88 = .ok (.iload 4, 2) := by decide +kernel
theorem dX12_ride_90 : decode cX12_ride 90 = .ok (.invokevirtual 353, 3) := by decide +kernel
theorem dX12_ride_93 : decode cX12_ride 93 = .ok (.ior, 1) := by decide +kernel
theorem dX12_ride_94 : decode cX12_ride 94 = .ok (.goto 4, 3) := by decide +kernel
theorem dX12_ride_97 : decode cX12_ride 97 = .ok (.iconst 0, 1) := by decide +kernel
theorem dX12_ride_98 : decode cX12_ride 98 = .ok (.ior, 1) := by decide +kernel
theorem dX12_ride_99 : decode cX12_ride 99 = .ok (.istore_n 3, 1) := by decide +kernel
theorem dX12_ride_100 : decode cX12_ride 100 = .ok (.iinc 4 1, 3) := by decide +kernel
theorem dX12_ride_103 : decode cX12_ride 103 = .ok (.goto (-59), 3) := by decide +kernel
theorem dX12_ride_106 : decode cX12_ride 106 = .ok (.iload_n 3, 1) := by decide +kernel
theorem dX12_ride_107 : decode cX12_ride 107 = .ok (.aload_n 0, 1) := by decide +kernel
theorem dX12_ride_108 : decode cX12_ride 108 = .ok (.invokevirtual 314, 3) := by decide +kernel
theorem dX12_ride_111 : decode cX12_ride 111 = .ok (.if_icmp .ne 5, 3) := by decide +kernel
theorem dX12_ride_114 : decode cX12_ride 114 = .ok (.iload_n 2, 1) := by decide +kernel
theorem dX12_ride_115 : decode cX12_ride 115 = .ok (.istore_n 1, 1) := by decide +kernel
theorem dX12_ride_116 : decode cX12_ride 116 = .ok (.iinc 2 1, 3) := by decide +kernel
theorem dX12_ride_119 : decode cX12_ride 119 = .ok (.goto (-110), 3) := by decide +kernel
theorem dX12_ride_122 : decode cX12_ride 122 = .ok (.iload_n 1, 1) := by decide +kernel
theorem dX12_ride_123 : decode cX12_ride 123 = .ok (.ireturn, 1) := by decide +kernel
theorem dX12_otherFilm_0 : decode cX12_otherFilm 0 = .ok (.aload_n 0, 1) := by decide +kernel
theorem dX12_otherFilm_1 : decode cX12_otherFilm 1 = .ok (.invokevirtual 417, 3) := by decide +kernel
theorem dX12_otherFilm_4 : decode cX12_otherFilm 4 = .ok (.istore_n 1, 1) := by decide +kernel
theorem dX12_otherFilm_5 : decode cX12_otherFilm 5 = .ok (.iconst 0, 1) := by decide +kernel
theorem dX12_otherFilm_6 : decode cX12_otherFilm 6 = .ok (.istore_n 2, 1) := by decide +kernel
theorem dX12_otherFilm_7 : decode cX12_otherFilm 7 = .ok (.iconst 0, 1) := by decide +kernel
theorem dX12_otherFilm_8 : decode cX12_otherFilm 8 = .ok (.istore_n 3, 1) := by decide +kernel
theorem dX12_otherFilm_9 : decode cX12_otherFilm 9 = .ok (.iload_n 3, 1) := by decide +kernel
theorem dX12_otherFilm_10 : decode cX12_otherFilm 10 = .ok (.iload_n 1, 1) := by decide +kernel
theorem dX12_otherFilm_11 : decode cX12_otherFilm 11 = .ok (.if_icmp .gt 69, 3) := by decide +kernel
theorem dX12_otherFilm_14 : decode cX12_otherFilm 14 = .ok (.iload_n 3, 1) := by decide +kernel
theorem dX12_otherFilm_15 : decode cX12_otherFilm 15 = .ok (.iload_n 1, 1) := by decide +kernel
theorem dX12_otherFilm_16 : decode cX12_otherFilm 16 = .ok (.iconst (-1), 1) := by decide +kernel
theorem dX12_otherFilm_17 : decode cX12_otherFilm 17 = .ok (.ixor, 1) := by decide +kernel
theorem dX12_otherFilm_18 : decode cX12_otherFilm 18 = .ok (.iand, 1) := by decide +kernel
theorem dX12_otherFilm_19 : decode cX12_otherFilm 19 = .ok (.ifCond .ne 55, 3) := by decide +kernel
theorem dX12_otherFilm_22 : decode cX12_otherFilm 22 = .ok (.aload_n 0, 1) := by decide +kernel
theorem dX12_otherFilm_23 : decode cX12_otherFilm 23 = .ok (.iload_n 3, 1) := by decide +kernel
theorem dX12_otherFilm_24 : decode cX12_otherFilm 24 = .ok (.invokevirtual 387, 3) := by decide +kernel
theorem dX12_otherFilm_27 : decode cX12_otherFilm 27 = .ok (.ifCond .ne 6, 3) := by decide +kernel
theorem dX12_otherFilm_30 : decode cX12_otherFilm 30 = .ok (.goto 44, 3) := by decide +kernel
theorem dX12_otherFilm_33 : decode cX12_otherFilm 33 = .ok (.aload_n 0, 1) := by decide +kernel
theorem dX12_otherFilm_34 : decode cX12_otherFilm 34 = .ok (.iload_n 3, 1) := by decide +kernel
theorem dX12_otherFilm_35 : decode cX12_otherFilm 35 = .ok (.invokevirtual 369, 3) := by decide +kernel
theorem dX12_otherFilm_38 : decode cX12_otherFilm 38 = .ok (.istore 4, 2) := by decide +kernel
theorem dX12_otherFilm_40 : decode cX12_otherFilm 40 = .ok (.aload_n 0, 1) := by decide +kernel
theorem dX12_otherFilm_41 : decode cX12_otherFilm 41 = .ok (.iload_n 2, 1) := by decide +kernel
theorem dX12_otherFilm_42 : decode cX12_otherFilm 42 = .ok (.invokevirtual 369, 3) := by decide +kernel
theorem dX12_otherFilm_45 : decode cX12_otherFilm 45 = .ok (.istore 5, 2) := by decide +kernel
theorem dX12_otherFilm_47 : decode cX12_otherFilm 47 = .ok (.iload 4, 2) := by decide +kernel
theorem dX12_otherFilm_49 : decode cX12_otherFilm 49 = .ok (.iload 5, 2) := by decide +kernel
theorem dX12_otherFilm_51 : decode cX12_otherFilm 51 = .ok (.if_icmp .gt 21, 3) := by decide +kernel
theorem dX12_otherFilm_54 : decode cX12_otherFilm 54 = .ok (.iload 4, 2) := by decide +kernel
theorem dX12_otherFilm_56 : decode cX12_otherFilm 56 = .ok (.iload 5, 2) := by decide +kernel
theorem dX12_otherFilm_58 : decode cX12_otherFilm 58 = .ok (.if_icmp .ne 16, 3) := by decide +kernel
theorem dX12_otherFilm_61 : decode cX12_otherFilm 61 = .ok (.iload_n 3, 1) := by decide +kernel
theorem dX12_otherFilm_62 : decode cX12_otherFilm 62 = .ok (.invokestatic 375, 3) := by decide +kernel
theorem dX12_otherFilm_65 : decode cX12_otherFilm 65 = .ok (.iload_n 2, 1) := by decide +kernel
theorem dX12_otherFilm_66 : decode cX12_otherFilm 66 = .ok (.invokestatic 375, 3) := by decide +kernel
theorem dX12_otherFilm_69 : decode cX12_otherFilm 69 = .ok (.if_icmp .ge 5, 3) := by decide +kernel
theorem dX12_otherFilm_72 : decode cX12_otherFilm 72 = .ok (.iload_n 3, 1) := by decide +kernel
theorem dX12_otherFilm_73 : decode cX12_otherFilm 73 = .ok (.istore_n 2, 1) := by decide +kernel
theorem dX12_otherFilm_74 : decode cX12_otherFilm 74 = .ok (.iinc 3 1, 3) := by decide +kernel
theorem dX12_otherFilm_77 : decode cX12_otherFilm 77 = .ok (.goto (-68), 3) := by decide +kernel
theorem dX12_otherFilm_80 : decode cX12_otherFilm 80 = .ok (.iload_n 2, 1) := by decide +kernel
theorem dX12_otherFilm_81 : decode cX12_otherFilm 81 = .ok (.ireturn, 1) := by decide +kernel
theorem dX12_other_0 : decode cX12_other 0 = .ok (.aload_n 0, 1) := by decide +kernel
theorem dX12_other_1 : decode cX12_other 1 = .ok (.iconst 0, 1) := by decide +kernel
theorem dX12_other_2 : decode cX12_other 2 = .ok (.putfield 138, 3) := by decide +kernel
theorem dX12_other_5 : decode cX12_other 5 = .ok (.iload_n 1, 1) := by decide +kernel
theorem dX12_other_6 : decode cX12_other 6 = .ok (.iconst 0, 1) := by decide +kernel
theorem dX12_other_7 : decode cX12_other 7 = .ok (.iconst 1, 1) := by decide +kernel
theorem dX12_other_8 : decode cX12_other 8 = .ok (.invokestatic 253, 3) := by decide +kernel
theorem dX12_other_11 : decode cX12_other 11 = .ok (.ifCond .ne 5, 3) := by decide +kernel
theorem dX12_other_14 : decode cX12_other 14 = .ok (.iconst (-1), 1) := by decide +kernel
theorem dX12_other_15 : decode cX12_other 15 = .ok (.ireturn, 1) := by decide +kernel
theorem dX12_other_16 : decode cX12_other 16 = .ok (.aload_n 0, 1) := by decide +kernel
theorem dX12_other_17 : decode cX12_other 17 = .ok (.invokevirtual 420, 3) := by decide +kernel
theorem dX12_other_20 : decode cX12_other 20 = .ok (.istore_n 2, 1) := by decide +kernel
theorem dX12_other_21 : decode cX12_other 21 = .ok (.iload_n 1, 1) := by decide +kernel
theorem dX12_other_22 : decode cX12_other 22 = .ok (.ifCond .ne 11, 3) := by decide +kernel
theorem dX12_other_25 : decode cX12_other 25 = .ok (.aload_n 0, 1) := by decide +kernel
theorem dX12_other_26 : decode cX12_other 26 = .ok (.iload_n 2, 1) := by decide +kernel
theorem dX12_other_27 : decode cX12_other 27 = .ok (.invokevirtual 369, 3) := by decide +kernel
theorem dX12_other_30 : decode cX12_other 30 = .ok (.goto 4, 3) := by decide +kernel
theorem dX12_other_33 : decode cX12_other 33 = .ok (.iload_n 2, 1) := by decide +kernel
theorem dX12_other_34 : decode cX12_other 34 = .ok (.ireturn, 1) := by decide +kernel
theorem dX12_mends_0 : decode cX12_mends 0 = .ok (.aload_n 0, 1) := by decide +kernel
theorem dX12_mends_1 : decode cX12_mends 1 = .ok (.iconst 0, 1) := by decide +kernel
theorem dX12_mends_2 : decode cX12_mends 2 = .ok (.putfield 138, 3) := by decide +kernel
theorem dX12_mends_5 : decode cX12_mends 5 = .ok (.aload_n 0, 1) := by decide +kernel
theorem dX12_mends_6 : decode cX12_mends 6 = .ok (.invokevirtual 417, 3) := by decide +kernel
theorem dX12_mends_9 : decode cX12_mends 9 = .ok (.istore_n 1, 1) := by decide +kernel
theorem dX12_mends_10 : decode cX12_mends 10 = .ok (.iconst (-1), 1) := by decide +kernel
theorem dX12_mends_11 : decode cX12_mends 11 = .ok (.istore_n 2, 1) := by decide +kernel
theorem dX12_mends_12 : decode cX12_mends 12 = .ok (.iconst 0, 1) := by decide +kernel
theorem dX12_mends_13 : decode cX12_mends 13 = .ok (.istore_n 3, 1) := by decide +kernel
theorem dX12_mends_14 : decode cX12_mends 14 = .ok (.iload_n 3, 1) := by decide +kernel
theorem dX12_mends_15 : decode cX12_mends 15 = .ok (.iload_n 1, 1) := by decide +kernel
theorem dX12_mends_16 : decode cX12_mends 16 = .ok (.if_icmp .gt 49, 3) := by decide +kernel
theorem dX12_mends_19 : decode cX12_mends 19 = .ok (.iload_n 3, 1) := by decide +kernel
theorem dX12_mends_20 : decode cX12_mends 20 = .ok (.iload_n 1, 1) := by decide +kernel
theorem dX12_mends_21 : decode cX12_mends 21 = .ok (.iconst (-1), 1) := by decide +kernel
theorem dX12_mends_22 : decode cX12_mends 22 = .ok (.ixor, 1) := by decide +kernel
theorem dX12_mends_23 : decode cX12_mends 23 = .ok (.iand, 1) := by decide +kernel
theorem dX12_mends_24 : decode cX12_mends 24 = .ok (.ifCond .ne 35, 3) := by decide +kernel
theorem dX12_mends_27 : decode cX12_mends 27 = .ok (.iload_n 2, 1) := by decide +kernel
theorem dX12_mends_28 : decode cX12_mends 28 = .ok (.ifCond .lt 14, 3) := by decide +kernel
theorem dX12_mends_31 : decode cX12_mends 31 = .ok (.iload_n 3, 1) := by decide +kernel
theorem dX12_mends_32 : decode cX12_mends 32 = .ok (.invokestatic 375, 3) := by decide +kernel
theorem dX12_mends_35 : decode cX12_mends 35 = .ok (.iload_n 2, 1) := by decide +kernel
theorem dX12_mends_36 : decode cX12_mends 36 = .ok (.invokestatic 375, 3) := by decide +kernel
theorem dX12_mends_39 : decode cX12_mends 39 = .ok (.if_icmp .ge 20, 3) := by decide +kernel
theorem dX12_mends_42 : decode cX12_mends 42 = .ok (.aload_n 0, 1) := by decide +kernel
theorem dX12_mends_43 : decode cX12_mends 43 = .ok (.aload_n 0, 1) := by decide +kernel
theorem dX12_mends_44 : decode cX12_mends 44 = .ok (.getfield 105, 3) := by decide +kernel
theorem dX12_mends_47 : decode cX12_mends 47 = .ok (.iconst 0, 1) := by decide +kernel
theorem dX12_mends_48 : decode cX12_mends 48 = .ok (.iaload, 1) := by decide +kernel
theorem dX12_mends_49 : decode cX12_mends 49 = .ok (.iload_n 3, 1) := by decide +kernel
theorem dX12_mends_50 : decode cX12_mends 50 = .ok (.ior, 1) := by decide +kernel
theorem dX12_mends_51 : decode cX12_mends 51 = .ok (.invokevirtual 387, 3) := by decide +kernel
theorem dX12_mends_54 : decode cX12_mends 54 = .ok (.ifCond .eq 5, 3) := by decide +kernel
theorem dX12_mends_57 : decode cX12_mends 57 = .ok (.iload_n 3, 1) := by decide +kernel
theorem dX12_mends_58 : decode cX12_mends 58 = .ok (.istore_n 2, 1) := by decide +kernel
theorem dX12_mends_59 : decode cX12_mends 59 = .ok (.iinc 3 1, 3) := by decide +kernel
theorem dX12_mends_62 : decode cX12_mends 62 = .ok (.goto (-48), 3) := by decide +kernel
theorem dX12_mends_65 : decode cX12_mends 65 = .ok (.iload_n 2, 1) := by decide +kernel
theorem dX12_mends_66 : decode cX12_mends 66 = .ok (.ireturn, 1) := by decide +kernel
theorem dX12_where_0 : decode cX12_where 0 = .ok (.aload_n 0, 1) := by decide +kernel
theorem dX12_where_1 : decode cX12_where 1 = .ok (.iconst 0, 1) := by decide +kernel
theorem dX12_where_2 : decode cX12_where 2 = .ok (.putfield 138, 3) := by decide +kernel
theorem dX12_where_5 : decode cX12_where 5 = .ok (.aload_n 0, 1) := by decide +kernel
theorem dX12_where_6 : decode cX12_where 6 = .ok (.iload_n 1, 1) := by decide +kernel
theorem dX12_where_7 : decode cX12_where 7 = .ok (.invokevirtual 347, 3) := by decide +kernel
theorem dX12_where_10 : decode cX12_where 10 = .ok (.ifCond .eq 29, 3) := by decide +kernel
theorem dX12_where_13 : decode cX12_where 13 = .ok (.aload_n 0, 1) := by decide +kernel
theorem dX12_where_14 : decode cX12_where 14 = .ok (.getfield 105, 3) := by decide +kernel
theorem dX12_where_17 : decode cX12_where 17 = .ok (.bipush 9, 2) := by decide +kernel
theorem dX12_where_19 : decode cX12_where 19 = .ok (.iload_n 1, 1) := by decide +kernel
theorem dX12_where_20 : decode cX12_where 20 = .ok (.iadd, 1) := by decide +kernel
theorem dX12_where_21 : decode cX12_where 21 = .ok (.iaload, 1) := by decide +kernel
theorem dX12_where_22 : decode cX12_where 22 = .ok (.ifCond .le 17, 3) := by decide +kernel
theorem dX12_where_25 : decode cX12_where 25 = .ok (.aload_n 0, 1) := by decide +kernel
theorem dX12_where_26 : decode cX12_where 26 = .ok (.getfield 105, 3) := by decide +kernel
theorem dX12_where_29 : decode cX12_where 29 = .ok (.bipush 9, 2) := by decide +kernel
theorem dX12_where_31 : decode cX12_where 31 = .ok (.iload_n 1, 1) := by decide +kernel
theorem dX12_where_32 : decode cX12_where 32 = .ok (.iadd, 1) := by decide +kernel
theorem dX12_where_33 : decode cX12_where 33 = .ok (.iaload, 1) := by decide +kernel
theorem dX12_where_34 : decode cX12_where 34 = .ok (.iconst 1, 1) := by decide +kernel
theorem dX12_where_35 : decode cX12_where 35 = .ok (.isub, 1) := by decide +kernel
theorem dX12_where_36 : decode cX12_where 36 = .ok (.goto 4, 3) := by decide +kernel
theorem dX12_where_39 : decode cX12_where 39 = .ok (.iconst (-1), 1) := by decide +kernel
theorem dX12_where_40 : decode cX12_where 40 = .ok (.ireturn, 1) := by decide +kernel
theorem dX12_taste_0 : decode cX12_taste 0 = .ok (.aload_n 0, 1) := by decide +kernel
theorem dX12_taste_1 : decode cX12_taste 1 = .ok (.iconst 0, 1) := by decide +kernel
theorem dX12_taste_2 : decode cX12_taste 2 = .ok (.putfield 138, 3) := by decide +kernel
theorem dX12_taste_5 : decode cX12_taste 5 = .ok (.aload_n 0, 1) := by decide +kernel
theorem dX12_taste_6 : decode cX12_taste 6 = .ok (.iload_n 1, 1) := by decide +kernel
theorem dX12_taste_7 : decode cX12_taste 7 = .ok (.invokevirtual 350, 3) := by decide +kernel
theorem dX12_taste_10 : decode cX12_taste 10 = .ok (.ifCond .eq 16, 3) := by decide +kernel
theorem dX12_taste_13 : decode cX12_taste 13 = .ok (.aload_n 0, 1) := by decide +kernel
theorem dX12_taste_14 : decode cX12_taste 14 = .ok (.iload_n 2, 1) := by decide +kernel
theorem dX12_taste_15 : decode cX12_taste 15 = .ok (.invokevirtual 350, 3) := by decide +kernel
theorem dX12_taste_18 : decode cX12_taste 18 = .ok (.ifCond .eq 8, 3) := by decide +kernel
theorem dX12_taste_21 : decode cX12_taste 21 = .ok (.iload_n 1, 1) := by decide +kernel
theorem dX12_taste_22 : decode cX12_taste 22 = .ok (.iload_n 2, 1) := by decide +kernel
theorem dX12_taste_23 : decode cX12_taste 23 = .ok (.if_icmp .ne 5, 3) := by decide +kernel
theorem dX12_taste_26 : decode cX12_taste 26 = .ok (.iconst (-1), 1) := by decide +kernel
theorem dX12_taste_27 : decode cX12_taste 27 = .ok (.ireturn, 1) := by decide +kernel
theorem dX12_taste_28 : decode cX12_taste 28 = .ok (.iconst 0, 1) := by decide +kernel
theorem dX12_taste_29 : decode cX12_taste 29 = .ok (.istore_n 3, 1) := by decide +kernel
theorem dX12_taste_30 : decode cX12_taste 30 = .ok (.iconst 0, 1) := by decide +kernel
theorem dX12_taste_31 : decode cX12_taste 31 = .ok (.istore 4, 2) := by decide +kernel
theorem dX12_taste_33 : decode cX12_taste 33 = .ok (.iload 4, 2) := by decide +kernel
theorem dX12_taste_35 : decode cX12_taste 35 = .ok (.aload_n 0, 1) := by decide +kernel
theorem dX12_taste_36 : decode cX12_taste 36 = .ok (.getfield 13, 3) := by decide +kernel
theorem dX12_taste_39 : decode cX12_taste 39 = .ok (.iconst 0, 1) := by decide +kernel
theorem dX12_taste_40 : decode cX12_taste 40 = .ok (.iaload, 1) := by decide +kernel
theorem dX12_taste_41 : decode cX12_taste 41 = .ok (.if_icmp .ge 40, 3) := by decide +kernel
theorem dX12_taste_44 : decode cX12_taste 44 = .ok (.iload_n 3, 1) := by decide +kernel
theorem dX12_taste_45 : decode cX12_taste 45 = .ok (.aload_n 0, 1) := by decide +kernel
theorem dX12_taste_46 : decode cX12_taste 46 = .ok (.iload_n 1, 1) := by decide +kernel
theorem dX12_taste_47 : decode cX12_taste 47 = .ok (.iload 4, 2) := by decide +kernel
theorem dX12_taste_49 : decode cX12_taste 49 = .ok (.iconst 0, 1) := by decide +kernel
theorem dX12_taste_50 : decode cX12_taste 50 = .ok (.bipush 10, 2) := by decide +kernel
theorem dX12_taste_52 : decode cX12_taste 52 = .ok (.invokevirtual 336, 3) := by decide +kernel
theorem dX12_taste_55 : decode cX12_taste 55 = .ok (.aload_n 0, 1) := by decide +kernel
theorem dX12_taste_56 : decode cX12_taste 56 = .ok (.iload_n 2, 1) := by decide +kernel
theorem dX12_taste_57 : decode cX12_taste 57 = .ok (.iload 4, 2) := by decide +kernel
theorem dX12_taste_59 : decode cX12_taste 59 = .ok (.iconst 0, 1) := by decide +kernel
theorem dX12_taste_60 : decode cX12_taste 60 = .ok (.bipush 10, 2) := by decide +kernel
theorem dX12_taste_62 : decode cX12_taste 62 = .ok (.invokevirtual 336, 3) := by decide +kernel
theorem dX12_taste_65 : decode cX12_taste 65 = .ok (.if_icmp .ne 7, 3) := by decide +kernel
theorem dX12_taste_68 : decode cX12_taste 68 = .ok (.iconst 1, 1) := by decide +kernel
theorem dX12_taste_69 : decode cX12_taste 69 = .ok (.goto 4, 3) := by decide +kernel
theorem dX12_taste_72 : decode cX12_taste 72 = .ok (.iconst 0, 1) := by decide +kernel
theorem dX12_taste_73 : decode cX12_taste 73 = .ok (.iadd, 1) := by decide +kernel
theorem dX12_taste_74 : decode cX12_taste 74 = .ok (.istore_n 3, 1) := by decide +kernel
theorem dX12_taste_75 : decode cX12_taste 75 = .ok (.iinc 4 1, 3) := by decide +kernel
theorem dX12_taste_78 : decode cX12_taste 78 = .ok (.goto (-45), 3) := by decide +kernel
theorem dX12_taste_81 : decode cX12_taste 81 = .ok (.iload_n 3, 1) := by decide +kernel
theorem dX12_taste_82 : decode cX12_taste 82 = .ok (.ireturn, 1) := by decide +kernel
theorem dX12_mild_0 : decode cX12_mild 0 = .ok (.aload_n 0, 1) := by decide +kernel
theorem dX12_mild_1 : decode cX12_mild 1 = .ok (.iconst 0, 1) := by decide +kernel
theorem dX12_mild_2 : decode cX12_mild 2 = .ok (.putfield 138, 3) := by decide +kernel
theorem dX12_mild_5 : decode cX12_mild 5 = .ok (.iconst (-1), 1) := by decide +kernel
theorem dX12_mild_6 : decode cX12_mild 6 = .ok (.istore_n 1, 1) := by decide +kernel
theorem dX12_mild_7 : decode cX12_mild 7 = .ok (.iconst 0, 1) := by decide +kernel
theorem dX12_mild_8 : decode cX12_mild 8 = .ok (.istore_n 2, 1) := by decide +kernel
theorem dX12_mild_9 : decode cX12_mild 9 = .ok (.iconst 0, 1) := by decide +kernel
theorem dX12_mild_10 : decode cX12_mild 10 = .ok (.istore_n 3, 1) := by decide +kernel
theorem dX12_mild_11 : decode cX12_mild 11 = .ok (.iload_n 3, 1) := by decide +kernel
theorem dX12_mild_12 : decode cX12_mild 12 = .ok (.aload_n 0, 1) := by decide +kernel
theorem dX12_mild_13 : decode cX12_mild 13 = .ok (.getfield 13, 3) := by decide +kernel
theorem dX12_mild_16 : decode cX12_mild 16 = .ok (.iconst 1, 1) := by decide +kernel
theorem dX12_mild_17 : decode cX12_mild 17 = .ok (.iaload, 1) := by decide +kernel
theorem dX12_mild_18 : decode cX12_mild 18 = .ok (.if_icmp .ge 42, 3) := by decide +kernel
theorem dX12_mild_21 : decode cX12_mild 21 = .ok (.aload_n 0, 1) := by decide +kernel
theorem dX12_mild_22 : decode cX12_mild 22 = .ok (.aload_n 0, 1) := by decide +kernel
theorem dX12_mild_23 : decode cX12_mild 23 = .ok (.iload_n 3, 1) := by decide +kernel
theorem dX12_mild_24 : decode cX12_mild 24 = .ok (.aload_n 0, 1) := by decide +kernel
theorem dX12_mild_25 : decode cX12_mild 25 = .ok (.invokevirtual 314, 3) := by decide +kernel
theorem dX12_mild_28 : decode cX12_mild 28 = .ok (.invokevirtual 340, 3) := by decide +kernel
theorem dX12_mild_31 : decode cX12_mild 31 = .ok (.invokevirtual 369, 3) := by decide +kernel
theorem dX12_mild_34 : decode cX12_mild 34 = .ok (.istore 4, 2) := by decide +kernel
theorem dX12_mild_36 : decode cX12_mild 36 = .ok (.iload_n 1, 1) := by decide +kernel
theorem dX12_mild_37 : decode cX12_mild 37 = .ok (.ifCond .lt 12, 3) := by decide +kernel
theorem dX12_mild_40 : decode cX12_mild 40 = .ok (.iload 4, 2) := by decide +kernel
theorem dX12_mild_42 : decode cX12_mild 42 = .ok (.iload_n 2, 1) := by decide +kernel
theorem dX12_mild_43 : decode cX12_mild 43 = .ok (.if_icmp .lt 6, 3) := by decide +kernel
theorem dX12_mild_46 : decode cX12_mild 46 = .ok (.goto 8, 3) := by decide +kernel
theorem dX12_mild_49 : decode cX12_mild 49 = .ok (.iload_n 3, 1) := by decide +kernel
theorem dX12_mild_50 : decode cX12_mild 50 = .ok (.istore_n 1, 1) := by decide +kernel
theorem dX12_mild_51 : decode cX12_mild 51 = .ok (.iload 4, 2) := by decide +kernel
theorem dX12_mild_53 : decode cX12_mild 53 = .ok (.istore_n 2, 1) := by decide +kernel
theorem dX12_mild_54 : decode cX12_mild 54 = .ok (.iinc 3 1, 3) := by decide +kernel
theorem dX12_mild_57 : decode cX12_mild 57 = .ok (.goto (-46), 3) := by decide +kernel
theorem dX12_mild_60 : decode cX12_mild 60 = .ok (.iload_n 1, 1) := by decide +kernel
theorem dX12_mild_61 : decode cX12_mild 61 = .ok (.ireturn, 1) := by decide +kernel
theorem dX12_see_0 : decode cX12_see 0 = .ok (.aload_n 0, 1) := by decide +kernel
theorem dX12_see_1 : decode cX12_see 1 = .ok (.iconst 0, 1) := by decide +kernel
theorem dX12_see_2 : decode cX12_see 2 = .ok (.putfield 138, 3) := by decide +kernel
theorem dX12_see_5 : decode cX12_see 5 = .ok (.aload_n 0, 1) := by decide +kernel
theorem dX12_see_6 : decode cX12_see 6 = .ok (.iload_n 1, 1) := by decide +kernel
theorem dX12_see_7 : decode cX12_see 7 = .ok (.invokevirtual 347, 3) := by decide +kernel
theorem dX12_see_10 : decode cX12_see 10 = .ok (.ifCond .eq 14, 3) := by decide +kernel
theorem dX12_see_13 : decode cX12_see 13 = .ok (.aload_n 0, 1) := by decide +kernel
theorem dX12_see_14 : decode cX12_see 14 = .ok (.getfield 96, 3) := by decide +kernel
theorem dX12_see_17 : decode cX12_see 17 = .ok (.iconst 0, 1) := by decide +kernel
theorem dX12_see_18 : decode cX12_see 18 = .ok (.iaload, 1) := by decide +kernel
theorem dX12_see_19 : decode cX12_see 19 = .ok (.bipush 8, 2) := by decide +kernel
theorem dX12_see_21 : decode cX12_see 21 = .ok (.if_icmp .ne 5, 3) := by decide +kernel
theorem dX12_see_24 : decode cX12_see 24 = .ok (.iconst 0, 1) := by decide +kernel
theorem dX12_see_25 : decode cX12_see 25 = .ok (.ireturn, 1) := by decide +kernel
theorem dX12_see_26 : decode cX12_see 26 = .ok (.aload_n 0, 1) := by decide +kernel
theorem dX12_see_27 : decode cX12_see 27 = .ok (.getfield 99, 3) := by decide +kernel
theorem dX12_see_30 : decode cX12_see 30 = .ok (.aload_n 0, 1) := by decide +kernel
theorem dX12_see_31 : decode cX12_see 31 = .ok (.getfield 96, 3) := by decide +kernel
theorem dX12_see_34 : decode cX12_see 34 = .ok (.iconst 0, 1) := by decide +kernel
theorem dX12_see_35 : decode cX12_see 35 = .ok (.iaload, 1) := by decide +kernel
theorem dX12_see_36 : decode cX12_see 36 = .ok (.iload_n 1, 1) := by decide +kernel
theorem dX12_see_37 : decode cX12_see 37 = .ok (.iastore, 1) := by decide +kernel
theorem dX12_see_38 : decode cX12_see 38 = .ok (.aload_n 0, 1) := by decide +kernel
theorem dX12_see_39 : decode cX12_see 39 = .ok (.getfield 102, 3) := by decide +kernel
theorem dX12_see_42 : decode cX12_see 42 = .ok (.aload_n 0, 1) := by decide +kernel
theorem dX12_see_43 : decode cX12_see 43 = .ok (.getfield 96, 3) := by decide +kernel
theorem dX12_see_46 : decode cX12_see 46 = .ok (.iconst 0, 1) := by decide +kernel
theorem dX12_see_47 : decode cX12_see 47 = .ok (.iaload, 1) := by decide +kernel
theorem dX12_see_48 : decode cX12_see 48 = .ok (.iload_n 2, 1) := by decide +kernel
theorem dX12_see_49 : decode cX12_see 49 = .ok (.bastore, 1) := by decide +kernel
theorem dX12_see_50 : decode cX12_see 50 = .ok (.aload_n 0, 1) := by decide +kernel
theorem dX12_see_51 : decode cX12_see 51 = .ok (.getfield 96, 3) := by decide +kernel
theorem dX12_see_54 : decode cX12_see 54 = .ok (.iconst 0, 1) := by decide +kernel
theorem dX12_see_55 : decode cX12_see 55 = .ok (.dup2, 1) := by decide +kernel
theorem dX12_see_56 : decode cX12_see 56 = .ok (.iaload, 1) := by decide +kernel
theorem dX12_see_57 : decode cX12_see 57 = .ok (.iconst 1, 1) := by decide +kernel
theorem dX12_see_58 : decode cX12_see 58 = .ok (.iadd, 1) := by decide +kernel
theorem dX12_see_59 : decode cX12_see 59 = .ok (.iastore, 1) := by decide +kernel
theorem dX12_see_60 : decode cX12_see 60 = .ok (.iconst 1, 1) := by decide +kernel
theorem dX12_see_61 : decode cX12_see 61 = .ok (.ireturn, 1) := by decide +kernel
theorem dX12_hallsAsSeen_0 : decode cX12_hallsAsSeen 0 = .ok (.iconst 0, 1) := by decide +kernel
theorem dX12_hallsAsSeen_1 : decode cX12_hallsAsSeen 1 = .ok (.istore_n 1, 1) := by decide +kernel
theorem dX12_hallsAsSeen_2 : decode cX12_hallsAsSeen 2 = .ok (.iconst 0, 1) := by decide +kernel
theorem dX12_hallsAsSeen_3 : decode cX12_hallsAsSeen 3 = .ok (.istore_n 2, 1) := by decide +kernel
theorem dX12_hallsAsSeen_4 : decode cX12_hallsAsSeen 4 = .ok (.iload_n 2, 1) := by decide +kernel
theorem dX12_hallsAsSeen_5 : decode cX12_hallsAsSeen 5 = .ok (.aload_n 0, 1) := by decide +kernel
theorem dX12_hallsAsSeen_6 : decode cX12_hallsAsSeen 6 = .ok (.getfield 13, 3) := by decide +kernel
theorem dX12_hallsAsSeen_9 : decode cX12_hallsAsSeen 9 = .ok (.iconst 1, 1) := by decide +kernel
theorem dX12_hallsAsSeen_10 : decode cX12_hallsAsSeen 10 = .ok (.iaload, 1) := by decide +kernel
theorem dX12_hallsAsSeen_11 : decode cX12_hallsAsSeen 11 = .ok (.if_icmp .ge 110, 3) := by decide +kernel
theorem dX12_hallsAsSeen_14 : decode cX12_hallsAsSeen 14 = .ok (.aload_n 0, 1) := by decide +kernel
theorem dX12_hallsAsSeen_15 : decode cX12_hallsAsSeen 15 = .ok (.getfield 105, 3) := by decide +kernel
theorem dX12_hallsAsSeen_18 : decode cX12_hallsAsSeen 18 = .ok (.iconst 0, 1) := by decide +kernel
theorem dX12_hallsAsSeen_19 : decode cX12_hallsAsSeen 19 = .ok (.iaload, 1) := by decide +kernel
theorem dX12_hallsAsSeen_20 : decode cX12_hallsAsSeen 20 = .ok (.aload_n 0, 1) := by decide +kernel
theorem dX12_hallsAsSeen_21 : decode cX12_hallsAsSeen 21 = .ok (.iload_n 2, 1) := by decide +kernel
theorem dX12_hallsAsSeen_22 : decode cX12_hallsAsSeen 22 = .ok (.aload_n 0, 1) := by decide +kernel
theorem dX12_hallsAsSeen_23 : decode cX12_hallsAsSeen 23 = .ok (.getfield 105, 3) := by decide +kernel
theorem dX12_hallsAsSeen_26 : decode cX12_hallsAsSeen 26 = .ok (.iconst 0, 1) := by decide +kernel
theorem dX12_hallsAsSeen_27 : decode cX12_hallsAsSeen 27 = .ok (.iaload, 1) := by decide +kernel
theorem dX12_hallsAsSeen_28 : decode cX12_hallsAsSeen 28 = .ok (.invokevirtual 340, 3) := by decide +kernel
theorem dX12_hallsAsSeen_31 : decode cX12_hallsAsSeen 31 = .ok (.iconst (-1), 1) := by decide +kernel
theorem dX12_hallsAsSeen_32 : decode cX12_hallsAsSeen 32 = .ok (.ixor, 1) := by decide +kernel
theorem dX12_hallsAsSeen_33 : decode cX12_hallsAsSeen 33 = .ok (.iand, 1) := by decide +kernel
theorem dX12_hallsAsSeen_34 : decode cX12_hallsAsSeen 34 = .ok (.istore_n 3, 1) := by decide +kernel
theorem dX12_hallsAsSeen_35 : decode cX12_hallsAsSeen 35 = .ok (.iconst 1, 1) := by decide +kernel
theorem dX12_hallsAsSeen_36 : decode cX12_hallsAsSeen 36 = .ok (.istore 4, 2) := by decide +kernel
theorem dX12_hallsAsSeen_38 : decode cX12_hallsAsSeen 38 = .ok (.iconst 0, 1) := by decide +kernel
theorem dX12_hallsAsSeen_39 : decode cX12_hallsAsSeen 39 = .ok (.istore 5, 2) := by decide +kernel
theorem dX12_hallsAsSeen_41 : decode cX12_hallsAsSeen 41 = .ok (.iload 5, 2) := by decide +kernel
theorem dX12_hallsAsSeen_43 : decode cX12_hallsAsSeen 43 = .ok (.aload_n 0, 1) := by decide +kernel
theorem dX12_hallsAsSeen_44 : decode cX12_hallsAsSeen 44 = .ok (.getfield 96, 3) := by decide +kernel
theorem dX12_hallsAsSeen_47 : decode cX12_hallsAsSeen 47 = .ok (.iconst 0, 1) := by decide +kernel
theorem dX12_hallsAsSeen_48 : decode cX12_hallsAsSeen 48 = .ok (.iaload, 1) := by decide +kernel
theorem dX12_hallsAsSeen_49 : decode cX12_hallsAsSeen 49 = .ok (.if_icmp .ge 51, 3) := by decide +kernel
theorem dX12_hallsAsSeen_52 : decode cX12_hallsAsSeen 52 = .ok (.iload 4, 2) := by decide +kernel
theorem dX12_hallsAsSeen_54 : decode cX12_hallsAsSeen 54 = .ok (.ifCond .eq 37, 3) := by decide +kernel
theorem dX12_hallsAsSeen_57 : decode cX12_hallsAsSeen 57 = .ok (.iload_n 3, 1) := by decide +kernel
theorem dX12_hallsAsSeen_58 : decode cX12_hallsAsSeen 58 = .ok (.aload_n 0, 1) := by decide +kernel
theorem dX12_hallsAsSeen_59 : decode cX12_hallsAsSeen 59 = .ok (.getfield 99, 3) := by decide +kernel
theorem dX12_hallsAsSeen_62 : decode cX12_hallsAsSeen 62 = .ok (.iload 5, 2) := by decide +kernel
theorem dX12_hallsAsSeen_64 : decode cX12_hallsAsSeen 64 = .ok (.iaload, 1) := by decide +kernel
theorem dX12_hallsAsSeen_65 : decode cX12_hallsAsSeen 65 = .ok (.ishr, 1) := by decide +kernel
theorem dX12_hallsAsSeen_66 : decode cX12_hallsAsSeen 66 = .ok (.iconst 1, 1) := by decide +kernel
theorem dX12_hallsAsSeen_67 : decode cX12_hallsAsSeen 67 = .ok (.iand, 1) := by decide +kernel
theorem dX12_hallsAsSeen_68 : decode cX12_hallsAsSeen 68 = .ok (.iconst 1, 1) := by decide +kernel
theorem dX12_hallsAsSeen_69 : decode cX12_hallsAsSeen 69 = .ok (.if_icmp .ne 7, 3) := by decide +kernel
theorem dX12_hallsAsSeen_72 : decode cX12_hallsAsSeen 72 = .ok (.iconst 1, 1) := by decide +kernel
theorem dX12_hallsAsSeen_73 : decode cX12_hallsAsSeen 73 = .ok (.goto 4, 3) := by decide +kernel
theorem dX12_hallsAsSeen_76 : decode cX12_hallsAsSeen 76 = .ok (.iconst 0, 1) := by decide +kernel
theorem dX12_hallsAsSeen_77 : decode cX12_hallsAsSeen 77 = .ok (.aload_n 0, 1) := by decide +kernel
theorem dX12_hallsAsSeen_78 : decode cX12_hallsAsSeen 78 = .ok (.getfield 102, 3) := by decide +kernel
theorem dX12_hallsAsSeen_81 : decode cX12_hallsAsSeen 81 = .ok (.iload 5, 2) := by decide +kernel
theorem dX12_hallsAsSeen_83 : decode cX12_hallsAsSeen 83 = .ok (.baload, 1) := by decide +kernel
theorem dX12_hallsAsSeen_84 : decode cX12_hallsAsSeen 84 = .ok (.if_icmp .ne 7, 3) := by decide +kernel
theorem dX12_hallsAsSeen_87 : decode cX12_hallsAsSeen 87 = .ok (.iconst 1, 1) := by decide +kernel
theorem dX12_hallsAsSeen_88 : decode cX12_hallsAsSeen 88 = .ok (.goto 4, 3) := by decide +kernel
theorem dX12_hallsAsSeen_91 : decode cX12_hallsAsSeen 91 = .ok (.iconst 0, 1) := by decide +kernel
theorem dX12_hallsAsSeen_92 : decode cX12_hallsAsSeen 92 = .ok (.istore 4, 2) := by decide +kernel
theorem dX12_hallsAsSeen_94 : decode cX12_hallsAsSeen 94 = .ok (.iinc 5 1, 3) := by decide +kernel
theorem dX12_hallsAsSeen_97 : decode cX12_hallsAsSeen 97 = .ok (.goto (-56), 3) := by decide +kernel
theorem dX12_hallsAsSeen_100 : decode cX12_hallsAsSeen 100 = .ok (.iload_n 1, 1) := by decide +kernel
theorem dX12_hallsAsSeen_101 : decode cX12_hallsAsSeen 101 = .ok (.iload 4, 2) := by decide +kernel
theorem dX12_hallsAsSeen_103 : decode cX12_hallsAsSeen 103 = .ok (.ifCond .eq 9, 3) := by decide +kernel
theorem dX12_hallsAsSeen_106 : decode cX12_hallsAsSeen 106 = .ok (.iconst 1, 1) := by decide +kernel
theorem dX12_hallsAsSeen_107 : decode cX12_hallsAsSeen 107 = .ok (.iload_n 2, 1) := by decide +kernel
theorem dX12_hallsAsSeen_108 : decode cX12_hallsAsSeen 108 = .ok (.ishl, 1) := by decide +kernel
theorem dX12_hallsAsSeen_109 : decode cX12_hallsAsSeen 109 = .ok (.goto 4, 3) := by decide +kernel
theorem dX12_hallsAsSeen_112 : decode cX12_hallsAsSeen 112 = .ok (.iconst 0, 1) := by decide +kernel
theorem dX12_hallsAsSeen_113 : decode cX12_hallsAsSeen 113 = .ok (.ior, 1) := by decide +kernel
theorem dX12_hallsAsSeen_114 : decode cX12_hallsAsSeen 114 = .ok (.istore_n 1, 1) := by decide +kernel
theorem dX12_hallsAsSeen_115 : decode cX12_hallsAsSeen 115 = .ok (.iinc 2 1, 3) := by decide +kernel
theorem dX12_hallsAsSeen_118 : decode cX12_hallsAsSeen 118 = .ok (.goto (-114), 3) := by decide +kernel
theorem dX12_hallsAsSeen_121 : decode cX12_hallsAsSeen 121 = .ok (.iload_n 1, 1) := by decide +kernel
theorem dX12_hallsAsSeen_122 : decode cX12_hallsAsSeen 122 = .ok (.ireturn, 1) := by decide +kernel
theorem dX12_halls_0 : decode cX12_halls 0 = .ok (.aload_n 0, 1) := by decide +kernel
theorem dX12_halls_1 : decode cX12_halls 1 = .ok (.iconst 0, 1) := by decide +kernel
theorem dX12_halls_2 : decode cX12_halls 2 = .ok (.putfield 138, 3) := by decide +kernel
theorem dX12_halls_5 : decode cX12_halls 5 = .ok (.aload_n 0, 1) := by decide +kernel
theorem dX12_halls_6 : decode cX12_halls 6 = .ok (.invokevirtual 423, 3) := by decide +kernel
theorem dX12_halls_9 : decode cX12_halls 9 = .ok (.ireturn, 1) := by decide +kernel
theorem dX12_ask_0 : decode cX12_ask 0 = .ok (.aload_n 0, 1) := by decide +kernel
theorem dX12_ask_1 : decode cX12_ask 1 = .ok (.iconst 0, 1) := by decide +kernel
theorem dX12_ask_2 : decode cX12_ask 2 = .ok (.putfield 138, 3) := by decide +kernel
theorem dX12_ask_5 : decode cX12_ask 5 = .ok (.aload_n 0, 1) := by decide +kernel
theorem dX12_ask_6 : decode cX12_ask 6 = .ok (.invokevirtual 423, 3) := by decide +kernel
theorem dX12_ask_9 : decode cX12_ask 9 = .ok (.istore_n 1, 1) := by decide +kernel
theorem dX12_ask_10 : decode cX12_ask 10 = .ok (.iload_n 1, 1) := by decide +kernel
theorem dX12_ask_11 : decode cX12_ask 11 = .ok (.invokestatic 375, 3) := by decide +kernel
theorem dX12_ask_14 : decode cX12_ask 14 = .ok (.istore_n 2, 1) := by decide +kernel
theorem dX12_ask_15 : decode cX12_ask 15 = .ok (.iload_n 2, 1) := by decide +kernel
theorem dX12_ask_16 : decode cX12_ask 16 = .ok (.istore_n 3, 1) := by decide +kernel
theorem dX12_ask_17 : decode cX12_ask 17 = .ok (.iconst (-1), 1) := by decide +kernel
theorem dX12_ask_18 : decode cX12_ask 18 = .ok (.istore 4, 2) := by decide +kernel
theorem dX12_ask_20 : decode cX12_ask 20 = .ok (.iconst 0, 1) := by decide +kernel
theorem dX12_ask_21 : decode cX12_ask 21 = .ok (.istore 5, 2) := by decide +kernel
theorem dX12_ask_23 : decode cX12_ask 23 = .ok (.iload 5, 2) := by decide +kernel
theorem dX12_ask_25 : decode cX12_ask 25 = .ok (.aload_n 0, 1) := by decide +kernel
theorem dX12_ask_26 : decode cX12_ask 26 = .ok (.getfield 13, 3) := by decide +kernel
theorem dX12_ask_29 : decode cX12_ask 29 = .ok (.iconst 0, 1) := by decide +kernel
theorem dX12_ask_30 : decode cX12_ask 30 = .ok (.iaload, 1) := by decide +kernel
theorem dX12_ask_31 : decode cX12_ask 31 = .ok (.if_icmp .ge 108, 3) := by decide +kernel
theorem dX12_ask_34 : decode cX12_ask 34 = .ok (.iconst 0, 1) := by decide +kernel
theorem dX12_ask_35 : decode cX12_ask 35 = .ok (.istore 6, 2) := by decide +kernel
theorem dX12_ask_37 : decode cX12_ask 37 = .ok (.iconst 0, 1) := by decide +kernel
theorem dX12_ask_38 : decode cX12_ask 38 = .ok (.istore 7, 2) := by decide +kernel
theorem dX12_ask_40 : decode cX12_ask 40 = .ok (.iload 7, 2) := by decide +kernel
theorem dX12_ask_42 : decode cX12_ask 42 = .ok (.aload_n 0, 1) := by decide +kernel
theorem dX12_ask_43 : decode cX12_ask 43 = .ok (.getfield 13, 3) := by decide +kernel
theorem dX12_ask_46 : decode cX12_ask 46 = .ok (.iconst 1, 1) := by decide +kernel
theorem dX12_ask_47 : decode cX12_ask 47 = .ok (.iaload, 1) := by decide +kernel
theorem dX12_ask_48 : decode cX12_ask 48 = .ok (.if_icmp .ge 58, 3) := by decide +kernel
theorem dX12_ask_51 : decode cX12_ask 51 = .ok (.iload 6, 2) := by decide +kernel
theorem dX12_ask_53 : decode cX12_ask 53 = .ok (.iload_n 1, 1) := by decide +kernel
theorem dX12_ask_54 : decode cX12_ask 54 = .ok (.iload 7, 2) := by decide +kernel
theorem dX12_ask_56 : decode cX12_ask 56 = .ok (.ishr, 1) := by decide +kernel
theorem dX12_ask_57 : decode cX12_ask 57 = .ok (.iconst 1, 1) := by decide +kernel
theorem dX12_ask_58 : decode cX12_ask 58 = .ok (.iand, 1) := by decide +kernel
theorem dX12_ask_59 : decode cX12_ask 59 = .ok (.iconst 1, 1) := by decide +kernel
theorem dX12_ask_60 : decode cX12_ask 60 = .ok (.if_icmp .ne 36, 3) := by decide +kernel
theorem dX12_ask_63 : decode cX12_ask 63 = .ok (.aload_n 0, 1) := by decide +kernel
theorem dX12_ask_64 : decode cX12_ask 64 = .ok (.getfield 105, 3) := by decide +kernel
theorem dX12_ask_67 : decode cX12_ask 67 = .ok (.iconst 0, 1) := by decide +kernel
theorem dX12_ask_68 : decode cX12_ask 68 = .ok (.iaload, 1) := by decide +kernel
theorem dX12_ask_69 : decode cX12_ask 69 = .ok (.aload_n 0, 1) := by decide +kernel
theorem dX12_ask_70 : decode cX12_ask 70 = .ok (.iload 7, 2) := by decide +kernel
theorem dX12_ask_72 : decode cX12_ask 72 = .ok (.aload_n 0, 1) := by decide +kernel
theorem dX12_ask_73 : decode cX12_ask 73 = .ok (.getfield 105, 3) := by decide +kernel
theorem dX12_ask_76 : decode cX12_ask 76 = .ok (.iconst 0, 1) := by decide +kernel
theorem dX12_ask_77 : decode cX12_ask 77 = .ok (.iaload, 1) := by decide +kernel
theorem dX12_ask_78 : decode cX12_ask 78 = .ok (.invokevirtual 340, 3) := by decide +kernel
theorem dX12_ask_81 : decode cX12_ask 81 = .ok (.iconst (-1), 1) := by decide +kernel
theorem dX12_ask_82 : decode cX12_ask 82 = .ok (.ixor, 1) := by decide +kernel
theorem dX12_ask_83 : decode cX12_ask 83 = .ok (.iand, 1) := by decide +kernel
theorem dX12_ask_84 : decode cX12_ask 84 = .ok (.iconst 1, 1) := by decide +kernel
theorem dX12_ask_85 : decode cX12_ask 85 = .ok (.iload 5, 2) := by decide +kernel
theorem dX12_ask_87 : decode cX12_ask 87 = .ok (.ishl, 1) := by decide +kernel
theorem dX12_ask_88 : decode cX12_ask 88 = .ok (.iand, 1) := by decide +kernel
theorem dX12_ask_89 : decode cX12_ask 89 = .ok (.ifCond .eq 7, 3) := by decide +kernel
theorem dX12_ask_92 : decode cX12_ask 92 = .ok (.iconst 1, 1) := by decide +kernel
theorem dX12_ask_93 : decode cX12_ask 93 = .ok (.goto 4, 3) := by decide +kernel
theorem dX12_ask_96 : decode cX12_ask 96 = .ok (.iconst 0, 1) := by decide +kernel
theorem dX12_ask_97 : decode cX12_ask 97 = .ok (.iadd, 1) := by decide +kernel
theorem dX12_ask_98 : decode cX12_ask 98 = .ok (.istore 6, 2) := by decide +kernel
theorem dX12_ask_100 : decode cX12_ask 100 = .ok (.iinc 7 1, 3) := by decide +kernel
theorem dX12_ask_103 : decode cX12_ask 103 = .ok (.goto (-63), 3) := by decide +kernel
theorem dX12_ask_106 : decode cX12_ask 106 = .ok (.iload 6, 2) := by decide +kernel
theorem dX12_ask_108 : decode cX12_ask 108 = .ok (.iload_n 2, 1) := by decide +kernel
theorem dX12_ask_109 : decode cX12_ask 109 = .ok (.iload 6, 2) := by decide +kernel
theorem dX12_ask_111 : decode cX12_ask 111 = .ok (.isub, 1) := by decide +kernel
theorem dX12_ask_112 : decode cX12_ask 112 = .ok (.invokestatic 405, 3) := by decide +kernel
theorem dX12_ask_115 : decode cX12_ask 115 = .ok (.istore 6, 2) := by decide +kernel
theorem dX12_ask_117 : decode cX12_ask 117 = .ok (.iload 6, 2) := by decide +kernel
theorem dX12_ask_119 : decode cX12_ask 119 = .ok (.iload_n 3, 1) := by decide +kernel
theorem dX12_ask_120 : decode cX12_ask 120 = .ok (.if_icmp .lt 6, 3) := by decide +kernel
theorem dX12_ask_123 : decode cX12_ask 123 = .ok (.goto 10, 3) := by decide +kernel
theorem dX12_ask_126 : decode cX12_ask 126 = .ok (.iload 6, 2) := by decide +kernel
theorem dX12_ask_128 : decode cX12_ask 128 = .ok (.istore_n 3, 1) := by decide +kernel
theorem dX12_ask_129 : decode cX12_ask 129 = .ok (.iload 5, 2) := by decide +kernel
theorem dX12_ask_131 : decode cX12_ask 131 = .ok (.istore 4, 2) := by decide +kernel
theorem dX12_ask_133 : decode cX12_ask 133 = .ok (.iinc 5 1, 3) := by decide +kernel
theorem dX12_ask_136 : decode cX12_ask 136 = .ok (.goto (-113), 3) := by decide +kernel
theorem dX12_ask_139 : decode cX12_ask 139 = .ok (.iload 4, 2) := by decide +kernel
theorem dX12_ask_141 : decode cX12_ask 141 = .ok (.ireturn, 1) := by decide +kernel
theorem dX12_getsBy_0 : decode cX12_getsBy 0 = .ok (.iload_n 3, 1) := by decide +kernel
theorem dX12_getsBy_1 : decode cX12_getsBy 1 = .ok (.iconst 1, 1) := by decide +kernel
theorem dX12_getsBy_2 : decode cX12_getsBy 2 = .ok (.if_icmp .ne 17, 3) := by decide +kernel
theorem dX12_getsBy_5 : decode cX12_getsBy 5 = .ok (.iload 4, 2) := by decide +kernel
theorem dX12_getsBy_7 : decode cX12_getsBy 7 = .ok (.iconst 1, 1) := by decide +kernel
theorem dX12_getsBy_8 : decode cX12_getsBy 8 = .ok (.if_icmp .ne 7, 3) := by decide +kernel
theorem dX12_getsBy_11 : decode cX12_getsBy 11 = .ok (.iload_n 0, 1) := by decide +kernel
theorem dX12_getsBy_12 : decode cX12_getsBy 12 = .ok (.goto 18, 3) := by decide +kernel
theorem dX12_getsBy_15 : decode cX12_getsBy 15 = .ok (.iload_n 2, 1) := by decide +kernel
theorem dX12_getsBy_16 : decode cX12_getsBy 16 = .ok (.goto 14, 3) := by decide +kernel
theorem dX12_getsBy_19 : decode cX12_getsBy 19 = .ok (.iload 4, 2) := by decide +kernel
theorem dX12_getsBy_21 : decode cX12_getsBy 21 = .ok (.iconst 1, 1) := by decide +kernel
theorem dX12_getsBy_22 : decode cX12_getsBy 22 = .ok (.if_icmp .ne 7, 3) := by decide +kernel
theorem dX12_getsBy_25 : decode cX12_getsBy 25 = .ok (.iconst 0, 1) := by decide +kernel
theorem dX12_getsBy_26 : decode cX12_getsBy 26 = .ok (.goto 4, 3) := by decide +kernel
theorem dX12_getsBy_29 : decode cX12_getsBy 29 = .ok (.iload_n 1, 1) := by decide +kernel
theorem dX12_getsBy_30 : decode cX12_getsBy 30 = .ok (.ireturn, 1) := by decide +kernel
theorem dX12_rests_0 : decode cX12_rests 0 = .ok (.aload_n 0, 1) := by decide +kernel
theorem dX12_rests_1 : decode cX12_rests 1 = .ok (.iload_n 1, 1) := by decide +kernel
theorem dX12_rests_2 : decode cX12_rests 2 = .ok (.iconst 0, 1) := by decide +kernel
theorem dX12_rests_3 : decode cX12_rests 3 = .ok (.bipush 9, 2) := by decide +kernel
theorem dX12_rests_5 : decode cX12_rests 5 = .ok (.invokestatic 253, 3) := by decide +kernel
theorem dX12_rests_8 : decode cX12_rests 8 = .ok (.ifCond .eq 33, 3) := by decide +kernel
theorem dX12_rests_11 : decode cX12_rests 11 = .ok (.iload_n 2, 1) := by decide +kernel
theorem dX12_rests_12 : decode cX12_rests 12 = .ok (.iconst 0, 1) := by decide +kernel
theorem dX12_rests_13 : decode cX12_rests 13 = .ok (.bipush 9, 2) := by decide +kernel
theorem dX12_rests_15 : decode cX12_rests 15 = .ok (.invokestatic 253, 3) := by decide +kernel
theorem dX12_rests_18 : decode cX12_rests 18 = .ok (.ifCond .eq 23, 3) := by decide +kernel
theorem dX12_rests_21 : decode cX12_rests 21 = .ok (.iload_n 3, 1) := by decide +kernel
theorem dX12_rests_22 : decode cX12_rests 22 = .ok (.iconst 0, 1) := by decide +kernel
theorem dX12_rests_23 : decode cX12_rests 23 = .ok (.bipush 9, 2) := by decide +kernel
theorem dX12_rests_25 : decode cX12_rests 25 = .ok (.invokestatic 253, 3) := by decide +kernel
theorem dX12_rests_28 : decode cX12_rests 28 = .ok (.ifCond .eq 13, 3) := by decide +kernel
theorem dX12_rests_31 : decode cX12_rests 31 = .ok (.iload 4, 2) := by decide +kernel
theorem dX12_rests_33 : decode cX12_rests 33 = .ok (.iconst (-1), 1) := by decide +kernel
theorem dX12_rests_34 : decode cX12_rests 34 = .ok (.if_icmp .lt 7, 3) := by decide +kernel
theorem dX12_rests_37 : decode cX12_rests 37 = .ok (.iconst 0, 1) := by decide +kernel
theorem dX12_rests_38 : decode cX12_rests 38 = .ok (.goto 4, 3) := by decide +kernel
theorem dX12_rests_41 : decode cX12_rests 41 = .ok (.iconst 1, 1) := by decide +kernel
theorem dX12_rests_42 : decode cX12_rests 42 = .ok (.putfield 138, 3) := by decide +kernel
theorem dX12_rests_45 : decode cX12_rests 45 = .ok (.aload_n 0, 1) := by decide +kernel
theorem dX12_rests_46 : decode cX12_rests 46 = .ok (.getfield 138, 3) := by decide +kernel
theorem dX12_rests_49 : decode cX12_rests 49 = .ok (.iconst 1, 1) := by decide +kernel
theorem dX12_rests_50 : decode cX12_rests 50 = .ok (.if_icmp .ne 5, 3) := by decide +kernel
theorem dX12_rests_53 : decode cX12_rests 53 = .ok (.iconst 0, 1) := by decide +kernel
theorem dX12_rests_54 : decode cX12_rests 54 = .ok (.ireturn, 1) := by decide +kernel
theorem dX12_rests_55 : decode cX12_rests 55 = .ok (.iconst 0, 1) := by decide +kernel
theorem dX12_rests_56 : decode cX12_rests 56 = .ok (.istore 5, 2) := by decide +kernel
theorem dX12_rests_58 : decode cX12_rests 58 = .ok (.iconst 0, 1) := by decide +kernel
theorem dX12_rests_59 : decode cX12_rests 59 = .ok (.istore 6, 2) := by decide +kernel
theorem dX12_rests_61 : decode cX12_rests 61 = .ok (.iload 6, 2) := by decide +kernel
theorem dX12_rests_63 : decode cX12_rests 63 = .ok (.iconst 4, 1) := by decide +kernel
theorem dX12_rests_64 : decode cX12_rests 64 = .ok (.if_icmp .ge 87, 3) := by decide +kernel
theorem dX12_rests_67 : decode cX12_rests 67 = .ok (.iload 6, 2) := by decide +kernel
theorem dX12_rests_69 : decode cX12_rests 69 = .ok (.iconst 2, 1) := by decide +kernel
theorem dX12_rests_70 : decode cX12_rests 70 = .ok (.idiv, 1) := by decide +kernel
theorem dX12_rests_71 : decode cX12_rests 71 = .ok (.istore 7, 2) := by decide +kernel
theorem dX12_rests_73 : decode cX12_rests 73 = .ok (.iload 6, 2) := by decide +kernel
theorem dX12_rests_75 : decode cX12_rests 75 = .ok (.iconst 2, 1) := by decide +kernel
theorem dX12_rests_76 : decode cX12_rests 76 = .ok (.irem, 1) := by decide +kernel
theorem dX12_rests_77 : decode cX12_rests 77 = .ok (.istore 8, 2) := by decide +kernel
theorem dX12_rests_79 : decode cX12_rests 79 = .ok (.iload_n 1, 1) := by decide +kernel
theorem dX12_rests_80 : decode cX12_rests 80 = .ok (.iload_n 2, 1) := by decide +kernel
theorem dX12_rests_81 : decode cX12_rests 81 = .ok (.iload_n 3, 1) := by decide +kernel
theorem dX12_rests_82 : decode cX12_rests 82 = .ok (.iconst 1, 1) := by decide +kernel
theorem dX12_rests_83 : decode cX12_rests 83 = .ok (.iload 7, 2) := by decide +kernel
theorem dX12_rests_85 : decode cX12_rests 85 = .ok (.isub, 1) := by decide +kernel
theorem dX12_rests_86 : decode cX12_rests 86 = .ok (.iload 8, 2) := by decide +kernel
theorem dX12_rests_88 : decode cX12_rests 88 = .ok (.invokestatic 426, 3) := by decide +kernel
theorem dX12_rests_91 : decode cX12_rests 91 = .ok (.iload_n 1, 1) := by decide +kernel
theorem dX12_rests_92 : decode cX12_rests 92 = .ok (.iload_n 2, 1) := by decide +kernel
theorem dX12_rests_93 : decode cX12_rests 93 = .ok (.iload_n 3, 1) := by decide +kernel
theorem dX12_rests_94 : decode cX12_rests 94 = .ok (.iload 7, 2) := by decide +kernel
theorem dX12_rests_96 : decode cX12_rests 96 = .ok (.iload 8, 2) := by decide +kernel
theorem dX12_rests_98 : decode cX12_rests 98 = .ok (.invokestatic 426, 3) := by decide +kernel
theorem dX12_rests_101 : decode cX12_rests 101 = .ok (.if_icmp .gt 44, 3) := by decide +kernel
theorem dX12_rests_104 : decode cX12_rests 104 = .ok (.iload_n 1, 1) := by decide +kernel
theorem dX12_rests_105 : decode cX12_rests 105 = .ok (.iload_n 2, 1) := by decide +kernel
theorem dX12_rests_106 : decode cX12_rests 106 = .ok (.iload_n 3, 1) := by decide +kernel
theorem dX12_rests_107 : decode cX12_rests 107 = .ok (.iconst 1, 1) := by decide +kernel
theorem dX12_rests_108 : decode cX12_rests 108 = .ok (.iload 8, 2) := by decide +kernel
theorem dX12_rests_110 : decode cX12_rests 110 = .ok (.isub, 1) := by decide +kernel
theorem dX12_rests_111 : decode cX12_rests 111 = .ok (.iload 7, 2) := by decide +kernel
theorem dX12_rests_113 : decode cX12_rests 113 = .ok (.invokestatic 426, 3) := by decide +kernel
theorem dX12_rests_116 : decode cX12_rests 116 = .ok (.iload_n 1, 1) := by decide +kernel
theorem dX12_rests_117 : decode cX12_rests 117 = .ok (.iload_n 2, 1) := by decide +kernel
theorem dX12_rests_118 : decode cX12_rests 118 = .ok (.iload_n 3, 1) := by decide +kernel
theorem dX12_rests_119 : decode cX12_rests 119 = .ok (.iload 8, 2) := by decide +kernel
theorem dX12_rests_121 : decode cX12_rests 121 = .ok (.iload 7, 2) := by decide +kernel
theorem dX12_rests_123 : decode cX12_rests 123 = .ok (.invokestatic 426, 3) := by decide +kernel
theorem dX12_rests_126 : decode cX12_rests 126 = .ok (.if_icmp .le 6, 3) := by decide +kernel
theorem dX12_rests_129 : decode cX12_rests 129 = .ok (.goto 16, 3) := by decide +kernel
theorem dX12_rests_132 : decode cX12_rests 132 = .ok (.iload 5, 2) := by decide +kernel
theorem dX12_rests_134 : decode cX12_rests 134 = .ok (.iload 4, 2) := by decide +kernel
theorem dX12_rests_136 : decode cX12_rests 136 = .ok (.if_icmp .ne 6, 3) := by decide +kernel
theorem dX12_rests_139 : decode cX12_rests 139 = .ok (.iload 6, 2) := by decide +kernel
theorem dX12_rests_141 : decode cX12_rests 141 = .ok (.ireturn, 1) := by decide +kernel
theorem dX12_rests_142 : decode cX12_rests 142 = .ok (.iinc 5 1, 3) := by decide +kernel
theorem dX12_rests_145 : decode cX12_rests 145 = .ok (.iinc 6 1, 3) := by decide +kernel
theorem dX12_rests_148 : decode cX12_rests 148 = .ok (.goto (-87), 3) := by decide +kernel
theorem dX12_rests_151 : decode cX12_rests 151 = .ok (.aload_n 0, 1) := by decide +kernel
theorem dX12_rests_152 : decode cX12_rests 152 = .ok (.iload 4, 2) := by decide +kernel
theorem dX12_rests_154 : decode cX12_rests 154 = .ok (.iconst (-1), 1) := by decide +kernel
theorem dX12_rests_155 : decode cX12_rests 155 = .ok (.if_icmp .ne 7, 3) := by decide +kernel
theorem dX12_rests_158 : decode cX12_rests 158 = .ok (.iconst 0, 1) := by decide +kernel
theorem dX12_rests_159 : decode cX12_rests 159 = .ok (.goto 4, 3) := by decide +kernel
theorem dX12_rests_162 : decode cX12_rests 162 = .ok (.iconst 1, 1) := by decide +kernel
theorem dX12_rests_163 : decode cX12_rests 163 = .ok (.putfield 138, 3) := by decide +kernel
theorem dX12_rests_166 : decode cX12_rests 166 = .ok (.iload 4, 2) := by decide +kernel
theorem dX12_rests_168 : decode cX12_rests 168 = .ok (.iconst (-1), 1) := by decide +kernel
theorem dX12_rests_169 : decode cX12_rests 169 = .ok (.if_icmp .ne 8, 3) := by decide +kernel
theorem dX12_rests_172 : decode cX12_rests 172 = .ok (.iload 5, 2) := by decide +kernel
theorem dX12_rests_174 : decode cX12_rests 174 = .ok (.goto 4, 3) := by decide +kernel
theorem dX12_rests_177 : decode cX12_rests 177 = .ok (.iconst 0, 1) := by decide +kernel
theorem dX12_rests_178 : decode cX12_rests 178 = .ok (.ireturn, 1) := by decide +kernel
theorem dX12_share_0 : decode cX12_share 0 = .ok (.aload_n 0, 1) := by decide +kernel
theorem dX12_share_1 : decode cX12_share 1 = .ok (.iconst 0, 1) := by decide +kernel
theorem dX12_share_2 : decode cX12_share 2 = .ok (.putfield 138, 3) := by decide +kernel
theorem dX12_share_5 : decode cX12_share 5 = .ok (.aload_n 0, 1) := by decide +kernel
theorem dX12_share_6 : decode cX12_share 6 = .ok (.iload_n 1, 1) := by decide +kernel
theorem dX12_share_7 : decode cX12_share 7 = .ok (.invokevirtual 350, 3) := by decide +kernel
theorem dX12_share_10 : decode cX12_share 10 = .ok (.ifCond .ne 5, 3) := by decide +kernel
theorem dX12_share_13 : decode cX12_share 13 = .ok (.iconst (-1), 1) := by decide +kernel
theorem dX12_share_14 : decode cX12_share 14 = .ok (.ireturn, 1) := by decide +kernel
theorem dX12_share_15 : decode cX12_share 15 = .ok (.aload_n 0, 1) := by decide +kernel
theorem dX12_share_16 : decode cX12_share 16 = .ok (.aload_n 0, 1) := by decide +kernel
theorem dX12_share_17 : decode cX12_share 17 = .ok (.invokevirtual 417, 3) := by decide +kernel
theorem dX12_share_20 : decode cX12_share 20 = .ok (.invokevirtual 369, 3) := by decide +kernel
theorem dX12_share_23 : decode cX12_share 23 = .ok (.istore_n 2, 1) := by decide +kernel
theorem dX12_share_24 : decode cX12_share 24 = .ok (.iload_n 2, 1) := by decide +kernel
theorem dX12_share_25 : decode cX12_share 25 = .ok (.ifCond .ne 7, 3) := by decide +kernel
theorem dX12_share_28 : decode cX12_share 28 = .ok (.iconst 0, 1) := by decide +kernel
theorem dX12_share_29 : decode cX12_share 29 = .ok (.goto 18, 3) := by decide +kernel
theorem dX12_share_32 : decode cX12_share 32 = .ok (.sipush 1000, 3) := by decide +kernel
theorem dX12_share_35 : decode cX12_share 35 = .ok (.aload_n 0, 1) := by decide +kernel
theorem dX12_share_36 : decode cX12_share 36 = .ok (.aload_n 0, 1) := by decide +kernel
theorem dX12_share_37 : decode cX12_share 37 = .ok (.iload_n 1, 1) := by decide +kernel
theorem dX12_share_38 : decode cX12_share 38 = .ok (.invokevirtual 353, 3) := by decide +kernel
theorem dX12_share_41 : decode cX12_share 41 = .ok (.invokevirtual 369, 3) := by decide +kernel
theorem dX12_share_44 : decode cX12_share 44 = .ok (.imul, 1) := by decide +kernel
theorem dX12_share_45 : decode cX12_share 45 = .ok (.iload_n 2, 1) := by decide +kernel
theorem dX12_share_46 : decode cX12_share 46 = .ok (.idiv, 1) := by decide +kernel
theorem dX12_share_47 : decode cX12_share 47 = .ok (.ireturn, 1) := by decide +kernel
theorem dX12_draws_0 : decode cX12_draws 0 = .ok (.aload_n 0, 1) := by decide +kernel
theorem dX12_draws_1 : decode cX12_draws 1 = .ok (.aload_n 0, 1) := by decide +kernel
theorem dX12_draws_2 : decode cX12_draws 2 = .ok (.getfield 430, 3) := by decide +kernel
theorem dX12_draws_5 : decode cX12_draws 5 = .ok (.ldc2_w 433, 3) := by decide +kernel
theorem dX12_draws_8 : decode cX12_draws 8 = .ok (.lmul, 1) := by decide +kernel
theorem dX12_draws_9 : decode cX12_draws 9 = .ok (.ldc2_w 435, 3) := by decide +kernel
theorem dX12_draws_12 : decode cX12_draws 12 = .ok (.ladd, 1) := by decide +kernel
theorem dX12_draws_13 : decode cX12_draws 13 = .ok (.ldc2_w 437, 3) := by decide +kernel
theorem dX12_draws_16 : decode cX12_draws 16 = .ok (.lrem, 1) := by decide +kernel
theorem dX12_draws_17 : decode cX12_draws 17 = .ok (.putfield 430, 3) := by decide +kernel
theorem dX12_draws_20 : decode cX12_draws 20 = .ok (.aload_n 0, 1) := by decide +kernel
theorem dX12_draws_21 : decode cX12_draws 21 = .ok (.getfield 430, 3) := by decide +kernel
theorem dX12_draws_24 : decode cX12_draws 24 = .ok (.ldc2_w 439, 3) := by decide +kernel
theorem dX12_draws_27 : decode cX12_draws 27 = .ok (.ldiv, 1) := by decide +kernel
theorem dX12_draws_28 : decode cX12_draws 28 = .ok (.iload_n 1, 1) := by decide +kernel
theorem dX12_draws_29 : decode cX12_draws 29 = .ok (.i2l, 1) := by decide +kernel
theorem dX12_draws_30 : decode cX12_draws 30 = .ok (.lrem, 1) := by decide +kernel
theorem dX12_draws_31 : decode cX12_draws 31 = .ok (.l2i, 1) := by decide +kernel
theorem dX12_draws_32 : decode cX12_draws 32 = .ok (.ireturn, 1) := by decide +kernel
theorem dX12_nth_0 : decode cX12_nth 0 = .ok (.iconst 0, 1) := by decide +kernel
theorem dX12_nth_1 : decode cX12_nth 1 = .ok (.istore_n 3, 1) := by decide +kernel
theorem dX12_nth_2 : decode cX12_nth 2 = .ok (.iload_n 2, 1) := by decide +kernel
theorem dX12_nth_3 : decode cX12_nth 3 = .ok (.istore 4, 2) := by decide +kernel
theorem dX12_nth_5 : decode cX12_nth 5 = .ok (.iload_n 1, 1) := by decide +kernel
theorem dX12_nth_6 : decode cX12_nth 6 = .ok (.iload_n 3, 1) := by decide +kernel
theorem dX12_nth_7 : decode cX12_nth 7 = .ok (.ishr, 1) := by decide +kernel
theorem dX12_nth_8 : decode cX12_nth 8 = .ok (.iconst 1, 1) := by decide +kernel
theorem dX12_nth_9 : decode cX12_nth 9 = .ok (.iand, 1) := by decide +kernel
theorem dX12_nth_10 : decode cX12_nth 10 = .ok (.ifCond .eq 8, 3) := by decide +kernel
theorem dX12_nth_13 : decode cX12_nth 13 = .ok (.iload 4, 2) := by decide +kernel
theorem dX12_nth_15 : decode cX12_nth 15 = .ok (.ifCond .le 19, 3) := by decide +kernel
theorem dX12_nth_18 : decode cX12_nth 18 = .ok (.iload 4, 2) := by decide +kernel
theorem dX12_nth_20 : decode cX12_nth 20 = .ok (.iload_n 1, 1) := by decide +kernel
theorem dX12_nth_21 : decode cX12_nth 21 = .ok (.iload_n 3, 1) := by decide +kernel
theorem dX12_nth_22 : decode cX12_nth 22 = .ok (.ishr, 1) := by decide +kernel
theorem dX12_nth_23 : decode cX12_nth 23 = .ok (.iconst 1, 1) := by decide +kernel
theorem dX12_nth_24 : decode cX12_nth 24 = .ok (.iand, 1) := by decide +kernel
theorem dX12_nth_25 : decode cX12_nth 25 = .ok (.isub, 1) := by decide +kernel
theorem dX12_nth_26 : decode cX12_nth 26 = .ok (.istore 4, 2) := by decide +kernel
theorem dX12_nth_28 : decode cX12_nth 28 = .ok (.iinc 3 1, 3) := by decide +kernel
theorem dX12_nth_31 : decode cX12_nth 31 = .ok (.goto (-26), 3) := by decide +kernel
theorem dX12_nth_34 : decode cX12_nth 34 = .ok (.iload_n 3, 1) := by decide +kernel
theorem dX12_nth_35 : decode cX12_nth 35 = .ok (.ireturn, 1) := by decide +kernel
theorem dX12_givesSome_0 : decode cX12_givesSome 0 = .ok (.aload_n 0, 1) := by decide +kernel
theorem dX12_givesSome_1 : decode cX12_givesSome 1 = .ok (.invokevirtual 417, 3) := by decide +kernel
theorem dX12_givesSome_4 : decode cX12_givesSome 4 = .ok (.istore_n 1, 1) := by decide +kernel
theorem dX12_givesSome_5 : decode cX12_givesSome 5 = .ok (.iload_n 1, 1) := by decide +kernel
theorem dX12_givesSome_6 : decode cX12_givesSome 6 = .ok (.ifCond .eq 28, 3) := by decide +kernel
theorem dX12_givesSome_9 : decode cX12_givesSome 9 = .ok (.aload_n 0, 1) := by decide +kernel
theorem dX12_givesSome_10 : decode cX12_givesSome 10 = .ok (.iconst 4, 1) := by decide +kernel
theorem dX12_givesSome_11 : decode cX12_givesSome 11 = .ok (.invokevirtual 441, 3) := by decide +kernel
theorem dX12_givesSome_14 : decode cX12_givesSome 14 = .ok (.ifCond .ne 20, 3) := by decide +kernel
theorem dX12_givesSome_17 : decode cX12_givesSome 17 = .ok (.aload_n 0, 1) := by decide +kernel
theorem dX12_givesSome_18 : decode cX12_givesSome 18 = .ok (.aload_n 0, 1) := by decide +kernel
theorem dX12_givesSome_19 : decode cX12_givesSome 19 = .ok (.iload_n 1, 1) := by decide +kernel
theorem dX12_givesSome_20 : decode cX12_givesSome 20 = .ok (.aload_n 0, 1) := by decide +kernel
theorem dX12_givesSome_21 : decode cX12_givesSome 21 = .ok (.iload_n 1, 1) := by decide +kernel
theorem dX12_givesSome_22 : decode cX12_givesSome 22 = .ok (.invokestatic 375, 3) := by decide +kernel
theorem dX12_givesSome_25 : decode cX12_givesSome 25 = .ok (.invokevirtual 441, 3) := by decide +kernel
theorem dX12_givesSome_28 : decode cX12_givesSome 28 = .ok (.invokevirtual 444, 3) := by decide +kernel
theorem dX12_givesSome_31 : decode cX12_givesSome 31 = .ok (.invokevirtual 372, 3) := by decide +kernel
theorem dX12_givesSome_34 : decode cX12_givesSome 34 = .ok (.return_, 1) := by decide +kernel
theorem dX12_tours_0 : decode cX12_tours 0 = .ok (.aload_n 0, 1) := by decide +kernel
theorem dX12_tours_1 : decode cX12_tours 1 = .ok (.iconst 0, 1) := by decide +kernel
theorem dX12_tours_2 : decode cX12_tours 2 = .ok (.putfield 138, 3) := by decide +kernel
theorem dX12_tours_5 : decode cX12_tours 5 = .ok (.iload_n 1, 1) := by decide +kernel
theorem dX12_tours_6 : decode cX12_tours 6 = .ok (.iconst 0, 1) := by decide +kernel
theorem dX12_tours_7 : decode cX12_tours 7 = .ok (.sipush 9999, 3) := by decide +kernel
theorem dX12_tours_10 : decode cX12_tours 10 = .ok (.invokestatic 253, 3) := by decide +kernel
theorem dX12_tours_13 : decode cX12_tours 13 = .ok (.ifCond .eq 22, 3) := by decide +kernel
theorem dX12_tours_16 : decode cX12_tours 16 = .ok (.iload_n 2, 1) := by decide +kernel
theorem dX12_tours_17 : decode cX12_tours 17 = .ok (.iconst 1, 1) := by decide +kernel
theorem dX12_tours_18 : decode cX12_tours 18 = .ok (.bipush 99, 2) := by decide +kernel
theorem dX12_tours_20 : decode cX12_tours 20 = .ok (.invokestatic 253, 3) := by decide +kernel
theorem dX12_tours_23 : decode cX12_tours 23 = .ok (.ifCond .eq 12, 3) := by decide +kernel
theorem dX12_tours_26 : decode cX12_tours 26 = .ok (.iload_n 3, 1) := by decide +kernel
theorem dX12_tours_27 : decode cX12_tours 27 = .ok (.iconst 0, 1) := by decide +kernel
theorem dX12_tours_28 : decode cX12_tours 28 = .ok (.iconst 2, 1) := by decide +kernel
theorem dX12_tours_29 : decode cX12_tours 29 = .ok (.invokestatic 253, 3) := by decide +kernel
theorem dX12_tours_32 : decode cX12_tours 32 = .ok (.ifCond .ne 5, 3) := by decide +kernel
theorem dX12_tours_35 : decode cX12_tours 35 = .ok (.iconst (-1), 1) := by decide +kernel
theorem dX12_tours_36 : decode cX12_tours 36 = .ok (.ireturn, 1) := by decide +kernel
theorem dX12_tours_37 : decode cX12_tours 37 = .ok (.aload_n 0, 1) := by decide +kernel
theorem dX12_tours_38 : decode cX12_tours 38 = .ok (.iload_n 1, 1) := by decide +kernel
theorem dX12_tours_39 : decode cX12_tours 39 = .ok (.i2l, 1) := by decide +kernel
theorem dX12_tours_40 : decode cX12_tours 40 = .ok (.putfield 430, 3) := by decide +kernel
theorem dX12_tours_43 : decode cX12_tours 43 = .ok (.aload_n 0, 1) := by decide +kernel
theorem dX12_tours_44 : decode cX12_tours 44 = .ok (.getfield 105, 3) := by decide +kernel
theorem dX12_tours_47 : decode cX12_tours 47 = .ok (.iconst 0, 1) := by decide +kernel
theorem dX12_tours_48 : decode cX12_tours 48 = .ok (.aload_n 0, 1) := by decide +kernel
theorem dX12_tours_49 : decode cX12_tours 49 = .ok (.getfield 111, 3) := by decide +kernel
theorem dX12_tours_52 : decode cX12_tours 52 = .ok (.iconst 0, 1) := by decide +kernel
theorem dX12_tours_53 : decode cX12_tours 53 = .ok (.invokestatic 359, 3) := by decide +kernel
theorem dX12_tours_56 : decode cX12_tours 56 = .ok (.iconst 0, 1) := by decide +kernel
theorem dX12_tours_57 : decode cX12_tours 57 = .ok (.istore 4, 2) := by decide +kernel
theorem dX12_tours_59 : decode cX12_tours 59 = .ok (.iconst 0, 1) := by decide +kernel
theorem dX12_tours_60 : decode cX12_tours 60 = .ok (.istore 5, 2) := by decide +kernel
theorem dX12_tours_62 : decode cX12_tours 62 = .ok (.iconst 0, 1) := by decide +kernel
theorem dX12_tours_63 : decode cX12_tours 63 = .ok (.istore 6, 2) := by decide +kernel
theorem dX12_tours_65 : decode cX12_tours 65 = .ok (.iload 6, 2) := by decide +kernel
theorem dX12_tours_67 : decode cX12_tours 67 = .ok (.iload_n 2, 1) := by decide +kernel
theorem dX12_tours_68 : decode cX12_tours 68 = .ok (.if_icmp .ge 74, 3) := by decide +kernel
theorem dX12_tours_71 : decode cX12_tours 71 = .ok (.aload_n 0, 1) := by decide +kernel
theorem dX12_tours_72 : decode cX12_tours 72 = .ok (.getfield 13, 3) := by decide +kernel
theorem dX12_tours_75 : decode cX12_tours 75 = .ok (.iconst 1, 1) := by decide +kernel
theorem dX12_tours_76 : decode cX12_tours 76 = .ok (.iaload, 1) := by decide +kernel
theorem dX12_tours_77 : decode cX12_tours 77 = .ok (.ifCond .le 65, 3) := by decide +kernel
theorem dX12_tours_80 : decode cX12_tours 80 = .ok (.aload_n 0, 1) := by decide +kernel
theorem dX12_tours_81 : decode cX12_tours 81 = .ok (.aload_n 0, 1) := by decide +kernel
theorem dX12_tours_82 : decode cX12_tours 82 = .ok (.aload_n 0, 1) := by decide +kernel
theorem dX12_tours_83 : decode cX12_tours 83 = .ok (.getfield 13, 3) := by decide +kernel
theorem dX12_tours_86 : decode cX12_tours 86 = .ok (.iconst 1, 1) := by decide +kernel
theorem dX12_tours_87 : decode cX12_tours 87 = .ok (.iaload, 1) := by decide +kernel
theorem dX12_tours_88 : decode cX12_tours 88 = .ok (.invokevirtual 441, 3) := by decide +kernel
theorem dX12_tours_91 : decode cX12_tours 91 = .ok (.invokevirtual 344, 3) := by decide +kernel
theorem dX12_tours_94 : decode cX12_tours 94 = .ok (.iload 4, 2) := by decide +kernel
theorem dX12_tours_96 : decode cX12_tours 96 = .ok (.aload_n 0, 1) := by decide +kernel
theorem dX12_tours_97 : decode cX12_tours 97 = .ok (.aload_n 0, 1) := by decide +kernel
theorem dX12_tours_98 : decode cX12_tours 98 = .ok (.getfield 105, 3) := by decide +kernel
theorem dX12_tours_101 : decode cX12_tours 101 = .ok (.iconst 0, 1) := by decide +kernel
theorem dX12_tours_102 : decode cX12_tours 102 = .ok (.iaload, 1) := by decide +kernel
theorem dX12_tours_103 : decode cX12_tours 103 = .ok (.invokevirtual 369, 3) := by decide +kernel
theorem dX12_tours_106 : decode cX12_tours 106 = .ok (.iadd, 1) := by decide +kernel
theorem dX12_tours_107 : decode cX12_tours 107 = .ok (.istore 4, 2) := by decide +kernel
theorem dX12_tours_109 : decode cX12_tours 109 = .ok (.iload 5, 2) := by decide +kernel
theorem dX12_tours_111 : decode cX12_tours 111 = .ok (.aload_n 0, 1) := by decide +kernel
theorem dX12_tours_112 : decode cX12_tours 112 = .ok (.aload_n 0, 1) := by decide +kernel
theorem dX12_tours_113 : decode cX12_tours 113 = .ok (.getfield 105, 3) := by decide +kernel
theorem dX12_tours_116 : decode cX12_tours 116 = .ok (.iconst 0, 1) := by decide +kernel
theorem dX12_tours_117 : decode cX12_tours 117 = .ok (.iaload, 1) := by decide +kernel
theorem dX12_tours_118 : decode cX12_tours 118 = .ok (.invokevirtual 387, 3) := by decide +kernel
theorem dX12_tours_121 : decode cX12_tours 121 = .ok (.ifCond .eq 7, 3) := by decide +kernel
theorem dX12_tours_124 : decode cX12_tours 124 = .ok (.iconst 0, 1) := by decide +kernel
theorem dX12_tours_125 : decode cX12_tours 125 = .ok (.goto 4, 3) := by decide +kernel
theorem dX12_tours_128 : decode cX12_tours 128 = .ok (.iconst 1, 1) := by decide +kernel
theorem dX12_tours_129 : decode cX12_tours 129 = .ok (.iadd, 1) := by decide +kernel
theorem dX12_tours_130 : decode cX12_tours 130 = .ok (.istore 5, 2) := by decide +kernel
theorem dX12_tours_132 : decode cX12_tours 132 = .ok (.aload_n 0, 1) := by decide +kernel
theorem dX12_tours_133 : decode cX12_tours 133 = .ok (.invokevirtual 447, 3) := by decide +kernel
theorem dX12_tours_136 : decode cX12_tours 136 = .ok (.iinc 6 1, 3) := by decide +kernel
theorem dX12_tours_139 : decode cX12_tours 139 = .ok (.goto (-74), 3) := by decide +kernel
theorem dX12_tours_142 : decode cX12_tours 142 = .ok (.aload_n 0, 1) := by decide +kernel
theorem dX12_tours_143 : decode cX12_tours 143 = .ok (.getfield 105, 3) := by decide +kernel
theorem dX12_tours_146 : decode cX12_tours 146 = .ok (.iconst 0, 1) := by decide +kernel
theorem dX12_tours_147 : decode cX12_tours 147 = .ok (.iaload, 1) := by decide +kernel
theorem dX12_tours_148 : decode cX12_tours 148 = .ok (.istore 6, 2) := by decide +kernel
theorem dX12_tours_150 : decode cX12_tours 150 = .ok (.aload_n 0, 1) := by decide +kernel
theorem dX12_tours_151 : decode cX12_tours 151 = .ok (.getfield 111, 3) := by decide +kernel
theorem dX12_tours_154 : decode cX12_tours 154 = .ok (.iconst 0, 1) := by decide +kernel
theorem dX12_tours_155 : decode cX12_tours 155 = .ok (.aload_n 0, 1) := by decide +kernel
theorem dX12_tours_156 : decode cX12_tours 156 = .ok (.getfield 105, 3) := by decide +kernel
theorem dX12_tours_159 : decode cX12_tours 159 = .ok (.iconst 0, 1) := by decide +kernel
theorem dX12_tours_160 : decode cX12_tours 160 = .ok (.invokestatic 359, 3) := by decide +kernel
theorem dX12_tours_163 : decode cX12_tours 163 = .ok (.iload_n 3, 1) := by decide +kernel
theorem dX12_tours_164 : decode cX12_tours 164 = .ok (.ifCond .ne 8, 3) := by decide +kernel
theorem dX12_tours_167 : decode cX12_tours 167 = .ok (.iload 4, 2) := by decide +kernel
theorem dX12_tours_169 : decode cX12_tours 169 = .ok (.goto 15, 3) := by decide +kernel
theorem dX12_tours_172 : decode cX12_tours 172 = .ok (.iload_n 3, 1) := by decide +kernel
theorem dX12_tours_173 : decode cX12_tours 173 = .ok (.iconst 1, 1) := by decide +kernel
theorem dX12_tours_174 : decode cX12_tours 174 = .ok (.if_icmp .ne 8, 3) := by decide +kernel
theorem dX12_tours_177 : decode cX12_tours 177 = .ok (.iload 5, 2) := by decide +kernel
theorem dX12_tours_179 : decode cX12_tours 179 = .ok (.goto 5, 3) := by decide +kernel
theorem dX12_tours_182 : decode cX12_tours 182 = .ok (.iload 6, 2) := by decide +kernel
theorem dX12_tours_184 : decode cX12_tours 184 = .ok (.ireturn, 1) := by decide +kernel
theorem dX12_mark_0 : decode cX12_mark 0 = .ok (.aload_n 0, 1) := by decide +kernel
theorem dX12_mark_1 : decode cX12_mark 1 = .ok (.iconst 0, 1) := by decide +kernel
theorem dX12_mark_2 : decode cX12_mark 2 = .ok (.putfield 138, 3) := by decide +kernel
theorem dX12_mark_5 : decode cX12_mark 5 = .ok (.iload_n 1, 1) := by decide +kernel
theorem dX12_mark_6 : decode cX12_mark 6 = .ok (.iconst 0, 1) := by decide +kernel
theorem dX12_mark_7 : decode cX12_mark 7 = .ok (.iconst 3, 1) := by decide +kernel
theorem dX12_mark_8 : decode cX12_mark 8 = .ok (.invokestatic 253, 3) := by decide +kernel
theorem dX12_mark_11 : decode cX12_mark 11 = .ok (.ifCond .eq 16, 3) := by decide +kernel
theorem dX12_mark_14 : decode cX12_mark 14 = .ok (.iload_n 2, 1) := by decide +kernel
theorem dX12_mark_15 : decode cX12_mark 15 = .ok (.ifCond .eq 14, 3) := by decide +kernel
theorem dX12_mark_18 : decode cX12_mark 18 = .ok (.aload_n 0, 1) := by decide +kernel
theorem dX12_mark_19 : decode cX12_mark 19 = .ok (.getfield 120, 3) := by decide +kernel
theorem dX12_mark_22 : decode cX12_mark 22 = .ok (.iload_n 1, 1) := by decide +kernel
theorem dX12_mark_23 : decode cX12_mark 23 = .ok (.baload, 1) := by decide +kernel
theorem dX12_mark_24 : decode cX12_mark 24 = .ok (.ifCond .ne 5, 3) := by decide +kernel
theorem dX12_mark_27 : decode cX12_mark 27 = .ok (.iconst 0, 1) := by decide +kernel
theorem dX12_mark_28 : decode cX12_mark 28 = .ok (.ireturn, 1) := by decide +kernel
theorem dX12_mark_29 : decode cX12_mark 29 = .ok (.aload_n 0, 1) := by decide +kernel
theorem dX12_mark_30 : decode cX12_mark 30 = .ok (.getfield 120, 3) := by decide +kernel
theorem dX12_mark_33 : decode cX12_mark 33 = .ok (.iload_n 1, 1) := by decide +kernel
theorem dX12_mark_34 : decode cX12_mark 34 = .ok (.iconst 1, 1) := by decide +kernel
theorem dX12_mark_35 : decode cX12_mark 35 = .ok (.bastore, 1) := by decide +kernel
theorem dX12_mark_36 : decode cX12_mark 36 = .ok (.iload_n 2, 1) := by decide +kernel
theorem dX12_mark_37 : decode cX12_mark 37 = .ok (.ifCond .eq 9, 3) := by decide +kernel
theorem dX12_mark_40 : decode cX12_mark 40 = .ok (.iconst 1, 1) := by decide +kernel
theorem dX12_mark_41 : decode cX12_mark 41 = .ok (.iload_n 1, 1) := by decide +kernel
theorem dX12_mark_42 : decode cX12_mark 42 = .ok (.iadd, 1) := by decide +kernel
theorem dX12_mark_43 : decode cX12_mark 43 = .ok (.goto 4, 3) := by decide +kernel
theorem dX12_mark_46 : decode cX12_mark 46 = .ok (.iconst 0, 1) := by decide +kernel
theorem dX12_mark_47 : decode cX12_mark 47 = .ok (.istore_n 3, 1) := by decide +kernel
theorem dX12_mark_48 : decode cX12_mark 48 = .ok (.iload_n 2, 1) := by decide +kernel
theorem dX12_mark_49 : decode cX12_mark 49 = .ok (.ifCond .eq 7, 3) := by decide +kernel
theorem dX12_mark_52 : decode cX12_mark 52 = .ok (.iconst 0, 1) := by decide +kernel
theorem dX12_mark_53 : decode cX12_mark 53 = .ok (.goto 6, 3) := by decide +kernel
theorem dX12_mark_56 : decode cX12_mark 56 = .ok (.iconst 1, 1) := by decide +kernel
theorem dX12_mark_57 : decode cX12_mark 57 = .ok (.iload_n 1, 1) := by decide +kernel
theorem dX12_mark_58 : decode cX12_mark 58 = .ok (.iadd, 1) := by decide +kernel
theorem dX12_mark_59 : decode cX12_mark 59 = .ok (.istore 4, 2) := by decide +kernel
theorem dX12_mark_61 : decode cX12_mark 61 = .ok (.aload_n 0, 1) := by decide +kernel
theorem dX12_mark_62 : decode cX12_mark 62 = .ok (.iload_n 3, 1) := by decide +kernel
theorem dX12_mark_63 : decode cX12_mark 63 = .ok (.iload 4, 2) := by decide +kernel
theorem dX12_mark_65 : decode cX12_mark 65 = .ok (.invokevirtual 329, 3) := by decide +kernel
theorem dX12_mark_68 : decode cX12_mark 68 = .ok (.aload_n 0, 1) := by decide +kernel
theorem dX12_mark_69 : decode cX12_mark 69 = .ok (.iload_n 3, 1) := by decide +kernel
theorem dX12_mark_70 : decode cX12_mark 70 = .ok (.iload 4, 2) := by decide +kernel
theorem dX12_mark_72 : decode cX12_mark 72 = .ok (.invokevirtual 450, 3) := by decide +kernel
theorem dX12_mark_75 : decode cX12_mark 75 = .ok (.iload_n 2, 1) := by decide +kernel
theorem dX12_mark_76 : decode cX12_mark 76 = .ok (.ifCond .eq 27, 3) := by decide +kernel
theorem dX12_mark_79 : decode cX12_mark 79 = .ok (.aload_n 0, 1) := by decide +kernel
theorem dX12_mark_80 : decode cX12_mark 80 = .ok (.getfield 114, 3) := by decide +kernel
theorem dX12_mark_83 : decode cX12_mark 83 = .ok (.bipush 19, 2) := by decide +kernel
theorem dX12_mark_85 : decode cX12_mark 85 = .ok (.iload_n 1, 1) := by decide +kernel
theorem dX12_mark_86 : decode cX12_mark 86 = .ok (.imul, 1) := by decide +kernel
theorem dX12_mark_87 : decode cX12_mark 87 = .ok (.aload_n 0, 1) := by decide +kernel
theorem dX12_mark_88 : decode cX12_mark 88 = .ok (.getfield 105, 3) := by decide +kernel
theorem dX12_mark_91 : decode cX12_mark 91 = .ok (.iconst 0, 1) := by decide +kernel
theorem dX12_mark_92 : decode cX12_mark 92 = .ok (.invokestatic 359, 3) := by decide +kernel
theorem dX12_mark_95 : decode cX12_mark 95 = .ok (.aload_n 0, 1) := by decide +kernel
theorem dX12_mark_96 : decode cX12_mark 96 = .ok (.iconst 0, 1) := by decide +kernel
theorem dX12_mark_97 : decode cX12_mark 97 = .ok (.putfield 323, 3) := by decide +kernel
theorem dX12_mark_100 : decode cX12_mark 100 = .ok (.goto 19, 3) := by decide +kernel
theorem dX12_mark_103 : decode cX12_mark 103 = .ok (.aload_n 0, 1) := by decide +kernel
theorem dX12_mark_104 : decode cX12_mark 104 = .ok (.getfield 105, 3) := by decide +kernel
theorem dX12_mark_107 : decode cX12_mark 107 = .ok (.iconst 0, 1) := by decide +kernel
theorem dX12_mark_108 : decode cX12_mark 108 = .ok (.aload_n 0, 1) := by decide +kernel
theorem dX12_mark_109 : decode cX12_mark 109 = .ok (.getfield 114, 3) := by decide +kernel
theorem dX12_mark_112 : decode cX12_mark 112 = .ok (.bipush 19, 2) := by decide +kernel
theorem dX12_mark_114 : decode cX12_mark 114 = .ok (.iload_n 1, 1) := by decide +kernel
theorem dX12_mark_115 : decode cX12_mark 115 = .ok (.imul, 1) := by decide +kernel
theorem dX12_mark_116 : decode cX12_mark 116 = .ok (.invokestatic 359, 3) := by decide +kernel
theorem dX12_mark_119 : decode cX12_mark 119 = .ok (.iconst 1, 1) := by decide +kernel
theorem dX12_mark_120 : decode cX12_mark 120 = .ok (.ireturn, 1) := by decide +kernel
theorem dX12_count_0 : decode cX12_count 0 = .ok (.aload_n 0, 1) := by decide +kernel
theorem dX12_count_1 : decode cX12_count 1 = .ok (.iconst 0, 1) := by decide +kernel
theorem dX12_count_2 : decode cX12_count 2 = .ok (.putfield 138, 3) := by decide +kernel
theorem dX12_count_5 : decode cX12_count 5 = .ok (.iload_n 1, 1) := by decide +kernel
theorem dX12_count_6 : decode cX12_count 6 = .ok (.iconst 0, 1) := by decide +kernel
theorem dX12_count_7 : decode cX12_count 7 = .ok (.bipush 10, 2) := by decide +kernel
theorem dX12_count_9 : decode cX12_count 9 = .ok (.invokestatic 253, 3) := by decide +kernel
theorem dX12_count_12 : decode cX12_count 12 = .ok (.ifCond .ne 5, 3) := by decide +kernel
theorem dX12_count_15 : decode cX12_count 15 = .ok (.iconst (-1), 1) := by decide +kernel
theorem dX12_count_16 : decode cX12_count 16 = .ok (.ireturn, 1) := by decide +kernel
theorem dX12_count_17 : decode cX12_count 17 = .ok (.iload_n 1, 1) := by decide +kernel
theorem dX12_count_18 : decode cX12_count 18 = .ok (.iconst 2, 1) := by decide +kernel
theorem dX12_count_19 : decode cX12_count 19 = .ok (.if_icmp .ge 10, 3) := by decide +kernel
theorem dX12_count_22 : decode cX12_count 22 = .ok (.aload_n 0, 1) := by decide +kernel
theorem dX12_count_23 : decode cX12_count 23 = .ok (.getfield 13, 3) := by decide +kernel
theorem dX12_count_26 : decode cX12_count 26 = .ok (.iload_n 1, 1) := by decide +kernel
theorem dX12_count_27 : decode cX12_count 27 = .ok (.iaload, 1) := by decide +kernel
theorem dX12_count_28 : decode cX12_count 28 = .ok (.ireturn, 1) := by decide +kernel
theorem dX12_count_29 : decode cX12_count 29 = .ok (.iload_n 1, 1) := by decide +kernel
theorem dX12_count_30 : decode cX12_count 30 = .ok (.iconst 5, 1) := by decide +kernel
theorem dX12_count_31 : decode cX12_count 31 = .ok (.if_icmp .ge 40, 3) := by decide +kernel
theorem dX12_count_34 : decode cX12_count 34 = .ok (.iload_n 1, 1) := by decide +kernel
theorem dX12_count_35 : decode cX12_count 35 = .ok (.iconst 2, 1) := by decide +kernel
theorem dX12_count_36 : decode cX12_count 36 = .ok (.if_icmp .ne 12, 3) := by decide +kernel
theorem dX12_count_39 : decode cX12_count 39 = .ok (.aload_n 0, 1) := by decide +kernel
theorem dX12_count_40 : decode cX12_count 40 = .ok (.getfield 105, 3) := by decide +kernel
theorem dX12_count_43 : decode cX12_count 43 = .ok (.iconst 0, 1) := by decide +kernel
theorem dX12_count_44 : decode cX12_count 44 = .ok (.iaload, 1) := by decide +kernel
theorem dX12_count_45 : decode cX12_count 45 = .ok (.goto 25, 3) := by decide +kernel
theorem dX12_count_48 : decode cX12_count 48 = .ok (.iload_n 1, 1) := by decide +kernel
theorem dX12_count_49 : decode cX12_count 49 = .ok (.iconst 3, 1) := by decide +kernel
theorem dX12_count_50 : decode cX12_count 50 = .ok (.if_icmp .ne 16, 3) := by decide +kernel
theorem dX12_count_53 : decode cX12_count 53 = .ok (.aload_n 0, 1) := by decide +kernel
theorem dX12_count_54 : decode cX12_count 54 = .ok (.aload_n 0, 1) := by decide +kernel
theorem dX12_count_55 : decode cX12_count 55 = .ok (.getfield 105, 3) := by decide +kernel
theorem dX12_count_58 : decode cX12_count 58 = .ok (.iconst 0, 1) := by decide +kernel
theorem dX12_count_59 : decode cX12_count 59 = .ok (.iaload, 1) := by decide +kernel
theorem dX12_count_60 : decode cX12_count 60 = .ok (.invokevirtual 369, 3) := by decide +kernel
theorem dX12_count_63 : decode cX12_count 63 = .ok (.goto 7, 3) := by decide +kernel
theorem dX12_count_66 : decode cX12_count 66 = .ok (.aload_n 0, 1) := by decide +kernel
theorem dX12_count_67 : decode cX12_count 67 = .ok (.invokevirtual 381, 3) := by decide +kernel
theorem dX12_count_70 : decode cX12_count 70 = .ok (.ireturn, 1) := by decide +kernel
theorem dX12_count_71 : decode cX12_count 71 = .ok (.iload_n 1, 1) := by decide +kernel
theorem dX12_count_72 : decode cX12_count 72 = .ok (.bipush 8, 2) := by decide +kernel
theorem dX12_count_74 : decode cX12_count 74 = .ok (.if_icmp .ge 37, 3) := by decide +kernel
theorem dX12_count_77 : decode cX12_count 77 = .ok (.iload_n 1, 1) := by decide +kernel
theorem dX12_count_78 : decode cX12_count 78 = .ok (.iconst 5, 1) := by decide +kernel
theorem dX12_count_79 : decode cX12_count 79 = .ok (.if_icmp .ne 12, 3) := by decide +kernel
theorem dX12_count_82 : decode cX12_count 82 = .ok (.aload_n 0, 1) := by decide +kernel
theorem dX12_count_83 : decode cX12_count 83 = .ok (.getfield 105, 3) := by decide +kernel
theorem dX12_count_86 : decode cX12_count 86 = .ok (.iconst 2, 1) := by decide +kernel
theorem dX12_count_87 : decode cX12_count 87 = .ok (.iaload, 1) := by decide +kernel
theorem dX12_count_88 : decode cX12_count 88 = .ok (.goto 22, 3) := by decide +kernel
theorem dX12_count_91 : decode cX12_count 91 = .ok (.iload_n 1, 1) := by decide +kernel
theorem dX12_count_92 : decode cX12_count 92 = .ok (.bipush 6, 2) := by decide +kernel
theorem dX12_count_94 : decode cX12_count 94 = .ok (.if_icmp .ne 10, 3) := by decide +kernel
theorem dX12_count_97 : decode cX12_count 97 = .ok (.aload_n 0, 1) := by decide +kernel
theorem dX12_count_98 : decode cX12_count 98 = .ok (.invokevirtual 417, 3) := by decide +kernel
theorem dX12_count_101 : decode cX12_count 101 = .ok (.goto 9, 3) := by decide +kernel
theorem dX12_count_104 : decode cX12_count 104 = .ok (.aload_n 0, 1) := by decide +kernel
theorem dX12_count_105 : decode cX12_count 105 = .ok (.getfield 81, 3) := by decide +kernel
theorem dX12_count_108 : decode cX12_count 108 = .ok (.iconst 0, 1) := by decide +kernel
theorem dX12_count_109 : decode cX12_count 109 = .ok (.iaload, 1) := by decide +kernel
theorem dX12_count_110 : decode cX12_count 110 = .ok (.ireturn, 1) := by decide +kernel
theorem dX12_count_111 : decode cX12_count 111 = .ok (.iload_n 1, 1) := by decide +kernel
theorem dX12_count_112 : decode cX12_count 112 = .ok (.bipush 8, 2) := by decide +kernel
theorem dX12_count_114 : decode cX12_count 114 = .ok (.if_icmp .ne 12, 3) := by decide +kernel
theorem dX12_count_117 : decode cX12_count 117 = .ok (.aload_n 0, 1) := by decide +kernel
theorem dX12_count_118 : decode cX12_count 118 = .ok (.getfield 96, 3) := by decide +kernel
theorem dX12_count_121 : decode cX12_count 121 = .ok (.iconst 0, 1) := by decide +kernel
theorem dX12_count_122 : decode cX12_count 122 = .ok (.iaload, 1) := by decide +kernel
theorem dX12_count_123 : decode cX12_count 123 = .ok (.goto 20, 3) := by decide +kernel
theorem dX12_count_126 : decode cX12_count 126 = .ok (.iload_n 1, 1) := by decide +kernel
theorem dX12_count_127 : decode cX12_count 127 = .ok (.bipush 9, 2) := by decide +kernel
theorem dX12_count_129 : decode cX12_count 129 = .ok (.if_icmp .ne 10, 3) := by decide +kernel
theorem dX12_count_132 : decode cX12_count 132 = .ok (.aload_n 0, 1) := by decide +kernel
theorem dX12_count_133 : decode cX12_count 133 = .ok (.getfield 323, 3) := by decide +kernel
theorem dX12_count_136 : decode cX12_count 136 = .ok (.goto 7, 3) := by decide +kernel
theorem dX12_count_139 : decode cX12_count 139 = .ok (.aload_n 0, 1) := by decide +kernel
theorem dX12_count_140 : decode cX12_count 140 = .ok (.getfield 144, 3) := by decide +kernel
theorem dX12_count_143 : decode cX12_count 143 = .ok (.ireturn, 1) := by decide +kernel
