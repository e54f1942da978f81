/-! decode rows, printed with the claim -/
theorem dX11_init_0 : decode cX11_init 0 = .ok (.aload_n 0, 1) := by decide +kernel
theorem dX11_init_1 : decode cX11_init 1 = .ok (.invokespecial 1, 3) := by decide +kernel
theorem dX11_init_4 : decode cX11_init 4 = .ok (.aload_n 0, 1) := by decide +kernel
theorem dX11_init_5 : decode cX11_init 5 = .ok (.new 7, 3) := by decide +kernel
theorem dX11_init_8 : decode cX11_init 8 = .ok (.dup, 1) := by decide +kernel
theorem dX11_init_9 : decode cX11_init 9 = .ok (.invokespecial 9, 3) := by decide +kernel
theorem dX11_init_12 : decode cX11_init 12 = .ok (.putfield 10, 3) := by decide +kernel
theorem dX11_init_15 : decode cX11_init 15 = .ok (.aload_n 0, 1) := by decide +kernel
theorem dX11_init_16 : decode cX11_init 16 = .ok (.new 7, 3) := by decide +kernel
theorem dX11_init_19 : decode cX11_init 19 = .ok (.dup, 1) := by decide +kernel
theorem dX11_init_20 : decode cX11_init 20 = .ok (.invokespecial 9, 3) := by decide +kernel
theorem dX11_init_23 : decode cX11_init 23 = .ok (.putfield 16, 3) := by decide +kernel
theorem dX11_init_26 : decode cX11_init 26 = .ok (.aload_n 0, 1) := by decide +kernel
theorem dX11_init_27 : decode cX11_init 27 = .ok (.new 19, 3) := by decide +kernel
theorem dX11_init_30 : decode cX11_init 30 = .ok (.dup, 1) := by decide +kernel
theorem dX11_init_31 : decode cX11_init 31 = .ok (.invokespecial 21, 3) := by decide +kernel
theorem dX11_init_34 : decode cX11_init 34 = .ok (.putfield 22, 3) := by decide +kernel
theorem dX11_init_37 : decode cX11_init 37 = .ok (.aload_n 0, 1) := by decide +kernel
theorem dX11_init_38 : decode cX11_init 38 = .ok (.new 26, 3) := by decide +kernel
theorem dX11_init_41 : decode cX11_init 41 = .ok (.dup, 1) := by decide +kernel
theorem dX11_init_42 : decode cX11_init 42 = .ok (.aload_n 0, 1) := by decide +kernel
theorem dX11_init_43 : decode cX11_init 43 = .ok (.getfield 22, 3) := by decide +kernel
theorem dX11_init_46 : decode cX11_init 46 = .ok (.aload_n 0, 1) := by decide +kernel
theorem dX11_init_47 : decode cX11_init 47 = .ok (.getfield 10, 3) := by decide +kernel
theorem dX11_init_50 : decode cX11_init 50 = .ok (.invokespecial 28, 3) := by decide +kernel
theorem dX11_init_53 : decode cX11_init 53 = .ok (.putfield 31, 3) := by decide +kernel
theorem dX11_init_56 : decode cX11_init 56 = .ok (.aload_n 0, 1) := by decide +kernel
theorem dX11_init_57 : decode cX11_init 57 = .ok (.new 35, 3) := by decide +kernel
theorem dX11_init_60 : decode cX11_init 60 = .ok (.dup, 1) := by decide +kernel
theorem dX11_init_61 : decode cX11_init 61 = .ok (.invokespecial 37, 3) := by decide +kernel
theorem dX11_init_64 : decode cX11_init 64 = .ok (.putfield 38, 3) := by decide +kernel
theorem dX11_init_67 : decode cX11_init 67 = .ok (.aload_n 0, 1) := by decide +kernel
theorem dX11_init_68 : decode cX11_init 68 = .ok (.new 35, 3) := by decide +kernel
theorem dX11_init_71 : decode cX11_init 71 = .ok (.dup, 1) := by decide +kernel
theorem dX11_init_72 : decode cX11_init 72 = .ok (.invokespecial 37, 3) := by decide +kernel
theorem dX11_init_75 : decode cX11_init 75 = .ok (.putfield 42, 3) := by decide +kernel
theorem dX11_init_78 : decode cX11_init 78 = .ok (.aload_n 0, 1) := by decide +kernel
theorem dX11_init_79 : decode cX11_init 79 = .ok (.new 45, 3) := by decide +kernel
theorem dX11_init_82 : decode cX11_init 82 = .ok (.dup, 1) := by decide +kernel
theorem dX11_init_83 : decode cX11_init 83 = .ok (.invokespecial 47, 3) := by decide +kernel
theorem dX11_init_86 : decode cX11_init 86 = .ok (.putfield 48, 3) := by decide +kernel
theorem dX11_init_89 : decode cX11_init 89 = .ok (.aload_n 0, 1) := by decide +kernel
theorem dX11_init_90 : decode cX11_init 90 = .ok (.new 45, 3) := by decide +kernel
theorem dX11_init_93 : decode cX11_init 93 = .ok (.dup, 1) := by decide +kernel
theorem dX11_init_94 : decode cX11_init 94 = .ok (.invokespecial 47, 3) := by decide +kernel
theorem dX11_init_97 : decode cX11_init 97 = .ok (.putfield 52, 3) := by decide +kernel
theorem dX11_init_100 : decode cX11_init 100 = .ok (.aload_n 0, 1) := by decide +kernel
theorem dX11_init_101 : decode cX11_init 101 = .ok (.new 55, 3) := by decide +kernel
theorem dX11_init_104 : decode cX11_init 104 = .ok (.dup, 1) := by decide +kernel
theorem dX11_init_105 : decode cX11_init 105 = .ok (.invokespecial 57, 3) := by decide +kernel
theorem dX11_init_108 : decode cX11_init 108 = .ok (.putfield 58, 3) := by decide +kernel
theorem dX11_init_111 : decode cX11_init 111 = .ok (.aload_n 0, 1) := by decide +kernel
theorem dX11_init_112 : decode cX11_init 112 = .ok (.new 62, 3) := by decide +kernel
theorem dX11_init_115 : decode cX11_init 115 = .ok (.dup, 1) := by decide +kernel
theorem dX11_init_116 : decode cX11_init 116 = .ok (.invokespecial 64, 3) := by decide +kernel
theorem dX11_init_119 : decode cX11_init 119 = .ok (.putfield 65, 3) := by decide +kernel
theorem dX11_init_122 : decode cX11_init 122 = .ok (.aload_n 0, 1) := by decide +kernel
theorem dX11_init_123 : decode cX11_init 123 = .ok (.iconst 4, 1) := by decide +kernel
theorem dX11_init_124 : decode cX11_init 124 = .ok (.anewarray 69, 3) := by decide +kernel
theorem dX11_init_127 : decode cX11_init 127 = .ok (.putfield 71, 3) := by decide +kernel
theorem dX11_init_130 : decode cX11_init 130 = .ok (.iconst 0, 1) := by decide +kernel
theorem dX11_init_131 : decode cX11_init 131 = .ok (.istore_n 1, 1) := by decide +kernel
theorem dX11_init_132 : decode cX11_init 132 = .ok (.iload_n 1, 1) := by decide +kernel
theorem dX11_init_133 : decode cX11_init 133 = .ok (.iconst 4, 1) := by decide +kernel
theorem dX11_init_134 : decode cX11_init 134 = .ok (.if_icmp .ge 22, 3) := by decide +kernel
theorem dX11_init_137 : decode cX11_init 137 = .ok (.aload_n 0, 1) := by decide +kernel
theorem dX11_init_138 : decode cX11_init 138 = .ok (.getfield 71, 3) := by decide +kernel
theorem dX11_init_141 : decode cX11_init 141 = .ok (.iload_n 1, 1) := by decide +kernel
theorem dX11_init_142 : decode cX11_init 142 = .ok (.new 69, 3) := by decide +kernel
theorem dX11_init_145 : decode cX11_init 145 = .ok (.dup, 1) := by decide +kernel
theorem dX11_init_146 : decode cX11_init 146 = .ok (.invokespecial 75, 3) := by decide +kernel
theorem dX11_init_149 : decode cX11_init 149 = .ok (.aastore, 1) := by decide +kernel
theorem dX11_init_150 : decode cX11_init 150 = .ok (.iinc 1 1, 3) := by decide +kernel
theorem dX11_init_153 : decode cX11_init 153 = .ok (.goto (-21), 3) := by decide +kernel
theorem dX11_init_156 : decode cX11_init 156 = .ok (.aload_n 0, 1) := by decide +kernel
theorem dX11_init_157 : decode cX11_init 157 = .ok (.new 76, 3) := by decide +kernel
theorem dX11_init_160 : decode cX11_init 160 = .ok (.dup, 1) := by decide +kernel
theorem dX11_init_161 : decode cX11_init 161 = .ok (.invokespecial 78, 3) := by decide +kernel
theorem dX11_init_164 : decode cX11_init 164 = .ok (.putfield 79, 3) := by decide +kernel
theorem dX11_init_167 : decode cX11_init 167 = .ok (.aload_n 0, 1) := by decide +kernel
theorem dX11_init_168 : decode cX11_init 168 = .ok (.new 83, 3) := by decide +kernel
theorem dX11_init_171 : decode cX11_init 171 = .ok (.dup, 1) := by decide +kernel
theorem dX11_init_172 : decode cX11_init 172 = .ok (.invokespecial 85, 3) := by decide +kernel
theorem dX11_init_175 : decode cX11_init 175 = .ok (.putfield 86, 3) := by decide +kernel
theorem dX11_init_178 : decode cX11_init 178 = .ok (.aload_n 0, 1) := by decide +kernel
theorem dX11_init_179 : decode cX11_init 179 = .ok (.bipush 6, 2) := by decide +kernel
theorem dX11_init_181 : decode cX11_init 181 = .ok (.newarray .int, 2) := by decide +kernel
theorem dX11_init_183 : decode cX11_init 183 = .ok (.putfield 90, 3) := by decide +kernel
theorem dX11_init_186 : decode cX11_init 186 = .ok (.return_, 1) := by decide +kernel
theorem dX11_feed_0 : decode cX11_feed 0 = .ok (.aload_n 0, 1) := by decide +kernel
theorem dX11_feed_1 : decode cX11_feed 1 = .ok (.getfield 22, 3) := by decide +kernel
theorem dX11_feed_4 : decode cX11_feed 4 = .ok (.lload_n 1, 1) := by decide +kernel
theorem dX11_feed_5 : decode cX11_feed 5 = .ok (.invokevirtual 94, 3) := by decide +kernel
theorem dX11_feed_8 : decode cX11_feed 8 = .ok (.aload_n 0, 1) := by decide +kernel
theorem dX11_feed_9 : decode cX11_feed 9 = .ok (.getfield 22, 3) := by decide +kernel
theorem dX11_feed_12 : decode cX11_feed 12 = .ok (.lload_n 3, 1) := by decide +kernel
theorem dX11_feed_13 : decode cX11_feed 13 = .ok (.invokevirtual 94, 3) := by decide +kernel
theorem dX11_feed_16 : decode cX11_feed 16 = .ok (.aload_n 0, 1) := by decide +kernel
theorem dX11_feed_17 : decode cX11_feed 17 = .ok (.getfield 22, 3) := by decide +kernel
theorem dX11_feed_20 : decode cX11_feed 20 = .ok (.lload 5, 2) := by decide +kernel
theorem dX11_feed_22 : decode cX11_feed 22 = .ok (.invokevirtual 94, 3) := by decide +kernel
theorem dX11_feed_25 : decode cX11_feed 25 = .ok (.aload_n 0, 1) := by decide +kernel
theorem dX11_feed_26 : decode cX11_feed 26 = .ok (.getfield 22, 3) := by decide +kernel
theorem dX11_feed_29 : decode cX11_feed 29 = .ok (.getfield 98, 3) := by decide +kernel
theorem dX11_feed_32 : decode cX11_feed 32 = .ok (.ireturn, 1) := by decide +kernel
theorem dX11_county_0 : decode cX11_county 0 = .ok (.aload_n 0, 1) := by decide +kernel
theorem dX11_county_1 : decode cX11_county 1 = .ok (.getfield 31, 3) := by decide +kernel
theorem dX11_county_4 : decode cX11_county 4 = .ok (.aload_n 0, 1) := by decide +kernel
theorem dX11_county_5 : decode cX11_county 5 = .ok (.getfield 16, 3) := by decide +kernel
theorem dX11_county_8 : decode cX11_county 8 = .ok (.invokevirtual 102, 3) := by decide +kernel
theorem dX11_county_11 : decode cX11_county 11 = .ok (.istore_n 1, 1) := by decide +kernel
theorem dX11_county_12 : decode cX11_county 12 = .ok (.iload_n 1, 1) := by decide +kernel
theorem dX11_county_13 : decode cX11_county 13 = .ok (.ifCond .ne 32, 3) := by decide +kernel
theorem dX11_county_16 : decode cX11_county 16 = .ok (.aload_n 0, 1) := by decide +kernel
theorem dX11_county_17 : decode cX11_county 17 = .ok (.getfield 10, 3) := by decide +kernel
theorem dX11_county_20 : decode cX11_county 20 = .ok (.astore_n 2, 1) := by decide +kernel
theorem dX11_county_21 : decode cX11_county 21 = .ok (.aload_n 0, 1) := by decide +kernel
theorem dX11_county_22 : decode cX11_county 22 = .ok (.aload_n 0, 1) := by decide +kernel
theorem dX11_county_23 : decode cX11_county 23 = .ok (.getfield 16, 3) := by decide +kernel
theorem dX11_county_26 : decode cX11_county 26 = .ok (.putfield 10, 3) := by decide +kernel
theorem dX11_county_29 : decode cX11_county 29 = .ok (.aload_n 0, 1) := by decide +kernel
theorem dX11_county_30 : decode cX11_county 30 = .ok (.aload_n 2, 1) := by decide +kernel
theorem dX11_county_31 : decode cX11_county 31 = .ok (.putfield 16, 3) := by decide +kernel
theorem dX11_county_34 : decode cX11_county 34 = .ok (.aload_n 0, 1) := by decide +kernel
theorem dX11_county_35 : decode cX11_county 35 = .ok (.getfield 10, 3) := by decide +kernel
theorem dX11_county_38 : decode cX11_county 38 = .ok (.invokevirtual 106, 3) := by decide +kernel
theorem dX11_county_41 : decode cX11_county 41 = .ok (.aload_n 0, 1) := by decide +kernel
theorem dX11_county_42 : decode cX11_county 42 = .ok (.invokevirtual 109, 3) := by decide +kernel
theorem dX11_county_45 : decode cX11_county 45 = .ok (.iload_n 1, 1) := by decide +kernel
theorem dX11_county_46 : decode cX11_county 46 = .ok (.ireturn, 1) := by decide +kernel
theorem dX11_round_0 : decode cX11_round 0 = .ok (.aload_n 0, 1) := by decide +kernel
theorem dX11_round_1 : decode cX11_round 1 = .ok (.getfield 31, 3) := by decide +kernel
theorem dX11_round_4 : decode cX11_round 4 = .ok (.aload_n 0, 1) := by decide +kernel
theorem dX11_round_5 : decode cX11_round 5 = .ok (.getfield 10, 3) := by decide +kernel
theorem dX11_round_8 : decode cX11_round 8 = .ok (.aload_n 0, 1) := by decide +kernel
theorem dX11_round_9 : decode cX11_round 9 = .ok (.getfield 42, 3) := by decide +kernel
theorem dX11_round_12 : decode cX11_round 12 = .ok (.invokevirtual 112, 3) := by decide +kernel
theorem dX11_round_15 : decode cX11_round 15 = .ok (.istore_n 1, 1) := by decide +kernel
theorem dX11_round_16 : decode cX11_round 16 = .ok (.iload_n 1, 1) := by decide +kernel
theorem dX11_round_17 : decode cX11_round 17 = .ok (.ifCond .ne 21, 3) := by decide +kernel
theorem dX11_round_20 : decode cX11_round 20 = .ok (.aload_n 0, 1) := by decide +kernel
theorem dX11_round_21 : decode cX11_round 21 = .ok (.getfield 38, 3) := by decide +kernel
theorem dX11_round_24 : decode cX11_round 24 = .ok (.astore_n 2, 1) := by decide +kernel
theorem dX11_round_25 : decode cX11_round 25 = .ok (.aload_n 0, 1) := by decide +kernel
theorem dX11_round_26 : decode cX11_round 26 = .ok (.aload_n 0, 1) := by decide +kernel
theorem dX11_round_27 : decode cX11_round 27 = .ok (.getfield 42, 3) := by decide +kernel
theorem dX11_round_30 : decode cX11_round 30 = .ok (.putfield 38, 3) := by decide +kernel
theorem dX11_round_33 : decode cX11_round 33 = .ok (.aload_n 0, 1) := by decide +kernel
theorem dX11_round_34 : decode cX11_round 34 = .ok (.aload_n 2, 1) := by decide +kernel
theorem dX11_round_35 : decode cX11_round 35 = .ok (.putfield 42, 3) := by decide +kernel
theorem dX11_round_38 : decode cX11_round 38 = .ok (.iload_n 1, 1) := by decide +kernel
theorem dX11_round_39 : decode cX11_round 39 = .ok (.ireturn, 1) := by decide +kernel
theorem dX11_shot_0 : decode cX11_shot 0 = .ok (.aload_n 0, 1) := by decide +kernel
theorem dX11_shot_1 : decode cX11_shot 1 = .ok (.getfield 10, 3) := by decide +kernel
theorem dX11_shot_4 : decode cX11_shot 4 = .ok (.iload_n 1, 1) := by decide +kernel
theorem dX11_shot_5 : decode cX11_shot 5 = .ok (.invokevirtual 116, 3) := by decide +kernel
theorem dX11_shot_8 : decode cX11_shot 8 = .ok (.ifCond .ne 6, 3) := by decide +kernel
theorem dX11_shot_11 : decode cX11_shot 11 = .ok (.bipush (-2), 2) := by decide +kernel
theorem dX11_shot_13 : decode cX11_shot 13 = .ok (.ireturn, 1) := by decide +kernel
theorem dX11_shot_14 : decode cX11_shot 14 = .ok (.iload_n 2, 1) := by decide +kernel
theorem dX11_shot_15 : decode cX11_shot 15 = .ok (.tableswitch 71 0 3 #[29, 39, 49, 59], 29) := by decide +kernel
theorem dX11_shot_44 : decode cX11_shot 44 = .ok (.aload_n 0, 1) := by decide +kernel
theorem dX11_shot_45 : decode cX11_shot 45 = .ok (.getfield 10, 3) := by decide +kernel
theorem dX11_shot_48 : decode cX11_shot 48 = .ok (.getfield 120, 3) := by decide +kernel
theorem dX11_shot_51 : decode cX11_shot 51 = .ok (.iload_n 1, 1) := by decide +kernel
theorem dX11_shot_52 : decode cX11_shot 52 = .ok (.iaload, 1) := by decide +kernel
theorem dX11_shot_53 : decode cX11_shot 53 = .ok (.ireturn, 1) := by decide +kernel
theorem dX11_shot_54 : decode cX11_shot 54 = .ok (.aload_n 0, 1) := by decide +kernel
theorem dX11_shot_55 : decode cX11_shot 55 = .ok (.getfield 10, 3) := by decide +kernel
theorem dX11_shot_58 : decode cX11_shot 58 = .ok (.getfield 123, 3) := by decide +kernel
theorem dX11_shot_61 : decode cX11_shot 61 = .ok (.iload_n 1, 1) := by decide +kernel
theorem dX11_shot_62 : decode cX11_shot 62 = .ok (.iaload, 1) := by decide +kernel
theorem dX11_shot_63 : decode cX11_shot 63 = .ok (.ireturn, 1) := by decide +kernel
theorem dX11_shot_64 : decode cX11_shot 64 = .ok (.aload_n 0, 1) := by decide +kernel
theorem dX11_shot_65 : decode cX11_shot 65 = .ok (.getfield 10, 3) := by decide +kernel
theorem dX11_shot_68 : decode cX11_shot 68 = .ok (.getfield 126, 3) := by decide +kernel
theorem dX11_shot_71 : decode cX11_shot 71 = .ok (.iload_n 1, 1) := by decide +kernel
theorem dX11_shot_72 : decode cX11_shot 72 = .ok (.iaload, 1) := by decide +kernel
theorem dX11_shot_73 : decode cX11_shot 73 = .ok (.ireturn, 1) := by decide +kernel
theorem dX11_shot_74 : decode cX11_shot 74 = .ok (.aload_n 0, 1) := by decide +kernel
theorem dX11_shot_75 : decode cX11_shot 75 = .ok (.getfield 48, 3) := by decide +kernel
theorem dX11_shot_78 : decode cX11_shot 78 = .ok (.getfield 129, 3) := by decide +kernel
theorem dX11_shot_81 : decode cX11_shot 81 = .ok (.iload_n 1, 1) := by decide +kernel
theorem dX11_shot_82 : decode cX11_shot 82 = .ok (.ishr, 1) := by decide +kernel
theorem dX11_shot_83 : decode cX11_shot 83 = .ok (.iconst 1, 1) := by decide +kernel
theorem dX11_shot_84 : decode cX11_shot 84 = .ok (.iand, 1) := by decide +kernel
theorem dX11_shot_85 : decode cX11_shot 85 = .ok (.ireturn, 1) := by decide +kernel
theorem dX11_shot_86 : decode cX11_shot 86 = .ok (.bipush (-2), 2) := by decide +kernel
theorem dX11_shot_88 : decode cX11_shot 88 = .ok (.ireturn, 1) := by decide +kernel
theorem dX11_hall_0 : decode cX11_hall 0 = .ok (.aload_n 0, 1) := by decide +kernel
theorem dX11_hall_1 : decode cX11_hall 1 = .ok (.getfield 10, 3) := by decide +kernel
theorem dX11_hall_4 : decode cX11_hall 4 = .ok (.iload_n 1, 1) := by decide +kernel
theorem dX11_hall_5 : decode cX11_hall 5 = .ok (.invokevirtual 132, 3) := by decide +kernel
theorem dX11_hall_8 : decode cX11_hall 8 = .ok (.ifCond .ne 5, 3) := by decide +kernel
theorem dX11_hall_11 : decode cX11_hall 11 = .ok (.iconst (-1), 1) := by decide +kernel
theorem dX11_hall_12 : decode cX11_hall 12 = .ok (.ireturn, 1) := by decide +kernel
theorem dX11_hall_13 : decode cX11_hall 13 = .ok (.iload_n 2, 1) := by decide +kernel
theorem dX11_hall_14 : decode cX11_hall 14 = .ok (.tableswitch 79 0 3 #[30, 40, 50, 63], 30) := by decide +kernel
theorem dX11_hall_44 : decode cX11_hall 44 = .ok (.aload_n 0, 1) := by decide +kernel
theorem dX11_hall_45 : decode cX11_hall 45 = .ok (.getfield 10, 3) := by decide +kernel
theorem dX11_hall_48 : decode cX11_hall 48 = .ok (.getfield 135, 3) := by decide +kernel
theorem dX11_hall_51 : decode cX11_hall 51 = .ok (.iload_n 1, 1) := by decide +kernel
theorem dX11_hall_52 : decode cX11_hall 52 = .ok (.iaload, 1) := by decide +kernel
theorem dX11_hall_53 : decode cX11_hall 53 = .ok (.ireturn, 1) := by decide +kernel
theorem dX11_hall_54 : decode cX11_hall 54 = .ok (.aload_n 0, 1) := by decide +kernel
theorem dX11_hall_55 : decode cX11_hall 55 = .ok (.getfield 48, 3) := by decide +kernel
theorem dX11_hall_58 : decode cX11_hall 58 = .ok (.getfield 138, 3) := by decide +kernel
theorem dX11_hall_61 : decode cX11_hall 61 = .ok (.iload_n 1, 1) := by decide +kernel
theorem dX11_hall_62 : decode cX11_hall 62 = .ok (.iaload, 1) := by decide +kernel
theorem dX11_hall_63 : decode cX11_hall 63 = .ok (.ireturn, 1) := by decide +kernel
theorem dX11_hall_64 : decode cX11_hall 64 = .ok (.aload_n 0, 1) := by decide +kernel
theorem dX11_hall_65 : decode cX11_hall 65 = .ok (.getfield 48, 3) := by decide +kernel
theorem dX11_hall_68 : decode cX11_hall 68 = .ok (.aload_n 0, 1) := by decide +kernel
theorem dX11_hall_69 : decode cX11_hall 69 = .ok (.getfield 10, 3) := by decide +kernel
theorem dX11_hall_72 : decode cX11_hall 72 = .ok (.iload_n 1, 1) := by decide +kernel
theorem dX11_hall_73 : decode cX11_hall 73 = .ok (.invokevirtual 141, 3) := by decide +kernel
theorem dX11_hall_76 : decode cX11_hall 76 = .ok (.ireturn, 1) := by decide +kernel
theorem dX11_hall_77 : decode cX11_hall 77 = .ok (.aload_n 0, 1) := by decide +kernel
theorem dX11_hall_78 : decode cX11_hall 78 = .ok (.getfield 10, 3) := by decide +kernel
theorem dX11_hall_81 : decode cX11_hall 81 = .ok (.iload_n 1, 1) := by decide +kernel
theorem dX11_hall_82 : decode cX11_hall 82 = .ok (.aload_n 0, 1) := by decide +kernel
theorem dX11_hall_83 : decode cX11_hall 83 = .ok (.getfield 48, 3) := by decide +kernel
theorem dX11_hall_86 : decode cX11_hall 86 = .ok (.getfield 129, 3) := by decide +kernel
theorem dX11_hall_89 : decode cX11_hall 89 = .ok (.invokevirtual 145, 3) := by decide +kernel
theorem dX11_hall_92 : decode cX11_hall 92 = .ok (.ireturn, 1) := by decide +kernel
theorem dX11_hall_93 : decode cX11_hall 93 = .ok (.iconst (-1), 1) := by decide +kernel
theorem dX11_hall_94 : decode cX11_hall 94 = .ok (.ireturn, 1) := by decide +kernel
theorem dX11_show_0 : decode cX11_show 0 = .ok (.aload_n 0, 1) := by decide +kernel
theorem dX11_show_1 : decode cX11_show 1 = .ok (.getfield 10, 3) := by decide +kernel
theorem dX11_show_4 : decode cX11_show 4 = .ok (.getfield 149, 3) := by decide +kernel
theorem dX11_show_7 : decode cX11_show 7 = .ok (.ifCond .ne 5, 3) := by decide +kernel
theorem dX11_show_10 : decode cX11_show 10 = .ok (.iconst (-1), 1) := by decide +kernel
theorem dX11_show_11 : decode cX11_show 11 = .ok (.ireturn, 1) := by decide +kernel
theorem dX11_show_12 : decode cX11_show 12 = .ok (.aload_n 0, 1) := by decide +kernel
theorem dX11_show_13 : decode cX11_show 13 = .ok (.getfield 58, 3) := by decide +kernel
theorem dX11_show_16 : decode cX11_show 16 = .ok (.aload_n 0, 1) := by decide +kernel
theorem dX11_show_17 : decode cX11_show 17 = .ok (.getfield 48, 3) := by decide +kernel
theorem dX11_show_20 : decode cX11_show 20 = .ok (.invokevirtual 152, 3) := by decide +kernel
theorem dX11_show_23 : decode cX11_show 23 = .ok (.aload_n 0, 1) := by decide +kernel
theorem dX11_show_24 : decode cX11_show 24 = .ok (.getfield 10, 3) := by decide +kernel
theorem dX11_show_27 : decode cX11_show 27 = .ok (.aload_n 0, 1) := by decide +kernel
theorem dX11_show_28 : decode cX11_show 28 = .ok (.getfield 48, 3) := by decide +kernel
theorem dX11_show_31 : decode cX11_show 31 = .ok (.aload_n 0, 1) := by decide +kernel
theorem dX11_show_32 : decode cX11_show 32 = .ok (.getfield 10, 3) := by decide +kernel
theorem dX11_show_35 : decode cX11_show 35 = .ok (.invokevirtual 156, 3) := by decide +kernel
theorem dX11_show_38 : decode cX11_show 38 = .ok (.invokevirtual 159, 3) := by decide +kernel
theorem dX11_show_41 : decode cX11_show 41 = .ok (.ireturn, 1) := by decide +kernel
theorem dX11_give_0 : decode cX11_give 0 = .ok (.aload_n 0, 1) := by decide +kernel
theorem dX11_give_1 : decode cX11_give 1 = .ok (.iload_n 1, 1) := by decide +kernel
theorem dX11_give_2 : decode cX11_give 2 = .ok (.iload_n 2, 1) := by decide +kernel
theorem dX11_give_3 : decode cX11_give 3 = .ok (.invokevirtual 163, 3) := by decide +kernel
theorem dX11_give_6 : decode cX11_give 6 = .ok (.ifCond .ne 5, 3) := by decide +kernel
theorem dX11_give_9 : decode cX11_give 9 = .ok (.iconst (-1), 1) := by decide +kernel
theorem dX11_give_10 : decode cX11_give 10 = .ok (.ireturn, 1) := by decide +kernel
theorem dX11_give_11 : decode cX11_give 11 = .ok (.aload_n 0, 1) := by decide +kernel
theorem dX11_give_12 : decode cX11_give 12 = .ok (.getfield 58, 3) := by decide +kernel
theorem dX11_give_15 : decode cX11_give 15 = .ok (.aload_n 0, 1) := by decide +kernel
theorem dX11_give_16 : decode cX11_give 16 = .ok (.getfield 48, 3) := by decide +kernel
theorem dX11_give_19 : decode cX11_give 19 = .ok (.invokevirtual 152, 3) := by decide +kernel
theorem dX11_give_22 : decode cX11_give 22 = .ok (.aload_n 0, 1) := by decide +kernel
theorem dX11_give_23 : decode cX11_give 23 = .ok (.getfield 48, 3) := by decide +kernel
theorem dX11_give_26 : decode cX11_give 26 = .ok (.iload_n 1, 1) := by decide +kernel
theorem dX11_give_27 : decode cX11_give 27 = .ok (.iload_n 2, 1) := by decide +kernel
theorem dX11_give_28 : decode cX11_give 28 = .ok (.invokevirtual 167, 3) := by decide +kernel
theorem dX11_give_31 : decode cX11_give 31 = .ok (.aload_n 0, 1) := by decide +kernel
theorem dX11_give_32 : decode cX11_give 32 = .ok (.getfield 48, 3) := by decide +kernel
theorem dX11_give_35 : decode cX11_give 35 = .ok (.getfield 129, 3) := by decide +kernel
theorem dX11_give_38 : decode cX11_give 38 = .ok (.invokestatic 171, 3) := by decide +kernel
theorem dX11_give_41 : decode cX11_give 41 = .ok (.ireturn, 1) := by decide +kernel
theorem dX11_trade_0 : decode cX11_trade 0 = .ok (.aload_n 0, 1) := by decide +kernel
theorem dX11_trade_1 : decode cX11_trade 1 = .ok (.getfield 10, 3) := by decide +kernel
theorem dX11_trade_4 : decode cX11_trade 4 = .ok (.iload_n 2, 1) := by decide +kernel
theorem dX11_trade_5 : decode cX11_trade 5 = .ok (.invokevirtual 132, 3) := by decide +kernel
theorem dX11_trade_8 : decode cX11_trade 8 = .ok (.ifCond .eq 17, 3) := by decide +kernel
theorem dX11_trade_11 : decode cX11_trade 11 = .ok (.iload_n 1, 1) := by decide +kernel
theorem dX11_trade_12 : decode cX11_trade 12 = .ok (.iload_n 2, 1) := by decide +kernel
theorem dX11_trade_13 : decode cX11_trade 13 = .ok (.if_icmp .eq 12, 3) := by decide +kernel
theorem dX11_trade_16 : decode cX11_trade 16 = .ok (.aload_n 0, 1) := by decide +kernel
theorem dX11_trade_17 : decode cX11_trade 17 = .ok (.iload_n 1, 1) := by decide +kernel
theorem dX11_trade_18 : decode cX11_trade 18 = .ok (.iload_n 3, 1) := by decide +kernel
theorem dX11_trade_19 : decode cX11_trade 19 = .ok (.invokevirtual 163, 3) := by decide +kernel
theorem dX11_trade_22 : decode cX11_trade 22 = .ok (.ifCond .ne 5, 3) := by decide +kernel
theorem dX11_trade_25 : decode cX11_trade 25 = .ok (.iconst 0, 1) := by decide +kernel
theorem dX11_trade_26 : decode cX11_trade 26 = .ok (.ireturn, 1) := by decide +kernel
theorem dX11_trade_27 : decode cX11_trade 27 = .ok (.aload_n 0, 1) := by decide +kernel
theorem dX11_trade_28 : decode cX11_trade 28 = .ok (.getfield 58, 3) := by decide +kernel
theorem dX11_trade_31 : decode cX11_trade 31 = .ok (.aload_n 0, 1) := by decide +kernel
theorem dX11_trade_32 : decode cX11_trade 32 = .ok (.getfield 48, 3) := by decide +kernel
theorem dX11_trade_35 : decode cX11_trade 35 = .ok (.invokevirtual 152, 3) := by decide +kernel
theorem dX11_trade_38 : decode cX11_trade 38 = .ok (.aload_n 0, 1) := by decide +kernel
theorem dX11_trade_39 : decode cX11_trade 39 = .ok (.getfield 48, 3) := by decide +kernel
theorem dX11_trade_42 : decode cX11_trade 42 = .ok (.iload_n 1, 1) := by decide +kernel
theorem dX11_trade_43 : decode cX11_trade 43 = .ok (.iload_n 2, 1) := by decide +kernel
theorem dX11_trade_44 : decode cX11_trade 44 = .ok (.iload_n 3, 1) := by decide +kernel
theorem dX11_trade_45 : decode cX11_trade 45 = .ok (.invokevirtual 176, 3) := by decide +kernel
theorem dX11_trade_48 : decode cX11_trade 48 = .ok (.iconst 1, 1) := by decide +kernel
theorem dX11_trade_49 : decode cX11_trade 49 = .ok (.ireturn, 1) := by decide +kernel
theorem dX11_turn_0 : decode cX11_turn 0 = .ok (.aload_n 0, 1) := by decide +kernel
theorem dX11_turn_1 : decode cX11_turn 1 = .ok (.getfield 58, 3) := by decide +kernel
theorem dX11_turn_4 : decode cX11_turn 4 = .ok (.aload_n 0, 1) := by decide +kernel
theorem dX11_turn_5 : decode cX11_turn 5 = .ok (.getfield 48, 3) := by decide +kernel
theorem dX11_turn_8 : decode cX11_turn 8 = .ok (.invokevirtual 152, 3) := by decide +kernel
theorem dX11_turn_11 : decode cX11_turn 11 = .ok (.aload_n 0, 1) := by decide +kernel
theorem dX11_turn_12 : decode cX11_turn 12 = .ok (.getfield 48, 3) := by decide +kernel
theorem dX11_turn_15 : decode cX11_turn 15 = .ok (.invokevirtual 180, 3) := by decide +kernel
theorem dX11_turn_18 : decode cX11_turn 18 = .ok (.aload_n 0, 1) := by decide +kernel
theorem dX11_turn_19 : decode cX11_turn 19 = .ok (.invokevirtual 183, 3) := by decide +kernel
theorem dX11_turn_22 : decode cX11_turn 22 = .ok (.ireturn, 1) := by decide +kernel
theorem dX11_undo_0 : decode cX11_undo 0 = .ok (.aload_n 0, 1) := by decide +kernel
theorem dX11_undo_1 : decode cX11_undo 1 = .ok (.getfield 58, 3) := by decide +kernel
theorem dX11_undo_4 : decode cX11_undo 4 = .ok (.aload_n 0, 1) := by decide +kernel
theorem dX11_undo_5 : decode cX11_undo 5 = .ok (.getfield 48, 3) := by decide +kernel
theorem dX11_undo_8 : decode cX11_undo 8 = .ok (.invokevirtual 187, 3) := by decide +kernel
theorem dX11_undo_11 : decode cX11_undo 11 = .ok (.ireturn, 1) := by decide +kernel
theorem dX11_judged_0 : decode cX11_judged 0 = .ok (.iload_n 1, 1) := by decide +kernel
theorem dX11_judged_1 : decode cX11_judged 1 = .ok (.ifCond .lt 8, 3) := by decide +kernel
theorem dX11_judged_4 : decode cX11_judged 4 = .ok (.iload_n 1, 1) := by decide +kernel
theorem dX11_judged_5 : decode cX11_judged 5 = .ok (.iconst 2, 1) := by decide +kernel
theorem dX11_judged_6 : decode cX11_judged 6 = .ok (.if_icmp .le 6, 3) := by decide +kernel
theorem dX11_judged_9 : decode cX11_judged 9 = .ok (.bipush (-2), 2) := by decide +kernel
theorem dX11_judged_11 : decode cX11_judged 11 = .ok (.ireturn, 1) := by decide +kernel
theorem dX11_judged_12 : decode cX11_judged 12 = .ok (.iconst (-1), 1) := by decide +kernel
theorem dX11_judged_13 : decode cX11_judged 13 = .ok (.istore_n 2, 1) := by decide +kernel
theorem dX11_judged_14 : decode cX11_judged 14 = .ok (.iconst (-1), 1) := by decide +kernel
theorem dX11_judged_15 : decode cX11_judged 15 = .ok (.istore_n 3, 1) := by decide +kernel
theorem dX11_judged_16 : decode cX11_judged 16 = .ok (.iconst 0, 1) := by decide +kernel
theorem dX11_judged_17 : decode cX11_judged 17 = .ok (.istore 4, 2) := by decide +kernel
theorem dX11_judged_19 : decode cX11_judged 19 = .ok (.aload_n 0, 1) := by decide +kernel
theorem dX11_judged_20 : decode cX11_judged 20 = .ok (.getfield 52, 3) := by decide +kernel
theorem dX11_judged_23 : decode cX11_judged 23 = .ok (.aload_n 0, 1) := by decide +kernel
theorem dX11_judged_24 : decode cX11_judged 24 = .ok (.getfield 10, 3) := by decide +kernel
theorem dX11_judged_27 : decode cX11_judged 27 = .ok (.invokevirtual 191, 3) := by decide +kernel
theorem dX11_judged_30 : decode cX11_judged 30 = .ok (.invokevirtual 194, 3) := by decide +kernel
theorem dX11_judged_33 : decode cX11_judged 33 = .ok (.iconst 0, 1) := by decide +kernel
theorem dX11_judged_34 : decode cX11_judged 34 = .ok (.istore 5, 2) := by decide +kernel
theorem dX11_judged_36 : decode cX11_judged 36 = .ok (.iload 5, 2) := by decide +kernel
theorem dX11_judged_38 : decode cX11_judged 38 = .ok (.aload_n 0, 1) := by decide +kernel
theorem dX11_judged_39 : decode cX11_judged 39 = .ok (.getfield 38, 3) := by decide +kernel
theorem dX11_judged_42 : decode cX11_judged 42 = .ok (.getfield 198, 3) := by decide +kernel
theorem dX11_judged_45 : decode cX11_judged 45 = .ok (.if_icmp .ge 118, 3) := by decide +kernel
theorem dX11_judged_48 : decode cX11_judged 48 = .ok (.aload_n 0, 1) := by decide +kernel
theorem dX11_judged_49 : decode cX11_judged 49 = .ok (.getfield 38, 3) := by decide +kernel
theorem dX11_judged_52 : decode cX11_judged 52 = .ok (.iload 5, 2) := by decide +kernel
theorem dX11_judged_54 : decode cX11_judged 54 = .ok (.aload_n 0, 1) := by decide +kernel
theorem dX11_judged_55 : decode cX11_judged 55 = .ok (.getfield 10, 3) := by decide +kernel
theorem dX11_judged_58 : decode cX11_judged 58 = .ok (.aload_n 0, 1) := by decide +kernel
theorem dX11_judged_59 : decode cX11_judged 59 = .ok (.getfield 52, 3) := by decide +kernel
theorem dX11_judged_62 : decode cX11_judged 62 = .ok (.invokevirtual 201, 3) := by decide +kernel
theorem dX11_judged_65 : decode cX11_judged 65 = .ok (.ifCond .ne 18, 3) := by decide +kernel
theorem dX11_judged_68 : decode cX11_judged 68 = .ok (.iload_n 2, 1) := by decide +kernel
theorem dX11_judged_69 : decode cX11_judged 69 = .ok (.iconst (-1), 1) := by decide +kernel
theorem dX11_judged_70 : decode cX11_judged 70 = .ok (.if_icmp .ne 8, 3) := by decide +kernel
theorem dX11_judged_73 : decode cX11_judged 73 = .ok (.iload 5, 2) := by decide +kernel
theorem dX11_judged_75 : decode cX11_judged 75 = .ok (.goto 4, 3) := by decide +kernel
theorem dX11_judged_78 : decode cX11_judged 78 = .ok (.iload_n 2, 1) := by decide +kernel
theorem dX11_judged_79 : decode cX11_judged 79 = .ok (.istore_n 2, 1) := by decide +kernel
theorem dX11_judged_80 : decode cX11_judged 80 = .ok (.goto 77, 3) := by decide +kernel
theorem dX11_judged_83 : decode cX11_judged 83 = .ok (.aload_n 0, 1) := by decide +kernel
theorem dX11_judged_84 : decode cX11_judged 84 = .ok (.getfield 38, 3) := by decide +kernel
theorem dX11_judged_87 : decode cX11_judged 87 = .ok (.iload 5, 2) := by decide +kernel
theorem dX11_judged_89 : decode cX11_judged 89 = .ok (.aload_n 0, 1) := by decide +kernel
theorem dX11_judged_90 : decode cX11_judged 90 = .ok (.getfield 10, 3) := by decide +kernel
theorem dX11_judged_93 : decode cX11_judged 93 = .ok (.aload_n 0, 1) := by decide +kernel
theorem dX11_judged_94 : decode cX11_judged 94 = .ok (.getfield 52, 3) := by decide +kernel
theorem dX11_judged_97 : decode cX11_judged 97 = .ok (.invokevirtual 205, 3) := by decide +kernel
theorem dX11_judged_100 : decode cX11_judged 100 = .ok (.aload_n 0, 1) := by decide +kernel
theorem dX11_judged_101 : decode cX11_judged 101 = .ok (.getfield 38, 3) := by decide +kernel
theorem dX11_judged_104 : decode cX11_judged 104 = .ok (.getfield 209, 3) := by decide +kernel
theorem dX11_judged_107 : decode cX11_judged 107 = .ok (.iload 5, 2) := by decide +kernel
theorem dX11_judged_109 : decode cX11_judged 109 = .ok (.iaload, 1) := by decide +kernel
theorem dX11_judged_110 : decode cX11_judged 110 = .ok (.ifCond .ne 47, 3) := by decide +kernel
theorem dX11_judged_113 : decode cX11_judged 113 = .ok (.iload 4, 2) := by decide +kernel
theorem dX11_judged_115 : decode cX11_judged 115 = .ok (.aload_n 0, 1) := by decide +kernel
theorem dX11_judged_116 : decode cX11_judged 116 = .ok (.getfield 10, 3) := by decide +kernel
theorem dX11_judged_119 : decode cX11_judged 119 = .ok (.aload_n 0, 1) := by decide +kernel
theorem dX11_judged_120 : decode cX11_judged 120 = .ok (.getfield 52, 3) := by decide +kernel
theorem dX11_judged_123 : decode cX11_judged 123 = .ok (.getfield 129, 3) := by decide +kernel
theorem dX11_judged_126 : decode cX11_judged 126 = .ok (.invokevirtual 159, 3) := by decide +kernel
theorem dX11_judged_129 : decode cX11_judged 129 = .ok (.iadd, 1) := by decide +kernel
theorem dX11_judged_130 : decode cX11_judged 130 = .ok (.istore 4, 2) := by decide +kernel
theorem dX11_judged_132 : decode cX11_judged 132 = .ok (.iload_n 3, 1) := by decide +kernel
theorem dX11_judged_133 : decode cX11_judged 133 = .ok (.iconst (-1), 1) := by decide +kernel
theorem dX11_judged_134 : decode cX11_judged 134 = .ok (.if_icmp .ne 23, 3) := by decide +kernel
theorem dX11_judged_137 : decode cX11_judged 137 = .ok (.aload_n 0, 1) := by decide +kernel
theorem dX11_judged_138 : decode cX11_judged 138 = .ok (.getfield 10, 3) := by decide +kernel
theorem dX11_judged_141 : decode cX11_judged 141 = .ok (.aload_n 0, 1) := by decide +kernel
theorem dX11_judged_142 : decode cX11_judged 142 = .ok (.getfield 52, 3) := by decide +kernel
theorem dX11_judged_145 : decode cX11_judged 145 = .ok (.getfield 129, 3) := by decide +kernel
theorem dX11_judged_148 : decode cX11_judged 148 = .ok (.invokevirtual 212, 3) := by decide +kernel
theorem dX11_judged_151 : decode cX11_judged 151 = .ok (.ifCond .ne 6, 3) := by decide +kernel
theorem dX11_judged_154 : decode cX11_judged 154 = .ok (.iload 5, 2) := by decide +kernel
theorem dX11_judged_156 : decode cX11_judged 156 = .ok (.istore_n 3, 1) := by decide +kernel
theorem dX11_judged_157 : decode cX11_judged 157 = .ok (.iinc 5 1, 3) := by decide +kernel
theorem dX11_judged_160 : decode cX11_judged 160 = .ok (.goto (-124), 3) := by decide +kernel
theorem dX11_judged_163 : decode cX11_judged 163 = .ok (.iload_n 1, 1) := by decide +kernel
theorem dX11_judged_164 : decode cX11_judged 164 = .ok (.ifCond .ne 7, 3) := by decide +kernel
theorem dX11_judged_167 : decode cX11_judged 167 = .ok (.iload_n 2, 1) := by decide +kernel
theorem dX11_judged_168 : decode cX11_judged 168 = .ok (.goto 14, 3) := by decide +kernel
theorem dX11_judged_171 : decode cX11_judged 171 = .ok (.iload_n 1, 1) := by decide +kernel
theorem dX11_judged_172 : decode cX11_judged 172 = .ok (.iconst 1, 1) := by decide +kernel
theorem dX11_judged_173 : decode cX11_judged 173 = .ok (.if_icmp .ne 7, 3) := by decide +kernel
theorem dX11_judged_176 : decode cX11_judged 176 = .ok (.iload_n 3, 1) := by decide +kernel
theorem dX11_judged_177 : decode cX11_judged 177 = .ok (.goto 5, 3) := by decide +kernel
theorem dX11_judged_180 : decode cX11_judged 180 = .ok (.iload 4, 2) := by decide +kernel
theorem dX11_judged_182 : decode cX11_judged 182 = .ok (.ireturn, 1) := by decide +kernel
theorem dX11_shown_0 : decode cX11_shown 0 = .ok (.aload_n 0, 1) := by decide +kernel
theorem dX11_shown_1 : decode cX11_shown 1 = .ok (.iload_n 1, 1) := by decide +kernel
theorem dX11_shown_2 : decode cX11_shown 2 = .ok (.invokevirtual 215, 3) := by decide +kernel
theorem dX11_shown_5 : decode cX11_shown 5 = .ok (.istore_n 3, 1) := by decide +kernel
theorem dX11_shown_6 : decode cX11_shown 6 = .ok (.iload_n 3, 1) := by decide +kernel
theorem dX11_shown_7 : decode cX11_shown 7 = .ok (.iconst (-1), 1) := by decide +kernel
theorem dX11_shown_8 : decode cX11_shown 8 = .ok (.if_icmp .ne 7, 3) := by decide +kernel
theorem dX11_shown_11 : decode cX11_shown 11 = .ok (.iconst (-1), 1) := by decide +kernel
theorem dX11_shown_12 : decode cX11_shown 12 = .ok (.goto 12, 3) := by decide +kernel
theorem dX11_shown_15 : decode cX11_shown 15 = .ok (.aload_n 0, 1) := by decide +kernel
theorem dX11_shown_16 : decode cX11_shown 16 = .ok (.getfield 10, 3) := by decide +kernel
theorem dX11_shown_19 : decode cX11_shown 19 = .ok (.iload_n 3, 1) := by decide +kernel
theorem dX11_shown_20 : decode cX11_shown 20 = .ok (.iload_n 2, 1) := by decide +kernel
theorem dX11_shown_21 : decode cX11_shown 21 = .ok (.invokevirtual 218, 3) := by decide +kernel
theorem dX11_shown_24 : decode cX11_shown 24 = .ok (.ireturn, 1) := by decide +kernel
theorem dX11_minutes_0 : decode cX11_minutes 0 = .ok (.aload_n 0, 1) := by decide +kernel
theorem dX11_minutes_1 : decode cX11_minutes 1 = .ok (.iload_n 1, 1) := by decide +kernel
theorem dX11_minutes_2 : decode cX11_minutes 2 = .ok (.invokevirtual 215, 3) := by decide +kernel
theorem dX11_minutes_5 : decode cX11_minutes 5 = .ok (.istore_n 2, 1) := by decide +kernel
theorem dX11_minutes_6 : decode cX11_minutes 6 = .ok (.iload_n 2, 1) := by decide +kernel
theorem dX11_minutes_7 : decode cX11_minutes 7 = .ok (.iconst (-1), 1) := by decide +kernel
theorem dX11_minutes_8 : decode cX11_minutes 8 = .ok (.if_icmp .ne 7, 3) := by decide +kernel
theorem dX11_minutes_11 : decode cX11_minutes 11 = .ok (.iconst (-1), 1) := by decide +kernel
theorem dX11_minutes_12 : decode cX11_minutes 12 = .ok (.goto 11, 3) := by decide +kernel
theorem dX11_minutes_15 : decode cX11_minutes 15 = .ok (.aload_n 0, 1) := by decide +kernel
theorem dX11_minutes_16 : decode cX11_minutes 16 = .ok (.getfield 10, 3) := by decide +kernel
theorem dX11_minutes_19 : decode cX11_minutes 19 = .ok (.iload_n 2, 1) := by decide +kernel
theorem dX11_minutes_20 : decode cX11_minutes 20 = .ok (.invokevirtual 159, 3) := by decide +kernel
theorem dX11_minutes_23 : decode cX11_minutes 23 = .ok (.ireturn, 1) := by decide +kernel
theorem dX11_silly_0 : decode cX11_silly 0 = .ok (.aload_n 0, 1) := by decide +kernel
theorem dX11_silly_1 : decode cX11_silly 1 = .ok (.getfield 48, 3) := by decide +kernel
theorem dX11_silly_4 : decode cX11_silly 4 = .ok (.getfield 129, 3) := by decide +kernel
theorem dX11_silly_7 : decode cX11_silly 7 = .ok (.istore_n 1, 1) := by decide +kernel
theorem dX11_silly_8 : decode cX11_silly 8 = .ok (.aload_n 0, 1) := by decide +kernel
theorem dX11_silly_9 : decode cX11_silly 9 = .ok (.invokevirtual 221, 3) := by decide +kernel
theorem dX11_silly_12 : decode cX11_silly 12 = .ok (.istore_n 2, 1) := by decide +kernel
theorem dX11_silly_13 : decode cX11_silly 13 = .ok (.iload_n 2, 1) := by decide +kernel
theorem dX11_silly_14 : decode cX11_silly 14 = .ok (.aload_n 0, 1) := by decide +kernel
theorem dX11_silly_15 : decode cX11_silly 15 = .ok (.getfield 10, 3) := by decide +kernel
theorem dX11_silly_18 : decode cX11_silly 18 = .ok (.getfield 149, 3) := by decide +kernel
theorem dX11_silly_21 : decode cX11_silly 21 = .ok (.if_icmp .ge 49, 3) := by decide +kernel
theorem dX11_silly_24 : decode cX11_silly 24 = .ok (.aload_n 0, 1) := by decide +kernel
theorem dX11_silly_25 : decode cX11_silly 25 = .ok (.getfield 48, 3) := by decide +kernel
theorem dX11_silly_28 : decode cX11_silly 28 = .ok (.aload_n 0, 1) := by decide +kernel
theorem dX11_silly_29 : decode cX11_silly 29 = .ok (.getfield 10, 3) := by decide +kernel
theorem dX11_silly_32 : decode cX11_silly 32 = .ok (.iload_n 2, 1) := by decide +kernel
theorem dX11_silly_33 : decode cX11_silly 33 = .ok (.invokevirtual 141, 3) := by decide +kernel
theorem dX11_silly_36 : decode cX11_silly 36 = .ok (.istore_n 3, 1) := by decide +kernel
theorem dX11_silly_37 : decode cX11_silly 37 = .ok (.iload_n 1, 1) := by decide +kernel
theorem dX11_silly_38 : decode cX11_silly 38 = .ok (.aload_n 0, 1) := by decide +kernel
theorem dX11_silly_39 : decode cX11_silly 39 = .ok (.getfield 10, 3) := by decide +kernel
theorem dX11_silly_42 : decode cX11_silly 42 = .ok (.iload_n 3, 1) := by decide +kernel
theorem dX11_silly_43 : decode cX11_silly 43 = .ok (.iload_n 1, 1) := by decide +kernel
theorem dX11_silly_44 : decode cX11_silly 44 = .ok (.invokevirtual 145, 3) := by decide +kernel
theorem dX11_silly_47 : decode cX11_silly 47 = .ok (.iconst (-1), 1) := by decide +kernel
theorem dX11_silly_48 : decode cX11_silly 48 = .ok (.ixor, 1) := by decide +kernel
theorem dX11_silly_49 : decode cX11_silly 49 = .ok (.iand, 1) := by decide +kernel
theorem dX11_silly_50 : decode cX11_silly 50 = .ok (.istore_n 1, 1) := by decide +kernel
theorem dX11_silly_51 : decode cX11_silly 51 = .ok (.aload_n 0, 1) := by decide +kernel
theorem dX11_silly_52 : decode cX11_silly 52 = .ok (.getfield 10, 3) := by decide +kernel
theorem dX11_silly_55 : decode cX11_silly 55 = .ok (.iload_n 1, 1) := by decide +kernel
theorem dX11_silly_56 : decode cX11_silly 56 = .ok (.invokevirtual 212, 3) := by decide +kernel
theorem dX11_silly_59 : decode cX11_silly 59 = .ok (.ifCond .ne 5, 3) := by decide +kernel
theorem dX11_silly_62 : decode cX11_silly 62 = .ok (.iload_n 3, 1) := by decide +kernel
theorem dX11_silly_63 : decode cX11_silly 63 = .ok (.ireturn, 1) := by decide +kernel
theorem dX11_silly_64 : decode cX11_silly 64 = .ok (.iinc 2 1, 3) := by decide +kernel
theorem dX11_silly_67 : decode cX11_silly 67 = .ok (.goto (-54), 3) := by decide +kernel
theorem dX11_silly_70 : decode cX11_silly 70 = .ok (.iconst (-1), 1) := by decide +kernel
theorem dX11_silly_71 : decode cX11_silly 71 = .ok (.ireturn, 1) := by decide +kernel
theorem dX11_lasts_0 : decode cX11_lasts 0 = .ok (.aload_n 0, 1) := by decide +kernel
theorem dX11_lasts_1 : decode cX11_lasts 1 = .ok (.getfield 52, 3) := by decide +kernel
theorem dX11_lasts_4 : decode cX11_lasts 4 = .ok (.aload_n 0, 1) := by decide +kernel
theorem dX11_lasts_5 : decode cX11_lasts 5 = .ok (.getfield 48, 3) := by decide +kernel
theorem dX11_lasts_8 : decode cX11_lasts 8 = .ok (.invokevirtual 224, 3) := by decide +kernel
theorem dX11_lasts_11 : decode cX11_lasts 11 = .ok (.iconst 0, 1) := by decide +kernel
theorem dX11_lasts_12 : decode cX11_lasts 12 = .ok (.istore_n 1, 1) := by decide +kernel
theorem dX11_lasts_13 : decode cX11_lasts 13 = .ok (.iload_n 1, 1) := by decide +kernel
theorem dX11_lasts_14 : decode cX11_lasts 14 = .ok (.bipush 99, 2) := by decide +kernel
theorem dX11_lasts_16 : decode cX11_lasts 16 = .ok (.if_icmp .gt 45, 3) := by decide +kernel
theorem dX11_lasts_19 : decode cX11_lasts 19 = .ok (.aload_n 0, 1) := by decide +kernel
theorem dX11_lasts_20 : decode cX11_lasts 20 = .ok (.getfield 52, 3) := by decide +kernel
theorem dX11_lasts_23 : decode cX11_lasts 23 = .ok (.getfield 129, 3) := by decide +kernel
theorem dX11_lasts_26 : decode cX11_lasts 26 = .ok (.ifCond .ne 5, 3) := by decide +kernel
theorem dX11_lasts_29 : decode cX11_lasts 29 = .ok (.iload_n 1, 1) := by decide +kernel
theorem dX11_lasts_30 : decode cX11_lasts 30 = .ok (.ireturn, 1) := by decide +kernel
theorem dX11_lasts_31 : decode cX11_lasts 31 = .ok (.aload_n 0, 1) := by decide +kernel
theorem dX11_lasts_32 : decode cX11_lasts 32 = .ok (.getfield 10, 3) := by decide +kernel
theorem dX11_lasts_35 : decode cX11_lasts 35 = .ok (.getfield 149, 3) := by decide +kernel
theorem dX11_lasts_38 : decode cX11_lasts 38 = .ok (.ifCond .ne 5, 3) := by decide +kernel
theorem dX11_lasts_41 : decode cX11_lasts 41 = .ok (.iconst (-1), 1) := by decide +kernel
theorem dX11_lasts_42 : decode cX11_lasts 42 = .ok (.ireturn, 1) := by decide +kernel
theorem dX11_lasts_43 : decode cX11_lasts 43 = .ok (.aload_n 0, 1) := by decide +kernel
theorem dX11_lasts_44 : decode cX11_lasts 44 = .ok (.getfield 52, 3) := by decide +kernel
theorem dX11_lasts_47 : decode cX11_lasts 47 = .ok (.aload_n 0, 1) := by decide +kernel
theorem dX11_lasts_48 : decode cX11_lasts 48 = .ok (.getfield 10, 3) := by decide +kernel
theorem dX11_lasts_51 : decode cX11_lasts 51 = .ok (.invokevirtual 156, 3) := by decide +kernel
theorem dX11_lasts_54 : decode cX11_lasts 54 = .ok (.pop, 1) := by decide +kernel
theorem dX11_lasts_55 : decode cX11_lasts 55 = .ok (.iinc 1 1, 3) := by decide +kernel
theorem dX11_lasts_58 : decode cX11_lasts 58 = .ok (.goto (-45), 3) := by decide +kernel
theorem dX11_lasts_61 : decode cX11_lasts 61 = .ok (.iconst (-1), 1) := by decide +kernel
theorem dX11_lasts_62 : decode cX11_lasts 62 = .ok (.ireturn, 1) := by decide +kernel
theorem dX11_sense_0 : decode cX11_sense 0 = .ok (.aload_n 0, 1) := by decide +kernel
theorem dX11_sense_1 : decode cX11_sense 1 = .ok (.getfield 10, 3) := by decide +kernel
theorem dX11_sense_4 : decode cX11_sense 4 = .ok (.aload_n 0, 1) := by decide +kernel
theorem dX11_sense_5 : decode cX11_sense 5 = .ok (.getfield 48, 3) := by decide +kernel
theorem dX11_sense_8 : decode cX11_sense 8 = .ok (.getfield 129, 3) := by decide +kernel
theorem dX11_sense_11 : decode cX11_sense 11 = .ok (.invokevirtual 212, 3) := by decide +kernel
theorem dX11_sense_14 : decode cX11_sense 14 = .ok (.ireturn, 1) := by decide +kernel
theorem dX11_gone_0 : decode cX11_gone 0 = .ok (.aload_n 0, 1) := by decide +kernel
theorem dX11_gone_1 : decode cX11_gone 1 = .ok (.getfield 10, 3) := by decide +kernel
theorem dX11_gone_4 : decode cX11_gone 4 = .ok (.iload_n 1, 1) := by decide +kernel
theorem dX11_gone_5 : decode cX11_gone 5 = .ok (.invokevirtual 116, 3) := by decide +kernel
theorem dX11_gone_8 : decode cX11_gone 8 = .ok (.ifCond .ne 5, 3) := by decide +kernel
theorem dX11_gone_11 : decode cX11_gone 11 = .ok (.iconst (-1), 1) := by decide +kernel
theorem dX11_gone_12 : decode cX11_gone 12 = .ok (.ireturn, 1) := by decide +kernel
theorem dX11_gone_13 : decode cX11_gone 13 = .ok (.aload_n 0, 1) := by decide +kernel
theorem dX11_gone_14 : decode cX11_gone 14 = .ok (.getfield 48, 3) := by decide +kernel
theorem dX11_gone_17 : decode cX11_gone 17 = .ok (.getfield 129, 3) := by decide +kernel
theorem dX11_gone_20 : decode cX11_gone 20 = .ok (.istore_n 2, 1) := by decide +kernel
theorem dX11_gone_21 : decode cX11_gone 21 = .ok (.aload_n 0, 1) := by decide +kernel
theorem dX11_gone_22 : decode cX11_gone 22 = .ok (.invokevirtual 221, 3) := by decide +kernel
theorem dX11_gone_25 : decode cX11_gone 25 = .ok (.istore_n 3, 1) := by decide +kernel
theorem dX11_gone_26 : decode cX11_gone 26 = .ok (.iload_n 3, 1) := by decide +kernel
theorem dX11_gone_27 : decode cX11_gone 27 = .ok (.aload_n 0, 1) := by decide +kernel
theorem dX11_gone_28 : decode cX11_gone 28 = .ok (.getfield 10, 3) := by decide +kernel
theorem dX11_gone_31 : decode cX11_gone 31 = .ok (.getfield 149, 3) := by decide +kernel
theorem dX11_gone_34 : decode cX11_gone 34 = .ok (.if_icmp .ge 55, 3) := by decide +kernel
theorem dX11_gone_37 : decode cX11_gone 37 = .ok (.aload_n 0, 1) := by decide +kernel
theorem dX11_gone_38 : decode cX11_gone 38 = .ok (.getfield 48, 3) := by decide +kernel
theorem dX11_gone_41 : decode cX11_gone 41 = .ok (.aload_n 0, 1) := by decide +kernel
theorem dX11_gone_42 : decode cX11_gone 42 = .ok (.getfield 10, 3) := by decide +kernel
theorem dX11_gone_45 : decode cX11_gone 45 = .ok (.iload_n 3, 1) := by decide +kernel
theorem dX11_gone_46 : decode cX11_gone 46 = .ok (.invokevirtual 141, 3) := by decide +kernel
theorem dX11_gone_49 : decode cX11_gone 49 = .ok (.istore 4, 2) := by decide +kernel
theorem dX11_gone_51 : decode cX11_gone 51 = .ok (.aload_n 0, 1) := by decide +kernel
theorem dX11_gone_52 : decode cX11_gone 52 = .ok (.getfield 10, 3) := by decide +kernel
theorem dX11_gone_55 : decode cX11_gone 55 = .ok (.iload 4, 2) := by decide +kernel
theorem dX11_gone_57 : decode cX11_gone 57 = .ok (.iload_n 2, 1) := by decide +kernel
theorem dX11_gone_58 : decode cX11_gone 58 = .ok (.invokevirtual 145, 3) := by decide +kernel
theorem dX11_gone_61 : decode cX11_gone 61 = .ok (.istore 5, 2) := by decide +kernel
theorem dX11_gone_63 : decode cX11_gone 63 = .ok (.iload 5, 2) := by decide +kernel
theorem dX11_gone_65 : decode cX11_gone 65 = .ok (.iload_n 1, 1) := by decide +kernel
theorem dX11_gone_66 : decode cX11_gone 66 = .ok (.ishr, 1) := by decide +kernel
theorem dX11_gone_67 : decode cX11_gone 67 = .ok (.iconst 1, 1) := by decide +kernel
theorem dX11_gone_68 : decode cX11_gone 68 = .ok (.iand, 1) := by decide +kernel
theorem dX11_gone_69 : decode cX11_gone 69 = .ok (.iconst 1, 1) := by decide +kernel
theorem dX11_gone_70 : decode cX11_gone 70 = .ok (.if_icmp .ne 6, 3) := by decide +kernel
theorem dX11_gone_73 : decode cX11_gone 73 = .ok (.iload 4, 2) := by decide +kernel
theorem dX11_gone_75 : decode cX11_gone 75 = .ok (.ireturn, 1) := by decide +kernel
theorem dX11_gone_76 : decode cX11_gone 76 = .ok (.iload_n 2, 1) := by decide +kernel
theorem dX11_gone_77 : decode cX11_gone 77 = .ok (.iload 5, 2) := by decide +kernel
theorem dX11_gone_79 : decode cX11_gone 79 = .ok (.iconst (-1), 1) := by decide +kernel
theorem dX11_gone_80 : decode cX11_gone 80 = .ok (.ixor, 1) := by decide +kernel
theorem dX11_gone_81 : decode cX11_gone 81 = .ok (.iand, 1) := by decide +kernel
theorem dX11_gone_82 : decode cX11_gone 82 = .ok (.istore_n 2, 1) := by decide +kernel
theorem dX11_gone_83 : decode cX11_gone 83 = .ok (.iinc 3 1, 3) := by decide +kernel
theorem dX11_gone_86 : decode cX11_gone 86 = .ok (.goto (-60), 3) := by decide +kernel
theorem dX11_gone_89 : decode cX11_gone 89 = .ok (.iconst (-1), 1) := by decide +kernel
theorem dX11_gone_90 : decode cX11_gone 90 = .ok (.ireturn, 1) := by decide +kernel
theorem dX11_saves_0 : decode cX11_saves 0 = .ok (.aload_n 0, 1) := by decide +kernel
theorem dX11_saves_1 : decode cX11_saves 1 = .ok (.iload_n 1, 1) := by decide +kernel
theorem dX11_saves_2 : decode cX11_saves 2 = .ok (.invokevirtual 227, 3) := by decide +kernel
theorem dX11_saves_5 : decode cX11_saves 5 = .ok (.ifCond .ne 13, 3) := by decide +kernel
theorem dX11_saves_8 : decode cX11_saves 8 = .ok (.new 230, 3) := by decide +kernel
theorem dX11_saves_11 : decode cX11_saves 11 = .ok (.dup, 1) := by decide +kernel
theorem dX11_saves_12 : decode cX11_saves 12 = .ok (.ldc 232, 2) := by decide +kernel
theorem dX11_saves_14 : decode cX11_saves 14 = .ok (.invokespecial 234, 3) := by decide +kernel
theorem dX11_saves_17 : decode cX11_saves 17 = .ok (.athrow, 1) := by decide +kernel
theorem dX11_saves_18 : decode cX11_saves 18 = .ok (.aload_n 0, 1) := by decide +kernel
theorem dX11_saves_19 : decode cX11_saves 19 = .ok (.iload_n 1, 1) := by decide +kernel
theorem dX11_saves_20 : decode cX11_saves 20 = .ok (.invokevirtual 237, 3) := by decide +kernel
theorem dX11_saves_23 : decode cX11_saves 23 = .ok (.aload_n 0, 1) := by decide +kernel
theorem dX11_saves_24 : decode cX11_saves 24 = .ok (.iconst (-1), 1) := by decide +kernel
theorem dX11_saves_25 : decode cX11_saves 25 = .ok (.invokevirtual 237, 3) := by decide +kernel
theorem dX11_saves_28 : decode cX11_saves 28 = .ok (.isub, 1) := by decide +kernel
theorem dX11_saves_29 : decode cX11_saves 29 = .ok (.ireturn, 1) := by decide +kernel
theorem dX11_kin_0 : decode cX11_kin 0 = .ok (.aload_n 0, 1) := by decide +kernel
theorem dX11_kin_1 : decode cX11_kin 1 = .ok (.getfield 10, 3) := by decide +kernel
theorem dX11_kin_4 : decode cX11_kin 4 = .ok (.iload_n 1, 1) := by decide +kernel
theorem dX11_kin_5 : decode cX11_kin 5 = .ok (.invokevirtual 116, 3) := by decide +kernel
theorem dX11_kin_8 : decode cX11_kin 8 = .ok (.ifCond .eq 14, 3) := by decide +kernel
theorem dX11_kin_11 : decode cX11_kin 11 = .ok (.aload_n 0, 1) := by decide +kernel
theorem dX11_kin_12 : decode cX11_kin 12 = .ok (.getfield 10, 3) := by decide +kernel
theorem dX11_kin_15 : decode cX11_kin 15 = .ok (.iload_n 1, 1) := by decide +kernel
theorem dX11_kin_16 : decode cX11_kin 16 = .ok (.invokevirtual 240, 3) := by decide +kernel
theorem dX11_kin_19 : decode cX11_kin 19 = .ok (.goto 4, 3) := by decide +kernel
theorem dX11_kin_22 : decode cX11_kin 22 = .ok (.iconst (-1), 1) := by decide +kernel
theorem dX11_kin_23 : decode cX11_kin 23 = .ok (.ireturn, 1) := by decide +kernel
theorem dX11_hoard_0 : decode cX11_hoard 0 = .ok (.iload_n 1, 1) := by decide +kernel
theorem dX11_hoard_1 : decode cX11_hoard 1 = .ok (.ifCond .lt 9, 3) := by decide +kernel
theorem dX11_hoard_4 : decode cX11_hoard 4 = .ok (.iload_n 1, 1) := by decide +kernel
theorem dX11_hoard_5 : decode cX11_hoard 5 = .ok (.bipush 10, 2) := by decide +kernel
theorem dX11_hoard_7 : decode cX11_hoard 7 = .ok (.if_icmp .lt 5, 3) := by decide +kernel
theorem dX11_hoard_10 : decode cX11_hoard 10 = .ok (.iconst (-1), 1) := by decide +kernel
theorem dX11_hoard_11 : decode cX11_hoard 11 = .ok (.ireturn, 1) := by decide +kernel
theorem dX11_hoard_12 : decode cX11_hoard 12 = .ok (.aload_n 0, 1) := by decide +kernel
theorem dX11_hoard_13 : decode cX11_hoard 13 = .ok (.getfield 10, 3) := by decide +kernel
theorem dX11_hoard_16 : decode cX11_hoard 16 = .ok (.iload_n 1, 1) := by decide +kernel
theorem dX11_hoard_17 : decode cX11_hoard 17 = .ok (.invokevirtual 243, 3) := by decide +kernel
theorem dX11_hoard_20 : decode cX11_hoard 20 = .ok (.istore_n 2, 1) := by decide +kernel
theorem dX11_hoard_21 : decode cX11_hoard 21 = .ok (.iconst 0, 1) := by decide +kernel
theorem dX11_hoard_22 : decode cX11_hoard 22 = .ok (.istore_n 3, 1) := by decide +kernel
theorem dX11_hoard_23 : decode cX11_hoard 23 = .ok (.iconst (-1), 1) := by decide +kernel
theorem dX11_hoard_24 : decode cX11_hoard 24 = .ok (.istore 4, 2) := by decide +kernel
theorem dX11_hoard_26 : decode cX11_hoard 26 = .ok (.iconst 0, 1) := by decide +kernel
theorem dX11_hoard_27 : decode cX11_hoard 27 = .ok (.istore 5, 2) := by decide +kernel
theorem dX11_hoard_29 : decode cX11_hoard 29 = .ok (.iload 5, 2) := by decide +kernel
theorem dX11_hoard_31 : decode cX11_hoard 31 = .ok (.aload_n 0, 1) := by decide +kernel
theorem dX11_hoard_32 : decode cX11_hoard 32 = .ok (.getfield 10, 3) := by decide +kernel
theorem dX11_hoard_35 : decode cX11_hoard 35 = .ok (.getfield 149, 3) := by decide +kernel
theorem dX11_hoard_38 : decode cX11_hoard 38 = .ok (.if_icmp .ge 43, 3) := by decide +kernel
theorem dX11_hoard_41 : decode cX11_hoard 41 = .ok (.aload_n 0, 1) := by decide +kernel
theorem dX11_hoard_42 : decode cX11_hoard 42 = .ok (.getfield 10, 3) := by decide +kernel
theorem dX11_hoard_45 : decode cX11_hoard 45 = .ok (.aload_n 0, 1) := by decide +kernel
theorem dX11_hoard_46 : decode cX11_hoard 46 = .ok (.getfield 48, 3) := by decide +kernel
theorem dX11_hoard_49 : decode cX11_hoard 49 = .ok (.getfield 138, 3) := by decide +kernel
theorem dX11_hoard_52 : decode cX11_hoard 52 = .ok (.iload 5, 2) := by decide +kernel
theorem dX11_hoard_54 : decode cX11_hoard 54 = .ok (.iaload, 1) := by decide +kernel
theorem dX11_hoard_55 : decode cX11_hoard 55 = .ok (.iload_n 2, 1) := by decide +kernel
theorem dX11_hoard_56 : decode cX11_hoard 56 = .ok (.iand, 1) := by decide +kernel
theorem dX11_hoard_57 : decode cX11_hoard 57 = .ok (.invokevirtual 159, 3) := by decide +kernel
theorem dX11_hoard_60 : decode cX11_hoard 60 = .ok (.istore 6, 2) := by decide +kernel
theorem dX11_hoard_62 : decode cX11_hoard 62 = .ok (.iload 6, 2) := by decide +kernel
theorem dX11_hoard_64 : decode cX11_hoard 64 = .ok (.iload_n 3, 1) := by decide +kernel
theorem dX11_hoard_65 : decode cX11_hoard 65 = .ok (.if_icmp .le 10, 3) := by decide +kernel
theorem dX11_hoard_68 : decode cX11_hoard 68 = .ok (.iload 6, 2) := by decide +kernel
theorem dX11_hoard_70 : decode cX11_hoard 70 = .ok (.istore_n 3, 1) := by decide +kernel
theorem dX11_hoard_71 : decode cX11_hoard 71 = .ok (.iload 5, 2) := by decide +kernel
theorem dX11_hoard_73 : decode cX11_hoard 73 = .ok (.istore 4, 2) := by decide +kernel
theorem dX11_hoard_75 : decode cX11_hoard 75 = .ok (.iinc 5 1, 3) := by decide +kernel
theorem dX11_hoard_78 : decode cX11_hoard 78 = .ok (.goto (-49), 3) := by decide +kernel
theorem dX11_hoard_81 : decode cX11_hoard 81 = .ok (.iload 4, 2) := by decide +kernel
theorem dX11_hoard_83 : decode cX11_hoard 83 = .ok (.ireturn, 1) := by decide +kernel
theorem dX11_longest_0 : decode cX11_longest 0 = .ok (.iconst 0, 1) := by decide +kernel
theorem dX11_longest_1 : decode cX11_longest 1 = .ok (.istore_n 1, 1) := by decide +kernel
theorem dX11_longest_2 : decode cX11_longest 2 = .ok (.iconst 0, 1) := by decide +kernel
theorem dX11_longest_3 : decode cX11_longest 3 = .ok (.istore_n 2, 1) := by decide +kernel
theorem dX11_longest_4 : decode cX11_longest 4 = .ok (.iload_n 2, 1) := by decide +kernel
theorem dX11_longest_5 : decode cX11_longest 5 = .ok (.aload_n 0, 1) := by decide +kernel
theorem dX11_longest_6 : decode cX11_longest 6 = .ok (.getfield 10, 3) := by decide +kernel
theorem dX11_longest_9 : decode cX11_longest 9 = .ok (.getfield 246, 3) := by decide +kernel
theorem dX11_longest_12 : decode cX11_longest 12 = .ok (.if_icmp .ge 29, 3) := by decide +kernel
theorem dX11_longest_15 : decode cX11_longest 15 = .ok (.iload_n 1, 1) := by decide +kernel
theorem dX11_longest_16 : decode cX11_longest 16 = .ok (.aload_n 0, 1) := by decide +kernel
theorem dX11_longest_17 : decode cX11_longest 17 = .ok (.getfield 10, 3) := by decide +kernel
theorem dX11_longest_20 : decode cX11_longest 20 = .ok (.aload_n 0, 1) := by decide +kernel
theorem dX11_longest_21 : decode cX11_longest 21 = .ok (.getfield 48, 3) := by decide +kernel
theorem dX11_longest_24 : decode cX11_longest 24 = .ok (.getfield 129, 3) := by decide +kernel
theorem dX11_longest_27 : decode cX11_longest 27 = .ok (.iload_n 2, 1) := by decide +kernel
theorem dX11_longest_28 : decode cX11_longest 28 = .ok (.invokevirtual 249, 3) := by decide +kernel
theorem dX11_longest_31 : decode cX11_longest 31 = .ok (.invokestatic 252, 3) := by decide +kernel
theorem dX11_longest_34 : decode cX11_longest 34 = .ok (.istore_n 1, 1) := by decide +kernel
theorem dX11_longest_35 : decode cX11_longest 35 = .ok (.iinc 2 1, 3) := by decide +kernel
theorem dX11_longest_38 : decode cX11_longest 38 = .ok (.goto (-34), 3) := by decide +kernel
theorem dX11_longest_41 : decode cX11_longest 41 = .ok (.iload_n 1, 1) := by decide +kernel
theorem dX11_longest_42 : decode cX11_longest 42 = .ok (.ireturn, 1) := by decide +kernel
theorem dX11_order_0 : decode cX11_order 0 = .ok (.aload_n 0, 1) := by decide +kernel
theorem dX11_order_1 : decode cX11_order 1 = .ok (.getfield 10, 3) := by decide +kernel
theorem dX11_order_4 : decode cX11_order 4 = .ok (.getfield 149, 3) := by decide +kernel
theorem dX11_order_7 : decode cX11_order 7 = .ok (.aload_n 0, 1) := by decide +kernel
theorem dX11_order_8 : decode cX11_order 8 = .ok (.invokevirtual 221, 3) := by decide +kernel
theorem dX11_order_11 : decode cX11_order 11 = .ok (.isub, 1) := by decide +kernel
theorem dX11_order_12 : decode cX11_order 12 = .ok (.istore_n 2, 1) := by decide +kernel
theorem dX11_order_13 : decode cX11_order 13 = .ok (.iload_n 1, 1) := by decide +kernel
theorem dX11_order_14 : decode cX11_order 14 = .ok (.iconst (-1), 1) := by decide +kernel
theorem dX11_order_15 : decode cX11_order 15 = .ok (.if_icmp .lt 8, 3) := by decide +kernel
theorem dX11_order_18 : decode cX11_order 18 = .ok (.iload_n 1, 1) := by decide +kernel
theorem dX11_order_19 : decode cX11_order 19 = .ok (.iload_n 2, 1) := by decide +kernel
theorem dX11_order_20 : decode cX11_order 20 = .ok (.if_icmp .lt 6, 3) := by decide +kernel
theorem dX11_order_23 : decode cX11_order 23 = .ok (.bipush (-2), 2) := by decide +kernel
theorem dX11_order_25 : decode cX11_order 25 = .ok (.ireturn, 1) := by decide +kernel
theorem dX11_order_26 : decode cX11_order 26 = .ok (.aload_n 0, 1) := by decide +kernel
theorem dX11_order_27 : decode cX11_order 27 = .ok (.getfield 79, 3) := by decide +kernel
theorem dX11_order_30 : decode cX11_order 30 = .ok (.aload_n 0, 1) := by decide +kernel
theorem dX11_order_31 : decode cX11_order 31 = .ok (.getfield 10, 3) := by decide +kernel
theorem dX11_order_34 : decode cX11_order 34 = .ok (.aload_n 0, 1) := by decide +kernel
theorem dX11_order_35 : decode cX11_order 35 = .ok (.invokevirtual 257, 3) := by decide +kernel
theorem dX11_order_38 : decode cX11_order 38 = .ok (.aload_n 0, 1) := by decide +kernel
theorem dX11_order_39 : decode cX11_order 39 = .ok (.getfield 48, 3) := by decide +kernel
theorem dX11_order_42 : decode cX11_order 42 = .ok (.getfield 129, 3) := by decide +kernel
theorem dX11_order_45 : decode cX11_order 45 = .ok (.invokevirtual 260, 3) := by decide +kernel
theorem dX11_order_48 : decode cX11_order 48 = .ok (.iload_n 1, 1) := by decide +kernel
theorem dX11_order_49 : decode cX11_order 49 = .ok (.iconst (-1), 1) := by decide +kernel
theorem dX11_order_50 : decode cX11_order 50 = .ok (.if_icmp .ne 13, 3) := by decide +kernel
theorem dX11_order_53 : decode cX11_order 53 = .ok (.aload_n 0, 1) := by decide +kernel
theorem dX11_order_54 : decode cX11_order 54 = .ok (.getfield 79, 3) := by decide +kernel
theorem dX11_order_57 : decode cX11_order 57 = .ok (.getfield 264, 3) := by decide +kernel
theorem dX11_order_60 : decode cX11_order 60 = .ok (.goto 12, 3) := by decide +kernel
theorem dX11_order_63 : decode cX11_order 63 = .ok (.aload_n 0, 1) := by decide +kernel
theorem dX11_order_64 : decode cX11_order 64 = .ok (.getfield 79, 3) := by decide +kernel
theorem dX11_order_67 : decode cX11_order 67 = .ok (.getfield 267, 3) := by decide +kernel
theorem dX11_order_70 : decode cX11_order 70 = .ok (.iload_n 1, 1) := by decide +kernel
theorem dX11_order_71 : decode cX11_order 71 = .ok (.iaload, 1) := by decide +kernel
theorem dX11_order_72 : decode cX11_order 72 = .ok (.ireturn, 1) := by decide +kernel
theorem dX11_ride_0 : decode cX11_ride 0 = .ok (.aload_n 0, 1) := by decide +kernel
theorem dX11_ride_1 : decode cX11_ride 1 = .ok (.invokevirtual 270, 3) := by decide +kernel
theorem dX11_ride_4 : decode cX11_ride 4 = .ok (.aload_n 0, 1) := by decide +kernel
theorem dX11_ride_5 : decode cX11_ride 5 = .ok (.getfield 10, 3) := by decide +kernel
theorem dX11_ride_8 : decode cX11_ride 8 = .ok (.invokevirtual 191, 3) := by decide +kernel
theorem dX11_ride_11 : decode cX11_ride 11 = .ok (.istore_n 1, 1) := by decide +kernel
theorem dX11_ride_12 : decode cX11_ride 12 = .ok (.iconst (-1), 1) := by decide +kernel
theorem dX11_ride_13 : decode cX11_ride 13 = .ok (.istore_n 2, 1) := by decide +kernel
theorem dX11_ride_14 : decode cX11_ride 14 = .ok (.iconst 0, 1) := by decide +kernel
theorem dX11_ride_15 : decode cX11_ride 15 = .ok (.istore_n 3, 1) := by decide +kernel
theorem dX11_ride_16 : decode cX11_ride 16 = .ok (.iload_n 3, 1) := by decide +kernel
theorem dX11_ride_17 : decode cX11_ride 17 = .ok (.iconst 1, 1) := by decide +kernel
theorem dX11_ride_18 : decode cX11_ride 18 = .ok (.aload_n 0, 1) := by decide +kernel
theorem dX11_ride_19 : decode cX11_ride 19 = .ok (.getfield 10, 3) := by decide +kernel
theorem dX11_ride_22 : decode cX11_ride 22 = .ok (.getfield 149, 3) := by decide +kernel
theorem dX11_ride_25 : decode cX11_ride 25 = .ok (.ishl, 1) := by decide +kernel
theorem dX11_ride_26 : decode cX11_ride 26 = .ok (.if_icmp .ge 48, 3) := by decide +kernel
theorem dX11_ride_29 : decode cX11_ride 29 = .ok (.iload_n 2, 1) := by decide +kernel
theorem dX11_ride_30 : decode cX11_ride 30 = .ok (.iconst (-1), 1) := by decide +kernel
theorem dX11_ride_31 : decode cX11_ride 31 = .ok (.if_icmp .eq 14, 3) := by decide +kernel
theorem dX11_ride_34 : decode cX11_ride 34 = .ok (.iload_n 3, 1) := by decide +kernel
theorem dX11_ride_35 : decode cX11_ride 35 = .ok (.invokestatic 171, 3) := by decide +kernel
theorem dX11_ride_38 : decode cX11_ride 38 = .ok (.iload_n 2, 1) := by decide +kernel
theorem dX11_ride_39 : decode cX11_ride 39 = .ok (.invokestatic 171, 3) := by decide +kernel
theorem dX11_ride_42 : decode cX11_ride 42 = .ok (.if_icmp .ge 7, 3) := by decide +kernel
theorem dX11_ride_45 : decode cX11_ride 45 = .ok (.iconst 1, 1) := by decide +kernel
theorem dX11_ride_46 : decode cX11_ride 46 = .ok (.goto 4, 3) := by decide +kernel
theorem dX11_ride_49 : decode cX11_ride 49 = .ok (.iconst 0, 1) := by decide +kernel
theorem dX11_ride_50 : decode cX11_ride 50 = .ok (.istore 4, 2) := by decide +kernel
theorem dX11_ride_52 : decode cX11_ride 52 = .ok (.iload 4, 2) := by decide +kernel
theorem dX11_ride_54 : decode cX11_ride 54 = .ok (.ifCond .eq 14, 3) := by decide +kernel
theorem dX11_ride_57 : decode cX11_ride 57 = .ok (.aload_n 0, 1) := by decide +kernel
theorem dX11_ride_58 : decode cX11_ride 58 = .ok (.iload_n 3, 1) := by decide +kernel
theorem dX11_ride_59 : decode cX11_ride 59 = .ok (.invokevirtual 273, 3) := by decide +kernel
theorem dX11_ride_62 : decode cX11_ride 62 = .ok (.iload_n 1, 1) := by decide +kernel
theorem dX11_ride_63 : decode cX11_ride 63 = .ok (.if_icmp .ne 5, 3) := by decide +kernel
theorem dX11_ride_66 : decode cX11_ride 66 = .ok (.iload_n 3, 1) := by decide +kernel
theorem dX11_ride_67 : decode cX11_ride 67 = .ok (.istore_n 2, 1) := by decide +kernel
theorem dX11_ride_68 : decode cX11_ride 68 = .ok (.iinc 3 1, 3) := by decide +kernel
theorem dX11_ride_71 : decode cX11_ride 71 = .ok (.goto (-55), 3) := by decide +kernel
theorem dX11_ride_74 : decode cX11_ride 74 = .ok (.iload_n 2, 1) := by decide +kernel
theorem dX11_ride_75 : decode cX11_ride 75 = .ok (.ireturn, 1) := by decide +kernel
theorem dX11_other_0 : decode cX11_other 0 = .ok (.iload_n 1, 1) := by decide +kernel
theorem dX11_other_1 : decode cX11_other 1 = .ok (.ifCond .eq 10, 3) := by decide +kernel
theorem dX11_other_4 : decode cX11_other 4 = .ok (.iload_n 1, 1) := by decide +kernel
theorem dX11_other_5 : decode cX11_other 5 = .ok (.iconst 1, 1) := by decide +kernel
theorem dX11_other_6 : decode cX11_other 6 = .ok (.if_icmp .eq 5, 3) := by decide +kernel
theorem dX11_other_9 : decode cX11_other 9 = .ok (.iconst (-1), 1) := by decide +kernel
theorem dX11_other_10 : decode cX11_other 10 = .ok (.ireturn, 1) := by decide +kernel
theorem dX11_other_11 : decode cX11_other 11 = .ok (.aload_n 0, 1) := by decide +kernel
theorem dX11_other_12 : decode cX11_other 12 = .ok (.getfield 48, 3) := by decide +kernel
theorem dX11_other_15 : decode cX11_other 15 = .ok (.invokevirtual 276, 3) := by decide +kernel
theorem dX11_other_18 : decode cX11_other 18 = .ok (.istore_n 2, 1) := by decide +kernel
theorem dX11_other_19 : decode cX11_other 19 = .ok (.iconst 0, 1) := by decide +kernel
theorem dX11_other_20 : decode cX11_other 20 = .ok (.istore_n 3, 1) := by decide +kernel
theorem dX11_other_21 : decode cX11_other 21 = .ok (.iconst 0, 1) := by decide +kernel
theorem dX11_other_22 : decode cX11_other 22 = .ok (.istore 4, 2) := by decide +kernel
theorem dX11_other_24 : decode cX11_other 24 = .ok (.iload 4, 2) := by decide +kernel
theorem dX11_other_26 : decode cX11_other 26 = .ok (.iload_n 2, 1) := by decide +kernel
theorem dX11_other_27 : decode cX11_other 27 = .ok (.if_icmp .gt 46, 3) := by decide +kernel
theorem dX11_other_30 : decode cX11_other 30 = .ok (.iload 4, 2) := by decide +kernel
theorem dX11_other_32 : decode cX11_other 32 = .ok (.iload_n 2, 1) := by decide +kernel
theorem dX11_other_33 : decode cX11_other 33 = .ok (.iconst (-1), 1) := by decide +kernel
theorem dX11_other_34 : decode cX11_other 34 = .ok (.ixor, 1) := by decide +kernel
theorem dX11_other_35 : decode cX11_other 35 = .ok (.iand, 1) := by decide +kernel
theorem dX11_other_36 : decode cX11_other 36 = .ok (.ifCond .ne 31, 3) := by decide +kernel
theorem dX11_other_39 : decode cX11_other 39 = .ok (.aload_n 0, 1) := by decide +kernel
theorem dX11_other_40 : decode cX11_other 40 = .ok (.getfield 10, 3) := by decide +kernel
theorem dX11_other_43 : decode cX11_other 43 = .ok (.iload 4, 2) := by decide +kernel
theorem dX11_other_45 : decode cX11_other 45 = .ok (.invokevirtual 212, 3) := by decide +kernel
theorem dX11_other_48 : decode cX11_other 48 = .ok (.ifCond .eq 19, 3) := by decide +kernel
theorem dX11_other_51 : decode cX11_other 51 = .ok (.aload_n 0, 1) := by decide +kernel
theorem dX11_other_52 : decode cX11_other 52 = .ok (.getfield 10, 3) := by decide +kernel
theorem dX11_other_55 : decode cX11_other 55 = .ok (.iload 4, 2) := by decide +kernel
theorem dX11_other_57 : decode cX11_other 57 = .ok (.iload_n 3, 1) := by decide +kernel
theorem dX11_other_58 : decode cX11_other 58 = .ok (.invokevirtual 279, 3) := by decide +kernel
theorem dX11_other_61 : decode cX11_other 61 = .ok (.ifCond .eq 6, 3) := by decide +kernel
theorem dX11_other_64 : decode cX11_other 64 = .ok (.iload 4, 2) := by decide +kernel
theorem dX11_other_66 : decode cX11_other 66 = .ok (.istore_n 3, 1) := by decide +kernel
theorem dX11_other_67 : decode cX11_other 67 = .ok (.iinc 4 1, 3) := by decide +kernel
theorem dX11_other_70 : decode cX11_other 70 = .ok (.goto (-46), 3) := by decide +kernel
theorem dX11_other_73 : decode cX11_other 73 = .ok (.iload_n 1, 1) := by decide +kernel
theorem dX11_other_74 : decode cX11_other 74 = .ok (.ifCond .ne 14, 3) := by decide +kernel
theorem dX11_other_77 : decode cX11_other 77 = .ok (.aload_n 0, 1) := by decide +kernel
theorem dX11_other_78 : decode cX11_other 78 = .ok (.getfield 10, 3) := by decide +kernel
theorem dX11_other_81 : decode cX11_other 81 = .ok (.iload_n 3, 1) := by decide +kernel
theorem dX11_other_82 : decode cX11_other 82 = .ok (.invokevirtual 159, 3) := by decide +kernel
theorem dX11_other_85 : decode cX11_other 85 = .ok (.goto 4, 3) := by decide +kernel
theorem dX11_other_88 : decode cX11_other 88 = .ok (.iload_n 3, 1) := by decide +kernel
theorem dX11_other_89 : decode cX11_other 89 = .ok (.ireturn, 1) := by decide +kernel
theorem dX11_mends_0 : decode cX11_mends 0 = .ok (.aload_n 0, 1) := by decide +kernel
theorem dX11_mends_1 : decode cX11_mends 1 = .ok (.getfield 48, 3) := by decide +kernel
theorem dX11_mends_4 : decode cX11_mends 4 = .ok (.invokevirtual 276, 3) := by decide +kernel
theorem dX11_mends_7 : decode cX11_mends 7 = .ok (.istore_n 1, 1) := by decide +kernel
theorem dX11_mends_8 : decode cX11_mends 8 = .ok (.iconst (-1), 1) := by decide +kernel
theorem dX11_mends_9 : decode cX11_mends 9 = .ok (.istore_n 2, 1) := by decide +kernel
theorem dX11_mends_10 : decode cX11_mends 10 = .ok (.iconst 0, 1) := by decide +kernel
theorem dX11_mends_11 : decode cX11_mends 11 = .ok (.istore_n 3, 1) := by decide +kernel
theorem dX11_mends_12 : decode cX11_mends 12 = .ok (.iload_n 3, 1) := by decide +kernel
theorem dX11_mends_13 : decode cX11_mends 13 = .ok (.iload_n 1, 1) := by decide +kernel
theorem dX11_mends_14 : decode cX11_mends 14 = .ok (.if_icmp .gt 66, 3) := by decide +kernel
theorem dX11_mends_17 : decode cX11_mends 17 = .ok (.iload_n 2, 1) := by decide +kernel
theorem dX11_mends_18 : decode cX11_mends 18 = .ok (.iconst (-1), 1) := by decide +kernel
theorem dX11_mends_19 : decode cX11_mends 19 = .ok (.if_icmp .eq 14, 3) := by decide +kernel
theorem dX11_mends_22 : decode cX11_mends 22 = .ok (.iload_n 3, 1) := by decide +kernel
theorem dX11_mends_23 : decode cX11_mends 23 = .ok (.invokestatic 171, 3) := by decide +kernel
theorem dX11_mends_26 : decode cX11_mends 26 = .ok (.iload_n 2, 1) := by decide +kernel
theorem dX11_mends_27 : decode cX11_mends 27 = .ok (.invokestatic 171, 3) := by decide +kernel
theorem dX11_mends_30 : decode cX11_mends 30 = .ok (.if_icmp .ge 7, 3) := by decide +kernel
theorem dX11_mends_33 : decode cX11_mends 33 = .ok (.iconst 1, 1) := by decide +kernel
theorem dX11_mends_34 : decode cX11_mends 34 = .ok (.goto 4, 3) := by decide +kernel
theorem dX11_mends_37 : decode cX11_mends 37 = .ok (.iconst 0, 1) := by decide +kernel
theorem dX11_mends_38 : decode cX11_mends 38 = .ok (.istore 4, 2) := by decide +kernel
theorem dX11_mends_40 : decode cX11_mends 40 = .ok (.iload 4, 2) := by decide +kernel
theorem dX11_mends_42 : decode cX11_mends 42 = .ok (.ifCond .eq 32, 3) := by decide +kernel
theorem dX11_mends_45 : decode cX11_mends 45 = .ok (.iload_n 3, 1) := by decide +kernel
theorem dX11_mends_46 : decode cX11_mends 46 = .ok (.iload_n 1, 1) := by decide +kernel
theorem dX11_mends_47 : decode cX11_mends 47 = .ok (.iconst (-1), 1) := by decide +kernel
theorem dX11_mends_48 : decode cX11_mends 48 = .ok (.ixor, 1) := by decide +kernel
theorem dX11_mends_49 : decode cX11_mends 49 = .ok (.iand, 1) := by decide +kernel
theorem dX11_mends_50 : decode cX11_mends 50 = .ok (.ifCond .ne 24, 3) := by decide +kernel
theorem dX11_mends_53 : decode cX11_mends 53 = .ok (.aload_n 0, 1) := by decide +kernel
theorem dX11_mends_54 : decode cX11_mends 54 = .ok (.getfield 10, 3) := by decide +kernel
theorem dX11_mends_57 : decode cX11_mends 57 = .ok (.aload_n 0, 1) := by decide +kernel
theorem dX11_mends_58 : decode cX11_mends 58 = .ok (.getfield 48, 3) := by decide +kernel
theorem dX11_mends_61 : decode cX11_mends 61 = .ok (.getfield 129, 3) := by decide +kernel
theorem dX11_mends_64 : decode cX11_mends 64 = .ok (.iload_n 3, 1) := by decide +kernel
theorem dX11_mends_65 : decode cX11_mends 65 = .ok (.ior, 1) := by decide +kernel
theorem dX11_mends_66 : decode cX11_mends 66 = .ok (.invokevirtual 212, 3) := by decide +kernel
theorem dX11_mends_69 : decode cX11_mends 69 = .ok (.ifCond .eq 5, 3) := by decide +kernel
theorem dX11_mends_72 : decode cX11_mends 72 = .ok (.iload_n 3, 1) := by decide +kernel
theorem dX11_mends_73 : decode cX11_mends 73 = .ok (.istore_n 2, 1) := by decide +kernel
theorem dX11_mends_74 : decode cX11_mends 74 = .ok (.iinc 3 1, 3) := by decide +kernel
theorem dX11_mends_77 : decode cX11_mends 77 = .ok (.goto (-65), 3) := by decide +kernel
theorem dX11_mends_80 : decode cX11_mends 80 = .ok (.iload_n 2, 1) := by decide +kernel
theorem dX11_mends_81 : decode cX11_mends 81 = .ok (.ireturn, 1) := by decide +kernel
theorem dX11_where_0 : decode cX11_where 0 = .ok (.aload_n 0, 1) := by decide +kernel
theorem dX11_where_1 : decode cX11_where 1 = .ok (.getfield 10, 3) := by decide +kernel
theorem dX11_where_4 : decode cX11_where 4 = .ok (.iload_n 1, 1) := by decide +kernel
theorem dX11_where_5 : decode cX11_where 5 = .ok (.invokevirtual 116, 3) := by decide +kernel
theorem dX11_where_8 : decode cX11_where 8 = .ok (.ifCond .eq 14, 3) := by decide +kernel
theorem dX11_where_11 : decode cX11_where 11 = .ok (.aload_n 0, 1) := by decide +kernel
theorem dX11_where_12 : decode cX11_where 12 = .ok (.getfield 48, 3) := by decide +kernel
theorem dX11_where_15 : decode cX11_where 15 = .ok (.iload_n 1, 1) := by decide +kernel
theorem dX11_where_16 : decode cX11_where 16 = .ok (.invokevirtual 282, 3) := by decide +kernel
theorem dX11_where_19 : decode cX11_where 19 = .ok (.goto 4, 3) := by decide +kernel
theorem dX11_where_22 : decode cX11_where 22 = .ok (.iconst (-1), 1) := by decide +kernel
theorem dX11_where_23 : decode cX11_where 23 = .ok (.ireturn, 1) := by decide +kernel
theorem dX11_taste_0 : decode cX11_taste 0 = .ok (.aload_n 0, 1) := by decide +kernel
theorem dX11_taste_1 : decode cX11_taste 1 = .ok (.getfield 10, 3) := by decide +kernel
theorem dX11_taste_4 : decode cX11_taste 4 = .ok (.iload_n 1, 1) := by decide +kernel
theorem dX11_taste_5 : decode cX11_taste 5 = .ok (.invokevirtual 132, 3) := by decide +kernel
theorem dX11_taste_8 : decode cX11_taste 8 = .ok (.ifCond .eq 19, 3) := by decide +kernel
theorem dX11_taste_11 : decode cX11_taste 11 = .ok (.aload_n 0, 1) := by decide +kernel
theorem dX11_taste_12 : decode cX11_taste 12 = .ok (.getfield 10, 3) := by decide +kernel
theorem dX11_taste_15 : decode cX11_taste 15 = .ok (.iload_n 2, 1) := by decide +kernel
theorem dX11_taste_16 : decode cX11_taste 16 = .ok (.invokevirtual 132, 3) := by decide +kernel
theorem dX11_taste_19 : decode cX11_taste 19 = .ok (.ifCond .eq 8, 3) := by decide +kernel
theorem dX11_taste_22 : decode cX11_taste 22 = .ok (.iload_n 1, 1) := by decide +kernel
theorem dX11_taste_23 : decode cX11_taste 23 = .ok (.iload_n 2, 1) := by decide +kernel
theorem dX11_taste_24 : decode cX11_taste 24 = .ok (.if_icmp .ne 5, 3) := by decide +kernel
theorem dX11_taste_27 : decode cX11_taste 27 = .ok (.iconst (-1), 1) := by decide +kernel
theorem dX11_taste_28 : decode cX11_taste 28 = .ok (.ireturn, 1) := by decide +kernel
theorem dX11_taste_29 : decode cX11_taste 29 = .ok (.iconst 0, 1) := by decide +kernel
theorem dX11_taste_30 : decode cX11_taste 30 = .ok (.istore_n 3, 1) := by decide +kernel
theorem dX11_taste_31 : decode cX11_taste 31 = .ok (.iconst 0, 1) := by decide +kernel
theorem dX11_taste_32 : decode cX11_taste 32 = .ok (.istore 4, 2) := by decide +kernel
theorem dX11_taste_34 : decode cX11_taste 34 = .ok (.iload 4, 2) := by decide +kernel
theorem dX11_taste_36 : decode cX11_taste 36 = .ok (.aload_n 0, 1) := by decide +kernel
theorem dX11_taste_37 : decode cX11_taste 37 = .ok (.getfield 10, 3) := by decide +kernel
theorem dX11_taste_40 : decode cX11_taste 40 = .ok (.getfield 246, 3) := by decide +kernel
theorem dX11_taste_43 : decode cX11_taste 43 = .ok (.if_icmp .ge 39, 3) := by decide +kernel
theorem dX11_taste_46 : decode cX11_taste 46 = .ok (.aload_n 0, 1) := by decide +kernel
theorem dX11_taste_47 : decode cX11_taste 47 = .ok (.getfield 10, 3) := by decide +kernel
theorem dX11_taste_50 : decode cX11_taste 50 = .ok (.iload_n 1, 1) := by decide +kernel
theorem dX11_taste_51 : decode cX11_taste 51 = .ok (.iconst 1, 1) := by decide +kernel
theorem dX11_taste_52 : decode cX11_taste 52 = .ok (.iload 4, 2) := by decide +kernel
theorem dX11_taste_54 : decode cX11_taste 54 = .ok (.ishl, 1) := by decide +kernel
theorem dX11_taste_55 : decode cX11_taste 55 = .ok (.invokevirtual 285, 3) := by decide +kernel
theorem dX11_taste_58 : decode cX11_taste 58 = .ok (.aload_n 0, 1) := by decide +kernel
theorem dX11_taste_59 : decode cX11_taste 59 = .ok (.getfield 10, 3) := by decide +kernel
theorem dX11_taste_62 : decode cX11_taste 62 = .ok (.iload_n 2, 1) := by decide +kernel
theorem dX11_taste_63 : decode cX11_taste 63 = .ok (.iconst 1, 1) := by decide +kernel
theorem dX11_taste_64 : decode cX11_taste 64 = .ok (.iload 4, 2) := by decide +kernel
theorem dX11_taste_66 : decode cX11_taste 66 = .ok (.ishl, 1) := by decide +kernel
theorem dX11_taste_67 : decode cX11_taste 67 = .ok (.invokevirtual 285, 3) := by decide +kernel
theorem dX11_taste_70 : decode cX11_taste 70 = .ok (.if_icmp .ne 6, 3) := by decide +kernel
theorem dX11_taste_73 : decode cX11_taste 73 = .ok (.iinc 3 1, 3) := by decide +kernel
theorem dX11_taste_76 : decode cX11_taste 76 = .ok (.iinc 4 1, 3) := by decide +kernel
theorem dX11_taste_79 : decode cX11_taste 79 = .ok (.goto (-45), 3) := by decide +kernel
theorem dX11_taste_82 : decode cX11_taste 82 = .ok (.iload_n 3, 1) := by decide +kernel
theorem dX11_taste_83 : decode cX11_taste 83 = .ok (.ireturn, 1) := by decide +kernel
theorem dX11_mild_0 : decode cX11_mild 0 = .ok (.iconst 0, 1) := by decide +kernel
theorem dX11_mild_1 : decode cX11_mild 1 = .ok (.istore_n 1, 1) := by decide +kernel
theorem dX11_mild_2 : decode cX11_mild 2 = .ok (.iconst (-1), 1) := by decide +kernel
theorem dX11_mild_3 : decode cX11_mild 3 = .ok (.istore_n 2, 1) := by decide +kernel
theorem dX11_mild_4 : decode cX11_mild 4 = .ok (.iconst 0, 1) := by decide +kernel
theorem dX11_mild_5 : decode cX11_mild 5 = .ok (.istore_n 3, 1) := by decide +kernel
theorem dX11_mild_6 : decode cX11_mild 6 = .ok (.iload_n 3, 1) := by decide +kernel
theorem dX11_mild_7 : decode cX11_mild 7 = .ok (.aload_n 0, 1) := by decide +kernel
theorem dX11_mild_8 : decode cX11_mild 8 = .ok (.getfield 10, 3) := by decide +kernel
theorem dX11_mild_11 : decode cX11_mild 11 = .ok (.getfield 149, 3) := by decide +kernel
theorem dX11_mild_14 : decode cX11_mild 14 = .ok (.if_icmp .ge 49, 3) := by decide +kernel
theorem dX11_mild_17 : decode cX11_mild 17 = .ok (.aload_n 0, 1) := by decide +kernel
theorem dX11_mild_18 : decode cX11_mild 18 = .ok (.getfield 10, 3) := by decide +kernel
theorem dX11_mild_21 : decode cX11_mild 21 = .ok (.aload_n 0, 1) := by decide +kernel
theorem dX11_mild_22 : decode cX11_mild 22 = .ok (.getfield 10, 3) := by decide +kernel
theorem dX11_mild_25 : decode cX11_mild 25 = .ok (.iload_n 3, 1) := by decide +kernel
theorem dX11_mild_26 : decode cX11_mild 26 = .ok (.aload_n 0, 1) := by decide +kernel
theorem dX11_mild_27 : decode cX11_mild 27 = .ok (.getfield 10, 3) := by decide +kernel
theorem dX11_mild_30 : decode cX11_mild 30 = .ok (.invokevirtual 191, 3) := by decide +kernel
theorem dX11_mild_33 : decode cX11_mild 33 = .ok (.invokevirtual 145, 3) := by decide +kernel
theorem dX11_mild_36 : decode cX11_mild 36 = .ok (.invokevirtual 159, 3) := by decide +kernel
theorem dX11_mild_39 : decode cX11_mild 39 = .ok (.istore 4, 2) := by decide +kernel
theorem dX11_mild_41 : decode cX11_mild 41 = .ok (.iload_n 2, 1) := by decide +kernel
theorem dX11_mild_42 : decode cX11_mild 42 = .ok (.iconst (-1), 1) := by decide +kernel
theorem dX11_mild_43 : decode cX11_mild 43 = .ok (.if_icmp .eq 9, 3) := by decide +kernel
theorem dX11_mild_46 : decode cX11_mild 46 = .ok (.iload 4, 2) := by decide +kernel
theorem dX11_mild_48 : decode cX11_mild 48 = .ok (.iload_n 1, 1) := by decide +kernel
theorem dX11_mild_49 : decode cX11_mild 49 = .ok (.if_icmp .ge 8, 3) := by decide +kernel
theorem dX11_mild_52 : decode cX11_mild 52 = .ok (.iload 4, 2) := by decide +kernel
theorem dX11_mild_54 : decode cX11_mild 54 = .ok (.istore_n 1, 1) := by decide +kernel
theorem dX11_mild_55 : decode cX11_mild 55 = .ok (.iload_n 3, 1) := by decide +kernel
theorem dX11_mild_56 : decode cX11_mild 56 = .ok (.istore_n 2, 1) := by decide +kernel
theorem dX11_mild_57 : decode cX11_mild 57 = .ok (.iinc 3 1, 3) := by decide +kernel
theorem dX11_mild_60 : decode cX11_mild 60 = .ok (.goto (-54), 3) := by decide +kernel
theorem dX11_mild_63 : decode cX11_mild 63 = .ok (.iload_n 2, 1) := by decide +kernel
theorem dX11_mild_64 : decode cX11_mild 64 = .ok (.ireturn, 1) := by decide +kernel
theorem dX11_see_0 : decode cX11_see 0 = .ok (.aload_n 0, 1) := by decide +kernel
theorem dX11_see_1 : decode cX11_see 1 = .ok (.getfield 10, 3) := by decide +kernel
theorem dX11_see_4 : decode cX11_see 4 = .ok (.iload_n 1, 1) := by decide +kernel
theorem dX11_see_5 : decode cX11_see 5 = .ok (.invokevirtual 116, 3) := by decide +kernel
theorem dX11_see_8 : decode cX11_see 8 = .ok (.ifCond .eq 19, 3) := by decide +kernel
theorem dX11_see_11 : decode cX11_see 11 = .ok (.aload_n 0, 1) := by decide +kernel
theorem dX11_see_12 : decode cX11_see 12 = .ok (.getfield 65, 3) := by decide +kernel
theorem dX11_see_15 : decode cX11_see 15 = .ok (.iload_n 1, 1) := by decide +kernel
theorem dX11_see_16 : decode cX11_see 16 = .ok (.iload_n 2, 1) := by decide +kernel
theorem dX11_see_17 : decode cX11_see 17 = .ok (.invokevirtual 288, 3) := by decide +kernel
theorem dX11_see_20 : decode cX11_see 20 = .ok (.ifCond .eq 7, 3) := by decide +kernel
theorem dX11_see_23 : decode cX11_see 23 = .ok (.iconst 1, 1) := by decide +kernel
theorem dX11_see_24 : decode cX11_see 24 = .ok (.goto 4, 3) := by decide +kernel
theorem dX11_see_27 : decode cX11_see 27 = .ok (.iconst 0, 1) := by decide +kernel
theorem dX11_see_28 : decode cX11_see 28 = .ok (.ireturn, 1) := by decide +kernel
theorem dX11_halls_0 : decode cX11_halls 0 = .ok (.aload_n 0, 1) := by decide +kernel
theorem dX11_halls_1 : decode cX11_halls 1 = .ok (.invokevirtual 270, 3) := by decide +kernel
theorem dX11_halls_4 : decode cX11_halls 4 = .ok (.iconst 0, 1) := by decide +kernel
theorem dX11_halls_5 : decode cX11_halls 5 = .ok (.istore_n 1, 1) := by decide +kernel
theorem dX11_halls_6 : decode cX11_halls 6 = .ok (.iconst 0, 1) := by decide +kernel
theorem dX11_halls_7 : decode cX11_halls 7 = .ok (.istore_n 2, 1) := by decide +kernel
theorem dX11_halls_8 : decode cX11_halls 8 = .ok (.iload_n 2, 1) := by decide +kernel
theorem dX11_halls_9 : decode cX11_halls 9 = .ok (.aload_n 0, 1) := by decide +kernel
theorem dX11_halls_10 : decode cX11_halls 10 = .ok (.getfield 10, 3) := by decide +kernel
theorem dX11_halls_13 : decode cX11_halls 13 = .ok (.getfield 149, 3) := by decide +kernel
theorem dX11_halls_16 : decode cX11_halls 16 = .ok (.if_icmp .ge 31, 3) := by decide +kernel
theorem dX11_halls_19 : decode cX11_halls 19 = .ok (.aload_n 0, 1) := by decide +kernel
theorem dX11_halls_20 : decode cX11_halls 20 = .ok (.getfield 65, 3) := by decide +kernel
theorem dX11_halls_23 : decode cX11_halls 23 = .ok (.aload_n 0, 1) := by decide +kernel
theorem dX11_halls_24 : decode cX11_halls 24 = .ok (.getfield 90, 3) := by decide +kernel
theorem dX11_halls_27 : decode cX11_halls 27 = .ok (.iload_n 2, 1) := by decide +kernel
theorem dX11_halls_28 : decode cX11_halls 28 = .ok (.iaload, 1) := by decide +kernel
theorem dX11_halls_29 : decode cX11_halls 29 = .ok (.invokevirtual 292, 3) := by decide +kernel
theorem dX11_halls_32 : decode cX11_halls 32 = .ok (.ifCond .eq 9, 3) := by decide +kernel
theorem dX11_halls_35 : decode cX11_halls 35 = .ok (.iload_n 1, 1) := by decide +kernel
theorem dX11_halls_36 : decode cX11_halls 36 = .ok (.iconst 1, 1) := by decide +kernel
theorem dX11_halls_37 : decode cX11_halls 37 = .ok (.iload_n 2, 1) := by decide +kernel
theorem dX11_halls_38 : decode cX11_halls 38 = .ok (.ishl, 1) := by decide +kernel
theorem dX11_halls_39 : decode cX11_halls 39 = .ok (.ior, 1) := by decide +kernel
theorem dX11_halls_40 : decode cX11_halls 40 = .ok (.istore_n 1, 1) := by decide +kernel
theorem dX11_halls_41 : decode cX11_halls 41 = .ok (.iinc 2 1, 3) := by decide +kernel
theorem dX11_halls_44 : decode cX11_halls 44 = .ok (.goto (-36), 3) := by decide +kernel
theorem dX11_halls_47 : decode cX11_halls 47 = .ok (.iload_n 1, 1) := by decide +kernel
theorem dX11_halls_48 : decode cX11_halls 48 = .ok (.ireturn, 1) := by decide +kernel
theorem dX11_ask_0 : decode cX11_ask 0 = .ok (.aload_n 0, 1) := by decide +kernel
theorem dX11_ask_1 : decode cX11_ask 1 = .ok (.invokevirtual 295, 3) := by decide +kernel
theorem dX11_ask_4 : decode cX11_ask 4 = .ok (.istore_n 1, 1) := by decide +kernel
theorem dX11_ask_5 : decode cX11_ask 5 = .ok (.iload_n 1, 1) := by decide +kernel
theorem dX11_ask_6 : decode cX11_ask 6 = .ok (.invokestatic 171, 3) := by decide +kernel
theorem dX11_ask_9 : decode cX11_ask 9 = .ok (.istore_n 2, 1) := by decide +kernel
theorem dX11_ask_10 : decode cX11_ask 10 = .ok (.iconst (-1), 1) := by decide +kernel
theorem dX11_ask_11 : decode cX11_ask 11 = .ok (.istore_n 3, 1) := by decide +kernel
theorem dX11_ask_12 : decode cX11_ask 12 = .ok (.iconst 0, 1) := by decide +kernel
theorem dX11_ask_13 : decode cX11_ask 13 = .ok (.istore 4, 2) := by decide +kernel
theorem dX11_ask_15 : decode cX11_ask 15 = .ok (.iload 4, 2) := by decide +kernel
theorem dX11_ask_17 : decode cX11_ask 17 = .ok (.aload_n 0, 1) := by decide +kernel
theorem dX11_ask_18 : decode cX11_ask 18 = .ok (.getfield 10, 3) := by decide +kernel
theorem dX11_ask_21 : decode cX11_ask 21 = .ok (.getfield 246, 3) := by decide +kernel
theorem dX11_ask_24 : decode cX11_ask 24 = .ok (.if_icmp .ge 30, 3) := by decide +kernel
theorem dX11_ask_27 : decode cX11_ask 27 = .ok (.aload_n 0, 1) := by decide +kernel
theorem dX11_ask_28 : decode cX11_ask 28 = .ok (.iload_n 1, 1) := by decide +kernel
theorem dX11_ask_29 : decode cX11_ask 29 = .ok (.iload 4, 2) := by decide +kernel
theorem dX11_ask_31 : decode cX11_ask 31 = .ok (.invokevirtual 298, 3) := by decide +kernel
theorem dX11_ask_34 : decode cX11_ask 34 = .ok (.istore 5, 2) := by decide +kernel
theorem dX11_ask_36 : decode cX11_ask 36 = .ok (.iload 5, 2) := by decide +kernel
theorem dX11_ask_38 : decode cX11_ask 38 = .ok (.iload_n 2, 1) := by decide +kernel
theorem dX11_ask_39 : decode cX11_ask 39 = .ok (.if_icmp .ge 9, 3) := by decide +kernel
theorem dX11_ask_42 : decode cX11_ask 42 = .ok (.iload 5, 2) := by decide +kernel
theorem dX11_ask_44 : decode cX11_ask 44 = .ok (.istore_n 2, 1) := by decide +kernel
theorem dX11_ask_45 : decode cX11_ask 45 = .ok (.iload 4, 2) := by decide +kernel
theorem dX11_ask_47 : decode cX11_ask 47 = .ok (.istore_n 3, 1) := by decide +kernel
theorem dX11_ask_48 : decode cX11_ask 48 = .ok (.iinc 4 1, 3) := by decide +kernel
theorem dX11_ask_51 : decode cX11_ask 51 = .ok (.goto (-36), 3) := by decide +kernel
theorem dX11_ask_54 : decode cX11_ask 54 = .ok (.iload_n 3, 1) := by decide +kernel
theorem dX11_ask_55 : decode cX11_ask 55 = .ok (.ireturn, 1) := by decide +kernel
theorem dX11_rests_0 : decode cX11_rests 0 = .ok (.iload_n 1, 1) := by decide +kernel
theorem dX11_rests_1 : decode cX11_rests 1 = .ok (.invokestatic 301, 3) := by decide +kernel
theorem dX11_rests_4 : decode cX11_rests 4 = .ok (.ifCond .eq 23, 3) := by decide +kernel
theorem dX11_rests_7 : decode cX11_rests 7 = .ok (.iload_n 2, 1) := by decide +kernel
theorem dX11_rests_8 : decode cX11_rests 8 = .ok (.invokestatic 301, 3) := by decide +kernel
theorem dX11_rests_11 : decode cX11_rests 11 = .ok (.ifCond .eq 16, 3) := by decide +kernel
theorem dX11_rests_14 : decode cX11_rests 14 = .ok (.iload_n 3, 1) := by decide +kernel
theorem dX11_rests_15 : decode cX11_rests 15 = .ok (.invokestatic 301, 3) := by decide +kernel
theorem dX11_rests_18 : decode cX11_rests 18 = .ok (.ifCond .eq 9, 3) := by decide +kernel
theorem dX11_rests_21 : decode cX11_rests 21 = .ok (.iload 4, 2) := by decide +kernel
theorem dX11_rests_23 : decode cX11_rests 23 = .ok (.iconst (-1), 1) := by decide +kernel
theorem dX11_rests_24 : decode cX11_rests 24 = .ok (.if_icmp .ge 14, 3) := by decide +kernel
theorem dX11_rests_27 : decode cX11_rests 27 = .ok (.new 230, 3) := by decide +kernel
theorem dX11_rests_30 : decode cX11_rests 30 = .ok (.dup, 1) := by decide +kernel
theorem dX11_rests_31 : decode cX11_rests 31 = .ok (.ldc_w 304, 3) := by decide +kernel
theorem dX11_rests_34 : decode cX11_rests 34 = .ok (.invokespecial 234, 3) := by decide +kernel
theorem dX11_rests_37 : decode cX11_rests 37 = .ok (.athrow, 1) := by decide +kernel
theorem dX11_rests_38 : decode cX11_rests 38 = .ok (.iconst 0, 1) := by decide +kernel
theorem dX11_rests_39 : decode cX11_rests 39 = .ok (.istore 5, 2) := by decide +kernel
theorem dX11_rests_41 : decode cX11_rests 41 = .ok (.iconst 0, 1) := by decide +kernel
theorem dX11_rests_42 : decode cX11_rests 42 = .ok (.istore 6, 2) := by decide +kernel
theorem dX11_rests_44 : decode cX11_rests 44 = .ok (.iload 6, 2) := by decide +kernel
theorem dX11_rests_46 : decode cX11_rests 46 = .ok (.iconst 4, 1) := by decide +kernel
theorem dX11_rests_47 : decode cX11_rests 47 = .ok (.if_icmp .ge 33, 3) := by decide +kernel
theorem dX11_rests_50 : decode cX11_rests 50 = .ok (.iload_n 1, 1) := by decide +kernel
theorem dX11_rests_51 : decode cX11_rests 51 = .ok (.iload_n 2, 1) := by decide +kernel
theorem dX11_rests_52 : decode cX11_rests 52 = .ok (.iload_n 3, 1) := by decide +kernel
theorem dX11_rests_53 : decode cX11_rests 53 = .ok (.iload 6, 2) := by decide +kernel
theorem dX11_rests_55 : decode cX11_rests 55 = .ok (.invokestatic 306, 3) := by decide +kernel
theorem dX11_rests_58 : decode cX11_rests 58 = .ok (.ifCond .eq 16, 3) := by decide +kernel
theorem dX11_rests_61 : decode cX11_rests 61 = .ok (.iload 5, 2) := by decide +kernel
theorem dX11_rests_63 : decode cX11_rests 63 = .ok (.iload 4, 2) := by decide +kernel
theorem dX11_rests_65 : decode cX11_rests 65 = .ok (.if_icmp .ne 6, 3) := by decide +kernel
theorem dX11_rests_68 : decode cX11_rests 68 = .ok (.iload 6, 2) := by decide +kernel
theorem dX11_rests_70 : decode cX11_rests 70 = .ok (.ireturn, 1) := by decide +kernel
theorem dX11_rests_71 : decode cX11_rests 71 = .ok (.iinc 5 1, 3) := by decide +kernel
theorem dX11_rests_74 : decode cX11_rests 74 = .ok (.iinc 6 1, 3) := by decide +kernel
theorem dX11_rests_77 : decode cX11_rests 77 = .ok (.goto (-33), 3) := by decide +kernel
theorem dX11_rests_80 : decode cX11_rests 80 = .ok (.iload 4, 2) := by decide +kernel
theorem dX11_rests_82 : decode cX11_rests 82 = .ok (.iconst (-1), 1) := by decide +kernel
theorem dX11_rests_83 : decode cX11_rests 83 = .ok (.if_icmp .eq 14, 3) := by decide +kernel
theorem dX11_rests_86 : decode cX11_rests 86 = .ok (.new 230, 3) := by decide +kernel
theorem dX11_rests_89 : decode cX11_rests 89 = .ok (.dup, 1) := by decide +kernel
theorem dX11_rests_90 : decode cX11_rests 90 = .ok (.ldc_w 310, 3) := by decide +kernel
theorem dX11_rests_93 : decode cX11_rests 93 = .ok (.invokespecial 234, 3) := by decide +kernel
theorem dX11_rests_96 : decode cX11_rests 96 = .ok (.athrow, 1) := by decide +kernel
theorem dX11_rests_97 : decode cX11_rests 97 = .ok (.iload 5, 2) := by decide +kernel
theorem dX11_rests_99 : decode cX11_rests 99 = .ok (.ireturn, 1) := by decide +kernel
theorem dX11_share_0 : decode cX11_share 0 = .ok (.aload_n 0, 1) := by decide +kernel
theorem dX11_share_1 : decode cX11_share 1 = .ok (.getfield 10, 3) := by decide +kernel
theorem dX11_share_4 : decode cX11_share 4 = .ok (.iload_n 1, 1) := by decide +kernel
theorem dX11_share_5 : decode cX11_share 5 = .ok (.invokevirtual 132, 3) := by decide +kernel
theorem dX11_share_8 : decode cX11_share 8 = .ok (.ifCond .ne 5, 3) := by decide +kernel
theorem dX11_share_11 : decode cX11_share 11 = .ok (.iconst (-1), 1) := by decide +kernel
theorem dX11_share_12 : decode cX11_share 12 = .ok (.ireturn, 1) := by decide +kernel
theorem dX11_share_13 : decode cX11_share 13 = .ok (.aload_n 0, 1) := by decide +kernel
theorem dX11_share_14 : decode cX11_share 14 = .ok (.getfield 10, 3) := by decide +kernel
theorem dX11_share_17 : decode cX11_share 17 = .ok (.aload_n 0, 1) := by decide +kernel
theorem dX11_share_18 : decode cX11_share 18 = .ok (.getfield 48, 3) := by decide +kernel
theorem dX11_share_21 : decode cX11_share 21 = .ok (.invokevirtual 276, 3) := by decide +kernel
theorem dX11_share_24 : decode cX11_share 24 = .ok (.invokevirtual 159, 3) := by decide +kernel
theorem dX11_share_27 : decode cX11_share 27 = .ok (.istore_n 2, 1) := by decide +kernel
theorem dX11_share_28 : decode cX11_share 28 = .ok (.iload_n 2, 1) := by decide +kernel
theorem dX11_share_29 : decode cX11_share 29 = .ok (.ifCond .ne 7, 3) := by decide +kernel
theorem dX11_share_32 : decode cX11_share 32 = .ok (.iconst 0, 1) := by decide +kernel
theorem dX11_share_33 : decode cX11_share 33 = .ok (.goto 25, 3) := by decide +kernel
theorem dX11_share_36 : decode cX11_share 36 = .ok (.aload_n 0, 1) := by decide +kernel
theorem dX11_share_37 : decode cX11_share 37 = .ok (.getfield 10, 3) := by decide +kernel
theorem dX11_share_40 : decode cX11_share 40 = .ok (.aload_n 0, 1) := by decide +kernel
theorem dX11_share_41 : decode cX11_share 41 = .ok (.getfield 48, 3) := by decide +kernel
theorem dX11_share_44 : decode cX11_share 44 = .ok (.getfield 138, 3) := by decide +kernel
theorem dX11_share_47 : decode cX11_share 47 = .ok (.iload_n 1, 1) := by decide +kernel
theorem dX11_share_48 : decode cX11_share 48 = .ok (.iaload, 1) := by decide +kernel
theorem dX11_share_49 : decode cX11_share 49 = .ok (.invokevirtual 159, 3) := by decide +kernel
theorem dX11_share_52 : decode cX11_share 52 = .ok (.sipush 1000, 3) := by decide +kernel
theorem dX11_share_55 : decode cX11_share 55 = .ok (.imul, 1) := by decide +kernel
theorem dX11_share_56 : decode cX11_share 56 = .ok (.iload_n 2, 1) := by decide +kernel
theorem dX11_share_57 : decode cX11_share 57 = .ok (.idiv, 1) := by decide +kernel
theorem dX11_share_58 : decode cX11_share 58 = .ok (.ireturn, 1) := by decide +kernel
theorem dX11_tours_0 : decode cX11_tours 0 = .ok (.iload_n 1, 1) := by decide +kernel
theorem dX11_tours_1 : decode cX11_tours 1 = .ok (.ifCond .lt 25, 3) := by decide +kernel
theorem dX11_tours_4 : decode cX11_tours 4 = .ok (.iload_n 1, 1) := by decide +kernel
theorem dX11_tours_5 : decode cX11_tours 5 = .ok (.sipush 9999, 3) := by decide +kernel
theorem dX11_tours_8 : decode cX11_tours 8 = .ok (.if_icmp .gt 18, 3) := by decide +kernel
theorem dX11_tours_11 : decode cX11_tours 11 = .ok (.iload_n 2, 1) := by decide +kernel
theorem dX11_tours_12 : decode cX11_tours 12 = .ok (.iconst 1, 1) := by decide +kernel
theorem dX11_tours_13 : decode cX11_tours 13 = .ok (.if_icmp .lt 13, 3) := by decide +kernel
theorem dX11_tours_16 : decode cX11_tours 16 = .ok (.iload_n 2, 1) := by decide +kernel
theorem dX11_tours_17 : decode cX11_tours 17 = .ok (.bipush 99, 2) := by decide +kernel
theorem dX11_tours_19 : decode cX11_tours 19 = .ok (.if_icmp .gt 7, 3) := by decide +kernel
theorem dX11_tours_22 : decode cX11_tours 22 = .ok (.iconst 1, 1) := by decide +kernel
theorem dX11_tours_23 : decode cX11_tours 23 = .ok (.goto 4, 3) := by decide +kernel
theorem dX11_tours_26 : decode cX11_tours 26 = .ok (.iconst 0, 1) := by decide +kernel
theorem dX11_tours_27 : decode cX11_tours 27 = .ok (.istore 4, 2) := by decide +kernel
theorem dX11_tours_29 : decode cX11_tours 29 = .ok (.iload 4, 2) := by decide +kernel
theorem dX11_tours_31 : decode cX11_tours 31 = .ok (.ifCond .eq 12, 3) := by decide +kernel
theorem dX11_tours_34 : decode cX11_tours 34 = .ok (.iload_n 3, 1) := by decide +kernel
theorem dX11_tours_35 : decode cX11_tours 35 = .ok (.ifCond .lt 8, 3) := by decide +kernel
theorem dX11_tours_38 : decode cX11_tours 38 = .ok (.iload_n 3, 1) := by decide +kernel
theorem dX11_tours_39 : decode cX11_tours 39 = .ok (.iconst 2, 1) := by decide +kernel
theorem dX11_tours_40 : decode cX11_tours 40 = .ok (.if_icmp .le 5, 3) := by decide +kernel
theorem dX11_tours_43 : decode cX11_tours 43 = .ok (.iconst (-1), 1) := by decide +kernel
theorem dX11_tours_44 : decode cX11_tours 44 = .ok (.ireturn, 1) := by decide +kernel
theorem dX11_tours_45 : decode cX11_tours 45 = .ok (.iconst 0, 1) := by decide +kernel
theorem dX11_tours_46 : decode cX11_tours 46 = .ok (.istore 5, 2) := by decide +kernel
theorem dX11_tours_48 : decode cX11_tours 48 = .ok (.iconst 0, 1) := by decide +kernel
theorem dX11_tours_49 : decode cX11_tours 49 = .ok (.istore 6, 2) := by decide +kernel
theorem dX11_tours_51 : decode cX11_tours 51 = .ok (.aload_n 0, 1) := by decide +kernel
theorem dX11_tours_52 : decode cX11_tours 52 = .ok (.getfield 52, 3) := by decide +kernel
theorem dX11_tours_55 : decode cX11_tours 55 = .ok (.aload_n 0, 1) := by decide +kernel
theorem dX11_tours_56 : decode cX11_tours 56 = .ok (.getfield 48, 3) := by decide +kernel
theorem dX11_tours_59 : decode cX11_tours 59 = .ok (.invokevirtual 224, 3) := by decide +kernel
theorem dX11_tours_62 : decode cX11_tours 62 = .ok (.aload_n 0, 1) := by decide +kernel
theorem dX11_tours_63 : decode cX11_tours 63 = .ok (.getfield 86, 3) := by decide +kernel
theorem dX11_tours_66 : decode cX11_tours 66 = .ok (.iload_n 1, 1) := by decide +kernel
theorem dX11_tours_67 : decode cX11_tours 67 = .ok (.invokevirtual 312, 3) := by decide +kernel
theorem dX11_tours_70 : decode cX11_tours 70 = .ok (.iconst 0, 1) := by decide +kernel
theorem dX11_tours_71 : decode cX11_tours 71 = .ok (.istore 7, 2) := by decide +kernel
theorem dX11_tours_73 : decode cX11_tours 73 = .ok (.iload 7, 2) := by decide +kernel
theorem dX11_tours_75 : decode cX11_tours 75 = .ok (.iload_n 2, 1) := by decide +kernel
theorem dX11_tours_76 : decode cX11_tours 76 = .ok (.if_icmp .ge 94, 3) := by decide +kernel
theorem dX11_tours_79 : decode cX11_tours 79 = .ok (.aload_n 0, 1) := by decide +kernel
theorem dX11_tours_80 : decode cX11_tours 80 = .ok (.getfield 10, 3) := by decide +kernel
theorem dX11_tours_83 : decode cX11_tours 83 = .ok (.getfield 149, 3) := by decide +kernel
theorem dX11_tours_86 : decode cX11_tours 86 = .ok (.ifCond .le 84, 3) := by decide +kernel
theorem dX11_tours_89 : decode cX11_tours 89 = .ok (.aload_n 0, 1) := by decide +kernel
theorem dX11_tours_90 : decode cX11_tours 90 = .ok (.getfield 52, 3) := by decide +kernel
theorem dX11_tours_93 : decode cX11_tours 93 = .ok (.aload_n 0, 1) := by decide +kernel
theorem dX11_tours_94 : decode cX11_tours 94 = .ok (.getfield 10, 3) := by decide +kernel
theorem dX11_tours_97 : decode cX11_tours 97 = .ok (.aload_n 0, 1) := by decide +kernel
theorem dX11_tours_98 : decode cX11_tours 98 = .ok (.getfield 86, 3) := by decide +kernel
theorem dX11_tours_101 : decode cX11_tours 101 = .ok (.aload_n 0, 1) := by decide +kernel
theorem dX11_tours_102 : decode cX11_tours 102 = .ok (.getfield 10, 3) := by decide +kernel
theorem dX11_tours_105 : decode cX11_tours 105 = .ok (.getfield 149, 3) := by decide +kernel
theorem dX11_tours_108 : decode cX11_tours 108 = .ok (.invokevirtual 313, 3) := by decide +kernel
theorem dX11_tours_111 : decode cX11_tours 111 = .ok (.invokevirtual 316, 3) := by decide +kernel
theorem dX11_tours_114 : decode cX11_tours 114 = .ok (.iload 5, 2) := by decide +kernel
theorem dX11_tours_116 : decode cX11_tours 116 = .ok (.aload_n 0, 1) := by decide +kernel
theorem dX11_tours_117 : decode cX11_tours 117 = .ok (.getfield 10, 3) := by decide +kernel
theorem dX11_tours_120 : decode cX11_tours 120 = .ok (.aload_n 0, 1) := by decide +kernel
theorem dX11_tours_121 : decode cX11_tours 121 = .ok (.getfield 52, 3) := by decide +kernel
theorem dX11_tours_124 : decode cX11_tours 124 = .ok (.getfield 129, 3) := by decide +kernel
theorem dX11_tours_127 : decode cX11_tours 127 = .ok (.invokevirtual 159, 3) := by decide +kernel
theorem dX11_tours_130 : decode cX11_tours 130 = .ok (.iadd, 1) := by decide +kernel
theorem dX11_tours_131 : decode cX11_tours 131 = .ok (.istore 5, 2) := by decide +kernel
theorem dX11_tours_133 : decode cX11_tours 133 = .ok (.iload 6, 2) := by decide +kernel
theorem dX11_tours_135 : decode cX11_tours 135 = .ok (.aload_n 0, 1) := by decide +kernel
theorem dX11_tours_136 : decode cX11_tours 136 = .ok (.getfield 10, 3) := by decide +kernel
theorem dX11_tours_139 : decode cX11_tours 139 = .ok (.aload_n 0, 1) := by decide +kernel
theorem dX11_tours_140 : decode cX11_tours 140 = .ok (.getfield 52, 3) := by decide +kernel
theorem dX11_tours_143 : decode cX11_tours 143 = .ok (.getfield 129, 3) := by decide +kernel
theorem dX11_tours_146 : decode cX11_tours 146 = .ok (.invokevirtual 212, 3) := by decide +kernel
theorem dX11_tours_149 : decode cX11_tours 149 = .ok (.ifCond .eq 7, 3) := by decide +kernel
theorem dX11_tours_152 : decode cX11_tours 152 = .ok (.iconst 0, 1) := by decide +kernel
theorem dX11_tours_153 : decode cX11_tours 153 = .ok (.goto 4, 3) := by decide +kernel
theorem dX11_tours_156 : decode cX11_tours 156 = .ok (.iconst 1, 1) := by decide +kernel
theorem dX11_tours_157 : decode cX11_tours 157 = .ok (.iadd, 1) := by decide +kernel
theorem dX11_tours_158 : decode cX11_tours 158 = .ok (.istore 6, 2) := by decide +kernel
theorem dX11_tours_160 : decode cX11_tours 160 = .ok (.aload_n 0, 1) := by decide +kernel
theorem dX11_tours_161 : decode cX11_tours 161 = .ok (.invokevirtual 320, 3) := by decide +kernel
theorem dX11_tours_164 : decode cX11_tours 164 = .ok (.iinc 7 1, 3) := by decide +kernel
theorem dX11_tours_167 : decode cX11_tours 167 = .ok (.goto (-94), 3) := by decide +kernel
theorem dX11_tours_170 : decode cX11_tours 170 = .ok (.iload_n 3, 1) := by decide +kernel
theorem dX11_tours_171 : decode cX11_tours 171 = .ok (.ifCond .ne 8, 3) := by decide +kernel
theorem dX11_tours_174 : decode cX11_tours 174 = .ok (.iload 5, 2) := by decide +kernel
theorem dX11_tours_176 : decode cX11_tours 176 = .ok (.goto 20, 3) := by decide +kernel
theorem dX11_tours_179 : decode cX11_tours 179 = .ok (.iload_n 3, 1) := by decide +kernel
theorem dX11_tours_180 : decode cX11_tours 180 = .ok (.iconst 1, 1) := by decide +kernel
theorem dX11_tours_181 : decode cX11_tours 181 = .ok (.if_icmp .ne 8, 3) := by decide +kernel
theorem dX11_tours_184 : decode cX11_tours 184 = .ok (.iload 6, 2) := by decide +kernel
theorem dX11_tours_186 : decode cX11_tours 186 = .ok (.goto 10, 3) := by decide +kernel
theorem dX11_tours_189 : decode cX11_tours 189 = .ok (.aload_n 0, 1) := by decide +kernel
theorem dX11_tours_190 : decode cX11_tours 190 = .ok (.getfield 52, 3) := by decide +kernel
theorem dX11_tours_193 : decode cX11_tours 193 = .ok (.getfield 129, 3) := by decide +kernel
theorem dX11_tours_196 : decode cX11_tours 196 = .ok (.ireturn, 1) := by decide +kernel
theorem dX11_mark_0 : decode cX11_mark 0 = .ok (.iload_n 1, 1) := by decide +kernel
theorem dX11_mark_1 : decode cX11_mark 1 = .ok (.ifCond .lt 8, 3) := by decide +kernel
theorem dX11_mark_4 : decode cX11_mark 4 = .ok (.iload_n 1, 1) := by decide +kernel
theorem dX11_mark_5 : decode cX11_mark 5 = .ok (.iconst 4, 1) := by decide +kernel
theorem dX11_mark_6 : decode cX11_mark 6 = .ok (.if_icmp .lt 5, 3) := by decide +kernel
theorem dX11_mark_9 : decode cX11_mark 9 = .ok (.iconst 0, 1) := by decide +kernel
theorem dX11_mark_10 : decode cX11_mark 10 = .ok (.ireturn, 1) := by decide +kernel
theorem dX11_mark_11 : decode cX11_mark 11 = .ok (.iload_n 2, 1) := by decide +kernel
theorem dX11_mark_12 : decode cX11_mark 12 = .ok (.ifCond .ne 26, 3) := by decide +kernel
theorem dX11_mark_15 : decode cX11_mark 15 = .ok (.aload_n 0, 1) := by decide +kernel
theorem dX11_mark_16 : decode cX11_mark 16 = .ok (.getfield 71, 3) := by decide +kernel
theorem dX11_mark_19 : decode cX11_mark 19 = .ok (.iload_n 1, 1) := by decide +kernel
theorem dX11_mark_20 : decode cX11_mark 20 = .ok (.aaload, 1) := by decide +kernel
theorem dX11_mark_21 : decode cX11_mark 21 = .ok (.aload_n 0, 1) := by decide +kernel
theorem dX11_mark_22 : decode cX11_mark 22 = .ok (.getfield 48, 3) := by decide +kernel
theorem dX11_mark_25 : decode cX11_mark 25 = .ok (.aload_n 0, 1) := by decide +kernel
theorem dX11_mark_26 : decode cX11_mark 26 = .ok (.getfield 38, 3) := by decide +kernel
theorem dX11_mark_29 : decode cX11_mark 29 = .ok (.aload_n 0, 1) := by decide +kernel
theorem dX11_mark_30 : decode cX11_mark 30 = .ok (.getfield 65, 3) := by decide +kernel
theorem dX11_mark_33 : decode cX11_mark 33 = .ok (.invokevirtual 323, 3) := by decide +kernel
theorem dX11_mark_36 : decode cX11_mark 36 = .ok (.iconst 1, 1) := by decide +kernel
theorem dX11_mark_37 : decode cX11_mark 37 = .ok (.ireturn, 1) := by decide +kernel
theorem dX11_mark_38 : decode cX11_mark 38 = .ok (.aload_n 0, 1) := by decide +kernel
theorem dX11_mark_39 : decode cX11_mark 39 = .ok (.getfield 71, 3) := by decide +kernel
theorem dX11_mark_42 : decode cX11_mark 42 = .ok (.iload_n 1, 1) := by decide +kernel
theorem dX11_mark_43 : decode cX11_mark 43 = .ok (.aaload, 1) := by decide +kernel
theorem dX11_mark_44 : decode cX11_mark 44 = .ok (.getfield 327, 3) := by decide +kernel
theorem dX11_mark_47 : decode cX11_mark 47 = .ok (.ifCond .ne 5, 3) := by decide +kernel
theorem dX11_mark_50 : decode cX11_mark 50 = .ok (.iconst 0, 1) := by decide +kernel
theorem dX11_mark_51 : decode cX11_mark 51 = .ok (.ireturn, 1) := by decide +kernel
theorem dX11_mark_52 : decode cX11_mark 52 = .ok (.aload_n 0, 1) := by decide +kernel
theorem dX11_mark_53 : decode cX11_mark 53 = .ok (.getfield 71, 3) := by decide +kernel
theorem dX11_mark_56 : decode cX11_mark 56 = .ok (.iload_n 1, 1) := by decide +kernel
theorem dX11_mark_57 : decode cX11_mark 57 = .ok (.aaload, 1) := by decide +kernel
theorem dX11_mark_58 : decode cX11_mark 58 = .ok (.aload_n 0, 1) := by decide +kernel
theorem dX11_mark_59 : decode cX11_mark 59 = .ok (.getfield 48, 3) := by decide +kernel
theorem dX11_mark_62 : decode cX11_mark 62 = .ok (.aload_n 0, 1) := by decide +kernel
theorem dX11_mark_63 : decode cX11_mark 63 = .ok (.getfield 38, 3) := by decide +kernel
theorem dX11_mark_66 : decode cX11_mark 66 = .ok (.aload_n 0, 1) := by decide +kernel
theorem dX11_mark_67 : decode cX11_mark 67 = .ok (.getfield 65, 3) := by decide +kernel
theorem dX11_mark_70 : decode cX11_mark 70 = .ok (.invokevirtual 331, 3) := by decide +kernel
theorem dX11_mark_73 : decode cX11_mark 73 = .ok (.aload_n 0, 1) := by decide +kernel
theorem dX11_mark_74 : decode cX11_mark 74 = .ok (.getfield 58, 3) := by decide +kernel
theorem dX11_mark_77 : decode cX11_mark 77 = .ok (.invokevirtual 334, 3) := by decide +kernel
theorem dX11_mark_80 : decode cX11_mark 80 = .ok (.iconst 1, 1) := by decide +kernel
theorem dX11_mark_81 : decode cX11_mark 81 = .ok (.ireturn, 1) := by decide +kernel
theorem dX11_count_0 : decode cX11_count 0 = .ok (.iload_n 1, 1) := by decide +kernel
theorem dX11_count_1 : decode cX11_count 1 = .ok (.tableswitch 151 0 10 #[59, 67, 75, 83, 98, 103, 111, 119, 127, 135, 143], 59) := by decide +kernel
theorem dX11_count_60 : decode cX11_count 60 = .ok (.aload_n 0, 1) := by decide +kernel
theorem dX11_count_61 : decode cX11_count 61 = .ok (.getfield 10, 3) := by decide +kernel
theorem dX11_count_64 : decode cX11_count 64 = .ok (.getfield 246, 3) := by decide +kernel
theorem dX11_count_67 : decode cX11_count 67 = .ok (.ireturn, 1) := by decide +kernel
theorem dX11_count_68 : decode cX11_count 68 = .ok (.aload_n 0, 1) := by decide +kernel
theorem dX11_count_69 : decode cX11_count 69 = .ok (.getfield 10, 3) := by decide +kernel
theorem dX11_count_72 : decode cX11_count 72 = .ok (.getfield 149, 3) := by decide +kernel
theorem dX11_count_75 : decode cX11_count 75 = .ok (.ireturn, 1) := by decide +kernel
theorem dX11_count_76 : decode cX11_count 76 = .ok (.aload_n 0, 1) := by decide +kernel
theorem dX11_count_77 : decode cX11_count 77 = .ok (.getfield 48, 3) := by decide +kernel
theorem dX11_count_80 : decode cX11_count 80 = .ok (.getfield 129, 3) := by decide +kernel
theorem dX11_count_83 : decode cX11_count 83 = .ok (.ireturn, 1) := by decide +kernel
theorem dX11_count_84 : decode cX11_count 84 = .ok (.aload_n 0, 1) := by decide +kernel
theorem dX11_count_85 : decode cX11_count 85 = .ok (.getfield 10, 3) := by decide +kernel
theorem dX11_count_88 : decode cX11_count 88 = .ok (.aload_n 0, 1) := by decide +kernel
theorem dX11_count_89 : decode cX11_count 89 = .ok (.getfield 48, 3) := by decide +kernel
theorem dX11_count_92 : decode cX11_count 92 = .ok (.getfield 129, 3) := by decide +kernel
theorem dX11_count_95 : decode cX11_count 95 = .ok (.invokevirtual 159, 3) := by decide +kernel
theorem dX11_count_98 : decode cX11_count 98 = .ok (.ireturn, 1) := by decide +kernel
theorem dX11_count_99 : decode cX11_count 99 = .ok (.aload_n 0, 1) := by decide +kernel
theorem dX11_count_100 : decode cX11_count 100 = .ok (.invokevirtual 183, 3) := by decide +kernel
theorem dX11_count_103 : decode cX11_count 103 = .ok (.ireturn, 1) := by decide +kernel
theorem dX11_count_104 : decode cX11_count 104 = .ok (.aload_n 0, 1) := by decide +kernel
theorem dX11_count_105 : decode cX11_count 105 = .ok (.getfield 48, 3) := by decide +kernel
theorem dX11_count_108 : decode cX11_count 108 = .ok (.getfield 337, 3) := by decide +kernel
theorem dX11_count_111 : decode cX11_count 111 = .ok (.ireturn, 1) := by decide +kernel
theorem dX11_count_112 : decode cX11_count 112 = .ok (.aload_n 0, 1) := by decide +kernel
theorem dX11_count_113 : decode cX11_count 113 = .ok (.getfield 48, 3) := by decide +kernel
theorem dX11_count_116 : decode cX11_count 116 = .ok (.invokevirtual 276, 3) := by decide +kernel
theorem dX11_count_119 : decode cX11_count 119 = .ok (.ireturn, 1) := by decide +kernel
theorem dX11_count_120 : decode cX11_count 120 = .ok (.aload_n 0, 1) := by decide +kernel
theorem dX11_count_121 : decode cX11_count 121 = .ok (.getfield 38, 3) := by decide +kernel
theorem dX11_count_124 : decode cX11_count 124 = .ok (.getfield 198, 3) := by decide +kernel
theorem dX11_count_127 : decode cX11_count 127 = .ok (.ireturn, 1) := by decide +kernel
theorem dX11_count_128 : decode cX11_count 128 = .ok (.aload_n 0, 1) := by decide +kernel
theorem dX11_count_129 : decode cX11_count 129 = .ok (.getfield 65, 3) := by decide +kernel
theorem dX11_count_132 : decode cX11_count 132 = .ok (.getfield 340, 3) := by decide +kernel
theorem dX11_count_135 : decode cX11_count 135 = .ok (.ireturn, 1) := by decide +kernel
theorem dX11_count_136 : decode cX11_count 136 = .ok (.aload_n 0, 1) := by decide +kernel
theorem dX11_count_137 : decode cX11_count 137 = .ok (.getfield 58, 3) := by decide +kernel
theorem dX11_count_140 : decode cX11_count 140 = .ok (.getfield 341, 3) := by decide +kernel
theorem dX11_count_143 : decode cX11_count 143 = .ok (.ireturn, 1) := by decide +kernel
theorem dX11_count_144 : decode cX11_count 144 = .ok (.aload_n 0, 1) := by decide +kernel
theorem dX11_count_145 : decode cX11_count 145 = .ok (.getfield 22, 3) := by decide +kernel
theorem dX11_count_148 : decode cX11_count 148 = .ok (.getfield 98, 3) := by decide +kernel
theorem dX11_count_151 : decode cX11_count 151 = .ok (.ireturn, 1) := by decide +kernel
theorem dX11_count_152 : decode cX11_count 152 = .ok (.iconst (-1), 1) := by decide +kernel
theorem dX11_count_153 : decode cX11_count 153 = .ok (.ireturn, 1) := by decide +kernel
theorem dX11_beginAnew_0 : decode cX11_beginAnew 0 = .ok (.aload_n 0, 1) := by decide +kernel
theorem dX11_beginAnew_1 : decode cX11_beginAnew 1 = .ok (.getfield 48, 3) := by decide +kernel
theorem dX11_beginAnew_4 : decode cX11_beginAnew 4 = .ok (.aload_n 0, 1) := by decide +kernel
theorem dX11_beginAnew_5 : decode cX11_beginAnew 5 = .ok (.getfield 10, 3) := by decide +kernel
theorem dX11_beginAnew_8 : decode cX11_beginAnew 8 = .ok (.invokevirtual 191, 3) := by decide +kernel
theorem dX11_beginAnew_11 : decode cX11_beginAnew 11 = .ok (.invokevirtual 194, 3) := by decide +kernel
theorem dX11_beginAnew_14 : decode cX11_beginAnew 14 = .ok (.aload_n 0, 1) := by decide +kernel
theorem dX11_beginAnew_15 : decode cX11_beginAnew 15 = .ok (.getfield 38, 3) := by decide +kernel
theorem dX11_beginAnew_18 : decode cX11_beginAnew 18 = .ok (.invokevirtual 342, 3) := by decide +kernel
theorem dX11_beginAnew_21 : decode cX11_beginAnew 21 = .ok (.aload_n 0, 1) := by decide +kernel
theorem dX11_beginAnew_22 : decode cX11_beginAnew 22 = .ok (.getfield 65, 3) := by decide +kernel
theorem dX11_beginAnew_25 : decode cX11_beginAnew 25 = .ok (.iconst 0, 1) := by decide +kernel
theorem dX11_beginAnew_26 : decode cX11_beginAnew 26 = .ok (.putfield 340, 3) := by decide +kernel
theorem dX11_beginAnew_29 : decode cX11_beginAnew 29 = .ok (.aload_n 0, 1) := by decide +kernel
theorem dX11_beginAnew_30 : decode cX11_beginAnew 30 = .ok (.getfield 58, 3) := by decide +kernel
theorem dX11_beginAnew_33 : decode cX11_beginAnew 33 = .ok (.invokevirtual 334, 3) := by decide +kernel
theorem dX11_beginAnew_36 : decode cX11_beginAnew 36 = .ok (.iconst 0, 1) := by decide +kernel
theorem dX11_beginAnew_37 : decode cX11_beginAnew 37 = .ok (.istore_n 1, 1) := by decide +kernel
theorem dX11_beginAnew_38 : decode cX11_beginAnew 38 = .ok (.iload_n 1, 1) := by decide +kernel
theorem dX11_beginAnew_39 : decode cX11_beginAnew 39 = .ok (.iconst 4, 1) := by decide +kernel
theorem dX11_beginAnew_40 : decode cX11_beginAnew 40 = .ok (.if_icmp .ge 19, 3) := by decide +kernel
theorem dX11_beginAnew_43 : decode cX11_beginAnew 43 = .ok (.aload_n 0, 1) := by decide +kernel
theorem dX11_beginAnew_44 : decode cX11_beginAnew 44 = .ok (.getfield 71, 3) := by decide +kernel
theorem dX11_beginAnew_47 : decode cX11_beginAnew 47 = .ok (.iload_n 1, 1) := by decide +kernel
theorem dX11_beginAnew_48 : decode cX11_beginAnew 48 = .ok (.aaload, 1) := by decide +kernel
theorem dX11_beginAnew_49 : decode cX11_beginAnew 49 = .ok (.iconst 0, 1) := by decide +kernel
theorem dX11_beginAnew_50 : decode cX11_beginAnew 50 = .ok (.putfield 327, 3) := by decide +kernel
theorem dX11_beginAnew_53 : decode cX11_beginAnew 53 = .ok (.iinc 1 1, 3) := by decide +kernel
theorem dX11_beginAnew_56 : decode cX11_beginAnew 56 = .ok (.goto (-18), 3) := by decide +kernel
theorem dX11_beginAnew_59 : decode cX11_beginAnew 59 = .ok (.return_, 1) := by decide +kernel
theorem dX11_liesIn_0 : decode cX11_liesIn 0 = .ok (.aload_n 0, 1) := by decide +kernel
theorem dX11_liesIn_1 : decode cX11_liesIn 1 = .ok (.getfield 10, 3) := by decide +kernel
theorem dX11_liesIn_4 : decode cX11_liesIn 4 = .ok (.iload_n 1, 1) := by decide +kernel
theorem dX11_liesIn_5 : decode cX11_liesIn 5 = .ok (.invokevirtual 132, 3) := by decide +kernel
theorem dX11_liesIn_8 : decode cX11_liesIn 8 = .ok (.ifCond .eq 30, 3) := by decide +kernel
theorem dX11_liesIn_11 : decode cX11_liesIn 11 = .ok (.aload_n 0, 1) := by decide +kernel
theorem dX11_liesIn_12 : decode cX11_liesIn 12 = .ok (.getfield 10, 3) := by decide +kernel
theorem dX11_liesIn_15 : decode cX11_liesIn 15 = .ok (.iload_n 2, 1) := by decide +kernel
theorem dX11_liesIn_16 : decode cX11_liesIn 16 = .ok (.invokevirtual 116, 3) := by decide +kernel
theorem dX11_liesIn_19 : decode cX11_liesIn 19 = .ok (.ifCond .eq 19, 3) := by decide +kernel
theorem dX11_liesIn_22 : decode cX11_liesIn 22 = .ok (.aload_n 0, 1) := by decide +kernel
theorem dX11_liesIn_23 : decode cX11_liesIn 23 = .ok (.getfield 48, 3) := by decide +kernel
theorem dX11_liesIn_26 : decode cX11_liesIn 26 = .ok (.iload_n 1, 1) := by decide +kernel
theorem dX11_liesIn_27 : decode cX11_liesIn 27 = .ok (.iload_n 2, 1) := by decide +kernel
theorem dX11_liesIn_28 : decode cX11_liesIn 28 = .ok (.invokevirtual 345, 3) := by decide +kernel
theorem dX11_liesIn_31 : decode cX11_liesIn 31 = .ok (.ifCond .eq 7, 3) := by decide +kernel
theorem dX11_liesIn_34 : decode cX11_liesIn 34 = .ok (.iconst 1, 1) := by decide +kernel
theorem dX11_liesIn_35 : decode cX11_liesIn 35 = .ok (.goto 4, 3) := by decide +kernel
theorem dX11_liesIn_38 : decode cX11_liesIn 38 = .ok (.iconst 0, 1) := by decide +kernel
theorem dX11_liesIn_39 : decode cX11_liesIn 39 = .ok (.ireturn, 1) := by decide +kernel
theorem dX11_nextHall_0 : decode cX11_nextHall 0 = .ok (.aload_n 0, 1) := by decide +kernel
theorem dX11_nextHall_1 : decode cX11_nextHall 1 = .ok (.getfield 10, 3) := by decide +kernel
theorem dX11_nextHall_4 : decode cX11_nextHall 4 = .ok (.getfield 149, 3) := by decide +kernel
theorem dX11_nextHall_7 : decode cX11_nextHall 7 = .ok (.ifCond .ne 7, 3) := by decide +kernel
theorem dX11_nextHall_10 : decode cX11_nextHall 10 = .ok (.iconst (-1), 1) := by decide +kernel
theorem dX11_nextHall_11 : decode cX11_nextHall 11 = .ok (.goto 10, 3) := by decide +kernel
theorem dX11_nextHall_14 : decode cX11_nextHall 14 = .ok (.aload_n 0, 1) := by decide +kernel
theorem dX11_nextHall_15 : decode cX11_nextHall 15 = .ok (.getfield 48, 3) := by decide +kernel
theorem dX11_nextHall_18 : decode cX11_nextHall 18 = .ok (.getfield 348, 3) := by decide +kernel
theorem dX11_nextHall_21 : decode cX11_nextHall 21 = .ok (.ireturn, 1) := by decide +kernel
theorem dX11_nextPlace_0 : decode cX11_nextPlace 0 = .ok (.aload_n 0, 1) := by decide +kernel
theorem dX11_nextPlace_1 : decode cX11_nextPlace 1 = .ok (.getfield 10, 3) := by decide +kernel
theorem dX11_nextPlace_4 : decode cX11_nextPlace 4 = .ok (.getfield 149, 3) := by decide +kernel
theorem dX11_nextPlace_7 : decode cX11_nextPlace 7 = .ok (.ifCond .ne 7, 3) := by decide +kernel
theorem dX11_nextPlace_10 : decode cX11_nextPlace 10 = .ok (.iconst 0, 1) := by decide +kernel
theorem dX11_nextPlace_11 : decode cX11_nextPlace 11 = .ok (.goto 21, 3) := by decide +kernel
theorem dX11_nextPlace_14 : decode cX11_nextPlace 14 = .ok (.aload_n 0, 1) := by decide +kernel
theorem dX11_nextPlace_15 : decode cX11_nextPlace 15 = .ok (.getfield 48, 3) := by decide +kernel
theorem dX11_nextPlace_18 : decode cX11_nextPlace 18 = .ok (.aload_n 0, 1) := by decide +kernel
theorem dX11_nextPlace_19 : decode cX11_nextPlace 19 = .ok (.getfield 10, 3) := by decide +kernel
theorem dX11_nextPlace_22 : decode cX11_nextPlace 22 = .ok (.aload_n 0, 1) := by decide +kernel
theorem dX11_nextPlace_23 : decode cX11_nextPlace 23 = .ok (.getfield 48, 3) := by decide +kernel
theorem dX11_nextPlace_26 : decode cX11_nextPlace 26 = .ok (.getfield 348, 3) := by decide +kernel
theorem dX11_nextPlace_29 : decode cX11_nextPlace 29 = .ok (.invokevirtual 141, 3) := by decide +kernel
theorem dX11_nextPlace_32 : decode cX11_nextPlace 32 = .ok (.ireturn, 1) := by decide +kernel
theorem dX11_isAhead_0 : decode cX11_isAhead 0 = .ok (.aload_n 0, 1) := by decide +kernel
theorem dX11_isAhead_1 : decode cX11_isAhead 1 = .ok (.getfield 10, 3) := by decide +kernel
theorem dX11_isAhead_4 : decode cX11_isAhead 4 = .ok (.iload_n 1, 1) := by decide +kernel
theorem dX11_isAhead_5 : decode cX11_isAhead 5 = .ok (.invokevirtual 132, 3) := by decide +kernel
theorem dX11_isAhead_8 : decode cX11_isAhead 8 = .ok (.ifCond .eq 26, 3) := by decide +kernel
theorem dX11_isAhead_11 : decode cX11_isAhead 11 = .ok (.aload_n 0, 1) := by decide +kernel
theorem dX11_isAhead_12 : decode cX11_isAhead 12 = .ok (.getfield 48, 3) := by decide +kernel
theorem dX11_isAhead_15 : decode cX11_isAhead 15 = .ok (.aload_n 0, 1) := by decide +kernel
theorem dX11_isAhead_16 : decode cX11_isAhead 16 = .ok (.getfield 10, 3) := by decide +kernel
theorem dX11_isAhead_19 : decode cX11_isAhead 19 = .ok (.iload_n 1, 1) := by decide +kernel
theorem dX11_isAhead_20 : decode cX11_isAhead 20 = .ok (.invokevirtual 141, 3) := by decide +kernel
theorem dX11_isAhead_23 : decode cX11_isAhead 23 = .ok (.aload_n 0, 1) := by decide +kernel
theorem dX11_isAhead_24 : decode cX11_isAhead 24 = .ok (.invokevirtual 221, 3) := by decide +kernel
theorem dX11_isAhead_27 : decode cX11_isAhead 27 = .ok (.if_icmp .lt 7, 3) := by decide +kernel
theorem dX11_isAhead_30 : decode cX11_isAhead 30 = .ok (.iconst 1, 1) := by decide +kernel
theorem dX11_isAhead_31 : decode cX11_isAhead 31 = .ok (.goto 4, 3) := by decide +kernel
theorem dX11_isAhead_34 : decode cX11_isAhead 34 = .ok (.iconst 0, 1) := by decide +kernel
theorem dX11_isAhead_35 : decode cX11_isAhead 35 = .ok (.ireturn, 1) := by decide +kernel
theorem dX11_hallsAhead_0 : decode cX11_hallsAhead 0 = .ok (.iconst 0, 1) := by decide +kernel
theorem dX11_hallsAhead_1 : decode cX11_hallsAhead 1 = .ok (.istore_n 1, 1) := by decide +kernel
theorem dX11_hallsAhead_2 : decode cX11_hallsAhead 2 = .ok (.aload_n 0, 1) := by decide +kernel
theorem dX11_hallsAhead_3 : decode cX11_hallsAhead 3 = .ok (.invokevirtual 221, 3) := by decide +kernel
theorem dX11_hallsAhead_6 : decode cX11_hallsAhead 6 = .ok (.istore_n 2, 1) := by decide +kernel
theorem dX11_hallsAhead_7 : decode cX11_hallsAhead 7 = .ok (.iload_n 2, 1) := by decide +kernel
theorem dX11_hallsAhead_8 : decode cX11_hallsAhead 8 = .ok (.aload_n 0, 1) := by decide +kernel
theorem dX11_hallsAhead_9 : decode cX11_hallsAhead 9 = .ok (.getfield 10, 3) := by decide +kernel
theorem dX11_hallsAhead_12 : decode cX11_hallsAhead 12 = .ok (.getfield 149, 3) := by decide +kernel
theorem dX11_hallsAhead_15 : decode cX11_hallsAhead 15 = .ok (.if_icmp .ge 26, 3) := by decide +kernel
theorem dX11_hallsAhead_18 : decode cX11_hallsAhead 18 = .ok (.iload_n 1, 1) := by decide +kernel
theorem dX11_hallsAhead_19 : decode cX11_hallsAhead 19 = .ok (.iconst 1, 1) := by decide +kernel
theorem dX11_hallsAhead_20 : decode cX11_hallsAhead 20 = .ok (.aload_n 0, 1) := by decide +kernel
theorem dX11_hallsAhead_21 : decode cX11_hallsAhead 21 = .ok (.getfield 48, 3) := by decide +kernel
theorem dX11_hallsAhead_24 : decode cX11_hallsAhead 24 = .ok (.aload_n 0, 1) := by decide +kernel
theorem dX11_hallsAhead_25 : decode cX11_hallsAhead 25 = .ok (.getfield 10, 3) := by decide +kernel
theorem dX11_hallsAhead_28 : decode cX11_hallsAhead 28 = .ok (.iload_n 2, 1) := by decide +kernel
theorem dX11_hallsAhead_29 : decode cX11_hallsAhead 29 = .ok (.invokevirtual 141, 3) := by decide +kernel
theorem dX11_hallsAhead_32 : decode cX11_hallsAhead 32 = .ok (.ishl, 1) := by decide +kernel
theorem dX11_hallsAhead_33 : decode cX11_hallsAhead 33 = .ok (.ior, 1) := by decide +kernel
theorem dX11_hallsAhead_34 : decode cX11_hallsAhead 34 = .ok (.istore_n 1, 1) := by decide +kernel
theorem dX11_hallsAhead_35 : decode cX11_hallsAhead 35 = .ok (.iinc 2 1, 3) := by decide +kernel
theorem dX11_hallsAhead_38 : decode cX11_hallsAhead 38 = .ok (.goto (-31), 3) := by decide +kernel
theorem dX11_hallsAhead_41 : decode cX11_hallsAhead 41 = .ok (.iload_n 1, 1) := by decide +kernel
theorem dX11_hallsAhead_42 : decode cX11_hallsAhead 42 = .ok (.ireturn, 1) := by decide +kernel
theorem dX11_rowShownAt_0 : decode cX11_rowShownAt 0 = .ok (.aload_n 0, 1) := by decide +kernel
theorem dX11_rowShownAt_1 : decode cX11_rowShownAt 1 = .ok (.iload_n 1, 1) := by decide +kernel
theorem dX11_rowShownAt_2 : decode cX11_rowShownAt 2 = .ok (.invokevirtual 227, 3) := by decide +kernel
theorem dX11_rowShownAt_5 : decode cX11_rowShownAt 5 = .ok (.ifCond .ne 5, 3) := by decide +kernel
theorem dX11_rowShownAt_8 : decode cX11_rowShownAt 8 = .ok (.iconst (-1), 1) := by decide +kernel
theorem dX11_rowShownAt_9 : decode cX11_rowShownAt 9 = .ok (.ireturn, 1) := by decide +kernel
theorem dX11_rowShownAt_10 : decode cX11_rowShownAt 10 = .ok (.aload_n 0, 1) := by decide +kernel
theorem dX11_rowShownAt_11 : decode cX11_rowShownAt 11 = .ok (.getfield 48, 3) := by decide +kernel
theorem dX11_rowShownAt_14 : decode cX11_rowShownAt 14 = .ok (.getfield 129, 3) := by decide +kernel
theorem dX11_rowShownAt_17 : decode cX11_rowShownAt 17 = .ok (.istore_n 2, 1) := by decide +kernel
theorem dX11_rowShownAt_18 : decode cX11_rowShownAt 18 = .ok (.aload_n 0, 1) := by decide +kernel
theorem dX11_rowShownAt_19 : decode cX11_rowShownAt 19 = .ok (.getfield 48, 3) := by decide +kernel
theorem dX11_rowShownAt_22 : decode cX11_rowShownAt 22 = .ok (.aload_n 0, 1) := by decide +kernel
theorem dX11_rowShownAt_23 : decode cX11_rowShownAt 23 = .ok (.getfield 10, 3) := by decide +kernel
theorem dX11_rowShownAt_26 : decode cX11_rowShownAt 26 = .ok (.iload_n 1, 1) := by decide +kernel
theorem dX11_rowShownAt_27 : decode cX11_rowShownAt 27 = .ok (.invokevirtual 141, 3) := by decide +kernel
theorem dX11_rowShownAt_30 : decode cX11_rowShownAt 30 = .ok (.istore_n 3, 1) := by decide +kernel
theorem dX11_rowShownAt_31 : decode cX11_rowShownAt 31 = .ok (.aload_n 0, 1) := by decide +kernel
theorem dX11_rowShownAt_32 : decode cX11_rowShownAt 32 = .ok (.invokevirtual 221, 3) := by decide +kernel
theorem dX11_rowShownAt_35 : decode cX11_rowShownAt 35 = .ok (.istore 4, 2) := by decide +kernel
theorem dX11_rowShownAt_37 : decode cX11_rowShownAt 37 = .ok (.iload 4, 2) := by decide +kernel
theorem dX11_rowShownAt_39 : decode cX11_rowShownAt 39 = .ok (.iload_n 3, 1) := by decide +kernel
theorem dX11_rowShownAt_40 : decode cX11_rowShownAt 40 = .ok (.if_icmp .gt 35, 3) := by decide +kernel
theorem dX11_rowShownAt_43 : decode cX11_rowShownAt 43 = .ok (.iload_n 2, 1) := by decide +kernel
theorem dX11_rowShownAt_44 : decode cX11_rowShownAt 44 = .ok (.aload_n 0, 1) := by decide +kernel
theorem dX11_rowShownAt_45 : decode cX11_rowShownAt 45 = .ok (.getfield 10, 3) := by decide +kernel
theorem dX11_rowShownAt_48 : decode cX11_rowShownAt 48 = .ok (.aload_n 0, 1) := by decide +kernel
theorem dX11_rowShownAt_49 : decode cX11_rowShownAt 49 = .ok (.getfield 48, 3) := by decide +kernel
theorem dX11_rowShownAt_52 : decode cX11_rowShownAt 52 = .ok (.aload_n 0, 1) := by decide +kernel
theorem dX11_rowShownAt_53 : decode cX11_rowShownAt 53 = .ok (.getfield 10, 3) := by decide +kernel
theorem dX11_rowShownAt_56 : decode cX11_rowShownAt 56 = .ok (.iload 4, 2) := by decide +kernel
theorem dX11_rowShownAt_58 : decode cX11_rowShownAt 58 = .ok (.invokevirtual 141, 3) := by decide +kernel
theorem dX11_rowShownAt_61 : decode cX11_rowShownAt 61 = .ok (.iload_n 2, 1) := by decide +kernel
theorem dX11_rowShownAt_62 : decode cX11_rowShownAt 62 = .ok (.invokevirtual 145, 3) := by decide +kernel
theorem dX11_rowShownAt_65 : decode cX11_rowShownAt 65 = .ok (.iconst (-1), 1) := by decide +kernel
theorem dX11_rowShownAt_66 : decode cX11_rowShownAt 66 = .ok (.ixor, 1) := by decide +kernel
theorem dX11_rowShownAt_67 : decode cX11_rowShownAt 67 = .ok (.iand, 1) := by decide +kernel
theorem dX11_rowShownAt_68 : decode cX11_rowShownAt 68 = .ok (.istore_n 2, 1) := by decide +kernel
theorem dX11_rowShownAt_69 : decode cX11_rowShownAt 69 = .ok (.iinc 4 1, 3) := by decide +kernel
theorem dX11_rowShownAt_72 : decode cX11_rowShownAt 72 = .ok (.goto (-35), 3) := by decide +kernel
theorem dX11_rowShownAt_75 : decode cX11_rowShownAt 75 = .ok (.iload_n 2, 1) := by decide +kernel
theorem dX11_rowShownAt_76 : decode cX11_rowShownAt 76 = .ok (.ireturn, 1) := by decide +kernel
theorem dX11_minutesTogether_0 : decode cX11_minutesTogether 0 = .ok (.aload_n 0, 1) := by decide +kernel
theorem dX11_minutesTogether_1 : decode cX11_minutesTogether 1 = .ok (.getfield 48, 3) := by decide +kernel
theorem dX11_minutesTogether_4 : decode cX11_minutesTogether 4 = .ok (.getfield 129, 3) := by decide +kernel
theorem dX11_minutesTogether_7 : decode cX11_minutesTogether 7 = .ok (.istore_n 2, 1) := by decide +kernel
theorem dX11_minutesTogether_8 : decode cX11_minutesTogether 8 = .ok (.iconst 0, 1) := by decide +kernel
theorem dX11_minutesTogether_9 : decode cX11_minutesTogether 9 = .ok (.istore_n 3, 1) := by decide +kernel
theorem dX11_minutesTogether_10 : decode cX11_minutesTogether 10 = .ok (.aload_n 0, 1) := by decide +kernel
theorem dX11_minutesTogether_11 : decode cX11_minutesTogether 11 = .ok (.invokevirtual 221, 3) := by decide +kernel
theorem dX11_minutesTogether_14 : decode cX11_minutesTogether 14 = .ok (.istore 4, 2) := by decide +kernel
theorem dX11_minutesTogether_16 : decode cX11_minutesTogether 16 = .ok (.iload 4, 2) := by decide +kernel
theorem dX11_minutesTogether_18 : decode cX11_minutesTogether 18 = .ok (.aload_n 0, 1) := by decide +kernel
theorem dX11_minutesTogether_19 : decode cX11_minutesTogether 19 = .ok (.getfield 10, 3) := by decide +kernel
theorem dX11_minutesTogether_22 : decode cX11_minutesTogether 22 = .ok (.getfield 149, 3) := by decide +kernel
theorem dX11_minutesTogether_25 : decode cX11_minutesTogether 25 = .ok (.if_icmp .ge 56, 3) := by decide +kernel
theorem dX11_minutesTogether_28 : decode cX11_minutesTogether 28 = .ok (.aload_n 0, 1) := by decide +kernel
theorem dX11_minutesTogether_29 : decode cX11_minutesTogether 29 = .ok (.getfield 48, 3) := by decide +kernel
theorem dX11_minutesTogether_32 : decode cX11_minutesTogether 32 = .ok (.aload_n 0, 1) := by decide +kernel
theorem dX11_minutesTogether_33 : decode cX11_minutesTogether 33 = .ok (.getfield 10, 3) := by decide +kernel
theorem dX11_minutesTogether_36 : decode cX11_minutesTogether 36 = .ok (.iload 4, 2) := by decide +kernel
theorem dX11_minutesTogether_38 : decode cX11_minutesTogether 38 = .ok (.invokevirtual 141, 3) := by decide +kernel
theorem dX11_minutesTogether_41 : decode cX11_minutesTogether 41 = .ok (.istore 5, 2) := by decide +kernel
theorem dX11_minutesTogether_43 : decode cX11_minutesTogether 43 = .ok (.iload 5, 2) := by decide +kernel
theorem dX11_minutesTogether_45 : decode cX11_minutesTogether 45 = .ok (.iload_n 1, 1) := by decide +kernel
theorem dX11_minutesTogether_46 : decode cX11_minutesTogether 46 = .ok (.if_icmp .eq 18, 3) := by decide +kernel
theorem dX11_minutesTogether_49 : decode cX11_minutesTogether 49 = .ok (.iload_n 2, 1) := by decide +kernel
theorem dX11_minutesTogether_50 : decode cX11_minutesTogether 50 = .ok (.aload_n 0, 1) := by decide +kernel
theorem dX11_minutesTogether_51 : decode cX11_minutesTogether 51 = .ok (.getfield 10, 3) := by decide +kernel
theorem dX11_minutesTogether_54 : decode cX11_minutesTogether 54 = .ok (.iload 5, 2) := by decide +kernel
theorem dX11_minutesTogether_56 : decode cX11_minutesTogether 56 = .ok (.iload_n 2, 1) := by decide +kernel
theorem dX11_minutesTogether_57 : decode cX11_minutesTogether 57 = .ok (.invokevirtual 145, 3) := by decide +kernel
theorem dX11_minutesTogether_60 : decode cX11_minutesTogether 60 = .ok (.iconst (-1), 1) := by decide +kernel
theorem dX11_minutesTogether_61 : decode cX11_minutesTogether 61 = .ok (.ixor, 1) := by decide +kernel
theorem dX11_minutesTogether_62 : decode cX11_minutesTogether 62 = .ok (.iand, 1) := by decide +kernel
theorem dX11_minutesTogether_63 : decode cX11_minutesTogether 63 = .ok (.istore_n 2, 1) := by decide +kernel
theorem dX11_minutesTogether_64 : decode cX11_minutesTogether 64 = .ok (.iload_n 3, 1) := by decide +kernel
theorem dX11_minutesTogether_65 : decode cX11_minutesTogether 65 = .ok (.aload_n 0, 1) := by decide +kernel
theorem dX11_minutesTogether_66 : decode cX11_minutesTogether 66 = .ok (.getfield 10, 3) := by decide +kernel
theorem dX11_minutesTogether_69 : decode cX11_minutesTogether 69 = .ok (.iload_n 2, 1) := by decide +kernel
theorem dX11_minutesTogether_70 : decode cX11_minutesTogether 70 = .ok (.invokevirtual 159, 3) := by decide +kernel
theorem dX11_minutesTogether_73 : decode cX11_minutesTogether 73 = .ok (.iadd, 1) := by decide +kernel
theorem dX11_minutesTogether_74 : decode cX11_minutesTogether 74 = .ok (.istore_n 3, 1) := by decide +kernel
theorem dX11_minutesTogether_75 : decode cX11_minutesTogether 75 = .ok (.iinc 4 1, 3) := by decide +kernel
theorem dX11_minutesTogether_78 : decode cX11_minutesTogether 78 = .ok (.goto (-62), 3) := by decide +kernel
theorem dX11_minutesTogether_81 : decode cX11_minutesTogether 81 = .ok (.iload_n 3, 1) := by decide +kernel
theorem dX11_minutesTogether_82 : decode cX11_minutesTogether 82 = .ok (.ireturn, 1) := by decide +kernel
theorem dX11_fillRows_0 : decode cX11_fillRows 0 = .ok (.iconst 0, 1) := by decide +kernel
theorem dX11_fillRows_1 : decode cX11_fillRows 1 = .ok (.istore_n 1, 1) := by decide +kernel
theorem dX11_fillRows_2 : decode cX11_fillRows 2 = .ok (.iload_n 1, 1) := by decide +kernel
theorem dX11_fillRows_3 : decode cX11_fillRows 3 = .ok (.bipush 6, 2) := by decide +kernel
theorem dX11_fillRows_5 : decode cX11_fillRows 5 = .ok (.if_icmp .ge 40, 3) := by decide +kernel
theorem dX11_fillRows_8 : decode cX11_fillRows 8 = .ok (.aload_n 0, 1) := by decide +kernel
theorem dX11_fillRows_9 : decode cX11_fillRows 9 = .ok (.getfield 90, 3) := by decide +kernel
theorem dX11_fillRows_12 : decode cX11_fillRows 12 = .ok (.iload_n 1, 1) := by decide +kernel
theorem dX11_fillRows_13 : decode cX11_fillRows 13 = .ok (.aload_n 0, 1) := by decide +kernel
theorem dX11_fillRows_14 : decode cX11_fillRows 14 = .ok (.getfield 48, 3) := by decide +kernel
theorem dX11_fillRows_17 : decode cX11_fillRows 17 = .ok (.getfield 129, 3) := by decide +kernel
theorem dX11_fillRows_20 : decode cX11_fillRows 20 = .ok (.aload_n 0, 1) := by decide +kernel
theorem dX11_fillRows_21 : decode cX11_fillRows 21 = .ok (.getfield 10, 3) := by decide +kernel
theorem dX11_fillRows_24 : decode cX11_fillRows 24 = .ok (.iload_n 1, 1) := by decide +kernel
theorem dX11_fillRows_25 : decode cX11_fillRows 25 = .ok (.aload_n 0, 1) := by decide +kernel
theorem dX11_fillRows_26 : decode cX11_fillRows 26 = .ok (.getfield 48, 3) := by decide +kernel
theorem dX11_fillRows_29 : decode cX11_fillRows 29 = .ok (.getfield 129, 3) := by decide +kernel
theorem dX11_fillRows_32 : decode cX11_fillRows 32 = .ok (.invokevirtual 145, 3) := by decide +kernel
theorem dX11_fillRows_35 : decode cX11_fillRows 35 = .ok (.iconst (-1), 1) := by decide +kernel
theorem dX11_fillRows_36 : decode cX11_fillRows 36 = .ok (.ixor, 1) := by decide +kernel
theorem dX11_fillRows_37 : decode cX11_fillRows 37 = .ok (.iand, 1) := by decide +kernel
theorem dX11_fillRows_38 : decode cX11_fillRows 38 = .ok (.iastore, 1) := by decide +kernel
theorem dX11_fillRows_39 : decode cX11_fillRows 39 = .ok (.iinc 1 1, 3) := by decide +kernel
theorem dX11_fillRows_42 : decode cX11_fillRows 42 = .ok (.goto (-40), 3) := by decide +kernel
theorem dX11_fillRows_45 : decode cX11_fillRows 45 = .ok (.return_, 1) := by decide +kernel
theorem dX11_seenBy_0 : decode cX11_seenBy 0 = .ok (.iconst 0, 1) := by decide +kernel
theorem dX11_seenBy_1 : decode cX11_seenBy 1 = .ok (.istore_n 2, 1) := by decide +kernel
theorem dX11_seenBy_2 : decode cX11_seenBy 2 = .ok (.iconst 0, 1) := by decide +kernel
theorem dX11_seenBy_3 : decode cX11_seenBy 3 = .ok (.istore_n 3, 1) := by decide +kernel
theorem dX11_seenBy_4 : decode cX11_seenBy 4 = .ok (.iload_n 3, 1) := by decide +kernel
theorem dX11_seenBy_5 : decode cX11_seenBy 5 = .ok (.aload_n 0, 1) := by decide +kernel
theorem dX11_seenBy_6 : decode cX11_seenBy 6 = .ok (.getfield 10, 3) := by decide +kernel
theorem dX11_seenBy_9 : decode cX11_seenBy 9 = .ok (.getfield 149, 3) := by decide +kernel
theorem dX11_seenBy_12 : decode cX11_seenBy 12 = .ok (.if_icmp .ge 37, 3) := by decide +kernel
theorem dX11_seenBy_15 : decode cX11_seenBy 15 = .ok (.iload_n 1, 1) := by decide +kernel
theorem dX11_seenBy_16 : decode cX11_seenBy 16 = .ok (.iload_n 3, 1) := by decide +kernel
theorem dX11_seenBy_17 : decode cX11_seenBy 17 = .ok (.ishr, 1) := by decide +kernel
theorem dX11_seenBy_18 : decode cX11_seenBy 18 = .ok (.iconst 1, 1) := by decide +kernel
theorem dX11_seenBy_19 : decode cX11_seenBy 19 = .ok (.iand, 1) := by decide +kernel
theorem dX11_seenBy_20 : decode cX11_seenBy 20 = .ok (.iconst 1, 1) := by decide +kernel
theorem dX11_seenBy_21 : decode cX11_seenBy 21 = .ok (.if_icmp .ne 22, 3) := by decide +kernel
theorem dX11_seenBy_24 : decode cX11_seenBy 24 = .ok (.iload_n 2, 1) := by decide +kernel
theorem dX11_seenBy_25 : decode cX11_seenBy 25 = .ok (.aload_n 0, 1) := by decide +kernel
theorem dX11_seenBy_26 : decode cX11_seenBy 26 = .ok (.getfield 90, 3) := by decide +kernel
theorem dX11_seenBy_29 : decode cX11_seenBy 29 = .ok (.iload_n 3, 1) := by decide +kernel
theorem dX11_seenBy_30 : decode cX11_seenBy 30 = .ok (.iaload, 1) := by decide +kernel
theorem dX11_seenBy_31 : decode cX11_seenBy 31 = .ok (.aload_n 0, 1) := by decide +kernel
theorem dX11_seenBy_32 : decode cX11_seenBy 32 = .ok (.getfield 48, 3) := by decide +kernel
theorem dX11_seenBy_35 : decode cX11_seenBy 35 = .ok (.getfield 138, 3) := by decide +kernel
theorem dX11_seenBy_38 : decode cX11_seenBy 38 = .ok (.iload_n 3, 1) := by decide +kernel
theorem dX11_seenBy_39 : decode cX11_seenBy 39 = .ok (.iaload, 1) := by decide +kernel
theorem dX11_seenBy_40 : decode cX11_seenBy 40 = .ok (.ior, 1) := by decide +kernel
theorem dX11_seenBy_41 : decode cX11_seenBy 41 = .ok (.ior, 1) := by decide +kernel
theorem dX11_seenBy_42 : decode cX11_seenBy 42 = .ok (.istore_n 2, 1) := by decide +kernel
theorem dX11_seenBy_43 : decode cX11_seenBy 43 = .ok (.iinc 3 1, 3) := by decide +kernel
theorem dX11_seenBy_46 : decode cX11_seenBy 46 = .ok (.goto (-42), 3) := by decide +kernel
theorem dX11_seenBy_49 : decode cX11_seenBy 49 = .ok (.iload_n 2, 1) := by decide +kernel
theorem dX11_seenBy_50 : decode cX11_seenBy 50 = .ok (.ireturn, 1) := by decide +kernel
theorem dX11_greaterPart_0 : decode cX11_greaterPart 0 = .ok (.iconst 0, 1) := by decide +kernel
theorem dX11_greaterPart_1 : decode cX11_greaterPart 1 = .ok (.istore_n 3, 1) := by decide +kernel
theorem dX11_greaterPart_2 : decode cX11_greaterPart 2 = .ok (.iconst 0, 1) := by decide +kernel
theorem dX11_greaterPart_3 : decode cX11_greaterPart 3 = .ok (.istore 4, 2) := by decide +kernel
theorem dX11_greaterPart_5 : decode cX11_greaterPart 5 = .ok (.iload 4, 2) := by decide +kernel
theorem dX11_greaterPart_7 : decode cX11_greaterPart 7 = .ok (.aload_n 0, 1) := by decide +kernel
theorem dX11_greaterPart_8 : decode cX11_greaterPart 8 = .ok (.getfield 10, 3) := by decide +kernel
theorem dX11_greaterPart_11 : decode cX11_greaterPart 11 = .ok (.getfield 149, 3) := by decide +kernel
theorem dX11_greaterPart_14 : decode cX11_greaterPart 14 = .ok (.if_icmp .ge 33, 3) := by decide +kernel
theorem dX11_greaterPart_17 : decode cX11_greaterPart 17 = .ok (.iload_n 1, 1) := by decide +kernel
theorem dX11_greaterPart_18 : decode cX11_greaterPart 18 = .ok (.iload 4, 2) := by decide +kernel
theorem dX11_greaterPart_20 : decode cX11_greaterPart 20 = .ok (.ishr, 1) := by decide +kernel
theorem dX11_greaterPart_21 : decode cX11_greaterPart 21 = .ok (.iconst 1, 1) := by decide +kernel
theorem dX11_greaterPart_22 : decode cX11_greaterPart 22 = .ok (.iand, 1) := by decide +kernel
theorem dX11_greaterPart_23 : decode cX11_greaterPart 23 = .ok (.iconst 1, 1) := by decide +kernel
theorem dX11_greaterPart_24 : decode cX11_greaterPart 24 = .ok (.if_icmp .ne 17, 3) := by decide +kernel
theorem dX11_greaterPart_27 : decode cX11_greaterPart 27 = .ok (.iload_n 3, 1) := by decide +kernel
theorem dX11_greaterPart_28 : decode cX11_greaterPart 28 = .ok (.aload_n 0, 1) := by decide +kernel
theorem dX11_greaterPart_29 : decode cX11_greaterPart 29 = .ok (.getfield 90, 3) := by decide +kernel
theorem dX11_greaterPart_32 : decode cX11_greaterPart 32 = .ok (.iload 4, 2) := by decide +kernel
theorem dX11_greaterPart_34 : decode cX11_greaterPart 34 = .ok (.iaload, 1) := by decide +kernel
theorem dX11_greaterPart_35 : decode cX11_greaterPart 35 = .ok (.iload_n 2, 1) := by decide +kernel
theorem dX11_greaterPart_36 : decode cX11_greaterPart 36 = .ok (.ishr, 1) := by decide +kernel
theorem dX11_greaterPart_37 : decode cX11_greaterPart 37 = .ok (.iconst 1, 1) := by decide +kernel
theorem dX11_greaterPart_38 : decode cX11_greaterPart 38 = .ok (.iand, 1) := by decide +kernel
theorem dX11_greaterPart_39 : decode cX11_greaterPart 39 = .ok (.iadd, 1) := by decide +kernel
theorem dX11_greaterPart_40 : decode cX11_greaterPart 40 = .ok (.istore_n 3, 1) := by decide +kernel
theorem dX11_greaterPart_41 : decode cX11_greaterPart 41 = .ok (.iinc 4 1, 3) := by decide +kernel
theorem dX11_greaterPart_44 : decode cX11_greaterPart 44 = .ok (.goto (-39), 3) := by decide +kernel
theorem dX11_greaterPart_47 : decode cX11_greaterPart 47 = .ok (.iload_n 3, 1) := by decide +kernel
theorem dX11_greaterPart_48 : decode cX11_greaterPart 48 = .ok (.iload_n 1, 1) := by decide +kernel
theorem dX11_greaterPart_49 : decode cX11_greaterPart 49 = .ok (.invokestatic 171, 3) := by decide +kernel
theorem dX11_greaterPart_52 : decode cX11_greaterPart 52 = .ok (.iload_n 3, 1) := by decide +kernel
theorem dX11_greaterPart_53 : decode cX11_greaterPart 53 = .ok (.isub, 1) := by decide +kernel
theorem dX11_greaterPart_54 : decode cX11_greaterPart 54 = .ok (.invokestatic 252, 3) := by decide +kernel
theorem dX11_greaterPart_57 : decode cX11_greaterPart 57 = .ok (.ireturn, 1) := by decide +kernel
theorem dX11_giveBackByDraw_0 : decode cX11_giveBackByDraw 0 = .ok (.aload_n 0, 1) := by decide +kernel
theorem dX11_giveBackByDraw_1 : decode cX11_giveBackByDraw 1 = .ok (.getfield 52, 3) := by decide +kernel
theorem dX11_giveBackByDraw_4 : decode cX11_giveBackByDraw 4 = .ok (.invokevirtual 276, 3) := by decide +kernel
theorem dX11_giveBackByDraw_7 : decode cX11_giveBackByDraw 7 = .ok (.istore_n 1, 1) := by decide +kernel
theorem dX11_giveBackByDraw_8 : decode cX11_giveBackByDraw 8 = .ok (.iload_n 1, 1) := by decide +kernel
theorem dX11_giveBackByDraw_9 : decode cX11_giveBackByDraw 9 = .ok (.ifCond .eq 14, 3) := by decide +kernel
theorem dX11_giveBackByDraw_12 : decode cX11_giveBackByDraw 12 = .ok (.aload_n 0, 1) := by decide +kernel
theorem dX11_giveBackByDraw_13 : decode cX11_giveBackByDraw 13 = .ok (.getfield 86, 3) := by decide +kernel
theorem dX11_giveBackByDraw_16 : decode cX11_giveBackByDraw 16 = .ok (.iconst 4, 1) := by decide +kernel
theorem dX11_giveBackByDraw_17 : decode cX11_giveBackByDraw 17 = .ok (.invokevirtual 313, 3) := by decide +kernel
theorem dX11_giveBackByDraw_20 : decode cX11_giveBackByDraw 20 = .ok (.ifCond .eq 4, 3) := by decide +kernel
theorem dX11_giveBackByDraw_23 : decode cX11_giveBackByDraw 23 = .ok (.return_, 1) := by decide +kernel
theorem dX11_giveBackByDraw_24 : decode cX11_giveBackByDraw 24 = .ok (.aload_n 0, 1) := by decide +kernel
theorem dX11_giveBackByDraw_25 : decode cX11_giveBackByDraw 25 = .ok (.getfield 10, 3) := by decide +kernel
theorem dX11_giveBackByDraw_28 : decode cX11_giveBackByDraw 28 = .ok (.iload_n 1, 1) := by decide +kernel
theorem dX11_giveBackByDraw_29 : decode cX11_giveBackByDraw 29 = .ok (.aload_n 0, 1) := by decide +kernel
theorem dX11_giveBackByDraw_30 : decode cX11_giveBackByDraw 30 = .ok (.getfield 86, 3) := by decide +kernel
theorem dX11_giveBackByDraw_33 : decode cX11_giveBackByDraw 33 = .ok (.iload_n 1, 1) := by decide +kernel
theorem dX11_giveBackByDraw_34 : decode cX11_giveBackByDraw 34 = .ok (.invokestatic 171, 3) := by decide +kernel
theorem dX11_giveBackByDraw_37 : decode cX11_giveBackByDraw 37 = .ok (.invokevirtual 313, 3) := by decide +kernel
theorem dX11_giveBackByDraw_40 : decode cX11_giveBackByDraw 40 = .ok (.invokevirtual 218, 3) := by decide +kernel
theorem dX11_giveBackByDraw_43 : decode cX11_giveBackByDraw 43 = .ok (.istore_n 2, 1) := by decide +kernel
theorem dX11_giveBackByDraw_44 : decode cX11_giveBackByDraw 44 = .ok (.iload_n 2, 1) := by decide +kernel
theorem dX11_giveBackByDraw_45 : decode cX11_giveBackByDraw 45 = .ok (.iconst (-1), 1) := by decide +kernel
theorem dX11_giveBackByDraw_46 : decode cX11_giveBackByDraw 46 = .ok (.if_icmp .eq 19, 3) := by decide +kernel
theorem dX11_giveBackByDraw_49 : decode cX11_giveBackByDraw 49 = .ok (.aload_n 0, 1) := by decide +kernel
theorem dX11_giveBackByDraw_50 : decode cX11_giveBackByDraw 50 = .ok (.getfield 52, 3) := by decide +kernel
theorem dX11_giveBackByDraw_53 : decode cX11_giveBackByDraw 53 = .ok (.aload_n 0, 1) := by decide +kernel
theorem dX11_giveBackByDraw_54 : decode cX11_giveBackByDraw 54 = .ok (.getfield 52, 3) := by decide +kernel
theorem dX11_giveBackByDraw_57 : decode cX11_giveBackByDraw 57 = .ok (.iload_n 2, 1) := by decide +kernel
theorem dX11_giveBackByDraw_58 : decode cX11_giveBackByDraw 58 = .ok (.invokevirtual 282, 3) := by decide +kernel
theorem dX11_giveBackByDraw_61 : decode cX11_giveBackByDraw 61 = .ok (.iload_n 2, 1) := by decide +kernel
theorem dX11_giveBackByDraw_62 : decode cX11_giveBackByDraw 62 = .ok (.invokevirtual 167, 3) := by decide +kernel
theorem dX11_giveBackByDraw_65 : decode cX11_giveBackByDraw 65 = .ok (.return_, 1) := by decide +kernel
theorem dX11_isBid_0 : decode cX11_isBid 0 = .ok (.iload_n 0, 1) := by decide +kernel
theorem dX11_isBid_1 : decode cX11_isBid 1 = .ok (.ifCond .lt 13, 3) := by decide +kernel
theorem dX11_isBid_4 : decode cX11_isBid 4 = .ok (.iload_n 0, 1) := by decide +kernel
theorem dX11_isBid_5 : decode cX11_isBid 5 = .ok (.bipush 9, 2) := by decide +kernel
theorem dX11_isBid_7 : decode cX11_isBid 7 = .ok (.if_icmp .gt 7, 3) := by decide +kernel
theorem dX11_isBid_10 : decode cX11_isBid 10 = .ok (.iconst 1, 1) := by decide +kernel
theorem dX11_isBid_11 : decode cX11_isBid 11 = .ok (.goto 4, 3) := by decide +kernel
theorem dX11_isBid_14 : decode cX11_isBid 14 = .ok (.iconst 0, 1) := by decide +kernel
theorem dX11_isBid_15 : decode cX11_isBid 15 = .ok (.ireturn, 1) := by decide +kernel
theorem dX11_isAtRest_0 : decode cX11_isAtRest 0 = .ok (.iload_n 3, 1) := by decide +kernel
theorem dX11_isAtRest_1 : decode cX11_isAtRest 1 = .ok (.iconst 1, 1) := by decide +kernel
theorem dX11_isAtRest_2 : decode cX11_isAtRest 2 = .ok (.ishr, 1) := by decide +kernel
theorem dX11_isAtRest_3 : decode cX11_isAtRest 3 = .ok (.istore 4, 2) := by decide +kernel
theorem dX11_isAtRest_5 : decode cX11_isAtRest 5 = .ok (.iload_n 3, 1) := by decide +kernel
theorem dX11_isAtRest_6 : decode cX11_isAtRest 6 = .ok (.iconst 1, 1) := by decide +kernel
theorem dX11_isAtRest_7 : decode cX11_isAtRest 7 = .ok (.iand, 1) := by decide +kernel
theorem dX11_isAtRest_8 : decode cX11_isAtRest 8 = .ok (.istore 5, 2) := by decide +kernel
theorem dX11_isAtRest_10 : decode cX11_isAtRest 10 = .ok (.iload_n 0, 1) := by decide +kernel
theorem dX11_isAtRest_11 : decode cX11_isAtRest 11 = .ok (.iload_n 1, 1) := by decide +kernel
theorem dX11_isAtRest_12 : decode cX11_isAtRest 12 = .ok (.iload_n 2, 1) := by decide +kernel
theorem dX11_isAtRest_13 : decode cX11_isAtRest 13 = .ok (.iload 4, 2) := by decide +kernel
theorem dX11_isAtRest_15 : decode cX11_isAtRest 15 = .ok (.iload 5, 2) := by decide +kernel
theorem dX11_isAtRest_17 : decode cX11_isAtRest 17 = .ok (.invokestatic 351, 3) := by decide +kernel
theorem dX11_isAtRest_20 : decode cX11_isAtRest 20 = .ok (.iload_n 0, 1) := by decide +kernel
theorem dX11_isAtRest_21 : decode cX11_isAtRest 21 = .ok (.iload_n 1, 1) := by decide +kernel
theorem dX11_isAtRest_22 : decode cX11_isAtRest 22 = .ok (.iload_n 2, 1) := by decide +kernel
theorem dX11_isAtRest_23 : decode cX11_isAtRest 23 = .ok (.iconst 1, 1) := by decide +kernel
theorem dX11_isAtRest_24 : decode cX11_isAtRest 24 = .ok (.iload 4, 2) := by decide +kernel
theorem dX11_isAtRest_26 : decode cX11_isAtRest 26 = .ok (.isub, 1) := by decide +kernel
theorem dX11_isAtRest_27 : decode cX11_isAtRest 27 = .ok (.iload 5, 2) := by decide +kernel
theorem dX11_isAtRest_29 : decode cX11_isAtRest 29 = .ok (.invokestatic 351, 3) := by decide +kernel
theorem dX11_isAtRest_32 : decode cX11_isAtRest 32 = .ok (.if_icmp .lt 32, 3) := by decide +kernel
theorem dX11_isAtRest_35 : decode cX11_isAtRest 35 = .ok (.iload_n 0, 1) := by decide +kernel
theorem dX11_isAtRest_36 : decode cX11_isAtRest 36 = .ok (.iload_n 1, 1) := by decide +kernel
theorem dX11_isAtRest_37 : decode cX11_isAtRest 37 = .ok (.iload_n 2, 1) := by decide +kernel
theorem dX11_isAtRest_38 : decode cX11_isAtRest 38 = .ok (.iload 5, 2) := by decide +kernel
theorem dX11_isAtRest_40 : decode cX11_isAtRest 40 = .ok (.iload 4, 2) := by decide +kernel
theorem dX11_isAtRest_42 : decode cX11_isAtRest 42 = .ok (.invokestatic 351, 3) := by decide +kernel
theorem dX11_isAtRest_45 : decode cX11_isAtRest 45 = .ok (.iload_n 0, 1) := by decide +kernel
theorem dX11_isAtRest_46 : decode cX11_isAtRest 46 = .ok (.iload_n 1, 1) := by decide +kernel
theorem dX11_isAtRest_47 : decode cX11_isAtRest 47 = .ok (.iload_n 2, 1) := by decide +kernel
theorem dX11_isAtRest_48 : decode cX11_isAtRest 48 = .ok (.iconst 1, 1) := by decide +kernel
theorem dX11_isAtRest_49 : decode cX11_isAtRest 49 = .ok (.iload 5, 2) := by decide +kernel
theorem dX11_isAtRest_51 : decode cX11_isAtRest 51 = .ok (.isub, 1) := by decide +kernel
theorem dX11_isAtRest_52 : decode cX11_isAtRest 52 = .ok (.iload 4, 2) := by decide +kernel
theorem dX11_isAtRest_54 : decode cX11_isAtRest 54 = .ok (.invokestatic 351, 3) := by decide +kernel
theorem dX11_isAtRest_57 : decode cX11_isAtRest 57 = .ok (.if_icmp .lt 7, 3) := by decide +kernel
theorem dX11_isAtRest_60 : decode cX11_isAtRest 60 = .ok (.iconst 1, 1) := by decide +kernel
theorem dX11_isAtRest_61 : decode cX11_isAtRest 61 = .ok (.goto 4, 3) := by decide +kernel
theorem dX11_isAtRest_64 : decode cX11_isAtRest 64 = .ok (.iconst 0, 1) := by decide +kernel
theorem dX11_isAtRest_65 : decode cX11_isAtRest 65 = .ok (.ireturn, 1) := by decide +kernel
theorem dX11_gain_0 : decode cX11_gain 0 = .ok (.iload_n 3, 1) := by decide +kernel
theorem dX11_gain_1 : decode cX11_gain 1 = .ok (.iload 4, 2) := by decide +kernel
theorem dX11_gain_3 : decode cX11_gain 3 = .ok (.if_icmp .ne 14, 3) := by decide +kernel
theorem dX11_gain_6 : decode cX11_gain 6 = .ok (.iload_n 3, 1) := by decide +kernel
theorem dX11_gain_7 : decode cX11_gain 7 = .ok (.iconst 1, 1) := by decide +kernel
theorem dX11_gain_8 : decode cX11_gain 8 = .ok (.if_icmp .ne 7, 3) := by decide +kernel
theorem dX11_gain_11 : decode cX11_gain 11 = .ok (.iload_n 0, 1) := by decide +kernel
theorem dX11_gain_12 : decode cX11_gain 12 = .ok (.goto 4, 3) := by decide +kernel
theorem dX11_gain_15 : decode cX11_gain 15 = .ok (.iload_n 1, 1) := by decide +kernel
theorem dX11_gain_16 : decode cX11_gain 16 = .ok (.ireturn, 1) := by decide +kernel
theorem dX11_gain_17 : decode cX11_gain 17 = .ok (.iload_n 3, 1) := by decide +kernel
theorem dX11_gain_18 : decode cX11_gain 18 = .ok (.iconst 1, 1) := by decide +kernel
theorem dX11_gain_19 : decode cX11_gain 19 = .ok (.if_icmp .ne 7, 3) := by decide +kernel
theorem dX11_gain_22 : decode cX11_gain 22 = .ok (.iload_n 2, 1) := by decide +kernel
theorem dX11_gain_23 : decode cX11_gain 23 = .ok (.goto 4, 3) := by decide +kernel
theorem dX11_gain_26 : decode cX11_gain 26 = .ok (.iconst 0, 1) := by decide +kernel
theorem dX11_gain_27 : decode cX11_gain 27 = .ok (.ireturn, 1) := by decide +kernel
