theorem dX7_init_0 : decode cX7_init 0 = .ok (.aload_n 0, 1) := by decide +kernel
theorem dX7_init_1 : decode cX7_init 1 = .ok (.invokespecial 1, 3) := by decide +kernel
theorem dX7_init_4 : decode cX7_init 4 = .ok (.aload_n 0, 1) := by decide +kernel
theorem dX7_init_5 : decode cX7_init 5 = .ok (.bipush 8, 2) := by decide +kernel
theorem dX7_init_7 : decode cX7_init 7 = .ok (.newarray .int, 2) := by decide +kernel
theorem dX7_init_9 : decode cX7_init 9 = .ok (.putfield 7, 3) := by decide +kernel
theorem dX7_init_12 : decode cX7_init 12 = .ok (.aload_n 0, 1) := by decide +kernel
theorem dX7_init_13 : decode cX7_init 13 = .ok (.bipush 8, 2) := by decide +kernel
theorem dX7_init_15 : decode cX7_init 15 = .ok (.newarray .int, 2) := by decide +kernel
theorem dX7_init_17 : decode cX7_init 17 = .ok (.putfield 13, 3) := by decide +kernel
theorem dX7_init_20 : decode cX7_init 20 = .ok (.aload_n 0, 1) := by decide +kernel
theorem dX7_init_21 : decode cX7_init 21 = .ok (.sipush 320, 3) := by decide +kernel
theorem dX7_init_24 : decode cX7_init 24 = .ok (.newarray .int, 2) := by decide +kernel
theorem dX7_init_26 : decode cX7_init 26 = .ok (.putfield 16, 3) := by decide +kernel
theorem dX7_init_29 : decode cX7_init 29 = .ok (.aload_n 0, 1) := by decide +kernel
theorem dX7_init_30 : decode cX7_init 30 = .ok (.bipush 40, 2) := by decide +kernel
theorem dX7_init_32 : decode cX7_init 32 = .ok (.newarray .int, 2) := by decide +kernel
theorem dX7_init_34 : decode cX7_init 34 = .ok (.putfield 19, 3) := by decide +kernel
theorem dX7_init_37 : decode cX7_init 37 = .ok (.aload_n 0, 1) := by decide +kernel
theorem dX7_init_38 : decode cX7_init 38 = .ok (.bipush 120, 2) := by decide +kernel
theorem dX7_init_40 : decode cX7_init 40 = .ok (.newarray .int, 2) := by decide +kernel
theorem dX7_init_42 : decode cX7_init 42 = .ok (.putfield 22, 3) := by decide +kernel
theorem dX7_init_45 : decode cX7_init 45 = .ok (.aload_n 0, 1) := by decide +kernel
theorem dX7_init_46 : decode cX7_init 46 = .ok (.bipush 42, 2) := by decide +kernel
theorem dX7_init_48 : decode cX7_init 48 = .ok (.newarray .int, 2) := by decide +kernel
theorem dX7_init_50 : decode cX7_init 50 = .ok (.putfield 25, 3) := by decide +kernel
theorem dX7_init_53 : decode cX7_init 53 = .ok (.aload_n 0, 1) := by decide +kernel
theorem dX7_init_54 : decode cX7_init 54 = .ok (.bipush 42, 2) := by decide +kernel
theorem dX7_init_56 : decode cX7_init 56 = .ok (.newarray .int, 2) := by decide +kernel
theorem dX7_init_58 : decode cX7_init 58 = .ok (.putfield 28, 3) := by decide +kernel
theorem dX7_init_61 : decode cX7_init 61 = .ok (.aload_n 0, 1) := by decide +kernel
theorem dX7_init_62 : decode cX7_init 62 = .ok (.bipush 42, 2) := by decide +kernel
theorem dX7_init_64 : decode cX7_init 64 = .ok (.newarray .int, 2) := by decide +kernel
theorem dX7_init_66 : decode cX7_init 66 = .ok (.putfield 31, 3) := by decide +kernel
theorem dX7_init_69 : decode cX7_init 69 = .ok (.aload_n 0, 1) := by decide +kernel
theorem dX7_init_70 : decode cX7_init 70 = .ok (.sipush 1008, 3) := by decide +kernel
theorem dX7_init_73 : decode cX7_init 73 = .ok (.newarray .int, 2) := by decide +kernel
theorem dX7_init_75 : decode cX7_init 75 = .ok (.putfield 34, 3) := by decide +kernel
theorem dX7_init_78 : decode cX7_init 78 = .ok (.aload_n 0, 1) := by decide +kernel
theorem dX7_init_79 : decode cX7_init 79 = .ok (.bipush 84, 2) := by decide +kernel
theorem dX7_init_81 : decode cX7_init 81 = .ok (.newarray .int, 2) := by decide +kernel
theorem dX7_init_83 : decode cX7_init 83 = .ok (.putfield 37, 3) := by decide +kernel
theorem dX7_init_86 : decode cX7_init 86 = .ok (.aload_n 0, 1) := by decide +kernel
theorem dX7_init_87 : decode cX7_init 87 = .ok (.iconst 2, 1) := by decide +kernel
theorem dX7_init_88 : decode cX7_init 88 = .ok (.newarray .boolean, 2) := by decide +kernel
theorem dX7_init_90 : decode cX7_init 90 = .ok (.putfield 40, 3) := by decide +kernel
theorem dX7_init_93 : decode cX7_init 93 = .ok (.aload_n 0, 1) := by decide +kernel
theorem dX7_init_94 : decode cX7_init 94 = .ok (.bipush 8, 2) := by decide +kernel
theorem dX7_init_96 : decode cX7_init 96 = .ok (.newarray .int, 2) := by decide +kernel
theorem dX7_init_98 : decode cX7_init 98 = .ok (.putfield 44, 3) := by decide +kernel
theorem dX7_init_101 : decode cX7_init 101 = .ok (.aload_n 0, 1) := by decide +kernel
theorem dX7_init_102 : decode cX7_init 102 = .ok (.bipush 9, 2) := by decide +kernel
theorem dX7_init_104 : decode cX7_init 104 = .ok (.newarray .int, 2) := by decide +kernel
theorem dX7_init_106 : decode cX7_init 106 = .ok (.putfield 47, 3) := by decide +kernel
theorem dX7_init_109 : decode cX7_init 109 = .ok (.aload_n 0, 1) := by decide +kernel
theorem dX7_init_110 : decode cX7_init 110 = .ok (.bipush 9, 2) := by decide +kernel
theorem dX7_init_112 : decode cX7_init 112 = .ok (.newarray .int, 2) := by decide +kernel
theorem dX7_init_114 : decode cX7_init 114 = .ok (.putfield 50, 3) := by decide +kernel
theorem dX7_init_117 : decode cX7_init 117 = .ok (.aload_n 0, 1) := by decide +kernel
theorem dX7_init_118 : decode cX7_init 118 = .ok (.bipush 9, 2) := by decide +kernel
theorem dX7_init_120 : decode cX7_init 120 = .ok (.newarray .int, 2) := by decide +kernel
theorem dX7_init_122 : decode cX7_init 122 = .ok (.putfield 53, 3) := by decide +kernel
theorem dX7_init_125 : decode cX7_init 125 = .ok (.aload_n 0, 1) := by decide +kernel
theorem dX7_init_126 : decode cX7_init 126 = .ok (.bipush 9, 2) := by decide +kernel
theorem dX7_init_128 : decode cX7_init 128 = .ok (.newarray .int, 2) := by decide +kernel
theorem dX7_init_130 : decode cX7_init 130 = .ok (.putfield 56, 3) := by decide +kernel
theorem dX7_init_133 : decode cX7_init 133 = .ok (.aload_n 0, 1) := by decide +kernel
theorem dX7_init_134 : decode cX7_init 134 = .ok (.bipush 8, 2) := by decide +kernel
theorem dX7_init_136 : decode cX7_init 136 = .ok (.newarray .int, 2) := by decide +kernel
theorem dX7_init_138 : decode cX7_init 138 = .ok (.putfield 59, 3) := by decide +kernel
theorem dX7_init_141 : decode cX7_init 141 = .ok (.aload_n 0, 1) := by decide +kernel
theorem dX7_init_142 : decode cX7_init 142 = .ok (.bipush 16, 2) := by decide +kernel
theorem dX7_init_144 : decode cX7_init 144 = .ok (.newarray .int, 2) := by decide +kernel
theorem dX7_init_146 : decode cX7_init 146 = .ok (.putfield 62, 3) := by decide +kernel
theorem dX7_init_149 : decode cX7_init 149 = .ok (.iconst 0, 1) := by decide +kernel
theorem dX7_init_150 : decode cX7_init 150 = .ok (.istore_n 1, 1) := by decide +kernel
theorem dX7_init_151 : decode cX7_init 151 = .ok (.iload_n 1, 1) := by decide +kernel
theorem dX7_init_152 : decode cX7_init 152 = .ok (.bipush 8, 2) := by decide +kernel
theorem dX7_init_154 : decode cX7_init 154 = .ok (.if_icmp .ge 17, 3) := by decide +kernel
theorem dX7_init_157 : decode cX7_init 157 = .ok (.aload_n 0, 1) := by decide +kernel
theorem dX7_init_158 : decode cX7_init 158 = .ok (.getfield 7, 3) := by decide +kernel
theorem dX7_init_161 : decode cX7_init 161 = .ok (.iload_n 1, 1) := by decide +kernel
theorem dX7_init_162 : decode cX7_init 162 = .ok (.ldc 65, 2) := by decide +kernel
theorem dX7_init_164 : decode cX7_init 164 = .ok (.iastore, 1) := by decide +kernel
theorem dX7_init_165 : decode cX7_init 165 = .ok (.iinc 1 1, 3) := by decide +kernel
theorem dX7_init_168 : decode cX7_init 168 = .ok (.goto (-17), 3) := by decide +kernel
theorem dX7_init_171 : decode cX7_init 171 = .ok (.return_, 1) := by decide +kernel
theorem dX7_in_0 : decode cX7_in 0 = .ok (.iload_n 0, 1) := by decide +kernel
theorem dX7_in_1 : decode cX7_in 1 = .ok (.iload_n 1, 1) := by decide +kernel
theorem dX7_in_2 : decode cX7_in 2 = .ok (.if_icmp .lt 12, 3) := by decide +kernel
theorem dX7_in_5 : decode cX7_in 5 = .ok (.iload_n 0, 1) := by decide +kernel
theorem dX7_in_6 : decode cX7_in 6 = .ok (.iload_n 2, 1) := by decide +kernel
theorem dX7_in_7 : decode cX7_in 7 = .ok (.if_icmp .gt 7, 3) := by decide +kernel
theorem dX7_in_10 : decode cX7_in 10 = .ok (.iconst 1, 1) := by decide +kernel
theorem dX7_in_11 : decode cX7_in 11 = .ok (.goto 4, 3) := by decide +kernel
theorem dX7_in_14 : decode cX7_in 14 = .ok (.iconst 0, 1) := by decide +kernel
theorem dX7_in_15 : decode cX7_in 15 = .ok (.ireturn, 1) := by decide +kernel
theorem dX7_has_0 : decode cX7_has 0 = .ok (.iload_n 0, 1) := by decide +kernel
theorem dX7_has_1 : decode cX7_has 1 = .ok (.iload_n 1, 1) := by decide +kernel
theorem dX7_has_2 : decode cX7_has 2 = .ok (.ishr, 1) := by decide +kernel
theorem dX7_has_3 : decode cX7_has 3 = .ok (.iconst 1, 1) := by decide +kernel
theorem dX7_has_4 : decode cX7_has 4 = .ok (.iand, 1) := by decide +kernel
theorem dX7_has_5 : decode cX7_has 5 = .ok (.iconst 1, 1) := by decide +kernel
theorem dX7_has_6 : decode cX7_has 6 = .ok (.if_icmp .ne 7, 3) := by decide +kernel
theorem dX7_has_9 : decode cX7_has 9 = .ok (.iconst 1, 1) := by decide +kernel
theorem dX7_has_10 : decode cX7_has 10 = .ok (.goto 4, 3) := by decide +kernel
theorem dX7_has_13 : decode cX7_has 13 = .ok (.iconst 0, 1) := by decide +kernel
theorem dX7_has_14 : decode cX7_has 14 = .ok (.ireturn, 1) := by decide +kernel
theorem dX7_found_0 : decode cX7_found 0 = .ok (.aload_n 0, 1) := by decide +kernel
theorem dX7_found_1 : decode cX7_found 1 = .ok (.iload_n 1, 1) := by decide +kernel
theorem dX7_found_2 : decode cX7_found 2 = .ok (.putfield 66, 3) := by decide +kernel
theorem dX7_found_5 : decode cX7_found 5 = .ok (.ldc 70, 2) := by decide +kernel
theorem dX7_found_7 : decode cX7_found 7 = .ok (.iload_n 1, 1) := by decide +kernel
theorem dX7_found_8 : decode cX7_found 8 = .ok (.isub, 1) := by decide +kernel
theorem dX7_found_9 : decode cX7_found 9 = .ok (.ireturn, 1) := by decide +kernel
theorem dX7_well_0 : decode cX7_well 0 = .ok (.aload_n 0, 1) := by decide +kernel
theorem dX7_well_1 : decode cX7_well 1 = .ok (.iconst 0, 1) := by decide +kernel
theorem dX7_well_2 : decode cX7_well 2 = .ok (.putfield 66, 3) := by decide +kernel
theorem dX7_well_5 : decode cX7_well 5 = .ok (.iload_n 1, 1) := by decide +kernel
theorem dX7_well_6 : decode cX7_well 6 = .ok (.ireturn, 1) := by decide +kernel
theorem dX7_copies_0 : decode cX7_copies 0 = .ok (.iconst 0, 1) := by decide +kernel
theorem dX7_copies_1 : decode cX7_copies 1 = .ok (.istore 4, 2) := by decide +kernel
theorem dX7_copies_3 : decode cX7_copies 3 = .ok (.iload 4, 2) := by decide +kernel
theorem dX7_copies_5 : decode cX7_copies 5 = .ok (.bipush 42, 2) := by decide +kernel
theorem dX7_copies_7 : decode cX7_copies 7 = .ok (.if_icmp .ge 21, 3) := by decide +kernel
theorem dX7_copies_10 : decode cX7_copies 10 = .ok (.aload_n 2, 1) := by decide +kernel
theorem dX7_copies_11 : decode cX7_copies 11 = .ok (.iload_n 3, 1) := by decide +kernel
theorem dX7_copies_12 : decode cX7_copies 12 = .ok (.iload 4, 2) := by decide +kernel
theorem dX7_copies_14 : decode cX7_copies 14 = .ok (.iadd, 1) := by decide +kernel
theorem dX7_copies_15 : decode cX7_copies 15 = .ok (.aload_n 0, 1) := by decide +kernel
theorem dX7_copies_16 : decode cX7_copies 16 = .ok (.iload_n 1, 1) := by decide +kernel
theorem dX7_copies_17 : decode cX7_copies 17 = .ok (.iload 4, 2) := by decide +kernel
theorem dX7_copies_19 : decode cX7_copies 19 = .ok (.iadd, 1) := by decide +kernel
theorem dX7_copies_20 : decode cX7_copies 20 = .ok (.iaload, 1) := by decide +kernel
theorem dX7_copies_21 : decode cX7_copies 21 = .ok (.iastore, 1) := by decide +kernel
theorem dX7_copies_22 : decode cX7_copies 22 = .ok (.iinc 4 1, 3) := by decide +kernel
theorem dX7_copies_25 : decode cX7_copies 25 = .ok (.goto (-22), 3) := by decide +kernel
theorem dX7_copies_28 : decode cX7_copies 28 = .ok (.return_, 1) := by decide +kernel
theorem dX7_isRow_0 : decode cX7_isRow 0 = .ok (.iload_n 0, 1) := by decide +kernel
theorem dX7_isRow_1 : decode cX7_isRow 1 = .ok (.iconst 0, 1) := by decide +kernel
theorem dX7_isRow_2 : decode cX7_isRow 2 = .ok (.bipush 7, 2) := by decide +kernel
theorem dX7_isRow_4 : decode cX7_isRow 4 = .ok (.invokestatic 71, 3) := by decide +kernel
theorem dX7_isRow_7 : decode cX7_isRow 7 = .ok (.ireturn, 1) := by decide +kernel
theorem dX7_isMissing_0 : decode cX7_isMissing 0 = .ok (.aload_n 0, 1) := by decide +kernel
theorem dX7_isMissing_1 : decode cX7_isMissing 1 = .ok (.getfield 7, 3) := by decide +kernel
theorem dX7_isMissing_4 : decode cX7_isMissing 4 = .ok (.iload_n 1, 1) := by decide +kernel
theorem dX7_isMissing_5 : decode cX7_isMissing 5 = .ok (.iaload, 1) := by decide +kernel
theorem dX7_isMissing_6 : decode cX7_isMissing 6 = .ok (.ldc 65, 2) := by decide +kernel
theorem dX7_isMissing_8 : decode cX7_isMissing 8 = .ok (.if_icmp .ne 7, 3) := by decide +kernel
theorem dX7_isMissing_11 : decode cX7_isMissing 11 = .ok (.iconst 1, 1) := by decide +kernel
theorem dX7_isMissing_12 : decode cX7_isMissing 12 = .ok (.goto 4, 3) := by decide +kernel
theorem dX7_isMissing_15 : decode cX7_isMissing 15 = .ok (.iconst 0, 1) := by decide +kernel
theorem dX7_isMissing_16 : decode cX7_isMissing 16 = .ok (.ireturn, 1) := by decide +kernel
theorem dX7_cut_0 : decode cX7_cut 0 = .ok (.iload_n 0, 1) := by decide +kernel
theorem dX7_cut_1 : decode cX7_cut 1 = .ok (.ifCond .ne 13, 3) := by decide +kernel
theorem dX7_cut_4 : decode cX7_cut 4 = .ok (.iload_n 1, 1) := by decide +kernel
theorem dX7_cut_5 : decode cX7_cut 5 = .ok (.bipush 24, 2) := by decide +kernel
theorem dX7_cut_7 : decode cX7_cut 7 = .ok (.ishl, 1) := by decide +kernel
theorem dX7_cut_8 : decode cX7_cut 8 = .ok (.bipush 24, 2) := by decide +kernel
theorem dX7_cut_10 : decode cX7_cut 10 = .ok (.ishr, 1) := by decide +kernel
theorem dX7_cut_11 : decode cX7_cut 11 = .ok (.goto 19, 3) := by decide +kernel
theorem dX7_cut_14 : decode cX7_cut 14 = .ok (.iload_n 0, 1) := by decide +kernel
theorem dX7_cut_15 : decode cX7_cut 15 = .ok (.iconst 1, 1) := by decide +kernel
theorem dX7_cut_16 : decode cX7_cut 16 = .ok (.if_icmp .ne 13, 3) := by decide +kernel
theorem dX7_cut_19 : decode cX7_cut 19 = .ok (.iload_n 1, 1) := by decide +kernel
theorem dX7_cut_20 : decode cX7_cut 20 = .ok (.bipush 16, 2) := by decide +kernel
theorem dX7_cut_22 : decode cX7_cut 22 = .ok (.ishl, 1) := by decide +kernel
theorem dX7_cut_23 : decode cX7_cut 23 = .ok (.bipush 16, 2) := by decide +kernel
theorem dX7_cut_25 : decode cX7_cut 25 = .ok (.ishr, 1) := by decide +kernel
theorem dX7_cut_26 : decode cX7_cut 26 = .ok (.goto 4, 3) := by decide +kernel
theorem dX7_cut_29 : decode cX7_cut 29 = .ok (.iload_n 1, 1) := by decide +kernel
theorem dX7_cut_30 : decode cX7_cut 30 = .ok (.ireturn, 1) := by decide +kernel
theorem dX7_row_0 : decode cX7_row 0 = .ok (.iload_n 1, 1) := by decide +kernel
theorem dX7_row_1 : decode cX7_row 1 = .ok (.invokestatic 75, 3) := by decide +kernel
theorem dX7_row_4 : decode cX7_row 4 = .ok (.ifCond .eq 18, 3) := by decide +kernel
theorem dX7_row_7 : decode cX7_row 7 = .ok (.iload_n 2, 1) := by decide +kernel
theorem dX7_row_8 : decode cX7_row 8 = .ok (.iconst 0, 1) := by decide +kernel
theorem dX7_row_9 : decode cX7_row 9 = .ok (.iconst 2, 1) := by decide +kernel
theorem dX7_row_10 : decode cX7_row 10 = .ok (.invokestatic 71, 3) := by decide +kernel
theorem dX7_row_13 : decode cX7_row 13 = .ok (.ifCond .eq 9, 3) := by decide +kernel
theorem dX7_row_16 : decode cX7_row 16 = .ok (.iload_n 3, 1) := by decide +kernel
theorem dX7_row_17 : decode cX7_row 17 = .ok (.bipush 40, 2) := by decide +kernel
theorem dX7_row_19 : decode cX7_row 19 = .ok (.if_icmp .le 6, 3) := by decide +kernel
theorem dX7_row_22 : decode cX7_row 22 = .ok (.ldc 79, 2) := by decide +kernel
theorem dX7_row_24 : decode cX7_row 24 = .ok (.ireturn, 1) := by decide +kernel
theorem dX7_row_25 : decode cX7_row 25 = .ok (.iload_n 3, 1) := by decide +kernel
theorem dX7_row_26 : decode cX7_row 26 = .ok (.ifCond .ge 9, 3) := by decide +kernel
theorem dX7_row_29 : decode cX7_row 29 = .ok (.aload_n 0, 1) := by decide +kernel
theorem dX7_row_30 : decode cX7_row 30 = .ok (.iconst 4, 1) := by decide +kernel
theorem dX7_row_31 : decode cX7_row 31 = .ok (.invokevirtual 80, 3) := by decide +kernel
theorem dX7_row_34 : decode cX7_row 34 = .ok (.ireturn, 1) := by decide +kernel
theorem dX7_row_35 : decode cX7_row 35 = .ok (.aload_n 0, 1) := by decide +kernel
theorem dX7_row_36 : decode cX7_row 36 = .ok (.getfield 7, 3) := by decide +kernel
theorem dX7_row_39 : decode cX7_row 39 = .ok (.iload_n 1, 1) := by decide +kernel
theorem dX7_row_40 : decode cX7_row 40 = .ok (.iload_n 2, 1) := by decide +kernel
theorem dX7_row_41 : decode cX7_row 41 = .ok (.iastore, 1) := by decide +kernel
theorem dX7_row_42 : decode cX7_row 42 = .ok (.aload_n 0, 1) := by decide +kernel
theorem dX7_row_43 : decode cX7_row 43 = .ok (.getfield 13, 3) := by decide +kernel
theorem dX7_row_46 : decode cX7_row 46 = .ok (.iload_n 1, 1) := by decide +kernel
theorem dX7_row_47 : decode cX7_row 47 = .ok (.iload_n 3, 1) := by decide +kernel
theorem dX7_row_48 : decode cX7_row 48 = .ok (.iastore, 1) := by decide +kernel
theorem dX7_row_49 : decode cX7_row 49 = .ok (.iconst 0, 1) := by decide +kernel
theorem dX7_row_50 : decode cX7_row 50 = .ok (.istore 4, 2) := by decide +kernel
theorem dX7_row_52 : decode cX7_row 52 = .ok (.iload 4, 2) := by decide +kernel
theorem dX7_row_54 : decode cX7_row 54 = .ok (.bipush 40, 2) := by decide +kernel
theorem dX7_row_56 : decode cX7_row 56 = .ok (.if_icmp .ge 22, 3) := by decide +kernel
theorem dX7_row_59 : decode cX7_row 59 = .ok (.aload_n 0, 1) := by decide +kernel
theorem dX7_row_60 : decode cX7_row 60 = .ok (.getfield 16, 3) := by decide +kernel
theorem dX7_row_63 : decode cX7_row 63 = .ok (.bipush 40, 2) := by decide +kernel
theorem dX7_row_65 : decode cX7_row 65 = .ok (.iload_n 1, 1) := by decide +kernel
theorem dX7_row_66 : decode cX7_row 66 = .ok (.imul, 1) := by decide +kernel
theorem dX7_row_67 : decode cX7_row 67 = .ok (.iload 4, 2) := by decide +kernel
theorem dX7_row_69 : decode cX7_row 69 = .ok (.iadd, 1) := by decide +kernel
theorem dX7_row_70 : decode cX7_row 70 = .ok (.iconst 0, 1) := by decide +kernel
theorem dX7_row_71 : decode cX7_row 71 = .ok (.iastore, 1) := by decide +kernel
theorem dX7_row_72 : decode cX7_row 72 = .ok (.iinc 4 1, 3) := by decide +kernel
theorem dX7_row_75 : decode cX7_row 75 = .ok (.goto (-23), 3) := by decide +kernel
theorem dX7_row_78 : decode cX7_row 78 = .ok (.aload_n 0, 1) := by decide +kernel
theorem dX7_row_79 : decode cX7_row 79 = .ok (.iload_n 3, 1) := by decide +kernel
theorem dX7_row_80 : decode cX7_row 80 = .ok (.invokevirtual 84, 3) := by decide +kernel
theorem dX7_row_83 : decode cX7_row 83 = .ok (.ireturn, 1) := by decide +kernel
theorem dX7_set_0 : decode cX7_set 0 = .ok (.iload_n 1, 1) := by decide +kernel
theorem dX7_set_1 : decode cX7_set 1 = .ok (.invokestatic 75, 3) := by decide +kernel
theorem dX7_set_4 : decode cX7_set 4 = .ok (.ifCond .ne 6, 3) := by decide +kernel
theorem dX7_set_7 : decode cX7_set 7 = .ok (.ldc 79, 2) := by decide +kernel
theorem dX7_set_9 : decode cX7_set 9 = .ok (.ireturn, 1) := by decide +kernel
theorem dX7_set_10 : decode cX7_set 10 = .ok (.aload_n 0, 1) := by decide +kernel
theorem dX7_set_11 : decode cX7_set 11 = .ok (.iload_n 1, 1) := by decide +kernel
theorem dX7_set_12 : decode cX7_set 12 = .ok (.invokevirtual 87, 3) := by decide +kernel
theorem dX7_set_15 : decode cX7_set 15 = .ok (.ifCond .eq 9, 3) := by decide +kernel
theorem dX7_set_18 : decode cX7_set 18 = .ok (.aload_n 0, 1) := by decide +kernel
theorem dX7_set_19 : decode cX7_set 19 = .ok (.iconst 1, 1) := by decide +kernel
theorem dX7_set_20 : decode cX7_set 20 = .ok (.invokevirtual 80, 3) := by decide +kernel
theorem dX7_set_23 : decode cX7_set 23 = .ok (.ireturn, 1) := by decide +kernel
theorem dX7_set_24 : decode cX7_set 24 = .ok (.iload_n 2, 1) := by decide +kernel
theorem dX7_set_25 : decode cX7_set 25 = .ok (.iconst 0, 1) := by decide +kernel
theorem dX7_set_26 : decode cX7_set 26 = .ok (.aload_n 0, 1) := by decide +kernel
theorem dX7_set_27 : decode cX7_set 27 = .ok (.getfield 13, 3) := by decide +kernel
theorem dX7_set_30 : decode cX7_set 30 = .ok (.iload_n 1, 1) := by decide +kernel
theorem dX7_set_31 : decode cX7_set 31 = .ok (.iaload, 1) := by decide +kernel
theorem dX7_set_32 : decode cX7_set 32 = .ok (.iconst 1, 1) := by decide +kernel
theorem dX7_set_33 : decode cX7_set 33 = .ok (.isub, 1) := by decide +kernel
theorem dX7_set_34 : decode cX7_set 34 = .ok (.invokestatic 71, 3) := by decide +kernel
theorem dX7_set_37 : decode cX7_set 37 = .ok (.ifCond .ne 9, 3) := by decide +kernel
theorem dX7_set_40 : decode cX7_set 40 = .ok (.aload_n 0, 1) := by decide +kernel
theorem dX7_set_41 : decode cX7_set 41 = .ok (.iconst 2, 1) := by decide +kernel
theorem dX7_set_42 : decode cX7_set 42 = .ok (.invokevirtual 80, 3) := by decide +kernel
theorem dX7_set_45 : decode cX7_set 45 = .ok (.ireturn, 1) := by decide +kernel
theorem dX7_set_46 : decode cX7_set 46 = .ok (.aload_n 0, 1) := by decide +kernel
theorem dX7_set_47 : decode cX7_set 47 = .ok (.getfield 16, 3) := by decide +kernel
theorem dX7_set_50 : decode cX7_set 50 = .ok (.bipush 40, 2) := by decide +kernel
theorem dX7_set_52 : decode cX7_set 52 = .ok (.iload_n 1, 1) := by decide +kernel
theorem dX7_set_53 : decode cX7_set 53 = .ok (.imul, 1) := by decide +kernel
theorem dX7_set_54 : decode cX7_set 54 = .ok (.iload_n 2, 1) := by decide +kernel
theorem dX7_set_55 : decode cX7_set 55 = .ok (.iadd, 1) := by decide +kernel
theorem dX7_set_56 : decode cX7_set 56 = .ok (.aload_n 0, 1) := by decide +kernel
theorem dX7_set_57 : decode cX7_set 57 = .ok (.getfield 7, 3) := by decide +kernel
theorem dX7_set_60 : decode cX7_set 60 = .ok (.iload_n 1, 1) := by decide +kernel
theorem dX7_set_61 : decode cX7_set 61 = .ok (.iaload, 1) := by decide +kernel
theorem dX7_set_62 : decode cX7_set 62 = .ok (.iload_n 3, 1) := by decide +kernel
theorem dX7_set_63 : decode cX7_set 63 = .ok (.invokestatic 90, 3) := by decide +kernel
theorem dX7_set_66 : decode cX7_set 66 = .ok (.iastore, 1) := by decide +kernel
theorem dX7_set_67 : decode cX7_set 67 = .ok (.aload_n 0, 1) := by decide +kernel
theorem dX7_set_68 : decode cX7_set 68 = .ok (.aload_n 0, 1) := by decide +kernel
theorem dX7_set_69 : decode cX7_set 69 = .ok (.getfield 16, 3) := by decide +kernel
theorem dX7_set_72 : decode cX7_set 72 = .ok (.bipush 40, 2) := by decide +kernel
theorem dX7_set_74 : decode cX7_set 74 = .ok (.iload_n 1, 1) := by decide +kernel
theorem dX7_set_75 : decode cX7_set 75 = .ok (.imul, 1) := by decide +kernel
theorem dX7_set_76 : decode cX7_set 76 = .ok (.iload_n 2, 1) := by decide +kernel
theorem dX7_set_77 : decode cX7_set 77 = .ok (.iadd, 1) := by decide +kernel
theorem dX7_set_78 : decode cX7_set 78 = .ok (.iaload, 1) := by decide +kernel
theorem dX7_set_79 : decode cX7_set 79 = .ok (.invokevirtual 84, 3) := by decide +kernel
theorem dX7_set_82 : decode cX7_set 82 = .ok (.ireturn, 1) := by decide +kernel
theorem dX7_isPart_0 : decode cX7_isPart 0 = .ok (.iload_n 2, 1) := by decide +kernel
theorem dX7_isPart_1 : decode cX7_isPart 1 = .ok (.ifCond .lt 33, 3) := by decide +kernel
theorem dX7_isPart_4 : decode cX7_isPart 4 = .ok (.iload_n 3, 1) := by decide +kernel
theorem dX7_isPart_5 : decode cX7_isPart 5 = .ok (.ifCond .lt 29, 3) := by decide +kernel
theorem dX7_isPart_8 : decode cX7_isPart 8 = .ok (.iload_n 2, 1) := by decide +kernel
theorem dX7_isPart_9 : decode cX7_isPart 9 = .ok (.aload_n 0, 1) := by decide +kernel
theorem dX7_isPart_10 : decode cX7_isPart 10 = .ok (.getfield 13, 3) := by decide +kernel
theorem dX7_isPart_13 : decode cX7_isPart 13 = .ok (.iload_n 1, 1) := by decide +kernel
theorem dX7_isPart_14 : decode cX7_isPart 14 = .ok (.iaload, 1) := by decide +kernel
theorem dX7_isPart_15 : decode cX7_isPart 15 = .ok (.if_icmp .gt 19, 3) := by decide +kernel
theorem dX7_isPart_18 : decode cX7_isPart 18 = .ok (.iload_n 3, 1) := by decide +kernel
theorem dX7_isPart_19 : decode cX7_isPart 19 = .ok (.aload_n 0, 1) := by decide +kernel
theorem dX7_isPart_20 : decode cX7_isPart 20 = .ok (.getfield 13, 3) := by decide +kernel
theorem dX7_isPart_23 : decode cX7_isPart 23 = .ok (.iload_n 1, 1) := by decide +kernel
theorem dX7_isPart_24 : decode cX7_isPart 24 = .ok (.iaload, 1) := by decide +kernel
theorem dX7_isPart_25 : decode cX7_isPart 25 = .ok (.iload_n 2, 1) := by decide +kernel
theorem dX7_isPart_26 : decode cX7_isPart 26 = .ok (.isub, 1) := by decide +kernel
theorem dX7_isPart_27 : decode cX7_isPart 27 = .ok (.if_icmp .gt 7, 3) := by decide +kernel
theorem dX7_isPart_30 : decode cX7_isPart 30 = .ok (.iconst 1, 1) := by decide +kernel
theorem dX7_isPart_31 : decode cX7_isPart 31 = .ok (.goto 4, 3) := by decide +kernel
theorem dX7_isPart_34 : decode cX7_isPart 34 = .ok (.iconst 0, 1) := by decide +kernel
theorem dX7_isPart_35 : decode cX7_isPart 35 = .ok (.ireturn, 1) := by decide +kernel
theorem dX7_copy_0 : decode cX7_copy 0 = .ok (.iload_n 1, 1) := by decide +kernel
theorem dX7_copy_1 : decode cX7_copy 1 = .ok (.invokestatic 75, 3) := by decide +kernel
theorem dX7_copy_4 : decode cX7_copy 4 = .ok (.ifCond .eq 10, 3) := by decide +kernel
theorem dX7_copy_7 : decode cX7_copy 7 = .ok (.iload_n 3, 1) := by decide +kernel
theorem dX7_copy_8 : decode cX7_copy 8 = .ok (.invokestatic 75, 3) := by decide +kernel
theorem dX7_copy_11 : decode cX7_copy 11 = .ok (.ifCond .ne 6, 3) := by decide +kernel
theorem dX7_copy_14 : decode cX7_copy 14 = .ok (.ldc 79, 2) := by decide +kernel
theorem dX7_copy_16 : decode cX7_copy 16 = .ok (.ireturn, 1) := by decide +kernel
theorem dX7_copy_17 : decode cX7_copy 17 = .ok (.aload_n 0, 1) := by decide +kernel
theorem dX7_copy_18 : decode cX7_copy 18 = .ok (.iload_n 1, 1) := by decide +kernel
theorem dX7_copy_19 : decode cX7_copy 19 = .ok (.invokevirtual 87, 3) := by decide +kernel
theorem dX7_copy_22 : decode cX7_copy 22 = .ok (.ifCond .ne 11, 3) := by decide +kernel
theorem dX7_copy_25 : decode cX7_copy 25 = .ok (.aload_n 0, 1) := by decide +kernel
theorem dX7_copy_26 : decode cX7_copy 26 = .ok (.iload_n 3, 1) := by decide +kernel
theorem dX7_copy_27 : decode cX7_copy 27 = .ok (.invokevirtual 87, 3) := by decide +kernel
theorem dX7_copy_30 : decode cX7_copy 30 = .ok (.ifCond .eq 9, 3) := by decide +kernel
theorem dX7_copy_33 : decode cX7_copy 33 = .ok (.aload_n 0, 1) := by decide +kernel
theorem dX7_copy_34 : decode cX7_copy 34 = .ok (.iconst 1, 1) := by decide +kernel
theorem dX7_copy_35 : decode cX7_copy 35 = .ok (.invokevirtual 80, 3) := by decide +kernel
theorem dX7_copy_38 : decode cX7_copy 38 = .ok (.ireturn, 1) := by decide +kernel
theorem dX7_copy_39 : decode cX7_copy 39 = .ok (.aload_n 0, 1) := by decide +kernel
theorem dX7_copy_40 : decode cX7_copy 40 = .ok (.getfield 7, 3) := by decide +kernel
theorem dX7_copy_43 : decode cX7_copy 43 = .ok (.iload_n 1, 1) := by decide +kernel
theorem dX7_copy_44 : decode cX7_copy 44 = .ok (.iaload, 1) := by decide +kernel
theorem dX7_copy_45 : decode cX7_copy 45 = .ok (.aload_n 0, 1) := by decide +kernel
theorem dX7_copy_46 : decode cX7_copy 46 = .ok (.getfield 7, 3) := by decide +kernel
theorem dX7_copy_49 : decode cX7_copy 49 = .ok (.iload_n 3, 1) := by decide +kernel
theorem dX7_copy_50 : decode cX7_copy 50 = .ok (.iaload, 1) := by decide +kernel
theorem dX7_copy_51 : decode cX7_copy 51 = .ok (.if_icmp .eq 9, 3) := by decide +kernel
theorem dX7_copy_54 : decode cX7_copy 54 = .ok (.aload_n 0, 1) := by decide +kernel
theorem dX7_copy_55 : decode cX7_copy 55 = .ok (.iconst 5, 1) := by decide +kernel
theorem dX7_copy_56 : decode cX7_copy 56 = .ok (.invokevirtual 80, 3) := by decide +kernel
theorem dX7_copy_59 : decode cX7_copy 59 = .ok (.ireturn, 1) := by decide +kernel
theorem dX7_copy_60 : decode cX7_copy 60 = .ok (.aload_n 0, 1) := by decide +kernel
theorem dX7_copy_61 : decode cX7_copy 61 = .ok (.iload_n 1, 1) := by decide +kernel
theorem dX7_copy_62 : decode cX7_copy 62 = .ok (.iload_n 2, 1) := by decide +kernel
theorem dX7_copy_63 : decode cX7_copy 63 = .ok (.iload 5, 2) := by decide +kernel
theorem dX7_copy_65 : decode cX7_copy 65 = .ok (.invokevirtual 94, 3) := by decide +kernel
theorem dX7_copy_68 : decode cX7_copy 68 = .ok (.ifCond .eq 15, 3) := by decide +kernel
theorem dX7_copy_71 : decode cX7_copy 71 = .ok (.aload_n 0, 1) := by decide +kernel
theorem dX7_copy_72 : decode cX7_copy 72 = .ok (.iload_n 3, 1) := by decide +kernel
theorem dX7_copy_73 : decode cX7_copy 73 = .ok (.iload 4, 2) := by decide +kernel
theorem dX7_copy_75 : decode cX7_copy 75 = .ok (.iload 5, 2) := by decide +kernel
theorem dX7_copy_77 : decode cX7_copy 77 = .ok (.invokevirtual 94, 3) := by decide +kernel
theorem dX7_copy_80 : decode cX7_copy 80 = .ok (.ifCond .ne 9, 3) := by decide +kernel
theorem dX7_copy_83 : decode cX7_copy 83 = .ok (.aload_n 0, 1) := by decide +kernel
theorem dX7_copy_84 : decode cX7_copy 84 = .ok (.iconst 2, 1) := by decide +kernel
theorem dX7_copy_85 : decode cX7_copy 85 = .ok (.invokevirtual 80, 3) := by decide +kernel
theorem dX7_copy_88 : decode cX7_copy 88 = .ok (.ireturn, 1) := by decide +kernel
theorem dX7_copy_89 : decode cX7_copy 89 = .ok (.iconst 0, 1) := by decide +kernel
theorem dX7_copy_90 : decode cX7_copy 90 = .ok (.istore 6, 2) := by decide +kernel
theorem dX7_copy_92 : decode cX7_copy 92 = .ok (.iload 6, 2) := by decide +kernel
theorem dX7_copy_94 : decode cX7_copy 94 = .ok (.iload 5, 2) := by decide +kernel
theorem dX7_copy_96 : decode cX7_copy 96 = .ok (.if_icmp .ge 30, 3) := by decide +kernel
theorem dX7_copy_99 : decode cX7_copy 99 = .ok (.aload_n 0, 1) := by decide +kernel
theorem dX7_copy_100 : decode cX7_copy 100 = .ok (.getfield 19, 3) := by decide +kernel
theorem dX7_copy_103 : decode cX7_copy 103 = .ok (.iload 6, 2) := by decide +kernel
theorem dX7_copy_105 : decode cX7_copy 105 = .ok (.aload_n 0, 1) := by decide +kernel
theorem dX7_copy_106 : decode cX7_copy 106 = .ok (.getfield 16, 3) := by decide +kernel
theorem dX7_copy_109 : decode cX7_copy 109 = .ok (.bipush 40, 2) := by decide +kernel
theorem dX7_copy_111 : decode cX7_copy 111 = .ok (.iload_n 1, 1) := by decide +kernel
theorem dX7_copy_112 : decode cX7_copy 112 = .ok (.imul, 1) := by decide +kernel
theorem dX7_copy_113 : decode cX7_copy 113 = .ok (.iload_n 2, 1) := by decide +kernel
theorem dX7_copy_114 : decode cX7_copy 114 = .ok (.iadd, 1) := by decide +kernel
theorem dX7_copy_115 : decode cX7_copy 115 = .ok (.iload 6, 2) := by decide +kernel
theorem dX7_copy_117 : decode cX7_copy 117 = .ok (.iadd, 1) := by decide +kernel
theorem dX7_copy_118 : decode cX7_copy 118 = .ok (.iaload, 1) := by decide +kernel
theorem dX7_copy_119 : decode cX7_copy 119 = .ok (.iastore, 1) := by decide +kernel
theorem dX7_copy_120 : decode cX7_copy 120 = .ok (.iinc 6 1, 3) := by decide +kernel
theorem dX7_copy_123 : decode cX7_copy 123 = .ok (.goto (-31), 3) := by decide +kernel
theorem dX7_copy_126 : decode cX7_copy 126 = .ok (.iconst 0, 1) := by decide +kernel
theorem dX7_copy_127 : decode cX7_copy 127 = .ok (.istore 6, 2) := by decide +kernel
theorem dX7_copy_129 : decode cX7_copy 129 = .ok (.iload 6, 2) := by decide +kernel
theorem dX7_copy_131 : decode cX7_copy 131 = .ok (.iload 5, 2) := by decide +kernel
theorem dX7_copy_133 : decode cX7_copy 133 = .ok (.if_icmp .ge 31, 3) := by decide +kernel
theorem dX7_copy_136 : decode cX7_copy 136 = .ok (.aload_n 0, 1) := by decide +kernel
theorem dX7_copy_137 : decode cX7_copy 137 = .ok (.getfield 16, 3) := by decide +kernel
theorem dX7_copy_140 : decode cX7_copy 140 = .ok (.bipush 40, 2) := by decide +kernel
theorem dX7_copy_142 : decode cX7_copy 142 = .ok (.iload_n 3, 1) := by decide +kernel
theorem dX7_copy_143 : decode cX7_copy 143 = .ok (.imul, 1) := by decide +kernel
theorem dX7_copy_144 : decode cX7_copy 144 = .ok (.iload 4, 2) := by decide +kernel
theorem dX7_copy_146 : decode cX7_copy 146 = .ok (.iadd, 1) := by decide +kernel
theorem dX7_copy_147 : decode cX7_copy 147 = .ok (.iload 6, 2) := by decide +kernel
theorem dX7_copy_149 : decode cX7_copy 149 = .ok (.iadd, 1) := by decide +kernel
theorem dX7_copy_150 : decode cX7_copy 150 = .ok (.aload_n 0, 1) := by decide +kernel
theorem dX7_copy_151 : decode cX7_copy 151 = .ok (.getfield 19, 3) := by decide +kernel
theorem dX7_copy_154 : decode cX7_copy 154 = .ok (.iload 6, 2) := by decide +kernel
theorem dX7_copy_156 : decode cX7_copy 156 = .ok (.iaload, 1) := by decide +kernel
theorem dX7_copy_157 : decode cX7_copy 157 = .ok (.iastore, 1) := by decide +kernel
theorem dX7_copy_158 : decode cX7_copy 158 = .ok (.iinc 6 1, 3) := by decide +kernel
theorem dX7_copy_161 : decode cX7_copy 161 = .ok (.goto (-32), 3) := by decide +kernel
theorem dX7_copy_164 : decode cX7_copy 164 = .ok (.aload_n 0, 1) := by decide +kernel
theorem dX7_copy_165 : decode cX7_copy 165 = .ok (.iload 5, 2) := by decide +kernel
theorem dX7_copy_167 : decode cX7_copy 167 = .ok (.invokevirtual 84, 3) := by decide +kernel
theorem dX7_copy_170 : decode cX7_copy 170 = .ok (.ireturn, 1) := by decide +kernel
theorem dX7_drop_0 : decode cX7_drop 0 = .ok (.iload_n 1, 1) := by decide +kernel
theorem dX7_drop_1 : decode cX7_drop 1 = .ok (.invokestatic 75, 3) := by decide +kernel
theorem dX7_drop_4 : decode cX7_drop 4 = .ok (.ifCond .ne 6, 3) := by decide +kernel
theorem dX7_drop_7 : decode cX7_drop 7 = .ok (.ldc 79, 2) := by decide +kernel
theorem dX7_drop_9 : decode cX7_drop 9 = .ok (.ireturn, 1) := by decide +kernel
theorem dX7_drop_10 : decode cX7_drop 10 = .ok (.aload_n 0, 1) := by decide +kernel
theorem dX7_drop_11 : decode cX7_drop 11 = .ok (.iload_n 1, 1) := by decide +kernel
theorem dX7_drop_12 : decode cX7_drop 12 = .ok (.invokevirtual 87, 3) := by decide +kernel
theorem dX7_drop_15 : decode cX7_drop 15 = .ok (.ifCond .eq 9, 3) := by decide +kernel
theorem dX7_drop_18 : decode cX7_drop 18 = .ok (.aload_n 0, 1) := by decide +kernel
theorem dX7_drop_19 : decode cX7_drop 19 = .ok (.iconst 1, 1) := by decide +kernel
theorem dX7_drop_20 : decode cX7_drop 20 = .ok (.invokevirtual 80, 3) := by decide +kernel
theorem dX7_drop_23 : decode cX7_drop 23 = .ok (.ireturn, 1) := by decide +kernel
theorem dX7_drop_24 : decode cX7_drop 24 = .ok (.aload_n 0, 1) := by decide +kernel
theorem dX7_drop_25 : decode cX7_drop 25 = .ok (.getfield 7, 3) := by decide +kernel
theorem dX7_drop_28 : decode cX7_drop 28 = .ok (.iload_n 1, 1) := by decide +kernel
theorem dX7_drop_29 : decode cX7_drop 29 = .ok (.ldc 65, 2) := by decide +kernel
theorem dX7_drop_31 : decode cX7_drop 31 = .ok (.iastore, 1) := by decide +kernel
theorem dX7_drop_32 : decode cX7_drop 32 = .ok (.aload_n 0, 1) := by decide +kernel
theorem dX7_drop_33 : decode cX7_drop 33 = .ok (.aload_n 0, 1) := by decide +kernel
theorem dX7_drop_34 : decode cX7_drop 34 = .ok (.getfield 13, 3) := by decide +kernel
theorem dX7_drop_37 : decode cX7_drop 37 = .ok (.iload_n 1, 1) := by decide +kernel
theorem dX7_drop_38 : decode cX7_drop 38 = .ok (.iaload, 1) := by decide +kernel
theorem dX7_drop_39 : decode cX7_drop 39 = .ok (.invokevirtual 84, 3) := by decide +kernel
theorem dX7_drop_42 : decode cX7_drop 42 = .ok (.ireturn, 1) := by decide +kernel
theorem dX7_feed_0 : decode cX7_feed 0 = .ok (.iload_n 1, 1) := by decide +kernel
theorem dX7_feed_1 : decode cX7_feed 1 = .ok (.iconst 0, 1) := by decide +kernel
theorem dX7_feed_2 : decode cX7_feed 2 = .ok (.sipush 255, 3) := by decide +kernel
theorem dX7_feed_5 : decode cX7_feed 5 = .ok (.invokestatic 71, 3) := by decide +kernel
theorem dX7_feed_8 : decode cX7_feed 8 = .ok (.ifCond .ne 6, 3) := by decide +kernel
theorem dX7_feed_11 : decode cX7_feed 11 = .ok (.ldc 79, 2) := by decide +kernel
theorem dX7_feed_13 : decode cX7_feed 13 = .ok (.ireturn, 1) := by decide +kernel
theorem dX7_feed_14 : decode cX7_feed 14 = .ok (.aload_n 0, 1) := by decide +kernel
theorem dX7_feed_15 : decode cX7_feed 15 = .ok (.getfield 97, 3) := by decide +kernel
theorem dX7_feed_18 : decode cX7_feed 18 = .ok (.bipush 120, 2) := by decide +kernel
theorem dX7_feed_20 : decode cX7_feed 20 = .ok (.if_icmp .ne 6, 3) := by decide +kernel
theorem dX7_feed_23 : decode cX7_feed 23 = .ok (.ldc 100, 2) := by decide +kernel
theorem dX7_feed_25 : decode cX7_feed 25 = .ok (.ireturn, 1) := by decide +kernel
theorem dX7_feed_26 : decode cX7_feed 26 = .ok (.aload_n 0, 1) := by decide +kernel
theorem dX7_feed_27 : decode cX7_feed 27 = .ok (.getfield 22, 3) := by decide +kernel
theorem dX7_feed_30 : decode cX7_feed 30 = .ok (.aload_n 0, 1) := by decide +kernel
theorem dX7_feed_31 : decode cX7_feed 31 = .ok (.getfield 97, 3) := by decide +kernel
theorem dX7_feed_34 : decode cX7_feed 34 = .ok (.iload_n 1, 1) := by decide +kernel
theorem dX7_feed_35 : decode cX7_feed 35 = .ok (.iastore, 1) := by decide +kernel
theorem dX7_feed_36 : decode cX7_feed 36 = .ok (.aload_n 0, 1) := by decide +kernel
theorem dX7_feed_37 : decode cX7_feed 37 = .ok (.dup, 1) := by decide +kernel
theorem dX7_feed_38 : decode cX7_feed 38 = .ok (.getfield 97, 3) := by decide +kernel
theorem dX7_feed_41 : decode cX7_feed 41 = .ok (.iconst 1, 1) := by decide +kernel
theorem dX7_feed_42 : decode cX7_feed 42 = .ok (.iadd, 1) := by decide +kernel
theorem dX7_feed_43 : decode cX7_feed 43 = .ok (.putfield 97, 3) := by decide +kernel
theorem dX7_feed_46 : decode cX7_feed 46 = .ok (.aload_n 0, 1) := by decide +kernel
theorem dX7_feed_47 : decode cX7_feed 47 = .ok (.getfield 97, 3) := by decide +kernel
theorem dX7_feed_50 : decode cX7_feed 50 = .ok (.ireturn, 1) := by decide +kernel
theorem dX7_byteAt_0 : decode cX7_byteAt 0 = .ok (.iload_n 1, 1) := by decide +kernel
theorem dX7_byteAt_1 : decode cX7_byteAt 1 = .ok (.aload_n 0, 1) := by decide +kernel
theorem dX7_byteAt_2 : decode cX7_byteAt 2 = .ok (.getfield 97, 3) := by decide +kernel
theorem dX7_byteAt_5 : decode cX7_byteAt 5 = .ok (.if_icmp .ge 12, 3) := by decide +kernel
theorem dX7_byteAt_8 : decode cX7_byteAt 8 = .ok (.aload_n 0, 1) := by decide +kernel
theorem dX7_byteAt_9 : decode cX7_byteAt 9 = .ok (.getfield 22, 3) := by decide +kernel
theorem dX7_byteAt_12 : decode cX7_byteAt 12 = .ok (.iload_n 1, 1) := by decide +kernel
theorem dX7_byteAt_13 : decode cX7_byteAt 13 = .ok (.iaload, 1) := by decide +kernel
theorem dX7_byteAt_14 : decode cX7_byteAt 14 = .ok (.goto 4, 3) := by decide +kernel
theorem dX7_byteAt_17 : decode cX7_byteAt 17 = .ok (.iconst (-1), 1) := by decide +kernel
theorem dX7_byteAt_18 : decode cX7_byteAt 18 = .ok (.ireturn, 1) := by decide +kernel
theorem dX7_advances_0 : decode cX7_advances 0 = .ok (.aload_n 0, 1) := by decide +kernel
theorem dX7_advances_1 : decode cX7_advances 1 = .ok (.aload_n 0, 1) := by decide +kernel
theorem dX7_advances_2 : decode cX7_advances 2 = .ok (.getfield 101, 3) := by decide +kernel
theorem dX7_advances_5 : decode cX7_advances 5 = .ok (.putfield 104, 3) := by decide +kernel
theorem dX7_advances_8 : decode cX7_advances 8 = .ok (.aload_n 0, 1) := by decide +kernel
theorem dX7_advances_9 : decode cX7_advances 9 = .ok (.aload_n 0, 1) := by decide +kernel
theorem dX7_advances_10 : decode cX7_advances 10 = .ok (.getfield 101, 3) := by decide +kernel
theorem dX7_advances_13 : decode cX7_advances 13 = .ok (.invokevirtual 107, 3) := by decide +kernel
theorem dX7_advances_16 : decode cX7_advances 16 = .ok (.istore_n 1, 1) := by decide +kernel
theorem dX7_advances_17 : decode cX7_advances 17 = .ok (.aload_n 0, 1) := by decide +kernel
theorem dX7_advances_18 : decode cX7_advances 18 = .ok (.iload_n 1, 1) := by decide +kernel
theorem dX7_advances_19 : decode cX7_advances 19 = .ok (.putfield 110, 3) := by decide +kernel
theorem dX7_advances_22 : decode cX7_advances 22 = .ok (.iload_n 1, 1) := by decide +kernel
theorem dX7_advances_23 : decode cX7_advances 23 = .ok (.bipush 48, 2) := by decide +kernel
theorem dX7_advances_25 : decode cX7_advances 25 = .ok (.bipush 57, 2) := by decide +kernel
theorem dX7_advances_27 : decode cX7_advances 27 = .ok (.invokestatic 71, 3) := by decide +kernel
theorem dX7_advances_30 : decode cX7_advances 30 = .ok (.ifCond .eq 105, 3) := by decide +kernel
theorem dX7_advances_33 : decode cX7_advances 33 = .ok (.aload_n 0, 1) := by decide +kernel
theorem dX7_advances_34 : decode cX7_advances 34 = .ok (.iconst 0, 1) := by decide +kernel
theorem dX7_advances_35 : decode cX7_advances 35 = .ok (.putfield 110, 3) := by decide +kernel
theorem dX7_advances_38 : decode cX7_advances 38 = .ok (.aload_n 0, 1) := by decide +kernel
theorem dX7_advances_39 : decode cX7_advances 39 = .ok (.aload_n 0, 1) := by decide +kernel
theorem dX7_advances_40 : decode cX7_advances 40 = .ok (.getfield 101, 3) := by decide +kernel
theorem dX7_advances_43 : decode cX7_advances 43 = .ok (.invokevirtual 107, 3) := by decide +kernel
theorem dX7_advances_46 : decode cX7_advances 46 = .ok (.bipush 48, 2) := by decide +kernel
theorem dX7_advances_48 : decode cX7_advances 48 = .ok (.bipush 57, 2) := by decide +kernel
theorem dX7_advances_50 : decode cX7_advances 50 = .ok (.invokestatic 71, 3) := by decide +kernel
theorem dX7_advances_53 : decode cX7_advances 53 = .ok (.ifCond .eq 59, 3) := by decide +kernel
theorem dX7_advances_56 : decode cX7_advances 56 = .ok (.aload_n 0, 1) := by decide +kernel
theorem dX7_advances_57 : decode cX7_advances 57 = .ok (.aload_n 0, 1) := by decide +kernel
theorem dX7_advances_58 : decode cX7_advances 58 = .ok (.getfield 101, 3) := by decide +kernel
theorem dX7_advances_61 : decode cX7_advances 61 = .ok (.aload_n 0, 1) := by decide +kernel
theorem dX7_advances_62 : decode cX7_advances 62 = .ok (.getfield 104, 3) := by decide +kernel
theorem dX7_advances_65 : decode cX7_advances 65 = .ok (.isub, 1) := by decide +kernel
theorem dX7_advances_66 : decode cX7_advances 66 = .ok (.iconst 2, 1) := by decide +kernel
theorem dX7_advances_67 : decode cX7_advances 67 = .ok (.if_icmp .ge 25, 3) := by decide +kernel
theorem dX7_advances_70 : decode cX7_advances 70 = .ok (.bipush 10, 2) := by decide +kernel
theorem dX7_advances_72 : decode cX7_advances 72 = .ok (.aload_n 0, 1) := by decide +kernel
theorem dX7_advances_73 : decode cX7_advances 73 = .ok (.getfield 110, 3) := by decide +kernel
theorem dX7_advances_76 : decode cX7_advances 76 = .ok (.imul, 1) := by decide +kernel
theorem dX7_advances_77 : decode cX7_advances 77 = .ok (.aload_n 0, 1) := by decide +kernel
theorem dX7_advances_78 : decode cX7_advances 78 = .ok (.aload_n 0, 1) := by decide +kernel
theorem dX7_advances_79 : decode cX7_advances 79 = .ok (.getfield 101, 3) := by decide +kernel
theorem dX7_advances_82 : decode cX7_advances 82 = .ok (.invokevirtual 107, 3) := by decide +kernel
theorem dX7_advances_85 : decode cX7_advances 85 = .ok (.iadd, 1) := by decide +kernel
theorem dX7_advances_86 : decode cX7_advances 86 = .ok (.bipush 48, 2) := by decide +kernel
theorem dX7_advances_88 : decode cX7_advances 88 = .ok (.isub, 1) := by decide +kernel
theorem dX7_advances_89 : decode cX7_advances 89 = .ok (.goto 7, 3) := by decide +kernel
theorem dX7_advances_92 : decode cX7_advances 92 = .ok (.aload_n 0, 1) := by decide +kernel
theorem dX7_advances_93 : decode cX7_advances 93 = .ok (.getfield 110, 3) := by decide +kernel
theorem dX7_advances_96 : decode cX7_advances 96 = .ok (.putfield 110, 3) := by decide +kernel
theorem dX7_advances_99 : decode cX7_advances 99 = .ok (.aload_n 0, 1) := by decide +kernel
theorem dX7_advances_100 : decode cX7_advances 100 = .ok (.dup, 1) := by decide +kernel
theorem dX7_advances_101 : decode cX7_advances 101 = .ok (.getfield 101, 3) := by decide +kernel
theorem dX7_advances_104 : decode cX7_advances 104 = .ok (.iconst 1, 1) := by decide +kernel
theorem dX7_advances_105 : decode cX7_advances 105 = .ok (.iadd, 1) := by decide +kernel
theorem dX7_advances_106 : decode cX7_advances 106 = .ok (.putfield 101, 3) := by decide +kernel
theorem dX7_advances_109 : decode cX7_advances 109 = .ok (.goto (-71), 3) := by decide +kernel
theorem dX7_advances_112 : decode cX7_advances 112 = .ok (.aload_n 0, 1) := by decide +kernel
theorem dX7_advances_113 : decode cX7_advances 113 = .ok (.aload_n 0, 1) := by decide +kernel
theorem dX7_advances_114 : decode cX7_advances 114 = .ok (.getfield 101, 3) := by decide +kernel
theorem dX7_advances_117 : decode cX7_advances 117 = .ok (.aload_n 0, 1) := by decide +kernel
theorem dX7_advances_118 : decode cX7_advances 118 = .ok (.getfield 104, 3) := by decide +kernel
theorem dX7_advances_121 : decode cX7_advances 121 = .ok (.isub, 1) := by decide +kernel
theorem dX7_advances_122 : decode cX7_advances 122 = .ok (.iconst 3, 1) := by decide +kernel
theorem dX7_advances_123 : decode cX7_advances 123 = .ok (.if_icmp .ge 7, 3) := by decide +kernel
theorem dX7_advances_126 : decode cX7_advances 126 = .ok (.iconst 2, 1) := by decide +kernel
theorem dX7_advances_127 : decode cX7_advances 127 = .ok (.goto 4, 3) := by decide +kernel
theorem dX7_advances_130 : decode cX7_advances 130 = .ok (.iconst 5, 1) := by decide +kernel
theorem dX7_advances_131 : decode cX7_advances 131 = .ok (.putfield 113, 3) := by decide +kernel
theorem dX7_advances_134 : decode cX7_advances 134 = .ok (.return_, 1) := by decide +kernel
theorem dX7_advances_135 : decode cX7_advances 135 = .ok (.aload_n 0, 1) := by decide +kernel
theorem dX7_advances_136 : decode cX7_advances 136 = .ok (.iload_n 1, 1) := by decide +kernel
theorem dX7_advances_137 : decode cX7_advances 137 = .ok (.ifCond .ge 7, 3) := by decide +kernel
theorem dX7_advances_140 : decode cX7_advances 140 = .ok (.iconst 0, 1) := by decide +kernel
theorem dX7_advances_141 : decode cX7_advances 141 = .ok (.goto 39, 3) := by decide +kernel
theorem dX7_advances_144 : decode cX7_advances 144 = .ok (.iload_n 1, 1) := by decide +kernel
theorem dX7_advances_145 : decode cX7_advances 145 = .ok (.bipush 97, 2) := by decide +kernel
theorem dX7_advances_147 : decode cX7_advances 147 = .ok (.bipush 122, 2) := by decide +kernel
theorem dX7_advances_149 : decode cX7_advances 149 = .ok (.invokestatic 71, 3) := by decide +kernel
theorem dX7_advances_152 : decode cX7_advances 152 = .ok (.ifCond .eq 7, 3) := by decide +kernel
theorem dX7_advances_155 : decode cX7_advances 155 = .ok (.iconst 1, 1) := by decide +kernel
theorem dX7_advances_156 : decode cX7_advances 156 = .ok (.goto 24, 3) := by decide +kernel
theorem dX7_advances_159 : decode cX7_advances 159 = .ok (.iload_n 1, 1) := by decide +kernel
theorem dX7_advances_160 : decode cX7_advances 160 = .ok (.bipush 44, 2) := by decide +kernel
theorem dX7_advances_162 : decode cX7_advances 162 = .ok (.if_icmp .ne 7, 3) := by decide +kernel
theorem dX7_advances_165 : decode cX7_advances 165 = .ok (.iconst 3, 1) := by decide +kernel
theorem dX7_advances_166 : decode cX7_advances 166 = .ok (.goto 14, 3) := by decide +kernel
theorem dX7_advances_169 : decode cX7_advances 169 = .ok (.iload_n 1, 1) := by decide +kernel
theorem dX7_advances_170 : decode cX7_advances 170 = .ok (.bipush 59, 2) := by decide +kernel
theorem dX7_advances_172 : decode cX7_advances 172 = .ok (.if_icmp .ne 7, 3) := by decide +kernel
theorem dX7_advances_175 : decode cX7_advances 175 = .ok (.iconst 4, 1) := by decide +kernel
theorem dX7_advances_176 : decode cX7_advances 176 = .ok (.goto 4, 3) := by decide +kernel
theorem dX7_advances_179 : decode cX7_advances 179 = .ok (.iconst 5, 1) := by decide +kernel
theorem dX7_advances_180 : decode cX7_advances 180 = .ok (.putfield 113, 3) := by decide +kernel
theorem dX7_advances_183 : decode cX7_advances 183 = .ok (.aload_n 0, 1) := by decide +kernel
theorem dX7_advances_184 : decode cX7_advances 184 = .ok (.dup, 1) := by decide +kernel
theorem dX7_advances_185 : decode cX7_advances 185 = .ok (.getfield 101, 3) := by decide +kernel
theorem dX7_advances_188 : decode cX7_advances 188 = .ok (.aload_n 0, 1) := by decide +kernel
theorem dX7_advances_189 : decode cX7_advances 189 = .ok (.getfield 113, 3) := by decide +kernel
theorem dX7_advances_192 : decode cX7_advances 192 = .ok (.ifCond .ne 7, 3) := by decide +kernel
theorem dX7_advances_195 : decode cX7_advances 195 = .ok (.iconst 0, 1) := by decide +kernel
theorem dX7_advances_196 : decode cX7_advances 196 = .ok (.goto 4, 3) := by decide +kernel
theorem dX7_advances_199 : decode cX7_advances 199 = .ok (.iconst 1, 1) := by decide +kernel
theorem dX7_advances_200 : decode cX7_advances 200 = .ok (.iadd, 1) := by decide +kernel
theorem dX7_advances_201 : decode cX7_advances 201 = .ok (.putfield 101, 3) := by decide +kernel
theorem dX7_advances_204 : decode cX7_advances 204 = .ok (.return_, 1) := by decide +kernel
theorem dX7_isWell_0 : decode cX7_isWell 0 = .ok (.aload_n 0, 1) := by decide +kernel
theorem dX7_isWell_1 : decode cX7_isWell 1 = .ok (.getfield 116, 3) := by decide +kernel
theorem dX7_isWell_4 : decode cX7_isWell 4 = .ok (.ifCond .ge 7, 3) := by decide +kernel
theorem dX7_isWell_7 : decode cX7_isWell 7 = .ok (.iconst 1, 1) := by decide +kernel
theorem dX7_isWell_8 : decode cX7_isWell 8 = .ok (.goto 4, 3) := by decide +kernel
theorem dX7_isWell_11 : decode cX7_isWell 11 = .ok (.iconst 0, 1) := by decide +kernel
theorem dX7_isWell_12 : decode cX7_isWell 12 = .ok (.ireturn, 1) := by decide +kernel
theorem dX7_takes_0 : decode cX7_takes 0 = .ok (.aload_n 0, 1) := by decide +kernel
theorem dX7_takes_1 : decode cX7_takes 1 = .ok (.invokevirtual 119, 3) := by decide +kernel
theorem dX7_takes_4 : decode cX7_takes 4 = .ok (.ifCond .ne 5, 3) := by decide +kernel
theorem dX7_takes_7 : decode cX7_takes 7 = .ok (.iconst 0, 1) := by decide +kernel
theorem dX7_takes_8 : decode cX7_takes 8 = .ok (.ireturn, 1) := by decide +kernel
theorem dX7_takes_9 : decode cX7_takes 9 = .ok (.iload_n 1, 1) := by decide +kernel
theorem dX7_takes_10 : decode cX7_takes 10 = .ok (.ifCond .ne 18, 3) := by decide +kernel
theorem dX7_takes_13 : decode cX7_takes 13 = .ok (.aload_n 0, 1) := by decide +kernel
theorem dX7_takes_14 : decode cX7_takes 14 = .ok (.aload_n 0, 1) := by decide +kernel
theorem dX7_takes_15 : decode cX7_takes 15 = .ok (.getfield 104, 3) := by decide +kernel
theorem dX7_takes_18 : decode cX7_takes 18 = .ok (.putfield 116, 3) := by decide +kernel
theorem dX7_takes_21 : decode cX7_takes 21 = .ok (.aload_n 0, 1) := by decide +kernel
theorem dX7_takes_22 : decode cX7_takes 22 = .ok (.iload_n 2, 1) := by decide +kernel
theorem dX7_takes_23 : decode cX7_takes 23 = .ok (.putfield 123, 3) := by decide +kernel
theorem dX7_takes_26 : decode cX7_takes 26 = .ok (.iconst 0, 1) := by decide +kernel
theorem dX7_takes_27 : decode cX7_takes 27 = .ok (.ireturn, 1) := by decide +kernel
theorem dX7_takes_28 : decode cX7_takes 28 = .ok (.aload_n 0, 1) := by decide +kernel
theorem dX7_takes_29 : decode cX7_takes 29 = .ok (.getfield 110, 3) := by decide +kernel
theorem dX7_takes_32 : decode cX7_takes 32 = .ok (.istore_n 3, 1) := by decide +kernel
theorem dX7_takes_33 : decode cX7_takes 33 = .ok (.aload_n 0, 1) := by decide +kernel
theorem dX7_takes_34 : decode cX7_takes 34 = .ok (.invokevirtual 126, 3) := by decide +kernel
theorem dX7_takes_37 : decode cX7_takes 37 = .ok (.iload_n 3, 1) := by decide +kernel
theorem dX7_takes_38 : decode cX7_takes 38 = .ok (.ireturn, 1) := by decide +kernel
theorem dX7_figure_0 : decode cX7_figure 0 = .ok (.aload_n 0, 1) := by decide +kernel
theorem dX7_figure_1 : decode cX7_figure 1 = .ok (.invokevirtual 119, 3) := by decide +kernel
theorem dX7_figure_4 : decode cX7_figure 4 = .ok (.ifCond .eq 18, 3) := by decide +kernel
theorem dX7_figure_7 : decode cX7_figure 7 = .ok (.aload_n 0, 1) := by decide +kernel
theorem dX7_figure_8 : decode cX7_figure 8 = .ok (.getfield 113, 3) := by decide +kernel
theorem dX7_figure_11 : decode cX7_figure 11 = .ok (.iconst 2, 1) := by decide +kernel
theorem dX7_figure_12 : decode cX7_figure 12 = .ok (.if_icmp .eq 10, 3) := by decide +kernel
theorem dX7_figure_15 : decode cX7_figure 15 = .ok (.aload_n 0, 1) := by decide +kernel
theorem dX7_figure_16 : decode cX7_figure 16 = .ok (.iconst 0, 1) := by decide +kernel
theorem dX7_figure_17 : decode cX7_figure 17 = .ok (.iconst 1, 1) := by decide +kernel
theorem dX7_figure_18 : decode cX7_figure 18 = .ok (.invokevirtual 129, 3) := by decide +kernel
theorem dX7_figure_21 : decode cX7_figure 21 = .ok (.ireturn, 1) := by decide +kernel
theorem dX7_figure_22 : decode cX7_figure 22 = .ok (.aload_n 0, 1) := by decide +kernel
theorem dX7_figure_23 : decode cX7_figure 23 = .ok (.aload_n 0, 1) := by decide +kernel
theorem dX7_figure_24 : decode cX7_figure 24 = .ok (.getfield 110, 3) := by decide +kernel
theorem dX7_figure_27 : decode cX7_figure 27 = .ok (.iload_n 1, 1) := by decide +kernel
theorem dX7_figure_28 : decode cX7_figure 28 = .ok (.iload_n 2, 1) := by decide +kernel
theorem dX7_figure_29 : decode cX7_figure 29 = .ok (.invokestatic 71, 3) := by decide +kernel
theorem dX7_figure_32 : decode cX7_figure 32 = .ok (.iconst 2, 1) := by decide +kernel
theorem dX7_figure_33 : decode cX7_figure 33 = .ok (.invokevirtual 129, 3) := by decide +kernel
theorem dX7_figure_36 : decode cX7_figure 36 = .ok (.ireturn, 1) := by decide +kernel
theorem dX7_kindOf_0 : decode cX7_kindOf 0 = .ok (.iload_n 0, 1) := by decide +kernel
theorem dX7_kindOf_1 : decode cX7_kindOf 1 = .ok (.bipush 106, 2) := by decide +kernel
theorem dX7_kindOf_3 : decode cX7_kindOf 3 = .ok (.if_icmp .ne 7, 3) := by decide +kernel
theorem dX7_kindOf_6 : decode cX7_kindOf 6 = .ok (.iconst 1, 1) := by decide +kernel
theorem dX7_kindOf_7 : decode cX7_kindOf 7 = .ok (.goto 44, 3) := by decide +kernel
theorem dX7_kindOf_10 : decode cX7_kindOf 10 = .ok (.iload_n 0, 1) := by decide +kernel
theorem dX7_kindOf_11 : decode cX7_kindOf 11 = .ok (.bipush 108, 2) := by decide +kernel
theorem dX7_kindOf_13 : decode cX7_kindOf 13 = .ok (.if_icmp .ne 7, 3) := by decide +kernel
theorem dX7_kindOf_16 : decode cX7_kindOf 16 = .ok (.iconst 2, 1) := by decide +kernel
theorem dX7_kindOf_17 : decode cX7_kindOf 17 = .ok (.goto 34, 3) := by decide +kernel
theorem dX7_kindOf_20 : decode cX7_kindOf 20 = .ok (.iload_n 0, 1) := by decide +kernel
theorem dX7_kindOf_21 : decode cX7_kindOf 21 = .ok (.bipush 104, 2) := by decide +kernel
theorem dX7_kindOf_23 : decode cX7_kindOf 23 = .ok (.if_icmp .ne 7, 3) := by decide +kernel
theorem dX7_kindOf_26 : decode cX7_kindOf 26 = .ok (.iconst 3, 1) := by decide +kernel
theorem dX7_kindOf_27 : decode cX7_kindOf 27 = .ok (.goto 24, 3) := by decide +kernel
theorem dX7_kindOf_30 : decode cX7_kindOf 30 = .ok (.iload_n 0, 1) := by decide +kernel
theorem dX7_kindOf_31 : decode cX7_kindOf 31 = .ok (.bipush 103, 2) := by decide +kernel
theorem dX7_kindOf_33 : decode cX7_kindOf 33 = .ok (.if_icmp .ne 7, 3) := by decide +kernel
theorem dX7_kindOf_36 : decode cX7_kindOf 36 = .ok (.iconst 4, 1) := by decide +kernel
theorem dX7_kindOf_37 : decode cX7_kindOf 37 = .ok (.goto 14, 3) := by decide +kernel
theorem dX7_kindOf_40 : decode cX7_kindOf 40 = .ok (.iload_n 0, 1) := by decide +kernel
theorem dX7_kindOf_41 : decode cX7_kindOf 41 = .ok (.bipush 114, 2) := by decide +kernel
theorem dX7_kindOf_43 : decode cX7_kindOf 43 = .ok (.if_icmp .ne 7, 3) := by decide +kernel
theorem dX7_kindOf_46 : decode cX7_kindOf 46 = .ok (.iconst 5, 1) := by decide +kernel
theorem dX7_kindOf_47 : decode cX7_kindOf 47 = .ok (.goto 4, 3) := by decide +kernel
theorem dX7_kindOf_50 : decode cX7_kindOf 50 = .ok (.iconst 0, 1) := by decide +kernel
theorem dX7_kindOf_51 : decode cX7_kindOf 51 = .ok (.ireturn, 1) := by decide +kernel
theorem dX7_follows_0 : decode cX7_follows 0 = .ok (.aload_n 0, 1) := by decide +kernel
theorem dX7_follows_1 : decode cX7_follows 1 = .ok (.aload_n 0, 1) := by decide +kernel
theorem dX7_follows_2 : decode cX7_follows 2 = .ok (.getfield 113, 3) := by decide +kernel
theorem dX7_follows_5 : decode cX7_follows 5 = .ok (.iconst 3, 1) := by decide +kernel
theorem dX7_follows_6 : decode cX7_follows 6 = .ok (.if_icmp .ne 7, 3) := by decide +kernel
theorem dX7_follows_9 : decode cX7_follows 9 = .ok (.iconst 1, 1) := by decide +kernel
theorem dX7_follows_10 : decode cX7_follows 10 = .ok (.goto 4, 3) := by decide +kernel
theorem dX7_follows_13 : decode cX7_follows 13 = .ok (.iconst 0, 1) := by decide +kernel
theorem dX7_follows_14 : decode cX7_follows 14 = .ok (.iconst 1, 1) := by decide +kernel
theorem dX7_follows_15 : decode cX7_follows 15 = .ok (.invokevirtual 129, 3) := by decide +kernel
theorem dX7_follows_18 : decode cX7_follows 18 = .ok (.pop, 1) := by decide +kernel
theorem dX7_follows_19 : decode cX7_follows 19 = .ok (.aload_n 0, 1) := by decide +kernel
theorem dX7_follows_20 : decode cX7_follows 20 = .ok (.iload_n 1, 1) := by decide +kernel
theorem dX7_follows_21 : decode cX7_follows 21 = .ok (.iload_n 2, 1) := by decide +kernel
theorem dX7_follows_22 : decode cX7_follows 22 = .ok (.invokevirtual 133, 3) := by decide +kernel
theorem dX7_follows_25 : decode cX7_follows 25 = .ok (.ireturn, 1) := by decide +kernel
theorem dX7_readsCorner_0 : decode cX7_readsCorner 0 = .ok (.aload_n 0, 1) := by decide +kernel
theorem dX7_readsCorner_1 : decode cX7_readsCorner 1 = .ok (.getfield 110, 3) := by decide +kernel
theorem dX7_readsCorner_4 : decode cX7_readsCorner 4 = .ok (.invokestatic 136, 3) := by decide +kernel
theorem dX7_readsCorner_7 : decode cX7_readsCorner 7 = .ok (.istore_n 1, 1) := by decide +kernel
theorem dX7_readsCorner_8 : decode cX7_readsCorner 8 = .ok (.aload_n 0, 1) := by decide +kernel
theorem dX7_readsCorner_9 : decode cX7_readsCorner 9 = .ok (.aload_n 0, 1) := by decide +kernel
theorem dX7_readsCorner_10 : decode cX7_readsCorner 10 = .ok (.getfield 28, 3) := by decide +kernel
theorem dX7_readsCorner_13 : decode cX7_readsCorner 13 = .ok (.bipush 6, 2) := by decide +kernel
theorem dX7_readsCorner_15 : decode cX7_readsCorner 15 = .ok (.iaload, 1) := by decide +kernel
theorem dX7_readsCorner_16 : decode cX7_readsCorner 16 = .ok (.bipush 6, 2) := by decide +kernel
theorem dX7_readsCorner_18 : decode cX7_readsCorner 18 = .ok (.if_icmp .ge 7, 3) := by decide +kernel
theorem dX7_readsCorner_21 : decode cX7_readsCorner 21 = .ok (.iconst 1, 1) := by decide +kernel
theorem dX7_readsCorner_22 : decode cX7_readsCorner 22 = .ok (.goto 4, 3) := by decide +kernel
theorem dX7_readsCorner_25 : decode cX7_readsCorner 25 = .ok (.iconst 0, 1) := by decide +kernel
theorem dX7_readsCorner_26 : decode cX7_readsCorner 26 = .ok (.iconst 3, 1) := by decide +kernel
theorem dX7_readsCorner_27 : decode cX7_readsCorner 27 = .ok (.invokevirtual 129, 3) := by decide +kernel
theorem dX7_readsCorner_30 : decode cX7_readsCorner 30 = .ok (.pop, 1) := by decide +kernel
theorem dX7_readsCorner_31 : decode cX7_readsCorner 31 = .ok (.bipush 7, 2) := by decide +kernel
theorem dX7_readsCorner_33 : decode cX7_readsCorner 33 = .ok (.iconst 3, 1) := by decide +kernel
theorem dX7_readsCorner_34 : decode cX7_readsCorner 34 = .ok (.aload_n 0, 1) := by decide +kernel
theorem dX7_readsCorner_35 : decode cX7_readsCorner 35 = .ok (.getfield 28, 3) := by decide +kernel
theorem dX7_readsCorner_38 : decode cX7_readsCorner 38 = .ok (.bipush 6, 2) := by decide +kernel
theorem dX7_readsCorner_40 : decode cX7_readsCorner 40 = .ok (.iaload, 1) := by decide +kernel
theorem dX7_readsCorner_41 : decode cX7_readsCorner 41 = .ok (.bipush 6, 2) := by decide +kernel
theorem dX7_readsCorner_43 : decode cX7_readsCorner 43 = .ok (.if_icmp .ge 13, 3) := by decide +kernel
theorem dX7_readsCorner_46 : decode cX7_readsCorner 46 = .ok (.aload_n 0, 1) := by decide +kernel
theorem dX7_readsCorner_47 : decode cX7_readsCorner 47 = .ok (.getfield 28, 3) := by decide +kernel
theorem dX7_readsCorner_50 : decode cX7_readsCorner 50 = .ok (.bipush 6, 2) := by decide +kernel
theorem dX7_readsCorner_52 : decode cX7_readsCorner 52 = .ok (.iaload, 1) := by decide +kernel
theorem dX7_readsCorner_53 : decode cX7_readsCorner 53 = .ok (.goto 4, 3) := by decide +kernel
theorem dX7_readsCorner_56 : decode cX7_readsCorner 56 = .ok (.iconst 0, 1) := by decide +kernel
theorem dX7_readsCorner_57 : decode cX7_readsCorner 57 = .ok (.imul, 1) := by decide +kernel
theorem dX7_readsCorner_58 : decode cX7_readsCorner 58 = .ok (.iadd, 1) := by decide +kernel
theorem dX7_readsCorner_59 : decode cX7_readsCorner 59 = .ok (.istore_n 2, 1) := by decide +kernel
theorem dX7_readsCorner_60 : decode cX7_readsCorner 60 = .ok (.aload_n 0, 1) := by decide +kernel
theorem dX7_readsCorner_61 : decode cX7_readsCorner 61 = .ok (.iconst 0, 1) := by decide +kernel
theorem dX7_readsCorner_62 : decode cX7_readsCorner 62 = .ok (.bipush 9, 2) := by decide +kernel
theorem dX7_readsCorner_64 : decode cX7_readsCorner 64 = .ok (.invokevirtual 133, 3) := by decide +kernel
theorem dX7_readsCorner_67 : decode cX7_readsCorner 67 = .ok (.istore_n 3, 1) := by decide +kernel
theorem dX7_readsCorner_68 : decode cX7_readsCorner 68 = .ok (.aload_n 0, 1) := by decide +kernel
theorem dX7_readsCorner_69 : decode cX7_readsCorner 69 = .ok (.iconst 0, 1) := by decide +kernel
theorem dX7_readsCorner_70 : decode cX7_readsCorner 70 = .ok (.bipush 9, 2) := by decide +kernel
theorem dX7_readsCorner_72 : decode cX7_readsCorner 72 = .ok (.invokevirtual 139, 3) := by decide +kernel
theorem dX7_readsCorner_75 : decode cX7_readsCorner 75 = .ok (.istore 4, 2) := by decide +kernel
theorem dX7_readsCorner_77 : decode cX7_readsCorner 77 = .ok (.aload_n 0, 1) := by decide +kernel
theorem dX7_readsCorner_78 : decode cX7_readsCorner 78 = .ok (.aload_n 0, 1) := by decide +kernel
theorem dX7_readsCorner_79 : decode cX7_readsCorner 79 = .ok (.getfield 113, 3) := by decide +kernel
theorem dX7_readsCorner_82 : decode cX7_readsCorner 82 = .ok (.iconst 4, 1) := by decide +kernel
theorem dX7_readsCorner_83 : decode cX7_readsCorner 83 = .ok (.if_icmp .ne 7, 3) := by decide +kernel
theorem dX7_readsCorner_86 : decode cX7_readsCorner 86 = .ok (.iconst 1, 1) := by decide +kernel
theorem dX7_readsCorner_87 : decode cX7_readsCorner 87 = .ok (.goto 4, 3) := by decide +kernel
theorem dX7_readsCorner_90 : decode cX7_readsCorner 90 = .ok (.iconst 0, 1) := by decide +kernel
theorem dX7_readsCorner_91 : decode cX7_readsCorner 91 = .ok (.iconst 1, 1) := by decide +kernel
theorem dX7_readsCorner_92 : decode cX7_readsCorner 92 = .ok (.invokevirtual 129, 3) := by decide +kernel
theorem dX7_readsCorner_95 : decode cX7_readsCorner 95 = .ok (.pop, 1) := by decide +kernel
theorem dX7_readsCorner_96 : decode cX7_readsCorner 96 = .ok (.aload_n 0, 1) := by decide +kernel
theorem dX7_readsCorner_97 : decode cX7_readsCorner 97 = .ok (.invokevirtual 119, 3) := by decide +kernel
theorem dX7_readsCorner_100 : decode cX7_readsCorner 100 = .ok (.ifCond .eq 40, 3) := by decide +kernel
theorem dX7_readsCorner_103 : decode cX7_readsCorner 103 = .ok (.aload_n 0, 1) := by decide +kernel
theorem dX7_readsCorner_104 : decode cX7_readsCorner 104 = .ok (.getfield 28, 3) := by decide +kernel
theorem dX7_readsCorner_107 : decode cX7_readsCorner 107 = .ok (.iload_n 2, 1) := by decide +kernel
theorem dX7_readsCorner_108 : decode cX7_readsCorner 108 = .ok (.iload_n 1, 1) := by decide +kernel
theorem dX7_readsCorner_109 : decode cX7_readsCorner 109 = .ok (.iastore, 1) := by decide +kernel
theorem dX7_readsCorner_110 : decode cX7_readsCorner 110 = .ok (.aload_n 0, 1) := by decide +kernel
theorem dX7_readsCorner_111 : decode cX7_readsCorner 111 = .ok (.getfield 28, 3) := by decide +kernel
theorem dX7_readsCorner_114 : decode cX7_readsCorner 114 = .ok (.iload_n 2, 1) := by decide +kernel
theorem dX7_readsCorner_115 : decode cX7_readsCorner 115 = .ok (.iconst 1, 1) := by decide +kernel
theorem dX7_readsCorner_116 : decode cX7_readsCorner 116 = .ok (.iadd, 1) := by decide +kernel
theorem dX7_readsCorner_117 : decode cX7_readsCorner 117 = .ok (.iload_n 3, 1) := by decide +kernel
theorem dX7_readsCorner_118 : decode cX7_readsCorner 118 = .ok (.iastore, 1) := by decide +kernel
theorem dX7_readsCorner_119 : decode cX7_readsCorner 119 = .ok (.aload_n 0, 1) := by decide +kernel
theorem dX7_readsCorner_120 : decode cX7_readsCorner 120 = .ok (.getfield 28, 3) := by decide +kernel
theorem dX7_readsCorner_123 : decode cX7_readsCorner 123 = .ok (.iload_n 2, 1) := by decide +kernel
theorem dX7_readsCorner_124 : decode cX7_readsCorner 124 = .ok (.iconst 2, 1) := by decide +kernel
theorem dX7_readsCorner_125 : decode cX7_readsCorner 125 = .ok (.iadd, 1) := by decide +kernel
theorem dX7_readsCorner_126 : decode cX7_readsCorner 126 = .ok (.iload 4, 2) := by decide +kernel
theorem dX7_readsCorner_128 : decode cX7_readsCorner 128 = .ok (.iastore, 1) := by decide +kernel
theorem dX7_readsCorner_129 : decode cX7_readsCorner 129 = .ok (.aload_n 0, 1) := by decide +kernel
theorem dX7_readsCorner_130 : decode cX7_readsCorner 130 = .ok (.getfield 28, 3) := by decide +kernel
theorem dX7_readsCorner_133 : decode cX7_readsCorner 133 = .ok (.bipush 6, 2) := by decide +kernel
theorem dX7_readsCorner_135 : decode cX7_readsCorner 135 = .ok (.dup2, 1) := by decide +kernel
theorem dX7_readsCorner_136 : decode cX7_readsCorner 136 = .ok (.iaload, 1) := by decide +kernel
theorem dX7_readsCorner_137 : decode cX7_readsCorner 137 = .ok (.iconst 1, 1) := by decide +kernel
theorem dX7_readsCorner_138 : decode cX7_readsCorner 138 = .ok (.iadd, 1) := by decide +kernel
theorem dX7_readsCorner_139 : decode cX7_readsCorner 139 = .ok (.iastore, 1) := by decide +kernel
theorem dX7_readsCorner_140 : decode cX7_readsCorner 140 = .ok (.return_, 1) := by decide +kernel
theorem dX7_isStreetTold_0 : decode cX7_isStreetTold 0 = .ok (.iconst 0, 1) := by decide +kernel
theorem dX7_isStreetTold_1 : decode cX7_isStreetTold 1 = .ok (.istore_n 3, 1) := by decide +kernel
theorem dX7_isStreetTold_2 : decode cX7_isStreetTold 2 = .ok (.iconst 0, 1) := by decide +kernel
theorem dX7_isStreetTold_3 : decode cX7_isStreetTold 3 = .ok (.istore 4, 2) := by decide +kernel
theorem dX7_isStreetTold_5 : decode cX7_isStreetTold 5 = .ok (.iload 4, 2) := by decide +kernel
theorem dX7_isStreetTold_7 : decode cX7_isStreetTold 7 = .ok (.aload_n 0, 1) := by decide +kernel
theorem dX7_isStreetTold_8 : decode cX7_isStreetTold 8 = .ok (.getfield 28, 3) := by decide +kernel
theorem dX7_isStreetTold_11 : decode cX7_isStreetTold 11 = .ok (.bipush 25, 2) := by decide +kernel
theorem dX7_isStreetTold_13 : decode cX7_isStreetTold 13 = .ok (.iaload, 1) := by decide +kernel
theorem dX7_isStreetTold_14 : decode cX7_isStreetTold 14 = .ok (.if_icmp .ge 53, 3) := by decide +kernel
theorem dX7_isStreetTold_17 : decode cX7_isStreetTold 17 = .ok (.iload_n 3, 1) := by decide +kernel
theorem dX7_isStreetTold_18 : decode cX7_isStreetTold 18 = .ok (.ifCond .ne 37, 3) := by decide +kernel
theorem dX7_isStreetTold_21 : decode cX7_isStreetTold 21 = .ok (.aload_n 0, 1) := by decide +kernel
theorem dX7_isStreetTold_22 : decode cX7_isStreetTold 22 = .ok (.getfield 28, 3) := by decide +kernel
theorem dX7_isStreetTold_25 : decode cX7_isStreetTold 25 = .ok (.bipush 26, 2) := by decide +kernel
theorem dX7_isStreetTold_27 : decode cX7_isStreetTold 27 = .ok (.iconst 2, 1) := by decide +kernel
theorem dX7_isStreetTold_28 : decode cX7_isStreetTold 28 = .ok (.iload 4, 2) := by decide +kernel
theorem dX7_isStreetTold_30 : decode cX7_isStreetTold 30 = .ok (.imul, 1) := by decide +kernel
theorem dX7_isStreetTold_31 : decode cX7_isStreetTold 31 = .ok (.iadd, 1) := by decide +kernel
theorem dX7_isStreetTold_32 : decode cX7_isStreetTold 32 = .ok (.iaload, 1) := by decide +kernel
theorem dX7_isStreetTold_33 : decode cX7_isStreetTold 33 = .ok (.iload_n 1, 1) := by decide +kernel
theorem dX7_isStreetTold_34 : decode cX7_isStreetTold 34 = .ok (.if_icmp .ne 25, 3) := by decide +kernel
theorem dX7_isStreetTold_37 : decode cX7_isStreetTold 37 = .ok (.aload_n 0, 1) := by decide +kernel
theorem dX7_isStreetTold_38 : decode cX7_isStreetTold 38 = .ok (.getfield 28, 3) := by decide +kernel
theorem dX7_isStreetTold_41 : decode cX7_isStreetTold 41 = .ok (.bipush 26, 2) := by decide +kernel
theorem dX7_isStreetTold_43 : decode cX7_isStreetTold 43 = .ok (.iconst 2, 1) := by decide +kernel
theorem dX7_isStreetTold_44 : decode cX7_isStreetTold 44 = .ok (.iload 4, 2) := by decide +kernel
theorem dX7_isStreetTold_46 : decode cX7_isStreetTold 46 = .ok (.imul, 1) := by decide +kernel
theorem dX7_isStreetTold_47 : decode cX7_isStreetTold 47 = .ok (.iadd, 1) := by decide +kernel
theorem dX7_isStreetTold_48 : decode cX7_isStreetTold 48 = .ok (.iconst 1, 1) := by decide +kernel
theorem dX7_isStreetTold_49 : decode cX7_isStreetTold 49 = .ok (.iadd, 1) := by decide +kernel
theorem dX7_isStreetTold_50 : decode cX7_isStreetTold 50 = .ok (.iaload, 1) := by decide +kernel
theorem dX7_isStreetTold_51 : decode cX7_isStreetTold 51 = .ok (.iload_n 2, 1) := by decide +kernel
theorem dX7_isStreetTold_52 : decode cX7_isStreetTold 52 = .ok (.if_icmp .ne 7, 3) := by decide +kernel
theorem dX7_isStreetTold_55 : decode cX7_isStreetTold 55 = .ok (.iconst 1, 1) := by decide +kernel
theorem dX7_isStreetTold_56 : decode cX7_isStreetTold 56 = .ok (.goto 4, 3) := by decide +kernel
theorem dX7_isStreetTold_59 : decode cX7_isStreetTold 59 = .ok (.iconst 0, 1) := by decide +kernel
theorem dX7_isStreetTold_60 : decode cX7_isStreetTold 60 = .ok (.istore_n 3, 1) := by decide +kernel
theorem dX7_isStreetTold_61 : decode cX7_isStreetTold 61 = .ok (.iinc 4 1, 3) := by decide +kernel
theorem dX7_isStreetTold_64 : decode cX7_isStreetTold 64 = .ok (.goto (-59), 3) := by decide +kernel
theorem dX7_isStreetTold_67 : decode cX7_isStreetTold 67 = .ok (.iload_n 3, 1) := by decide +kernel
theorem dX7_isStreetTold_68 : decode cX7_isStreetTold 68 = .ok (.ireturn, 1) := by decide +kernel
theorem dX7_toFigure_0 : decode cX7_toFigure 0 = .ok (.aload_n 0, 1) := by decide +kernel
theorem dX7_toFigure_1 : decode cX7_toFigure 1 = .ok (.invokevirtual 119, 3) := by decide +kernel
theorem dX7_toFigure_4 : decode cX7_toFigure 4 = .ok (.ifCond .eq 18, 3) := by decide +kernel
theorem dX7_toFigure_7 : decode cX7_toFigure 7 = .ok (.aload_n 0, 1) := by decide +kernel
theorem dX7_toFigure_8 : decode cX7_toFigure 8 = .ok (.getfield 113, 3) := by decide +kernel
theorem dX7_toFigure_11 : decode cX7_toFigure 11 = .ok (.iconst 2, 1) := by decide +kernel
theorem dX7_toFigure_12 : decode cX7_toFigure 12 = .ok (.if_icmp .eq 10, 3) := by decide +kernel
theorem dX7_toFigure_15 : decode cX7_toFigure 15 = .ok (.aload_n 0, 1) := by decide +kernel
theorem dX7_toFigure_16 : decode cX7_toFigure 16 = .ok (.iconst 0, 1) := by decide +kernel
theorem dX7_toFigure_17 : decode cX7_toFigure 17 = .ok (.iconst 1, 1) := by decide +kernel
theorem dX7_toFigure_18 : decode cX7_toFigure 18 = .ok (.invokevirtual 129, 3) := by decide +kernel
theorem dX7_toFigure_21 : decode cX7_toFigure 21 = .ok (.ireturn, 1) := by decide +kernel
theorem dX7_toFigure_22 : decode cX7_toFigure 22 = .ok (.aload_n 0, 1) := by decide +kernel
theorem dX7_toFigure_23 : decode cX7_toFigure 23 = .ok (.aload_n 0, 1) := by decide +kernel
theorem dX7_toFigure_24 : decode cX7_toFigure 24 = .ok (.getfield 110, 3) := by decide +kernel
theorem dX7_toFigure_27 : decode cX7_toFigure 27 = .ok (.iconst 0, 1) := by decide +kernel
theorem dX7_toFigure_28 : decode cX7_toFigure 28 = .ok (.aload_n 0, 1) := by decide +kernel
theorem dX7_toFigure_29 : decode cX7_toFigure 29 = .ok (.getfield 28, 3) := by decide +kernel
theorem dX7_toFigure_32 : decode cX7_toFigure 32 = .ok (.bipush 6, 2) := by decide +kernel
theorem dX7_toFigure_34 : decode cX7_toFigure 34 = .ok (.iaload, 1) := by decide +kernel
theorem dX7_toFigure_35 : decode cX7_toFigure 35 = .ok (.iconst 1, 1) := by decide +kernel
theorem dX7_toFigure_36 : decode cX7_toFigure 36 = .ok (.isub, 1) := by decide +kernel
theorem dX7_toFigure_37 : decode cX7_toFigure 37 = .ok (.invokestatic 71, 3) := by decide +kernel
theorem dX7_toFigure_40 : decode cX7_toFigure 40 = .ok (.ifCond .eq 27, 3) := by decide +kernel
theorem dX7_toFigure_43 : decode cX7_toFigure 43 = .ok (.aload_n 0, 1) := by decide +kernel
theorem dX7_toFigure_44 : decode cX7_toFigure 44 = .ok (.getfield 110, 3) := by decide +kernel
theorem dX7_toFigure_47 : decode cX7_toFigure 47 = .ok (.iload_n 1, 1) := by decide +kernel
theorem dX7_toFigure_48 : decode cX7_toFigure 48 = .ok (.if_icmp .eq 19, 3) := by decide +kernel
theorem dX7_toFigure_51 : decode cX7_toFigure 51 = .ok (.aload_n 0, 1) := by decide +kernel
theorem dX7_toFigure_52 : decode cX7_toFigure 52 = .ok (.iload_n 1, 1) := by decide +kernel
theorem dX7_toFigure_53 : decode cX7_toFigure 53 = .ok (.aload_n 0, 1) := by decide +kernel
theorem dX7_toFigure_54 : decode cX7_toFigure 54 = .ok (.getfield 110, 3) := by decide +kernel
theorem dX7_toFigure_57 : decode cX7_toFigure 57 = .ok (.invokevirtual 142, 3) := by decide +kernel
theorem dX7_toFigure_60 : decode cX7_toFigure 60 = .ok (.ifCond .ne 7, 3) := by decide +kernel
theorem dX7_toFigure_63 : decode cX7_toFigure 63 = .ok (.iconst 1, 1) := by decide +kernel
theorem dX7_toFigure_64 : decode cX7_toFigure 64 = .ok (.goto 4, 3) := by decide +kernel
theorem dX7_toFigure_67 : decode cX7_toFigure 67 = .ok (.iconst 0, 1) := by decide +kernel
theorem dX7_toFigure_68 : decode cX7_toFigure 68 = .ok (.iconst 2, 1) := by decide +kernel
theorem dX7_toFigure_69 : decode cX7_toFigure 69 = .ok (.invokevirtual 129, 3) := by decide +kernel
theorem dX7_toFigure_72 : decode cX7_toFigure 72 = .ok (.ireturn, 1) := by decide +kernel
theorem dX7_readsStreet_0 : decode cX7_readsStreet 0 = .ok (.aload_n 0, 1) := by decide +kernel
theorem dX7_readsStreet_1 : decode cX7_readsStreet 1 = .ok (.aload_n 0, 1) := by decide +kernel
theorem dX7_readsStreet_2 : decode cX7_readsStreet 2 = .ok (.getfield 28, 3) := by decide +kernel
theorem dX7_readsStreet_5 : decode cX7_readsStreet 5 = .ok (.bipush 25, 2) := by decide +kernel
theorem dX7_readsStreet_7 : decode cX7_readsStreet 7 = .ok (.iaload, 1) := by decide +kernel
theorem dX7_readsStreet_8 : decode cX7_readsStreet 8 = .ok (.bipush 8, 2) := by decide +kernel
theorem dX7_readsStreet_10 : decode cX7_readsStreet 10 = .ok (.if_icmp .ge 7, 3) := by decide +kernel
theorem dX7_readsStreet_13 : decode cX7_readsStreet 13 = .ok (.iconst 1, 1) := by decide +kernel
theorem dX7_readsStreet_14 : decode cX7_readsStreet 14 = .ok (.goto 4, 3) := by decide +kernel
theorem dX7_readsStreet_17 : decode cX7_readsStreet 17 = .ok (.iconst 0, 1) := by decide +kernel
theorem dX7_readsStreet_18 : decode cX7_readsStreet 18 = .ok (.iconst 3, 1) := by decide +kernel
theorem dX7_readsStreet_19 : decode cX7_readsStreet 19 = .ok (.invokevirtual 129, 3) := by decide +kernel
theorem dX7_readsStreet_22 : decode cX7_readsStreet 22 = .ok (.pop, 1) := by decide +kernel
theorem dX7_readsStreet_23 : decode cX7_readsStreet 23 = .ok (.bipush 26, 2) := by decide +kernel
theorem dX7_readsStreet_25 : decode cX7_readsStreet 25 = .ok (.iconst 2, 1) := by decide +kernel
theorem dX7_readsStreet_26 : decode cX7_readsStreet 26 = .ok (.aload_n 0, 1) := by decide +kernel
theorem dX7_readsStreet_27 : decode cX7_readsStreet 27 = .ok (.getfield 28, 3) := by decide +kernel
theorem dX7_readsStreet_30 : decode cX7_readsStreet 30 = .ok (.bipush 25, 2) := by decide +kernel
theorem dX7_readsStreet_32 : decode cX7_readsStreet 32 = .ok (.iaload, 1) := by decide +kernel
theorem dX7_readsStreet_33 : decode cX7_readsStreet 33 = .ok (.bipush 8, 2) := by decide +kernel
theorem dX7_readsStreet_35 : decode cX7_readsStreet 35 = .ok (.if_icmp .ge 13, 3) := by decide +kernel
theorem dX7_readsStreet_38 : decode cX7_readsStreet 38 = .ok (.aload_n 0, 1) := by decide +kernel
theorem dX7_readsStreet_39 : decode cX7_readsStreet 39 = .ok (.getfield 28, 3) := by decide +kernel
theorem dX7_readsStreet_42 : decode cX7_readsStreet 42 = .ok (.bipush 25, 2) := by decide +kernel
theorem dX7_readsStreet_44 : decode cX7_readsStreet 44 = .ok (.iaload, 1) := by decide +kernel
theorem dX7_readsStreet_45 : decode cX7_readsStreet 45 = .ok (.goto 4, 3) := by decide +kernel
theorem dX7_readsStreet_48 : decode cX7_readsStreet 48 = .ok (.iconst 0, 1) := by decide +kernel
theorem dX7_readsStreet_49 : decode cX7_readsStreet 49 = .ok (.imul, 1) := by decide +kernel
theorem dX7_readsStreet_50 : decode cX7_readsStreet 50 = .ok (.iadd, 1) := by decide +kernel
theorem dX7_readsStreet_51 : decode cX7_readsStreet 51 = .ok (.istore_n 1, 1) := by decide +kernel
theorem dX7_readsStreet_52 : decode cX7_readsStreet 52 = .ok (.aload_n 0, 1) := by decide +kernel
theorem dX7_readsStreet_53 : decode cX7_readsStreet 53 = .ok (.iconst 0, 1) := by decide +kernel
theorem dX7_readsStreet_54 : decode cX7_readsStreet 54 = .ok (.aload_n 0, 1) := by decide +kernel
theorem dX7_readsStreet_55 : decode cX7_readsStreet 55 = .ok (.getfield 28, 3) := by decide +kernel
theorem dX7_readsStreet_58 : decode cX7_readsStreet 58 = .ok (.bipush 6, 2) := by decide +kernel
theorem dX7_readsStreet_60 : decode cX7_readsStreet 60 = .ok (.iaload, 1) := by decide +kernel
theorem dX7_readsStreet_61 : decode cX7_readsStreet 61 = .ok (.iconst 1, 1) := by decide +kernel
theorem dX7_readsStreet_62 : decode cX7_readsStreet 62 = .ok (.isub, 1) := by decide +kernel
theorem dX7_readsStreet_63 : decode cX7_readsStreet 63 = .ok (.invokevirtual 133, 3) := by decide +kernel
theorem dX7_readsStreet_66 : decode cX7_readsStreet 66 = .ok (.istore_n 2, 1) := by decide +kernel
theorem dX7_readsStreet_67 : decode cX7_readsStreet 67 = .ok (.aload_n 0, 1) := by decide +kernel
theorem dX7_readsStreet_68 : decode cX7_readsStreet 68 = .ok (.aload_n 0, 1) := by decide +kernel
theorem dX7_readsStreet_69 : decode cX7_readsStreet 69 = .ok (.getfield 113, 3) := by decide +kernel
theorem dX7_readsStreet_72 : decode cX7_readsStreet 72 = .ok (.iconst 3, 1) := by decide +kernel
theorem dX7_readsStreet_73 : decode cX7_readsStreet 73 = .ok (.if_icmp .ne 7, 3) := by decide +kernel
theorem dX7_readsStreet_76 : decode cX7_readsStreet 76 = .ok (.iconst 1, 1) := by decide +kernel
theorem dX7_readsStreet_77 : decode cX7_readsStreet 77 = .ok (.goto 4, 3) := by decide +kernel
theorem dX7_readsStreet_80 : decode cX7_readsStreet 80 = .ok (.iconst 0, 1) := by decide +kernel
theorem dX7_readsStreet_81 : decode cX7_readsStreet 81 = .ok (.iconst 1, 1) := by decide +kernel
theorem dX7_readsStreet_82 : decode cX7_readsStreet 82 = .ok (.invokevirtual 129, 3) := by decide +kernel
theorem dX7_readsStreet_85 : decode cX7_readsStreet 85 = .ok (.pop, 1) := by decide +kernel
theorem dX7_readsStreet_86 : decode cX7_readsStreet 86 = .ok (.aload_n 0, 1) := by decide +kernel
theorem dX7_readsStreet_87 : decode cX7_readsStreet 87 = .ok (.iload_n 2, 1) := by decide +kernel
theorem dX7_readsStreet_88 : decode cX7_readsStreet 88 = .ok (.invokevirtual 146, 3) := by decide +kernel
theorem dX7_readsStreet_91 : decode cX7_readsStreet 91 = .ok (.istore_n 3, 1) := by decide +kernel
theorem dX7_readsStreet_92 : decode cX7_readsStreet 92 = .ok (.aload_n 0, 1) := by decide +kernel
theorem dX7_readsStreet_93 : decode cX7_readsStreet 93 = .ok (.aload_n 0, 1) := by decide +kernel
theorem dX7_readsStreet_94 : decode cX7_readsStreet 94 = .ok (.getfield 113, 3) := by decide +kernel
theorem dX7_readsStreet_97 : decode cX7_readsStreet 97 = .ok (.iconst 4, 1) := by decide +kernel
theorem dX7_readsStreet_98 : decode cX7_readsStreet 98 = .ok (.if_icmp .ne 7, 3) := by decide +kernel
theorem dX7_readsStreet_101 : decode cX7_readsStreet 101 = .ok (.iconst 1, 1) := by decide +kernel
theorem dX7_readsStreet_102 : decode cX7_readsStreet 102 = .ok (.goto 4, 3) := by decide +kernel
theorem dX7_readsStreet_105 : decode cX7_readsStreet 105 = .ok (.iconst 0, 1) := by decide +kernel
theorem dX7_readsStreet_106 : decode cX7_readsStreet 106 = .ok (.iconst 1, 1) := by decide +kernel
theorem dX7_readsStreet_107 : decode cX7_readsStreet 107 = .ok (.invokevirtual 129, 3) := by decide +kernel
theorem dX7_readsStreet_110 : decode cX7_readsStreet 110 = .ok (.pop, 1) := by decide +kernel
theorem dX7_readsStreet_111 : decode cX7_readsStreet 111 = .ok (.aload_n 0, 1) := by decide +kernel
theorem dX7_readsStreet_112 : decode cX7_readsStreet 112 = .ok (.invokevirtual 119, 3) := by decide +kernel
theorem dX7_readsStreet_115 : decode cX7_readsStreet 115 = .ok (.ifCond .eq 48, 3) := by decide +kernel
theorem dX7_readsStreet_118 : decode cX7_readsStreet 118 = .ok (.aload_n 0, 1) := by decide +kernel
theorem dX7_readsStreet_119 : decode cX7_readsStreet 119 = .ok (.getfield 28, 3) := by decide +kernel
theorem dX7_readsStreet_122 : decode cX7_readsStreet 122 = .ok (.iload_n 1, 1) := by decide +kernel
theorem dX7_readsStreet_123 : decode cX7_readsStreet 123 = .ok (.iload_n 2, 1) := by decide +kernel
theorem dX7_readsStreet_124 : decode cX7_readsStreet 124 = .ok (.iastore, 1) := by decide +kernel
theorem dX7_readsStreet_125 : decode cX7_readsStreet 125 = .ok (.aload_n 0, 1) := by decide +kernel
theorem dX7_readsStreet_126 : decode cX7_readsStreet 126 = .ok (.getfield 28, 3) := by decide +kernel
theorem dX7_readsStreet_129 : decode cX7_readsStreet 129 = .ok (.iload_n 1, 1) := by decide +kernel
theorem dX7_readsStreet_130 : decode cX7_readsStreet 130 = .ok (.iconst 1, 1) := by decide +kernel
theorem dX7_readsStreet_131 : decode cX7_readsStreet 131 = .ok (.iadd, 1) := by decide +kernel
theorem dX7_readsStreet_132 : decode cX7_readsStreet 132 = .ok (.iload_n 3, 1) := by decide +kernel
theorem dX7_readsStreet_133 : decode cX7_readsStreet 133 = .ok (.iastore, 1) := by decide +kernel
theorem dX7_readsStreet_134 : decode cX7_readsStreet 134 = .ok (.aload_n 0, 1) := by decide +kernel
theorem dX7_readsStreet_135 : decode cX7_readsStreet 135 = .ok (.getfield 28, 3) := by decide +kernel
theorem dX7_readsStreet_138 : decode cX7_readsStreet 138 = .ok (.iconst 5, 1) := by decide +kernel
theorem dX7_readsStreet_139 : decode cX7_readsStreet 139 = .ok (.dup2, 1) := by decide +kernel
theorem dX7_readsStreet_140 : decode cX7_readsStreet 140 = .ok (.iaload, 1) := by decide +kernel
theorem dX7_readsStreet_141 : decode cX7_readsStreet 141 = .ok (.iconst 1, 1) := by decide +kernel
theorem dX7_readsStreet_142 : decode cX7_readsStreet 142 = .ok (.aload_n 0, 1) := by decide +kernel
theorem dX7_readsStreet_143 : decode cX7_readsStreet 143 = .ok (.getfield 28, 3) := by decide +kernel
theorem dX7_readsStreet_146 : decode cX7_readsStreet 146 = .ok (.bipush 25, 2) := by decide +kernel
theorem dX7_readsStreet_148 : decode cX7_readsStreet 148 = .ok (.iaload, 1) := by decide +kernel
theorem dX7_readsStreet_149 : decode cX7_readsStreet 149 = .ok (.ishl, 1) := by decide +kernel
theorem dX7_readsStreet_150 : decode cX7_readsStreet 150 = .ok (.ior, 1) := by decide +kernel
theorem dX7_readsStreet_151 : decode cX7_readsStreet 151 = .ok (.iastore, 1) := by decide +kernel
theorem dX7_readsStreet_152 : decode cX7_readsStreet 152 = .ok (.aload_n 0, 1) := by decide +kernel
theorem dX7_readsStreet_153 : decode cX7_readsStreet 153 = .ok (.getfield 28, 3) := by decide +kernel
theorem dX7_readsStreet_156 : decode cX7_readsStreet 156 = .ok (.bipush 25, 2) := by decide +kernel
theorem dX7_readsStreet_158 : decode cX7_readsStreet 158 = .ok (.dup2, 1) := by decide +kernel
theorem dX7_readsStreet_159 : decode cX7_readsStreet 159 = .ok (.iaload, 1) := by decide +kernel
theorem dX7_readsStreet_160 : decode cX7_readsStreet 160 = .ok (.iconst 1, 1) := by decide +kernel
theorem dX7_readsStreet_161 : decode cX7_readsStreet 161 = .ok (.iadd, 1) := by decide +kernel
theorem dX7_readsStreet_162 : decode cX7_readsStreet 162 = .ok (.iastore, 1) := by decide +kernel
theorem dX7_readsStreet_163 : decode cX7_readsStreet 163 = .ok (.return_, 1) := by decide +kernel
theorem dX7_town_0 : decode cX7_town 0 = .ok (.iconst 0, 1) := by decide +kernel
theorem dX7_town_1 : decode cX7_town 1 = .ok (.istore_n 1, 1) := by decide +kernel
theorem dX7_town_2 : decode cX7_town 2 = .ok (.iload_n 1, 1) := by decide +kernel
theorem dX7_town_3 : decode cX7_town 3 = .ok (.bipush 42, 2) := by decide +kernel
theorem dX7_town_5 : decode cX7_town 5 = .ok (.if_icmp .ge 16, 3) := by decide +kernel
theorem dX7_town_8 : decode cX7_town 8 = .ok (.aload_n 0, 1) := by decide +kernel
theorem dX7_town_9 : decode cX7_town 9 = .ok (.getfield 28, 3) := by decide +kernel
theorem dX7_town_12 : decode cX7_town 12 = .ok (.iload_n 1, 1) := by decide +kernel
theorem dX7_town_13 : decode cX7_town 13 = .ok (.iconst 0, 1) := by decide +kernel
theorem dX7_town_14 : decode cX7_town 14 = .ok (.iastore, 1) := by decide +kernel
theorem dX7_town_15 : decode cX7_town 15 = .ok (.iinc 1 1, 3) := by decide +kernel
theorem dX7_town_18 : decode cX7_town 18 = .ok (.goto (-16), 3) := by decide +kernel
theorem dX7_town_21 : decode cX7_town 21 = .ok (.aload_n 0, 1) := by decide +kernel
theorem dX7_town_22 : decode cX7_town 22 = .ok (.iconst 0, 1) := by decide +kernel
theorem dX7_town_23 : decode cX7_town 23 = .ok (.putfield 101, 3) := by decide +kernel
theorem dX7_town_26 : decode cX7_town 26 = .ok (.aload_n 0, 1) := by decide +kernel
theorem dX7_town_27 : decode cX7_town 27 = .ok (.iconst (-1), 1) := by decide +kernel
theorem dX7_town_28 : decode cX7_town 28 = .ok (.putfield 116, 3) := by decide +kernel
theorem dX7_town_31 : decode cX7_town 31 = .ok (.aload_n 0, 1) := by decide +kernel
theorem dX7_town_32 : decode cX7_town 32 = .ok (.invokevirtual 126, 3) := by decide +kernel
theorem dX7_town_35 : decode cX7_town 35 = .ok (.aload_n 0, 1) := by decide +kernel
theorem dX7_town_36 : decode cX7_town 36 = .ok (.aload_n 0, 1) := by decide +kernel
theorem dX7_town_37 : decode cX7_town 37 = .ok (.getfield 113, 3) := by decide +kernel
theorem dX7_town_40 : decode cX7_town 40 = .ok (.iconst 1, 1) := by decide +kernel
theorem dX7_town_41 : decode cX7_town 41 = .ok (.if_icmp .ne 16, 3) := by decide +kernel
theorem dX7_town_44 : decode cX7_town 44 = .ok (.aload_n 0, 1) := by decide +kernel
theorem dX7_town_45 : decode cX7_town 45 = .ok (.getfield 110, 3) := by decide +kernel
theorem dX7_town_48 : decode cX7_town 48 = .ok (.bipush 116, 2) := by decide +kernel
theorem dX7_town_50 : decode cX7_town 50 = .ok (.if_icmp .ne 7, 3) := by decide +kernel
theorem dX7_town_53 : decode cX7_town 53 = .ok (.iconst 1, 1) := by decide +kernel
theorem dX7_town_54 : decode cX7_town 54 = .ok (.goto 4, 3) := by decide +kernel
theorem dX7_town_57 : decode cX7_town 57 = .ok (.iconst 0, 1) := by decide +kernel
theorem dX7_town_58 : decode cX7_town 58 = .ok (.iconst 1, 1) := by decide +kernel
theorem dX7_town_59 : decode cX7_town 59 = .ok (.invokevirtual 129, 3) := by decide +kernel
theorem dX7_town_62 : decode cX7_town 62 = .ok (.pop, 1) := by decide +kernel
theorem dX7_town_63 : decode cX7_town 63 = .ok (.aload_n 0, 1) := by decide +kernel
theorem dX7_town_64 : decode cX7_town 64 = .ok (.getfield 28, 3) := by decide +kernel
theorem dX7_town_67 : decode cX7_town 67 = .ok (.iconst 0, 1) := by decide +kernel
theorem dX7_town_68 : decode cX7_town 68 = .ok (.aload_n 0, 1) := by decide +kernel
theorem dX7_town_69 : decode cX7_town 69 = .ok (.iconst 1, 1) := by decide +kernel
theorem dX7_town_70 : decode cX7_town 70 = .ok (.bipush 9, 2) := by decide +kernel
theorem dX7_town_72 : decode cX7_town 72 = .ok (.invokevirtual 133, 3) := by decide +kernel
theorem dX7_town_75 : decode cX7_town 75 = .ok (.iastore, 1) := by decide +kernel
theorem dX7_town_76 : decode cX7_town 76 = .ok (.aload_n 0, 1) := by decide +kernel
theorem dX7_town_77 : decode cX7_town 77 = .ok (.getfield 28, 3) := by decide +kernel
theorem dX7_town_80 : decode cX7_town 80 = .ok (.iconst 1, 1) := by decide +kernel
theorem dX7_town_81 : decode cX7_town 81 = .ok (.aload_n 0, 1) := by decide +kernel
theorem dX7_town_82 : decode cX7_town 82 = .ok (.iconst 0, 1) := by decide +kernel
theorem dX7_town_83 : decode cX7_town 83 = .ok (.bipush 9, 2) := by decide +kernel
theorem dX7_town_85 : decode cX7_town 85 = .ok (.invokevirtual 139, 3) := by decide +kernel
theorem dX7_town_88 : decode cX7_town 88 = .ok (.iastore, 1) := by decide +kernel
theorem dX7_town_89 : decode cX7_town 89 = .ok (.aload_n 0, 1) := by decide +kernel
theorem dX7_town_90 : decode cX7_town 90 = .ok (.aload_n 0, 1) := by decide +kernel
theorem dX7_town_91 : decode cX7_town 91 = .ok (.getfield 113, 3) := by decide +kernel
theorem dX7_town_94 : decode cX7_town 94 = .ok (.iconst 4, 1) := by decide +kernel
theorem dX7_town_95 : decode cX7_town 95 = .ok (.if_icmp .ne 7, 3) := by decide +kernel
theorem dX7_town_98 : decode cX7_town 98 = .ok (.iconst 1, 1) := by decide +kernel
theorem dX7_town_99 : decode cX7_town 99 = .ok (.goto 4, 3) := by decide +kernel
theorem dX7_town_102 : decode cX7_town 102 = .ok (.iconst 0, 1) := by decide +kernel
theorem dX7_town_103 : decode cX7_town 103 = .ok (.iconst 1, 1) := by decide +kernel
theorem dX7_town_104 : decode cX7_town 104 = .ok (.invokevirtual 129, 3) := by decide +kernel
theorem dX7_town_107 : decode cX7_town 107 = .ok (.pop, 1) := by decide +kernel
theorem dX7_town_108 : decode cX7_town 108 = .ok (.aload_n 0, 1) := by decide +kernel
theorem dX7_town_109 : decode cX7_town 109 = .ok (.invokevirtual 119, 3) := by decide +kernel
theorem dX7_town_112 : decode cX7_town 112 = .ok (.ifCond .eq 28, 3) := by decide +kernel
theorem dX7_town_115 : decode cX7_town 115 = .ok (.aload_n 0, 1) := by decide +kernel
theorem dX7_town_116 : decode cX7_town 116 = .ok (.getfield 113, 3) := by decide +kernel
theorem dX7_town_119 : decode cX7_town 119 = .ok (.iconst 1, 1) := by decide +kernel
theorem dX7_town_120 : decode cX7_town 120 = .ok (.if_icmp .ne 13, 3) := by decide +kernel
theorem dX7_town_123 : decode cX7_town 123 = .ok (.aload_n 0, 1) := by decide +kernel
theorem dX7_town_124 : decode cX7_town 124 = .ok (.getfield 110, 3) := by decide +kernel
theorem dX7_town_127 : decode cX7_town 127 = .ok (.invokestatic 136, 3) := by decide +kernel
theorem dX7_town_130 : decode cX7_town 130 = .ok (.ifCond .gt 10, 3) := by decide +kernel
theorem dX7_town_133 : decode cX7_town 133 = .ok (.aload_n 0, 1) := by decide +kernel
theorem dX7_town_134 : decode cX7_town 134 = .ok (.iconst 0, 1) := by decide +kernel
theorem dX7_town_135 : decode cX7_town 135 = .ok (.iconst 1, 1) := by decide +kernel
theorem dX7_town_136 : decode cX7_town 136 = .ok (.invokevirtual 129, 3) := by decide +kernel
theorem dX7_town_139 : decode cX7_town 139 = .ok (.pop, 1) := by decide +kernel
theorem dX7_town_140 : decode cX7_town 140 = .ok (.aload_n 0, 1) := by decide +kernel
theorem dX7_town_141 : decode cX7_town 141 = .ok (.invokevirtual 119, 3) := by decide +kernel
theorem dX7_town_144 : decode cX7_town 144 = .ok (.ifCond .eq 28, 3) := by decide +kernel
theorem dX7_town_147 : decode cX7_town 147 = .ok (.aload_n 0, 1) := by decide +kernel
theorem dX7_town_148 : decode cX7_town 148 = .ok (.getfield 113, 3) := by decide +kernel
theorem dX7_town_151 : decode cX7_town 151 = .ok (.iconst 1, 1) := by decide +kernel
theorem dX7_town_152 : decode cX7_town 152 = .ok (.if_icmp .ne 20, 3) := by decide +kernel
theorem dX7_town_155 : decode cX7_town 155 = .ok (.aload_n 0, 1) := by decide +kernel
theorem dX7_town_156 : decode cX7_town 156 = .ok (.getfield 110, 3) := by decide +kernel
theorem dX7_town_159 : decode cX7_town 159 = .ok (.invokestatic 136, 3) := by decide +kernel
theorem dX7_town_162 : decode cX7_town 162 = .ok (.ifCond .le 10, 3) := by decide +kernel
theorem dX7_town_165 : decode cX7_town 165 = .ok (.aload_n 0, 1) := by decide +kernel
theorem dX7_town_166 : decode cX7_town 166 = .ok (.invokevirtual 149, 3) := by decide +kernel
theorem dX7_town_169 : decode cX7_town 169 = .ok (.goto (-29), 3) := by decide +kernel
theorem dX7_town_172 : decode cX7_town 172 = .ok (.aload_n 0, 1) := by decide +kernel
theorem dX7_town_173 : decode cX7_town 173 = .ok (.invokevirtual 119, 3) := by decide +kernel
theorem dX7_town_176 : decode cX7_town 176 = .ok (.ifCond .eq 27, 3) := by decide +kernel
theorem dX7_town_179 : decode cX7_town 179 = .ok (.aload_n 0, 1) := by decide +kernel
theorem dX7_town_180 : decode cX7_town 180 = .ok (.getfield 113, 3) := by decide +kernel
theorem dX7_town_183 : decode cX7_town 183 = .ok (.iconst 1, 1) := by decide +kernel
theorem dX7_town_184 : decode cX7_town 184 = .ok (.if_icmp .ne 19, 3) := by decide +kernel
theorem dX7_town_187 : decode cX7_town 187 = .ok (.aload_n 0, 1) := by decide +kernel
theorem dX7_town_188 : decode cX7_town 188 = .ok (.getfield 110, 3) := by decide +kernel
theorem dX7_town_191 : decode cX7_town 191 = .ok (.bipush 120, 2) := by decide +kernel
theorem dX7_town_193 : decode cX7_town 193 = .ok (.if_icmp .ne 10, 3) := by decide +kernel
theorem dX7_town_196 : decode cX7_town 196 = .ok (.aload_n 0, 1) := by decide +kernel
theorem dX7_town_197 : decode cX7_town 197 = .ok (.invokevirtual 152, 3) := by decide +kernel
theorem dX7_town_200 : decode cX7_town 200 = .ok (.goto (-28), 3) := by decide +kernel
theorem dX7_town_203 : decode cX7_town 203 = .ok (.aload_n 0, 1) := by decide +kernel
theorem dX7_town_204 : decode cX7_town 204 = .ok (.invokevirtual 119, 3) := by decide +kernel
theorem dX7_town_207 : decode cX7_town 207 = .ok (.ifCond .eq 17, 3) := by decide +kernel
theorem dX7_town_210 : decode cX7_town 210 = .ok (.aload_n 0, 1) := by decide +kernel
theorem dX7_town_211 : decode cX7_town 211 = .ok (.getfield 113, 3) := by decide +kernel
theorem dX7_town_214 : decode cX7_town 214 = .ok (.ifCond .eq 10, 3) := by decide +kernel
theorem dX7_town_217 : decode cX7_town 217 = .ok (.aload_n 0, 1) := by decide +kernel
theorem dX7_town_218 : decode cX7_town 218 = .ok (.iconst 0, 1) := by decide +kernel
theorem dX7_town_219 : decode cX7_town 219 = .ok (.iconst 1, 1) := by decide +kernel
theorem dX7_town_220 : decode cX7_town 220 = .ok (.invokevirtual 129, 3) := by decide +kernel
theorem dX7_town_223 : decode cX7_town 223 = .ok (.pop, 1) := by decide +kernel
theorem dX7_town_224 : decode cX7_town 224 = .ok (.aload_n 0, 1) := by decide +kernel
theorem dX7_town_225 : decode cX7_town 225 = .ok (.iconst 0, 1) := by decide +kernel
theorem dX7_town_226 : decode cX7_town 226 = .ok (.putfield 97, 3) := by decide +kernel
theorem dX7_town_229 : decode cX7_town 229 = .ok (.aload_n 0, 1) := by decide +kernel
theorem dX7_town_230 : decode cX7_town 230 = .ok (.invokevirtual 119, 3) := by decide +kernel
theorem dX7_town_233 : decode cX7_town 233 = .ok (.ifCond .ne 11, 3) := by decide +kernel
theorem dX7_town_236 : decode cX7_town 236 = .ok (.ldc 155, 2) := by decide +kernel
theorem dX7_town_238 : decode cX7_town 238 = .ok (.aload_n 0, 1) := by decide +kernel
theorem dX7_town_239 : decode cX7_town 239 = .ok (.getfield 116, 3) := by decide +kernel
theorem dX7_town_242 : decode cX7_town 242 = .ok (.isub, 1) := by decide +kernel
theorem dX7_town_243 : decode cX7_town 243 = .ok (.ireturn, 1) := by decide +kernel
theorem dX7_town_244 : decode cX7_town 244 = .ok (.aload_n 0, 1) := by decide +kernel
theorem dX7_town_245 : decode cX7_town 245 = .ok (.getfield 28, 3) := by decide +kernel
theorem dX7_town_248 : decode cX7_town 248 = .ok (.iconst 0, 1) := by decide +kernel
theorem dX7_town_249 : decode cX7_town 249 = .ok (.aload_n 0, 1) := by decide +kernel
theorem dX7_town_250 : decode cX7_town 250 = .ok (.getfield 25, 3) := by decide +kernel
theorem dX7_town_253 : decode cX7_town 253 = .ok (.iconst 0, 1) := by decide +kernel
theorem dX7_town_254 : decode cX7_town 254 = .ok (.invokestatic 156, 3) := by decide +kernel
theorem dX7_town_257 : decode cX7_town 257 = .ok (.aload_n 0, 1) := by decide +kernel
theorem dX7_town_258 : decode cX7_town 258 = .ok (.iconst 0, 1) := by decide +kernel
theorem dX7_town_259 : decode cX7_town 259 = .ok (.putfield 160, 3) := by decide +kernel
theorem dX7_town_262 : decode cX7_town 262 = .ok (.aload_n 0, 1) := by decide +kernel
theorem dX7_town_263 : decode cX7_town 263 = .ok (.getfield 25, 3) := by decide +kernel
theorem dX7_town_266 : decode cX7_town 266 = .ok (.bipush 25, 2) := by decide +kernel
theorem dX7_town_268 : decode cX7_town 268 = .ok (.iaload, 1) := by decide +kernel
theorem dX7_town_269 : decode cX7_town 269 = .ok (.ireturn, 1) := by decide +kernel
theorem dX7_fault_0 : decode cX7_fault 0 = .ok (.aload_n 0, 1) := by decide +kernel
theorem dX7_fault_1 : decode cX7_fault 1 = .ok (.getfield 123, 3) := by decide +kernel
theorem dX7_fault_4 : decode cX7_fault 4 = .ok (.ireturn, 1) := by decide +kernel
theorem dX7_isTown_0 : decode cX7_isTown 0 = .ok (.aload_n 0, 1) := by decide +kernel
theorem dX7_isTown_1 : decode cX7_isTown 1 = .ok (.getfield 25, 3) := by decide +kernel
theorem dX7_isTown_4 : decode cX7_isTown 4 = .ok (.iconst 0, 1) := by decide +kernel
theorem dX7_isTown_5 : decode cX7_isTown 5 = .ok (.iaload, 1) := by decide +kernel
theorem dX7_isTown_6 : decode cX7_isTown 6 = .ok (.ifCond .le 7, 3) := by decide +kernel
theorem dX7_isTown_9 : decode cX7_isTown 9 = .ok (.iconst 1, 1) := by decide +kernel
theorem dX7_isTown_10 : decode cX7_isTown 10 = .ok (.goto 4, 3) := by decide +kernel
theorem dX7_isTown_13 : decode cX7_isTown 13 = .ok (.iconst 0, 1) := by decide +kernel
theorem dX7_isTown_14 : decode cX7_isTown 14 = .ok (.ireturn, 1) := by decide +kernel
theorem dX7_isCorner_0 : decode cX7_isCorner 0 = .ok (.iload_n 1, 1) := by decide +kernel
theorem dX7_isCorner_1 : decode cX7_isCorner 1 = .ok (.iconst 0, 1) := by decide +kernel
theorem dX7_isCorner_2 : decode cX7_isCorner 2 = .ok (.aload_n 0, 1) := by decide +kernel
theorem dX7_isCorner_3 : decode cX7_isCorner 3 = .ok (.getfield 25, 3) := by decide +kernel
theorem dX7_isCorner_6 : decode cX7_isCorner 6 = .ok (.bipush 6, 2) := by decide +kernel
theorem dX7_isCorner_8 : decode cX7_isCorner 8 = .ok (.iaload, 1) := by decide +kernel
theorem dX7_isCorner_9 : decode cX7_isCorner 9 = .ok (.iconst 1, 1) := by decide +kernel
theorem dX7_isCorner_10 : decode cX7_isCorner 10 = .ok (.isub, 1) := by decide +kernel
theorem dX7_isCorner_11 : decode cX7_isCorner 11 = .ok (.invokestatic 71, 3) := by decide +kernel
theorem dX7_isCorner_14 : decode cX7_isCorner 14 = .ok (.ireturn, 1) := by decide +kernel
theorem dX7_isStreet_0 : decode cX7_isStreet 0 = .ok (.iload_n 1, 1) := by decide +kernel
theorem dX7_isStreet_1 : decode cX7_isStreet 1 = .ok (.iconst 0, 1) := by decide +kernel
theorem dX7_isStreet_2 : decode cX7_isStreet 2 = .ok (.aload_n 0, 1) := by decide +kernel
theorem dX7_isStreet_3 : decode cX7_isStreet 3 = .ok (.getfield 25, 3) := by decide +kernel
theorem dX7_isStreet_6 : decode cX7_isStreet 6 = .ok (.bipush 25, 2) := by decide +kernel
theorem dX7_isStreet_8 : decode cX7_isStreet 8 = .ok (.iaload, 1) := by decide +kernel
theorem dX7_isStreet_9 : decode cX7_isStreet 9 = .ok (.iconst 1, 1) := by decide +kernel
theorem dX7_isStreet_10 : decode cX7_isStreet 10 = .ok (.isub, 1) := by decide +kernel
theorem dX7_isStreet_11 : decode cX7_isStreet 11 = .ok (.invokestatic 71, 3) := by decide +kernel
theorem dX7_isStreet_14 : decode cX7_isStreet 14 = .ok (.ireturn, 1) := by decide +kernel
theorem dX7_passed_0 : decode cX7_passed 0 = .ok (.aload_n 0, 1) := by decide +kernel
theorem dX7_passed_1 : decode cX7_passed 1 = .ok (.bipush 7, 2) := by decide +kernel
theorem dX7_passed_3 : decode cX7_passed 3 = .ok (.iconst 3, 1) := by decide +kernel
theorem dX7_passed_4 : decode cX7_passed 4 = .ok (.iload_n 1, 1) := by decide +kernel
theorem dX7_passed_5 : decode cX7_passed 5 = .ok (.imul, 1) := by decide +kernel
theorem dX7_passed_6 : decode cX7_passed 6 = .ok (.iadd, 1) := by decide +kernel
theorem dX7_passed_7 : decode cX7_passed 7 = .ok (.iconst 1, 1) := by decide +kernel
theorem dX7_passed_8 : decode cX7_passed 8 = .ok (.iadd, 1) := by decide +kernel
theorem dX7_passed_9 : decode cX7_passed 9 = .ok (.iaload, 1) := by decide +kernel
theorem dX7_passed_10 : decode cX7_passed 10 = .ok (.istore 4, 2) := by decide +kernel
theorem dX7_passed_12 : decode cX7_passed 12 = .ok (.iconst 0, 1) := by decide +kernel
theorem dX7_passed_13 : decode cX7_passed 13 = .ok (.istore 5, 2) := by decide +kernel
theorem dX7_passed_15 : decode cX7_passed 15 = .ok (.aload_n 0, 1) := by decide +kernel
theorem dX7_passed_16 : decode cX7_passed 16 = .ok (.bipush 7, 2) := by decide +kernel
theorem dX7_passed_18 : decode cX7_passed 18 = .ok (.iconst 3, 1) := by decide +kernel
theorem dX7_passed_19 : decode cX7_passed 19 = .ok (.iload_n 1, 1) := by decide +kernel
theorem dX7_passed_20 : decode cX7_passed 20 = .ok (.imul, 1) := by decide +kernel
theorem dX7_passed_21 : decode cX7_passed 21 = .ok (.iadd, 1) := by decide +kernel
theorem dX7_passed_22 : decode cX7_passed 22 = .ok (.iaload, 1) := by decide +kernel
theorem dX7_passed_23 : decode cX7_passed 23 = .ok (.tableswitch 69 1 3 #[25, 32, 51], 25) := by decide +kernel
theorem dX7_passed_48 : decode cX7_passed 48 = .ok (.iload 4, 2) := by decide +kernel
theorem dX7_passed_50 : decode cX7_passed 50 = .ok (.istore 5, 2) := by decide +kernel
theorem dX7_passed_52 : decode cX7_passed 52 = .ok (.goto 45, 3) := by decide +kernel
theorem dX7_passed_55 : decode cX7_passed 55 = .ok (.iload_n 2, 1) := by decide +kernel
theorem dX7_passed_56 : decode cX7_passed 56 = .ok (.iconst 4, 1) := by decide +kernel
theorem dX7_passed_57 : decode cX7_passed 57 = .ok (.if_icmp .le 10, 3) := by decide +kernel
theorem dX7_passed_60 : decode cX7_passed 60 = .ok (.iconst 2, 1) := by decide +kernel
theorem dX7_passed_61 : decode cX7_passed 61 = .ok (.iload 4, 2) := by decide +kernel
theorem dX7_passed_63 : decode cX7_passed 63 = .ok (.imul, 1) := by decide +kernel
theorem dX7_passed_64 : decode cX7_passed 64 = .ok (.goto 5, 3) := by decide +kernel
theorem dX7_passed_67 : decode cX7_passed 67 = .ok (.iload 4, 2) := by decide +kernel
theorem dX7_passed_69 : decode cX7_passed 69 = .ok (.istore 5, 2) := by decide +kernel
theorem dX7_passed_71 : decode cX7_passed 71 = .ok (.goto 26, 3) := by decide +kernel
theorem dX7_passed_74 : decode cX7_passed 74 = .ok (.iload_n 3, 1) := by decide +kernel
theorem dX7_passed_75 : decode cX7_passed 75 = .ok (.iconst 2, 1) := by decide +kernel
theorem dX7_passed_76 : decode cX7_passed 76 = .ok (.irem, 1) := by decide +kernel
theorem dX7_passed_77 : decode cX7_passed 77 = .ok (.iconst 1, 1) := by decide +kernel
theorem dX7_passed_78 : decode cX7_passed 78 = .ok (.if_icmp .ne 8, 3) := by decide +kernel
theorem dX7_passed_81 : decode cX7_passed 81 = .ok (.iload 4, 2) := by decide +kernel
theorem dX7_passed_83 : decode cX7_passed 83 = .ok (.goto 4, 3) := by decide +kernel
theorem dX7_passed_86 : decode cX7_passed 86 = .ok (.iconst 0, 1) := by decide +kernel
theorem dX7_passed_87 : decode cX7_passed 87 = .ok (.istore 5, 2) := by decide +kernel
theorem dX7_passed_89 : decode cX7_passed 89 = .ok (.goto 8, 3) := by decide +kernel
theorem dX7_passed_92 : decode cX7_passed 92 = .ok (.iload 4, 2) := by decide +kernel
theorem dX7_passed_94 : decode cX7_passed 94 = .ok (.ineg, 1) := by decide +kernel
theorem dX7_passed_95 : decode cX7_passed 95 = .ok (.istore 5, 2) := by decide +kernel
theorem dX7_passed_97 : decode cX7_passed 97 = .ok (.iload_n 2, 1) := by decide +kernel
theorem dX7_passed_98 : decode cX7_passed 98 = .ok (.iload 5, 2) := by decide +kernel
theorem dX7_passed_100 : decode cX7_passed 100 = .ok (.iadd, 1) := by decide +kernel
theorem dX7_passed_101 : decode cX7_passed 101 = .ok (.istore 6, 2) := by decide +kernel
theorem dX7_passed_103 : decode cX7_passed 103 = .ok (.iload 6, 2) := by decide +kernel
theorem dX7_passed_105 : decode cX7_passed 105 = .ok (.ifCond .ge 7, 3) := by decide +kernel
theorem dX7_passed_108 : decode cX7_passed 108 = .ok (.iconst 0, 1) := by decide +kernel
theorem dX7_passed_109 : decode cX7_passed 109 = .ok (.goto 17, 3) := by decide +kernel
theorem dX7_passed_112 : decode cX7_passed 112 = .ok (.iload 6, 2) := by decide +kernel
theorem dX7_passed_114 : decode cX7_passed 114 = .ok (.bipush 9, 2) := by decide +kernel
theorem dX7_passed_116 : decode cX7_passed 116 = .ok (.if_icmp .le 8, 3) := by decide +kernel
theorem dX7_passed_119 : decode cX7_passed 119 = .ok (.bipush 9, 2) := by decide +kernel
theorem dX7_passed_121 : decode cX7_passed 121 = .ok (.goto 5, 3) := by decide +kernel
theorem dX7_passed_124 : decode cX7_passed 124 = .ok (.iload 6, 2) := by decide +kernel
theorem dX7_passed_126 : decode cX7_passed 126 = .ok (.istore 6, 2) := by decide +kernel
theorem dX7_passed_128 : decode cX7_passed 128 = .ok (.aload_n 0, 1) := by decide +kernel
theorem dX7_passed_129 : decode cX7_passed 129 = .ok (.bipush 7, 2) := by decide +kernel
theorem dX7_passed_131 : decode cX7_passed 131 = .ok (.iconst 3, 1) := by decide +kernel
theorem dX7_passed_132 : decode cX7_passed 132 = .ok (.iload_n 1, 1) := by decide +kernel
theorem dX7_passed_133 : decode cX7_passed 133 = .ok (.imul, 1) := by decide +kernel
theorem dX7_passed_134 : decode cX7_passed 134 = .ok (.iadd, 1) := by decide +kernel
theorem dX7_passed_135 : decode cX7_passed 135 = .ok (.iaload, 1) := by decide +kernel
theorem dX7_passed_136 : decode cX7_passed 136 = .ok (.iconst 5, 1) := by decide +kernel
theorem dX7_passed_137 : decode cX7_passed 137 = .ok (.if_icmp .ne 10, 3) := by decide +kernel
theorem dX7_passed_140 : decode cX7_passed 140 = .ok (.iload 6, 2) := by decide +kernel
theorem dX7_passed_142 : decode cX7_passed 142 = .ok (.iconst 2, 1) := by decide +kernel
theorem dX7_passed_143 : decode cX7_passed 143 = .ok (.idiv, 1) := by decide +kernel
theorem dX7_passed_144 : decode cX7_passed 144 = .ok (.goto 5, 3) := by decide +kernel
theorem dX7_passed_147 : decode cX7_passed 147 = .ok (.iload 6, 2) := by decide +kernel
theorem dX7_passed_149 : decode cX7_passed 149 = .ok (.ireturn, 1) := by decide +kernel
theorem dX7_cost_0 : decode cX7_cost 0 = .ok (.aload_n 0, 1) := by decide +kernel
theorem dX7_cost_1 : decode cX7_cost 1 = .ok (.iload_n 1, 1) := by decide +kernel
theorem dX7_cost_2 : decode cX7_cost 2 = .ok (.iload_n 2, 1) := by decide +kernel
theorem dX7_cost_3 : decode cX7_cost 3 = .ok (.iload_n 3, 1) := by decide +kernel
theorem dX7_cost_4 : decode cX7_cost 4 = .ok (.invokestatic 163, 3) := by decide +kernel
theorem dX7_cost_7 : decode cX7_cost 7 = .ok (.istore 4, 2) := by decide +kernel
theorem dX7_cost_9 : decode cX7_cost 9 = .ok (.iload 4, 2) := by decide +kernel
theorem dX7_cost_11 : decode cX7_cost 11 = .ok (.iload_n 2, 1) := by decide +kernel
theorem dX7_cost_12 : decode cX7_cost 12 = .ok (.if_icmp .le 10, 3) := by decide +kernel
theorem dX7_cost_15 : decode cX7_cost 15 = .ok (.iload 4, 2) := by decide +kernel
theorem dX7_cost_17 : decode cX7_cost 17 = .ok (.iload_n 2, 1) := by decide +kernel
theorem dX7_cost_18 : decode cX7_cost 18 = .ok (.isub, 1) := by decide +kernel
theorem dX7_cost_19 : decode cX7_cost 19 = .ok (.goto 7, 3) := by decide +kernel
theorem dX7_cost_22 : decode cX7_cost 22 = .ok (.iload_n 2, 1) := by decide +kernel
theorem dX7_cost_23 : decode cX7_cost 23 = .ok (.iload 4, 2) := by decide +kernel
theorem dX7_cost_25 : decode cX7_cost 25 = .ok (.isub, 1) := by decide +kernel
theorem dX7_cost_26 : decode cX7_cost 26 = .ok (.aload_n 0, 1) := by decide +kernel
theorem dX7_cost_27 : decode cX7_cost 27 = .ok (.iconst 0, 1) := by decide +kernel
theorem dX7_cost_28 : decode cX7_cost 28 = .ok (.iaload, 1) := by decide +kernel
theorem dX7_cost_29 : decode cX7_cost 29 = .ok (.imul, 1) := by decide +kernel
theorem dX7_cost_30 : decode cX7_cost 30 = .ok (.aload_n 0, 1) := by decide +kernel
theorem dX7_cost_31 : decode cX7_cost 31 = .ok (.bipush 7, 2) := by decide +kernel
theorem dX7_cost_33 : decode cX7_cost 33 = .ok (.iconst 3, 1) := by decide +kernel
theorem dX7_cost_34 : decode cX7_cost 34 = .ok (.iload_n 1, 1) := by decide +kernel
theorem dX7_cost_35 : decode cX7_cost 35 = .ok (.imul, 1) := by decide +kernel
theorem dX7_cost_36 : decode cX7_cost 36 = .ok (.iadd, 1) := by decide +kernel
theorem dX7_cost_37 : decode cX7_cost 37 = .ok (.iconst 2, 1) := by decide +kernel
theorem dX7_cost_38 : decode cX7_cost 38 = .ok (.iadd, 1) := by decide +kernel
theorem dX7_cost_39 : decode cX7_cost 39 = .ok (.iaload, 1) := by decide +kernel
theorem dX7_cost_40 : decode cX7_cost 40 = .ok (.iadd, 1) := by decide +kernel
theorem dX7_cost_41 : decode cX7_cost 41 = .ok (.ireturn, 1) := by decide +kernel
theorem dX7_goes_0 : decode cX7_goes 0 = .ok (.iload_n 1, 1) := by decide +kernel
theorem dX7_goes_1 : decode cX7_goes 1 = .ok (.iconst 0, 1) := by decide +kernel
theorem dX7_goes_2 : decode cX7_goes 2 = .ok (.aload_n 0, 1) := by decide +kernel
theorem dX7_goes_3 : decode cX7_goes 3 = .ok (.bipush 25, 2) := by decide +kernel
theorem dX7_goes_5 : decode cX7_goes 5 = .ok (.iaload, 1) := by decide +kernel
theorem dX7_goes_6 : decode cX7_goes 6 = .ok (.iconst 1, 1) := by decide +kernel
theorem dX7_goes_7 : decode cX7_goes 7 = .ok (.isub, 1) := by decide +kernel
theorem dX7_goes_8 : decode cX7_goes 8 = .ok (.invokestatic 71, 3) := by decide +kernel
theorem dX7_goes_11 : decode cX7_goes 11 = .ok (.ifCond .eq 29, 3) := by decide +kernel
theorem dX7_goes_14 : decode cX7_goes 14 = .ok (.aload_n 0, 1) := by decide +kernel
theorem dX7_goes_15 : decode cX7_goes 15 = .ok (.iconst 5, 1) := by decide +kernel
theorem dX7_goes_16 : decode cX7_goes 16 = .ok (.iaload, 1) := by decide +kernel
theorem dX7_goes_17 : decode cX7_goes 17 = .ok (.iload_n 1, 1) := by decide +kernel
theorem dX7_goes_18 : decode cX7_goes 18 = .ok (.invokestatic 167, 3) := by decide +kernel
theorem dX7_goes_21 : decode cX7_goes 21 = .ok (.ifCond .eq 19, 3) := by decide +kernel
theorem dX7_goes_24 : decode cX7_goes 24 = .ok (.aload_n 0, 1) := by decide +kernel
theorem dX7_goes_25 : decode cX7_goes 25 = .ok (.bipush 26, 2) := by decide +kernel
theorem dX7_goes_27 : decode cX7_goes 27 = .ok (.iconst 2, 1) := by decide +kernel
theorem dX7_goes_28 : decode cX7_goes 28 = .ok (.iload_n 1, 1) := by decide +kernel
theorem dX7_goes_29 : decode cX7_goes 29 = .ok (.imul, 1) := by decide +kernel
theorem dX7_goes_30 : decode cX7_goes 30 = .ok (.iadd, 1) := by decide +kernel
theorem dX7_goes_31 : decode cX7_goes 31 = .ok (.iaload, 1) := by decide +kernel
theorem dX7_goes_32 : decode cX7_goes 32 = .ok (.iload_n 2, 1) := by decide +kernel
theorem dX7_goes_33 : decode cX7_goes 33 = .ok (.if_icmp .ne 7, 3) := by decide +kernel
theorem dX7_goes_36 : decode cX7_goes 36 = .ok (.iconst 1, 1) := by decide +kernel
theorem dX7_goes_37 : decode cX7_goes 37 = .ok (.goto 4, 3) := by decide +kernel
theorem dX7_goes_40 : decode cX7_goes 40 = .ok (.iconst 0, 1) := by decide +kernel
theorem dX7_goes_41 : decode cX7_goes 41 = .ok (.ireturn, 1) := by decide +kernel
theorem dX7_rides_0 : decode cX7_rides 0 = .ok (.aload_n 0, 1) := by decide +kernel
theorem dX7_rides_1 : decode cX7_rides 1 = .ok (.bipush 26, 2) := by decide +kernel
theorem dX7_rides_3 : decode cX7_rides 3 = .ok (.iconst 2, 1) := by decide +kernel
theorem dX7_rides_4 : decode cX7_rides 4 = .ok (.iload_n 1, 1) := by decide +kernel
theorem dX7_rides_5 : decode cX7_rides 5 = .ok (.imul, 1) := by decide +kernel
theorem dX7_rides_6 : decode cX7_rides 6 = .ok (.iadd, 1) := by decide +kernel
theorem dX7_rides_7 : decode cX7_rides 7 = .ok (.iconst 1, 1) := by decide +kernel
theorem dX7_rides_8 : decode cX7_rides 8 = .ok (.iadd, 1) := by decide +kernel
theorem dX7_rides_9 : decode cX7_rides 9 = .ok (.iaload, 1) := by decide +kernel
theorem dX7_rides_10 : decode cX7_rides 10 = .ok (.istore_n 2, 1) := by decide +kernel
theorem dX7_rides_11 : decode cX7_rides 11 = .ok (.aload_n 0, 1) := by decide +kernel
theorem dX7_rides_12 : decode cX7_rides 12 = .ok (.iconst 2, 1) := by decide +kernel
theorem dX7_rides_13 : decode cX7_rides 13 = .ok (.iaload, 1) := by decide +kernel
theorem dX7_rides_14 : decode cX7_rides 14 = .ok (.aload_n 0, 1) := by decide +kernel
theorem dX7_rides_15 : decode cX7_rides 15 = .ok (.iload_n 2, 1) := by decide +kernel
theorem dX7_rides_16 : decode cX7_rides 16 = .ok (.aload_n 0, 1) := by decide +kernel
theorem dX7_rides_17 : decode cX7_rides 17 = .ok (.iconst 1, 1) := by decide +kernel
theorem dX7_rides_18 : decode cX7_rides 18 = .ok (.iaload, 1) := by decide +kernel
theorem dX7_rides_19 : decode cX7_rides 19 = .ok (.aload_n 0, 1) := by decide +kernel
theorem dX7_rides_20 : decode cX7_rides 20 = .ok (.iconst 3, 1) := by decide +kernel
theorem dX7_rides_21 : decode cX7_rides 21 = .ok (.iaload, 1) := by decide +kernel
theorem dX7_rides_22 : decode cX7_rides 22 = .ok (.invokestatic 170, 3) := by decide +kernel
theorem dX7_rides_25 : decode cX7_rides 25 = .ok (.iadd, 1) := by decide +kernel
theorem dX7_rides_26 : decode cX7_rides 26 = .ok (.istore_n 3, 1) := by decide +kernel
theorem dX7_rides_27 : decode cX7_rides 27 = .ok (.aload_n 0, 1) := by decide +kernel
theorem dX7_rides_28 : decode cX7_rides 28 = .ok (.iconst 2, 1) := by decide +kernel
theorem dX7_rides_29 : decode cX7_rides 29 = .ok (.iload_n 3, 1) := by decide +kernel
theorem dX7_rides_30 : decode cX7_rides 30 = .ok (.sipush 9999, 3) := by decide +kernel
theorem dX7_rides_33 : decode cX7_rides 33 = .ok (.if_icmp .le 9, 3) := by decide +kernel
theorem dX7_rides_36 : decode cX7_rides 36 = .ok (.sipush 9999, 3) := by decide +kernel
theorem dX7_rides_39 : decode cX7_rides 39 = .ok (.goto 4, 3) := by decide +kernel
theorem dX7_rides_42 : decode cX7_rides 42 = .ok (.iload_n 3, 1) := by decide +kernel
theorem dX7_rides_43 : decode cX7_rides 43 = .ok (.iastore, 1) := by decide +kernel
theorem dX7_rides_44 : decode cX7_rides 44 = .ok (.aload_n 0, 1) := by decide +kernel
theorem dX7_rides_45 : decode cX7_rides 45 = .ok (.iconst 1, 1) := by decide +kernel
theorem dX7_rides_46 : decode cX7_rides 46 = .ok (.aload_n 0, 1) := by decide +kernel
theorem dX7_rides_47 : decode cX7_rides 47 = .ok (.iload_n 2, 1) := by decide +kernel
theorem dX7_rides_48 : decode cX7_rides 48 = .ok (.aload_n 0, 1) := by decide +kernel
theorem dX7_rides_49 : decode cX7_rides 49 = .ok (.iconst 1, 1) := by decide +kernel
theorem dX7_rides_50 : decode cX7_rides 50 = .ok (.iaload, 1) := by decide +kernel
theorem dX7_rides_51 : decode cX7_rides 51 = .ok (.aload_n 0, 1) := by decide +kernel
theorem dX7_rides_52 : decode cX7_rides 52 = .ok (.iconst 3, 1) := by decide +kernel
theorem dX7_rides_53 : decode cX7_rides 53 = .ok (.iaload, 1) := by decide +kernel
theorem dX7_rides_54 : decode cX7_rides 54 = .ok (.invokestatic 163, 3) := by decide +kernel
theorem dX7_rides_57 : decode cX7_rides 57 = .ok (.iastore, 1) := by decide +kernel
theorem dX7_rides_58 : decode cX7_rides 58 = .ok (.aload_n 0, 1) := by decide +kernel
theorem dX7_rides_59 : decode cX7_rides 59 = .ok (.iconst 4, 1) := by decide +kernel
theorem dX7_rides_60 : decode cX7_rides 60 = .ok (.iload_n 2, 1) := by decide +kernel
theorem dX7_rides_61 : decode cX7_rides 61 = .ok (.iastore, 1) := by decide +kernel
theorem dX7_rides_62 : decode cX7_rides 62 = .ok (.aload_n 0, 1) := by decide +kernel
theorem dX7_rides_63 : decode cX7_rides 63 = .ok (.iconst 3, 1) := by decide +kernel
theorem dX7_rides_64 : decode cX7_rides 64 = .ok (.dup2, 1) := by decide +kernel
theorem dX7_rides_65 : decode cX7_rides 65 = .ok (.iaload, 1) := by decide +kernel
theorem dX7_rides_66 : decode cX7_rides 66 = .ok (.iconst 1, 1) := by decide +kernel
theorem dX7_rides_67 : decode cX7_rides 67 = .ok (.iadd, 1) := by decide +kernel
theorem dX7_rides_68 : decode cX7_rides 68 = .ok (.iastore, 1) := by decide +kernel
theorem dX7_rides_69 : decode cX7_rides 69 = .ok (.return_, 1) := by decide +kernel
theorem dX7_notes_0 : decode cX7_notes 0 = .ok (.aload_n 0, 1) := by decide +kernel
theorem dX7_notes_1 : decode cX7_notes 1 = .ok (.getfield 160, 3) := by decide +kernel
theorem dX7_notes_4 : decode cX7_notes 4 = .ok (.bipush 24, 2) := by decide +kernel
theorem dX7_notes_6 : decode cX7_notes 6 = .ok (.if_icmp .ne 43, 3) := by decide +kernel
theorem dX7_notes_9 : decode cX7_notes 9 = .ok (.iconst 0, 1) := by decide +kernel
theorem dX7_notes_10 : decode cX7_notes 10 = .ok (.istore_n 1, 1) := by decide +kernel
theorem dX7_notes_11 : decode cX7_notes 11 = .ok (.iload_n 1, 1) := by decide +kernel
theorem dX7_notes_12 : decode cX7_notes 12 = .ok (.sipush 966, 3) := by decide +kernel
theorem dX7_notes_15 : decode cX7_notes 15 = .ok (.if_icmp .ge 24, 3) := by decide +kernel
theorem dX7_notes_18 : decode cX7_notes 18 = .ok (.aload_n 0, 1) := by decide +kernel
theorem dX7_notes_19 : decode cX7_notes 19 = .ok (.getfield 34, 3) := by decide +kernel
theorem dX7_notes_22 : decode cX7_notes 22 = .ok (.iload_n 1, 1) := by decide +kernel
theorem dX7_notes_23 : decode cX7_notes 23 = .ok (.aload_n 0, 1) := by decide +kernel
theorem dX7_notes_24 : decode cX7_notes 24 = .ok (.getfield 34, 3) := by decide +kernel
theorem dX7_notes_27 : decode cX7_notes 27 = .ok (.iload_n 1, 1) := by decide +kernel
theorem dX7_notes_28 : decode cX7_notes 28 = .ok (.bipush 42, 2) := by decide +kernel
theorem dX7_notes_30 : decode cX7_notes 30 = .ok (.iadd, 1) := by decide +kernel
theorem dX7_notes_31 : decode cX7_notes 31 = .ok (.iaload, 1) := by decide +kernel
theorem dX7_notes_32 : decode cX7_notes 32 = .ok (.iastore, 1) := by decide +kernel
theorem dX7_notes_33 : decode cX7_notes 33 = .ok (.iinc 1 1, 3) := by decide +kernel
theorem dX7_notes_36 : decode cX7_notes 36 = .ok (.goto (-25), 3) := by decide +kernel
theorem dX7_notes_39 : decode cX7_notes 39 = .ok (.aload_n 0, 1) := by decide +kernel
theorem dX7_notes_40 : decode cX7_notes 40 = .ok (.dup, 1) := by decide +kernel
theorem dX7_notes_41 : decode cX7_notes 41 = .ok (.getfield 160, 3) := by decide +kernel
theorem dX7_notes_44 : decode cX7_notes 44 = .ok (.iconst 1, 1) := by decide +kernel
theorem dX7_notes_45 : decode cX7_notes 45 = .ok (.isub, 1) := by decide +kernel
theorem dX7_notes_46 : decode cX7_notes 46 = .ok (.putfield 160, 3) := by decide +kernel
theorem dX7_notes_49 : decode cX7_notes 49 = .ok (.aload_n 0, 1) := by decide +kernel
theorem dX7_notes_50 : decode cX7_notes 50 = .ok (.getfield 25, 3) := by decide +kernel
theorem dX7_notes_53 : decode cX7_notes 53 = .ok (.iconst 0, 1) := by decide +kernel
theorem dX7_notes_54 : decode cX7_notes 54 = .ok (.aload_n 0, 1) := by decide +kernel
theorem dX7_notes_55 : decode cX7_notes 55 = .ok (.getfield 34, 3) := by decide +kernel
theorem dX7_notes_58 : decode cX7_notes 58 = .ok (.bipush 42, 2) := by decide +kernel
theorem dX7_notes_60 : decode cX7_notes 60 = .ok (.aload_n 0, 1) := by decide +kernel
theorem dX7_notes_61 : decode cX7_notes 61 = .ok (.getfield 160, 3) := by decide +kernel
theorem dX7_notes_64 : decode cX7_notes 64 = .ok (.imul, 1) := by decide +kernel
theorem dX7_notes_65 : decode cX7_notes 65 = .ok (.invokestatic 156, 3) := by decide +kernel
theorem dX7_notes_68 : decode cX7_notes 68 = .ok (.aload_n 0, 1) := by decide +kernel
theorem dX7_notes_69 : decode cX7_notes 69 = .ok (.dup, 1) := by decide +kernel
theorem dX7_notes_70 : decode cX7_notes 70 = .ok (.getfield 160, 3) := by decide +kernel
theorem dX7_notes_73 : decode cX7_notes 73 = .ok (.iconst 1, 1) := by decide +kernel
theorem dX7_notes_74 : decode cX7_notes 74 = .ok (.iadd, 1) := by decide +kernel
theorem dX7_notes_75 : decode cX7_notes 75 = .ok (.putfield 160, 3) := by decide +kernel
theorem dX7_notes_78 : decode cX7_notes 78 = .ok (.return_, 1) := by decide +kernel
theorem dX7_ride_0 : decode cX7_ride 0 = .ok (.aload_n 0, 1) := by decide +kernel
theorem dX7_ride_1 : decode cX7_ride 1 = .ok (.iload_n 1, 1) := by decide +kernel
theorem dX7_ride_2 : decode cX7_ride 2 = .ok (.invokevirtual 173, 3) := by decide +kernel
theorem dX7_ride_5 : decode cX7_ride 5 = .ok (.ifCond .ne 6, 3) := by decide +kernel
theorem dX7_ride_8 : decode cX7_ride 8 = .ok (.ldc 79, 2) := by decide +kernel
theorem dX7_ride_10 : decode cX7_ride 10 = .ok (.ireturn, 1) := by decide +kernel
theorem dX7_ride_11 : decode cX7_ride 11 = .ok (.aload_n 0, 1) := by decide +kernel
theorem dX7_ride_12 : decode cX7_ride 12 = .ok (.getfield 25, 3) := by decide +kernel
theorem dX7_ride_15 : decode cX7_ride 15 = .ok (.iload_n 1, 1) := by decide +kernel
theorem dX7_ride_16 : decode cX7_ride 16 = .ok (.aload_n 0, 1) := by decide +kernel
theorem dX7_ride_17 : decode cX7_ride 17 = .ok (.getfield 25, 3) := by decide +kernel
theorem dX7_ride_20 : decode cX7_ride 20 = .ok (.iconst 4, 1) := by decide +kernel
theorem dX7_ride_21 : decode cX7_ride 21 = .ok (.iaload, 1) := by decide +kernel
theorem dX7_ride_22 : decode cX7_ride 22 = .ok (.invokestatic 176, 3) := by decide +kernel
theorem dX7_ride_25 : decode cX7_ride 25 = .ok (.ifCond .ne 6, 3) := by decide +kernel
theorem dX7_ride_28 : decode cX7_ride 28 = .ok (.ldc 180, 2) := by decide +kernel
theorem dX7_ride_30 : decode cX7_ride 30 = .ok (.ireturn, 1) := by decide +kernel
theorem dX7_ride_31 : decode cX7_ride 31 = .ok (.aload_n 0, 1) := by decide +kernel
theorem dX7_ride_32 : decode cX7_ride 32 = .ok (.getfield 25, 3) := by decide +kernel
theorem dX7_ride_35 : decode cX7_ride 35 = .ok (.iconst 3, 1) := by decide +kernel
theorem dX7_ride_36 : decode cX7_ride 36 = .ok (.iaload, 1) := by decide +kernel
theorem dX7_ride_37 : decode cX7_ride 37 = .ok (.sipush 999, 3) := by decide +kernel
theorem dX7_ride_40 : decode cX7_ride 40 = .ok (.if_icmp .lt 6, 3) := by decide +kernel
theorem dX7_ride_43 : decode cX7_ride 43 = .ok (.ldc 100, 2) := by decide +kernel
theorem dX7_ride_45 : decode cX7_ride 45 = .ok (.ireturn, 1) := by decide +kernel
theorem dX7_ride_46 : decode cX7_ride 46 = .ok (.aload_n 0, 1) := by decide +kernel
theorem dX7_ride_47 : decode cX7_ride 47 = .ok (.invokevirtual 181, 3) := by decide +kernel
theorem dX7_ride_50 : decode cX7_ride 50 = .ok (.aload_n 0, 1) := by decide +kernel
theorem dX7_ride_51 : decode cX7_ride 51 = .ok (.getfield 25, 3) := by decide +kernel
theorem dX7_ride_54 : decode cX7_ride 54 = .ok (.iload_n 1, 1) := by decide +kernel
theorem dX7_ride_55 : decode cX7_ride 55 = .ok (.invokestatic 184, 3) := by decide +kernel
theorem dX7_ride_58 : decode cX7_ride 58 = .ok (.aload_n 0, 1) := by decide +kernel
theorem dX7_ride_59 : decode cX7_ride 59 = .ok (.getfield 25, 3) := by decide +kernel
theorem dX7_ride_62 : decode cX7_ride 62 = .ok (.iconst 1, 1) := by decide +kernel
theorem dX7_ride_63 : decode cX7_ride 63 = .ok (.iaload, 1) := by decide +kernel
theorem dX7_ride_64 : decode cX7_ride 64 = .ok (.ireturn, 1) := by decide +kernel
theorem dX7_lesson_0 : decode cX7_lesson 0 = .ok (.aload_n 0, 1) := by decide +kernel
theorem dX7_lesson_1 : decode cX7_lesson 1 = .ok (.iload_n 1, 1) := by decide +kernel
theorem dX7_lesson_2 : decode cX7_lesson 2 = .ok (.invokevirtual 188, 3) := by decide +kernel
theorem dX7_lesson_5 : decode cX7_lesson 5 = .ok (.ifCond .eq 13, 3) := by decide +kernel
theorem dX7_lesson_8 : decode cX7_lesson 8 = .ok (.iload_n 2, 1) := by decide +kernel
theorem dX7_lesson_9 : decode cX7_lesson 9 = .ok (.iconst 0, 1) := by decide +kernel
theorem dX7_lesson_10 : decode cX7_lesson 10 = .ok (.bipush 9, 2) := by decide +kernel
theorem dX7_lesson_12 : decode cX7_lesson 12 = .ok (.invokestatic 71, 3) := by decide +kernel
theorem dX7_lesson_15 : decode cX7_lesson 15 = .ok (.ifCond .ne 6, 3) := by decide +kernel
theorem dX7_lesson_18 : decode cX7_lesson 18 = .ok (.ldc 79, 2) := by decide +kernel
theorem dX7_lesson_20 : decode cX7_lesson 20 = .ok (.ireturn, 1) := by decide +kernel
theorem dX7_lesson_21 : decode cX7_lesson 21 = .ok (.aload_n 0, 1) := by decide +kernel
theorem dX7_lesson_22 : decode cX7_lesson 22 = .ok (.invokevirtual 181, 3) := by decide +kernel
theorem dX7_lesson_25 : decode cX7_lesson 25 = .ok (.aload_n 0, 1) := by decide +kernel
theorem dX7_lesson_26 : decode cX7_lesson 26 = .ok (.getfield 25, 3) := by decide +kernel
theorem dX7_lesson_29 : decode cX7_lesson 29 = .ok (.bipush 7, 2) := by decide +kernel
theorem dX7_lesson_31 : decode cX7_lesson 31 = .ok (.iconst 3, 1) := by decide +kernel
theorem dX7_lesson_32 : decode cX7_lesson 32 = .ok (.iload_n 1, 1) := by decide +kernel
theorem dX7_lesson_33 : decode cX7_lesson 33 = .ok (.imul, 1) := by decide +kernel
theorem dX7_lesson_34 : decode cX7_lesson 34 = .ok (.iadd, 1) := by decide +kernel
theorem dX7_lesson_35 : decode cX7_lesson 35 = .ok (.iconst 1, 1) := by decide +kernel
theorem dX7_lesson_36 : decode cX7_lesson 36 = .ok (.iadd, 1) := by decide +kernel
theorem dX7_lesson_37 : decode cX7_lesson 37 = .ok (.iaload, 1) := by decide +kernel
theorem dX7_lesson_38 : decode cX7_lesson 38 = .ok (.istore_n 3, 1) := by decide +kernel
theorem dX7_lesson_39 : decode cX7_lesson 39 = .ok (.aload_n 0, 1) := by decide +kernel
theorem dX7_lesson_40 : decode cX7_lesson 40 = .ok (.getfield 25, 3) := by decide +kernel
theorem dX7_lesson_43 : decode cX7_lesson 43 = .ok (.bipush 7, 2) := by decide +kernel
theorem dX7_lesson_45 : decode cX7_lesson 45 = .ok (.iconst 3, 1) := by decide +kernel
theorem dX7_lesson_46 : decode cX7_lesson 46 = .ok (.iload_n 1, 1) := by decide +kernel
theorem dX7_lesson_47 : decode cX7_lesson 47 = .ok (.imul, 1) := by decide +kernel
theorem dX7_lesson_48 : decode cX7_lesson 48 = .ok (.iadd, 1) := by decide +kernel
theorem dX7_lesson_49 : decode cX7_lesson 49 = .ok (.iconst 1, 1) := by decide +kernel
theorem dX7_lesson_50 : decode cX7_lesson 50 = .ok (.iadd, 1) := by decide +kernel
theorem dX7_lesson_51 : decode cX7_lesson 51 = .ok (.iload_n 2, 1) := by decide +kernel
theorem dX7_lesson_52 : decode cX7_lesson 52 = .ok (.iastore, 1) := by decide +kernel
theorem dX7_lesson_53 : decode cX7_lesson 53 = .ok (.iload_n 3, 1) := by decide +kernel
theorem dX7_lesson_54 : decode cX7_lesson 54 = .ok (.ireturn, 1) := by decide +kernel
theorem dX7_reset_0 : decode cX7_reset 0 = .ok (.aload_n 0, 1) := by decide +kernel
theorem dX7_reset_1 : decode cX7_reset 1 = .ok (.invokevirtual 191, 3) := by decide +kernel
theorem dX7_reset_4 : decode cX7_reset 4 = .ok (.ifCond .ne 6, 3) := by decide +kernel
theorem dX7_reset_7 : decode cX7_reset 7 = .ok (.ldc 180, 2) := by decide +kernel
theorem dX7_reset_9 : decode cX7_reset 9 = .ok (.ireturn, 1) := by decide +kernel
theorem dX7_reset_10 : decode cX7_reset 10 = .ok (.aload_n 0, 1) := by decide +kernel
theorem dX7_reset_11 : decode cX7_reset 11 = .ok (.invokevirtual 181, 3) := by decide +kernel
theorem dX7_reset_14 : decode cX7_reset 14 = .ok (.aload_n 0, 1) := by decide +kernel
theorem dX7_reset_15 : decode cX7_reset 15 = .ok (.getfield 25, 3) := by decide +kernel
theorem dX7_reset_18 : decode cX7_reset 18 = .ok (.iconst 2, 1) := by decide +kernel
theorem dX7_reset_19 : decode cX7_reset 19 = .ok (.iaload, 1) := by decide +kernel
theorem dX7_reset_20 : decode cX7_reset 20 = .ok (.istore_n 1, 1) := by decide +kernel
theorem dX7_reset_21 : decode cX7_reset 21 = .ok (.aload_n 0, 1) := by decide +kernel
theorem dX7_reset_22 : decode cX7_reset 22 = .ok (.getfield 25, 3) := by decide +kernel
theorem dX7_reset_25 : decode cX7_reset 25 = .ok (.iconst 2, 1) := by decide +kernel
theorem dX7_reset_26 : decode cX7_reset 26 = .ok (.iconst 0, 1) := by decide +kernel
theorem dX7_reset_27 : decode cX7_reset 27 = .ok (.iastore, 1) := by decide +kernel
theorem dX7_reset_28 : decode cX7_reset 28 = .ok (.iload_n 1, 1) := by decide +kernel
theorem dX7_reset_29 : decode cX7_reset 29 = .ok (.ireturn, 1) := by decide +kernel
theorem dX7_street_0 : decode cX7_street 0 = .ok (.aload_n 0, 1) := by decide +kernel
theorem dX7_street_1 : decode cX7_street 1 = .ok (.iload_n 1, 1) := by decide +kernel
theorem dX7_street_2 : decode cX7_street 2 = .ok (.invokevirtual 173, 3) := by decide +kernel
theorem dX7_street_5 : decode cX7_street 5 = .ok (.ifCond .eq 12, 3) := by decide +kernel
theorem dX7_street_8 : decode cX7_street 8 = .ok (.iload_n 2, 1) := by decide +kernel
theorem dX7_street_9 : decode cX7_street 9 = .ok (.iconst 0, 1) := by decide +kernel
theorem dX7_street_10 : decode cX7_street 10 = .ok (.iconst 1, 1) := by decide +kernel
theorem dX7_street_11 : decode cX7_street 11 = .ok (.invokestatic 71, 3) := by decide +kernel
theorem dX7_street_14 : decode cX7_street 14 = .ok (.ifCond .ne 6, 3) := by decide +kernel
theorem dX7_street_17 : decode cX7_street 17 = .ok (.ldc 79, 2) := by decide +kernel
theorem dX7_street_19 : decode cX7_street 19 = .ok (.ireturn, 1) := by decide +kernel
theorem dX7_street_20 : decode cX7_street 20 = .ok (.aload_n 0, 1) := by decide +kernel
theorem dX7_street_21 : decode cX7_street 21 = .ok (.getfield 25, 3) := by decide +kernel
theorem dX7_street_24 : decode cX7_street 24 = .ok (.iconst 5, 1) := by decide +kernel
theorem dX7_street_25 : decode cX7_street 25 = .ok (.iaload, 1) := by decide +kernel
theorem dX7_street_26 : decode cX7_street 26 = .ok (.iload_n 1, 1) := by decide +kernel
theorem dX7_street_27 : decode cX7_street 27 = .ok (.ishr, 1) := by decide +kernel
theorem dX7_street_28 : decode cX7_street 28 = .ok (.iconst 1, 1) := by decide +kernel
theorem dX7_street_29 : decode cX7_street 29 = .ok (.iand, 1) := by decide +kernel
theorem dX7_street_30 : decode cX7_street 30 = .ok (.iload_n 2, 1) := by decide +kernel
theorem dX7_street_31 : decode cX7_street 31 = .ok (.if_icmp .ne 6, 3) := by decide +kernel
theorem dX7_street_34 : decode cX7_street 34 = .ok (.ldc 180, 2) := by decide +kernel
theorem dX7_street_36 : decode cX7_street 36 = .ok (.ireturn, 1) := by decide +kernel
theorem dX7_street_37 : decode cX7_street 37 = .ok (.aload_n 0, 1) := by decide +kernel
theorem dX7_street_38 : decode cX7_street 38 = .ok (.invokevirtual 181, 3) := by decide +kernel
theorem dX7_street_41 : decode cX7_street 41 = .ok (.aload_n 0, 1) := by decide +kernel
theorem dX7_street_42 : decode cX7_street 42 = .ok (.getfield 25, 3) := by decide +kernel
theorem dX7_street_45 : decode cX7_street 45 = .ok (.iconst 5, 1) := by decide +kernel
theorem dX7_street_46 : decode cX7_street 46 = .ok (.dup2, 1) := by decide +kernel
theorem dX7_street_47 : decode cX7_street 47 = .ok (.iaload, 1) := by decide +kernel
theorem dX7_street_48 : decode cX7_street 48 = .ok (.iconst 1, 1) := by decide +kernel
theorem dX7_street_49 : decode cX7_street 49 = .ok (.iload_n 1, 1) := by decide +kernel
theorem dX7_street_50 : decode cX7_street 50 = .ok (.ishl, 1) := by decide +kernel
theorem dX7_street_51 : decode cX7_street 51 = .ok (.ixor, 1) := by decide +kernel
theorem dX7_street_52 : decode cX7_street 52 = .ok (.iastore, 1) := by decide +kernel
theorem dX7_street_53 : decode cX7_street 53 = .ok (.aload_n 0, 1) := by decide +kernel
theorem dX7_street_54 : decode cX7_street 54 = .ok (.getfield 25, 3) := by decide +kernel
theorem dX7_street_57 : decode cX7_street 57 = .ok (.iconst 5, 1) := by decide +kernel
theorem dX7_street_58 : decode cX7_street 58 = .ok (.iaload, 1) := by decide +kernel
theorem dX7_street_59 : decode cX7_street 59 = .ok (.ireturn, 1) := by decide +kernel
theorem dX7_undo_0 : decode cX7_undo 0 = .ok (.aload_n 0, 1) := by decide +kernel
theorem dX7_undo_1 : decode cX7_undo 1 = .ok (.getfield 160, 3) := by decide +kernel
theorem dX7_undo_4 : decode cX7_undo 4 = .ok (.ifCond .ne 6, 3) := by decide +kernel
theorem dX7_undo_7 : decode cX7_undo 7 = .ok (.ldc 180, 2) := by decide +kernel
theorem dX7_undo_9 : decode cX7_undo 9 = .ok (.ireturn, 1) := by decide +kernel
theorem dX7_undo_10 : decode cX7_undo 10 = .ok (.aload_n 0, 1) := by decide +kernel
theorem dX7_undo_11 : decode cX7_undo 11 = .ok (.dup, 1) := by decide +kernel
theorem dX7_undo_12 : decode cX7_undo 12 = .ok (.getfield 160, 3) := by decide +kernel
theorem dX7_undo_15 : decode cX7_undo 15 = .ok (.iconst 1, 1) := by decide +kernel
theorem dX7_undo_16 : decode cX7_undo 16 = .ok (.isub, 1) := by decide +kernel
theorem dX7_undo_17 : decode cX7_undo 17 = .ok (.putfield 160, 3) := by decide +kernel
theorem dX7_undo_20 : decode cX7_undo 20 = .ok (.aload_n 0, 1) := by decide +kernel
theorem dX7_undo_21 : decode cX7_undo 21 = .ok (.getfield 34, 3) := by decide +kernel
theorem dX7_undo_24 : decode cX7_undo 24 = .ok (.bipush 42, 2) := by decide +kernel
theorem dX7_undo_26 : decode cX7_undo 26 = .ok (.aload_n 0, 1) := by decide +kernel
theorem dX7_undo_27 : decode cX7_undo 27 = .ok (.getfield 160, 3) := by decide +kernel
theorem dX7_undo_30 : decode cX7_undo 30 = .ok (.imul, 1) := by decide +kernel
theorem dX7_undo_31 : decode cX7_undo 31 = .ok (.aload_n 0, 1) := by decide +kernel
theorem dX7_undo_32 : decode cX7_undo 32 = .ok (.getfield 25, 3) := by decide +kernel
theorem dX7_undo_35 : decode cX7_undo 35 = .ok (.iconst 0, 1) := by decide +kernel
theorem dX7_undo_36 : decode cX7_undo 36 = .ok (.invokestatic 156, 3) := by decide +kernel
theorem dX7_undo_39 : decode cX7_undo 39 = .ok (.aload_n 0, 1) := by decide +kernel
theorem dX7_undo_40 : decode cX7_undo 40 = .ok (.getfield 160, 3) := by decide +kernel
theorem dX7_undo_43 : decode cX7_undo 43 = .ok (.ireturn, 1) := by decide +kernel
theorem dX7_ends_0 : decode cX7_ends 0 = .ok (.iconst 0, 1) := by decide +kernel
theorem dX7_ends_1 : decode cX7_ends 1 = .ok (.istore_n 3, 1) := by decide +kernel
theorem dX7_ends_2 : decode cX7_ends 2 = .ok (.iconst 0, 1) := by decide +kernel
theorem dX7_ends_3 : decode cX7_ends 3 = .ok (.istore 4, 2) := by decide +kernel
theorem dX7_ends_5 : decode cX7_ends 5 = .ok (.iload 4, 2) := by decide +kernel
theorem dX7_ends_7 : decode cX7_ends 7 = .ok (.aload_n 0, 1) := by decide +kernel
theorem dX7_ends_8 : decode cX7_ends 8 = .ok (.getfield 25, 3) := by decide +kernel
theorem dX7_ends_11 : decode cX7_ends 11 = .ok (.bipush 25, 2) := by decide +kernel
theorem dX7_ends_13 : decode cX7_ends 13 = .ok (.iaload, 1) := by decide +kernel
theorem dX7_ends_14 : decode cX7_ends 14 = .ok (.if_icmp .ge 38, 3) := by decide +kernel
theorem dX7_ends_17 : decode cX7_ends 17 = .ok (.iload_n 3, 1) := by decide +kernel
theorem dX7_ends_18 : decode cX7_ends 18 = .ok (.aload_n 0, 1) := by decide +kernel
theorem dX7_ends_19 : decode cX7_ends 19 = .ok (.getfield 25, 3) := by decide +kernel
theorem dX7_ends_22 : decode cX7_ends 22 = .ok (.bipush 26, 2) := by decide +kernel
theorem dX7_ends_24 : decode cX7_ends 24 = .ok (.iconst 2, 1) := by decide +kernel
theorem dX7_ends_25 : decode cX7_ends 25 = .ok (.iload 4, 2) := by decide +kernel
theorem dX7_ends_27 : decode cX7_ends 27 = .ok (.imul, 1) := by decide +kernel
theorem dX7_ends_28 : decode cX7_ends 28 = .ok (.iadd, 1) := by decide +kernel
theorem dX7_ends_29 : decode cX7_ends 29 = .ok (.iload_n 2, 1) := by decide +kernel
theorem dX7_ends_30 : decode cX7_ends 30 = .ok (.iadd, 1) := by decide +kernel
theorem dX7_ends_31 : decode cX7_ends 31 = .ok (.iaload, 1) := by decide +kernel
theorem dX7_ends_32 : decode cX7_ends 32 = .ok (.iload_n 1, 1) := by decide +kernel
theorem dX7_ends_33 : decode cX7_ends 33 = .ok (.if_icmp .ne 10, 3) := by decide +kernel
theorem dX7_ends_36 : decode cX7_ends 36 = .ok (.iconst 1, 1) := by decide +kernel
theorem dX7_ends_37 : decode cX7_ends 37 = .ok (.iload 4, 2) := by decide +kernel
theorem dX7_ends_39 : decode cX7_ends 39 = .ok (.ishl, 1) := by decide +kernel
theorem dX7_ends_40 : decode cX7_ends 40 = .ok (.goto 4, 3) := by decide +kernel
theorem dX7_ends_43 : decode cX7_ends 43 = .ok (.iconst 0, 1) := by decide +kernel
theorem dX7_ends_44 : decode cX7_ends 44 = .ok (.ior, 1) := by decide +kernel
theorem dX7_ends_45 : decode cX7_ends 45 = .ok (.istore_n 3, 1) := by decide +kernel
theorem dX7_ends_46 : decode cX7_ends 46 = .ok (.iinc 4 1, 3) := by decide +kernel
theorem dX7_ends_49 : decode cX7_ends 49 = .ok (.goto (-44), 3) := by decide +kernel
theorem dX7_ends_52 : decode cX7_ends 52 = .ok (.iload_n 3, 1) := by decide +kernel
theorem dX7_ends_53 : decode cX7_ends 53 = .ok (.ireturn, 1) := by decide +kernel
theorem dX7_corner_0 : decode cX7_corner 0 = .ok (.aload_n 0, 1) := by decide +kernel
theorem dX7_corner_1 : decode cX7_corner 1 = .ok (.iload_n 1, 1) := by decide +kernel
theorem dX7_corner_2 : decode cX7_corner 2 = .ok (.invokevirtual 188, 3) := by decide +kernel
theorem dX7_corner_5 : decode cX7_corner 5 = .ok (.ifCond .ne 6, 3) := by decide +kernel
theorem dX7_corner_8 : decode cX7_corner 8 = .ok (.ldc 79, 2) := by decide +kernel
theorem dX7_corner_10 : decode cX7_corner 10 = .ok (.ireturn, 1) := by decide +kernel
theorem dX7_corner_11 : decode cX7_corner 11 = .ok (.iload_n 2, 1) := by decide +kernel
theorem dX7_corner_12 : decode cX7_corner 12 = .ok (.tableswitch 99 0 4 #[36, 50, 64, 71, 78], 36) := by decide +kernel
theorem dX7_corner_48 : decode cX7_corner 48 = .ok (.aload_n 0, 1) := by decide +kernel
theorem dX7_corner_49 : decode cX7_corner 49 = .ok (.getfield 25, 3) := by decide +kernel
theorem dX7_corner_52 : decode cX7_corner 52 = .ok (.bipush 7, 2) := by decide +kernel
theorem dX7_corner_54 : decode cX7_corner 54 = .ok (.iconst 3, 1) := by decide +kernel
theorem dX7_corner_55 : decode cX7_corner 55 = .ok (.iload_n 1, 1) := by decide +kernel
theorem dX7_corner_56 : decode cX7_corner 56 = .ok (.imul, 1) := by decide +kernel
theorem dX7_corner_57 : decode cX7_corner 57 = .ok (.iadd, 1) := by decide +kernel
theorem dX7_corner_58 : decode cX7_corner 58 = .ok (.iconst 1, 1) := by decide +kernel
theorem dX7_corner_59 : decode cX7_corner 59 = .ok (.iadd, 1) := by decide +kernel
theorem dX7_corner_60 : decode cX7_corner 60 = .ok (.iaload, 1) := by decide +kernel
theorem dX7_corner_61 : decode cX7_corner 61 = .ok (.ireturn, 1) := by decide +kernel
theorem dX7_corner_62 : decode cX7_corner 62 = .ok (.aload_n 0, 1) := by decide +kernel
theorem dX7_corner_63 : decode cX7_corner 63 = .ok (.getfield 25, 3) := by decide +kernel
theorem dX7_corner_66 : decode cX7_corner 66 = .ok (.bipush 7, 2) := by decide +kernel
theorem dX7_corner_68 : decode cX7_corner 68 = .ok (.iconst 3, 1) := by decide +kernel
theorem dX7_corner_69 : decode cX7_corner 69 = .ok (.iload_n 1, 1) := by decide +kernel
theorem dX7_corner_70 : decode cX7_corner 70 = .ok (.imul, 1) := by decide +kernel
theorem dX7_corner_71 : decode cX7_corner 71 = .ok (.iadd, 1) := by decide +kernel
theorem dX7_corner_72 : decode cX7_corner 72 = .ok (.iconst 2, 1) := by decide +kernel
theorem dX7_corner_73 : decode cX7_corner 73 = .ok (.iadd, 1) := by decide +kernel
theorem dX7_corner_74 : decode cX7_corner 74 = .ok (.iaload, 1) := by decide +kernel
theorem dX7_corner_75 : decode cX7_corner 75 = .ok (.ireturn, 1) := by decide +kernel
theorem dX7_corner_76 : decode cX7_corner 76 = .ok (.aload_n 0, 1) := by decide +kernel
theorem dX7_corner_77 : decode cX7_corner 77 = .ok (.iload_n 1, 1) := by decide +kernel
theorem dX7_corner_78 : decode cX7_corner 78 = .ok (.iconst 0, 1) := by decide +kernel
theorem dX7_corner_79 : decode cX7_corner 79 = .ok (.invokevirtual 194, 3) := by decide +kernel
theorem dX7_corner_82 : decode cX7_corner 82 = .ok (.ireturn, 1) := by decide +kernel
theorem dX7_corner_83 : decode cX7_corner 83 = .ok (.aload_n 0, 1) := by decide +kernel
theorem dX7_corner_84 : decode cX7_corner 84 = .ok (.iload_n 1, 1) := by decide +kernel
theorem dX7_corner_85 : decode cX7_corner 85 = .ok (.iconst 1, 1) := by decide +kernel
theorem dX7_corner_86 : decode cX7_corner 86 = .ok (.invokevirtual 194, 3) := by decide +kernel
theorem dX7_corner_89 : decode cX7_corner 89 = .ok (.ireturn, 1) := by decide +kernel
theorem dX7_corner_90 : decode cX7_corner 90 = .ok (.aload_n 0, 1) := by decide +kernel
theorem dX7_corner_91 : decode cX7_corner 91 = .ok (.getfield 25, 3) := by decide +kernel
theorem dX7_corner_94 : decode cX7_corner 94 = .ok (.iload_n 1, 1) := by decide +kernel
theorem dX7_corner_95 : decode cX7_corner 95 = .ok (.aload_n 0, 1) := by decide +kernel
theorem dX7_corner_96 : decode cX7_corner 96 = .ok (.getfield 25, 3) := by decide +kernel
theorem dX7_corner_99 : decode cX7_corner 99 = .ok (.iconst 1, 1) := by decide +kernel
theorem dX7_corner_100 : decode cX7_corner 100 = .ok (.iaload, 1) := by decide +kernel
theorem dX7_corner_101 : decode cX7_corner 101 = .ok (.aload_n 0, 1) := by decide +kernel
theorem dX7_corner_102 : decode cX7_corner 102 = .ok (.getfield 25, 3) := by decide +kernel
theorem dX7_corner_105 : decode cX7_corner 105 = .ok (.iconst 3, 1) := by decide +kernel
theorem dX7_corner_106 : decode cX7_corner 106 = .ok (.iaload, 1) := by decide +kernel
theorem dX7_corner_107 : decode cX7_corner 107 = .ok (.invokestatic 163, 3) := by decide +kernel
theorem dX7_corner_110 : decode cX7_corner 110 = .ok (.ireturn, 1) := by decide +kernel
theorem dX7_corner_111 : decode cX7_corner 111 = .ok (.ldc 79, 2) := by decide +kernel
theorem dX7_corner_113 : decode cX7_corner 113 = .ok (.ireturn, 1) := by decide +kernel
theorem dX7_way_0 : decode cX7_way 0 = .ok (.aload_n 0, 1) := by decide +kernel
theorem dX7_way_1 : decode cX7_way 1 = .ok (.iload_n 1, 1) := by decide +kernel
theorem dX7_way_2 : decode cX7_way 2 = .ok (.invokevirtual 173, 3) := by decide +kernel
theorem dX7_way_5 : decode cX7_way 5 = .ok (.ifCond .eq 12, 3) := by decide +kernel
theorem dX7_way_8 : decode cX7_way 8 = .ok (.iload_n 2, 1) := by decide +kernel
theorem dX7_way_9 : decode cX7_way 9 = .ok (.iconst 0, 1) := by decide +kernel
theorem dX7_way_10 : decode cX7_way 10 = .ok (.iconst 2, 1) := by decide +kernel
theorem dX7_way_11 : decode cX7_way 11 = .ok (.invokestatic 71, 3) := by decide +kernel
theorem dX7_way_14 : decode cX7_way 14 = .ok (.ifCond .ne 6, 3) := by decide +kernel
theorem dX7_way_17 : decode cX7_way 17 = .ok (.ldc 79, 2) := by decide +kernel
theorem dX7_way_19 : decode cX7_way 19 = .ok (.ireturn, 1) := by decide +kernel
theorem dX7_way_20 : decode cX7_way 20 = .ok (.iload_n 2, 1) := by decide +kernel
theorem dX7_way_21 : decode cX7_way 21 = .ok (.iconst 2, 1) := by decide +kernel
theorem dX7_way_22 : decode cX7_way 22 = .ok (.if_icmp .ge 19, 3) := by decide +kernel
theorem dX7_way_25 : decode cX7_way 25 = .ok (.aload_n 0, 1) := by decide +kernel
theorem dX7_way_26 : decode cX7_way 26 = .ok (.getfield 25, 3) := by decide +kernel
theorem dX7_way_29 : decode cX7_way 29 = .ok (.bipush 26, 2) := by decide +kernel
theorem dX7_way_31 : decode cX7_way 31 = .ok (.iconst 2, 1) := by decide +kernel
theorem dX7_way_32 : decode cX7_way 32 = .ok (.iload_n 1, 1) := by decide +kernel
theorem dX7_way_33 : decode cX7_way 33 = .ok (.imul, 1) := by decide +kernel
theorem dX7_way_34 : decode cX7_way 34 = .ok (.iadd, 1) := by decide +kernel
theorem dX7_way_35 : decode cX7_way 35 = .ok (.iload_n 2, 1) := by decide +kernel
theorem dX7_way_36 : decode cX7_way 36 = .ok (.iadd, 1) := by decide +kernel
theorem dX7_way_37 : decode cX7_way 37 = .ok (.iaload, 1) := by decide +kernel
theorem dX7_way_38 : decode cX7_way 38 = .ok (.goto 13, 3) := by decide +kernel
theorem dX7_way_41 : decode cX7_way 41 = .ok (.aload_n 0, 1) := by decide +kernel
theorem dX7_way_42 : decode cX7_way 42 = .ok (.getfield 25, 3) := by decide +kernel
theorem dX7_way_45 : decode cX7_way 45 = .ok (.iconst 5, 1) := by decide +kernel
theorem dX7_way_46 : decode cX7_way 46 = .ok (.iaload, 1) := by decide +kernel
theorem dX7_way_47 : decode cX7_way 47 = .ok (.iload_n 1, 1) := by decide +kernel
theorem dX7_way_48 : decode cX7_way 48 = .ok (.ishr, 1) := by decide +kernel
theorem dX7_way_49 : decode cX7_way 49 = .ok (.iconst 1, 1) := by decide +kernel
theorem dX7_way_50 : decode cX7_way 50 = .ok (.iand, 1) := by decide +kernel
theorem dX7_way_51 : decode cX7_way 51 = .ok (.ireturn, 1) := by decide +kernel
theorem dX7_would_0 : decode cX7_would 0 = .ok (.aload_n 0, 1) := by decide +kernel
theorem dX7_would_1 : decode cX7_would 1 = .ok (.iload_n 1, 1) := by decide +kernel
theorem dX7_would_2 : decode cX7_would 2 = .ok (.invokevirtual 173, 3) := by decide +kernel
theorem dX7_would_5 : decode cX7_would 5 = .ok (.ifCond .eq 12, 3) := by decide +kernel
theorem dX7_would_8 : decode cX7_would 8 = .ok (.iload_n 2, 1) := by decide +kernel
theorem dX7_would_9 : decode cX7_would 9 = .ok (.iconst 0, 1) := by decide +kernel
theorem dX7_would_10 : decode cX7_would 10 = .ok (.iconst 1, 1) := by decide +kernel
theorem dX7_would_11 : decode cX7_would 11 = .ok (.invokestatic 71, 3) := by decide +kernel
theorem dX7_would_14 : decode cX7_would 14 = .ok (.ifCond .ne 6, 3) := by decide +kernel
theorem dX7_would_17 : decode cX7_would 17 = .ok (.ldc 79, 2) := by decide +kernel
theorem dX7_would_19 : decode cX7_would 19 = .ok (.ireturn, 1) := by decide +kernel
theorem dX7_would_20 : decode cX7_would 20 = .ok (.aload_n 0, 1) := by decide +kernel
theorem dX7_would_21 : decode cX7_would 21 = .ok (.getfield 25, 3) := by decide +kernel
theorem dX7_would_24 : decode cX7_would 24 = .ok (.iload_n 1, 1) := by decide +kernel
theorem dX7_would_25 : decode cX7_would 25 = .ok (.aload_n 0, 1) := by decide +kernel
theorem dX7_would_26 : decode cX7_would 26 = .ok (.getfield 25, 3) := by decide +kernel
theorem dX7_would_29 : decode cX7_would 29 = .ok (.iconst 4, 1) := by decide +kernel
theorem dX7_would_30 : decode cX7_would 30 = .ok (.iaload, 1) := by decide +kernel
theorem dX7_would_31 : decode cX7_would 31 = .ok (.invokestatic 176, 3) := by decide +kernel
theorem dX7_would_34 : decode cX7_would 34 = .ok (.ifCond .ne 6, 3) := by decide +kernel
theorem dX7_would_37 : decode cX7_would 37 = .ok (.ldc 65, 2) := by decide +kernel
theorem dX7_would_39 : decode cX7_would 39 = .ok (.ireturn, 1) := by decide +kernel
theorem dX7_would_40 : decode cX7_would 40 = .ok (.aload_n 0, 1) := by decide +kernel
theorem dX7_would_41 : decode cX7_would 41 = .ok (.getfield 25, 3) := by decide +kernel
theorem dX7_would_44 : decode cX7_would 44 = .ok (.bipush 26, 2) := by decide +kernel
theorem dX7_would_46 : decode cX7_would 46 = .ok (.iconst 2, 1) := by decide +kernel
theorem dX7_would_47 : decode cX7_would 47 = .ok (.iload_n 1, 1) := by decide +kernel
theorem dX7_would_48 : decode cX7_would 48 = .ok (.imul, 1) := by decide +kernel
theorem dX7_would_49 : decode cX7_would 49 = .ok (.iadd, 1) := by decide +kernel
theorem dX7_would_50 : decode cX7_would 50 = .ok (.iconst 1, 1) := by decide +kernel
theorem dX7_would_51 : decode cX7_would 51 = .ok (.iadd, 1) := by decide +kernel
theorem dX7_would_52 : decode cX7_would 52 = .ok (.iaload, 1) := by decide +kernel
theorem dX7_would_53 : decode cX7_would 53 = .ok (.istore_n 3, 1) := by decide +kernel
theorem dX7_would_54 : decode cX7_would 54 = .ok (.iload_n 2, 1) := by decide +kernel
theorem dX7_would_55 : decode cX7_would 55 = .ok (.ifCond .ne 26, 3) := by decide +kernel
theorem dX7_would_58 : decode cX7_would 58 = .ok (.aload_n 0, 1) := by decide +kernel
theorem dX7_would_59 : decode cX7_would 59 = .ok (.getfield 25, 3) := by decide +kernel
theorem dX7_would_62 : decode cX7_would 62 = .ok (.iload_n 3, 1) := by decide +kernel
theorem dX7_would_63 : decode cX7_would 63 = .ok (.aload_n 0, 1) := by decide +kernel
theorem dX7_would_64 : decode cX7_would 64 = .ok (.getfield 25, 3) := by decide +kernel
theorem dX7_would_67 : decode cX7_would 67 = .ok (.iconst 1, 1) := by decide +kernel
theorem dX7_would_68 : decode cX7_would 68 = .ok (.iaload, 1) := by decide +kernel
theorem dX7_would_69 : decode cX7_would 69 = .ok (.aload_n 0, 1) := by decide +kernel
theorem dX7_would_70 : decode cX7_would 70 = .ok (.getfield 25, 3) := by decide +kernel
theorem dX7_would_73 : decode cX7_would 73 = .ok (.iconst 3, 1) := by decide +kernel
theorem dX7_would_74 : decode cX7_would 74 = .ok (.iaload, 1) := by decide +kernel
theorem dX7_would_75 : decode cX7_would 75 = .ok (.invokestatic 163, 3) := by decide +kernel
theorem dX7_would_78 : decode cX7_would 78 = .ok (.goto 23, 3) := by decide +kernel
theorem dX7_would_81 : decode cX7_would 81 = .ok (.aload_n 0, 1) := by decide +kernel
theorem dX7_would_82 : decode cX7_would 82 = .ok (.getfield 25, 3) := by decide +kernel
theorem dX7_would_85 : decode cX7_would 85 = .ok (.iload_n 3, 1) := by decide +kernel
theorem dX7_would_86 : decode cX7_would 86 = .ok (.aload_n 0, 1) := by decide +kernel
theorem dX7_would_87 : decode cX7_would 87 = .ok (.getfield 25, 3) := by decide +kernel
theorem dX7_would_90 : decode cX7_would 90 = .ok (.iconst 1, 1) := by decide +kernel
theorem dX7_would_91 : decode cX7_would 91 = .ok (.iaload, 1) := by decide +kernel
theorem dX7_would_92 : decode cX7_would 92 = .ok (.aload_n 0, 1) := by decide +kernel
theorem dX7_would_93 : decode cX7_would 93 = .ok (.getfield 25, 3) := by decide +kernel
theorem dX7_would_96 : decode cX7_would 96 = .ok (.iconst 3, 1) := by decide +kernel
theorem dX7_would_97 : decode cX7_would 97 = .ok (.iaload, 1) := by decide +kernel
theorem dX7_would_98 : decode cX7_would 98 = .ok (.invokestatic 170, 3) := by decide +kernel
theorem dX7_would_101 : decode cX7_would 101 = .ok (.ireturn, 1) := by decide +kernel
theorem dX7_reach_0 : decode cX7_reach 0 = .ok (.aload_n 0, 1) := by decide +kernel
theorem dX7_reach_1 : decode cX7_reach 1 = .ok (.invokevirtual 191, 3) := by decide +kernel
theorem dX7_reach_4 : decode cX7_reach 4 = .ok (.ifCond .ne 6, 3) := by decide +kernel
theorem dX7_reach_7 : decode cX7_reach 7 = .ok (.ldc 180, 2) := by decide +kernel
theorem dX7_reach_9 : decode cX7_reach 9 = .ok (.ireturn, 1) := by decide +kernel
theorem dX7_reach_10 : decode cX7_reach 10 = .ok (.iconst 1, 1) := by decide +kernel
theorem dX7_reach_11 : decode cX7_reach 11 = .ok (.aload_n 0, 1) := by decide +kernel
theorem dX7_reach_12 : decode cX7_reach 12 = .ok (.getfield 25, 3) := by decide +kernel
theorem dX7_reach_15 : decode cX7_reach 15 = .ok (.iconst 4, 1) := by decide +kernel
theorem dX7_reach_16 : decode cX7_reach 16 = .ok (.iaload, 1) := by decide +kernel
theorem dX7_reach_17 : decode cX7_reach 17 = .ok (.ishl, 1) := by decide +kernel
theorem dX7_reach_18 : decode cX7_reach 18 = .ok (.istore_n 1, 1) := by decide +kernel
theorem dX7_reach_19 : decode cX7_reach 19 = .ok (.iconst 0, 1) := by decide +kernel
theorem dX7_reach_20 : decode cX7_reach 20 = .ok (.istore_n 2, 1) := by decide +kernel
theorem dX7_reach_21 : decode cX7_reach 21 = .ok (.iload_n 2, 1) := by decide +kernel
theorem dX7_reach_22 : decode cX7_reach 22 = .ok (.bipush 6, 2) := by decide +kernel
theorem dX7_reach_24 : decode cX7_reach 24 = .ok (.if_icmp .ge 81, 3) := by decide +kernel
theorem dX7_reach_27 : decode cX7_reach 27 = .ok (.iconst 0, 1) := by decide +kernel
theorem dX7_reach_28 : decode cX7_reach 28 = .ok (.istore_n 3, 1) := by decide +kernel
theorem dX7_reach_29 : decode cX7_reach 29 = .ok (.iload_n 3, 1) := by decide +kernel
theorem dX7_reach_30 : decode cX7_reach 30 = .ok (.aload_n 0, 1) := by decide +kernel
theorem dX7_reach_31 : decode cX7_reach 31 = .ok (.getfield 25, 3) := by decide +kernel
theorem dX7_reach_34 : decode cX7_reach 34 = .ok (.bipush 25, 2) := by decide +kernel
theorem dX7_reach_36 : decode cX7_reach 36 = .ok (.iaload, 1) := by decide +kernel
theorem dX7_reach_37 : decode cX7_reach 37 = .ok (.if_icmp .ge 62, 3) := by decide +kernel
theorem dX7_reach_40 : decode cX7_reach 40 = .ok (.iload_n 1, 1) := by decide +kernel
theorem dX7_reach_41 : decode cX7_reach 41 = .ok (.aload_n 0, 1) := by decide +kernel
theorem dX7_reach_42 : decode cX7_reach 42 = .ok (.getfield 25, 3) := by decide +kernel
theorem dX7_reach_45 : decode cX7_reach 45 = .ok (.iconst 5, 1) := by decide +kernel
theorem dX7_reach_46 : decode cX7_reach 46 = .ok (.iaload, 1) := by decide +kernel
theorem dX7_reach_47 : decode cX7_reach 47 = .ok (.iload_n 3, 1) := by decide +kernel
theorem dX7_reach_48 : decode cX7_reach 48 = .ok (.invokestatic 167, 3) := by decide +kernel
theorem dX7_reach_51 : decode cX7_reach 51 = .ok (.ifCond .eq 39, 3) := by decide +kernel
theorem dX7_reach_54 : decode cX7_reach 54 = .ok (.iload_n 1, 1) := by decide +kernel
theorem dX7_reach_55 : decode cX7_reach 55 = .ok (.aload_n 0, 1) := by decide +kernel
theorem dX7_reach_56 : decode cX7_reach 56 = .ok (.getfield 25, 3) := by decide +kernel
theorem dX7_reach_59 : decode cX7_reach 59 = .ok (.bipush 26, 2) := by decide +kernel
theorem dX7_reach_61 : decode cX7_reach 61 = .ok (.iconst 2, 1) := by decide +kernel
theorem dX7_reach_62 : decode cX7_reach 62 = .ok (.iload_n 3, 1) := by decide +kernel
theorem dX7_reach_63 : decode cX7_reach 63 = .ok (.imul, 1) := by decide +kernel
theorem dX7_reach_64 : decode cX7_reach 64 = .ok (.iadd, 1) := by decide +kernel
theorem dX7_reach_65 : decode cX7_reach 65 = .ok (.iaload, 1) := by decide +kernel
theorem dX7_reach_66 : decode cX7_reach 66 = .ok (.invokestatic 167, 3) := by decide +kernel
theorem dX7_reach_69 : decode cX7_reach 69 = .ok (.ifCond .eq 21, 3) := by decide +kernel
theorem dX7_reach_72 : decode cX7_reach 72 = .ok (.iconst 1, 1) := by decide +kernel
theorem dX7_reach_73 : decode cX7_reach 73 = .ok (.aload_n 0, 1) := by decide +kernel
theorem dX7_reach_74 : decode cX7_reach 74 = .ok (.getfield 25, 3) := by decide +kernel
theorem dX7_reach_77 : decode cX7_reach 77 = .ok (.bipush 26, 2) := by decide +kernel
theorem dX7_reach_79 : decode cX7_reach 79 = .ok (.iconst 2, 1) := by decide +kernel
theorem dX7_reach_80 : decode cX7_reach 80 = .ok (.iload_n 3, 1) := by decide +kernel
theorem dX7_reach_81 : decode cX7_reach 81 = .ok (.imul, 1) := by decide +kernel
theorem dX7_reach_82 : decode cX7_reach 82 = .ok (.iadd, 1) := by decide +kernel
theorem dX7_reach_83 : decode cX7_reach 83 = .ok (.iconst 1, 1) := by decide +kernel
theorem dX7_reach_84 : decode cX7_reach 84 = .ok (.iadd, 1) := by decide +kernel
theorem dX7_reach_85 : decode cX7_reach 85 = .ok (.iaload, 1) := by decide +kernel
theorem dX7_reach_86 : decode cX7_reach 86 = .ok (.ishl, 1) := by decide +kernel
theorem dX7_reach_87 : decode cX7_reach 87 = .ok (.goto 4, 3) := by decide +kernel
theorem dX7_reach_90 : decode cX7_reach 90 = .ok (.iconst 0, 1) := by decide +kernel
theorem dX7_reach_91 : decode cX7_reach 91 = .ok (.ior, 1) := by decide +kernel
theorem dX7_reach_92 : decode cX7_reach 92 = .ok (.istore_n 1, 1) := by decide +kernel
theorem dX7_reach_93 : decode cX7_reach 93 = .ok (.iinc 3 1, 3) := by decide +kernel
theorem dX7_reach_96 : decode cX7_reach 96 = .ok (.goto (-67), 3) := by decide +kernel
theorem dX7_reach_99 : decode cX7_reach 99 = .ok (.iinc 2 1, 3) := by decide +kernel
theorem dX7_reach_102 : decode cX7_reach 102 = .ok (.goto (-81), 3) := by decide +kernel
theorem dX7_reach_105 : decode cX7_reach 105 = .ok (.iload_n 1, 1) := by decide +kernel
theorem dX7_reach_106 : decode cX7_reach 106 = .ok (.ireturn, 1) := by decide +kernel
theorem dX7_begins_0 : decode cX7_begins 0 = .ok (.aload_n 0, 1) := by decide +kernel
theorem dX7_begins_1 : decode cX7_begins 1 = .ok (.getfield 25, 3) := by decide +kernel
theorem dX7_begins_4 : decode cX7_begins 4 = .ok (.iconst 0, 1) := by decide +kernel
theorem dX7_begins_5 : decode cX7_begins 5 = .ok (.aload_n 0, 1) := by decide +kernel
theorem dX7_begins_6 : decode cX7_begins 6 = .ok (.getfield 31, 3) := by decide +kernel
theorem dX7_begins_9 : decode cX7_begins 9 = .ok (.iconst 0, 1) := by decide +kernel
theorem dX7_begins_10 : decode cX7_begins 10 = .ok (.invokestatic 156, 3) := by decide +kernel
theorem dX7_begins_13 : decode cX7_begins 13 = .ok (.aload_n 0, 1) := by decide +kernel
theorem dX7_begins_14 : decode cX7_begins 14 = .ok (.iconst 0, 1) := by decide +kernel
theorem dX7_begins_15 : decode cX7_begins 15 = .ok (.putfield 197, 3) := by decide +kernel
theorem dX7_begins_18 : decode cX7_begins 18 = .ok (.aload_n 0, 1) := by decide +kernel
theorem dX7_begins_19 : decode cX7_begins 19 = .ok (.getfield 47, 3) := by decide +kernel
theorem dX7_begins_22 : decode cX7_begins 22 = .ok (.iconst 0, 1) := by decide +kernel
theorem dX7_begins_23 : decode cX7_begins 23 = .ok (.iconst 0, 1) := by decide +kernel
theorem dX7_begins_24 : decode cX7_begins 24 = .ok (.iastore, 1) := by decide +kernel
theorem dX7_begins_25 : decode cX7_begins 25 = .ok (.aload_n 0, 1) := by decide +kernel
theorem dX7_begins_26 : decode cX7_begins 26 = .ok (.getfield 50, 3) := by decide +kernel
theorem dX7_begins_29 : decode cX7_begins 29 = .ok (.iconst 0, 1) := by decide +kernel
theorem dX7_begins_30 : decode cX7_begins 30 = .ok (.aload_n 0, 1) := by decide +kernel
theorem dX7_begins_31 : decode cX7_begins 31 = .ok (.getfield 25, 3) := by decide +kernel
theorem dX7_begins_34 : decode cX7_begins 34 = .ok (.iconst 4, 1) := by decide +kernel
theorem dX7_begins_35 : decode cX7_begins 35 = .ok (.iaload, 1) := by decide +kernel
theorem dX7_begins_36 : decode cX7_begins 36 = .ok (.iastore, 1) := by decide +kernel
theorem dX7_begins_37 : decode cX7_begins 37 = .ok (.aload_n 0, 1) := by decide +kernel
theorem dX7_begins_38 : decode cX7_begins 38 = .ok (.getfield 53, 3) := by decide +kernel
theorem dX7_begins_41 : decode cX7_begins 41 = .ok (.iconst 0, 1) := by decide +kernel
theorem dX7_begins_42 : decode cX7_begins 42 = .ok (.aload_n 0, 1) := by decide +kernel
theorem dX7_begins_43 : decode cX7_begins 43 = .ok (.getfield 25, 3) := by decide +kernel
theorem dX7_begins_46 : decode cX7_begins 46 = .ok (.iconst 1, 1) := by decide +kernel
theorem dX7_begins_47 : decode cX7_begins 47 = .ok (.iaload, 1) := by decide +kernel
theorem dX7_begins_48 : decode cX7_begins 48 = .ok (.iastore, 1) := by decide +kernel
theorem dX7_begins_49 : decode cX7_begins 49 = .ok (.aload_n 0, 1) := by decide +kernel
theorem dX7_begins_50 : decode cX7_begins 50 = .ok (.getfield 56, 3) := by decide +kernel
theorem dX7_begins_53 : decode cX7_begins 53 = .ok (.iconst 0, 1) := by decide +kernel
theorem dX7_begins_54 : decode cX7_begins 54 = .ok (.iconst 0, 1) := by decide +kernel
theorem dX7_begins_55 : decode cX7_begins 55 = .ok (.iastore, 1) := by decide +kernel
theorem dX7_begins_56 : decode cX7_begins 56 = .ok (.return_, 1) := by decide +kernel
theorem dX7_adds_0 : decode cX7_adds 0 = .ok (.aload_n 0, 1) := by decide +kernel
theorem dX7_adds_1 : decode cX7_adds 1 = .ok (.getfield 31, 3) := by decide +kernel
theorem dX7_adds_4 : decode cX7_adds 4 = .ok (.bipush 26, 2) := by decide +kernel
theorem dX7_adds_6 : decode cX7_adds 6 = .ok (.iconst 2, 1) := by decide +kernel
theorem dX7_adds_7 : decode cX7_adds 7 = .ok (.iload_n 1, 1) := by decide +kernel
theorem dX7_adds_8 : decode cX7_adds 8 = .ok (.imul, 1) := by decide +kernel
theorem dX7_adds_9 : decode cX7_adds 9 = .ok (.iadd, 1) := by decide +kernel
theorem dX7_adds_10 : decode cX7_adds 10 = .ok (.iconst 1, 1) := by decide +kernel
theorem dX7_adds_11 : decode cX7_adds 11 = .ok (.iadd, 1) := by decide +kernel
theorem dX7_adds_12 : decode cX7_adds 12 = .ok (.iaload, 1) := by decide +kernel
theorem dX7_adds_13 : decode cX7_adds 13 = .ok (.istore_n 2, 1) := by decide +kernel
theorem dX7_adds_14 : decode cX7_adds 14 = .ok (.aload_n 0, 1) := by decide +kernel
theorem dX7_adds_15 : decode cX7_adds 15 = .ok (.getfield 31, 3) := by decide +kernel
theorem dX7_adds_18 : decode cX7_adds 18 = .ok (.iconst 3, 1) := by decide +kernel
theorem dX7_adds_19 : decode cX7_adds 19 = .ok (.iaload, 1) := by decide +kernel
theorem dX7_adds_20 : decode cX7_adds 20 = .ok (.aload_n 0, 1) := by decide +kernel
theorem dX7_adds_21 : decode cX7_adds 21 = .ok (.getfield 197, 3) := by decide +kernel
theorem dX7_adds_24 : decode cX7_adds 24 = .ok (.iadd, 1) := by decide +kernel
theorem dX7_adds_25 : decode cX7_adds 25 = .ok (.istore_n 3, 1) := by decide +kernel
theorem dX7_adds_26 : decode cX7_adds 26 = .ok (.aload_n 0, 1) := by decide +kernel
theorem dX7_adds_27 : decode cX7_adds 27 = .ok (.getfield 44, 3) := by decide +kernel
theorem dX7_adds_30 : decode cX7_adds 30 = .ok (.aload_n 0, 1) := by decide +kernel
theorem dX7_adds_31 : decode cX7_adds 31 = .ok (.getfield 197, 3) := by decide +kernel
theorem dX7_adds_34 : decode cX7_adds 34 = .ok (.iload_n 1, 1) := by decide +kernel
theorem dX7_adds_35 : decode cX7_adds 35 = .ok (.iastore, 1) := by decide +kernel
theorem dX7_adds_36 : decode cX7_adds 36 = .ok (.aload_n 0, 1) := by decide +kernel
theorem dX7_adds_37 : decode cX7_adds 37 = .ok (.getfield 47, 3) := by decide +kernel
theorem dX7_adds_40 : decode cX7_adds 40 = .ok (.aload_n 0, 1) := by decide +kernel
theorem dX7_adds_41 : decode cX7_adds 41 = .ok (.getfield 197, 3) := by decide +kernel
theorem dX7_adds_44 : decode cX7_adds 44 = .ok (.iload_n 1, 1) := by decide +kernel
theorem dX7_adds_45 : decode cX7_adds 45 = .ok (.iconst 1, 1) := by decide +kernel
theorem dX7_adds_46 : decode cX7_adds 46 = .ok (.iadd, 1) := by decide +kernel
theorem dX7_adds_47 : decode cX7_adds 47 = .ok (.iastore, 1) := by decide +kernel
theorem dX7_adds_48 : decode cX7_adds 48 = .ok (.aload_n 0, 1) := by decide +kernel
theorem dX7_adds_49 : decode cX7_adds 49 = .ok (.getfield 50, 3) := by decide +kernel
theorem dX7_adds_52 : decode cX7_adds 52 = .ok (.aload_n 0, 1) := by decide +kernel
theorem dX7_adds_53 : decode cX7_adds 53 = .ok (.getfield 197, 3) := by decide +kernel
theorem dX7_adds_56 : decode cX7_adds 56 = .ok (.iconst 1, 1) := by decide +kernel
theorem dX7_adds_57 : decode cX7_adds 57 = .ok (.iadd, 1) := by decide +kernel
theorem dX7_adds_58 : decode cX7_adds 58 = .ok (.iload_n 2, 1) := by decide +kernel
theorem dX7_adds_59 : decode cX7_adds 59 = .ok (.iastore, 1) := by decide +kernel
theorem dX7_adds_60 : decode cX7_adds 60 = .ok (.aload_n 0, 1) := by decide +kernel
theorem dX7_adds_61 : decode cX7_adds 61 = .ok (.getfield 53, 3) := by decide +kernel
theorem dX7_adds_64 : decode cX7_adds 64 = .ok (.aload_n 0, 1) := by decide +kernel
theorem dX7_adds_65 : decode cX7_adds 65 = .ok (.getfield 197, 3) := by decide +kernel
theorem dX7_adds_68 : decode cX7_adds 68 = .ok (.iconst 1, 1) := by decide +kernel
theorem dX7_adds_69 : decode cX7_adds 69 = .ok (.iadd, 1) := by decide +kernel
theorem dX7_adds_70 : decode cX7_adds 70 = .ok (.aload_n 0, 1) := by decide +kernel
theorem dX7_adds_71 : decode cX7_adds 71 = .ok (.getfield 31, 3) := by decide +kernel
theorem dX7_adds_74 : decode cX7_adds 74 = .ok (.iload_n 2, 1) := by decide +kernel
theorem dX7_adds_75 : decode cX7_adds 75 = .ok (.aload_n 0, 1) := by decide +kernel
theorem dX7_adds_76 : decode cX7_adds 76 = .ok (.getfield 53, 3) := by decide +kernel
theorem dX7_adds_79 : decode cX7_adds 79 = .ok (.aload_n 0, 1) := by decide +kernel
theorem dX7_adds_80 : decode cX7_adds 80 = .ok (.getfield 197, 3) := by decide +kernel
theorem dX7_adds_83 : decode cX7_adds 83 = .ok (.iaload, 1) := by decide +kernel
theorem dX7_adds_84 : decode cX7_adds 84 = .ok (.iload_n 3, 1) := by decide +kernel
theorem dX7_adds_85 : decode cX7_adds 85 = .ok (.invokestatic 163, 3) := by decide +kernel
theorem dX7_adds_88 : decode cX7_adds 88 = .ok (.iastore, 1) := by decide +kernel
theorem dX7_adds_89 : decode cX7_adds 89 = .ok (.aload_n 0, 1) := by decide +kernel
theorem dX7_adds_90 : decode cX7_adds 90 = .ok (.getfield 56, 3) := by decide +kernel
theorem dX7_adds_93 : decode cX7_adds 93 = .ok (.aload_n 0, 1) := by decide +kernel
theorem dX7_adds_94 : decode cX7_adds 94 = .ok (.getfield 197, 3) := by decide +kernel
theorem dX7_adds_97 : decode cX7_adds 97 = .ok (.iconst 1, 1) := by decide +kernel
theorem dX7_adds_98 : decode cX7_adds 98 = .ok (.iadd, 1) := by decide +kernel
theorem dX7_adds_99 : decode cX7_adds 99 = .ok (.aload_n 0, 1) := by decide +kernel
theorem dX7_adds_100 : decode cX7_adds 100 = .ok (.getfield 56, 3) := by decide +kernel
theorem dX7_adds_103 : decode cX7_adds 103 = .ok (.aload_n 0, 1) := by decide +kernel
theorem dX7_adds_104 : decode cX7_adds 104 = .ok (.getfield 197, 3) := by decide +kernel
theorem dX7_adds_107 : decode cX7_adds 107 = .ok (.iaload, 1) := by decide +kernel
theorem dX7_adds_108 : decode cX7_adds 108 = .ok (.aload_n 0, 1) := by decide +kernel
theorem dX7_adds_109 : decode cX7_adds 109 = .ok (.getfield 31, 3) := by decide +kernel
theorem dX7_adds_112 : decode cX7_adds 112 = .ok (.iload_n 2, 1) := by decide +kernel
theorem dX7_adds_113 : decode cX7_adds 113 = .ok (.aload_n 0, 1) := by decide +kernel
theorem dX7_adds_114 : decode cX7_adds 114 = .ok (.getfield 53, 3) := by decide +kernel
theorem dX7_adds_117 : decode cX7_adds 117 = .ok (.aload_n 0, 1) := by decide +kernel
theorem dX7_adds_118 : decode cX7_adds 118 = .ok (.getfield 197, 3) := by decide +kernel
theorem dX7_adds_121 : decode cX7_adds 121 = .ok (.iaload, 1) := by decide +kernel
theorem dX7_adds_122 : decode cX7_adds 122 = .ok (.iload_n 3, 1) := by decide +kernel
theorem dX7_adds_123 : decode cX7_adds 123 = .ok (.invokestatic 170, 3) := by decide +kernel
theorem dX7_adds_126 : decode cX7_adds 126 = .ok (.iadd, 1) := by decide +kernel
theorem dX7_adds_127 : decode cX7_adds 127 = .ok (.iastore, 1) := by decide +kernel
theorem dX7_adds_128 : decode cX7_adds 128 = .ok (.aload_n 0, 1) := by decide +kernel
theorem dX7_adds_129 : decode cX7_adds 129 = .ok (.dup, 1) := by decide +kernel
theorem dX7_adds_130 : decode cX7_adds 130 = .ok (.getfield 197, 3) := by decide +kernel
theorem dX7_adds_133 : decode cX7_adds 133 = .ok (.iconst 1, 1) := by decide +kernel
theorem dX7_adds_134 : decode cX7_adds 134 = .ok (.iadd, 1) := by decide +kernel
theorem dX7_adds_135 : decode cX7_adds 135 = .ok (.putfield 197, 3) := by decide +kernel
theorem dX7_adds_138 : decode cX7_adds 138 = .ok (.return_, 1) := by decide +kernel
theorem dX7_goesOn_0 : decode cX7_goesOn 0 = .ok (.aload_n 0, 1) := by decide +kernel
theorem dX7_goesOn_1 : decode cX7_goesOn 1 = .ok (.getfield 197, 3) := by decide +kernel
theorem dX7_goesOn_4 : decode cX7_goesOn 4 = .ok (.iload_n 1, 1) := by decide +kernel
theorem dX7_goesOn_5 : decode cX7_goesOn 5 = .ok (.if_icmp .ge 16, 3) := by decide +kernel
theorem dX7_goesOn_8 : decode cX7_goesOn 8 = .ok (.aload_n 0, 1) := by decide +kernel
theorem dX7_goesOn_9 : decode cX7_goesOn 9 = .ok (.getfield 47, 3) := by decide +kernel
theorem dX7_goesOn_12 : decode cX7_goesOn 12 = .ok (.aload_n 0, 1) := by decide +kernel
theorem dX7_goesOn_13 : decode cX7_goesOn 13 = .ok (.getfield 197, 3) := by decide +kernel
theorem dX7_goesOn_16 : decode cX7_goesOn 16 = .ok (.iconst 0, 1) := by decide +kernel
theorem dX7_goesOn_17 : decode cX7_goesOn 17 = .ok (.iastore, 1) := by decide +kernel
theorem dX7_goesOn_18 : decode cX7_goesOn 18 = .ok (.goto 13, 3) := by decide +kernel
theorem dX7_goesOn_21 : decode cX7_goesOn 21 = .ok (.aload_n 0, 1) := by decide +kernel
theorem dX7_goesOn_22 : decode cX7_goesOn 22 = .ok (.dup, 1) := by decide +kernel
theorem dX7_goesOn_23 : decode cX7_goesOn 23 = .ok (.getfield 197, 3) := by decide +kernel
theorem dX7_goesOn_26 : decode cX7_goesOn 26 = .ok (.iconst 1, 1) := by decide +kernel
theorem dX7_goesOn_27 : decode cX7_goesOn 27 = .ok (.isub, 1) := by decide +kernel
theorem dX7_goesOn_28 : decode cX7_goesOn 28 = .ok (.putfield 197, 3) := by decide +kernel
theorem dX7_goesOn_31 : decode cX7_goesOn 31 = .ok (.aload_n 0, 1) := by decide +kernel
theorem dX7_goesOn_32 : decode cX7_goesOn 32 = .ok (.getfield 197, 3) := by decide +kernel
theorem dX7_goesOn_35 : decode cX7_goesOn 35 = .ok (.ifCond .lt 70, 3) := by decide +kernel
theorem dX7_goesOn_38 : decode cX7_goesOn 38 = .ok (.aload_n 0, 1) := by decide +kernel
theorem dX7_goesOn_39 : decode cX7_goesOn 39 = .ok (.getfield 47, 3) := by decide +kernel
theorem dX7_goesOn_42 : decode cX7_goesOn 42 = .ok (.aload_n 0, 1) := by decide +kernel
theorem dX7_goesOn_43 : decode cX7_goesOn 43 = .ok (.getfield 197, 3) := by decide +kernel
theorem dX7_goesOn_46 : decode cX7_goesOn 46 = .ok (.iaload, 1) := by decide +kernel
theorem dX7_goesOn_47 : decode cX7_goesOn 47 = .ok (.istore_n 2, 1) := by decide +kernel
theorem dX7_goesOn_48 : decode cX7_goesOn 48 = .ok (.iload_n 2, 1) := by decide +kernel
theorem dX7_goesOn_49 : decode cX7_goesOn 49 = .ok (.aload_n 0, 1) := by decide +kernel
theorem dX7_goesOn_50 : decode cX7_goesOn 50 = .ok (.getfield 31, 3) := by decide +kernel
theorem dX7_goesOn_53 : decode cX7_goesOn 53 = .ok (.bipush 25, 2) := by decide +kernel
theorem dX7_goesOn_55 : decode cX7_goesOn 55 = .ok (.iaload, 1) := by decide +kernel
theorem dX7_goesOn_56 : decode cX7_goesOn 56 = .ok (.if_icmp .ge 36, 3) := by decide +kernel
theorem dX7_goesOn_59 : decode cX7_goesOn 59 = .ok (.aload_n 0, 1) := by decide +kernel
theorem dX7_goesOn_60 : decode cX7_goesOn 60 = .ok (.getfield 31, 3) := by decide +kernel
theorem dX7_goesOn_63 : decode cX7_goesOn 63 = .ok (.iload_n 2, 1) := by decide +kernel
theorem dX7_goesOn_64 : decode cX7_goesOn 64 = .ok (.aload_n 0, 1) := by decide +kernel
theorem dX7_goesOn_65 : decode cX7_goesOn 65 = .ok (.getfield 50, 3) := by decide +kernel
theorem dX7_goesOn_68 : decode cX7_goesOn 68 = .ok (.aload_n 0, 1) := by decide +kernel
theorem dX7_goesOn_69 : decode cX7_goesOn 69 = .ok (.getfield 197, 3) := by decide +kernel
theorem dX7_goesOn_72 : decode cX7_goesOn 72 = .ok (.iaload, 1) := by decide +kernel
theorem dX7_goesOn_73 : decode cX7_goesOn 73 = .ok (.invokestatic 176, 3) := by decide +kernel
theorem dX7_goesOn_76 : decode cX7_goesOn 76 = .ok (.ifCond .eq 10, 3) := by decide +kernel
theorem dX7_goesOn_79 : decode cX7_goesOn 79 = .ok (.aload_n 0, 1) := by decide +kernel
theorem dX7_goesOn_80 : decode cX7_goesOn 80 = .ok (.iload_n 2, 1) := by decide +kernel
theorem dX7_goesOn_81 : decode cX7_goesOn 81 = .ok (.invokevirtual 200, 3) := by decide +kernel
theorem dX7_goesOn_84 : decode cX7_goesOn 84 = .ok (.iconst 1, 1) := by decide +kernel
theorem dX7_goesOn_85 : decode cX7_goesOn 85 = .ok (.ireturn, 1) := by decide +kernel
theorem dX7_goesOn_86 : decode cX7_goesOn 86 = .ok (.iinc 2 1, 3) := by decide +kernel
theorem dX7_goesOn_89 : decode cX7_goesOn 89 = .ok (.goto (-41), 3) := by decide +kernel
theorem dX7_goesOn_92 : decode cX7_goesOn 92 = .ok (.aload_n 0, 1) := by decide +kernel
theorem dX7_goesOn_93 : decode cX7_goesOn 93 = .ok (.dup, 1) := by decide +kernel
theorem dX7_goesOn_94 : decode cX7_goesOn 94 = .ok (.getfield 197, 3) := by decide +kernel
theorem dX7_goesOn_97 : decode cX7_goesOn 97 = .ok (.iconst 1, 1) := by decide +kernel
theorem dX7_goesOn_98 : decode cX7_goesOn 98 = .ok (.isub, 1) := by decide +kernel
theorem dX7_goesOn_99 : decode cX7_goesOn 99 = .ok (.putfield 197, 3) := by decide +kernel
theorem dX7_goesOn_102 : decode cX7_goesOn 102 = .ok (.goto (-71), 3) := by decide +kernel
theorem dX7_goesOn_105 : decode cX7_goesOn 105 = .ok (.iconst 0, 1) := by decide +kernel
theorem dX7_goesOn_106 : decode cX7_goesOn 106 = .ok (.ireturn, 1) := by decide +kernel
theorem dX7_keeps_0 : decode cX7_keeps 0 = .ok (.aload_n 0, 1) := by decide +kernel
theorem dX7_keeps_1 : decode cX7_keeps 1 = .ok (.aload_n 0, 1) := by decide +kernel
theorem dX7_keeps_2 : decode cX7_keeps 2 = .ok (.getfield 56, 3) := by decide +kernel
theorem dX7_keeps_5 : decode cX7_keeps 5 = .ok (.iload_n 1, 1) := by decide +kernel
theorem dX7_keeps_6 : decode cX7_keeps 6 = .ok (.iaload, 1) := by decide +kernel
theorem dX7_keeps_7 : decode cX7_keeps 7 = .ok (.putfield 204, 3) := by decide +kernel
theorem dX7_keeps_10 : decode cX7_keeps 10 = .ok (.aload_n 0, 1) := by decide +kernel
theorem dX7_keeps_11 : decode cX7_keeps 11 = .ok (.iload_n 1, 1) := by decide +kernel
theorem dX7_keeps_12 : decode cX7_keeps 12 = .ok (.putfield 207, 3) := by decide +kernel
theorem dX7_keeps_15 : decode cX7_keeps 15 = .ok (.aload_n 0, 1) := by decide +kernel
theorem dX7_keeps_16 : decode cX7_keeps 16 = .ok (.aload_n 0, 1) := by decide +kernel
theorem dX7_keeps_17 : decode cX7_keeps 17 = .ok (.getfield 50, 3) := by decide +kernel
theorem dX7_keeps_20 : decode cX7_keeps 20 = .ok (.iload_n 1, 1) := by decide +kernel
theorem dX7_keeps_21 : decode cX7_keeps 21 = .ok (.iaload, 1) := by decide +kernel
theorem dX7_keeps_22 : decode cX7_keeps 22 = .ok (.putfield 210, 3) := by decide +kernel
theorem dX7_keeps_25 : decode cX7_keeps 25 = .ok (.iconst 0, 1) := by decide +kernel
theorem dX7_keeps_26 : decode cX7_keeps 26 = .ok (.istore_n 2, 1) := by decide +kernel
theorem dX7_keeps_27 : decode cX7_keeps 27 = .ok (.iload_n 2, 1) := by decide +kernel
theorem dX7_keeps_28 : decode cX7_keeps 28 = .ok (.iload_n 1, 1) := by decide +kernel
theorem dX7_keeps_29 : decode cX7_keeps 29 = .ok (.if_icmp .ge 21, 3) := by decide +kernel
theorem dX7_keeps_32 : decode cX7_keeps 32 = .ok (.aload_n 0, 1) := by decide +kernel
theorem dX7_keeps_33 : decode cX7_keeps 33 = .ok (.getfield 59, 3) := by decide +kernel
theorem dX7_keeps_36 : decode cX7_keeps 36 = .ok (.iload_n 2, 1) := by decide +kernel
theorem dX7_keeps_37 : decode cX7_keeps 37 = .ok (.aload_n 0, 1) := by decide +kernel
theorem dX7_keeps_38 : decode cX7_keeps 38 = .ok (.getfield 44, 3) := by decide +kernel
theorem dX7_keeps_41 : decode cX7_keeps 41 = .ok (.iload_n 2, 1) := by decide +kernel
theorem dX7_keeps_42 : decode cX7_keeps 42 = .ok (.iaload, 1) := by decide +kernel
theorem dX7_keeps_43 : decode cX7_keeps 43 = .ok (.iastore, 1) := by decide +kernel
theorem dX7_keeps_44 : decode cX7_keeps 44 = .ok (.iinc 2 1, 3) := by decide +kernel
theorem dX7_keeps_47 : decode cX7_keeps 47 = .ok (.goto (-20), 3) := by decide +kernel
theorem dX7_keeps_50 : decode cX7_keeps 50 = .ok (.return_, 1) := by decide +kernel
theorem dX7_finds_0 : decode cX7_finds 0 = .ok (.aload_n 0, 1) := by decide +kernel
theorem dX7_finds_1 : decode cX7_finds 1 = .ok (.invokevirtual 213, 3) := by decide +kernel
theorem dX7_finds_4 : decode cX7_finds 4 = .ok (.aload_n 0, 1) := by decide +kernel
theorem dX7_finds_5 : decode cX7_finds 5 = .ok (.getfield 31, 3) := by decide +kernel
theorem dX7_finds_8 : decode cX7_finds 8 = .ok (.iconst 5, 1) := by decide +kernel
theorem dX7_finds_9 : decode cX7_finds 9 = .ok (.iload_n 2, 1) := by decide +kernel
theorem dX7_finds_10 : decode cX7_finds 10 = .ok (.iastore, 1) := by decide +kernel
theorem dX7_finds_11 : decode cX7_finds 11 = .ok (.aload_n 0, 1) := by decide +kernel
theorem dX7_finds_12 : decode cX7_finds 12 = .ok (.ldc 65, 2) := by decide +kernel
theorem dX7_finds_14 : decode cX7_finds 14 = .ok (.putfield 204, 3) := by decide +kernel
theorem dX7_finds_17 : decode cX7_finds 17 = .ok (.iconst 1, 1) := by decide +kernel
theorem dX7_finds_18 : decode cX7_finds 18 = .ok (.istore_n 3, 1) := by decide +kernel
theorem dX7_finds_19 : decode cX7_finds 19 = .ok (.iload_n 3, 1) := by decide +kernel
theorem dX7_finds_20 : decode cX7_finds 20 = .ok (.ifCond .eq 98, 3) := by decide +kernel
theorem dX7_finds_23 : decode cX7_finds 23 = .ok (.aload_n 0, 1) := by decide +kernel
theorem dX7_finds_24 : decode cX7_finds 24 = .ok (.getfield 204, 3) := by decide +kernel
theorem dX7_finds_27 : decode cX7_finds 27 = .ok (.ldc 65, 2) := by decide +kernel
theorem dX7_finds_29 : decode cX7_finds 29 = .ok (.if_icmp .eq 46, 3) := by decide +kernel
theorem dX7_finds_32 : decode cX7_finds 32 = .ok (.aload_n 0, 1) := by decide +kernel
theorem dX7_finds_33 : decode cX7_finds 33 = .ok (.getfield 56, 3) := by decide +kernel
theorem dX7_finds_36 : decode cX7_finds 36 = .ok (.aload_n 0, 1) := by decide +kernel
theorem dX7_finds_37 : decode cX7_finds 37 = .ok (.getfield 197, 3) := by decide +kernel
theorem dX7_finds_40 : decode cX7_finds 40 = .ok (.iaload, 1) := by decide +kernel
theorem dX7_finds_41 : decode cX7_finds 41 = .ok (.aload_n 0, 1) := by decide +kernel
theorem dX7_finds_42 : decode cX7_finds 42 = .ok (.getfield 204, 3) := by decide +kernel
theorem dX7_finds_45 : decode cX7_finds 45 = .ok (.if_icmp .lt 30, 3) := by decide +kernel
theorem dX7_finds_48 : decode cX7_finds 48 = .ok (.aload_n 0, 1) := by decide +kernel
theorem dX7_finds_49 : decode cX7_finds 49 = .ok (.getfield 56, 3) := by decide +kernel
theorem dX7_finds_52 : decode cX7_finds 52 = .ok (.aload_n 0, 1) := by decide +kernel
theorem dX7_finds_53 : decode cX7_finds 53 = .ok (.getfield 197, 3) := by decide +kernel
theorem dX7_finds_56 : decode cX7_finds 56 = .ok (.iaload, 1) := by decide +kernel
theorem dX7_finds_57 : decode cX7_finds 57 = .ok (.aload_n 0, 1) := by decide +kernel
theorem dX7_finds_58 : decode cX7_finds 58 = .ok (.getfield 204, 3) := by decide +kernel
theorem dX7_finds_61 : decode cX7_finds 61 = .ok (.if_icmp .ne 18, 3) := by decide +kernel
theorem dX7_finds_64 : decode cX7_finds 64 = .ok (.aload_n 0, 1) := by decide +kernel
theorem dX7_finds_65 : decode cX7_finds 65 = .ok (.getfield 197, 3) := by decide +kernel
theorem dX7_finds_68 : decode cX7_finds 68 = .ok (.aload_n 0, 1) := by decide +kernel
theorem dX7_finds_69 : decode cX7_finds 69 = .ok (.getfield 207, 3) := by decide +kernel
theorem dX7_finds_72 : decode cX7_finds 72 = .ok (.if_icmp .ge 7, 3) := by decide +kernel
theorem dX7_finds_75 : decode cX7_finds 75 = .ok (.iconst 1, 1) := by decide +kernel
theorem dX7_finds_76 : decode cX7_finds 76 = .ok (.goto 4, 3) := by decide +kernel
theorem dX7_finds_79 : decode cX7_finds 79 = .ok (.iconst 0, 1) := by decide +kernel
theorem dX7_finds_80 : decode cX7_finds 80 = .ok (.istore 4, 2) := by decide +kernel
theorem dX7_finds_82 : decode cX7_finds 82 = .ok (.aload_n 0, 1) := by decide +kernel
theorem dX7_finds_83 : decode cX7_finds 83 = .ok (.getfield 50, 3) := by decide +kernel
theorem dX7_finds_86 : decode cX7_finds 86 = .ok (.aload_n 0, 1) := by decide +kernel
theorem dX7_finds_87 : decode cX7_finds 87 = .ok (.getfield 197, 3) := by decide +kernel
theorem dX7_finds_90 : decode cX7_finds 90 = .ok (.iaload, 1) := by decide +kernel
theorem dX7_finds_91 : decode cX7_finds 91 = .ok (.iload_n 1, 1) := by decide +kernel
theorem dX7_finds_92 : decode cX7_finds 92 = .ok (.if_icmp .ne 16, 3) := by decide +kernel
theorem dX7_finds_95 : decode cX7_finds 95 = .ok (.iload 4, 2) := by decide +kernel
theorem dX7_finds_97 : decode cX7_finds 97 = .ok (.ifCond .eq 11, 3) := by decide +kernel
theorem dX7_finds_100 : decode cX7_finds 100 = .ok (.aload_n 0, 1) := by decide +kernel
theorem dX7_finds_101 : decode cX7_finds 101 = .ok (.aload_n 0, 1) := by decide +kernel
theorem dX7_finds_102 : decode cX7_finds 102 = .ok (.getfield 197, 3) := by decide +kernel
theorem dX7_finds_105 : decode cX7_finds 105 = .ok (.invokevirtual 216, 3) := by decide +kernel
theorem dX7_finds_108 : decode cX7_finds 108 = .ok (.aload_n 0, 1) := by decide +kernel
theorem dX7_finds_109 : decode cX7_finds 109 = .ok (.bipush 8, 2) := by decide +kernel
theorem dX7_finds_111 : decode cX7_finds 111 = .ok (.invokevirtual 219, 3) := by decide +kernel
theorem dX7_finds_114 : decode cX7_finds 114 = .ok (.istore_n 3, 1) := by decide +kernel
theorem dX7_finds_115 : decode cX7_finds 115 = .ok (.goto (-96), 3) := by decide +kernel
theorem dX7_finds_118 : decode cX7_finds 118 = .ok (.return_, 1) := by decide +kernel
theorem dX7_told_0 : decode cX7_told 0 = .ok (.aload_n 0, 1) := by decide +kernel
theorem dX7_told_1 : decode cX7_told 1 = .ok (.getfield 204, 3) := by decide +kernel
theorem dX7_told_4 : decode cX7_told 4 = .ok (.ldc 65, 2) := by decide +kernel
theorem dX7_told_6 : decode cX7_told 6 = .ok (.if_icmp .ne 8, 3) := by decide +kernel
theorem dX7_told_9 : decode cX7_told 9 = .ok (.ldc 65, 2) := by decide +kernel
theorem dX7_told_11 : decode cX7_told 11 = .ok (.goto 44, 3) := by decide +kernel
theorem dX7_told_14 : decode cX7_told 14 = .ok (.iload_n 1, 1) := by decide +kernel
theorem dX7_told_15 : decode cX7_told 15 = .ok (.iconst (-1), 1) := by decide +kernel
theorem dX7_told_16 : decode cX7_told 16 = .ok (.if_icmp .ne 10, 3) := by decide +kernel
theorem dX7_told_19 : decode cX7_told 19 = .ok (.aload_n 0, 1) := by decide +kernel
theorem dX7_told_20 : decode cX7_told 20 = .ok (.getfield 204, 3) := by decide +kernel
theorem dX7_told_23 : decode cX7_told 23 = .ok (.goto 32, 3) := by decide +kernel
theorem dX7_told_26 : decode cX7_told 26 = .ok (.iload_n 1, 1) := by decide +kernel
theorem dX7_told_27 : decode cX7_told 27 = .ok (.bipush (-2), 2) := by decide +kernel
theorem dX7_told_29 : decode cX7_told 29 = .ok (.if_icmp .ne 7, 3) := by decide +kernel
theorem dX7_told_32 : decode cX7_told 32 = .ok (.iload_n 2, 1) := by decide +kernel
theorem dX7_told_33 : decode cX7_told 33 = .ok (.goto 22, 3) := by decide +kernel
theorem dX7_told_36 : decode cX7_told 36 = .ok (.iload_n 1, 1) := by decide +kernel
theorem dX7_told_37 : decode cX7_told 37 = .ok (.aload_n 0, 1) := by decide +kernel
theorem dX7_told_38 : decode cX7_told 38 = .ok (.getfield 207, 3) := by decide +kernel
theorem dX7_told_41 : decode cX7_told 41 = .ok (.if_icmp .ge 12, 3) := by decide +kernel
theorem dX7_told_44 : decode cX7_told 44 = .ok (.aload_n 0, 1) := by decide +kernel
theorem dX7_told_45 : decode cX7_told 45 = .ok (.getfield 59, 3) := by decide +kernel
theorem dX7_told_48 : decode cX7_told 48 = .ok (.iload_n 1, 1) := by decide +kernel
theorem dX7_told_49 : decode cX7_told 49 = .ok (.iaload, 1) := by decide +kernel
theorem dX7_told_50 : decode cX7_told 50 = .ok (.goto 5, 3) := by decide +kernel
theorem dX7_told_53 : decode cX7_told 53 = .ok (.ldc 65, 2) := by decide +kernel
theorem dX7_told_55 : decode cX7_told 55 = .ok (.ireturn, 1) := by decide +kernel
theorem dX7_cheapest_0 : decode cX7_cheapest 0 = .ok (.aload_n 0, 1) := by decide +kernel
theorem dX7_cheapest_1 : decode cX7_cheapest 1 = .ok (.iload_n 1, 1) := by decide +kernel
theorem dX7_cheapest_2 : decode cX7_cheapest 2 = .ok (.invokevirtual 188, 3) := by decide +kernel
theorem dX7_cheapest_5 : decode cX7_cheapest 5 = .ok (.ifCond .eq 14, 3) := by decide +kernel
theorem dX7_cheapest_8 : decode cX7_cheapest 8 = .ok (.iload_n 2, 1) := by decide +kernel
theorem dX7_cheapest_9 : decode cX7_cheapest 9 = .ok (.bipush (-2), 2) := by decide +kernel
theorem dX7_cheapest_11 : decode cX7_cheapest 11 = .ok (.bipush 7, 2) := by decide +kernel
theorem dX7_cheapest_13 : decode cX7_cheapest 13 = .ok (.invokestatic 71, 3) := by decide +kernel
theorem dX7_cheapest_16 : decode cX7_cheapest 16 = .ok (.ifCond .ne 6, 3) := by decide +kernel
theorem dX7_cheapest_19 : decode cX7_cheapest 19 = .ok (.ldc 79, 2) := by decide +kernel
theorem dX7_cheapest_21 : decode cX7_cheapest 21 = .ok (.ireturn, 1) := by decide +kernel
theorem dX7_cheapest_22 : decode cX7_cheapest 22 = .ok (.aload_n 0, 1) := by decide +kernel
theorem dX7_cheapest_23 : decode cX7_cheapest 23 = .ok (.iload_n 1, 1) := by decide +kernel
theorem dX7_cheapest_24 : decode cX7_cheapest 24 = .ok (.aload_n 0, 1) := by decide +kernel
theorem dX7_cheapest_25 : decode cX7_cheapest 25 = .ok (.getfield 25, 3) := by decide +kernel
theorem dX7_cheapest_28 : decode cX7_cheapest 28 = .ok (.iconst 5, 1) := by decide +kernel
theorem dX7_cheapest_29 : decode cX7_cheapest 29 = .ok (.iaload, 1) := by decide +kernel
theorem dX7_cheapest_30 : decode cX7_cheapest 30 = .ok (.invokevirtual 222, 3) := by decide +kernel
theorem dX7_cheapest_33 : decode cX7_cheapest 33 = .ok (.aload_n 0, 1) := by decide +kernel
theorem dX7_cheapest_34 : decode cX7_cheapest 34 = .ok (.iload_n 2, 1) := by decide +kernel
theorem dX7_cheapest_35 : decode cX7_cheapest 35 = .ok (.aload_n 0, 1) := by decide +kernel
theorem dX7_cheapest_36 : decode cX7_cheapest 36 = .ok (.getfield 207, 3) := by decide +kernel
theorem dX7_cheapest_39 : decode cX7_cheapest 39 = .ok (.invokevirtual 226, 3) := by decide +kernel
theorem dX7_cheapest_42 : decode cX7_cheapest 42 = .ok (.ireturn, 1) := by decide +kernel
theorem dX7_dearest_0 : decode cX7_dearest 0 = .ok (.aload_n 0, 1) := by decide +kernel
theorem dX7_dearest_1 : decode cX7_dearest 1 = .ok (.invokevirtual 191, 3) := by decide +kernel
theorem dX7_dearest_4 : decode cX7_dearest 4 = .ok (.ifCond .ne 6, 3) := by decide +kernel
theorem dX7_dearest_7 : decode cX7_dearest 7 = .ok (.ldc 180, 2) := by decide +kernel
theorem dX7_dearest_9 : decode cX7_dearest 9 = .ok (.ireturn, 1) := by decide +kernel
theorem dX7_dearest_10 : decode cX7_dearest 10 = .ok (.iload_n 1, 1) := by decide +kernel
theorem dX7_dearest_11 : decode cX7_dearest 11 = .ok (.iconst 0, 1) := by decide +kernel
theorem dX7_dearest_12 : decode cX7_dearest 12 = .ok (.bipush 8, 2) := by decide +kernel
theorem dX7_dearest_14 : decode cX7_dearest 14 = .ok (.invokestatic 71, 3) := by decide +kernel
theorem dX7_dearest_17 : decode cX7_dearest 17 = .ok (.ifCond .eq 14, 3) := by decide +kernel
theorem dX7_dearest_20 : decode cX7_dearest 20 = .ok (.iload_n 2, 1) := by decide +kernel
theorem dX7_dearest_21 : decode cX7_dearest 21 = .ok (.bipush (-2), 2) := by decide +kernel
theorem dX7_dearest_23 : decode cX7_dearest 23 = .ok (.bipush 7, 2) := by decide +kernel
theorem dX7_dearest_25 : decode cX7_dearest 25 = .ok (.invokestatic 71, 3) := by decide +kernel
theorem dX7_dearest_28 : decode cX7_dearest 28 = .ok (.ifCond .ne 6, 3) := by decide +kernel
theorem dX7_dearest_31 : decode cX7_dearest 31 = .ok (.ldc 79, 2) := by decide +kernel
theorem dX7_dearest_33 : decode cX7_dearest 33 = .ok (.ireturn, 1) := by decide +kernel
theorem dX7_dearest_34 : decode cX7_dearest 34 = .ok (.aload_n 0, 1) := by decide +kernel
theorem dX7_dearest_35 : decode cX7_dearest 35 = .ok (.invokevirtual 213, 3) := by decide +kernel
theorem dX7_dearest_38 : decode cX7_dearest 38 = .ok (.aload_n 0, 1) := by decide +kernel
theorem dX7_dearest_39 : decode cX7_dearest 39 = .ok (.ldc 65, 2) := by decide +kernel
theorem dX7_dearest_41 : decode cX7_dearest 41 = .ok (.putfield 204, 3) := by decide +kernel
theorem dX7_dearest_44 : decode cX7_dearest 44 = .ok (.iconst 1, 1) := by decide +kernel
theorem dX7_dearest_45 : decode cX7_dearest 45 = .ok (.istore_n 3, 1) := by decide +kernel
theorem dX7_dearest_46 : decode cX7_dearest 46 = .ok (.iload_n 3, 1) := by decide +kernel
theorem dX7_dearest_47 : decode cX7_dearest 47 = .ok (.ifCond .eq 56, 3) := by decide +kernel
theorem dX7_dearest_50 : decode cX7_dearest 50 = .ok (.aload_n 0, 1) := by decide +kernel
theorem dX7_dearest_51 : decode cX7_dearest 51 = .ok (.getfield 197, 3) := by decide +kernel
theorem dX7_dearest_54 : decode cX7_dearest 54 = .ok (.iload_n 1, 1) := by decide +kernel
theorem dX7_dearest_55 : decode cX7_dearest 55 = .ok (.if_icmp .ne 27, 3) := by decide +kernel
theorem dX7_dearest_58 : decode cX7_dearest 58 = .ok (.aload_n 0, 1) := by decide +kernel
theorem dX7_dearest_59 : decode cX7_dearest 59 = .ok (.getfield 56, 3) := by decide +kernel
theorem dX7_dearest_62 : decode cX7_dearest 62 = .ok (.aload_n 0, 1) := by decide +kernel
theorem dX7_dearest_63 : decode cX7_dearest 63 = .ok (.getfield 197, 3) := by decide +kernel
theorem dX7_dearest_66 : decode cX7_dearest 66 = .ok (.iaload, 1) := by decide +kernel
theorem dX7_dearest_67 : decode cX7_dearest 67 = .ok (.aload_n 0, 1) := by decide +kernel
theorem dX7_dearest_68 : decode cX7_dearest 68 = .ok (.getfield 204, 3) := by decide +kernel
theorem dX7_dearest_71 : decode cX7_dearest 71 = .ok (.if_icmp .le 11, 3) := by decide +kernel
theorem dX7_dearest_74 : decode cX7_dearest 74 = .ok (.aload_n 0, 1) := by decide +kernel
theorem dX7_dearest_75 : decode cX7_dearest 75 = .ok (.aload_n 0, 1) := by decide +kernel
theorem dX7_dearest_76 : decode cX7_dearest 76 = .ok (.getfield 197, 3) := by decide +kernel
theorem dX7_dearest_79 : decode cX7_dearest 79 = .ok (.invokevirtual 216, 3) := by decide +kernel
theorem dX7_dearest_82 : decode cX7_dearest 82 = .ok (.iload_n 1, 1) := by decide +kernel
theorem dX7_dearest_83 : decode cX7_dearest 83 = .ok (.ifCond .le 15, 3) := by decide +kernel
theorem dX7_dearest_86 : decode cX7_dearest 86 = .ok (.aload_n 0, 1) := by decide +kernel
theorem dX7_dearest_87 : decode cX7_dearest 87 = .ok (.iload_n 1, 1) := by decide +kernel
theorem dX7_dearest_88 : decode cX7_dearest 88 = .ok (.invokevirtual 219, 3) := by decide +kernel
theorem dX7_dearest_91 : decode cX7_dearest 91 = .ok (.ifCond .eq 7, 3) := by decide +kernel
theorem dX7_dearest_94 : decode cX7_dearest 94 = .ok (.iconst 1, 1) := by decide +kernel
theorem dX7_dearest_95 : decode cX7_dearest 95 = .ok (.goto 4, 3) := by decide +kernel
theorem dX7_dearest_98 : decode cX7_dearest 98 = .ok (.iconst 0, 1) := by decide +kernel
theorem dX7_dearest_99 : decode cX7_dearest 99 = .ok (.istore_n 3, 1) := by decide +kernel
theorem dX7_dearest_100 : decode cX7_dearest 100 = .ok (.goto (-54), 3) := by decide +kernel
theorem dX7_dearest_103 : decode cX7_dearest 103 = .ok (.aload_n 0, 1) := by decide +kernel
theorem dX7_dearest_104 : decode cX7_dearest 104 = .ok (.iload_n 2, 1) := by decide +kernel
theorem dX7_dearest_105 : decode cX7_dearest 105 = .ok (.aload_n 0, 1) := by decide +kernel
theorem dX7_dearest_106 : decode cX7_dearest 106 = .ok (.getfield 210, 3) := by decide +kernel
theorem dX7_dearest_109 : decode cX7_dearest 109 = .ok (.invokevirtual 226, 3) := by decide +kernel
theorem dX7_dearest_112 : decode cX7_dearest 112 = .ok (.ireturn, 1) := by decide +kernel
theorem dX7_moods_0 : decode cX7_moods 0 = .ok (.aload_n 0, 1) := by decide +kernel
theorem dX7_moods_1 : decode cX7_moods 1 = .ok (.iload_n 1, 1) := by decide +kernel
theorem dX7_moods_2 : decode cX7_moods 2 = .ok (.invokevirtual 188, 3) := by decide +kernel
theorem dX7_moods_5 : decode cX7_moods 5 = .ok (.ifCond .eq 13, 3) := by decide +kernel
theorem dX7_moods_8 : decode cX7_moods 8 = .ok (.iload_n 2, 1) := by decide +kernel
theorem dX7_moods_9 : decode cX7_moods 9 = .ok (.iconst 0, 1) := by decide +kernel
theorem dX7_moods_10 : decode cX7_moods 10 = .ok (.bipush 8, 2) := by decide +kernel
theorem dX7_moods_12 : decode cX7_moods 12 = .ok (.invokestatic 71, 3) := by decide +kernel
theorem dX7_moods_15 : decode cX7_moods 15 = .ok (.ifCond .ne 6, 3) := by decide +kernel
theorem dX7_moods_18 : decode cX7_moods 18 = .ok (.ldc 79, 2) := by decide +kernel
theorem dX7_moods_20 : decode cX7_moods 20 = .ok (.ireturn, 1) := by decide +kernel
theorem dX7_moods_21 : decode cX7_moods 21 = .ok (.aload_n 0, 1) := by decide +kernel
theorem dX7_moods_22 : decode cX7_moods 22 = .ok (.invokevirtual 213, 3) := by decide +kernel
theorem dX7_moods_25 : decode cX7_moods 25 = .ok (.iconst 0, 1) := by decide +kernel
theorem dX7_moods_26 : decode cX7_moods 26 = .ok (.istore_n 3, 1) := by decide +kernel
theorem dX7_moods_27 : decode cX7_moods 27 = .ok (.iconst 1, 1) := by decide +kernel
theorem dX7_moods_28 : decode cX7_moods 28 = .ok (.istore 4, 2) := by decide +kernel
theorem dX7_moods_30 : decode cX7_moods 30 = .ok (.iload 4, 2) := by decide +kernel
theorem dX7_moods_32 : decode cX7_moods 32 = .ok (.ifCond .eq 64, 3) := by decide +kernel
theorem dX7_moods_35 : decode cX7_moods 35 = .ok (.iload_n 3, 1) := by decide +kernel
theorem dX7_moods_36 : decode cX7_moods 36 = .ok (.aload_n 0, 1) := by decide +kernel
theorem dX7_moods_37 : decode cX7_moods 37 = .ok (.getfield 197, 3) := by decide +kernel
theorem dX7_moods_40 : decode cX7_moods 40 = .ok (.iload_n 2, 1) := by decide +kernel
theorem dX7_moods_41 : decode cX7_moods 41 = .ok (.if_icmp .ne 30, 3) := by decide +kernel
theorem dX7_moods_44 : decode cX7_moods 44 = .ok (.aload_n 0, 1) := by decide +kernel
theorem dX7_moods_45 : decode cX7_moods 45 = .ok (.getfield 50, 3) := by decide +kernel
theorem dX7_moods_48 : decode cX7_moods 48 = .ok (.aload_n 0, 1) := by decide +kernel
theorem dX7_moods_49 : decode cX7_moods 49 = .ok (.getfield 197, 3) := by decide +kernel
theorem dX7_moods_52 : decode cX7_moods 52 = .ok (.iaload, 1) := by decide +kernel
theorem dX7_moods_53 : decode cX7_moods 53 = .ok (.iload_n 1, 1) := by decide +kernel
theorem dX7_moods_54 : decode cX7_moods 54 = .ok (.if_icmp .ne 17, 3) := by decide +kernel
theorem dX7_moods_57 : decode cX7_moods 57 = .ok (.iconst 1, 1) := by decide +kernel
theorem dX7_moods_58 : decode cX7_moods 58 = .ok (.aload_n 0, 1) := by decide +kernel
theorem dX7_moods_59 : decode cX7_moods 59 = .ok (.getfield 53, 3) := by decide +kernel
theorem dX7_moods_62 : decode cX7_moods 62 = .ok (.aload_n 0, 1) := by decide +kernel
theorem dX7_moods_63 : decode cX7_moods 63 = .ok (.getfield 197, 3) := by decide +kernel
theorem dX7_moods_66 : decode cX7_moods 66 = .ok (.iaload, 1) := by decide +kernel
theorem dX7_moods_67 : decode cX7_moods 67 = .ok (.ishl, 1) := by decide +kernel
theorem dX7_moods_68 : decode cX7_moods 68 = .ok (.goto 4, 3) := by decide +kernel
theorem dX7_moods_71 : decode cX7_moods 71 = .ok (.iconst 0, 1) := by decide +kernel
theorem dX7_moods_72 : decode cX7_moods 72 = .ok (.ior, 1) := by decide +kernel
theorem dX7_moods_73 : decode cX7_moods 73 = .ok (.istore_n 3, 1) := by decide +kernel
theorem dX7_moods_74 : decode cX7_moods 74 = .ok (.iload_n 2, 1) := by decide +kernel
theorem dX7_moods_75 : decode cX7_moods 75 = .ok (.ifCond .le 15, 3) := by decide +kernel
theorem dX7_moods_78 : decode cX7_moods 78 = .ok (.aload_n 0, 1) := by decide +kernel
theorem dX7_moods_79 : decode cX7_moods 79 = .ok (.iload_n 2, 1) := by decide +kernel
theorem dX7_moods_80 : decode cX7_moods 80 = .ok (.invokevirtual 219, 3) := by decide +kernel
theorem dX7_moods_83 : decode cX7_moods 83 = .ok (.ifCond .eq 7, 3) := by decide +kernel
theorem dX7_moods_86 : decode cX7_moods 86 = .ok (.iconst 1, 1) := by decide +kernel
theorem dX7_moods_87 : decode cX7_moods 87 = .ok (.goto 4, 3) := by decide +kernel
theorem dX7_moods_90 : decode cX7_moods 90 = .ok (.iconst 0, 1) := by decide +kernel
theorem dX7_moods_91 : decode cX7_moods 91 = .ok (.istore 4, 2) := by decide +kernel
theorem dX7_moods_93 : decode cX7_moods 93 = .ok (.goto (-63), 3) := by decide +kernel
theorem dX7_moods_96 : decode cX7_moods 96 = .ok (.iload_n 3, 1) := by decide +kernel
theorem dX7_moods_97 : decode cX7_moods 97 = .ok (.ireturn, 1) := by decide +kernel
theorem dX7_gets_0 : decode cX7_gets 0 = .ok (.aload_n 0, 1) := by decide +kernel
theorem dX7_gets_1 : decode cX7_gets 1 = .ok (.invokevirtual 191, 3) := by decide +kernel
theorem dX7_gets_4 : decode cX7_gets 4 = .ok (.ifCond .ne 6, 3) := by decide +kernel
theorem dX7_gets_7 : decode cX7_gets 7 = .ok (.ldc 180, 2) := by decide +kernel
theorem dX7_gets_9 : decode cX7_gets 9 = .ok (.ireturn, 1) := by decide +kernel
theorem dX7_gets_10 : decode cX7_gets 10 = .ok (.iload_n 1, 1) := by decide +kernel
theorem dX7_gets_11 : decode cX7_gets 11 = .ok (.iconst 0, 1) := by decide +kernel
theorem dX7_gets_12 : decode cX7_gets 12 = .ok (.bipush 9, 2) := by decide +kernel
theorem dX7_gets_14 : decode cX7_gets 14 = .ok (.invokestatic 71, 3) := by decide +kernel
theorem dX7_gets_17 : decode cX7_gets 17 = .ok (.ifCond .eq 13, 3) := by decide +kernel
theorem dX7_gets_20 : decode cX7_gets 20 = .ok (.iload_n 2, 1) := by decide +kernel
theorem dX7_gets_21 : decode cX7_gets 21 = .ok (.iconst (-1), 1) := by decide +kernel
theorem dX7_gets_22 : decode cX7_gets 22 = .ok (.bipush 7, 2) := by decide +kernel
theorem dX7_gets_24 : decode cX7_gets 24 = .ok (.invokestatic 71, 3) := by decide +kernel
theorem dX7_gets_27 : decode cX7_gets 27 = .ok (.ifCond .ne 6, 3) := by decide +kernel
theorem dX7_gets_30 : decode cX7_gets 30 = .ok (.ldc 79, 2) := by decide +kernel
theorem dX7_gets_32 : decode cX7_gets 32 = .ok (.ireturn, 1) := by decide +kernel
theorem dX7_gets_33 : decode cX7_gets 33 = .ok (.aload_n 0, 1) := by decide +kernel
theorem dX7_gets_34 : decode cX7_gets 34 = .ok (.invokevirtual 213, 3) := by decide +kernel
theorem dX7_gets_37 : decode cX7_gets 37 = .ok (.aload_n 0, 1) := by decide +kernel
theorem dX7_gets_38 : decode cX7_gets 38 = .ok (.ldc 65, 2) := by decide +kernel
theorem dX7_gets_40 : decode cX7_gets 40 = .ok (.putfield 204, 3) := by decide +kernel
theorem dX7_gets_43 : decode cX7_gets 43 = .ok (.iconst 1, 1) := by decide +kernel
theorem dX7_gets_44 : decode cX7_gets 44 = .ok (.istore_n 3, 1) := by decide +kernel
theorem dX7_gets_45 : decode cX7_gets 45 = .ok (.iload_n 3, 1) := by decide +kernel
theorem dX7_gets_46 : decode cX7_gets 46 = .ok (.ifCond .eq 54, 3) := by decide +kernel
theorem dX7_gets_49 : decode cX7_gets 49 = .ok (.aload_n 0, 1) := by decide +kernel
theorem dX7_gets_50 : decode cX7_gets 50 = .ok (.getfield 53, 3) := by decide +kernel
theorem dX7_gets_53 : decode cX7_gets 53 = .ok (.aload_n 0, 1) := by decide +kernel
theorem dX7_gets_54 : decode cX7_gets 54 = .ok (.getfield 197, 3) := by decide +kernel
theorem dX7_gets_57 : decode cX7_gets 57 = .ok (.iaload, 1) := by decide +kernel
theorem dX7_gets_58 : decode cX7_gets 58 = .ok (.iload_n 1, 1) := by decide +kernel
theorem dX7_gets_59 : decode cX7_gets 59 = .ok (.if_icmp .ne 31, 3) := by decide +kernel
theorem dX7_gets_62 : decode cX7_gets 62 = .ok (.aload_n 0, 1) := by decide +kernel
theorem dX7_gets_63 : decode cX7_gets 63 = .ok (.getfield 204, 3) := by decide +kernel
theorem dX7_gets_66 : decode cX7_gets 66 = .ok (.ldc 65, 2) := by decide +kernel
theorem dX7_gets_68 : decode cX7_gets 68 = .ok (.if_icmp .eq 14, 3) := by decide +kernel
theorem dX7_gets_71 : decode cX7_gets 71 = .ok (.aload_n 0, 1) := by decide +kernel
theorem dX7_gets_72 : decode cX7_gets 72 = .ok (.getfield 197, 3) := by decide +kernel
theorem dX7_gets_75 : decode cX7_gets 75 = .ok (.aload_n 0, 1) := by decide +kernel
theorem dX7_gets_76 : decode cX7_gets 76 = .ok (.getfield 207, 3) := by decide +kernel
theorem dX7_gets_79 : decode cX7_gets 79 = .ok (.if_icmp .ge 11, 3) := by decide +kernel
theorem dX7_gets_82 : decode cX7_gets 82 = .ok (.aload_n 0, 1) := by decide +kernel
theorem dX7_gets_83 : decode cX7_gets 83 = .ok (.aload_n 0, 1) := by decide +kernel
theorem dX7_gets_84 : decode cX7_gets 84 = .ok (.getfield 197, 3) := by decide +kernel
theorem dX7_gets_87 : decode cX7_gets 87 = .ok (.invokevirtual 216, 3) := by decide +kernel
theorem dX7_gets_90 : decode cX7_gets 90 = .ok (.aload_n 0, 1) := by decide +kernel
theorem dX7_gets_91 : decode cX7_gets 91 = .ok (.bipush 8, 2) := by decide +kernel
theorem dX7_gets_93 : decode cX7_gets 93 = .ok (.invokevirtual 219, 3) := by decide +kernel
theorem dX7_gets_96 : decode cX7_gets 96 = .ok (.istore_n 3, 1) := by decide +kernel
theorem dX7_gets_97 : decode cX7_gets 97 = .ok (.goto (-52), 3) := by decide +kernel
theorem dX7_gets_100 : decode cX7_gets 100 = .ok (.aload_n 0, 1) := by decide +kernel
theorem dX7_gets_101 : decode cX7_gets 101 = .ok (.getfield 204, 3) := by decide +kernel
theorem dX7_gets_104 : decode cX7_gets 104 = .ok (.ldc 65, 2) := by decide +kernel
theorem dX7_gets_106 : decode cX7_gets 106 = .ok (.if_icmp .ne 8, 3) := by decide +kernel
theorem dX7_gets_109 : decode cX7_gets 109 = .ok (.ldc 65, 2) := by decide +kernel
theorem dX7_gets_111 : decode cX7_gets 111 = .ok (.goto 34, 3) := by decide +kernel
theorem dX7_gets_114 : decode cX7_gets 114 = .ok (.iload_n 2, 1) := by decide +kernel
theorem dX7_gets_115 : decode cX7_gets 115 = .ok (.iconst (-1), 1) := by decide +kernel
theorem dX7_gets_116 : decode cX7_gets 116 = .ok (.if_icmp .ne 10, 3) := by decide +kernel
theorem dX7_gets_119 : decode cX7_gets 119 = .ok (.aload_n 0, 1) := by decide +kernel
theorem dX7_gets_120 : decode cX7_gets 120 = .ok (.getfield 207, 3) := by decide +kernel
theorem dX7_gets_123 : decode cX7_gets 123 = .ok (.goto 22, 3) := by decide +kernel
theorem dX7_gets_126 : decode cX7_gets 126 = .ok (.iload_n 2, 1) := by decide +kernel
theorem dX7_gets_127 : decode cX7_gets 127 = .ok (.aload_n 0, 1) := by decide +kernel
theorem dX7_gets_128 : decode cX7_gets 128 = .ok (.getfield 207, 3) := by decide +kernel
theorem dX7_gets_131 : decode cX7_gets 131 = .ok (.if_icmp .ge 12, 3) := by decide +kernel
theorem dX7_gets_134 : decode cX7_gets 134 = .ok (.aload_n 0, 1) := by decide +kernel
theorem dX7_gets_135 : decode cX7_gets 135 = .ok (.getfield 59, 3) := by decide +kernel
theorem dX7_gets_138 : decode cX7_gets 138 = .ok (.iload_n 2, 1) := by decide +kernel
theorem dX7_gets_139 : decode cX7_gets 139 = .ok (.iaload, 1) := by decide +kernel
theorem dX7_gets_140 : decode cX7_gets 140 = .ok (.goto 5, 3) := by decide +kernel
theorem dX7_gets_143 : decode cX7_gets 143 = .ok (.ldc 65, 2) := by decide +kernel
theorem dX7_gets_145 : decode cX7_gets 145 = .ok (.ireturn, 1) := by decide +kernel
theorem dX7_goesSo_0 : decode cX7_goesSo 0 = .ok (.iconst 1, 1) := by decide +kernel
theorem dX7_goesSo_1 : decode cX7_goesSo 1 = .ok (.istore 4, 2) := by decide +kernel
theorem dX7_goesSo_3 : decode cX7_goesSo 3 = .ok (.iconst 0, 1) := by decide +kernel
theorem dX7_goesSo_4 : decode cX7_goesSo 4 = .ok (.istore 5, 2) := by decide +kernel
theorem dX7_goesSo_6 : decode cX7_goesSo 6 = .ok (.iload 5, 2) := by decide +kernel
theorem dX7_goesSo_8 : decode cX7_goesSo 8 = .ok (.iload_n 3, 1) := by decide +kernel
theorem dX7_goesSo_9 : decode cX7_goesSo 9 = .ok (.if_icmp .ge 109, 3) := by decide +kernel
theorem dX7_goesSo_12 : decode cX7_goesSo 12 = .ok (.iload 4, 2) := by decide +kernel
theorem dX7_goesSo_14 : decode cX7_goesSo 14 = .ok (.ifCond .eq 104, 3) := by decide +kernel
theorem dX7_goesSo_17 : decode cX7_goesSo 17 = .ok (.aload_n 0, 1) := by decide +kernel
theorem dX7_goesSo_18 : decode cX7_goesSo 18 = .ok (.getfield 16, 3) := by decide +kernel
theorem dX7_goesSo_21 : decode cX7_goesSo 21 = .ok (.iload_n 2, 1) := by decide +kernel
theorem dX7_goesSo_22 : decode cX7_goesSo 22 = .ok (.iload 5, 2) := by decide +kernel
theorem dX7_goesSo_24 : decode cX7_goesSo 24 = .ok (.iadd, 1) := by decide +kernel
theorem dX7_goesSo_25 : decode cX7_goesSo 25 = .ok (.iaload, 1) := by decide +kernel
theorem dX7_goesSo_26 : decode cX7_goesSo 26 = .ok (.istore 6, 2) := by decide +kernel
theorem dX7_goesSo_28 : decode cX7_goesSo 28 = .ok (.aload_n 0, 1) := by decide +kernel
theorem dX7_goesSo_29 : decode cX7_goesSo 29 = .ok (.getfield 31, 3) := by decide +kernel
theorem dX7_goesSo_32 : decode cX7_goesSo 32 = .ok (.iload 6, 2) := by decide +kernel
theorem dX7_goesSo_34 : decode cX7_goesSo 34 = .ok (.aload_n 0, 1) := by decide +kernel
theorem dX7_goesSo_35 : decode cX7_goesSo 35 = .ok (.getfield 31, 3) := by decide +kernel
theorem dX7_goesSo_38 : decode cX7_goesSo 38 = .ok (.iconst 4, 1) := by decide +kernel
theorem dX7_goesSo_39 : decode cX7_goesSo 39 = .ok (.iaload, 1) := by decide +kernel
theorem dX7_goesSo_40 : decode cX7_goesSo 40 = .ok (.invokestatic 176, 3) := by decide +kernel
theorem dX7_goesSo_43 : decode cX7_goesSo 43 = .ok (.ifCond .eq 52, 3) := by decide +kernel
theorem dX7_goesSo_46 : decode cX7_goesSo 46 = .ok (.aload_n 0, 1) := by decide +kernel
theorem dX7_goesSo_47 : decode cX7_goesSo 47 = .ok (.getfield 31, 3) := by decide +kernel
theorem dX7_goesSo_50 : decode cX7_goesSo 50 = .ok (.aload_n 0, 1) := by decide +kernel
theorem dX7_goesSo_51 : decode cX7_goesSo 51 = .ok (.getfield 31, 3) := by decide +kernel
theorem dX7_goesSo_54 : decode cX7_goesSo 54 = .ok (.bipush 26, 2) := by decide +kernel
theorem dX7_goesSo_56 : decode cX7_goesSo 56 = .ok (.iconst 2, 1) := by decide +kernel
theorem dX7_goesSo_57 : decode cX7_goesSo 57 = .ok (.iload 6, 2) := by decide +kernel
theorem dX7_goesSo_59 : decode cX7_goesSo 59 = .ok (.imul, 1) := by decide +kernel
theorem dX7_goesSo_60 : decode cX7_goesSo 60 = .ok (.iadd, 1) := by decide +kernel
theorem dX7_goesSo_61 : decode cX7_goesSo 61 = .ok (.iconst 1, 1) := by decide +kernel
theorem dX7_goesSo_62 : decode cX7_goesSo 62 = .ok (.iadd, 1) := by decide +kernel
theorem dX7_goesSo_63 : decode cX7_goesSo 63 = .ok (.iaload, 1) := by decide +kernel
theorem dX7_goesSo_64 : decode cX7_goesSo 64 = .ok (.aload_n 0, 1) := by decide +kernel
theorem dX7_goesSo_65 : decode cX7_goesSo 65 = .ok (.getfield 31, 3) := by decide +kernel
theorem dX7_goesSo_68 : decode cX7_goesSo 68 = .ok (.iconst 1, 1) := by decide +kernel
theorem dX7_goesSo_69 : decode cX7_goesSo 69 = .ok (.iaload, 1) := by decide +kernel
theorem dX7_goesSo_70 : decode cX7_goesSo 70 = .ok (.aload_n 0, 1) := by decide +kernel
theorem dX7_goesSo_71 : decode cX7_goesSo 71 = .ok (.getfield 31, 3) := by decide +kernel
theorem dX7_goesSo_74 : decode cX7_goesSo 74 = .ok (.iconst 3, 1) := by decide +kernel
theorem dX7_goesSo_75 : decode cX7_goesSo 75 = .ok (.iaload, 1) := by decide +kernel
theorem dX7_goesSo_76 : decode cX7_goesSo 76 = .ok (.invokestatic 170, 3) := by decide +kernel
theorem dX7_goesSo_79 : decode cX7_goesSo 79 = .ok (.aload_n 0, 1) := by decide +kernel
theorem dX7_goesSo_80 : decode cX7_goesSo 80 = .ok (.getfield 16, 3) := by decide +kernel
theorem dX7_goesSo_83 : decode cX7_goesSo 83 = .ok (.iload_n 1, 1) := by decide +kernel
theorem dX7_goesSo_84 : decode cX7_goesSo 84 = .ok (.iload 5, 2) := by decide +kernel
theorem dX7_goesSo_86 : decode cX7_goesSo 86 = .ok (.iadd, 1) := by decide +kernel
theorem dX7_goesSo_87 : decode cX7_goesSo 87 = .ok (.iaload, 1) := by decide +kernel
theorem dX7_goesSo_88 : decode cX7_goesSo 88 = .ok (.if_icmp .ne 7, 3) := by decide +kernel
theorem dX7_goesSo_91 : decode cX7_goesSo 91 = .ok (.iconst 1, 1) := by decide +kernel
theorem dX7_goesSo_92 : decode cX7_goesSo 92 = .ok (.goto 4, 3) := by decide +kernel
theorem dX7_goesSo_95 : decode cX7_goesSo 95 = .ok (.iconst 0, 1) := by decide +kernel
theorem dX7_goesSo_96 : decode cX7_goesSo 96 = .ok (.istore 4, 2) := by decide +kernel
theorem dX7_goesSo_98 : decode cX7_goesSo 98 = .ok (.iload 4, 2) := by decide +kernel
theorem dX7_goesSo_100 : decode cX7_goesSo 100 = .ok (.ifCond .eq 12, 3) := by decide +kernel
theorem dX7_goesSo_103 : decode cX7_goesSo 103 = .ok (.aload_n 0, 1) := by decide +kernel
theorem dX7_goesSo_104 : decode cX7_goesSo 104 = .ok (.getfield 31, 3) := by decide +kernel
theorem dX7_goesSo_107 : decode cX7_goesSo 107 = .ok (.iload 6, 2) := by decide +kernel
theorem dX7_goesSo_109 : decode cX7_goesSo 109 = .ok (.invokestatic 184, 3) := by decide +kernel
theorem dX7_goesSo_112 : decode cX7_goesSo 112 = .ok (.iinc 5 1, 3) := by decide +kernel
theorem dX7_goesSo_115 : decode cX7_goesSo 115 = .ok (.goto (-109), 3) := by decide +kernel
theorem dX7_goesSo_118 : decode cX7_goesSo 118 = .ok (.iload 4, 2) := by decide +kernel
theorem dX7_goesSo_120 : decode cX7_goesSo 120 = .ok (.ireturn, 1) := by decide +kernel
theorem dX7_bar_0 : decode cX7_bar 0 = .ok (.aload_n 0, 1) := by decide +kernel
theorem dX7_bar_1 : decode cX7_bar 1 = .ok (.iload_n 1, 1) := by decide +kernel
theorem dX7_bar_2 : decode cX7_bar 2 = .ok (.invokevirtual 87, 3) := by decide +kernel
theorem dX7_bar_5 : decode cX7_bar 5 = .ok (.ifCond .eq 9, 3) := by decide +kernel
theorem dX7_bar_8 : decode cX7_bar 8 = .ok (.aload_n 0, 1) := by decide +kernel
theorem dX7_bar_9 : decode cX7_bar 9 = .ok (.iconst 1, 1) := by decide +kernel
theorem dX7_bar_10 : decode cX7_bar 10 = .ok (.invokevirtual 80, 3) := by decide +kernel
theorem dX7_bar_13 : decode cX7_bar 13 = .ok (.ireturn, 1) := by decide +kernel
theorem dX7_bar_14 : decode cX7_bar 14 = .ok (.aload_n 0, 1) := by decide +kernel
theorem dX7_bar_15 : decode cX7_bar 15 = .ok (.iload_n 1, 1) := by decide +kernel
theorem dX7_bar_16 : decode cX7_bar 16 = .ok (.iload_n 2, 1) := by decide +kernel
theorem dX7_bar_17 : decode cX7_bar 17 = .ok (.iload 5, 2) := by decide +kernel
theorem dX7_bar_19 : decode cX7_bar 19 = .ok (.invokevirtual 94, 3) := by decide +kernel
theorem dX7_bar_22 : decode cX7_bar 22 = .ok (.ifCond .ne 9, 3) := by decide +kernel
theorem dX7_bar_25 : decode cX7_bar 25 = .ok (.aload_n 0, 1) := by decide +kernel
theorem dX7_bar_26 : decode cX7_bar 26 = .ok (.iconst 2, 1) := by decide +kernel
theorem dX7_bar_27 : decode cX7_bar 27 = .ok (.invokevirtual 80, 3) := by decide +kernel
theorem dX7_bar_30 : decode cX7_bar 30 = .ok (.ireturn, 1) := by decide +kernel
theorem dX7_bar_31 : decode cX7_bar 31 = .ok (.aload_n 0, 1) := by decide +kernel
theorem dX7_bar_32 : decode cX7_bar 32 = .ok (.iload_n 3, 1) := by decide +kernel
theorem dX7_bar_33 : decode cX7_bar 33 = .ok (.invokevirtual 87, 3) := by decide +kernel
theorem dX7_bar_36 : decode cX7_bar 36 = .ok (.ifCond .eq 9, 3) := by decide +kernel
theorem dX7_bar_39 : decode cX7_bar 39 = .ok (.aload_n 0, 1) := by decide +kernel
theorem dX7_bar_40 : decode cX7_bar 40 = .ok (.iconst 1, 1) := by decide +kernel
theorem dX7_bar_41 : decode cX7_bar 41 = .ok (.invokevirtual 80, 3) := by decide +kernel
theorem dX7_bar_44 : decode cX7_bar 44 = .ok (.ireturn, 1) := by decide +kernel
theorem dX7_bar_45 : decode cX7_bar 45 = .ok (.aload_n 0, 1) := by decide +kernel
theorem dX7_bar_46 : decode cX7_bar 46 = .ok (.iload_n 3, 1) := by decide +kernel
theorem dX7_bar_47 : decode cX7_bar 47 = .ok (.iload 4, 2) := by decide +kernel
theorem dX7_bar_49 : decode cX7_bar 49 = .ok (.iload 5, 2) := by decide +kernel
theorem dX7_bar_51 : decode cX7_bar 51 = .ok (.invokevirtual 94, 3) := by decide +kernel
theorem dX7_bar_54 : decode cX7_bar 54 = .ok (.ifCond .eq 7, 3) := by decide +kernel
theorem dX7_bar_57 : decode cX7_bar 57 = .ok (.iconst 0, 1) := by decide +kernel
theorem dX7_bar_58 : decode cX7_bar 58 = .ok (.goto 8, 3) := by decide +kernel
theorem dX7_bar_61 : decode cX7_bar 61 = .ok (.aload_n 0, 1) := by decide +kernel
theorem dX7_bar_62 : decode cX7_bar 62 = .ok (.iconst 2, 1) := by decide +kernel
theorem dX7_bar_63 : decode cX7_bar 63 = .ok (.invokevirtual 80, 3) := by decide +kernel
theorem dX7_bar_66 : decode cX7_bar 66 = .ok (.ireturn, 1) := by decide +kernel
theorem dX7_all_0 : decode cX7_all 0 = .ok (.iconst 0, 1) := by decide +kernel
theorem dX7_all_1 : decode cX7_all 1 = .ok (.istore 7, 2) := by decide +kernel
theorem dX7_all_3 : decode cX7_all 3 = .ok (.iload_n 2, 1) := by decide +kernel
theorem dX7_all_4 : decode cX7_all 4 = .ok (.istore 8, 2) := by decide +kernel
theorem dX7_all_6 : decode cX7_all 6 = .ok (.iload 8, 2) := by decide +kernel
theorem dX7_all_8 : decode cX7_all 8 = .ok (.iload_n 3, 1) := by decide +kernel
theorem dX7_all_9 : decode cX7_all 9 = .ok (.if_icmp .gt 56, 3) := by decide +kernel
theorem dX7_all_12 : decode cX7_all 12 = .ok (.aload_n 0, 1) := by decide +kernel
theorem dX7_all_13 : decode cX7_all 13 = .ok (.getfield 25, 3) := by decide +kernel
theorem dX7_all_16 : decode cX7_all 16 = .ok (.iconst 0, 1) := by decide +kernel
theorem dX7_all_17 : decode cX7_all 17 = .ok (.aload_n 0, 1) := by decide +kernel
theorem dX7_all_18 : decode cX7_all 18 = .ok (.getfield 31, 3) := by decide +kernel
theorem dX7_all_21 : decode cX7_all 21 = .ok (.iconst 0, 1) := by decide +kernel
theorem dX7_all_22 : decode cX7_all 22 = .ok (.invokestatic 156, 3) := by decide +kernel
theorem dX7_all_25 : decode cX7_all 25 = .ok (.aload_n 0, 1) := by decide +kernel
theorem dX7_all_26 : decode cX7_all 26 = .ok (.getfield 31, 3) := by decide +kernel
theorem dX7_all_29 : decode cX7_all 29 = .ok (.iload_n 1, 1) := by decide +kernel
theorem dX7_all_30 : decode cX7_all 30 = .ok (.iload 8, 2) := by decide +kernel
theorem dX7_all_32 : decode cX7_all 32 = .ok (.iastore, 1) := by decide +kernel
theorem dX7_all_33 : decode cX7_all 33 = .ok (.iload 7, 2) := by decide +kernel
theorem dX7_all_35 : decode cX7_all 35 = .ok (.aload_n 0, 1) := by decide +kernel
theorem dX7_all_36 : decode cX7_all 36 = .ok (.iload 4, 2) := by decide +kernel
theorem dX7_all_38 : decode cX7_all 38 = .ok (.iload 5, 2) := by decide +kernel
theorem dX7_all_40 : decode cX7_all 40 = .ok (.iload 6, 2) := by decide +kernel
theorem dX7_all_42 : decode cX7_all 42 = .ok (.invokevirtual 229, 3) := by decide +kernel
theorem dX7_all_45 : decode cX7_all 45 = .ok (.ifCond .eq 10, 3) := by decide +kernel
theorem dX7_all_48 : decode cX7_all 48 = .ok (.iconst 1, 1) := by decide +kernel
theorem dX7_all_49 : decode cX7_all 49 = .ok (.iload 8, 2) := by decide +kernel
theorem dX7_all_51 : decode cX7_all 51 = .ok (.ishl, 1) := by decide +kernel
theorem dX7_all_52 : decode cX7_all 52 = .ok (.goto 4, 3) := by decide +kernel
theorem dX7_all_55 : decode cX7_all 55 = .ok (.iconst 0, 1) := by decide +kernel
theorem dX7_all_56 : decode cX7_all 56 = .ok (.ior, 1) := by decide +kernel
theorem dX7_all_57 : decode cX7_all 57 = .ok (.istore 7, 2) := by decide +kernel
theorem dX7_all_59 : decode cX7_all 59 = .ok (.iinc 8 1, 3) := by decide +kernel
theorem dX7_all_62 : decode cX7_all 62 = .ok (.goto (-56), 3) := by decide +kernel
theorem dX7_all_65 : decode cX7_all 65 = .ok (.aload_n 0, 1) := by decide +kernel
theorem dX7_all_66 : decode cX7_all 66 = .ok (.iload 7, 2) := by decide +kernel
theorem dX7_all_68 : decode cX7_all 68 = .ok (.invokevirtual 84, 3) := by decide +kernel
theorem dX7_all_71 : decode cX7_all 71 = .ok (.ireturn, 1) := by decide +kernel
theorem dX7_fits_0 : decode cX7_fits 0 = .ok (.aload_n 0, 1) := by decide +kernel
theorem dX7_fits_1 : decode cX7_fits 1 = .ok (.invokevirtual 191, 3) := by decide +kernel
theorem dX7_fits_4 : decode cX7_fits 4 = .ok (.ifCond .ne 6, 3) := by decide +kernel
theorem dX7_fits_7 : decode cX7_fits 7 = .ok (.ldc 180, 2) := by decide +kernel
theorem dX7_fits_9 : decode cX7_fits 9 = .ok (.ireturn, 1) := by decide +kernel
theorem dX7_fits_10 : decode cX7_fits 10 = .ok (.iload_n 1, 1) := by decide +kernel
theorem dX7_fits_11 : decode cX7_fits 11 = .ok (.invokestatic 75, 3) := by decide +kernel
theorem dX7_fits_14 : decode cX7_fits 14 = .ok (.ifCond .eq 31, 3) := by decide +kernel
theorem dX7_fits_17 : decode cX7_fits 17 = .ok (.iload_n 3, 1) := by decide +kernel
theorem dX7_fits_18 : decode cX7_fits 18 = .ok (.invokestatic 75, 3) := by decide +kernel
theorem dX7_fits_21 : decode cX7_fits 21 = .ok (.ifCond .eq 24, 3) := by decide +kernel
theorem dX7_fits_24 : decode cX7_fits 24 = .ok (.iload 5, 2) := by decide +kernel
theorem dX7_fits_26 : decode cX7_fits 26 = .ok (.iconst 1, 1) := by decide +kernel
theorem dX7_fits_27 : decode cX7_fits 27 = .ok (.bipush 8, 2) := by decide +kernel
theorem dX7_fits_29 : decode cX7_fits 29 = .ok (.invokestatic 71, 3) := by decide +kernel
theorem dX7_fits_32 : decode cX7_fits 32 = .ok (.ifCond .eq 13, 3) := by decide +kernel
theorem dX7_fits_35 : decode cX7_fits 35 = .ok (.iload 6, 2) := by decide +kernel
theorem dX7_fits_37 : decode cX7_fits 37 = .ok (.iconst 0, 1) := by decide +kernel
theorem dX7_fits_38 : decode cX7_fits 38 = .ok (.iconst 1, 1) := by decide +kernel
theorem dX7_fits_39 : decode cX7_fits 39 = .ok (.invokestatic 71, 3) := by decide +kernel
theorem dX7_fits_42 : decode cX7_fits 42 = .ok (.ifCond .ne 6, 3) := by decide +kernel
theorem dX7_fits_45 : decode cX7_fits 45 = .ok (.ldc 79, 2) := by decide +kernel
theorem dX7_fits_47 : decode cX7_fits 47 = .ok (.ireturn, 1) := by decide +kernel
theorem dX7_fits_48 : decode cX7_fits 48 = .ok (.aload_n 0, 1) := by decide +kernel
theorem dX7_fits_49 : decode cX7_fits 49 = .ok (.iload_n 1, 1) := by decide +kernel
theorem dX7_fits_50 : decode cX7_fits 50 = .ok (.iload_n 2, 1) := by decide +kernel
theorem dX7_fits_51 : decode cX7_fits 51 = .ok (.iload_n 3, 1) := by decide +kernel
theorem dX7_fits_52 : decode cX7_fits 52 = .ok (.iload 4, 2) := by decide +kernel
theorem dX7_fits_54 : decode cX7_fits 54 = .ok (.iload 5, 2) := by decide +kernel
theorem dX7_fits_56 : decode cX7_fits 56 = .ok (.invokevirtual 232, 3) := by decide +kernel
theorem dX7_fits_59 : decode cX7_fits 59 = .ok (.istore 7, 2) := by decide +kernel
theorem dX7_fits_61 : decode cX7_fits 61 = .ok (.iload 7, 2) := by decide +kernel
theorem dX7_fits_63 : decode cX7_fits 63 = .ok (.ifCond .eq 6, 3) := by decide +kernel
theorem dX7_fits_66 : decode cX7_fits 66 = .ok (.iload 7, 2) := by decide +kernel
theorem dX7_fits_68 : decode cX7_fits 68 = .ok (.ireturn, 1) := by decide +kernel
theorem dX7_fits_69 : decode cX7_fits 69 = .ok (.iload 6, 2) := by decide +kernel
theorem dX7_fits_71 : decode cX7_fits 71 = .ok (.ifCond .ne 29, 3) := by decide +kernel
theorem dX7_fits_74 : decode cX7_fits 74 = .ok (.aload_n 0, 1) := by decide +kernel
theorem dX7_fits_75 : decode cX7_fits 75 = .ok (.iconst 1, 1) := by decide +kernel
theorem dX7_fits_76 : decode cX7_fits 76 = .ok (.iconst 0, 1) := by decide +kernel
theorem dX7_fits_77 : decode cX7_fits 77 = .ok (.bipush 9, 2) := by decide +kernel
theorem dX7_fits_79 : decode cX7_fits 79 = .ok (.bipush 40, 2) := by decide +kernel
theorem dX7_fits_81 : decode cX7_fits 81 = .ok (.iload_n 1, 1) := by decide +kernel
theorem dX7_fits_82 : decode cX7_fits 82 = .ok (.imul, 1) := by decide +kernel
theorem dX7_fits_83 : decode cX7_fits 83 = .ok (.iload_n 2, 1) := by decide +kernel
theorem dX7_fits_84 : decode cX7_fits 84 = .ok (.iadd, 1) := by decide +kernel
theorem dX7_fits_85 : decode cX7_fits 85 = .ok (.bipush 40, 2) := by decide +kernel
theorem dX7_fits_87 : decode cX7_fits 87 = .ok (.iload_n 3, 1) := by decide +kernel
theorem dX7_fits_88 : decode cX7_fits 88 = .ok (.imul, 1) := by decide +kernel
theorem dX7_fits_89 : decode cX7_fits 89 = .ok (.iload 4, 2) := by decide +kernel
theorem dX7_fits_91 : decode cX7_fits 91 = .ok (.iadd, 1) := by decide +kernel
theorem dX7_fits_92 : decode cX7_fits 92 = .ok (.iload 5, 2) := by decide +kernel
theorem dX7_fits_94 : decode cX7_fits 94 = .ok (.invokevirtual 236, 3) := by decide +kernel
theorem dX7_fits_97 : decode cX7_fits 97 = .ok (.goto 26, 3) := by decide +kernel
theorem dX7_fits_100 : decode cX7_fits 100 = .ok (.aload_n 0, 1) := by decide +kernel
theorem dX7_fits_101 : decode cX7_fits 101 = .ok (.iconst 0, 1) := by decide +kernel
theorem dX7_fits_102 : decode cX7_fits 102 = .ok (.iconst 1, 1) := by decide +kernel
theorem dX7_fits_103 : decode cX7_fits 103 = .ok (.bipush 9, 2) := by decide +kernel
theorem dX7_fits_105 : decode cX7_fits 105 = .ok (.bipush 40, 2) := by decide +kernel
theorem dX7_fits_107 : decode cX7_fits 107 = .ok (.iload_n 1, 1) := by decide +kernel
theorem dX7_fits_108 : decode cX7_fits 108 = .ok (.imul, 1) := by decide +kernel
theorem dX7_fits_109 : decode cX7_fits 109 = .ok (.iload_n 2, 1) := by decide +kernel
theorem dX7_fits_110 : decode cX7_fits 110 = .ok (.iadd, 1) := by decide +kernel
theorem dX7_fits_111 : decode cX7_fits 111 = .ok (.bipush 40, 2) := by decide +kernel
theorem dX7_fits_113 : decode cX7_fits 113 = .ok (.iload_n 3, 1) := by decide +kernel
theorem dX7_fits_114 : decode cX7_fits 114 = .ok (.imul, 1) := by decide +kernel
theorem dX7_fits_115 : decode cX7_fits 115 = .ok (.iload 4, 2) := by decide +kernel
theorem dX7_fits_117 : decode cX7_fits 117 = .ok (.iadd, 1) := by decide +kernel
theorem dX7_fits_118 : decode cX7_fits 118 = .ok (.iload 5, 2) := by decide +kernel
theorem dX7_fits_120 : decode cX7_fits 120 = .ok (.invokevirtual 236, 3) := by decide +kernel
theorem dX7_fits_123 : decode cX7_fits 123 = .ok (.ireturn, 1) := by decide +kernel
theorem dX7_fitsOf_0 : decode cX7_fitsOf 0 = .ok (.aload_n 0, 1) := by decide +kernel
theorem dX7_fitsOf_1 : decode cX7_fitsOf 1 = .ok (.iload_n 1, 1) := by decide +kernel
theorem dX7_fitsOf_2 : decode cX7_fitsOf 2 = .ok (.invokevirtual 188, 3) := by decide +kernel
theorem dX7_fitsOf_5 : decode cX7_fitsOf 5 = .ok (.ifCond .eq 39, 3) := by decide +kernel
theorem dX7_fitsOf_8 : decode cX7_fitsOf 8 = .ok (.iload_n 2, 1) := by decide +kernel
theorem dX7_fitsOf_9 : decode cX7_fitsOf 9 = .ok (.invokestatic 75, 3) := by decide +kernel
theorem dX7_fitsOf_12 : decode cX7_fitsOf 12 = .ok (.ifCond .eq 32, 3) := by decide +kernel
theorem dX7_fitsOf_15 : decode cX7_fitsOf 15 = .ok (.iload 4, 2) := by decide +kernel
theorem dX7_fitsOf_17 : decode cX7_fitsOf 17 = .ok (.invokestatic 75, 3) := by decide +kernel
theorem dX7_fitsOf_20 : decode cX7_fitsOf 20 = .ok (.ifCond .eq 24, 3) := by decide +kernel
theorem dX7_fitsOf_23 : decode cX7_fitsOf 23 = .ok (.iload 6, 2) := by decide +kernel
theorem dX7_fitsOf_25 : decode cX7_fitsOf 25 = .ok (.iconst 1, 1) := by decide +kernel
theorem dX7_fitsOf_26 : decode cX7_fitsOf 26 = .ok (.bipush 8, 2) := by decide +kernel
theorem dX7_fitsOf_28 : decode cX7_fitsOf 28 = .ok (.invokestatic 71, 3) := by decide +kernel
theorem dX7_fitsOf_31 : decode cX7_fitsOf 31 = .ok (.ifCond .eq 13, 3) := by decide +kernel
theorem dX7_fitsOf_34 : decode cX7_fitsOf 34 = .ok (.iload 7, 2) := by decide +kernel
theorem dX7_fitsOf_36 : decode cX7_fitsOf 36 = .ok (.iconst 0, 1) := by decide +kernel
theorem dX7_fitsOf_37 : decode cX7_fitsOf 37 = .ok (.iconst 1, 1) := by decide +kernel
theorem dX7_fitsOf_38 : decode cX7_fitsOf 38 = .ok (.invokestatic 71, 3) := by decide +kernel
theorem dX7_fitsOf_41 : decode cX7_fitsOf 41 = .ok (.ifCond .ne 6, 3) := by decide +kernel
theorem dX7_fitsOf_44 : decode cX7_fitsOf 44 = .ok (.ldc 79, 2) := by decide +kernel
theorem dX7_fitsOf_46 : decode cX7_fitsOf 46 = .ok (.ireturn, 1) := by decide +kernel
theorem dX7_fitsOf_47 : decode cX7_fitsOf 47 = .ok (.aload_n 0, 1) := by decide +kernel
theorem dX7_fitsOf_48 : decode cX7_fitsOf 48 = .ok (.iload_n 2, 1) := by decide +kernel
theorem dX7_fitsOf_49 : decode cX7_fitsOf 49 = .ok (.iload_n 3, 1) := by decide +kernel
theorem dX7_fitsOf_50 : decode cX7_fitsOf 50 = .ok (.iload 4, 2) := by decide +kernel
theorem dX7_fitsOf_52 : decode cX7_fitsOf 52 = .ok (.iload 5, 2) := by decide +kernel
theorem dX7_fitsOf_54 : decode cX7_fitsOf 54 = .ok (.iload 6, 2) := by decide +kernel
theorem dX7_fitsOf_56 : decode cX7_fitsOf 56 = .ok (.invokevirtual 232, 3) := by decide +kernel
theorem dX7_fitsOf_59 : decode cX7_fitsOf 59 = .ok (.istore 8, 2) := by decide +kernel
theorem dX7_fitsOf_61 : decode cX7_fitsOf 61 = .ok (.iload 8, 2) := by decide +kernel
theorem dX7_fitsOf_63 : decode cX7_fitsOf 63 = .ok (.ifCond .eq 6, 3) := by decide +kernel
theorem dX7_fitsOf_66 : decode cX7_fitsOf 66 = .ok (.iload 8, 2) := by decide +kernel
theorem dX7_fitsOf_68 : decode cX7_fitsOf 68 = .ok (.ireturn, 1) := by decide +kernel
theorem dX7_fitsOf_69 : decode cX7_fitsOf 69 = .ok (.bipush 7, 2) := by decide +kernel
theorem dX7_fitsOf_71 : decode cX7_fitsOf 71 = .ok (.iconst 3, 1) := by decide +kernel
theorem dX7_fitsOf_72 : decode cX7_fitsOf 72 = .ok (.iload_n 1, 1) := by decide +kernel
theorem dX7_fitsOf_73 : decode cX7_fitsOf 73 = .ok (.imul, 1) := by decide +kernel
theorem dX7_fitsOf_74 : decode cX7_fitsOf 74 = .ok (.iadd, 1) := by decide +kernel
theorem dX7_fitsOf_75 : decode cX7_fitsOf 75 = .ok (.istore 9, 2) := by decide +kernel
theorem dX7_fitsOf_77 : decode cX7_fitsOf 77 = .ok (.iload 7, 2) := by decide +kernel
theorem dX7_fitsOf_79 : decode cX7_fitsOf 79 = .ok (.ifCond .ne 30, 3) := by decide +kernel
theorem dX7_fitsOf_82 : decode cX7_fitsOf 82 = .ok (.aload_n 0, 1) := by decide +kernel
theorem dX7_fitsOf_83 : decode cX7_fitsOf 83 = .ok (.iload 9, 2) := by decide +kernel
theorem dX7_fitsOf_85 : decode cX7_fitsOf 85 = .ok (.iconst 1, 1) := by decide +kernel
theorem dX7_fitsOf_86 : decode cX7_fitsOf 86 = .ok (.iconst 5, 1) := by decide +kernel
theorem dX7_fitsOf_87 : decode cX7_fitsOf 87 = .ok (.bipush 40, 2) := by decide +kernel
theorem dX7_fitsOf_89 : decode cX7_fitsOf 89 = .ok (.iload_n 2, 1) := by decide +kernel
theorem dX7_fitsOf_90 : decode cX7_fitsOf 90 = .ok (.imul, 1) := by decide +kernel
theorem dX7_fitsOf_91 : decode cX7_fitsOf 91 = .ok (.iload_n 3, 1) := by decide +kernel
theorem dX7_fitsOf_92 : decode cX7_fitsOf 92 = .ok (.iadd, 1) := by decide +kernel
theorem dX7_fitsOf_93 : decode cX7_fitsOf 93 = .ok (.bipush 40, 2) := by decide +kernel
theorem dX7_fitsOf_95 : decode cX7_fitsOf 95 = .ok (.iload 4, 2) := by decide +kernel
theorem dX7_fitsOf_97 : decode cX7_fitsOf 97 = .ok (.imul, 1) := by decide +kernel
theorem dX7_fitsOf_98 : decode cX7_fitsOf 98 = .ok (.iload 5, 2) := by decide +kernel
theorem dX7_fitsOf_100 : decode cX7_fitsOf 100 = .ok (.iadd, 1) := by decide +kernel
theorem dX7_fitsOf_101 : decode cX7_fitsOf 101 = .ok (.iload 6, 2) := by decide +kernel
theorem dX7_fitsOf_103 : decode cX7_fitsOf 103 = .ok (.invokevirtual 236, 3) := by decide +kernel
theorem dX7_fitsOf_106 : decode cX7_fitsOf 106 = .ok (.goto 30, 3) := by decide +kernel
theorem dX7_fitsOf_109 : decode cX7_fitsOf 109 = .ok (.aload_n 0, 1) := by decide +kernel
theorem dX7_fitsOf_110 : decode cX7_fitsOf 110 = .ok (.iload 9, 2) := by decide +kernel
theorem dX7_fitsOf_112 : decode cX7_fitsOf 112 = .ok (.iconst 1, 1) := by decide +kernel
theorem dX7_fitsOf_113 : decode cX7_fitsOf 113 = .ok (.iadd, 1) := by decide +kernel
theorem dX7_fitsOf_114 : decode cX7_fitsOf 114 = .ok (.iconst 0, 1) := by decide +kernel
theorem dX7_fitsOf_115 : decode cX7_fitsOf 115 = .ok (.bipush 9, 2) := by decide +kernel
theorem dX7_fitsOf_117 : decode cX7_fitsOf 117 = .ok (.bipush 40, 2) := by decide +kernel
theorem dX7_fitsOf_119 : decode cX7_fitsOf 119 = .ok (.iload_n 2, 1) := by decide +kernel
theorem dX7_fitsOf_120 : decode cX7_fitsOf 120 = .ok (.imul, 1) := by decide +kernel
theorem dX7_fitsOf_121 : decode cX7_fitsOf 121 = .ok (.iload_n 3, 1) := by decide +kernel
theorem dX7_fitsOf_122 : decode cX7_fitsOf 122 = .ok (.iadd, 1) := by decide +kernel
theorem dX7_fitsOf_123 : decode cX7_fitsOf 123 = .ok (.bipush 40, 2) := by decide +kernel
theorem dX7_fitsOf_125 : decode cX7_fitsOf 125 = .ok (.iload 4, 2) := by decide +kernel
theorem dX7_fitsOf_127 : decode cX7_fitsOf 127 = .ok (.imul, 1) := by decide +kernel
theorem dX7_fitsOf_128 : decode cX7_fitsOf 128 = .ok (.iload 5, 2) := by decide +kernel
theorem dX7_fitsOf_130 : decode cX7_fitsOf 130 = .ok (.iadd, 1) := by decide +kernel
theorem dX7_fitsOf_131 : decode cX7_fitsOf 131 = .ok (.iload 6, 2) := by decide +kernel
theorem dX7_fitsOf_133 : decode cX7_fitsOf 133 = .ok (.invokevirtual 236, 3) := by decide +kernel
theorem dX7_fitsOf_136 : decode cX7_fitsOf 136 = .ok (.ireturn, 1) := by decide +kernel
theorem dX7_share_0 : decode cX7_share 0 = .ok (.aload_n 0, 1) := by decide +kernel
theorem dX7_share_1 : decode cX7_share 1 = .ok (.invokevirtual 191, 3) := by decide +kernel
theorem dX7_share_4 : decode cX7_share 4 = .ok (.ifCond .ne 6, 3) := by decide +kernel
theorem dX7_share_7 : decode cX7_share 7 = .ok (.ldc 180, 2) := by decide +kernel
theorem dX7_share_9 : decode cX7_share 9 = .ok (.ireturn, 1) := by decide +kernel
theorem dX7_share_10 : decode cX7_share 10 = .ok (.iload_n 1, 1) := by decide +kernel
theorem dX7_share_11 : decode cX7_share 11 = .ok (.invokestatic 75, 3) := by decide +kernel
theorem dX7_share_14 : decode cX7_share 14 = .ok (.ifCond .eq 25, 3) := by decide +kernel
theorem dX7_share_17 : decode cX7_share 17 = .ok (.iload_n 3, 1) := by decide +kernel
theorem dX7_share_18 : decode cX7_share 18 = .ok (.iconst 1, 1) := by decide +kernel
theorem dX7_share_19 : decode cX7_share 19 = .ok (.bipush 8, 2) := by decide +kernel
theorem dX7_share_21 : decode cX7_share 21 = .ok (.invokestatic 71, 3) := by decide +kernel
theorem dX7_share_24 : decode cX7_share 24 = .ok (.ifCond .eq 15, 3) := by decide +kernel
theorem dX7_share_27 : decode cX7_share 27 = .ok (.iload 4, 2) := by decide +kernel
theorem dX7_share_29 : decode cX7_share 29 = .ok (.iconst 0, 1) := by decide +kernel
theorem dX7_share_30 : decode cX7_share 30 = .ok (.iload_n 3, 1) := by decide +kernel
theorem dX7_share_31 : decode cX7_share 31 = .ok (.iconst 1, 1) := by decide +kernel
theorem dX7_share_32 : decode cX7_share 32 = .ok (.isub, 1) := by decide +kernel
theorem dX7_share_33 : decode cX7_share 33 = .ok (.invokestatic 71, 3) := by decide +kernel
theorem dX7_share_36 : decode cX7_share 36 = .ok (.ifCond .ne 6, 3) := by decide +kernel
theorem dX7_share_39 : decode cX7_share 39 = .ok (.ldc 79, 2) := by decide +kernel
theorem dX7_share_41 : decode cX7_share 41 = .ok (.ireturn, 1) := by decide +kernel
theorem dX7_share_42 : decode cX7_share 42 = .ok (.aload_n 0, 1) := by decide +kernel
theorem dX7_share_43 : decode cX7_share 43 = .ok (.iload_n 1, 1) := by decide +kernel
theorem dX7_share_44 : decode cX7_share 44 = .ok (.invokevirtual 87, 3) := by decide +kernel
theorem dX7_share_47 : decode cX7_share 47 = .ok (.ifCond .eq 9, 3) := by decide +kernel
theorem dX7_share_50 : decode cX7_share 50 = .ok (.aload_n 0, 1) := by decide +kernel
theorem dX7_share_51 : decode cX7_share 51 = .ok (.iconst 1, 1) := by decide +kernel
theorem dX7_share_52 : decode cX7_share 52 = .ok (.invokevirtual 80, 3) := by decide +kernel
theorem dX7_share_55 : decode cX7_share 55 = .ok (.ireturn, 1) := by decide +kernel
theorem dX7_share_56 : decode cX7_share 56 = .ok (.aload_n 0, 1) := by decide +kernel
theorem dX7_share_57 : decode cX7_share 57 = .ok (.iload_n 1, 1) := by decide +kernel
theorem dX7_share_58 : decode cX7_share 58 = .ok (.iload_n 2, 1) := by decide +kernel
theorem dX7_share_59 : decode cX7_share 59 = .ok (.iload_n 3, 1) := by decide +kernel
theorem dX7_share_60 : decode cX7_share 60 = .ok (.invokevirtual 94, 3) := by decide +kernel
theorem dX7_share_63 : decode cX7_share 63 = .ok (.ifCond .ne 9, 3) := by decide +kernel
theorem dX7_share_66 : decode cX7_share 66 = .ok (.aload_n 0, 1) := by decide +kernel
theorem dX7_share_67 : decode cX7_share 67 = .ok (.iconst 2, 1) := by decide +kernel
theorem dX7_share_68 : decode cX7_share 68 = .ok (.invokevirtual 80, 3) := by decide +kernel
theorem dX7_share_71 : decode cX7_share 71 = .ok (.ireturn, 1) := by decide +kernel
theorem dX7_share_72 : decode cX7_share 72 = .ok (.aload_n 0, 1) := by decide +kernel
theorem dX7_share_73 : decode cX7_share 73 = .ok (.getfield 25, 3) := by decide +kernel
theorem dX7_share_76 : decode cX7_share 76 = .ok (.iconst 0, 1) := by decide +kernel
theorem dX7_share_77 : decode cX7_share 77 = .ok (.aload_n 0, 1) := by decide +kernel
theorem dX7_share_78 : decode cX7_share 78 = .ok (.getfield 31, 3) := by decide +kernel
theorem dX7_share_81 : decode cX7_share 81 = .ok (.iconst 0, 1) := by decide +kernel
theorem dX7_share_82 : decode cX7_share 82 = .ok (.invokestatic 156, 3) := by decide +kernel
theorem dX7_share_85 : decode cX7_share 85 = .ok (.iconst 0, 1) := by decide +kernel
theorem dX7_share_86 : decode cX7_share 86 = .ok (.istore 5, 2) := by decide +kernel
theorem dX7_share_88 : decode cX7_share 88 = .ok (.iconst 0, 1) := by decide +kernel
theorem dX7_share_89 : decode cX7_share 89 = .ok (.istore 6, 2) := by decide +kernel
theorem dX7_share_91 : decode cX7_share 91 = .ok (.iload 6, 2) := by decide +kernel
theorem dX7_share_93 : decode cX7_share 93 = .ok (.iload_n 3, 1) := by decide +kernel
theorem dX7_share_94 : decode cX7_share 94 = .ok (.if_icmp .ge 110, 3) := by decide +kernel
theorem dX7_share_97 : decode cX7_share 97 = .ok (.aload_n 0, 1) := by decide +kernel
theorem dX7_share_98 : decode cX7_share 98 = .ok (.getfield 16, 3) := by decide +kernel
theorem dX7_share_101 : decode cX7_share 101 = .ok (.bipush 40, 2) := by decide +kernel
theorem dX7_share_103 : decode cX7_share 103 = .ok (.iload_n 1, 1) := by decide +kernel
theorem dX7_share_104 : decode cX7_share 104 = .ok (.imul, 1) := by decide +kernel
theorem dX7_share_105 : decode cX7_share 105 = .ok (.iload_n 2, 1) := by decide +kernel
theorem dX7_share_106 : decode cX7_share 106 = .ok (.iadd, 1) := by decide +kernel
theorem dX7_share_107 : decode cX7_share 107 = .ok (.iload 6, 2) := by decide +kernel
theorem dX7_share_109 : decode cX7_share 109 = .ok (.iadd, 1) := by decide +kernel
theorem dX7_share_110 : decode cX7_share 110 = .ok (.iaload, 1) := by decide +kernel
theorem dX7_share_111 : decode cX7_share 111 = .ok (.istore 7, 2) := by decide +kernel
theorem dX7_share_113 : decode cX7_share 113 = .ok (.aload_n 0, 1) := by decide +kernel
theorem dX7_share_114 : decode cX7_share 114 = .ok (.getfield 31, 3) := by decide +kernel
theorem dX7_share_117 : decode cX7_share 117 = .ok (.iload 7, 2) := by decide +kernel
theorem dX7_share_119 : decode cX7_share 119 = .ok (.aload_n 0, 1) := by decide +kernel
theorem dX7_share_120 : decode cX7_share 120 = .ok (.getfield 31, 3) := by decide +kernel
theorem dX7_share_123 : decode cX7_share 123 = .ok (.iconst 4, 1) := by decide +kernel
theorem dX7_share_124 : decode cX7_share 124 = .ok (.iaload, 1) := by decide +kernel
theorem dX7_share_125 : decode cX7_share 125 = .ok (.invokestatic 176, 3) := by decide +kernel
theorem dX7_share_128 : decode cX7_share 128 = .ok (.ifCond .ne 10, 3) := by decide +kernel
theorem dX7_share_131 : decode cX7_share 131 = .ok (.aload_n 0, 1) := by decide +kernel
theorem dX7_share_132 : decode cX7_share 132 = .ok (.ldc 65, 2) := by decide +kernel
theorem dX7_share_134 : decode cX7_share 134 = .ok (.invokevirtual 84, 3) := by decide +kernel
theorem dX7_share_137 : decode cX7_share 137 = .ok (.ireturn, 1) := by decide +kernel
theorem dX7_share_138 : decode cX7_share 138 = .ok (.iload 5, 2) := by decide +kernel
theorem dX7_share_140 : decode cX7_share 140 = .ok (.iload 6, 2) := by decide +kernel
theorem dX7_share_142 : decode cX7_share 142 = .ok (.iload 4, 2) := by decide +kernel
theorem dX7_share_144 : decode cX7_share 144 = .ok (.if_icmp .ge 7, 3) := by decide +kernel
theorem dX7_share_147 : decode cX7_share 147 = .ok (.iconst 0, 1) := by decide +kernel
theorem dX7_share_148 : decode cX7_share 148 = .ok (.goto 38, 3) := by decide +kernel
theorem dX7_share_151 : decode cX7_share 151 = .ok (.aload_n 0, 1) := by decide +kernel
theorem dX7_share_152 : decode cX7_share 152 = .ok (.getfield 31, 3) := by decide +kernel
theorem dX7_share_155 : decode cX7_share 155 = .ok (.aload_n 0, 1) := by decide +kernel
theorem dX7_share_156 : decode cX7_share 156 = .ok (.getfield 31, 3) := by decide +kernel
theorem dX7_share_159 : decode cX7_share 159 = .ok (.bipush 26, 2) := by decide +kernel
theorem dX7_share_161 : decode cX7_share 161 = .ok (.iconst 2, 1) := by decide +kernel
theorem dX7_share_162 : decode cX7_share 162 = .ok (.iload 7, 2) := by decide +kernel
theorem dX7_share_164 : decode cX7_share 164 = .ok (.imul, 1) := by decide +kernel
theorem dX7_share_165 : decode cX7_share 165 = .ok (.iadd, 1) := by decide +kernel
theorem dX7_share_166 : decode cX7_share 166 = .ok (.iconst 1, 1) := by decide +kernel
theorem dX7_share_167 : decode cX7_share 167 = .ok (.iadd, 1) := by decide +kernel
theorem dX7_share_168 : decode cX7_share 168 = .ok (.iaload, 1) := by decide +kernel
theorem dX7_share_169 : decode cX7_share 169 = .ok (.aload_n 0, 1) := by decide +kernel
theorem dX7_share_170 : decode cX7_share 170 = .ok (.getfield 31, 3) := by decide +kernel
theorem dX7_share_173 : decode cX7_share 173 = .ok (.iconst 1, 1) := by decide +kernel
theorem dX7_share_174 : decode cX7_share 174 = .ok (.iaload, 1) := by decide +kernel
theorem dX7_share_175 : decode cX7_share 175 = .ok (.aload_n 0, 1) := by decide +kernel
theorem dX7_share_176 : decode cX7_share 176 = .ok (.getfield 31, 3) := by decide +kernel
theorem dX7_share_179 : decode cX7_share 179 = .ok (.iconst 3, 1) := by decide +kernel
theorem dX7_share_180 : decode cX7_share 180 = .ok (.iaload, 1) := by decide +kernel
theorem dX7_share_181 : decode cX7_share 181 = .ok (.invokestatic 170, 3) := by decide +kernel
theorem dX7_share_184 : decode cX7_share 184 = .ok (.iconst 2, 1) := by decide +kernel
theorem dX7_share_185 : decode cX7_share 185 = .ok (.idiv, 1) := by decide +kernel
theorem dX7_share_186 : decode cX7_share 186 = .ok (.iadd, 1) := by decide +kernel
theorem dX7_share_187 : decode cX7_share 187 = .ok (.istore 5, 2) := by decide +kernel
theorem dX7_share_189 : decode cX7_share 189 = .ok (.aload_n 0, 1) := by decide +kernel
theorem dX7_share_190 : decode cX7_share 190 = .ok (.getfield 31, 3) := by decide +kernel
theorem dX7_share_193 : decode cX7_share 193 = .ok (.iload 7, 2) := by decide +kernel
theorem dX7_share_195 : decode cX7_share 195 = .ok (.invokestatic 184, 3) := by decide +kernel
theorem dX7_share_198 : decode cX7_share 198 = .ok (.iinc 6 1, 3) := by decide +kernel
theorem dX7_share_201 : decode cX7_share 201 = .ok (.goto (-110), 3) := by decide +kernel
theorem dX7_share_204 : decode cX7_share 204 = .ok (.aload_n 0, 1) := by decide +kernel
theorem dX7_share_205 : decode cX7_share 205 = .ok (.iload 5, 2) := by decide +kernel
theorem dX7_share_207 : decode cX7_share 207 = .ok (.invokevirtual 84, 3) := by decide +kernel
theorem dX7_share_210 : decode cX7_share 210 = .ok (.ireturn, 1) := by decide +kernel
theorem dX7_shut_0 : decode cX7_shut 0 = .ok (.aload_n 0, 1) := by decide +kernel
theorem dX7_shut_1 : decode cX7_shut 1 = .ok (.iload_n 1, 1) := by decide +kernel
theorem dX7_shut_2 : decode cX7_shut 2 = .ok (.invokevirtual 188, 3) := by decide +kernel
theorem dX7_shut_5 : decode cX7_shut 5 = .ok (.ifCond .eq 34, 3) := by decide +kernel
theorem dX7_shut_8 : decode cX7_shut 8 = .ok (.iload_n 2, 1) := by decide +kernel
theorem dX7_shut_9 : decode cX7_shut 9 = .ok (.iconst 0, 1) := by decide +kernel
theorem dX7_shut_10 : decode cX7_shut 10 = .ok (.sipush 999, 3) := by decide +kernel
theorem dX7_shut_13 : decode cX7_shut 13 = .ok (.invokestatic 71, 3) := by decide +kernel
theorem dX7_shut_16 : decode cX7_shut 16 = .ok (.ifCond .eq 23, 3) := by decide +kernel
theorem dX7_shut_19 : decode cX7_shut 19 = .ok (.iload_n 3, 1) := by decide +kernel
theorem dX7_shut_20 : decode cX7_shut 20 = .ok (.iconst 0, 1) := by decide +kernel
theorem dX7_shut_21 : decode cX7_shut 21 = .ok (.bipush 10, 2) := by decide +kernel
theorem dX7_shut_23 : decode cX7_shut 23 = .ok (.invokestatic 71, 3) := by decide +kernel
theorem dX7_shut_26 : decode cX7_shut 26 = .ok (.ifCond .eq 13, 3) := by decide +kernel
theorem dX7_shut_29 : decode cX7_shut 29 = .ok (.iload 4, 2) := by decide +kernel
theorem dX7_shut_31 : decode cX7_shut 31 = .ok (.iconst 0, 1) := by decide +kernel
theorem dX7_shut_32 : decode cX7_shut 32 = .ok (.iconst 1, 1) := by decide +kernel
theorem dX7_shut_33 : decode cX7_shut 33 = .ok (.invokestatic 71, 3) := by decide +kernel
theorem dX7_shut_36 : decode cX7_shut 36 = .ok (.ifCond .ne 6, 3) := by decide +kernel
theorem dX7_shut_39 : decode cX7_shut 39 = .ok (.ldc 79, 2) := by decide +kernel
theorem dX7_shut_41 : decode cX7_shut 41 = .ok (.ireturn, 1) := by decide +kernel
theorem dX7_shut_42 : decode cX7_shut 42 = .ok (.iconst 0, 1) := by decide +kernel
theorem dX7_shut_43 : decode cX7_shut 43 = .ok (.istore 5, 2) := by decide +kernel
theorem dX7_shut_45 : decode cX7_shut 45 = .ok (.iconst 1, 1) := by decide +kernel
theorem dX7_shut_46 : decode cX7_shut 46 = .ok (.istore 6, 2) := by decide +kernel
theorem dX7_shut_48 : decode cX7_shut 48 = .ok (.iconst 0, 1) := by decide +kernel
theorem dX7_shut_49 : decode cX7_shut 49 = .ok (.istore 7, 2) := by decide +kernel
theorem dX7_shut_51 : decode cX7_shut 51 = .ok (.iload 7, 2) := by decide +kernel
theorem dX7_shut_53 : decode cX7_shut 53 = .ok (.aload_n 0, 1) := by decide +kernel
theorem dX7_shut_54 : decode cX7_shut 54 = .ok (.getfield 25, 3) := by decide +kernel
theorem dX7_shut_57 : decode cX7_shut 57 = .ok (.bipush 25, 2) := by decide +kernel
theorem dX7_shut_59 : decode cX7_shut 59 = .ok (.iaload, 1) := by decide +kernel
theorem dX7_shut_60 : decode cX7_shut 60 = .ok (.if_icmp .ge 34, 3) := by decide +kernel
theorem dX7_shut_63 : decode cX7_shut 63 = .ok (.iload 6, 2) := by decide +kernel
theorem dX7_shut_65 : decode cX7_shut 65 = .ok (.aload_n 0, 1) := by decide +kernel
theorem dX7_shut_66 : decode cX7_shut 66 = .ok (.getfield 25, 3) := by decide +kernel
theorem dX7_shut_69 : decode cX7_shut 69 = .ok (.iconst 5, 1) := by decide +kernel
theorem dX7_shut_70 : decode cX7_shut 70 = .ok (.iaload, 1) := by decide +kernel
theorem dX7_shut_71 : decode cX7_shut 71 = .ok (.iload 7, 2) := by decide +kernel
theorem dX7_shut_73 : decode cX7_shut 73 = .ok (.invokestatic 167, 3) := by decide +kernel
theorem dX7_shut_76 : decode cX7_shut 76 = .ok (.ifCond .eq 8, 3) := by decide +kernel
theorem dX7_shut_79 : decode cX7_shut 79 = .ok (.bipush 10, 2) := by decide +kernel
theorem dX7_shut_81 : decode cX7_shut 81 = .ok (.goto 4, 3) := by decide +kernel
theorem dX7_shut_84 : decode cX7_shut 84 = .ok (.iconst 1, 1) := by decide +kernel
theorem dX7_shut_85 : decode cX7_shut 85 = .ok (.imul, 1) := by decide +kernel
theorem dX7_shut_86 : decode cX7_shut 86 = .ok (.istore 6, 2) := by decide +kernel
theorem dX7_shut_88 : decode cX7_shut 88 = .ok (.iinc 7 1, 3) := by decide +kernel
theorem dX7_shut_91 : decode cX7_shut 91 = .ok (.goto (-40), 3) := by decide +kernel
theorem dX7_shut_94 : decode cX7_shut 94 = .ok (.iconst 0, 1) := by decide +kernel
theorem dX7_shut_95 : decode cX7_shut 95 = .ok (.istore 7, 2) := by decide +kernel
theorem dX7_shut_97 : decode cX7_shut 97 = .ok (.iload 7, 2) := by decide +kernel
theorem dX7_shut_99 : decode cX7_shut 99 = .ok (.aload_n 0, 1) := by decide +kernel
theorem dX7_shut_100 : decode cX7_shut 100 = .ok (.getfield 25, 3) := by decide +kernel
theorem dX7_shut_103 : decode cX7_shut 103 = .ok (.iconst 5, 1) := by decide +kernel
theorem dX7_shut_104 : decode cX7_shut 104 = .ok (.iaload, 1) := by decide +kernel
theorem dX7_shut_105 : decode cX7_shut 105 = .ok (.if_icmp .gt 132, 3) := by decide +kernel
theorem dX7_shut_108 : decode cX7_shut 108 = .ok (.iload 7, 2) := by decide +kernel
theorem dX7_shut_110 : decode cX7_shut 110 = .ok (.aload_n 0, 1) := by decide +kernel
theorem dX7_shut_111 : decode cX7_shut 111 = .ok (.getfield 25, 3) := by decide +kernel
theorem dX7_shut_114 : decode cX7_shut 114 = .ok (.iconst 5, 1) := by decide +kernel
theorem dX7_shut_115 : decode cX7_shut 115 = .ok (.iaload, 1) := by decide +kernel
theorem dX7_shut_116 : decode cX7_shut 116 = .ok (.iconst (-1), 1) := by decide +kernel
theorem dX7_shut_117 : decode cX7_shut 117 = .ok (.ixor, 1) := by decide +kernel
theorem dX7_shut_118 : decode cX7_shut 118 = .ok (.iand, 1) := by decide +kernel
theorem dX7_shut_119 : decode cX7_shut 119 = .ok (.ifCond .ne 7, 3) := by decide +kernel
theorem dX7_shut_122 : decode cX7_shut 122 = .ok (.iconst 1, 1) := by decide +kernel
theorem dX7_shut_123 : decode cX7_shut 123 = .ok (.goto 4, 3) := by decide +kernel
theorem dX7_shut_126 : decode cX7_shut 126 = .ok (.iconst 0, 1) := by decide +kernel
theorem dX7_shut_127 : decode cX7_shut 127 = .ok (.istore 8, 2) := by decide +kernel
theorem dX7_shut_129 : decode cX7_shut 129 = .ok (.iconst 0, 1) := by decide +kernel
theorem dX7_shut_130 : decode cX7_shut 130 = .ok (.istore 9, 2) := by decide +kernel
theorem dX7_shut_132 : decode cX7_shut 132 = .ok (.iload 9, 2) := by decide +kernel
theorem dX7_shut_134 : decode cX7_shut 134 = .ok (.aload_n 0, 1) := by decide +kernel
theorem dX7_shut_135 : decode cX7_shut 135 = .ok (.getfield 25, 3) := by decide +kernel
theorem dX7_shut_138 : decode cX7_shut 138 = .ok (.bipush 25, 2) := by decide +kernel
theorem dX7_shut_140 : decode cX7_shut 140 = .ok (.iaload, 1) := by decide +kernel
theorem dX7_shut_141 : decode cX7_shut 141 = .ok (.if_icmp .ge 50, 3) := by decide +kernel
theorem dX7_shut_144 : decode cX7_shut 144 = .ok (.iload 8, 2) := by decide +kernel
theorem dX7_shut_146 : decode cX7_shut 146 = .ok (.aload_n 0, 1) := by decide +kernel
theorem dX7_shut_147 : decode cX7_shut 147 = .ok (.getfield 25, 3) := by decide +kernel
theorem dX7_shut_150 : decode cX7_shut 150 = .ok (.iconst 5, 1) := by decide +kernel
theorem dX7_shut_151 : decode cX7_shut 151 = .ok (.iaload, 1) := by decide +kernel
theorem dX7_shut_152 : decode cX7_shut 152 = .ok (.iload 9, 2) := by decide +kernel
theorem dX7_shut_154 : decode cX7_shut 154 = .ok (.invokestatic 167, 3) := by decide +kernel
theorem dX7_shut_157 : decode cX7_shut 157 = .ok (.ifCond .ne 7, 3) := by decide +kernel
theorem dX7_shut_160 : decode cX7_shut 160 = .ok (.iconst 1, 1) := by decide +kernel
theorem dX7_shut_161 : decode cX7_shut 161 = .ok (.goto 21, 3) := by decide +kernel
theorem dX7_shut_164 : decode cX7_shut 164 = .ok (.iload 7, 2) := by decide +kernel
theorem dX7_shut_166 : decode cX7_shut 166 = .ok (.iload 9, 2) := by decide +kernel
theorem dX7_shut_168 : decode cX7_shut 168 = .ok (.invokestatic 167, 3) := by decide +kernel
theorem dX7_shut_171 : decode cX7_shut 171 = .ok (.ifCond .eq 10, 3) := by decide +kernel
theorem dX7_shut_174 : decode cX7_shut 174 = .ok (.bipush 10, 2) := by decide +kernel
theorem dX7_shut_176 : decode cX7_shut 176 = .ok (.iload_n 3, 1) := by decide +kernel
theorem dX7_shut_177 : decode cX7_shut 177 = .ok (.isub, 1) := by decide +kernel
theorem dX7_shut_178 : decode cX7_shut 178 = .ok (.goto 4, 3) := by decide +kernel
theorem dX7_shut_181 : decode cX7_shut 181 = .ok (.iload_n 3, 1) := by decide +kernel
theorem dX7_shut_182 : decode cX7_shut 182 = .ok (.imul, 1) := by decide +kernel
theorem dX7_shut_183 : decode cX7_shut 183 = .ok (.istore 8, 2) := by decide +kernel
theorem dX7_shut_185 : decode cX7_shut 185 = .ok (.iinc 9 1, 3) := by decide +kernel
theorem dX7_shut_188 : decode cX7_shut 188 = .ok (.goto (-56), 3) := by decide +kernel
theorem dX7_shut_191 : decode cX7_shut 191 = .ok (.iload 8, 2) := by decide +kernel
theorem dX7_shut_193 : decode cX7_shut 193 = .ok (.ifCond .le 38, 3) := by decide +kernel
theorem dX7_shut_196 : decode cX7_shut 196 = .ok (.aload_n 0, 1) := by decide +kernel
theorem dX7_shut_197 : decode cX7_shut 197 = .ok (.iload_n 1, 1) := by decide +kernel
theorem dX7_shut_198 : decode cX7_shut 198 = .ok (.iload 7, 2) := by decide +kernel
theorem dX7_shut_200 : decode cX7_shut 200 = .ok (.invokevirtual 222, 3) := by decide +kernel
theorem dX7_shut_203 : decode cX7_shut 203 = .ok (.iload 5, 2) := by decide +kernel
theorem dX7_shut_205 : decode cX7_shut 205 = .ok (.aload_n 0, 1) := by decide +kernel
theorem dX7_shut_206 : decode cX7_shut 206 = .ok (.getfield 204, 3) := by decide +kernel
theorem dX7_shut_209 : decode cX7_shut 209 = .ok (.ldc 65, 2) := by decide +kernel
theorem dX7_shut_211 : decode cX7_shut 211 = .ok (.if_icmp .eq 16, 3) := by decide +kernel
theorem dX7_shut_214 : decode cX7_shut 214 = .ok (.aload_n 0, 1) := by decide +kernel
theorem dX7_shut_215 : decode cX7_shut 215 = .ok (.getfield 204, 3) := by decide +kernel
theorem dX7_shut_218 : decode cX7_shut 218 = .ok (.iload_n 2, 1) := by decide +kernel
theorem dX7_shut_219 : decode cX7_shut 219 = .ok (.if_icmp .gt 8, 3) := by decide +kernel
theorem dX7_shut_222 : decode cX7_shut 222 = .ok (.iload 8, 2) := by decide +kernel
theorem dX7_shut_224 : decode cX7_shut 224 = .ok (.goto 4, 3) := by decide +kernel
theorem dX7_shut_227 : decode cX7_shut 227 = .ok (.iconst 0, 1) := by decide +kernel
theorem dX7_shut_228 : decode cX7_shut 228 = .ok (.iadd, 1) := by decide +kernel
theorem dX7_shut_229 : decode cX7_shut 229 = .ok (.istore 5, 2) := by decide +kernel
theorem dX7_shut_231 : decode cX7_shut 231 = .ok (.iinc 7 1, 3) := by decide +kernel
theorem dX7_shut_234 : decode cX7_shut 234 = .ok (.goto (-137), 3) := by decide +kernel
theorem dX7_shut_237 : decode cX7_shut 237 = .ok (.iload 5, 2) := by decide +kernel
theorem dX7_shut_239 : decode cX7_shut 239 = .ok (.istore 7, 2) := by decide +kernel
theorem dX7_shut_241 : decode cX7_shut 241 = .ok (.iload 6, 2) := by decide +kernel
theorem dX7_shut_243 : decode cX7_shut 243 = .ok (.istore 8, 2) := by decide +kernel
theorem dX7_shut_245 : decode cX7_shut 245 = .ok (.iload 8, 2) := by decide +kernel
theorem dX7_shut_247 : decode cX7_shut 247 = .ok (.ifCond .eq 21, 3) := by decide +kernel
theorem dX7_shut_250 : decode cX7_shut 250 = .ok (.iload 7, 2) := by decide +kernel
theorem dX7_shut_252 : decode cX7_shut 252 = .ok (.iload 8, 2) := by decide +kernel
theorem dX7_shut_254 : decode cX7_shut 254 = .ok (.irem, 1) := by decide +kernel
theorem dX7_shut_255 : decode cX7_shut 255 = .ok (.istore 9, 2) := by decide +kernel
theorem dX7_shut_257 : decode cX7_shut 257 = .ok (.iload 8, 2) := by decide +kernel
theorem dX7_shut_259 : decode cX7_shut 259 = .ok (.istore 7, 2) := by decide +kernel
theorem dX7_shut_261 : decode cX7_shut 261 = .ok (.iload 9, 2) := by decide +kernel
theorem dX7_shut_263 : decode cX7_shut 263 = .ok (.istore 8, 2) := by decide +kernel
theorem dX7_shut_265 : decode cX7_shut 265 = .ok (.goto (-20), 3) := by decide +kernel
theorem dX7_shut_268 : decode cX7_shut 268 = .ok (.iload 4, 2) := by decide +kernel
theorem dX7_shut_270 : decode cX7_shut 270 = .ok (.ifCond .ne 8, 3) := by decide +kernel
theorem dX7_shut_273 : decode cX7_shut 273 = .ok (.iload 5, 2) := by decide +kernel
theorem dX7_shut_275 : decode cX7_shut 275 = .ok (.goto 5, 3) := by decide +kernel
theorem dX7_shut_278 : decode cX7_shut 278 = .ok (.iload 6, 2) := by decide +kernel
theorem dX7_shut_280 : decode cX7_shut 280 = .ok (.iload 7, 2) := by decide +kernel
theorem dX7_shut_282 : decode cX7_shut 282 = .ok (.idiv, 1) := by decide +kernel
theorem dX7_shut_283 : decode cX7_shut 283 = .ok (.ireturn, 1) := by decide +kernel
theorem dX7_streetAfter_0 : decode cX7_streetAfter 0 = .ok (.iload_n 1, 1) := by decide +kernel
theorem dX7_streetAfter_1 : decode cX7_streetAfter 1 = .ok (.istore_n 2, 1) := by decide +kernel
theorem dX7_streetAfter_2 : decode cX7_streetAfter 2 = .ok (.iconst 0, 1) := by decide +kernel
theorem dX7_streetAfter_3 : decode cX7_streetAfter 3 = .ok (.istore_n 3, 1) := by decide +kernel
theorem dX7_streetAfter_4 : decode cX7_streetAfter 4 = .ok (.iload_n 3, 1) := by decide +kernel
theorem dX7_streetAfter_5 : decode cX7_streetAfter 5 = .ok (.aload_n 0, 1) := by decide +kernel
theorem dX7_streetAfter_6 : decode cX7_streetAfter 6 = .ok (.getfield 31, 3) := by decide +kernel
theorem dX7_streetAfter_9 : decode cX7_streetAfter 9 = .ok (.bipush 25, 2) := by decide +kernel
theorem dX7_streetAfter_11 : decode cX7_streetAfter 11 = .ok (.iaload, 1) := by decide +kernel
theorem dX7_streetAfter_12 : decode cX7_streetAfter 12 = .ok (.if_icmp .ge 35, 3) := by decide +kernel
theorem dX7_streetAfter_15 : decode cX7_streetAfter 15 = .ok (.aload_n 0, 1) := by decide +kernel
theorem dX7_streetAfter_16 : decode cX7_streetAfter 16 = .ok (.getfield 31, 3) := by decide +kernel
theorem dX7_streetAfter_19 : decode cX7_streetAfter 19 = .ok (.iload_n 3, 1) := by decide +kernel
theorem dX7_streetAfter_20 : decode cX7_streetAfter 20 = .ok (.aload_n 0, 1) := by decide +kernel
theorem dX7_streetAfter_21 : decode cX7_streetAfter 21 = .ok (.getfield 31, 3) := by decide +kernel
theorem dX7_streetAfter_24 : decode cX7_streetAfter 24 = .ok (.iconst 4, 1) := by decide +kernel
theorem dX7_streetAfter_25 : decode cX7_streetAfter 25 = .ok (.iaload, 1) := by decide +kernel
theorem dX7_streetAfter_26 : decode cX7_streetAfter 26 = .ok (.invokestatic 176, 3) := by decide +kernel
theorem dX7_streetAfter_29 : decode cX7_streetAfter 29 = .ok (.ifCond .eq 12, 3) := by decide +kernel
theorem dX7_streetAfter_32 : decode cX7_streetAfter 32 = .ok (.iload_n 2, 1) := by decide +kernel
theorem dX7_streetAfter_33 : decode cX7_streetAfter 33 = .ok (.ifCond .ne 5, 3) := by decide +kernel
theorem dX7_streetAfter_36 : decode cX7_streetAfter 36 = .ok (.iload_n 3, 1) := by decide +kernel
theorem dX7_streetAfter_37 : decode cX7_streetAfter 37 = .ok (.ireturn, 1) := by decide +kernel
theorem dX7_streetAfter_38 : decode cX7_streetAfter 38 = .ok (.iinc 2 (-1), 3) := by decide +kernel
theorem dX7_streetAfter_41 : decode cX7_streetAfter 41 = .ok (.iinc 3 1, 3) := by decide +kernel
theorem dX7_streetAfter_44 : decode cX7_streetAfter 44 = .ok (.goto (-40), 3) := by decide +kernel
theorem dX7_streetAfter_47 : decode cX7_streetAfter 47 = .ok (.ldc 65, 2) := by decide +kernel
theorem dX7_streetAfter_49 : decode cX7_streetAfter 49 = .ok (.ireturn, 1) := by decide +kernel
theorem dX7_drawn_0 : decode cX7_drawn 0 = .ok (.aload_n 0, 1) := by decide +kernel
theorem dX7_drawn_1 : decode cX7_drawn 1 = .ok (.invokevirtual 191, 3) := by decide +kernel
theorem dX7_drawn_4 : decode cX7_drawn 4 = .ok (.ifCond .ne 6, 3) := by decide +kernel
theorem dX7_drawn_7 : decode cX7_drawn 7 = .ok (.ldc 180, 2) := by decide +kernel
theorem dX7_drawn_9 : decode cX7_drawn 9 = .ok (.ireturn, 1) := by decide +kernel
theorem dX7_drawn_10 : decode cX7_drawn 10 = .ok (.iload_n 1, 1) := by decide +kernel
theorem dX7_drawn_11 : decode cX7_drawn 11 = .ok (.iconst 0, 1) := by decide +kernel
theorem dX7_drawn_12 : decode cX7_drawn 12 = .ok (.bipush 60, 2) := by decide +kernel
theorem dX7_drawn_14 : decode cX7_drawn 14 = .ok (.invokestatic 71, 3) := by decide +kernel
theorem dX7_drawn_17 : decode cX7_drawn 17 = .ok (.ifCond .eq 22, 3) := by decide +kernel
theorem dX7_drawn_20 : decode cX7_drawn 20 = .ok (.iload_n 2, 1) := by decide +kernel
theorem dX7_drawn_21 : decode cX7_drawn 21 = .ok (.iconst 1, 1) := by decide +kernel
theorem dX7_drawn_22 : decode cX7_drawn 22 = .ok (.ldc 240, 2) := by decide +kernel
theorem dX7_drawn_24 : decode cX7_drawn 24 = .ok (.invokestatic 71, 3) := by decide +kernel
theorem dX7_drawn_27 : decode cX7_drawn 27 = .ok (.ifCond .eq 12, 3) := by decide +kernel
theorem dX7_drawn_30 : decode cX7_drawn 30 = .ok (.iload_n 3, 1) := by decide +kernel
theorem dX7_drawn_31 : decode cX7_drawn 31 = .ok (.iconst 0, 1) := by decide +kernel
theorem dX7_drawn_32 : decode cX7_drawn 32 = .ok (.iconst 1, 1) := by decide +kernel
theorem dX7_drawn_33 : decode cX7_drawn 33 = .ok (.invokestatic 71, 3) := by decide +kernel
theorem dX7_drawn_36 : decode cX7_drawn 36 = .ok (.ifCond .ne 6, 3) := by decide +kernel
theorem dX7_drawn_39 : decode cX7_drawn 39 = .ok (.ldc 79, 2) := by decide +kernel
theorem dX7_drawn_41 : decode cX7_drawn 41 = .ok (.ireturn, 1) := by decide +kernel
theorem dX7_drawn_42 : decode cX7_drawn 42 = .ok (.aload_n 0, 1) := by decide +kernel
theorem dX7_drawn_43 : decode cX7_drawn 43 = .ok (.getfield 25, 3) := by decide +kernel
theorem dX7_drawn_46 : decode cX7_drawn 46 = .ok (.iconst 0, 1) := by decide +kernel
theorem dX7_drawn_47 : decode cX7_drawn 47 = .ok (.aload_n 0, 1) := by decide +kernel
theorem dX7_drawn_48 : decode cX7_drawn 48 = .ok (.getfield 31, 3) := by decide +kernel
theorem dX7_drawn_51 : decode cX7_drawn 51 = .ok (.iconst 0, 1) := by decide +kernel
theorem dX7_drawn_52 : decode cX7_drawn 52 = .ok (.invokestatic 156, 3) := by decide +kernel
theorem dX7_drawn_55 : decode cX7_drawn 55 = .ok (.iload_n 2, 1) := by decide +kernel
theorem dX7_drawn_56 : decode cX7_drawn 56 = .ok (.i2l, 1) := by decide +kernel
theorem dX7_drawn_57 : decode cX7_drawn 57 = .ok (.lstore 4, 2) := by decide +kernel
theorem dX7_drawn_59 : decode cX7_drawn 59 = .ok (.iconst 0, 1) := by decide +kernel
theorem dX7_drawn_60 : decode cX7_drawn 60 = .ok (.istore 6, 2) := by decide +kernel
theorem dX7_drawn_62 : decode cX7_drawn 62 = .ok (.iload 6, 2) := by decide +kernel
theorem dX7_drawn_64 : decode cX7_drawn 64 = .ok (.iload_n 1, 1) := by decide +kernel
theorem dX7_drawn_65 : decode cX7_drawn 65 = .ok (.if_icmp .ge 77, 3) := by decide +kernel
theorem dX7_drawn_68 : decode cX7_drawn 68 = .ok (.lload 4, 2) := by decide +kernel
theorem dX7_drawn_70 : decode cX7_drawn 70 = .ok (.ldc2_w 241, 3) := by decide +kernel
theorem dX7_drawn_73 : decode cX7_drawn 73 = .ok (.lmul, 1) := by decide +kernel
theorem dX7_drawn_74 : decode cX7_drawn 74 = .ok (.ldc2_w 243, 3) := by decide +kernel
theorem dX7_drawn_77 : decode cX7_drawn 77 = .ok (.lrem, 1) := by decide +kernel
theorem dX7_drawn_78 : decode cX7_drawn 78 = .ok (.lstore 4, 2) := by decide +kernel
theorem dX7_drawn_80 : decode cX7_drawn 80 = .ok (.iconst 0, 1) := by decide +kernel
theorem dX7_drawn_81 : decode cX7_drawn 81 = .ok (.istore 7, 2) := by decide +kernel
theorem dX7_drawn_83 : decode cX7_drawn 83 = .ok (.aload_n 0, 1) := by decide +kernel
theorem dX7_drawn_84 : decode cX7_drawn 84 = .ok (.iload 7, 2) := by decide +kernel
theorem dX7_drawn_86 : decode cX7_drawn 86 = .ok (.invokevirtual 245, 3) := by decide +kernel
theorem dX7_drawn_89 : decode cX7_drawn 89 = .ok (.ldc 65, 2) := by decide +kernel
theorem dX7_drawn_91 : decode cX7_drawn 91 = .ok (.if_icmp .eq 9, 3) := by decide +kernel
theorem dX7_drawn_94 : decode cX7_drawn 94 = .ok (.iinc 7 1, 3) := by decide +kernel
theorem dX7_drawn_97 : decode cX7_drawn 97 = .ok (.goto (-14), 3) := by decide +kernel
theorem dX7_drawn_100 : decode cX7_drawn 100 = .ok (.iload 7, 2) := by decide +kernel
theorem dX7_drawn_102 : decode cX7_drawn 102 = .ok (.ifCond .le 24, 3) := by decide +kernel
theorem dX7_drawn_105 : decode cX7_drawn 105 = .ok (.aload_n 0, 1) := by decide +kernel
theorem dX7_drawn_106 : decode cX7_drawn 106 = .ok (.getfield 31, 3) := by decide +kernel
theorem dX7_drawn_109 : decode cX7_drawn 109 = .ok (.aload_n 0, 1) := by decide +kernel
theorem dX7_drawn_110 : decode cX7_drawn 110 = .ok (.lload 4, 2) := by decide +kernel
theorem dX7_drawn_112 : decode cX7_drawn 112 = .ok (.iload 7, 2) := by decide +kernel
theorem dX7_drawn_114 : decode cX7_drawn 114 = .ok (.i2l, 1) := by decide +kernel
theorem dX7_drawn_115 : decode cX7_drawn 115 = .ok (.lrem, 1) := by decide +kernel
theorem dX7_drawn_116 : decode cX7_drawn 116 = .ok (.l2i, 1) := by decide +kernel
theorem dX7_drawn_117 : decode cX7_drawn 117 = .ok (.invokevirtual 245, 3) := by decide +kernel
theorem dX7_drawn_120 : decode cX7_drawn 120 = .ok (.invokestatic 184, 3) := by decide +kernel
theorem dX7_drawn_123 : decode cX7_drawn 123 = .ok (.goto 13, 3) := by decide +kernel
theorem dX7_drawn_126 : decode cX7_drawn 126 = .ok (.aload_n 0, 1) := by decide +kernel
theorem dX7_drawn_127 : decode cX7_drawn 127 = .ok (.getfield 31, 3) := by decide +kernel
theorem dX7_drawn_130 : decode cX7_drawn 130 = .ok (.iconst 3, 1) := by decide +kernel
theorem dX7_drawn_131 : decode cX7_drawn 131 = .ok (.dup2, 1) := by decide +kernel
theorem dX7_drawn_132 : decode cX7_drawn 132 = .ok (.iaload, 1) := by decide +kernel
theorem dX7_drawn_133 : decode cX7_drawn 133 = .ok (.iconst 1, 1) := by decide +kernel
theorem dX7_drawn_134 : decode cX7_drawn 134 = .ok (.iadd, 1) := by decide +kernel
theorem dX7_drawn_135 : decode cX7_drawn 135 = .ok (.iastore, 1) := by decide +kernel
theorem dX7_drawn_136 : decode cX7_drawn 136 = .ok (.iinc 6 1, 3) := by decide +kernel
theorem dX7_drawn_139 : decode cX7_drawn 139 = .ok (.goto (-77), 3) := by decide +kernel
theorem dX7_drawn_142 : decode cX7_drawn 142 = .ok (.iload_n 3, 1) := by decide +kernel
theorem dX7_drawn_143 : decode cX7_drawn 143 = .ok (.ifCond .ne 12, 3) := by decide +kernel
theorem dX7_drawn_146 : decode cX7_drawn 146 = .ok (.aload_n 0, 1) := by decide +kernel
theorem dX7_drawn_147 : decode cX7_drawn 147 = .ok (.getfield 31, 3) := by decide +kernel
theorem dX7_drawn_150 : decode cX7_drawn 150 = .ok (.iconst 2, 1) := by decide +kernel
theorem dX7_drawn_151 : decode cX7_drawn 151 = .ok (.iaload, 1) := by decide +kernel
theorem dX7_drawn_152 : decode cX7_drawn 152 = .ok (.goto 9, 3) := by decide +kernel
theorem dX7_drawn_155 : decode cX7_drawn 155 = .ok (.aload_n 0, 1) := by decide +kernel
theorem dX7_drawn_156 : decode cX7_drawn 156 = .ok (.getfield 31, 3) := by decide +kernel
theorem dX7_drawn_159 : decode cX7_drawn 159 = .ok (.iconst 4, 1) := by decide +kernel
theorem dX7_drawn_160 : decode cX7_drawn 160 = .ok (.iaload, 1) := by decide +kernel
theorem dX7_drawn_161 : decode cX7_drawn 161 = .ok (.ireturn, 1) := by decide +kernel
theorem dX7_image_0 : decode cX7_image 0 = .ok (.iload_n 1, 1) := by decide +kernel
theorem dX7_image_1 : decode cX7_image 1 = .ok (.iconst 0, 1) := by decide +kernel
theorem dX7_image_2 : decode cX7_image 2 = .ok (.iconst 1, 1) := by decide +kernel
theorem dX7_image_3 : decode cX7_image 3 = .ok (.invokestatic 71, 3) := by decide +kernel
theorem dX7_image_6 : decode cX7_image 6 = .ok (.ifCond .ne 6, 3) := by decide +kernel
theorem dX7_image_9 : decode cX7_image 9 = .ok (.ldc 79, 2) := by decide +kernel
theorem dX7_image_11 : decode cX7_image 11 = .ok (.ireturn, 1) := by decide +kernel
theorem dX7_image_12 : decode cX7_image 12 = .ok (.aload_n 0, 1) := by decide +kernel
theorem dX7_image_13 : decode cX7_image 13 = .ok (.invokevirtual 191, 3) := by decide +kernel
theorem dX7_image_16 : decode cX7_image 16 = .ok (.ifCond .ne 6, 3) := by decide +kernel
theorem dX7_image_19 : decode cX7_image 19 = .ok (.ldc 180, 2) := by decide +kernel
theorem dX7_image_21 : decode cX7_image 21 = .ok (.ireturn, 1) := by decide +kernel
theorem dX7_image_22 : decode cX7_image 22 = .ok (.aload_n 0, 1) := by decide +kernel
theorem dX7_image_23 : decode cX7_image 23 = .ok (.getfield 25, 3) := by decide +kernel
theorem dX7_image_26 : decode cX7_image 26 = .ok (.iconst 0, 1) := by decide +kernel
theorem dX7_image_27 : decode cX7_image 27 = .ok (.aload_n 0, 1) := by decide +kernel
theorem dX7_image_28 : decode cX7_image 28 = .ok (.getfield 37, 3) := by decide +kernel
theorem dX7_image_31 : decode cX7_image 31 = .ok (.bipush 42, 2) := by decide +kernel
theorem dX7_image_33 : decode cX7_image 33 = .ok (.iload_n 1, 1) := by decide +kernel
theorem dX7_image_34 : decode cX7_image 34 = .ok (.imul, 1) := by decide +kernel
theorem dX7_image_35 : decode cX7_image 35 = .ok (.invokestatic 156, 3) := by decide +kernel
theorem dX7_image_38 : decode cX7_image 38 = .ok (.aload_n 0, 1) := by decide +kernel
theorem dX7_image_39 : decode cX7_image 39 = .ok (.getfield 40, 3) := by decide +kernel
theorem dX7_image_42 : decode cX7_image 42 = .ok (.iload_n 1, 1) := by decide +kernel
theorem dX7_image_43 : decode cX7_image 43 = .ok (.iconst 1, 1) := by decide +kernel
theorem dX7_image_44 : decode cX7_image 44 = .ok (.bastore, 1) := by decide +kernel
theorem dX7_image_45 : decode cX7_image 45 = .ok (.iconst 1, 1) := by decide +kernel
theorem dX7_image_46 : decode cX7_image 46 = .ok (.ireturn, 1) := by decide +kernel
theorem dX7_restore_0 : decode cX7_restore 0 = .ok (.iload_n 1, 1) := by decide +kernel
theorem dX7_restore_1 : decode cX7_restore 1 = .ok (.iconst 0, 1) := by decide +kernel
theorem dX7_restore_2 : decode cX7_restore 2 = .ok (.iconst 1, 1) := by decide +kernel
theorem dX7_restore_3 : decode cX7_restore 3 = .ok (.invokestatic 71, 3) := by decide +kernel
theorem dX7_restore_6 : decode cX7_restore 6 = .ok (.ifCond .ne 6, 3) := by decide +kernel
theorem dX7_restore_9 : decode cX7_restore 9 = .ok (.ldc 79, 2) := by decide +kernel
theorem dX7_restore_11 : decode cX7_restore 11 = .ok (.ireturn, 1) := by decide +kernel
theorem dX7_restore_12 : decode cX7_restore 12 = .ok (.aload_n 0, 1) := by decide +kernel
theorem dX7_restore_13 : decode cX7_restore 13 = .ok (.getfield 40, 3) := by decide +kernel
theorem dX7_restore_16 : decode cX7_restore 16 = .ok (.iload_n 1, 1) := by decide +kernel
theorem dX7_restore_17 : decode cX7_restore 17 = .ok (.baload, 1) := by decide +kernel
theorem dX7_restore_18 : decode cX7_restore 18 = .ok (.ifCond .ne 6, 3) := by decide +kernel
theorem dX7_restore_21 : decode cX7_restore 21 = .ok (.ldc 180, 2) := by decide +kernel
theorem dX7_restore_23 : decode cX7_restore 23 = .ok (.ireturn, 1) := by decide +kernel
theorem dX7_restore_24 : decode cX7_restore 24 = .ok (.aload_n 0, 1) := by decide +kernel
theorem dX7_restore_25 : decode cX7_restore 25 = .ok (.getfield 37, 3) := by decide +kernel
theorem dX7_restore_28 : decode cX7_restore 28 = .ok (.bipush 42, 2) := by decide +kernel
theorem dX7_restore_30 : decode cX7_restore 30 = .ok (.iload_n 1, 1) := by decide +kernel
theorem dX7_restore_31 : decode cX7_restore 31 = .ok (.imul, 1) := by decide +kernel
theorem dX7_restore_32 : decode cX7_restore 32 = .ok (.aload_n 0, 1) := by decide +kernel
theorem dX7_restore_33 : decode cX7_restore 33 = .ok (.getfield 25, 3) := by decide +kernel
theorem dX7_restore_36 : decode cX7_restore 36 = .ok (.iconst 0, 1) := by decide +kernel
theorem dX7_restore_37 : decode cX7_restore 37 = .ok (.invokestatic 156, 3) := by decide +kernel
theorem dX7_restore_40 : decode cX7_restore 40 = .ok (.aload_n 0, 1) := by decide +kernel
theorem dX7_restore_41 : decode cX7_restore 41 = .ok (.iconst 0, 1) := by decide +kernel
theorem dX7_restore_42 : decode cX7_restore 42 = .ok (.putfield 160, 3) := by decide +kernel
theorem dX7_restore_45 : decode cX7_restore 45 = .ok (.iconst 1, 1) := by decide +kernel
theorem dX7_restore_46 : decode cX7_restore 46 = .ok (.ireturn, 1) := by decide +kernel
theorem dX7_kindIn_0 : decode cX7_kindIn 0 = .ok (.aload_n 0, 1) := by decide +kernel
theorem dX7_kindIn_1 : decode cX7_kindIn 1 = .ok (.getfield 25, 3) := by decide +kernel
theorem dX7_kindIn_4 : decode cX7_kindIn 4 = .ok (.bipush 7, 2) := by decide +kernel
theorem dX7_kindIn_6 : decode cX7_kindIn 6 = .ok (.iconst 3, 1) := by decide +kernel
theorem dX7_kindIn_7 : decode cX7_kindIn 7 = .ok (.iload_n 1, 1) := by decide +kernel
theorem dX7_kindIn_8 : decode cX7_kindIn 8 = .ok (.imul, 1) := by decide +kernel
theorem dX7_kindIn_9 : decode cX7_kindIn 9 = .ok (.iadd, 1) := by decide +kernel
theorem dX7_kindIn_10 : decode cX7_kindIn 10 = .ok (.iaload, 1) := by decide +kernel
theorem dX7_kindIn_11 : decode cX7_kindIn 11 = .ok (.ireturn, 1) := by decide +kernel
theorem dX7_kind_0 : decode cX7_kind 0 = .ok (.aload_n 0, 1) := by decide +kernel
theorem dX7_kind_1 : decode cX7_kind 1 = .ok (.iload_n 1, 1) := by decide +kernel
theorem dX7_kind_2 : decode cX7_kind 2 = .ok (.invokevirtual 188, 3) := by decide +kernel
theorem dX7_kind_5 : decode cX7_kind 5 = .ok (.ifCond .eq 11, 3) := by decide +kernel
theorem dX7_kind_8 : decode cX7_kind 8 = .ok (.aload_n 0, 1) := by decide +kernel
theorem dX7_kind_9 : decode cX7_kind 9 = .ok (.iload_n 1, 1) := by decide +kernel
theorem dX7_kind_10 : decode cX7_kind 10 = .ok (.invokevirtual 248, 3) := by decide +kernel
theorem dX7_kind_13 : decode cX7_kind 13 = .ok (.goto 5, 3) := by decide +kernel
theorem dX7_kind_16 : decode cX7_kind 16 = .ok (.ldc 79, 2) := by decide +kernel
theorem dX7_kind_18 : decode cX7_kind 18 = .ok (.ireturn, 1) := by decide +kernel
theorem dX7_as_0 : decode cX7_as 0 = .ok (.aload_n 0, 1) := by decide +kernel
theorem dX7_as_1 : decode cX7_as 1 = .ok (.iload_n 1, 1) := by decide +kernel
theorem dX7_as_2 : decode cX7_as 2 = .ok (.invokevirtual 188, 3) := by decide +kernel
theorem dX7_as_5 : decode cX7_as 5 = .ok (.ifCond .eq 12, 3) := by decide +kernel
theorem dX7_as_8 : decode cX7_as 8 = .ok (.iload_n 2, 1) := by decide +kernel
theorem dX7_as_9 : decode cX7_as 9 = .ok (.iconst 0, 1) := by decide +kernel
theorem dX7_as_10 : decode cX7_as 10 = .ok (.iconst 5, 1) := by decide +kernel
theorem dX7_as_11 : decode cX7_as 11 = .ok (.invokestatic 71, 3) := by decide +kernel
theorem dX7_as_14 : decode cX7_as 14 = .ok (.ifCond .ne 6, 3) := by decide +kernel
theorem dX7_as_17 : decode cX7_as 17 = .ok (.ldc 79, 2) := by decide +kernel
theorem dX7_as_19 : decode cX7_as 19 = .ok (.ireturn, 1) := by decide +kernel
theorem dX7_as_20 : decode cX7_as 20 = .ok (.aload_n 0, 1) := by decide +kernel
theorem dX7_as_21 : decode cX7_as 21 = .ok (.iload_n 1, 1) := by decide +kernel
theorem dX7_as_22 : decode cX7_as 22 = .ok (.invokevirtual 248, 3) := by decide +kernel
theorem dX7_as_25 : decode cX7_as 25 = .ok (.istore_n 3, 1) := by decide +kernel
theorem dX7_as_26 : decode cX7_as 26 = .ok (.iload_n 2, 1) := by decide +kernel
theorem dX7_as_27 : decode cX7_as 27 = .ok (.ifCond .eq 28, 3) := by decide +kernel
theorem dX7_as_30 : decode cX7_as 30 = .ok (.iload_n 2, 1) := by decide +kernel
theorem dX7_as_31 : decode cX7_as 31 = .ok (.iload_n 3, 1) := by decide +kernel
theorem dX7_as_32 : decode cX7_as 32 = .ok (.if_icmp .eq 23, 3) := by decide +kernel
theorem dX7_as_35 : decode cX7_as 35 = .ok (.iload_n 2, 1) := by decide +kernel
theorem dX7_as_36 : decode cX7_as 36 = .ok (.iconst 1, 1) := by decide +kernel
theorem dX7_as_37 : decode cX7_as 37 = .ok (.if_icmp .ne 8, 3) := by decide +kernel
theorem dX7_as_40 : decode cX7_as 40 = .ok (.iload_n 3, 1) := by decide +kernel
theorem dX7_as_41 : decode cX7_as 41 = .ok (.iconst 4, 1) := by decide +kernel
theorem dX7_as_42 : decode cX7_as 42 = .ok (.if_icmp .lt 13, 3) := by decide +kernel
theorem dX7_as_45 : decode cX7_as 45 = .ok (.iload_n 2, 1) := by decide +kernel
theorem dX7_as_46 : decode cX7_as 46 = .ok (.iconst 4, 1) := by decide +kernel
theorem dX7_as_47 : decode cX7_as 47 = .ok (.if_icmp .ne 12, 3) := by decide +kernel
theorem dX7_as_50 : decode cX7_as 50 = .ok (.iload_n 3, 1) := by decide +kernel
theorem dX7_as_51 : decode cX7_as 51 = .ok (.iconst 5, 1) := by decide +kernel
theorem dX7_as_52 : decode cX7_as 52 = .ok (.if_icmp .ne 7, 3) := by decide +kernel
theorem dX7_as_55 : decode cX7_as 55 = .ok (.iconst 1, 1) := by decide +kernel
theorem dX7_as_56 : decode cX7_as 56 = .ok (.goto 4, 3) := by decide +kernel
theorem dX7_as_59 : decode cX7_as 59 = .ok (.iconst 0, 1) := by decide +kernel
theorem dX7_as_60 : decode cX7_as 60 = .ok (.istore 4, 2) := by decide +kernel
theorem dX7_as_62 : decode cX7_as 62 = .ok (.iload 4, 2) := by decide +kernel
theorem dX7_as_64 : decode cX7_as 64 = .ok (.ifCond .eq 11, 3) := by decide +kernel
theorem dX7_as_67 : decode cX7_as 67 = .ok (.aload_n 0, 1) := by decide +kernel
theorem dX7_as_68 : decode cX7_as 68 = .ok (.iload_n 1, 1) := by decide +kernel
theorem dX7_as_69 : decode cX7_as 69 = .ok (.invokevirtual 84, 3) := by decide +kernel
theorem dX7_as_72 : decode cX7_as 72 = .ok (.goto 8, 3) := by decide +kernel
theorem dX7_as_75 : decode cX7_as 75 = .ok (.aload_n 0, 1) := by decide +kernel
theorem dX7_as_76 : decode cX7_as 76 = .ok (.iconst 3, 1) := by decide +kernel
theorem dX7_as_77 : decode cX7_as 77 = .ok (.invokevirtual 80, 3) := by decide +kernel
theorem dX7_as_80 : decode cX7_as 80 = .ok (.ireturn, 1) := by decide +kernel
theorem dX7_leaves_0 : decode cX7_leaves 0 = .ok (.aload_n 0, 1) := by decide +kernel
theorem dX7_leaves_1 : decode cX7_leaves 1 = .ok (.getfield 251, 3) := by decide +kernel
theorem dX7_leaves_4 : decode cX7_leaves 4 = .ok (.bipush 16, 2) := by decide +kernel
theorem dX7_leaves_6 : decode cX7_leaves 6 = .ok (.if_icmp .ge 23, 3) := by decide +kernel
theorem dX7_leaves_9 : decode cX7_leaves 9 = .ok (.aload_n 0, 1) := by decide +kernel
theorem dX7_leaves_10 : decode cX7_leaves 10 = .ok (.getfield 62, 3) := by decide +kernel
theorem dX7_leaves_13 : decode cX7_leaves 13 = .ok (.aload_n 0, 1) := by decide +kernel
theorem dX7_leaves_14 : decode cX7_leaves 14 = .ok (.getfield 251, 3) := by decide +kernel
theorem dX7_leaves_17 : decode cX7_leaves 17 = .ok (.iload_n 1, 1) := by decide +kernel
theorem dX7_leaves_18 : decode cX7_leaves 18 = .ok (.iastore, 1) := by decide +kernel
theorem dX7_leaves_19 : decode cX7_leaves 19 = .ok (.aload_n 0, 1) := by decide +kernel
theorem dX7_leaves_20 : decode cX7_leaves 20 = .ok (.dup, 1) := by decide +kernel
theorem dX7_leaves_21 : decode cX7_leaves 21 = .ok (.getfield 251, 3) := by decide +kernel
theorem dX7_leaves_24 : decode cX7_leaves 24 = .ok (.iconst 1, 1) := by decide +kernel
theorem dX7_leaves_25 : decode cX7_leaves 25 = .ok (.iadd, 1) := by decide +kernel
theorem dX7_leaves_26 : decode cX7_leaves 26 = .ok (.putfield 251, 3) := by decide +kernel
theorem dX7_leaves_29 : decode cX7_leaves 29 = .ok (.return_, 1) := by decide +kernel
theorem dX7_joyMark_0 : decode cX7_joyMark 0 = .ok (.aload_n 0, 1) := by decide +kernel
theorem dX7_joyMark_1 : decode cX7_joyMark 1 = .ok (.iload_n 1, 1) := by decide +kernel
theorem dX7_joyMark_2 : decode cX7_joyMark 2 = .ok (.invokevirtual 248, 3) := by decide +kernel
theorem dX7_joyMark_5 : decode cX7_joyMark 5 = .ok (.istore_n 2, 1) := by decide +kernel
theorem dX7_joyMark_6 : decode cX7_joyMark 6 = .ok (.iload_n 2, 1) := by decide +kernel
theorem dX7_joyMark_7 : decode cX7_joyMark 7 = .ok (.iconst 1, 1) := by decide +kernel
theorem dX7_joyMark_8 : decode cX7_joyMark 8 = .ok (.if_icmp .eq 19, 3) := by decide +kernel
theorem dX7_joyMark_11 : decode cX7_joyMark 11 = .ok (.aload_n 0, 1) := by decide +kernel
theorem dX7_joyMark_12 : decode cX7_joyMark 12 = .ok (.iload_n 2, 1) := by decide +kernel
theorem dX7_joyMark_13 : decode cX7_joyMark 13 = .ok (.iconst 2, 1) := by decide +kernel
theorem dX7_joyMark_14 : decode cX7_joyMark 14 = .ok (.if_icmp .ne 8, 3) := by decide +kernel
theorem dX7_joyMark_17 : decode cX7_joyMark 17 = .ok (.bipush 24, 2) := by decide +kernel
theorem dX7_joyMark_19 : decode cX7_joyMark 19 = .ok (.goto 5, 3) := by decide +kernel
theorem dX7_joyMark_22 : decode cX7_joyMark 22 = .ok (.bipush 22, 2) := by decide +kernel
theorem dX7_joyMark_24 : decode cX7_joyMark 24 = .ok (.invokevirtual 254, 3) := by decide +kernel
theorem dX7_joyMark_27 : decode cX7_joyMark 27 = .ok (.aload_n 0, 1) := by decide +kernel
theorem dX7_joyMark_28 : decode cX7_joyMark 28 = .ok (.bipush 21, 2) := by decide +kernel
theorem dX7_joyMark_30 : decode cX7_joyMark 30 = .ok (.invokevirtual 254, 3) := by decide +kernel
theorem dX7_joyMark_33 : decode cX7_joyMark 33 = .ok (.aload_n 0, 1) := by decide +kernel
theorem dX7_joyMark_34 : decode cX7_joyMark 34 = .ok (.bipush 20, 2) := by decide +kernel
theorem dX7_joyMark_36 : decode cX7_joyMark 36 = .ok (.invokevirtual 254, 3) := by decide +kernel
theorem dX7_joyMark_39 : decode cX7_joyMark 39 = .ok (.iload_n 1, 1) := by decide +kernel
theorem dX7_joyMark_40 : decode cX7_joyMark 40 = .ok (.aload_n 0, 1) := by decide +kernel
theorem dX7_joyMark_41 : decode cX7_joyMark 41 = .ok (.getfield 25, 3) := by decide +kernel
theorem dX7_joyMark_44 : decode cX7_joyMark 44 = .ok (.bipush 7, 2) := by decide +kernel
theorem dX7_joyMark_46 : decode cX7_joyMark 46 = .ok (.iconst 3, 1) := by decide +kernel
theorem dX7_joyMark_47 : decode cX7_joyMark 47 = .ok (.iload_n 1, 1) := by decide +kernel
theorem dX7_joyMark_48 : decode cX7_joyMark 48 = .ok (.imul, 1) := by decide +kernel
theorem dX7_joyMark_49 : decode cX7_joyMark 49 = .ok (.iadd, 1) := by decide +kernel
theorem dX7_joyMark_50 : decode cX7_joyMark 50 = .ok (.iconst 1, 1) := by decide +kernel
theorem dX7_joyMark_51 : decode cX7_joyMark 51 = .ok (.iadd, 1) := by decide +kernel
theorem dX7_joyMark_52 : decode cX7_joyMark 52 = .ok (.iaload, 1) := by decide +kernel
theorem dX7_joyMark_53 : decode cX7_joyMark 53 = .ok (.iadd, 1) := by decide +kernel
theorem dX7_joyMark_54 : decode cX7_joyMark 54 = .ok (.istore_n 3, 1) := by decide +kernel
theorem dX7_joyMark_55 : decode cX7_joyMark 55 = .ok (.iload_n 2, 1) := by decide +kernel
theorem dX7_joyMark_56 : decode cX7_joyMark 56 = .ok (.iconst 2, 1) := by decide +kernel
theorem dX7_joyMark_57 : decode cX7_joyMark 57 = .ok (.if_icmp .ne 9, 3) := by decide +kernel
theorem dX7_joyMark_60 : decode cX7_joyMark 60 = .ok (.iconst 2, 1) := by decide +kernel
theorem dX7_joyMark_61 : decode cX7_joyMark 61 = .ok (.iload_n 3, 1) := by decide +kernel
theorem dX7_joyMark_62 : decode cX7_joyMark 62 = .ok (.imul, 1) := by decide +kernel
theorem dX7_joyMark_63 : decode cX7_joyMark 63 = .ok (.goto 17, 3) := by decide +kernel
theorem dX7_joyMark_66 : decode cX7_joyMark 66 = .ok (.iload_n 2, 1) := by decide +kernel
theorem dX7_joyMark_67 : decode cX7_joyMark 67 = .ok (.iconst 3, 1) := by decide +kernel
theorem dX7_joyMark_68 : decode cX7_joyMark 68 = .ok (.if_icmp .ne 11, 3) := by decide +kernel
theorem dX7_joyMark_71 : decode cX7_joyMark 71 = .ok (.iload_n 3, 1) := by decide +kernel
theorem dX7_joyMark_72 : decode cX7_joyMark 72 = .ok (.sipush 1000, 3) := by decide +kernel
theorem dX7_joyMark_75 : decode cX7_joyMark 75 = .ok (.isub, 1) := by decide +kernel
theorem dX7_joyMark_76 : decode cX7_joyMark 76 = .ok (.goto 4, 3) := by decide +kernel
theorem dX7_joyMark_79 : decode cX7_joyMark 79 = .ok (.iload_n 3, 1) := by decide +kernel
theorem dX7_joyMark_80 : decode cX7_joyMark 80 = .ok (.ireturn, 1) := by decide +kernel
theorem dX7_griefSize_0 : decode cX7_griefSize 0 = .ok (.aload_n 0, 1) := by decide +kernel
theorem dX7_griefSize_1 : decode cX7_griefSize 1 = .ok (.iload_n 1, 1) := by decide +kernel
theorem dX7_griefSize_2 : decode cX7_griefSize 2 = .ok (.invokevirtual 248, 3) := by decide +kernel
theorem dX7_griefSize_5 : decode cX7_griefSize 5 = .ok (.iconst 5, 1) := by decide +kernel
theorem dX7_griefSize_6 : decode cX7_griefSize 6 = .ok (.if_icmp .ne 7, 3) := by decide +kernel
theorem dX7_griefSize_9 : decode cX7_griefSize 9 = .ok (.iconst 1, 1) := by decide +kernel
theorem dX7_griefSize_10 : decode cX7_griefSize 10 = .ok (.goto 4, 3) := by decide +kernel
theorem dX7_griefSize_13 : decode cX7_griefSize 13 = .ok (.iconst 0, 1) := by decide +kernel
theorem dX7_griefSize_14 : decode cX7_griefSize 14 = .ok (.istore_n 2, 1) := by decide +kernel
theorem dX7_griefSize_15 : decode cX7_griefSize 15 = .ok (.iload_n 2, 1) := by decide +kernel
theorem dX7_griefSize_16 : decode cX7_griefSize 16 = .ok (.ifCond .eq 9, 3) := by decide +kernel
theorem dX7_griefSize_19 : decode cX7_griefSize 19 = .ok (.aload_n 0, 1) := by decide +kernel
theorem dX7_griefSize_20 : decode cX7_griefSize 20 = .ok (.bipush 14, 2) := by decide +kernel
theorem dX7_griefSize_22 : decode cX7_griefSize 22 = .ok (.invokevirtual 254, 3) := by decide +kernel
theorem dX7_griefSize_25 : decode cX7_griefSize 25 = .ok (.aload_n 0, 1) := by decide +kernel
theorem dX7_griefSize_26 : decode cX7_griefSize 26 = .ok (.bipush 13, 2) := by decide +kernel
theorem dX7_griefSize_28 : decode cX7_griefSize 28 = .ok (.invokevirtual 254, 3) := by decide +kernel
theorem dX7_griefSize_31 : decode cX7_griefSize 31 = .ok (.aload_n 0, 1) := by decide +kernel
theorem dX7_griefSize_32 : decode cX7_griefSize 32 = .ok (.bipush 10, 2) := by decide +kernel
theorem dX7_griefSize_34 : decode cX7_griefSize 34 = .ok (.invokevirtual 254, 3) := by decide +kernel
theorem dX7_griefSize_37 : decode cX7_griefSize 37 = .ok (.aload_n 0, 1) := by decide +kernel
theorem dX7_griefSize_38 : decode cX7_griefSize 38 = .ok (.getfield 25, 3) := by decide +kernel
theorem dX7_griefSize_41 : decode cX7_griefSize 41 = .ok (.bipush 7, 2) := by decide +kernel
theorem dX7_griefSize_43 : decode cX7_griefSize 43 = .ok (.iconst 3, 1) := by decide +kernel
theorem dX7_griefSize_44 : decode cX7_griefSize 44 = .ok (.iload_n 1, 1) := by decide +kernel
theorem dX7_griefSize_45 : decode cX7_griefSize 45 = .ok (.imul, 1) := by decide +kernel
theorem dX7_griefSize_46 : decode cX7_griefSize 46 = .ok (.iadd, 1) := by decide +kernel
theorem dX7_griefSize_47 : decode cX7_griefSize 47 = .ok (.iconst 2, 1) := by decide +kernel
theorem dX7_griefSize_48 : decode cX7_griefSize 48 = .ok (.iadd, 1) := by decide +kernel
theorem dX7_griefSize_49 : decode cX7_griefSize 49 = .ok (.iaload, 1) := by decide +kernel
theorem dX7_griefSize_50 : decode cX7_griefSize 50 = .ok (.bipush 100, 2) := by decide +kernel
theorem dX7_griefSize_52 : decode cX7_griefSize 52 = .ok (.isub, 1) := by decide +kernel
theorem dX7_griefSize_53 : decode cX7_griefSize 53 = .ok (.istore_n 3, 1) := by decide +kernel
theorem dX7_griefSize_54 : decode cX7_griefSize 54 = .ok (.iload_n 2, 1) := by decide +kernel
theorem dX7_griefSize_55 : decode cX7_griefSize 55 = .ok (.ifCond .eq 9, 3) := by decide +kernel
theorem dX7_griefSize_58 : decode cX7_griefSize 58 = .ok (.iconst 2, 1) := by decide +kernel
theorem dX7_griefSize_59 : decode cX7_griefSize 59 = .ok (.iload_n 3, 1) := by decide +kernel
theorem dX7_griefSize_60 : decode cX7_griefSize 60 = .ok (.imul, 1) := by decide +kernel
theorem dX7_griefSize_61 : decode cX7_griefSize 61 = .ok (.goto 4, 3) := by decide +kernel
theorem dX7_griefSize_64 : decode cX7_griefSize 64 = .ok (.iload_n 3, 1) := by decide +kernel
theorem dX7_griefSize_65 : decode cX7_griefSize 65 = .ok (.ireturn, 1) := by decide +kernel
theorem dX7_joySize_0 : decode cX7_joySize 0 = .ok (.aload_n 0, 1) := by decide +kernel
theorem dX7_joySize_1 : decode cX7_joySize 1 = .ok (.iload_n 1, 1) := by decide +kernel
theorem dX7_joySize_2 : decode cX7_joySize 2 = .ok (.invokevirtual 248, 3) := by decide +kernel
theorem dX7_joySize_5 : decode cX7_joySize 5 = .ok (.iconst 2, 1) := by decide +kernel
theorem dX7_joySize_6 : decode cX7_joySize 6 = .ok (.if_icmp .ne 7, 3) := by decide +kernel
theorem dX7_joySize_9 : decode cX7_joySize 9 = .ok (.iconst 1, 1) := by decide +kernel
theorem dX7_joySize_10 : decode cX7_joySize 10 = .ok (.goto 4, 3) := by decide +kernel
theorem dX7_joySize_13 : decode cX7_joySize 13 = .ok (.iconst 0, 1) := by decide +kernel
theorem dX7_joySize_14 : decode cX7_joySize 14 = .ok (.istore_n 2, 1) := by decide +kernel
theorem dX7_joySize_15 : decode cX7_joySize 15 = .ok (.iload_n 2, 1) := by decide +kernel
theorem dX7_joySize_16 : decode cX7_joySize 16 = .ok (.ifCond .eq 9, 3) := by decide +kernel
theorem dX7_joySize_19 : decode cX7_joySize 19 = .ok (.aload_n 0, 1) := by decide +kernel
theorem dX7_joySize_20 : decode cX7_joySize 20 = .ok (.bipush 12, 2) := by decide +kernel
theorem dX7_joySize_22 : decode cX7_joySize 22 = .ok (.invokevirtual 254, 3) := by decide +kernel
theorem dX7_joySize_25 : decode cX7_joySize 25 = .ok (.aload_n 0, 1) := by decide +kernel
theorem dX7_joySize_26 : decode cX7_joySize 26 = .ok (.bipush 11, 2) := by decide +kernel
theorem dX7_joySize_28 : decode cX7_joySize 28 = .ok (.invokevirtual 254, 3) := by decide +kernel
theorem dX7_joySize_31 : decode cX7_joySize 31 = .ok (.aload_n 0, 1) := by decide +kernel
theorem dX7_joySize_32 : decode cX7_joySize 32 = .ok (.bipush 10, 2) := by decide +kernel
theorem dX7_joySize_34 : decode cX7_joySize 34 = .ok (.invokevirtual 254, 3) := by decide +kernel
theorem dX7_joySize_37 : decode cX7_joySize 37 = .ok (.aload_n 0, 1) := by decide +kernel
theorem dX7_joySize_38 : decode cX7_joySize 38 = .ok (.getfield 25, 3) := by decide +kernel
theorem dX7_joySize_41 : decode cX7_joySize 41 = .ok (.bipush 7, 2) := by decide +kernel
theorem dX7_joySize_43 : decode cX7_joySize 43 = .ok (.iconst 3, 1) := by decide +kernel
theorem dX7_joySize_44 : decode cX7_joySize 44 = .ok (.iload_n 1, 1) := by decide +kernel
theorem dX7_joySize_45 : decode cX7_joySize 45 = .ok (.imul, 1) := by decide +kernel
theorem dX7_joySize_46 : decode cX7_joySize 46 = .ok (.iadd, 1) := by decide +kernel
theorem dX7_joySize_47 : decode cX7_joySize 47 = .ok (.iconst 2, 1) := by decide +kernel
theorem dX7_joySize_48 : decode cX7_joySize 48 = .ok (.iadd, 1) := by decide +kernel
theorem dX7_joySize_49 : decode cX7_joySize 49 = .ok (.iaload, 1) := by decide +kernel
theorem dX7_joySize_50 : decode cX7_joySize 50 = .ok (.aload_n 0, 1) := by decide +kernel
theorem dX7_joySize_51 : decode cX7_joySize 51 = .ok (.iload_n 1, 1) := by decide +kernel
theorem dX7_joySize_52 : decode cX7_joySize 52 = .ok (.invokevirtual 257, 3) := by decide +kernel
theorem dX7_joySize_55 : decode cX7_joySize 55 = .ok (.iadd, 1) := by decide +kernel
theorem dX7_joySize_56 : decode cX7_joySize 56 = .ok (.istore_n 3, 1) := by decide +kernel
theorem dX7_joySize_57 : decode cX7_joySize 57 = .ok (.iload_n 2, 1) := by decide +kernel
theorem dX7_joySize_58 : decode cX7_joySize 58 = .ok (.ifCond .eq 8, 3) := by decide +kernel
theorem dX7_joySize_61 : decode cX7_joySize 61 = .ok (.iload_n 3, 1) := by decide +kernel
theorem dX7_joySize_62 : decode cX7_joySize 62 = .ok (.ineg, 1) := by decide +kernel
theorem dX7_joySize_63 : decode cX7_joySize 63 = .ok (.goto 4, 3) := by decide +kernel
theorem dX7_joySize_66 : decode cX7_joySize 66 = .ok (.iload_n 3, 1) := by decide +kernel
theorem dX7_joySize_67 : decode cX7_joySize 67 = .ok (.ireturn, 1) := by decide +kernel
theorem dX7_griefMark_0 : decode cX7_griefMark 0 = .ok (.aload_n 0, 1) := by decide +kernel
theorem dX7_griefMark_1 : decode cX7_griefMark 1 = .ok (.bipush 23, 2) := by decide +kernel
theorem dX7_griefMark_3 : decode cX7_griefMark 3 = .ok (.invokevirtual 254, 3) := by decide +kernel
theorem dX7_griefMark_6 : decode cX7_griefMark 6 = .ok (.aload_n 0, 1) := by decide +kernel
theorem dX7_griefMark_7 : decode cX7_griefMark 7 = .ok (.bipush 20, 2) := by decide +kernel
theorem dX7_griefMark_9 : decode cX7_griefMark 9 = .ok (.invokevirtual 254, 3) := by decide +kernel
theorem dX7_griefMark_12 : decode cX7_griefMark 12 = .ok (.iload_n 1, 1) := by decide +kernel
theorem dX7_griefMark_13 : decode cX7_griefMark 13 = .ok (.aload_n 0, 1) := by decide +kernel
theorem dX7_griefMark_14 : decode cX7_griefMark 14 = .ok (.iload_n 1, 1) := by decide +kernel
theorem dX7_griefMark_15 : decode cX7_griefMark 15 = .ok (.invokevirtual 260, 3) := by decide +kernel
theorem dX7_griefMark_18 : decode cX7_griefMark 18 = .ok (.isub, 1) := by decide +kernel
theorem dX7_griefMark_19 : decode cX7_griefMark 19 = .ok (.ireturn, 1) := by decide +kernel
theorem dX7_ask_0 : decode cX7_ask 0 = .ok (.aload_n 0, 1) := by decide +kernel
theorem dX7_ask_1 : decode cX7_ask 1 = .ok (.iload_n 1, 1) := by decide +kernel
theorem dX7_ask_2 : decode cX7_ask 2 = .ok (.invokevirtual 188, 3) := by decide +kernel
theorem dX7_ask_5 : decode cX7_ask 5 = .ok (.ifCond .eq 12, 3) := by decide +kernel
theorem dX7_ask_8 : decode cX7_ask 8 = .ok (.iload_n 2, 1) := by decide +kernel
theorem dX7_ask_9 : decode cX7_ask 9 = .ok (.iconst 0, 1) := by decide +kernel
theorem dX7_ask_10 : decode cX7_ask 10 = .ok (.iconst 1, 1) := by decide +kernel
theorem dX7_ask_11 : decode cX7_ask 11 = .ok (.invokestatic 71, 3) := by decide +kernel
theorem dX7_ask_14 : decode cX7_ask 14 = .ok (.ifCond .ne 6, 3) := by decide +kernel
theorem dX7_ask_17 : decode cX7_ask 17 = .ok (.ldc 79, 2) := by decide +kernel
theorem dX7_ask_19 : decode cX7_ask 19 = .ok (.ireturn, 1) := by decide +kernel
theorem dX7_ask_20 : decode cX7_ask 20 = .ok (.aload_n 0, 1) := by decide +kernel
theorem dX7_ask_21 : decode cX7_ask 21 = .ok (.iconst 0, 1) := by decide +kernel
theorem dX7_ask_22 : decode cX7_ask 22 = .ok (.putfield 251, 3) := by decide +kernel
theorem dX7_ask_25 : decode cX7_ask 25 = .ok (.aload_n 0, 1) := by decide +kernel
theorem dX7_ask_26 : decode cX7_ask 26 = .ok (.iload_n 1, 1) := by decide +kernel
theorem dX7_ask_27 : decode cX7_ask 27 = .ok (.invokevirtual 248, 3) := by decide +kernel
theorem dX7_ask_30 : decode cX7_ask 30 = .ok (.iconst 4, 1) := by decide +kernel
theorem dX7_ask_31 : decode cX7_ask 31 = .ok (.if_icmp .lt 7, 3) := by decide +kernel
theorem dX7_ask_34 : decode cX7_ask 34 = .ok (.iconst 1, 1) := by decide +kernel
theorem dX7_ask_35 : decode cX7_ask 35 = .ok (.goto 4, 3) := by decide +kernel
theorem dX7_ask_38 : decode cX7_ask 38 = .ok (.iconst 0, 1) := by decide +kernel
theorem dX7_ask_39 : decode cX7_ask 39 = .ok (.istore_n 3, 1) := by decide +kernel
theorem dX7_ask_40 : decode cX7_ask 40 = .ok (.iload_n 2, 1) := by decide +kernel
theorem dX7_ask_41 : decode cX7_ask 41 = .ok (.ifCond .ne 21, 3) := by decide +kernel
theorem dX7_ask_44 : decode cX7_ask 44 = .ok (.iload_n 3, 1) := by decide +kernel
theorem dX7_ask_45 : decode cX7_ask 45 = .ok (.ifCond .eq 11, 3) := by decide +kernel
theorem dX7_ask_48 : decode cX7_ask 48 = .ok (.aload_n 0, 1) := by decide +kernel
theorem dX7_ask_49 : decode cX7_ask 49 = .ok (.iload_n 1, 1) := by decide +kernel
theorem dX7_ask_50 : decode cX7_ask 50 = .ok (.invokevirtual 260, 3) := by decide +kernel
theorem dX7_ask_53 : decode cX7_ask 53 = .ok (.goto 8, 3) := by decide +kernel
theorem dX7_ask_56 : decode cX7_ask 56 = .ok (.aload_n 0, 1) := by decide +kernel
theorem dX7_ask_57 : decode cX7_ask 57 = .ok (.iload_n 1, 1) := by decide +kernel
theorem dX7_ask_58 : decode cX7_ask 58 = .ok (.invokevirtual 263, 3) := by decide +kernel
theorem dX7_ask_61 : decode cX7_ask 61 = .ok (.ireturn, 1) := by decide +kernel
theorem dX7_ask_62 : decode cX7_ask 62 = .ok (.iload_n 3, 1) := by decide +kernel
theorem dX7_ask_63 : decode cX7_ask 63 = .ok (.ifCond .eq 11, 3) := by decide +kernel
theorem dX7_ask_66 : decode cX7_ask 66 = .ok (.aload_n 0, 1) := by decide +kernel
theorem dX7_ask_67 : decode cX7_ask 67 = .ok (.iload_n 1, 1) := by decide +kernel
theorem dX7_ask_68 : decode cX7_ask 68 = .ok (.invokevirtual 266, 3) := by decide +kernel
theorem dX7_ask_71 : decode cX7_ask 71 = .ok (.goto 8, 3) := by decide +kernel
theorem dX7_ask_74 : decode cX7_ask 74 = .ok (.aload_n 0, 1) := by decide +kernel
theorem dX7_ask_75 : decode cX7_ask 75 = .ok (.iload_n 1, 1) := by decide +kernel
theorem dX7_ask_76 : decode cX7_ask 76 = .ok (.invokevirtual 257, 3) := by decide +kernel
theorem dX7_ask_79 : decode cX7_ask 79 = .ok (.ireturn, 1) := by decide +kernel
theorem dX7_trace_0 : decode cX7_trace 0 = .ok (.iload_n 1, 1) := by decide +kernel
theorem dX7_trace_1 : decode cX7_trace 1 = .ok (.iconst 0, 1) := by decide +kernel
theorem dX7_trace_2 : decode cX7_trace 2 = .ok (.aload_n 0, 1) := by decide +kernel
theorem dX7_trace_3 : decode cX7_trace 3 = .ok (.getfield 251, 3) := by decide +kernel
theorem dX7_trace_6 : decode cX7_trace 6 = .ok (.iconst 1, 1) := by decide +kernel
theorem dX7_trace_7 : decode cX7_trace 7 = .ok (.isub, 1) := by decide +kernel
theorem dX7_trace_8 : decode cX7_trace 8 = .ok (.invokestatic 71, 3) := by decide +kernel
theorem dX7_trace_11 : decode cX7_trace 11 = .ok (.ifCond .eq 12, 3) := by decide +kernel
theorem dX7_trace_14 : decode cX7_trace 14 = .ok (.aload_n 0, 1) := by decide +kernel
theorem dX7_trace_15 : decode cX7_trace 15 = .ok (.getfield 62, 3) := by decide +kernel
theorem dX7_trace_18 : decode cX7_trace 18 = .ok (.iload_n 1, 1) := by decide +kernel
theorem dX7_trace_19 : decode cX7_trace 19 = .ok (.iaload, 1) := by decide +kernel
theorem dX7_trace_20 : decode cX7_trace 20 = .ok (.goto 5, 3) := by decide +kernel
theorem dX7_trace_23 : decode cX7_trace 23 = .ok (.ldc 65, 2) := by decide +kernel
theorem dX7_trace_25 : decode cX7_trace 25 = .ok (.ireturn, 1) := by decide +kernel
theorem dX7_count_0 : decode cX7_count 0 = .ok (.iconst 0, 1) := by decide +kernel
theorem dX7_count_1 : decode cX7_count 1 = .ok (.istore_n 2, 1) := by decide +kernel
theorem dX7_count_2 : decode cX7_count 2 = .ok (.iload_n 1, 1) := by decide +kernel
theorem dX7_count_3 : decode cX7_count 3 = .ok (.tableswitch 146 0 9 #[53, 85, 93, 101, 108, 115, 122, 127, 132, 139], 53) := by decide +kernel
theorem dX7_count_56 : decode cX7_count 56 = .ok (.iconst 0, 1) := by decide +kernel
theorem dX7_count_57 : decode cX7_count 57 = .ok (.istore_n 3, 1) := by decide +kernel
theorem dX7_count_58 : decode cX7_count 58 = .ok (.iload_n 3, 1) := by decide +kernel
theorem dX7_count_59 : decode cX7_count 59 = .ok (.bipush 8, 2) := by decide +kernel
theorem dX7_count_61 : decode cX7_count 61 = .ok (.if_icmp .ge 25, 3) := by decide +kernel
theorem dX7_count_64 : decode cX7_count 64 = .ok (.iload_n 2, 1) := by decide +kernel
theorem dX7_count_65 : decode cX7_count 65 = .ok (.aload_n 0, 1) := by decide +kernel
theorem dX7_count_66 : decode cX7_count 66 = .ok (.iload_n 3, 1) := by decide +kernel
theorem dX7_count_67 : decode cX7_count 67 = .ok (.invokevirtual 87, 3) := by decide +kernel
theorem dX7_count_70 : decode cX7_count 70 = .ok (.ifCond .eq 7, 3) := by decide +kernel
theorem dX7_count_73 : decode cX7_count 73 = .ok (.iconst 0, 1) := by decide +kernel
theorem dX7_count_74 : decode cX7_count 74 = .ok (.goto 4, 3) := by decide +kernel
theorem dX7_count_77 : decode cX7_count 77 = .ok (.iconst 1, 1) := by decide +kernel
theorem dX7_count_78 : decode cX7_count 78 = .ok (.iadd, 1) := by decide +kernel
theorem dX7_count_79 : decode cX7_count 79 = .ok (.istore_n 2, 1) := by decide +kernel
theorem dX7_count_80 : decode cX7_count 80 = .ok (.iinc 3 1, 3) := by decide +kernel
theorem dX7_count_83 : decode cX7_count 83 = .ok (.goto (-25), 3) := by decide +kernel
theorem dX7_count_86 : decode cX7_count 86 = .ok (.iload_n 2, 1) := by decide +kernel
theorem dX7_count_87 : decode cX7_count 87 = .ok (.ireturn, 1) := by decide +kernel
theorem dX7_count_88 : decode cX7_count 88 = .ok (.aload_n 0, 1) := by decide +kernel
theorem dX7_count_89 : decode cX7_count 89 = .ok (.getfield 25, 3) := by decide +kernel
theorem dX7_count_92 : decode cX7_count 92 = .ok (.bipush 6, 2) := by decide +kernel
theorem dX7_count_94 : decode cX7_count 94 = .ok (.iaload, 1) := by decide +kernel
theorem dX7_count_95 : decode cX7_count 95 = .ok (.ireturn, 1) := by decide +kernel
theorem dX7_count_96 : decode cX7_count 96 = .ok (.aload_n 0, 1) := by decide +kernel
theorem dX7_count_97 : decode cX7_count 97 = .ok (.getfield 25, 3) := by decide +kernel
theorem dX7_count_100 : decode cX7_count 100 = .ok (.bipush 25, 2) := by decide +kernel
theorem dX7_count_102 : decode cX7_count 102 = .ok (.iaload, 1) := by decide +kernel
theorem dX7_count_103 : decode cX7_count 103 = .ok (.ireturn, 1) := by decide +kernel
theorem dX7_count_104 : decode cX7_count 104 = .ok (.aload_n 0, 1) := by decide +kernel
theorem dX7_count_105 : decode cX7_count 105 = .ok (.getfield 25, 3) := by decide +kernel
theorem dX7_count_108 : decode cX7_count 108 = .ok (.iconst 3, 1) := by decide +kernel
theorem dX7_count_109 : decode cX7_count 109 = .ok (.iaload, 1) := by decide +kernel
theorem dX7_count_110 : decode cX7_count 110 = .ok (.ireturn, 1) := by decide +kernel
theorem dX7_count_111 : decode cX7_count 111 = .ok (.aload_n 0, 1) := by decide +kernel
theorem dX7_count_112 : decode cX7_count 112 = .ok (.getfield 25, 3) := by decide +kernel
theorem dX7_count_115 : decode cX7_count 115 = .ok (.iconst 4, 1) := by decide +kernel
theorem dX7_count_116 : decode cX7_count 116 = .ok (.iaload, 1) := by decide +kernel
theorem dX7_count_117 : decode cX7_count 117 = .ok (.ireturn, 1) := by decide +kernel
theorem dX7_count_118 : decode cX7_count 118 = .ok (.aload_n 0, 1) := by decide +kernel
theorem dX7_count_119 : decode cX7_count 119 = .ok (.getfield 25, 3) := by decide +kernel
theorem dX7_count_122 : decode cX7_count 122 = .ok (.iconst 1, 1) := by decide +kernel
theorem dX7_count_123 : decode cX7_count 123 = .ok (.iaload, 1) := by decide +kernel
theorem dX7_count_124 : decode cX7_count 124 = .ok (.ireturn, 1) := by decide +kernel
theorem dX7_count_125 : decode cX7_count 125 = .ok (.aload_n 0, 1) := by decide +kernel
theorem dX7_count_126 : decode cX7_count 126 = .ok (.getfield 160, 3) := by decide +kernel
theorem dX7_count_129 : decode cX7_count 129 = .ok (.ireturn, 1) := by decide +kernel
theorem dX7_count_130 : decode cX7_count 130 = .ok (.aload_n 0, 1) := by decide +kernel
theorem dX7_count_131 : decode cX7_count 131 = .ok (.getfield 97, 3) := by decide +kernel
theorem dX7_count_134 : decode cX7_count 134 = .ok (.ireturn, 1) := by decide +kernel
theorem dX7_count_135 : decode cX7_count 135 = .ok (.aload_n 0, 1) := by decide +kernel
theorem dX7_count_136 : decode cX7_count 136 = .ok (.getfield 25, 3) := by decide +kernel
theorem dX7_count_139 : decode cX7_count 139 = .ok (.iconst 2, 1) := by decide +kernel
theorem dX7_count_140 : decode cX7_count 140 = .ok (.iaload, 1) := by decide +kernel
theorem dX7_count_141 : decode cX7_count 141 = .ok (.ireturn, 1) := by decide +kernel
theorem dX7_count_142 : decode cX7_count 142 = .ok (.aload_n 0, 1) := by decide +kernel
theorem dX7_count_143 : decode cX7_count 143 = .ok (.getfield 25, 3) := by decide +kernel
theorem dX7_count_146 : decode cX7_count 146 = .ok (.iconst 5, 1) := by decide +kernel
theorem dX7_count_147 : decode cX7_count 147 = .ok (.iaload, 1) := by decide +kernel
theorem dX7_count_148 : decode cX7_count 148 = .ok (.ireturn, 1) := by decide +kernel
theorem dX7_count_149 : decode cX7_count 149 = .ok (.ldc 79, 2) := by decide +kernel
theorem dX7_count_151 : decode cX7_count 151 = .ok (.ireturn, 1) := by decide +kernel
theorem dX7_status_0 : decode cX7_status 0 = .ok (.aload_n 0, 1) := by decide +kernel
theorem dX7_status_1 : decode cX7_status 1 = .ok (.getfield 66, 3) := by decide +kernel
theorem dX7_status_4 : decode cX7_status 4 = .ok (.ireturn, 1) := by decide +kernel
