theorem dX0_init_0 : decode cX0_init 0 = .ok (.aload_n 0, 1) := by decide +kernel
theorem dX0_init_1 : decode cX0_init 1 = .ok (.invokespecial 3, 3) := by decide +kernel
theorem dX0_init_4 : decode cX0_init 4 = .ok (.aload_n 0, 1) := by decide +kernel
theorem dX0_init_5 : decode cX0_init 5 = .ok (.bipush 24, 2) := by decide +kernel
theorem dX0_init_7 : decode cX0_init 7 = .ok (.iconst 4, 1) := by decide +kernel
theorem dX0_init_8 : decode cX0_init 8 = .ok (.multianewarray 9 2, 4) := by decide +kernel
theorem dX0_init_12 : decode cX0_init 12 = .ok (.putfield 11, 3) := by decide +kernel
theorem dX0_init_15 : decode cX0_init 15 = .ok (.return_, 1) := by decide +kernel
theorem dX0_forget_0 : decode cX0_forget 0 = .ok (.aload_n 0, 1) := by decide +kernel
theorem dX0_forget_1 : decode cX0_forget 1 = .ok (.iconst 0, 1) := by decide +kernel
theorem dX0_forget_2 : decode cX0_forget 2 = .ok (.putfield 16, 3) := by decide +kernel
theorem dX0_forget_5 : decode cX0_forget 5 = .ok (.aload_n 0, 1) := by decide +kernel
theorem dX0_forget_6 : decode cX0_forget 6 = .ok (.iconst 0, 1) := by decide +kernel
theorem dX0_forget_7 : decode cX0_forget 7 = .ok (.putfield 20, 3) := by decide +kernel
theorem dX0_forget_10 : decode cX0_forget 10 = .ok (.return_, 1) := by decide +kernel
theorem dX0_keep_0 : decode cX0_keep 0 = .ok (.aload_n 0, 1) := by decide +kernel
theorem dX0_keep_1 : decode cX0_keep 1 = .ok (.getfield 20, 3) := by decide +kernel
theorem dX0_keep_4 : decode cX0_keep 4 = .ok (.bipush 24, 2) := by decide +kernel
theorem dX0_keep_6 : decode cX0_keep 6 = .ok (.if_icmp .ne 26, 3) := by decide +kernel
theorem dX0_keep_9 : decode cX0_keep 9 = .ok (.aload_n 0, 1) := by decide +kernel
theorem dX0_keep_10 : decode cX0_keep 10 = .ok (.aload_n 0, 1) := by decide +kernel
theorem dX0_keep_11 : decode cX0_keep 11 = .ok (.getfield 16, 3) := by decide +kernel
theorem dX0_keep_14 : decode cX0_keep 14 = .ok (.iconst 1, 1) := by decide +kernel
theorem dX0_keep_15 : decode cX0_keep 15 = .ok (.iadd, 1) := by decide +kernel
theorem dX0_keep_16 : decode cX0_keep 16 = .ok (.bipush 24, 2) := by decide +kernel
theorem dX0_keep_18 : decode cX0_keep 18 = .ok (.irem, 1) := by decide +kernel
theorem dX0_keep_19 : decode cX0_keep 19 = .ok (.putfield 16, 3) := by decide +kernel
theorem dX0_keep_22 : decode cX0_keep 22 = .ok (.aload_n 0, 1) := by decide +kernel
theorem dX0_keep_23 : decode cX0_keep 23 = .ok (.dup, 1) := by decide +kernel
theorem dX0_keep_24 : decode cX0_keep 24 = .ok (.getfield 20, 3) := by decide +kernel
theorem dX0_keep_27 : decode cX0_keep 27 = .ok (.iconst 1, 1) := by decide +kernel
theorem dX0_keep_28 : decode cX0_keep 28 = .ok (.isub, 1) := by decide +kernel
theorem dX0_keep_29 : decode cX0_keep 29 = .ok (.putfield 20, 3) := by decide +kernel
theorem dX0_keep_32 : decode cX0_keep 32 = .ok (.aload_n 0, 1) := by decide +kernel
theorem dX0_keep_33 : decode cX0_keep 33 = .ok (.getfield 11, 3) := by decide +kernel
theorem dX0_keep_36 : decode cX0_keep 36 = .ok (.aload_n 0, 1) := by decide +kernel
theorem dX0_keep_37 : decode cX0_keep 37 = .ok (.getfield 16, 3) := by decide +kernel
theorem dX0_keep_40 : decode cX0_keep 40 = .ok (.aload_n 0, 1) := by decide +kernel
theorem dX0_keep_41 : decode cX0_keep 41 = .ok (.getfield 20, 3) := by decide +kernel
theorem dX0_keep_44 : decode cX0_keep 44 = .ok (.iadd, 1) := by decide +kernel
theorem dX0_keep_45 : decode cX0_keep 45 = .ok (.bipush 24, 2) := by decide +kernel
theorem dX0_keep_47 : decode cX0_keep 47 = .ok (.irem, 1) := by decide +kernel
theorem dX0_keep_48 : decode cX0_keep 48 = .ok (.aaload, 1) := by decide +kernel
theorem dX0_keep_49 : decode cX0_keep 49 = .ok (.astore 5, 2) := by decide +kernel
theorem dX0_keep_51 : decode cX0_keep 51 = .ok (.aload 5, 2) := by decide +kernel
theorem dX0_keep_53 : decode cX0_keep 53 = .ok (.iconst 0, 1) := by decide +kernel
theorem dX0_keep_54 : decode cX0_keep 54 = .ok (.iload_n 1, 1) := by decide +kernel
theorem dX0_keep_55 : decode cX0_keep 55 = .ok (.iastore, 1) := by decide +kernel
theorem dX0_keep_56 : decode cX0_keep 56 = .ok (.aload 5, 2) := by decide +kernel
theorem dX0_keep_58 : decode cX0_keep 58 = .ok (.iconst 1, 1) := by decide +kernel
theorem dX0_keep_59 : decode cX0_keep 59 = .ok (.iload_n 2, 1) := by decide +kernel
theorem dX0_keep_60 : decode cX0_keep 60 = .ok (.iastore, 1) := by decide +kernel
theorem dX0_keep_61 : decode cX0_keep 61 = .ok (.aload 5, 2) := by decide +kernel
theorem dX0_keep_63 : decode cX0_keep 63 = .ok (.iconst 2, 1) := by decide +kernel
theorem dX0_keep_64 : decode cX0_keep 64 = .ok (.iload_n 3, 1) := by decide +kernel
theorem dX0_keep_65 : decode cX0_keep 65 = .ok (.iastore, 1) := by decide +kernel
theorem dX0_keep_66 : decode cX0_keep 66 = .ok (.aload 5, 2) := by decide +kernel
theorem dX0_keep_68 : decode cX0_keep 68 = .ok (.iconst 3, 1) := by decide +kernel
theorem dX0_keep_69 : decode cX0_keep 69 = .ok (.iload 4, 2) := by decide +kernel
theorem dX0_keep_71 : decode cX0_keep 71 = .ok (.iastore, 1) := by decide +kernel
theorem dX0_keep_72 : decode cX0_keep 72 = .ok (.aload_n 0, 1) := by decide +kernel
theorem dX0_keep_73 : decode cX0_keep 73 = .ok (.dup, 1) := by decide +kernel
theorem dX0_keep_74 : decode cX0_keep 74 = .ok (.getfield 20, 3) := by decide +kernel
theorem dX0_keep_77 : decode cX0_keep 77 = .ok (.iconst 1, 1) := by decide +kernel
theorem dX0_keep_78 : decode cX0_keep 78 = .ok (.iadd, 1) := by decide +kernel
theorem dX0_keep_79 : decode cX0_keep 79 = .ok (.putfield 20, 3) := by decide +kernel
theorem dX0_keep_82 : decode cX0_keep 82 = .ok (.return_, 1) := by decide +kernel
theorem dX0_takeBack_0 : decode cX0_takeBack 0 = .ok (.aload_n 0, 1) := by decide +kernel
theorem dX0_takeBack_1 : decode cX0_takeBack 1 = .ok (.getfield 20, 3) := by decide +kernel
theorem dX0_takeBack_4 : decode cX0_takeBack 4 = .ok (.ifCond .ne 4, 3) := by decide +kernel
theorem dX0_takeBack_7 : decode cX0_takeBack 7 = .ok (.return_, 1) := by decide +kernel
theorem dX0_takeBack_8 : decode cX0_takeBack 8 = .ok (.aload_n 0, 1) := by decide +kernel
theorem dX0_takeBack_9 : decode cX0_takeBack 9 = .ok (.dup, 1) := by decide +kernel
theorem dX0_takeBack_10 : decode cX0_takeBack 10 = .ok (.getfield 20, 3) := by decide +kernel
theorem dX0_takeBack_13 : decode cX0_takeBack 13 = .ok (.iconst 1, 1) := by decide +kernel
theorem dX0_takeBack_14 : decode cX0_takeBack 14 = .ok (.isub, 1) := by decide +kernel
theorem dX0_takeBack_15 : decode cX0_takeBack 15 = .ok (.putfield 20, 3) := by decide +kernel
theorem dX0_takeBack_18 : decode cX0_takeBack 18 = .ok (.aload_n 0, 1) := by decide +kernel
theorem dX0_takeBack_19 : decode cX0_takeBack 19 = .ok (.getfield 11, 3) := by decide +kernel
theorem dX0_takeBack_22 : decode cX0_takeBack 22 = .ok (.aload_n 0, 1) := by decide +kernel
theorem dX0_takeBack_23 : decode cX0_takeBack 23 = .ok (.getfield 16, 3) := by decide +kernel
theorem dX0_takeBack_26 : decode cX0_takeBack 26 = .ok (.aload_n 0, 1) := by decide +kernel
theorem dX0_takeBack_27 : decode cX0_takeBack 27 = .ok (.getfield 20, 3) := by decide +kernel
theorem dX0_takeBack_30 : decode cX0_takeBack 30 = .ok (.iadd, 1) := by decide +kernel
theorem dX0_takeBack_31 : decode cX0_takeBack 31 = .ok (.bipush 24, 2) := by decide +kernel
theorem dX0_takeBack_33 : decode cX0_takeBack 33 = .ok (.irem, 1) := by decide +kernel
theorem dX0_takeBack_34 : decode cX0_takeBack 34 = .ok (.aaload, 1) := by decide +kernel
theorem dX0_takeBack_35 : decode cX0_takeBack 35 = .ok (.astore_n 2, 1) := by decide +kernel
theorem dX0_takeBack_36 : decode cX0_takeBack 36 = .ok (.aload_n 2, 1) := by decide +kernel
theorem dX0_takeBack_37 : decode cX0_takeBack 37 = .ok (.iconst 0, 1) := by decide +kernel
theorem dX0_takeBack_38 : decode cX0_takeBack 38 = .ok (.iaload, 1) := by decide +kernel
theorem dX0_takeBack_39 : decode cX0_takeBack 39 = .ok (.tableswitch 83 0 2 #[25, 59, 73], 25) := by decide +kernel
theorem dX0_takeBack_64 : decode cX0_takeBack 64 = .ok (.aload_n 1, 1) := by decide +kernel
theorem dX0_takeBack_65 : decode cX0_takeBack 65 = .ok (.aload_n 2, 1) := by decide +kernel
theorem dX0_takeBack_66 : decode cX0_takeBack 66 = .ok (.iconst 1, 1) := by decide +kernel
theorem dX0_takeBack_67 : decode cX0_takeBack 67 = .ok (.iaload, 1) := by decide +kernel
theorem dX0_takeBack_68 : decode cX0_takeBack 68 = .ok (.putfield 23, 3) := by decide +kernel
theorem dX0_takeBack_71 : decode cX0_takeBack 71 = .ok (.aload_n 1, 1) := by decide +kernel
theorem dX0_takeBack_72 : decode cX0_takeBack 72 = .ok (.aload_n 2, 1) := by decide +kernel
theorem dX0_takeBack_73 : decode cX0_takeBack 73 = .ok (.iconst 2, 1) := by decide +kernel
theorem dX0_takeBack_74 : decode cX0_takeBack 74 = .ok (.iaload, 1) := by decide +kernel
theorem dX0_takeBack_75 : decode cX0_takeBack 75 = .ok (.putfield 28, 3) := by decide +kernel
theorem dX0_takeBack_78 : decode cX0_takeBack 78 = .ok (.aload_n 1, 1) := by decide +kernel
theorem dX0_takeBack_79 : decode cX0_takeBack 79 = .ok (.aload_n 2, 1) := by decide +kernel
theorem dX0_takeBack_80 : decode cX0_takeBack 80 = .ok (.iconst 3, 1) := by decide +kernel
theorem dX0_takeBack_81 : decode cX0_takeBack 81 = .ok (.iaload, 1) := by decide +kernel
theorem dX0_takeBack_82 : decode cX0_takeBack 82 = .ok (.putfield 31, 3) := by decide +kernel
theorem dX0_takeBack_85 : decode cX0_takeBack 85 = .ok (.aload_n 1, 1) := by decide +kernel
theorem dX0_takeBack_86 : decode cX0_takeBack 86 = .ok (.dup, 1) := by decide +kernel
theorem dX0_takeBack_87 : decode cX0_takeBack 87 = .ok (.getfield 34, 3) := by decide +kernel
theorem dX0_takeBack_90 : decode cX0_takeBack 90 = .ok (.iconst 1, 1) := by decide +kernel
theorem dX0_takeBack_91 : decode cX0_takeBack 91 = .ok (.isub, 1) := by decide +kernel
theorem dX0_takeBack_92 : decode cX0_takeBack 92 = .ok (.putfield 34, 3) := by decide +kernel
theorem dX0_takeBack_95 : decode cX0_takeBack 95 = .ok (.goto 34, 3) := by decide +kernel
theorem dX0_takeBack_98 : decode cX0_takeBack 98 = .ok (.aload_n 1, 1) := by decide +kernel
theorem dX0_takeBack_99 : decode cX0_takeBack 99 = .ok (.getfield 37, 3) := by decide +kernel
theorem dX0_takeBack_102 : decode cX0_takeBack 102 = .ok (.aload_n 2, 1) := by decide +kernel
theorem dX0_takeBack_103 : decode cX0_takeBack 103 = .ok (.iconst 1, 1) := by decide +kernel
theorem dX0_takeBack_104 : decode cX0_takeBack 104 = .ok (.iaload, 1) := by decide +kernel
theorem dX0_takeBack_105 : decode cX0_takeBack 105 = .ok (.aload_n 2, 1) := by decide +kernel
theorem dX0_takeBack_106 : decode cX0_takeBack 106 = .ok (.iconst 2, 1) := by decide +kernel
theorem dX0_takeBack_107 : decode cX0_takeBack 107 = .ok (.iaload, 1) := by decide +kernel
theorem dX0_takeBack_108 : decode cX0_takeBack 108 = .ok (.iastore, 1) := by decide +kernel
theorem dX0_takeBack_109 : decode cX0_takeBack 109 = .ok (.goto 20, 3) := by decide +kernel
theorem dX0_takeBack_112 : decode cX0_takeBack 112 = .ok (.aload_n 1, 1) := by decide +kernel
theorem dX0_takeBack_113 : decode cX0_takeBack 113 = .ok (.aload_n 2, 1) := by decide +kernel
theorem dX0_takeBack_114 : decode cX0_takeBack 114 = .ok (.iconst 1, 1) := by decide +kernel
theorem dX0_takeBack_115 : decode cX0_takeBack 115 = .ok (.iaload, 1) := by decide +kernel
theorem dX0_takeBack_116 : decode cX0_takeBack 116 = .ok (.putfield 31, 3) := by decide +kernel
theorem dX0_takeBack_119 : decode cX0_takeBack 119 = .ok (.goto 10, 3) := by decide +kernel
theorem dX0_takeBack_122 : decode cX0_takeBack 122 = .ok (.aload_n 1, 1) := by decide +kernel
theorem dX0_takeBack_123 : decode cX0_takeBack 123 = .ok (.aload_n 2, 1) := by decide +kernel
theorem dX0_takeBack_124 : decode cX0_takeBack 124 = .ok (.iconst 1, 1) := by decide +kernel
theorem dX0_takeBack_125 : decode cX0_takeBack 125 = .ok (.iaload, 1) := by decide +kernel
theorem dX0_takeBack_126 : decode cX0_takeBack 126 = .ok (.invokevirtual 41, 3) := by decide +kernel
theorem dX0_takeBack_129 : decode cX0_takeBack 129 = .ok (.return_, 1) := by decide +kernel
theorem dX1_init_0 : decode cX1_init 0 = .ok (.aload_n 0, 1) := by decide +kernel
theorem dX1_init_1 : decode cX1_init 1 = .ok (.invokespecial 3, 3) := by decide +kernel
theorem dX1_init_4 : decode cX1_init 4 = .ok (.aload_n 0, 1) := by decide +kernel
theorem dX1_init_5 : decode cX1_init 5 = .ok (.bipush 16, 2) := by decide +kernel
theorem dX1_init_7 : decode cX1_init 7 = .ok (.newarray .int, 2) := by decide +kernel
theorem dX1_init_9 : decode cX1_init 9 = .ok (.putfield 9, 3) := by decide +kernel
theorem dX1_init_12 : decode cX1_init 12 = .ok (.return_, 1) := by decide +kernel
theorem dX1_answerOf_0 : decode cX1_answerOf 0 = .ok (.aload_n 0, 1) := by decide +kernel
theorem dX1_answerOf_1 : decode cX1_answerOf 1 = .ok (.iconst 0, 1) := by decide +kernel
theorem dX1_answerOf_2 : decode cX1_answerOf 2 = .ok (.putfield 15, 3) := by decide +kernel
theorem dX1_answerOf_5 : decode cX1_answerOf 5 = .ok (.aload_n 1, 1) := by decide +kernel
theorem dX1_answerOf_6 : decode cX1_answerOf 6 = .ok (.getfield 19, 3) := by decide +kernel
theorem dX1_answerOf_9 : decode cX1_answerOf 9 = .ok (.iload_n 2, 1) := by decide +kernel
theorem dX1_answerOf_10 : decode cX1_answerOf 10 = .ok (.iaload, 1) := by decide +kernel
theorem dX1_answerOf_11 : decode cX1_answerOf 11 = .ok (.istore 4, 2) := by decide +kernel
theorem dX1_answerOf_13 : decode cX1_answerOf 13 = .ok (.iload_n 3, 1) := by decide +kernel
theorem dX1_answerOf_14 : decode cX1_answerOf 14 = .ok (.ifCond .ne 12, 3) := by decide +kernel
theorem dX1_answerOf_17 : decode cX1_answerOf 17 = .ok (.getstatic 24, 3) := by decide +kernel
theorem dX1_answerOf_20 : decode cX1_answerOf 20 = .ok (.iload 4, 2) := by decide +kernel
theorem dX1_answerOf_22 : decode cX1_answerOf 22 = .ok (.iaload, 1) := by decide +kernel
theorem dX1_answerOf_23 : decode cX1_answerOf 23 = .ok (.goto 9, 3) := by decide +kernel
theorem dX1_answerOf_26 : decode cX1_answerOf 26 = .ok (.getstatic 27, 3) := by decide +kernel
theorem dX1_answerOf_29 : decode cX1_answerOf 29 = .ok (.iload 4, 2) := by decide +kernel
theorem dX1_answerOf_31 : decode cX1_answerOf 31 = .ok (.iaload, 1) := by decide +kernel
theorem dX1_answerOf_32 : decode cX1_answerOf 32 = .ok (.istore 5, 2) := by decide +kernel
theorem dX1_answerOf_34 : decode cX1_answerOf 34 = .ok (.aload_n 0, 1) := by decide +kernel
theorem dX1_answerOf_35 : decode cX1_answerOf 35 = .ok (.iload 5, 2) := by decide +kernel
theorem dX1_answerOf_37 : decode cX1_answerOf 37 = .ok (.aload_n 1, 1) := by decide +kernel
theorem dX1_answerOf_38 : decode cX1_answerOf 38 = .ok (.iload_n 2, 1) := by decide +kernel
theorem dX1_answerOf_39 : decode cX1_answerOf 39 = .ok (.iconst 0, 1) := by decide +kernel
theorem dX1_answerOf_40 : decode cX1_answerOf 40 = .ok (.invokevirtual 30, 3) := by decide +kernel
theorem dX1_answerOf_43 : decode cX1_answerOf 43 = .ok (.ireturn, 1) := by decide +kernel
theorem dX1_gives_0 : decode cX1_gives 0 = .ok (.iload 4, 2) := by decide +kernel
theorem dX1_gives_2 : decode cX1_gives 2 = .ok (.bipush 16, 2) := by decide +kernel
theorem dX1_gives_4 : decode cX1_gives 4 = .ok (.if_icmp .lt 5, 3) := by decide +kernel
theorem dX1_gives_7 : decode cX1_gives 7 = .ok (.iconst 0, 1) := by decide +kernel
theorem dX1_gives_8 : decode cX1_gives 8 = .ok (.ireturn, 1) := by decide +kernel
theorem dX1_gives_9 : decode cX1_gives 9 = .ok (.aload_n 0, 1) := by decide +kernel
theorem dX1_gives_10 : decode cX1_gives 10 = .ok (.iload_n 1, 1) := by decide +kernel
theorem dX1_gives_11 : decode cX1_gives 11 = .ok (.invokevirtual 34, 3) := by decide +kernel
theorem dX1_gives_14 : decode cX1_gives 14 = .ok (.iload 4, 2) := by decide +kernel
theorem dX1_gives_16 : decode cX1_gives 16 = .ok (.iconst 1, 1) := by decide +kernel
theorem dX1_gives_17 : decode cX1_gives 17 = .ok (.iadd, 1) := by decide +kernel
theorem dX1_gives_18 : decode cX1_gives 18 = .ok (.istore 5, 2) := by decide +kernel
theorem dX1_gives_20 : decode cX1_gives 20 = .ok (.aload_n 2, 1) := by decide +kernel
theorem dX1_gives_21 : decode cX1_gives 21 = .ok (.getfield 19, 3) := by decide +kernel
theorem dX1_gives_24 : decode cX1_gives 24 = .ok (.iload_n 3, 1) := by decide +kernel
theorem dX1_gives_25 : decode cX1_gives 25 = .ok (.iaload, 1) := by decide +kernel
theorem dX1_gives_26 : decode cX1_gives 26 = .ok (.istore 6, 2) := by decide +kernel
theorem dX1_gives_28 : decode cX1_gives 28 = .ok (.iload_n 1, 1) := by decide +kernel
theorem dX1_gives_29 : decode cX1_gives 29 = .ok (.tableswitch 221 10 24 #[75, 82, 108, 120, 134, 221, 221, 221, 221, 221, 147, 149, 167, 182, 208], 75) := by decide +kernel
theorem dX1_gives_104 : decode cX1_gives 104 = .ok (.aload_n 2, 1) := by decide +kernel
theorem dX1_gives_105 : decode cX1_gives 105 = .ok (.getfield 38, 3) := by decide +kernel
theorem dX1_gives_108 : decode cX1_gives 108 = .ok (.iload_n 3, 1) := by decide +kernel
theorem dX1_gives_109 : decode cX1_gives 109 = .ok (.iaload, 1) := by decide +kernel
theorem dX1_gives_110 : decode cX1_gives 110 = .ok (.ireturn, 1) := by decide +kernel
theorem dX1_gives_111 : decode cX1_gives 111 = .ok (.aload_n 0, 1) := by decide +kernel
theorem dX1_gives_112 : decode cX1_gives 112 = .ok (.bipush 10, 2) := by decide +kernel
theorem dX1_gives_114 : decode cX1_gives 114 = .ok (.aload_n 2, 1) := by decide +kernel
theorem dX1_gives_115 : decode cX1_gives 115 = .ok (.iload_n 3, 1) := by decide +kernel
theorem dX1_gives_116 : decode cX1_gives 116 = .ok (.iload 5, 2) := by decide +kernel
theorem dX1_gives_118 : decode cX1_gives 118 = .ok (.invokevirtual 30, 3) := by decide +kernel
theorem dX1_gives_121 : decode cX1_gives 121 = .ok (.aload_n 0, 1) := by decide +kernel
theorem dX1_gives_122 : decode cX1_gives 122 = .ok (.getstatic 27, 3) := by decide +kernel
theorem dX1_gives_125 : decode cX1_gives 125 = .ok (.iload 6, 2) := by decide +kernel
theorem dX1_gives_127 : decode cX1_gives 127 = .ok (.iaload, 1) := by decide +kernel
theorem dX1_gives_128 : decode cX1_gives 128 = .ok (.aload_n 2, 1) := by decide +kernel
theorem dX1_gives_129 : decode cX1_gives 129 = .ok (.iload_n 3, 1) := by decide +kernel
theorem dX1_gives_130 : decode cX1_gives 130 = .ok (.iload 5, 2) := by decide +kernel
theorem dX1_gives_132 : decode cX1_gives 132 = .ok (.invokevirtual 30, 3) := by decide +kernel
theorem dX1_gives_135 : decode cX1_gives 135 = .ok (.iadd, 1) := by decide +kernel
theorem dX1_gives_136 : decode cX1_gives 136 = .ok (.ireturn, 1) := by decide +kernel
theorem dX1_gives_137 : decode cX1_gives 137 = .ok (.aload_n 0, 1) := by decide +kernel
theorem dX1_gives_138 : decode cX1_gives 138 = .ok (.bipush 11, 2) := by decide +kernel
theorem dX1_gives_140 : decode cX1_gives 140 = .ok (.aload_n 2, 1) := by decide +kernel
theorem dX1_gives_141 : decode cX1_gives 141 = .ok (.iload_n 3, 1) := by decide +kernel
theorem dX1_gives_142 : decode cX1_gives 142 = .ok (.iload 5, 2) := by decide +kernel
theorem dX1_gives_144 : decode cX1_gives 144 = .ok (.invokevirtual 30, 3) := by decide +kernel
theorem dX1_gives_147 : decode cX1_gives 147 = .ok (.ineg, 1) := by decide +kernel
theorem dX1_gives_148 : decode cX1_gives 148 = .ok (.ireturn, 1) := by decide +kernel
theorem dX1_gives_149 : decode cX1_gives 149 = .ok (.aload_n 0, 1) := by decide +kernel
theorem dX1_gives_150 : decode cX1_gives 150 = .ok (.bipush 10, 2) := by decide +kernel
theorem dX1_gives_152 : decode cX1_gives 152 = .ok (.aload_n 2, 1) := by decide +kernel
theorem dX1_gives_153 : decode cX1_gives 153 = .ok (.iload_n 3, 1) := by decide +kernel
theorem dX1_gives_154 : decode cX1_gives 154 = .ok (.iload 5, 2) := by decide +kernel
theorem dX1_gives_156 : decode cX1_gives 156 = .ok (.invokevirtual 30, 3) := by decide +kernel
theorem dX1_gives_159 : decode cX1_gives 159 = .ok (.bipush 100, 2) := by decide +kernel
theorem dX1_gives_161 : decode cX1_gives 161 = .ok (.isub, 1) := by decide +kernel
theorem dX1_gives_162 : decode cX1_gives 162 = .ok (.ireturn, 1) := by decide +kernel
theorem dX1_gives_163 : decode cX1_gives 163 = .ok (.iconst 2, 1) := by decide +kernel
theorem dX1_gives_164 : decode cX1_gives 164 = .ok (.aload_n 0, 1) := by decide +kernel
theorem dX1_gives_165 : decode cX1_gives 165 = .ok (.bipush 13, 2) := by decide +kernel
theorem dX1_gives_167 : decode cX1_gives 167 = .ok (.aload_n 2, 1) := by decide +kernel
theorem dX1_gives_168 : decode cX1_gives 168 = .ok (.iload_n 3, 1) := by decide +kernel
theorem dX1_gives_169 : decode cX1_gives 169 = .ok (.iload 5, 2) := by decide +kernel
theorem dX1_gives_171 : decode cX1_gives 171 = .ok (.invokevirtual 30, 3) := by decide +kernel
theorem dX1_gives_174 : decode cX1_gives 174 = .ok (.imul, 1) := by decide +kernel
theorem dX1_gives_175 : decode cX1_gives 175 = .ok (.ireturn, 1) := by decide +kernel
theorem dX1_gives_176 : decode cX1_gives 176 = .ok (.iload_n 3, 1) := by decide +kernel
theorem dX1_gives_177 : decode cX1_gives 177 = .ok (.ireturn, 1) := by decide +kernel
theorem dX1_gives_178 : decode cX1_gives 178 = .ok (.aload_n 0, 1) := by decide +kernel
theorem dX1_gives_179 : decode cX1_gives 179 = .ok (.bipush 20, 2) := by decide +kernel
theorem dX1_gives_181 : decode cX1_gives 181 = .ok (.aload_n 2, 1) := by decide +kernel
theorem dX1_gives_182 : decode cX1_gives 182 = .ok (.iload_n 3, 1) := by decide +kernel
theorem dX1_gives_183 : decode cX1_gives 183 = .ok (.iload 5, 2) := by decide +kernel
theorem dX1_gives_185 : decode cX1_gives 185 = .ok (.invokevirtual 30, 3) := by decide +kernel
theorem dX1_gives_188 : decode cX1_gives 188 = .ok (.aload_n 2, 1) := by decide +kernel
theorem dX1_gives_189 : decode cX1_gives 189 = .ok (.getfield 41, 3) := by decide +kernel
theorem dX1_gives_192 : decode cX1_gives 192 = .ok (.iload_n 3, 1) := by decide +kernel
theorem dX1_gives_193 : decode cX1_gives 193 = .ok (.iaload, 1) := by decide +kernel
theorem dX1_gives_194 : decode cX1_gives 194 = .ok (.iadd, 1) := by decide +kernel
theorem dX1_gives_195 : decode cX1_gives 195 = .ok (.ireturn, 1) := by decide +kernel
theorem dX1_gives_196 : decode cX1_gives 196 = .ok (.aload_n 0, 1) := by decide +kernel
theorem dX1_gives_197 : decode cX1_gives 197 = .ok (.bipush 21, 2) := by decide +kernel
theorem dX1_gives_199 : decode cX1_gives 199 = .ok (.aload_n 2, 1) := by decide +kernel
theorem dX1_gives_200 : decode cX1_gives 200 = .ok (.iload_n 3, 1) := by decide +kernel
theorem dX1_gives_201 : decode cX1_gives 201 = .ok (.iload 5, 2) := by decide +kernel
theorem dX1_gives_203 : decode cX1_gives 203 = .ok (.invokevirtual 30, 3) := by decide +kernel
theorem dX1_gives_206 : decode cX1_gives 206 = .ok (.sipush 1000, 3) := by decide +kernel
theorem dX1_gives_209 : decode cX1_gives 209 = .ok (.isub, 1) := by decide +kernel
theorem dX1_gives_210 : decode cX1_gives 210 = .ok (.ireturn, 1) := by decide +kernel
theorem dX1_gives_211 : decode cX1_gives 211 = .ok (.aload_n 0, 1) := by decide +kernel
theorem dX1_gives_212 : decode cX1_gives 212 = .ok (.bipush 20, 2) := by decide +kernel
theorem dX1_gives_214 : decode cX1_gives 214 = .ok (.aload_n 2, 1) := by decide +kernel
theorem dX1_gives_215 : decode cX1_gives 215 = .ok (.iload_n 3, 1) := by decide +kernel
theorem dX1_gives_216 : decode cX1_gives 216 = .ok (.iload 5, 2) := by decide +kernel
theorem dX1_gives_218 : decode cX1_gives 218 = .ok (.invokevirtual 30, 3) := by decide +kernel
theorem dX1_gives_221 : decode cX1_gives 221 = .ok (.aload_n 0, 1) := by decide +kernel
theorem dX1_gives_222 : decode cX1_gives 222 = .ok (.getstatic 24, 3) := by decide +kernel
theorem dX1_gives_225 : decode cX1_gives 225 = .ok (.iload 6, 2) := by decide +kernel
theorem dX1_gives_227 : decode cX1_gives 227 = .ok (.iaload, 1) := by decide +kernel
theorem dX1_gives_228 : decode cX1_gives 228 = .ok (.aload_n 2, 1) := by decide +kernel
theorem dX1_gives_229 : decode cX1_gives 229 = .ok (.iload_n 3, 1) := by decide +kernel
theorem dX1_gives_230 : decode cX1_gives 230 = .ok (.iload 5, 2) := by decide +kernel
theorem dX1_gives_232 : decode cX1_gives 232 = .ok (.invokevirtual 30, 3) := by decide +kernel
theorem dX1_gives_235 : decode cX1_gives 235 = .ok (.isub, 1) := by decide +kernel
theorem dX1_gives_236 : decode cX1_gives 236 = .ok (.ireturn, 1) := by decide +kernel
theorem dX1_gives_237 : decode cX1_gives 237 = .ok (.iconst 2, 1) := by decide +kernel
theorem dX1_gives_238 : decode cX1_gives 238 = .ok (.aload_n 0, 1) := by decide +kernel
theorem dX1_gives_239 : decode cX1_gives 239 = .ok (.bipush 21, 2) := by decide +kernel
theorem dX1_gives_241 : decode cX1_gives 241 = .ok (.aload_n 2, 1) := by decide +kernel
theorem dX1_gives_242 : decode cX1_gives 242 = .ok (.iload_n 3, 1) := by decide +kernel
theorem dX1_gives_243 : decode cX1_gives 243 = .ok (.iload 5, 2) := by decide +kernel
theorem dX1_gives_245 : decode cX1_gives 245 = .ok (.invokevirtual 30, 3) := by decide +kernel
theorem dX1_gives_248 : decode cX1_gives 248 = .ok (.imul, 1) := by decide +kernel
theorem dX1_gives_249 : decode cX1_gives 249 = .ok (.ireturn, 1) := by decide +kernel
theorem dX1_gives_250 : decode cX1_gives 250 = .ok (.iconst 0, 1) := by decide +kernel
theorem dX1_gives_251 : decode cX1_gives 251 = .ok (.ireturn, 1) := by decide +kernel
theorem dX1_leave_0 : decode cX1_leave 0 = .ok (.aload_n 0, 1) := by decide +kernel
theorem dX1_leave_1 : decode cX1_leave 1 = .ok (.getfield 15, 3) := by decide +kernel
theorem dX1_leave_4 : decode cX1_leave 4 = .ok (.bipush 16, 2) := by decide +kernel
theorem dX1_leave_6 : decode cX1_leave 6 = .ok (.if_icmp .ge 23, 3) := by decide +kernel
theorem dX1_leave_9 : decode cX1_leave 9 = .ok (.aload_n 0, 1) := by decide +kernel
theorem dX1_leave_10 : decode cX1_leave 10 = .ok (.getfield 9, 3) := by decide +kernel
theorem dX1_leave_13 : decode cX1_leave 13 = .ok (.aload_n 0, 1) := by decide +kernel
theorem dX1_leave_14 : decode cX1_leave 14 = .ok (.getfield 15, 3) := by decide +kernel
theorem dX1_leave_17 : decode cX1_leave 17 = .ok (.iload_n 1, 1) := by decide +kernel
theorem dX1_leave_18 : decode cX1_leave 18 = .ok (.iastore, 1) := by decide +kernel
theorem dX1_leave_19 : decode cX1_leave 19 = .ok (.aload_n 0, 1) := by decide +kernel
theorem dX1_leave_20 : decode cX1_leave 20 = .ok (.dup, 1) := by decide +kernel
theorem dX1_leave_21 : decode cX1_leave 21 = .ok (.getfield 15, 3) := by decide +kernel
theorem dX1_leave_24 : decode cX1_leave 24 = .ok (.iconst 1, 1) := by decide +kernel
theorem dX1_leave_25 : decode cX1_leave 25 = .ok (.iadd, 1) := by decide +kernel
theorem dX1_leave_26 : decode cX1_leave 26 = .ok (.putfield 15, 3) := by decide +kernel
theorem dX1_leave_29 : decode cX1_leave 29 = .ok (.return_, 1) := by decide +kernel
theorem dX2_init_0 : decode cX2_init 0 = .ok (.aload_n 0, 1) := by decide +kernel
theorem dX2_init_1 : decode cX2_init 1 = .ok (.invokespecial 3, 3) := by decide +kernel
theorem dX2_init_4 : decode cX2_init 4 = .ok (.aload_n 0, 1) := by decide +kernel
theorem dX2_init_5 : decode cX2_init 5 = .ok (.bipush 8, 2) := by decide +kernel
theorem dX2_init_7 : decode cX2_init 7 = .ok (.newarray .int, 2) := by decide +kernel
theorem dX2_init_9 : decode cX2_init 9 = .ok (.putfield 9, 3) := by decide +kernel
theorem dX2_init_12 : decode cX2_init 12 = .ok (.aload_n 0, 1) := by decide +kernel
theorem dX2_init_13 : decode cX2_init 13 = .ok (.bipush 8, 2) := by decide +kernel
theorem dX2_init_15 : decode cX2_init 15 = .ok (.newarray .int, 2) := by decide +kernel
theorem dX2_init_17 : decode cX2_init 17 = .ok (.putfield 15, 3) := by decide +kernel
theorem dX2_init_20 : decode cX2_init 20 = .ok (.aload_n 0, 1) := by decide +kernel
theorem dX2_init_21 : decode cX2_init 21 = .ok (.bipush 8, 2) := by decide +kernel
theorem dX2_init_23 : decode cX2_init 23 = .ok (.bipush 40, 2) := by decide +kernel
theorem dX2_init_25 : decode cX2_init 25 = .ok (.multianewarray 18 2, 4) := by decide +kernel
theorem dX2_init_29 : decode cX2_init 29 = .ok (.putfield 20, 3) := by decide +kernel
theorem dX2_init_32 : decode cX2_init 32 = .ok (.iconst 0, 1) := by decide +kernel
theorem dX2_init_33 : decode cX2_init 33 = .ok (.istore_n 1, 1) := by decide +kernel
theorem dX2_init_34 : decode cX2_init 34 = .ok (.iload_n 1, 1) := by decide +kernel
theorem dX2_init_35 : decode cX2_init 35 = .ok (.bipush 8, 2) := by decide +kernel
theorem dX2_init_37 : decode cX2_init 37 = .ok (.if_icmp .ge 16, 3) := by decide +kernel
theorem dX2_init_40 : decode cX2_init 40 = .ok (.aload_n 0, 1) := by decide +kernel
theorem dX2_init_41 : decode cX2_init 41 = .ok (.getfield 15, 3) := by decide +kernel
theorem dX2_init_44 : decode cX2_init 44 = .ok (.iload_n 1, 1) := by decide +kernel
theorem dX2_init_45 : decode cX2_init 45 = .ok (.iconst (-1), 1) := by decide +kernel
theorem dX2_init_46 : decode cX2_init 46 = .ok (.iastore, 1) := by decide +kernel
theorem dX2_init_47 : decode cX2_init 47 = .ok (.iinc 1 1, 3) := by decide +kernel
theorem dX2_init_50 : decode cX2_init 50 = .ok (.goto (-16), 3) := by decide +kernel
theorem dX2_init_53 : decode cX2_init 53 = .ok (.return_, 1) := by decide +kernel
theorem dX2_isRow_0 : decode cX2_isRow 0 = .ok (.iload_n 0, 1) := by decide +kernel
theorem dX2_isRow_1 : decode cX2_isRow 1 = .ok (.ifCond .lt 13, 3) := by decide +kernel
theorem dX2_isRow_4 : decode cX2_isRow 4 = .ok (.iload_n 0, 1) := by decide +kernel
theorem dX2_isRow_5 : decode cX2_isRow 5 = .ok (.bipush 8, 2) := by decide +kernel
theorem dX2_isRow_7 : decode cX2_isRow 7 = .ok (.if_icmp .ge 7, 3) := by decide +kernel
theorem dX2_isRow_10 : decode cX2_isRow 10 = .ok (.iconst 1, 1) := by decide +kernel
theorem dX2_isRow_11 : decode cX2_isRow 11 = .ok (.goto 4, 3) := by decide +kernel
theorem dX2_isRow_14 : decode cX2_isRow 14 = .ok (.iconst 0, 1) := by decide +kernel
theorem dX2_isRow_15 : decode cX2_isRow 15 = .ok (.ireturn, 1) := by decide +kernel
theorem dX2_isMissing_0 : decode cX2_isMissing 0 = .ok (.aload_n 0, 1) := by decide +kernel
theorem dX2_isMissing_1 : decode cX2_isMissing 1 = .ok (.getfield 15, 3) := by decide +kernel
theorem dX2_isMissing_4 : decode cX2_isMissing 4 = .ok (.iload_n 1, 1) := by decide +kernel
theorem dX2_isMissing_5 : decode cX2_isMissing 5 = .ok (.iaload, 1) := by decide +kernel
theorem dX2_isMissing_6 : decode cX2_isMissing 6 = .ok (.iconst (-1), 1) := by decide +kernel
theorem dX2_isMissing_7 : decode cX2_isMissing 7 = .ok (.if_icmp .ne 7, 3) := by decide +kernel
theorem dX2_isMissing_10 : decode cX2_isMissing 10 = .ok (.iconst 1, 1) := by decide +kernel
theorem dX2_isMissing_11 : decode cX2_isMissing 11 = .ok (.goto 4, 3) := by decide +kernel
theorem dX2_isMissing_14 : decode cX2_isMissing 14 = .ok (.iconst 0, 1) := by decide +kernel
theorem dX2_isMissing_15 : decode cX2_isMissing 15 = .ok (.ireturn, 1) := by decide +kernel
theorem dX2_howMany_0 : decode cX2_howMany 0 = .ok (.iconst 0, 1) := by decide +kernel
theorem dX2_howMany_1 : decode cX2_howMany 1 = .ok (.istore_n 1, 1) := by decide +kernel
theorem dX2_howMany_2 : decode cX2_howMany 2 = .ok (.iconst 0, 1) := by decide +kernel
theorem dX2_howMany_3 : decode cX2_howMany 3 = .ok (.istore_n 2, 1) := by decide +kernel
theorem dX2_howMany_4 : decode cX2_howMany 4 = .ok (.iload_n 2, 1) := by decide +kernel
theorem dX2_howMany_5 : decode cX2_howMany 5 = .ok (.bipush 8, 2) := by decide +kernel
theorem dX2_howMany_7 : decode cX2_howMany 7 = .ok (.if_icmp .ge 20, 3) := by decide +kernel
theorem dX2_howMany_10 : decode cX2_howMany 10 = .ok (.aload_n 0, 1) := by decide +kernel
theorem dX2_howMany_11 : decode cX2_howMany 11 = .ok (.iload_n 2, 1) := by decide +kernel
theorem dX2_howMany_12 : decode cX2_howMany 12 = .ok (.invokevirtual 23, 3) := by decide +kernel
theorem dX2_howMany_15 : decode cX2_howMany 15 = .ok (.ifCond .ne 6, 3) := by decide +kernel
theorem dX2_howMany_18 : decode cX2_howMany 18 = .ok (.iinc 1 1, 3) := by decide +kernel
theorem dX2_howMany_21 : decode cX2_howMany 21 = .ok (.iinc 2 1, 3) := by decide +kernel
theorem dX2_howMany_24 : decode cX2_howMany 24 = .ok (.goto (-20), 3) := by decide +kernel
theorem dX2_howMany_27 : decode cX2_howMany 27 = .ok (.iload_n 1, 1) := by decide +kernel
theorem dX2_howMany_28 : decode cX2_howMany 28 = .ok (.ireturn, 1) := by decide +kernel
theorem dX2_lay_0 : decode cX2_lay 0 = .ok (.aload_n 0, 1) := by decide +kernel
theorem dX2_lay_1 : decode cX2_lay 1 = .ok (.getfield 9, 3) := by decide +kernel
theorem dX2_lay_4 : decode cX2_lay 4 = .ok (.iload_n 1, 1) := by decide +kernel
theorem dX2_lay_5 : decode cX2_lay 5 = .ok (.iload_n 2, 1) := by decide +kernel
theorem dX2_lay_6 : decode cX2_lay 6 = .ok (.iastore, 1) := by decide +kernel
theorem dX2_lay_7 : decode cX2_lay 7 = .ok (.aload_n 0, 1) := by decide +kernel
theorem dX2_lay_8 : decode cX2_lay 8 = .ok (.getfield 15, 3) := by decide +kernel
theorem dX2_lay_11 : decode cX2_lay 11 = .ok (.iload_n 1, 1) := by decide +kernel
theorem dX2_lay_12 : decode cX2_lay 12 = .ok (.iload_n 3, 1) := by decide +kernel
theorem dX2_lay_13 : decode cX2_lay 13 = .ok (.iastore, 1) := by decide +kernel
theorem dX2_lay_14 : decode cX2_lay 14 = .ok (.iconst 0, 1) := by decide +kernel
theorem dX2_lay_15 : decode cX2_lay 15 = .ok (.istore 4, 2) := by decide +kernel
theorem dX2_lay_17 : decode cX2_lay 17 = .ok (.iload 4, 2) := by decide +kernel
theorem dX2_lay_19 : decode cX2_lay 19 = .ok (.iload_n 3, 1) := by decide +kernel
theorem dX2_lay_20 : decode cX2_lay 20 = .ok (.if_icmp .ge 19, 3) := by decide +kernel
theorem dX2_lay_23 : decode cX2_lay 23 = .ok (.aload_n 0, 1) := by decide +kernel
theorem dX2_lay_24 : decode cX2_lay 24 = .ok (.getfield 20, 3) := by decide +kernel
theorem dX2_lay_27 : decode cX2_lay 27 = .ok (.iload_n 1, 1) := by decide +kernel
theorem dX2_lay_28 : decode cX2_lay 28 = .ok (.aaload, 1) := by decide +kernel
theorem dX2_lay_29 : decode cX2_lay 29 = .ok (.iload 4, 2) := by decide +kernel
theorem dX2_lay_31 : decode cX2_lay 31 = .ok (.iconst 0, 1) := by decide +kernel
theorem dX2_lay_32 : decode cX2_lay 32 = .ok (.iastore, 1) := by decide +kernel
theorem dX2_lay_33 : decode cX2_lay 33 = .ok (.iinc 4 1, 3) := by decide +kernel
theorem dX2_lay_36 : decode cX2_lay 36 = .ok (.goto (-19), 3) := by decide +kernel
theorem dX2_lay_39 : decode cX2_lay 39 = .ok (.return_, 1) := by decide +kernel
theorem dX2_lose_0 : decode cX2_lose 0 = .ok (.aload_n 0, 1) := by decide +kernel
theorem dX2_lose_1 : decode cX2_lose 1 = .ok (.getfield 15, 3) := by decide +kernel
theorem dX2_lose_4 : decode cX2_lose 4 = .ok (.iload_n 1, 1) := by decide +kernel
theorem dX2_lose_5 : decode cX2_lose 5 = .ok (.iaload, 1) := by decide +kernel
theorem dX2_lose_6 : decode cX2_lose 6 = .ok (.istore_n 2, 1) := by decide +kernel
theorem dX2_lose_7 : decode cX2_lose 7 = .ok (.aload_n 0, 1) := by decide +kernel
theorem dX2_lose_8 : decode cX2_lose 8 = .ok (.getfield 15, 3) := by decide +kernel
theorem dX2_lose_11 : decode cX2_lose 11 = .ok (.iload_n 1, 1) := by decide +kernel
theorem dX2_lose_12 : decode cX2_lose 12 = .ok (.iconst (-1), 1) := by decide +kernel
theorem dX2_lose_13 : decode cX2_lose 13 = .ok (.iastore, 1) := by decide +kernel
theorem dX2_lose_14 : decode cX2_lose 14 = .ok (.iload_n 2, 1) := by decide +kernel
theorem dX2_lose_15 : decode cX2_lose 15 = .ok (.ireturn, 1) := by decide +kernel
theorem dX2_put_0 : decode cX2_put 0 = .ok (.iload_n 3, 1) := by decide +kernel
theorem dX2_put_1 : decode cX2_put 1 = .ok (.istore 4, 2) := by decide +kernel
theorem dX2_put_3 : decode cX2_put 3 = .ok (.aload_n 0, 1) := by decide +kernel
theorem dX2_put_4 : decode cX2_put 4 = .ok (.getfield 9, 3) := by decide +kernel
theorem dX2_put_7 : decode cX2_put 7 = .ok (.iload_n 1, 1) := by decide +kernel
theorem dX2_put_8 : decode cX2_put 8 = .ok (.iaload, 1) := by decide +kernel
theorem dX2_put_9 : decode cX2_put 9 = .ok (.ifCond .ne 10, 3) := by decide +kernel
theorem dX2_put_12 : decode cX2_put 12 = .ok (.iload_n 3, 1) := by decide +kernel
theorem dX2_put_13 : decode cX2_put 13 = .ok (.i2b, 1) := by decide +kernel
theorem dX2_put_14 : decode cX2_put 14 = .ok (.istore 4, 2) := by decide +kernel
theorem dX2_put_16 : decode cX2_put 16 = .ok (.goto 17, 3) := by decide +kernel
theorem dX2_put_19 : decode cX2_put 19 = .ok (.aload_n 0, 1) := by decide +kernel
theorem dX2_put_20 : decode cX2_put 20 = .ok (.getfield 9, 3) := by decide +kernel
theorem dX2_put_23 : decode cX2_put 23 = .ok (.iload_n 1, 1) := by decide +kernel
theorem dX2_put_24 : decode cX2_put 24 = .ok (.iaload, 1) := by decide +kernel
theorem dX2_put_25 : decode cX2_put 25 = .ok (.iconst 1, 1) := by decide +kernel
theorem dX2_put_26 : decode cX2_put 26 = .ok (.if_icmp .ne 7, 3) := by decide +kernel
theorem dX2_put_29 : decode cX2_put 29 = .ok (.iload_n 3, 1) := by decide +kernel
theorem dX2_put_30 : decode cX2_put 30 = .ok (.i2s, 1) := by decide +kernel
theorem dX2_put_31 : decode cX2_put 31 = .ok (.istore 4, 2) := by decide +kernel
theorem dX2_put_33 : decode cX2_put 33 = .ok (.aload_n 0, 1) := by decide +kernel
theorem dX2_put_34 : decode cX2_put 34 = .ok (.getfield 20, 3) := by decide +kernel
theorem dX2_put_37 : decode cX2_put 37 = .ok (.iload_n 1, 1) := by decide +kernel
theorem dX2_put_38 : decode cX2_put 38 = .ok (.aaload, 1) := by decide +kernel
theorem dX2_put_39 : decode cX2_put 39 = .ok (.iload_n 2, 1) := by decide +kernel
theorem dX2_put_40 : decode cX2_put 40 = .ok (.iload 4, 2) := by decide +kernel
theorem dX2_put_42 : decode cX2_put 42 = .ok (.iastore, 1) := by decide +kernel
theorem dX2_put_43 : decode cX2_put 43 = .ok (.iload 4, 2) := by decide +kernel
theorem dX2_put_45 : decode cX2_put 45 = .ok (.ireturn, 1) := by decide +kernel
theorem dX2_move_0 : decode cX2_move 0 = .ok (.aload_n 0, 1) := by decide +kernel
theorem dX2_move_1 : decode cX2_move 1 = .ok (.getfield 20, 3) := by decide +kernel
theorem dX2_move_4 : decode cX2_move 4 = .ok (.iload_n 1, 1) := by decide +kernel
theorem dX2_move_5 : decode cX2_move 5 = .ok (.aaload, 1) := by decide +kernel
theorem dX2_move_6 : decode cX2_move 6 = .ok (.iload_n 2, 1) := by decide +kernel
theorem dX2_move_7 : decode cX2_move 7 = .ok (.aload_n 0, 1) := by decide +kernel
theorem dX2_move_8 : decode cX2_move 8 = .ok (.getfield 20, 3) := by decide +kernel
theorem dX2_move_11 : decode cX2_move 11 = .ok (.iload_n 3, 1) := by decide +kernel
theorem dX2_move_12 : decode cX2_move 12 = .ok (.aaload, 1) := by decide +kernel
theorem dX2_move_13 : decode cX2_move 13 = .ok (.iload 4, 2) := by decide +kernel
theorem dX2_move_15 : decode cX2_move 15 = .ok (.iload 5, 2) := by decide +kernel
theorem dX2_move_17 : decode cX2_move 17 = .ok (.invokestatic 27, 3) := by decide +kernel
theorem dX2_move_20 : decode cX2_move 20 = .ok (.return_, 1) := by decide +kernel
theorem dX2_findingOf_0 : decode cX2_findingOf 0 = .ok (.aload_n 0, 1) := by decide +kernel
theorem dX2_findingOf_1 : decode cX2_findingOf 1 = .ok (.iload_n 1, 1) := by decide +kernel
theorem dX2_findingOf_2 : decode cX2_findingOf 2 = .ok (.invokevirtual 23, 3) := by decide +kernel
theorem dX2_findingOf_5 : decode cX2_findingOf 5 = .ok (.ifCond .eq 5, 3) := by decide +kernel
theorem dX2_findingOf_8 : decode cX2_findingOf 8 = .ok (.iconst 1, 1) := by decide +kernel
theorem dX2_findingOf_9 : decode cX2_findingOf 9 = .ok (.ireturn, 1) := by decide +kernel
theorem dX2_findingOf_10 : decode cX2_findingOf 10 = .ok (.aload_n 0, 1) := by decide +kernel
theorem dX2_findingOf_11 : decode cX2_findingOf 11 = .ok (.iload_n 1, 1) := by decide +kernel
theorem dX2_findingOf_12 : decode cX2_findingOf 12 = .ok (.iload_n 2, 1) := by decide +kernel
theorem dX2_findingOf_13 : decode cX2_findingOf 13 = .ok (.iload_n 3, 1) := by decide +kernel
theorem dX2_findingOf_14 : decode cX2_findingOf 14 = .ok (.invokevirtual 33, 3) := by decide +kernel
theorem dX2_findingOf_17 : decode cX2_findingOf 17 = .ok (.ifCond .eq 7, 3) := by decide +kernel
theorem dX2_findingOf_20 : decode cX2_findingOf 20 = .ok (.iconst 0, 1) := by decide +kernel
theorem dX2_findingOf_21 : decode cX2_findingOf 21 = .ok (.goto 4, 3) := by decide +kernel
theorem dX2_findingOf_24 : decode cX2_findingOf 24 = .ok (.iconst 2, 1) := by decide +kernel
theorem dX2_findingOf_25 : decode cX2_findingOf 25 = .ok (.ireturn, 1) := by decide +kernel
theorem dX2_findingOfMove_0 : decode cX2_findingOfMove 0 = .ok (.aload_n 0, 1) := by decide +kernel
theorem dX2_findingOfMove_1 : decode cX2_findingOfMove 1 = .ok (.iload_n 1, 1) := by decide +kernel
theorem dX2_findingOfMove_2 : decode cX2_findingOfMove 2 = .ok (.invokevirtual 23, 3) := by decide +kernel
theorem dX2_findingOfMove_5 : decode cX2_findingOfMove 5 = .ok (.ifCond .ne 11, 3) := by decide +kernel
theorem dX2_findingOfMove_8 : decode cX2_findingOfMove 8 = .ok (.aload_n 0, 1) := by decide +kernel
theorem dX2_findingOfMove_9 : decode cX2_findingOfMove 9 = .ok (.iload_n 3, 1) := by decide +kernel
theorem dX2_findingOfMove_10 : decode cX2_findingOfMove 10 = .ok (.invokevirtual 23, 3) := by decide +kernel
theorem dX2_findingOfMove_13 : decode cX2_findingOfMove 13 = .ok (.ifCond .eq 5, 3) := by decide +kernel
theorem dX2_findingOfMove_16 : decode cX2_findingOfMove 16 = .ok (.iconst 1, 1) := by decide +kernel
theorem dX2_findingOfMove_17 : decode cX2_findingOfMove 17 = .ok (.ireturn, 1) := by decide +kernel
theorem dX2_findingOfMove_18 : decode cX2_findingOfMove 18 = .ok (.aload_n 0, 1) := by decide +kernel
theorem dX2_findingOfMove_19 : decode cX2_findingOfMove 19 = .ok (.getfield 9, 3) := by decide +kernel
theorem dX2_findingOfMove_22 : decode cX2_findingOfMove 22 = .ok (.iload_n 1, 1) := by decide +kernel
theorem dX2_findingOfMove_23 : decode cX2_findingOfMove 23 = .ok (.iaload, 1) := by decide +kernel
theorem dX2_findingOfMove_24 : decode cX2_findingOfMove 24 = .ok (.aload_n 0, 1) := by decide +kernel
theorem dX2_findingOfMove_25 : decode cX2_findingOfMove 25 = .ok (.getfield 9, 3) := by decide +kernel
theorem dX2_findingOfMove_28 : decode cX2_findingOfMove 28 = .ok (.iload_n 3, 1) := by decide +kernel
theorem dX2_findingOfMove_29 : decode cX2_findingOfMove 29 = .ok (.iaload, 1) := by decide +kernel
theorem dX2_findingOfMove_30 : decode cX2_findingOfMove 30 = .ok (.if_icmp .eq 5, 3) := by decide +kernel
theorem dX2_findingOfMove_33 : decode cX2_findingOfMove 33 = .ok (.iconst 5, 1) := by decide +kernel
theorem dX2_findingOfMove_34 : decode cX2_findingOfMove 34 = .ok (.ireturn, 1) := by decide +kernel
theorem dX2_findingOfMove_35 : decode cX2_findingOfMove 35 = .ok (.aload_n 0, 1) := by decide +kernel
theorem dX2_findingOfMove_36 : decode cX2_findingOfMove 36 = .ok (.iload_n 1, 1) := by decide +kernel
theorem dX2_findingOfMove_37 : decode cX2_findingOfMove 37 = .ok (.iload_n 2, 1) := by decide +kernel
theorem dX2_findingOfMove_38 : decode cX2_findingOfMove 38 = .ok (.iload 5, 2) := by decide +kernel
theorem dX2_findingOfMove_40 : decode cX2_findingOfMove 40 = .ok (.invokevirtual 33, 3) := by decide +kernel
theorem dX2_findingOfMove_43 : decode cX2_findingOfMove 43 = .ok (.ifCond .eq 19, 3) := by decide +kernel
theorem dX2_findingOfMove_46 : decode cX2_findingOfMove 46 = .ok (.aload_n 0, 1) := by decide +kernel
theorem dX2_findingOfMove_47 : decode cX2_findingOfMove 47 = .ok (.iload_n 3, 1) := by decide +kernel
theorem dX2_findingOfMove_48 : decode cX2_findingOfMove 48 = .ok (.iload 4, 2) := by decide +kernel
theorem dX2_findingOfMove_50 : decode cX2_findingOfMove 50 = .ok (.iload 5, 2) := by decide +kernel
theorem dX2_findingOfMove_52 : decode cX2_findingOfMove 52 = .ok (.invokevirtual 33, 3) := by decide +kernel
theorem dX2_findingOfMove_55 : decode cX2_findingOfMove 55 = .ok (.ifCond .eq 7, 3) := by decide +kernel
theorem dX2_findingOfMove_58 : decode cX2_findingOfMove 58 = .ok (.iconst 0, 1) := by decide +kernel
theorem dX2_findingOfMove_59 : decode cX2_findingOfMove 59 = .ok (.goto 4, 3) := by decide +kernel
theorem dX2_findingOfMove_62 : decode cX2_findingOfMove 62 = .ok (.iconst 2, 1) := by decide +kernel
theorem dX2_findingOfMove_63 : decode cX2_findingOfMove 63 = .ok (.ireturn, 1) := by decide +kernel
theorem dX2_spans_0 : decode cX2_spans 0 = .ok (.iload_n 2, 1) := by decide +kernel
theorem dX2_spans_1 : decode cX2_spans 1 = .ok (.ifCond .lt 23, 3) := by decide +kernel
theorem dX2_spans_4 : decode cX2_spans 4 = .ok (.iload_n 3, 1) := by decide +kernel
theorem dX2_spans_5 : decode cX2_spans 5 = .ok (.ifCond .lt 19, 3) := by decide +kernel
theorem dX2_spans_8 : decode cX2_spans 8 = .ok (.iload_n 2, 1) := by decide +kernel
theorem dX2_spans_9 : decode cX2_spans 9 = .ok (.aload_n 0, 1) := by decide +kernel
theorem dX2_spans_10 : decode cX2_spans 10 = .ok (.getfield 15, 3) := by decide +kernel
theorem dX2_spans_13 : decode cX2_spans 13 = .ok (.iload_n 1, 1) := by decide +kernel
theorem dX2_spans_14 : decode cX2_spans 14 = .ok (.iaload, 1) := by decide +kernel
theorem dX2_spans_15 : decode cX2_spans 15 = .ok (.iload_n 3, 1) := by decide +kernel
theorem dX2_spans_16 : decode cX2_spans 16 = .ok (.isub, 1) := by decide +kernel
theorem dX2_spans_17 : decode cX2_spans 17 = .ok (.if_icmp .gt 7, 3) := by decide +kernel
theorem dX2_spans_20 : decode cX2_spans 20 = .ok (.iconst 1, 1) := by decide +kernel
theorem dX2_spans_21 : decode cX2_spans 21 = .ok (.goto 4, 3) := by decide +kernel
theorem dX2_spans_24 : decode cX2_spans 24 = .ok (.iconst 0, 1) := by decide +kernel
theorem dX2_spans_25 : decode cX2_spans 25 = .ok (.ireturn, 1) := by decide +kernel
theorem dX3_init_0 : decode cX3_init 0 = .ok (.aload_n 0, 1) := by decide +kernel
theorem dX3_init_1 : decode cX3_init 1 = .ok (.invokespecial 3, 3) := by decide +kernel
theorem dX3_init_4 : decode cX3_init 4 = .ok (.aload_n 0, 1) := by decide +kernel
theorem dX3_init_5 : decode cX3_init 5 = .ok (.bipush 8, 2) := by decide +kernel
theorem dX3_init_7 : decode cX3_init 7 = .ok (.newarray .int, 2) := by decide +kernel
theorem dX3_init_9 : decode cX3_init 9 = .ok (.putfield 9, 3) := by decide +kernel
theorem dX3_init_12 : decode cX3_init 12 = .ok (.aload_n 0, 1) := by decide +kernel
theorem dX3_init_13 : decode cX3_init 13 = .ok (.bipush 8, 2) := by decide +kernel
theorem dX3_init_15 : decode cX3_init 15 = .ok (.newarray .int, 2) := by decide +kernel
theorem dX3_init_17 : decode cX3_init 17 = .ok (.putfield 15, 3) := by decide +kernel
theorem dX3_init_20 : decode cX3_init 20 = .ok (.aload_n 0, 1) := by decide +kernel
theorem dX3_init_21 : decode cX3_init 21 = .ok (.sipush 256, 3) := by decide +kernel
theorem dX3_init_24 : decode cX3_init 24 = .ok (.newarray .boolean, 2) := by decide +kernel
theorem dX3_init_26 : decode cX3_init 26 = .ok (.putfield 18, 3) := by decide +kernel
theorem dX3_init_29 : decode cX3_init 29 = .ok (.return_, 1) := by decide +kernel
theorem dX3_seek_0 : decode cX3_seek 0 = .ok (.aload_n 0, 1) := by decide +kernel
theorem dX3_seek_1 : decode cX3_seek 1 = .ok (.iload_n 2, 1) := by decide +kernel
theorem dX3_seek_2 : decode cX3_seek 2 = .ok (.putfield 22, 3) := by decide +kernel
theorem dX3_seek_5 : decode cX3_seek 5 = .ok (.aload_n 0, 1) := by decide +kernel
theorem dX3_seek_6 : decode cX3_seek 6 = .ok (.iload_n 3, 1) := by decide +kernel
theorem dX3_seek_7 : decode cX3_seek 7 = .ok (.putfield 26, 3) := by decide +kernel
theorem dX3_seek_10 : decode cX3_seek 10 = .ok (.aload_n 0, 1) := by decide +kernel
theorem dX3_seek_11 : decode cX3_seek 11 = .ok (.iload 4, 2) := by decide +kernel
theorem dX3_seek_13 : decode cX3_seek 13 = .ok (.bipush 8, 2) := by decide +kernel
theorem dX3_seek_15 : decode cX3_seek 15 = .ok (.invokestatic 29, 3) := by decide +kernel
theorem dX3_seek_18 : decode cX3_seek 18 = .ok (.putfield 35, 3) := by decide +kernel
theorem dX3_seek_21 : decode cX3_seek 21 = .ok (.aload_n 0, 1) := by decide +kernel
theorem dX3_seek_22 : decode cX3_seek 22 = .ok (.iconst (-1), 1) := by decide +kernel
theorem dX3_seek_23 : decode cX3_seek 23 = .ok (.putfield 38, 3) := by decide +kernel
theorem dX3_seek_26 : decode cX3_seek 26 = .ok (.aload_n 0, 1) := by decide +kernel
theorem dX3_seek_27 : decode cX3_seek 27 = .ok (.iconst 0, 1) := by decide +kernel
theorem dX3_seek_28 : decode cX3_seek 28 = .ok (.putfield 41, 3) := by decide +kernel
theorem dX3_seek_31 : decode cX3_seek 31 = .ok (.aload_n 0, 1) := by decide +kernel
theorem dX3_seek_32 : decode cX3_seek 32 = .ok (.iconst 0, 1) := by decide +kernel
theorem dX3_seek_33 : decode cX3_seek 33 = .ok (.putfield 44, 3) := by decide +kernel
theorem dX3_seek_36 : decode cX3_seek 36 = .ok (.aload_n 0, 1) := by decide +kernel
theorem dX3_seek_37 : decode cX3_seek 37 = .ok (.iconst 0, 1) := by decide +kernel
theorem dX3_seek_38 : decode cX3_seek 38 = .ok (.putfield 47, 3) := by decide +kernel
theorem dX3_seek_41 : decode cX3_seek 41 = .ok (.aload_n 0, 1) := by decide +kernel
theorem dX3_seek_42 : decode cX3_seek 42 = .ok (.aload_n 1, 1) := by decide +kernel
theorem dX3_seek_43 : decode cX3_seek 43 = .ok (.iconst 0, 1) := by decide +kernel
theorem dX3_seek_44 : decode cX3_seek 44 = .ok (.aload_n 1, 1) := by decide +kernel
theorem dX3_seek_45 : decode cX3_seek 45 = .ok (.getfield 50, 3) := by decide +kernel
theorem dX3_seek_48 : decode cX3_seek 48 = .ok (.aload_n 1, 1) := by decide +kernel
theorem dX3_seek_49 : decode cX3_seek 49 = .ok (.getfield 55, 3) := by decide +kernel
theorem dX3_seek_52 : decode cX3_seek 52 = .ok (.iconst 0, 1) := by decide +kernel
theorem dX3_seek_53 : decode cX3_seek 53 = .ok (.iconst 0, 1) := by decide +kernel
theorem dX3_seek_54 : decode cX3_seek 54 = .ok (.invokevirtual 58, 3) := by decide +kernel
theorem dX3_seek_57 : decode cX3_seek 57 = .ok (.return_, 1) := by decide +kernel
theorem dX3_seekWithin_0 : decode cX3_seekWithin 0 = .ok (.aload_n 0, 1) := by decide +kernel
theorem dX3_seekWithin_1 : decode cX3_seekWithin 1 = .ok (.iload_n 3, 1) := by decide +kernel
theorem dX3_seekWithin_2 : decode cX3_seekWithin 2 = .ok (.putfield 62, 3) := by decide +kernel
theorem dX3_seekWithin_5 : decode cX3_seekWithin 5 = .ok (.iconst 0, 1) := by decide +kernel
theorem dX3_seekWithin_6 : decode cX3_seekWithin 6 = .ok (.istore 4, 2) := by decide +kernel
theorem dX3_seekWithin_8 : decode cX3_seekWithin 8 = .ok (.iload 4, 2) := by decide +kernel
theorem dX3_seekWithin_10 : decode cX3_seekWithin 10 = .ok (.aload_n 0, 1) := by decide +kernel
theorem dX3_seekWithin_11 : decode cX3_seekWithin 11 = .ok (.getfield 18, 3) := by decide +kernel
theorem dX3_seekWithin_14 : decode cX3_seekWithin 14 = .ok (.arraylength, 1) := by decide +kernel
theorem dX3_seekWithin_15 : decode cX3_seekWithin 15 = .ok (.if_icmp .ge 17, 3) := by decide +kernel
theorem dX3_seekWithin_18 : decode cX3_seekWithin 18 = .ok (.aload_n 0, 1) := by decide +kernel
theorem dX3_seekWithin_19 : decode cX3_seekWithin 19 = .ok (.getfield 18, 3) := by decide +kernel
theorem dX3_seekWithin_22 : decode cX3_seekWithin 22 = .ok (.iload 4, 2) := by decide +kernel
theorem dX3_seekWithin_24 : decode cX3_seekWithin 24 = .ok (.iconst 0, 1) := by decide +kernel
theorem dX3_seekWithin_25 : decode cX3_seekWithin 25 = .ok (.bastore, 1) := by decide +kernel
theorem dX3_seekWithin_26 : decode cX3_seekWithin 26 = .ok (.iinc 4 1, 3) := by decide +kernel
theorem dX3_seekWithin_29 : decode cX3_seekWithin 29 = .ok (.goto (-21), 3) := by decide +kernel
theorem dX3_seekWithin_32 : decode cX3_seekWithin 32 = .ok (.aload_n 0, 1) := by decide +kernel
theorem dX3_seekWithin_33 : decode cX3_seekWithin 33 = .ok (.aload_n 1, 1) := by decide +kernel
theorem dX3_seekWithin_34 : decode cX3_seekWithin 34 = .ok (.iconst 4, 1) := by decide +kernel
theorem dX3_seekWithin_35 : decode cX3_seekWithin 35 = .ok (.iload_n 2, 1) := by decide +kernel
theorem dX3_seekWithin_36 : decode cX3_seekWithin 36 = .ok (.bipush 8, 2) := by decide +kernel
theorem dX3_seekWithin_38 : decode cX3_seekWithin 38 = .ok (.invokevirtual 65, 3) := by decide +kernel
theorem dX3_seekWithin_41 : decode cX3_seekWithin 41 = .ok (.iconst 0, 1) := by decide +kernel
theorem dX3_seekWithin_42 : decode cX3_seekWithin 42 = .ok (.istore 4, 2) := by decide +kernel
theorem dX3_seekWithin_44 : decode cX3_seekWithin 44 = .ok (.iload 4, 2) := by decide +kernel
theorem dX3_seekWithin_46 : decode cX3_seekWithin 46 = .ok (.aload_n 0, 1) := by decide +kernel
theorem dX3_seekWithin_47 : decode cX3_seekWithin 47 = .ok (.getfield 18, 3) := by decide +kernel
theorem dX3_seekWithin_50 : decode cX3_seekWithin 50 = .ok (.arraylength, 1) := by decide +kernel
theorem dX3_seekWithin_51 : decode cX3_seekWithin 51 = .ok (.if_icmp .ge 50, 3) := by decide +kernel
theorem dX3_seekWithin_54 : decode cX3_seekWithin 54 = .ok (.iconst 0, 1) := by decide +kernel
theorem dX3_seekWithin_55 : decode cX3_seekWithin 55 = .ok (.istore 5, 2) := by decide +kernel
theorem dX3_seekWithin_57 : decode cX3_seekWithin 57 = .ok (.iload 5, 2) := by decide +kernel
theorem dX3_seekWithin_59 : decode cX3_seekWithin 59 = .ok (.bipush 8, 2) := by decide +kernel
theorem dX3_seekWithin_61 : decode cX3_seekWithin 61 = .ok (.if_icmp .ge 34, 3) := by decide +kernel
theorem dX3_seekWithin_64 : decode cX3_seekWithin 64 = .ok (.aload_n 0, 1) := by decide +kernel
theorem dX3_seekWithin_65 : decode cX3_seekWithin 65 = .ok (.getfield 18, 3) := by decide +kernel
theorem dX3_seekWithin_68 : decode cX3_seekWithin 68 = .ok (.iload 4, 2) := by decide +kernel
theorem dX3_seekWithin_70 : decode cX3_seekWithin 70 = .ok (.iconst 1, 1) := by decide +kernel
theorem dX3_seekWithin_71 : decode cX3_seekWithin 71 = .ok (.iload 5, 2) := by decide +kernel
theorem dX3_seekWithin_73 : decode cX3_seekWithin 73 = .ok (.ishl, 1) := by decide +kernel
theorem dX3_seekWithin_74 : decode cX3_seekWithin 74 = .ok (.iconst (-1), 1) := by decide +kernel
theorem dX3_seekWithin_75 : decode cX3_seekWithin 75 = .ok (.ixor, 1) := by decide +kernel
theorem dX3_seekWithin_76 : decode cX3_seekWithin 76 = .ok (.iand, 1) := by decide +kernel
theorem dX3_seekWithin_77 : decode cX3_seekWithin 77 = .ok (.baload, 1) := by decide +kernel
theorem dX3_seekWithin_78 : decode cX3_seekWithin 78 = .ok (.ifCond .eq 11, 3) := by decide +kernel
theorem dX3_seekWithin_81 : decode cX3_seekWithin 81 = .ok (.aload_n 0, 1) := by decide +kernel
theorem dX3_seekWithin_82 : decode cX3_seekWithin 82 = .ok (.getfield 18, 3) := by decide +kernel
theorem dX3_seekWithin_85 : decode cX3_seekWithin 85 = .ok (.iload 4, 2) := by decide +kernel
theorem dX3_seekWithin_87 : decode cX3_seekWithin 87 = .ok (.iconst 1, 1) := by decide +kernel
theorem dX3_seekWithin_88 : decode cX3_seekWithin 88 = .ok (.bastore, 1) := by decide +kernel
theorem dX3_seekWithin_89 : decode cX3_seekWithin 89 = .ok (.iinc 5 1, 3) := by decide +kernel
theorem dX3_seekWithin_92 : decode cX3_seekWithin 92 = .ok (.goto (-35), 3) := by decide +kernel
theorem dX3_seekWithin_95 : decode cX3_seekWithin 95 = .ok (.iinc 4 1, 3) := by decide +kernel
theorem dX3_seekWithin_98 : decode cX3_seekWithin 98 = .ok (.goto (-54), 3) := by decide +kernel
theorem dX3_seekWithin_101 : decode cX3_seekWithin 101 = .ok (.return_, 1) := by decide +kernel
theorem dX3_weightOfEnough_0 : decode cX3_weightOfEnough 0 = .ok (.iconst 0, 1) := by decide +kernel
theorem dX3_weightOfEnough_1 : decode cX3_weightOfEnough 1 = .ok (.istore_n 3, 1) := by decide +kernel
theorem dX3_weightOfEnough_2 : decode cX3_weightOfEnough 2 = .ok (.iload_n 1, 1) := by decide +kernel
theorem dX3_weightOfEnough_3 : decode cX3_weightOfEnough 3 = .ok (.invokestatic 69, 3) := by decide +kernel
theorem dX3_weightOfEnough_6 : decode cX3_weightOfEnough 6 = .ok (.istore 4, 2) := by decide +kernel
theorem dX3_weightOfEnough_8 : decode cX3_weightOfEnough 8 = .ok (.iconst 0, 1) := by decide +kernel
theorem dX3_weightOfEnough_9 : decode cX3_weightOfEnough 9 = .ok (.istore 5, 2) := by decide +kernel
theorem dX3_weightOfEnough_11 : decode cX3_weightOfEnough 11 = .ok (.iload 5, 2) := by decide +kernel
theorem dX3_weightOfEnough_13 : decode cX3_weightOfEnough 13 = .ok (.aload_n 0, 1) := by decide +kernel
theorem dX3_weightOfEnough_14 : decode cX3_weightOfEnough 14 = .ok (.getfield 18, 3) := by decide +kernel
theorem dX3_weightOfEnough_17 : decode cX3_weightOfEnough 17 = .ok (.arraylength, 1) := by decide +kernel
theorem dX3_weightOfEnough_18 : decode cX3_weightOfEnough 18 = .ok (.if_icmp .ge 57, 3) := by decide +kernel
theorem dX3_weightOfEnough_21 : decode cX3_weightOfEnough 21 = .ok (.iload 5, 2) := by decide +kernel
theorem dX3_weightOfEnough_23 : decode cX3_weightOfEnough 23 = .ok (.iload_n 1, 1) := by decide +kernel
theorem dX3_weightOfEnough_24 : decode cX3_weightOfEnough 24 = .ok (.iconst (-1), 1) := by decide +kernel
theorem dX3_weightOfEnough_25 : decode cX3_weightOfEnough 25 = .ok (.ixor, 1) := by decide +kernel
theorem dX3_weightOfEnough_26 : decode cX3_weightOfEnough 26 = .ok (.iand, 1) := by decide +kernel
theorem dX3_weightOfEnough_27 : decode cX3_weightOfEnough 27 = .ok (.ifCond .ne 42, 3) := by decide +kernel
theorem dX3_weightOfEnough_30 : decode cX3_weightOfEnough 30 = .ok (.aload_n 0, 1) := by decide +kernel
theorem dX3_weightOfEnough_31 : decode cX3_weightOfEnough 31 = .ok (.getfield 18, 3) := by decide +kernel
theorem dX3_weightOfEnough_34 : decode cX3_weightOfEnough 34 = .ok (.iload 5, 2) := by decide +kernel
theorem dX3_weightOfEnough_36 : decode cX3_weightOfEnough 36 = .ok (.baload, 1) := by decide +kernel
theorem dX3_weightOfEnough_37 : decode cX3_weightOfEnough 37 = .ok (.ifCond .eq 32, 3) := by decide +kernel
theorem dX3_weightOfEnough_40 : decode cX3_weightOfEnough 40 = .ok (.iload 5, 2) := by decide +kernel
theorem dX3_weightOfEnough_42 : decode cX3_weightOfEnough 42 = .ok (.invokestatic 69, 3) := by decide +kernel
theorem dX3_weightOfEnough_45 : decode cX3_weightOfEnough 45 = .ok (.istore 6, 2) := by decide +kernel
theorem dX3_weightOfEnough_47 : decode cX3_weightOfEnough 47 = .ok (.iload_n 3, 1) := by decide +kernel
theorem dX3_weightOfEnough_48 : decode cX3_weightOfEnough 48 = .ok (.bipush 10, 2) := by decide +kernel
theorem dX3_weightOfEnough_50 : decode cX3_weightOfEnough 50 = .ok (.iload_n 2, 1) := by decide +kernel
theorem dX3_weightOfEnough_51 : decode cX3_weightOfEnough 51 = .ok (.isub, 1) := by decide +kernel
theorem dX3_weightOfEnough_52 : decode cX3_weightOfEnough 52 = .ok (.iload 6, 2) := by decide +kernel
theorem dX3_weightOfEnough_54 : decode cX3_weightOfEnough 54 = .ok (.invokestatic 75, 3) := by decide +kernel
theorem dX3_weightOfEnough_57 : decode cX3_weightOfEnough 57 = .ok (.iload_n 2, 1) := by decide +kernel
theorem dX3_weightOfEnough_58 : decode cX3_weightOfEnough 58 = .ok (.iload 4, 2) := by decide +kernel
theorem dX3_weightOfEnough_60 : decode cX3_weightOfEnough 60 = .ok (.iload 6, 2) := by decide +kernel
theorem dX3_weightOfEnough_62 : decode cX3_weightOfEnough 62 = .ok (.isub, 1) := by decide +kernel
theorem dX3_weightOfEnough_63 : decode cX3_weightOfEnough 63 = .ok (.invokestatic 75, 3) := by decide +kernel
theorem dX3_weightOfEnough_66 : decode cX3_weightOfEnough 66 = .ok (.imul, 1) := by decide +kernel
theorem dX3_weightOfEnough_67 : decode cX3_weightOfEnough 67 = .ok (.iadd, 1) := by decide +kernel
theorem dX3_weightOfEnough_68 : decode cX3_weightOfEnough 68 = .ok (.istore_n 3, 1) := by decide +kernel
theorem dX3_weightOfEnough_69 : decode cX3_weightOfEnough 69 = .ok (.iinc 5 1, 3) := by decide +kernel
theorem dX3_weightOfEnough_72 : decode cX3_weightOfEnough 72 = .ok (.goto (-61), 3) := by decide +kernel
theorem dX3_weightOfEnough_75 : decode cX3_weightOfEnough 75 = .ok (.iload_n 3, 1) := by decide +kernel
theorem dX3_weightOfEnough_76 : decode cX3_weightOfEnough 76 = .ok (.ireturn, 1) := by decide +kernel
theorem dX3_streetOf_0 : decode cX3_streetOf 0 = .ok (.iload_n 1, 1) := by decide +kernel
theorem dX3_streetOf_1 : decode cX3_streetOf 1 = .ok (.ifCond .lt 20, 3) := by decide +kernel
theorem dX3_streetOf_4 : decode cX3_streetOf 4 = .ok (.iload_n 1, 1) := by decide +kernel
theorem dX3_streetOf_5 : decode cX3_streetOf 5 = .ok (.aload_n 0, 1) := by decide +kernel
theorem dX3_streetOf_6 : decode cX3_streetOf 6 = .ok (.getfield 38, 3) := by decide +kernel
theorem dX3_streetOf_9 : decode cX3_streetOf 9 = .ok (.if_icmp .ge 12, 3) := by decide +kernel
theorem dX3_streetOf_12 : decode cX3_streetOf 12 = .ok (.aload_n 0, 1) := by decide +kernel
theorem dX3_streetOf_13 : decode cX3_streetOf 13 = .ok (.getfield 15, 3) := by decide +kernel
theorem dX3_streetOf_16 : decode cX3_streetOf 16 = .ok (.iload_n 1, 1) := by decide +kernel
theorem dX3_streetOf_17 : decode cX3_streetOf 17 = .ok (.iaload, 1) := by decide +kernel
theorem dX3_streetOf_18 : decode cX3_streetOf 18 = .ok (.goto 5, 3) := by decide +kernel
theorem dX3_streetOf_21 : decode cX3_streetOf 21 = .ok (.ldc 78, 2) := by decide +kernel
theorem dX3_streetOf_23 : decode cX3_streetOf 23 = .ok (.ireturn, 1) := by decide +kernel
theorem dX3_walk_0 : decode cX3_walk 0 = .ok (.aload_n 0, 1) := by decide +kernel
theorem dX3_walk_1 : decode cX3_walk 1 = .ok (.iload_n 2, 1) := by decide +kernel
theorem dX3_walk_2 : decode cX3_walk 2 = .ok (.iload_n 3, 1) := by decide +kernel
theorem dX3_walk_3 : decode cX3_walk 3 = .ok (.iload 4, 2) := by decide +kernel
theorem dX3_walk_5 : decode cX3_walk 5 = .ok (.iload 5, 2) := by decide +kernel
theorem dX3_walk_7 : decode cX3_walk 7 = .ok (.iload 6, 2) := by decide +kernel
theorem dX3_walk_9 : decode cX3_walk 9 = .ok (.invokevirtual 79, 3) := by decide +kernel
theorem dX3_walk_12 : decode cX3_walk 12 = .ok (.iload_n 2, 1) := by decide +kernel
theorem dX3_walk_13 : decode cX3_walk 13 = .ok (.aload_n 0, 1) := by decide +kernel
theorem dX3_walk_14 : decode cX3_walk 14 = .ok (.getfield 35, 3) := by decide +kernel
theorem dX3_walk_17 : decode cX3_walk 17 = .ok (.if_icmp .lt 4, 3) := by decide +kernel
theorem dX3_walk_20 : decode cX3_walk 20 = .ok (.return_, 1) := by decide +kernel
theorem dX3_walk_21 : decode cX3_walk 21 = .ok (.iconst 0, 1) := by decide +kernel
theorem dX3_walk_22 : decode cX3_walk 22 = .ok (.istore 7, 2) := by decide +kernel
theorem dX3_walk_24 : decode cX3_walk 24 = .ok (.iload 7, 2) := by decide +kernel
theorem dX3_walk_26 : decode cX3_walk 26 = .ok (.aload_n 1, 1) := by decide +kernel
theorem dX3_walk_27 : decode cX3_walk 27 = .ok (.getfield 83, 3) := by decide +kernel
theorem dX3_walk_30 : decode cX3_walk 30 = .ok (.if_icmp .ge 88, 3) := by decide +kernel
theorem dX3_walk_33 : decode cX3_walk 33 = .ok (.aload_n 1, 1) := by decide +kernel
theorem dX3_walk_34 : decode cX3_walk 34 = .ok (.iload_n 3, 1) := by decide +kernel
theorem dX3_walk_35 : decode cX3_walk 35 = .ok (.iload 7, 2) := by decide +kernel
theorem dX3_walk_37 : decode cX3_walk 37 = .ok (.invokevirtual 86, 3) := by decide +kernel
theorem dX3_walk_40 : decode cX3_walk 40 = .ok (.ifCond .eq 72, 3) := by decide +kernel
theorem dX3_walk_43 : decode cX3_walk 43 = .ok (.aload_n 1, 1) := by decide +kernel
theorem dX3_walk_44 : decode cX3_walk 44 = .ok (.getfield 90, 3) := by decide +kernel
theorem dX3_walk_47 : decode cX3_walk 47 = .ok (.iload 7, 2) := by decide +kernel
theorem dX3_walk_49 : decode cX3_walk 49 = .ok (.iaload, 1) := by decide +kernel
theorem dX3_walk_50 : decode cX3_walk 50 = .ok (.istore 8, 2) := by decide +kernel
theorem dX3_walk_52 : decode cX3_walk 52 = .ok (.aload_n 1, 1) := by decide +kernel
theorem dX3_walk_53 : decode cX3_walk 53 = .ok (.iload 8, 2) := by decide +kernel
theorem dX3_walk_55 : decode cX3_walk 55 = .ok (.iload 4, 2) := by decide +kernel
theorem dX3_walk_57 : decode cX3_walk 57 = .ok (.aload_n 1, 1) := by decide +kernel
theorem dX3_walk_58 : decode cX3_walk 58 = .ok (.getfield 93, 3) := by decide +kernel
theorem dX3_walk_61 : decode cX3_walk 61 = .ok (.iload_n 2, 1) := by decide +kernel
theorem dX3_walk_62 : decode cX3_walk 62 = .ok (.iadd, 1) := by decide +kernel
theorem dX3_walk_63 : decode cX3_walk 63 = .ok (.invokevirtual 96, 3) := by decide +kernel
theorem dX3_walk_66 : decode cX3_walk 66 = .ok (.istore 9, 2) := by decide +kernel
theorem dX3_walk_68 : decode cX3_walk 68 = .ok (.aload_n 1, 1) := by decide +kernel
theorem dX3_walk_69 : decode cX3_walk 69 = .ok (.iload 8, 2) := by decide +kernel
theorem dX3_walk_71 : decode cX3_walk 71 = .ok (.iload 4, 2) := by decide +kernel
theorem dX3_walk_73 : decode cX3_walk 73 = .ok (.iload 9, 2) := by decide +kernel
theorem dX3_walk_75 : decode cX3_walk 75 = .ok (.invokevirtual 100, 3) := by decide +kernel
theorem dX3_walk_78 : decode cX3_walk 78 = .ok (.istore 10, 2) := by decide +kernel
theorem dX3_walk_80 : decode cX3_walk 80 = .ok (.aload_n 0, 1) := by decide +kernel
theorem dX3_walk_81 : decode cX3_walk 81 = .ok (.getfield 9, 3) := by decide +kernel
theorem dX3_walk_84 : decode cX3_walk 84 = .ok (.iload_n 2, 1) := by decide +kernel
theorem dX3_walk_85 : decode cX3_walk 85 = .ok (.iload 7, 2) := by decide +kernel
theorem dX3_walk_87 : decode cX3_walk 87 = .ok (.iastore, 1) := by decide +kernel
theorem dX3_walk_88 : decode cX3_walk 88 = .ok (.aload_n 0, 1) := by decide +kernel
theorem dX3_walk_89 : decode cX3_walk 89 = .ok (.aload_n 1, 1) := by decide +kernel
theorem dX3_walk_90 : decode cX3_walk 90 = .ok (.iload_n 2, 1) := by decide +kernel
theorem dX3_walk_91 : decode cX3_walk 91 = .ok (.iconst 1, 1) := by decide +kernel
theorem dX3_walk_92 : decode cX3_walk 92 = .ok (.iadd, 1) := by decide +kernel
theorem dX3_walk_93 : decode cX3_walk 93 = .ok (.iload 8, 2) := by decide +kernel
theorem dX3_walk_95 : decode cX3_walk 95 = .ok (.iload 9, 2) := by decide +kernel
theorem dX3_walk_97 : decode cX3_walk 97 = .ok (.iload 5, 2) := by decide +kernel
theorem dX3_walk_99 : decode cX3_walk 99 = .ok (.iload 10, 2) := by decide +kernel
theorem dX3_walk_101 : decode cX3_walk 101 = .ok (.iadd, 1) := by decide +kernel
theorem dX3_walk_102 : decode cX3_walk 102 = .ok (.iload 6, 2) := by decide +kernel
theorem dX3_walk_104 : decode cX3_walk 104 = .ok (.iconst 1, 1) := by decide +kernel
theorem dX3_walk_105 : decode cX3_walk 105 = .ok (.iload 7, 2) := by decide +kernel
theorem dX3_walk_107 : decode cX3_walk 107 = .ok (.ishl, 1) := by decide +kernel
theorem dX3_walk_108 : decode cX3_walk 108 = .ok (.ior, 1) := by decide +kernel
theorem dX3_walk_109 : decode cX3_walk 109 = .ok (.invokevirtual 58, 3) := by decide +kernel
theorem dX3_walk_112 : decode cX3_walk 112 = .ok (.iinc 7 1, 3) := by decide +kernel
theorem dX3_walk_115 : decode cX3_walk 115 = .ok (.goto (-91), 3) := by decide +kernel
theorem dX3_walk_118 : decode cX3_walk 118 = .ok (.return_, 1) := by decide +kernel
theorem dX3_weigh_0 : decode cX3_weigh 0 = .ok (.aload_n 0, 1) := by decide +kernel
theorem dX3_weigh_1 : decode cX3_weigh 1 = .ok (.getfield 38, 3) := by decide +kernel
theorem dX3_weigh_4 : decode cX3_weigh 4 = .ok (.ifCond .ge 7, 3) := by decide +kernel
theorem dX3_weigh_7 : decode cX3_weigh 7 = .ok (.iconst 1, 1) := by decide +kernel
theorem dX3_weigh_8 : decode cX3_weigh 8 = .ok (.goto 4, 3) := by decide +kernel
theorem dX3_weigh_11 : decode cX3_weigh 11 = .ok (.iconst 0, 1) := by decide +kernel
theorem dX3_weigh_12 : decode cX3_weigh 12 = .ok (.istore 6, 2) := by decide +kernel
theorem dX3_weigh_14 : decode cX3_weigh 14 = .ok (.iload 4, 2) := by decide +kernel
theorem dX3_weigh_16 : decode cX3_weigh 16 = .ok (.aload_n 0, 1) := by decide +kernel
theorem dX3_weigh_17 : decode cX3_weigh 17 = .ok (.getfield 41, 3) := by decide +kernel
theorem dX3_weigh_20 : decode cX3_weigh 20 = .ok (.if_icmp .lt 20, 3) := by decide +kernel
theorem dX3_weigh_23 : decode cX3_weigh 23 = .ok (.iload 4, 2) := by decide +kernel
theorem dX3_weigh_25 : decode cX3_weigh 25 = .ok (.aload_n 0, 1) := by decide +kernel
theorem dX3_weigh_26 : decode cX3_weigh 26 = .ok (.getfield 41, 3) := by decide +kernel
theorem dX3_weigh_29 : decode cX3_weigh 29 = .ok (.if_icmp .ne 15, 3) := by decide +kernel
theorem dX3_weigh_32 : decode cX3_weigh 32 = .ok (.iload_n 1, 1) := by decide +kernel
theorem dX3_weigh_33 : decode cX3_weigh 33 = .ok (.aload_n 0, 1) := by decide +kernel
theorem dX3_weigh_34 : decode cX3_weigh 34 = .ok (.getfield 38, 3) := by decide +kernel
theorem dX3_weigh_37 : decode cX3_weigh 37 = .ok (.if_icmp .ge 7, 3) := by decide +kernel
theorem dX3_weigh_40 : decode cX3_weigh 40 = .ok (.iconst 1, 1) := by decide +kernel
theorem dX3_weigh_41 : decode cX3_weigh 41 = .ok (.goto 4, 3) := by decide +kernel
theorem dX3_weigh_44 : decode cX3_weigh 44 = .ok (.iconst 0, 1) := by decide +kernel
theorem dX3_weigh_45 : decode cX3_weigh 45 = .ok (.istore 7, 2) := by decide +kernel
theorem dX3_weigh_47 : decode cX3_weigh 47 = .ok (.aload_n 0, 1) := by decide +kernel
theorem dX3_weigh_48 : decode cX3_weigh 48 = .ok (.getfield 22, 3) := by decide +kernel
theorem dX3_weigh_51 : decode cX3_weigh 51 = .ok (.tableswitch 154 0 3 #[29, 58, 91, 122], 29) := by decide +kernel
theorem dX3_weigh_80 : decode cX3_weigh 80 = .ok (.iload_n 2, 1) := by decide +kernel
theorem dX3_weigh_81 : decode cX3_weigh 81 = .ok (.aload_n 0, 1) := by decide +kernel
theorem dX3_weigh_82 : decode cX3_weigh 82 = .ok (.getfield 26, 3) := by decide +kernel
theorem dX3_weigh_85 : decode cX3_weigh 85 = .ok (.if_icmp .ne 145, 3) := by decide +kernel
theorem dX3_weigh_88 : decode cX3_weigh 88 = .ok (.iload 6, 2) := by decide +kernel
theorem dX3_weigh_90 : decode cX3_weigh 90 = .ok (.ifCond .ne 8, 3) := by decide +kernel
theorem dX3_weigh_93 : decode cX3_weigh 93 = .ok (.iload 7, 2) := by decide +kernel
theorem dX3_weigh_95 : decode cX3_weigh 95 = .ok (.ifCond .eq 135, 3) := by decide +kernel
theorem dX3_weigh_98 : decode cX3_weigh 98 = .ok (.aload_n 0, 1) := by decide +kernel
theorem dX3_weigh_99 : decode cX3_weigh 99 = .ok (.iload_n 1, 1) := by decide +kernel
theorem dX3_weigh_100 : decode cX3_weigh 100 = .ok (.iload_n 2, 1) := by decide +kernel
theorem dX3_weigh_101 : decode cX3_weigh 101 = .ok (.iload 4, 2) := by decide +kernel
theorem dX3_weigh_103 : decode cX3_weigh 103 = .ok (.invokevirtual 103, 3) := by decide +kernel
theorem dX3_weigh_106 : decode cX3_weigh 106 = .ok (.goto 124, 3) := by decide +kernel
theorem dX3_weigh_109 : decode cX3_weigh 109 = .ok (.iload_n 1, 1) := by decide +kernel
theorem dX3_weigh_110 : decode cX3_weigh 110 = .ok (.aload_n 0, 1) := by decide +kernel
theorem dX3_weigh_111 : decode cX3_weigh 111 = .ok (.getfield 35, 3) := by decide +kernel
theorem dX3_weigh_114 : decode cX3_weigh 114 = .ok (.if_icmp .ne 116, 3) := by decide +kernel
theorem dX3_weigh_117 : decode cX3_weigh 117 = .ok (.iload 6, 2) := by decide +kernel
theorem dX3_weigh_119 : decode cX3_weigh 119 = .ok (.ifCond .ne 12, 3) := by decide +kernel
theorem dX3_weigh_122 : decode cX3_weigh 122 = .ok (.iload 4, 2) := by decide +kernel
theorem dX3_weigh_124 : decode cX3_weigh 124 = .ok (.aload_n 0, 1) := by decide +kernel
theorem dX3_weigh_125 : decode cX3_weigh 125 = .ok (.getfield 41, 3) := by decide +kernel
theorem dX3_weigh_128 : decode cX3_weigh 128 = .ok (.if_icmp .le 102, 3) := by decide +kernel
theorem dX3_weigh_131 : decode cX3_weigh 131 = .ok (.aload_n 0, 1) := by decide +kernel
theorem dX3_weigh_132 : decode cX3_weigh 132 = .ok (.iload_n 1, 1) := by decide +kernel
theorem dX3_weigh_133 : decode cX3_weigh 133 = .ok (.iload_n 2, 1) := by decide +kernel
theorem dX3_weigh_134 : decode cX3_weigh 134 = .ok (.iload 4, 2) := by decide +kernel
theorem dX3_weigh_136 : decode cX3_weigh 136 = .ok (.invokevirtual 103, 3) := by decide +kernel
theorem dX3_weigh_139 : decode cX3_weigh 139 = .ok (.goto 91, 3) := by decide +kernel
theorem dX3_weigh_142 : decode cX3_weigh 142 = .ok (.iload_n 1, 1) := by decide +kernel
theorem dX3_weigh_143 : decode cX3_weigh 143 = .ok (.aload_n 0, 1) := by decide +kernel
theorem dX3_weigh_144 : decode cX3_weigh 144 = .ok (.getfield 35, 3) := by decide +kernel
theorem dX3_weigh_147 : decode cX3_weigh 147 = .ok (.if_icmp .ne 83, 3) := by decide +kernel
theorem dX3_weigh_150 : decode cX3_weigh 150 = .ok (.iload_n 2, 1) := by decide +kernel
theorem dX3_weigh_151 : decode cX3_weigh 151 = .ok (.aload_n 0, 1) := by decide +kernel
theorem dX3_weigh_152 : decode cX3_weigh 152 = .ok (.getfield 26, 3) := by decide +kernel
theorem dX3_weigh_155 : decode cX3_weigh 155 = .ok (.if_icmp .ne 75, 3) := by decide +kernel
theorem dX3_weigh_158 : decode cX3_weigh 158 = .ok (.aload_n 0, 1) := by decide +kernel
theorem dX3_weigh_159 : decode cX3_weigh 159 = .ok (.dup, 1) := by decide +kernel
theorem dX3_weigh_160 : decode cX3_weigh 160 = .ok (.getfield 47, 3) := by decide +kernel
theorem dX3_weigh_163 : decode cX3_weigh 163 = .ok (.iconst 1, 1) := by decide +kernel
theorem dX3_weigh_164 : decode cX3_weigh 164 = .ok (.iload_n 3, 1) := by decide +kernel
theorem dX3_weigh_165 : decode cX3_weigh 165 = .ok (.ishl, 1) := by decide +kernel
theorem dX3_weigh_166 : decode cX3_weigh 166 = .ok (.ior, 1) := by decide +kernel
theorem dX3_weigh_167 : decode cX3_weigh 167 = .ok (.putfield 47, 3) := by decide +kernel
theorem dX3_weigh_170 : decode cX3_weigh 170 = .ok (.goto 60, 3) := by decide +kernel
theorem dX3_weigh_173 : decode cX3_weigh 173 = .ok (.iload_n 3, 1) := by decide +kernel
theorem dX3_weigh_174 : decode cX3_weigh 174 = .ok (.aload_n 0, 1) := by decide +kernel
theorem dX3_weigh_175 : decode cX3_weigh 175 = .ok (.getfield 26, 3) := by decide +kernel
theorem dX3_weigh_178 : decode cX3_weigh 178 = .ok (.if_icmp .ne 52, 3) := by decide +kernel
theorem dX3_weigh_181 : decode cX3_weigh 181 = .ok (.iload 6, 2) := by decide +kernel
theorem dX3_weigh_183 : decode cX3_weigh 183 = .ok (.ifCond .ne 11, 3) := by decide +kernel
theorem dX3_weigh_186 : decode cX3_weigh 186 = .ok (.iload_n 1, 1) := by decide +kernel
theorem dX3_weigh_187 : decode cX3_weigh 187 = .ok (.aload_n 0, 1) := by decide +kernel
theorem dX3_weigh_188 : decode cX3_weigh 188 = .ok (.getfield 38, 3) := by decide +kernel
theorem dX3_weigh_191 : decode cX3_weigh 191 = .ok (.if_icmp .ge 39, 3) := by decide +kernel
theorem dX3_weigh_194 : decode cX3_weigh 194 = .ok (.aload_n 0, 1) := by decide +kernel
theorem dX3_weigh_195 : decode cX3_weigh 195 = .ok (.iload_n 1, 1) := by decide +kernel
theorem dX3_weigh_196 : decode cX3_weigh 196 = .ok (.iload_n 2, 1) := by decide +kernel
theorem dX3_weigh_197 : decode cX3_weigh 197 = .ok (.iload 4, 2) := by decide +kernel
theorem dX3_weigh_199 : decode cX3_weigh 199 = .ok (.invokevirtual 103, 3) := by decide +kernel
theorem dX3_weigh_202 : decode cX3_weigh 202 = .ok (.goto 28, 3) := by decide +kernel
theorem dX3_weigh_205 : decode cX3_weigh 205 = .ok (.iload_n 2, 1) := by decide +kernel
theorem dX3_weigh_206 : decode cX3_weigh 206 = .ok (.aload_n 0, 1) := by decide +kernel
theorem dX3_weigh_207 : decode cX3_weigh 207 = .ok (.getfield 26, 3) := by decide +kernel
theorem dX3_weigh_210 : decode cX3_weigh 210 = .ok (.if_icmp .ne 20, 3) := by decide +kernel
theorem dX3_weigh_213 : decode cX3_weigh 213 = .ok (.iload 4, 2) := by decide +kernel
theorem dX3_weigh_215 : decode cX3_weigh 215 = .ok (.aload_n 0, 1) := by decide +kernel
theorem dX3_weigh_216 : decode cX3_weigh 216 = .ok (.getfield 62, 3) := by decide +kernel
theorem dX3_weigh_219 : decode cX3_weigh 219 = .ok (.if_icmp .gt 11, 3) := by decide +kernel
theorem dX3_weigh_222 : decode cX3_weigh 222 = .ok (.aload_n 0, 1) := by decide +kernel
theorem dX3_weigh_223 : decode cX3_weigh 223 = .ok (.getfield 18, 3) := by decide +kernel
theorem dX3_weigh_226 : decode cX3_weigh 226 = .ok (.iload 5, 2) := by decide +kernel
theorem dX3_weigh_228 : decode cX3_weigh 228 = .ok (.iconst 1, 1) := by decide +kernel
theorem dX3_weigh_229 : decode cX3_weigh 229 = .ok (.bastore, 1) := by decide +kernel
theorem dX3_weigh_230 : decode cX3_weigh 230 = .ok (.return_, 1) := by decide +kernel
theorem dX3_keepPath_0 : decode cX3_keepPath 0 = .ok (.aload_n 0, 1) := by decide +kernel
theorem dX3_keepPath_1 : decode cX3_keepPath 1 = .ok (.getfield 9, 3) := by decide +kernel
theorem dX3_keepPath_4 : decode cX3_keepPath 4 = .ok (.iconst 0, 1) := by decide +kernel
theorem dX3_keepPath_5 : decode cX3_keepPath 5 = .ok (.aload_n 0, 1) := by decide +kernel
theorem dX3_keepPath_6 : decode cX3_keepPath 6 = .ok (.getfield 15, 3) := by decide +kernel
theorem dX3_keepPath_9 : decode cX3_keepPath 9 = .ok (.iconst 0, 1) := by decide +kernel
theorem dX3_keepPath_10 : decode cX3_keepPath 10 = .ok (.iload_n 1, 1) := by decide +kernel
theorem dX3_keepPath_11 : decode cX3_keepPath 11 = .ok (.invokestatic 107, 3) := by decide +kernel
theorem dX3_keepPath_14 : decode cX3_keepPath 14 = .ok (.aload_n 0, 1) := by decide +kernel
theorem dX3_keepPath_15 : decode cX3_keepPath 15 = .ok (.iload_n 1, 1) := by decide +kernel
theorem dX3_keepPath_16 : decode cX3_keepPath 16 = .ok (.putfield 38, 3) := by decide +kernel
theorem dX3_keepPath_19 : decode cX3_keepPath 19 = .ok (.aload_n 0, 1) := by decide +kernel
theorem dX3_keepPath_20 : decode cX3_keepPath 20 = .ok (.iload_n 2, 1) := by decide +kernel
theorem dX3_keepPath_21 : decode cX3_keepPath 21 = .ok (.putfield 44, 3) := by decide +kernel
theorem dX3_keepPath_24 : decode cX3_keepPath 24 = .ok (.aload_n 0, 1) := by decide +kernel
theorem dX3_keepPath_25 : decode cX3_keepPath 25 = .ok (.iload_n 3, 1) := by decide +kernel
theorem dX3_keepPath_26 : decode cX3_keepPath 26 = .ok (.putfield 41, 3) := by decide +kernel
theorem dX3_keepPath_29 : decode cX3_keepPath 29 = .ok (.return_, 1) := by decide +kernel
theorem dX4_init_0 : decode cX4_init 0 = .ok (.aload_n 0, 1) := by decide +kernel
theorem dX4_init_1 : decode cX4_init 1 = .ok (.invokespecial 3, 3) := by decide +kernel
theorem dX4_init_4 : decode cX4_init 4 = .ok (.aload_n 0, 1) := by decide +kernel
theorem dX4_init_5 : decode cX4_init 5 = .ok (.bipush 120, 2) := by decide +kernel
theorem dX4_init_7 : decode cX4_init 7 = .ok (.newarray .int, 2) := by decide +kernel
theorem dX4_init_9 : decode cX4_init 9 = .ok (.putfield 9, 3) := by decide +kernel
theorem dX4_init_12 : decode cX4_init 12 = .ok (.return_, 1) := by decide +kernel
theorem dX4_put_0 : decode cX4_put 0 = .ok (.aload_n 0, 1) := by decide +kernel
theorem dX4_put_1 : decode cX4_put 1 = .ok (.getfield 9, 3) := by decide +kernel
theorem dX4_put_4 : decode cX4_put 4 = .ok (.aload_n 0, 1) := by decide +kernel
theorem dX4_put_5 : decode cX4_put 5 = .ok (.getfield 15, 3) := by decide +kernel
theorem dX4_put_8 : decode cX4_put 8 = .ok (.iload_n 1, 1) := by decide +kernel
theorem dX4_put_9 : decode cX4_put 9 = .ok (.iastore, 1) := by decide +kernel
theorem dX4_put_10 : decode cX4_put 10 = .ok (.aload_n 0, 1) := by decide +kernel
theorem dX4_put_11 : decode cX4_put 11 = .ok (.dup, 1) := by decide +kernel
theorem dX4_put_12 : decode cX4_put 12 = .ok (.getfield 15, 3) := by decide +kernel
theorem dX4_put_15 : decode cX4_put 15 = .ok (.iconst 1, 1) := by decide +kernel
theorem dX4_put_16 : decode cX4_put 16 = .ok (.iadd, 1) := by decide +kernel
theorem dX4_put_17 : decode cX4_put 17 = .ok (.putfield 15, 3) := by decide +kernel
theorem dX4_put_20 : decode cX4_put 20 = .ok (.aload_n 0, 1) := by decide +kernel
theorem dX4_put_21 : decode cX4_put 21 = .ok (.getfield 15, 3) := by decide +kernel
theorem dX4_put_24 : decode cX4_put 24 = .ok (.ireturn, 1) := by decide +kernel
theorem dX4_readInto_0 : decode cX4_readInto 0 = .ok (.aload_n 1, 1) := by decide +kernel
theorem dX4_readInto_1 : decode cX4_readInto 1 = .ok (.invokevirtual 19, 3) := by decide +kernel
theorem dX4_readInto_4 : decode cX4_readInto 4 = .ok (.aload_n 0, 1) := by decide +kernel
theorem dX4_readInto_5 : decode cX4_readInto 5 = .ok (.iconst 0, 1) := by decide +kernel
theorem dX4_readInto_6 : decode cX4_readInto 6 = .ok (.putfield 24, 3) := by decide +kernel
theorem dX4_readInto_9 : decode cX4_readInto 9 = .ok (.aload_n 0, 1) := by decide +kernel
theorem dX4_readInto_10 : decode cX4_readInto 10 = .ok (.aload_n 1, 1) := by decide +kernel
theorem dX4_readInto_11 : decode cX4_readInto 11 = .ok (.invokevirtual 27, 3) := by decide +kernel
theorem dX4_readInto_14 : decode cX4_readInto 14 = .ok (.ifCond .eq 19, 3) := by decide +kernel
theorem dX4_readInto_17 : decode cX4_readInto 17 = .ok (.aload_n 0, 1) := by decide +kernel
theorem dX4_readInto_18 : decode cX4_readInto 18 = .ok (.aload_n 1, 1) := by decide +kernel
theorem dX4_readInto_19 : decode cX4_readInto 19 = .ok (.invokevirtual 31, 3) := by decide +kernel
theorem dX4_readInto_22 : decode cX4_readInto 22 = .ok (.ifCond .eq 11, 3) := by decide +kernel
theorem dX4_readInto_25 : decode cX4_readInto 25 = .ok (.aload_n 0, 1) := by decide +kernel
theorem dX4_readInto_26 : decode cX4_readInto 26 = .ok (.aload_n 1, 1) := by decide +kernel
theorem dX4_readInto_27 : decode cX4_readInto 27 = .ok (.invokevirtual 34, 3) := by decide +kernel
theorem dX4_readInto_30 : decode cX4_readInto 30 = .ok (.ifCond .ne 5, 3) := by decide +kernel
theorem dX4_readInto_33 : decode cX4_readInto 33 = .ok (.iconst 0, 1) := by decide +kernel
theorem dX4_readInto_34 : decode cX4_readInto 34 = .ok (.ireturn, 1) := by decide +kernel
theorem dX4_readInto_35 : decode cX4_readInto 35 = .ok (.aload_n 1, 1) := by decide +kernel
theorem dX4_readInto_36 : decode cX4_readInto 36 = .ok (.iconst 1, 1) := by decide +kernel
theorem dX4_readInto_37 : decode cX4_readInto 37 = .ok (.aload_n 1, 1) := by decide +kernel
theorem dX4_readInto_38 : decode cX4_readInto 38 = .ok (.getfield 37, 3) := by decide +kernel
theorem dX4_readInto_41 : decode cX4_readInto 41 = .ok (.ishl, 1) := by decide +kernel
theorem dX4_readInto_42 : decode cX4_readInto 42 = .ok (.iconst 1, 1) := by decide +kernel
theorem dX4_readInto_43 : decode cX4_readInto 43 = .ok (.isub, 1) := by decide +kernel
theorem dX4_readInto_44 : decode cX4_readInto 44 = .ok (.putfield 40, 3) := by decide +kernel
theorem dX4_readInto_47 : decode cX4_readInto 47 = .ok (.iconst 1, 1) := by decide +kernel
theorem dX4_readInto_48 : decode cX4_readInto 48 = .ok (.ireturn, 1) := by decide +kernel
theorem dX4_readLaw_0 : decode cX4_readLaw 0 = .ok (.aload_n 0, 1) := by decide +kernel
theorem dX4_readLaw_1 : decode cX4_readLaw 1 = .ok (.bipush 116, 2) := by decide +kernel
theorem dX4_readLaw_3 : decode cX4_readLaw 3 = .ok (.invokevirtual 43, 3) := by decide +kernel
theorem dX4_readLaw_6 : decode cX4_readLaw 6 = .ok (.ifCond .ne 5, 3) := by decide +kernel
theorem dX4_readLaw_9 : decode cX4_readLaw 9 = .ok (.iconst 0, 1) := by decide +kernel
theorem dX4_readLaw_10 : decode cX4_readLaw 10 = .ok (.ireturn, 1) := by decide +kernel
theorem dX4_readLaw_11 : decode cX4_readLaw 11 = .ok (.aload_n 1, 1) := by decide +kernel
theorem dX4_readLaw_12 : decode cX4_readLaw 12 = .ok (.aload_n 0, 1) := by decide +kernel
theorem dX4_readLaw_13 : decode cX4_readLaw 13 = .ok (.iconst 1, 1) := by decide +kernel
theorem dX4_readLaw_14 : decode cX4_readLaw 14 = .ok (.bipush 9, 2) := by decide +kernel
theorem dX4_readLaw_16 : decode cX4_readLaw 16 = .ok (.invokevirtual 47, 3) := by decide +kernel
theorem dX4_readLaw_19 : decode cX4_readLaw 19 = .ok (.putfield 51, 3) := by decide +kernel
theorem dX4_readLaw_22 : decode cX4_readLaw 22 = .ok (.aload_n 1, 1) := by decide +kernel
theorem dX4_readLaw_23 : decode cX4_readLaw 23 = .ok (.getfield 51, 3) := by decide +kernel
theorem dX4_readLaw_26 : decode cX4_readLaw 26 = .ok (.ifCond .lt 12, 3) := by decide +kernel
theorem dX4_readLaw_29 : decode cX4_readLaw 29 = .ok (.aload_n 0, 1) := by decide +kernel
theorem dX4_readLaw_30 : decode cX4_readLaw 30 = .ok (.bipush 44, 2) := by decide +kernel
theorem dX4_readLaw_32 : decode cX4_readLaw 32 = .ok (.invokevirtual 43, 3) := by decide +kernel
theorem dX4_readLaw_35 : decode cX4_readLaw 35 = .ok (.ifCond .ne 5, 3) := by decide +kernel
theorem dX4_readLaw_38 : decode cX4_readLaw 38 = .ok (.iconst 0, 1) := by decide +kernel
theorem dX4_readLaw_39 : decode cX4_readLaw 39 = .ok (.ireturn, 1) := by decide +kernel
theorem dX4_readLaw_40 : decode cX4_readLaw 40 = .ok (.aload_n 1, 1) := by decide +kernel
theorem dX4_readLaw_41 : decode cX4_readLaw 41 = .ok (.aload_n 0, 1) := by decide +kernel
theorem dX4_readLaw_42 : decode cX4_readLaw 42 = .ok (.iconst 0, 1) := by decide +kernel
theorem dX4_readLaw_43 : decode cX4_readLaw 43 = .ok (.bipush 9, 2) := by decide +kernel
theorem dX4_readLaw_45 : decode cX4_readLaw 45 = .ok (.invokevirtual 47, 3) := by decide +kernel
theorem dX4_readLaw_48 : decode cX4_readLaw 48 = .ok (.putfield 54, 3) := by decide +kernel
theorem dX4_readLaw_51 : decode cX4_readLaw 51 = .ok (.aload_n 1, 1) := by decide +kernel
theorem dX4_readLaw_52 : decode cX4_readLaw 52 = .ok (.getfield 54, 3) := by decide +kernel
theorem dX4_readLaw_55 : decode cX4_readLaw 55 = .ok (.ifCond .lt 16, 3) := by decide +kernel
theorem dX4_readLaw_58 : decode cX4_readLaw 58 = .ok (.aload_n 0, 1) := by decide +kernel
theorem dX4_readLaw_59 : decode cX4_readLaw 59 = .ok (.bipush 59, 2) := by decide +kernel
theorem dX4_readLaw_61 : decode cX4_readLaw 61 = .ok (.invokevirtual 43, 3) := by decide +kernel
theorem dX4_readLaw_64 : decode cX4_readLaw 64 = .ok (.ifCond .eq 7, 3) := by decide +kernel
theorem dX4_readLaw_67 : decode cX4_readLaw 67 = .ok (.iconst 1, 1) := by decide +kernel
theorem dX4_readLaw_68 : decode cX4_readLaw 68 = .ok (.goto 4, 3) := by decide +kernel
theorem dX4_readLaw_71 : decode cX4_readLaw 71 = .ok (.iconst 0, 1) := by decide +kernel
theorem dX4_readLaw_72 : decode cX4_readLaw 72 = .ok (.ireturn, 1) := by decide +kernel
theorem dX4_readCorners_0 : decode cX4_readCorners 0 = .ok (.iconst 0, 1) := by decide +kernel
theorem dX4_readCorners_1 : decode cX4_readCorners 1 = .ok (.istore_n 2, 1) := by decide +kernel
theorem dX4_readCorners_2 : decode cX4_readCorners 2 = .ok (.iload_n 2, 1) := by decide +kernel
theorem dX4_readCorners_3 : decode cX4_readCorners 3 = .ok (.bipush 6, 2) := by decide +kernel
theorem dX4_readCorners_5 : decode cX4_readCorners 5 = .ok (.if_icmp .gt 152, 3) := by decide +kernel
theorem dX4_readCorners_8 : decode cX4_readCorners 8 = .ok (.aload_n 0, 1) := by decide +kernel
theorem dX4_readCorners_9 : decode cX4_readCorners 9 = .ok (.invokevirtual 57, 3) := by decide +kernel
theorem dX4_readCorners_12 : decode cX4_readCorners 12 = .ok (.invokestatic 61, 3) := by decide +kernel
theorem dX4_readCorners_15 : decode cX4_readCorners 15 = .ok (.istore_n 3, 1) := by decide +kernel
theorem dX4_readCorners_16 : decode cX4_readCorners 16 = .ok (.iload_n 3, 1) := by decide +kernel
theorem dX4_readCorners_17 : decode cX4_readCorners 17 = .ok (.ifCond .ne 25, 3) := by decide +kernel
theorem dX4_readCorners_20 : decode cX4_readCorners 20 = .ok (.iload_n 2, 1) := by decide +kernel
theorem dX4_readCorners_21 : decode cX4_readCorners 21 = .ok (.ifCond .gt 15, 3) := by decide +kernel
theorem dX4_readCorners_24 : decode cX4_readCorners 24 = .ok (.aload_n 0, 1) := by decide +kernel
theorem dX4_readCorners_25 : decode cX4_readCorners 25 = .ok (.aload_n 0, 1) := by decide +kernel
theorem dX4_readCorners_26 : decode cX4_readCorners 26 = .ok (.getfield 24, 3) := by decide +kernel
theorem dX4_readCorners_29 : decode cX4_readCorners 29 = .ok (.iconst 1, 1) := by decide +kernel
theorem dX4_readCorners_30 : decode cX4_readCorners 30 = .ok (.invokevirtual 65, 3) := by decide +kernel
theorem dX4_readCorners_33 : decode cX4_readCorners 33 = .ok (.ifCond .eq 7, 3) := by decide +kernel
theorem dX4_readCorners_36 : decode cX4_readCorners 36 = .ok (.iconst 1, 1) := by decide +kernel
theorem dX4_readCorners_37 : decode cX4_readCorners 37 = .ok (.goto 4, 3) := by decide +kernel
theorem dX4_readCorners_40 : decode cX4_readCorners 40 = .ok (.iconst 0, 1) := by decide +kernel
theorem dX4_readCorners_41 : decode cX4_readCorners 41 = .ok (.ireturn, 1) := by decide +kernel
theorem dX4_readCorners_42 : decode cX4_readCorners 42 = .ok (.iload_n 2, 1) := by decide +kernel
theorem dX4_readCorners_43 : decode cX4_readCorners 43 = .ok (.bipush 6, 2) := by decide +kernel
theorem dX4_readCorners_45 : decode cX4_readCorners 45 = .ok (.if_icmp .ne 13, 3) := by decide +kernel
theorem dX4_readCorners_48 : decode cX4_readCorners 48 = .ok (.aload_n 0, 1) := by decide +kernel
theorem dX4_readCorners_49 : decode cX4_readCorners 49 = .ok (.aload_n 0, 1) := by decide +kernel
theorem dX4_readCorners_50 : decode cX4_readCorners 50 = .ok (.getfield 24, 3) := by decide +kernel
theorem dX4_readCorners_53 : decode cX4_readCorners 53 = .ok (.iconst 3, 1) := by decide +kernel
theorem dX4_readCorners_54 : decode cX4_readCorners 54 = .ok (.invokevirtual 65, 3) := by decide +kernel
theorem dX4_readCorners_57 : decode cX4_readCorners 57 = .ok (.ireturn, 1) := by decide +kernel
theorem dX4_readCorners_58 : decode cX4_readCorners 58 = .ok (.aload_n 0, 1) := by decide +kernel
theorem dX4_readCorners_59 : decode cX4_readCorners 59 = .ok (.dup, 1) := by decide +kernel
theorem dX4_readCorners_60 : decode cX4_readCorners 60 = .ok (.getfield 24, 3) := by decide +kernel
theorem dX4_readCorners_63 : decode cX4_readCorners 63 = .ok (.iconst 1, 1) := by decide +kernel
theorem dX4_readCorners_64 : decode cX4_readCorners 64 = .ok (.iadd, 1) := by decide +kernel
theorem dX4_readCorners_65 : decode cX4_readCorners 65 = .ok (.putfield 24, 3) := by decide +kernel
theorem dX4_readCorners_68 : decode cX4_readCorners 68 = .ok (.aload_n 1, 1) := by decide +kernel
theorem dX4_readCorners_69 : decode cX4_readCorners 69 = .ok (.getfield 69, 3) := by decide +kernel
theorem dX4_readCorners_72 : decode cX4_readCorners 72 = .ok (.iload_n 2, 1) := by decide +kernel
theorem dX4_readCorners_73 : decode cX4_readCorners 73 = .ok (.iload_n 3, 1) := by decide +kernel
theorem dX4_readCorners_74 : decode cX4_readCorners 74 = .ok (.iastore, 1) := by decide +kernel
theorem dX4_readCorners_75 : decode cX4_readCorners 75 = .ok (.aload_n 1, 1) := by decide +kernel
theorem dX4_readCorners_76 : decode cX4_readCorners 76 = .ok (.getfield 72, 3) := by decide +kernel
theorem dX4_readCorners_79 : decode cX4_readCorners 79 = .ok (.iload_n 2, 1) := by decide +kernel
theorem dX4_readCorners_80 : decode cX4_readCorners 80 = .ok (.aload_n 0, 1) := by decide +kernel
theorem dX4_readCorners_81 : decode cX4_readCorners 81 = .ok (.iconst 0, 1) := by decide +kernel
theorem dX4_readCorners_82 : decode cX4_readCorners 82 = .ok (.bipush 9, 2) := by decide +kernel
theorem dX4_readCorners_84 : decode cX4_readCorners 84 = .ok (.invokevirtual 47, 3) := by decide +kernel
theorem dX4_readCorners_87 : decode cX4_readCorners 87 = .ok (.iastore, 1) := by decide +kernel
theorem dX4_readCorners_88 : decode cX4_readCorners 88 = .ok (.aload_n 1, 1) := by decide +kernel
theorem dX4_readCorners_89 : decode cX4_readCorners 89 = .ok (.getfield 72, 3) := by decide +kernel
theorem dX4_readCorners_92 : decode cX4_readCorners 92 = .ok (.iload_n 2, 1) := by decide +kernel
theorem dX4_readCorners_93 : decode cX4_readCorners 93 = .ok (.iaload, 1) := by decide +kernel
theorem dX4_readCorners_94 : decode cX4_readCorners 94 = .ok (.ifCond .lt 12, 3) := by decide +kernel
theorem dX4_readCorners_97 : decode cX4_readCorners 97 = .ok (.aload_n 0, 1) := by decide +kernel
theorem dX4_readCorners_98 : decode cX4_readCorners 98 = .ok (.bipush 44, 2) := by decide +kernel
theorem dX4_readCorners_100 : decode cX4_readCorners 100 = .ok (.invokevirtual 43, 3) := by decide +kernel
theorem dX4_readCorners_103 : decode cX4_readCorners 103 = .ok (.ifCond .ne 5, 3) := by decide +kernel
theorem dX4_readCorners_106 : decode cX4_readCorners 106 = .ok (.iconst 0, 1) := by decide +kernel
theorem dX4_readCorners_107 : decode cX4_readCorners 107 = .ok (.ireturn, 1) := by decide +kernel
theorem dX4_readCorners_108 : decode cX4_readCorners 108 = .ok (.aload_n 1, 1) := by decide +kernel
theorem dX4_readCorners_109 : decode cX4_readCorners 109 = .ok (.getfield 75, 3) := by decide +kernel
theorem dX4_readCorners_112 : decode cX4_readCorners 112 = .ok (.iload_n 2, 1) := by decide +kernel
theorem dX4_readCorners_113 : decode cX4_readCorners 113 = .ok (.aload_n 0, 1) := by decide +kernel
theorem dX4_readCorners_114 : decode cX4_readCorners 114 = .ok (.iconst 0, 1) := by decide +kernel
theorem dX4_readCorners_115 : decode cX4_readCorners 115 = .ok (.bipush 9, 2) := by decide +kernel
theorem dX4_readCorners_117 : decode cX4_readCorners 117 = .ok (.invokevirtual 47, 3) := by decide +kernel
theorem dX4_readCorners_120 : decode cX4_readCorners 120 = .ok (.iastore, 1) := by decide +kernel
theorem dX4_readCorners_121 : decode cX4_readCorners 121 = .ok (.aload_n 1, 1) := by decide +kernel
theorem dX4_readCorners_122 : decode cX4_readCorners 122 = .ok (.getfield 75, 3) := by decide +kernel
theorem dX4_readCorners_125 : decode cX4_readCorners 125 = .ok (.iload_n 2, 1) := by decide +kernel
theorem dX4_readCorners_126 : decode cX4_readCorners 126 = .ok (.iaload, 1) := by decide +kernel
theorem dX4_readCorners_127 : decode cX4_readCorners 127 = .ok (.ifCond .lt 12, 3) := by decide +kernel
theorem dX4_readCorners_130 : decode cX4_readCorners 130 = .ok (.aload_n 0, 1) := by decide +kernel
theorem dX4_readCorners_131 : decode cX4_readCorners 131 = .ok (.bipush 59, 2) := by decide +kernel
theorem dX4_readCorners_133 : decode cX4_readCorners 133 = .ok (.invokevirtual 43, 3) := by decide +kernel
theorem dX4_readCorners_136 : decode cX4_readCorners 136 = .ok (.ifCond .ne 5, 3) := by decide +kernel
theorem dX4_readCorners_139 : decode cX4_readCorners 139 = .ok (.iconst 0, 1) := by decide +kernel
theorem dX4_readCorners_140 : decode cX4_readCorners 140 = .ok (.ireturn, 1) := by decide +kernel
theorem dX4_readCorners_141 : decode cX4_readCorners 141 = .ok (.aload_n 1, 1) := by decide +kernel
theorem dX4_readCorners_142 : decode cX4_readCorners 142 = .ok (.dup, 1) := by decide +kernel
theorem dX4_readCorners_143 : decode cX4_readCorners 143 = .ok (.getfield 78, 3) := by decide +kernel
theorem dX4_readCorners_146 : decode cX4_readCorners 146 = .ok (.iconst 1, 1) := by decide +kernel
theorem dX4_readCorners_147 : decode cX4_readCorners 147 = .ok (.iadd, 1) := by decide +kernel
theorem dX4_readCorners_148 : decode cX4_readCorners 148 = .ok (.putfield 78, 3) := by decide +kernel
theorem dX4_readCorners_151 : decode cX4_readCorners 151 = .ok (.iinc 2 1, 3) := by decide +kernel
theorem dX4_readCorners_154 : decode cX4_readCorners 154 = .ok (.goto (-152), 3) := by decide +kernel
theorem dX4_readCorners_157 : decode cX4_readCorners 157 = .ok (.iconst 1, 1) := by decide +kernel
theorem dX4_readCorners_158 : decode cX4_readCorners 158 = .ok (.ireturn, 1) := by decide +kernel
theorem dX4_readStreets_0 : decode cX4_readStreets 0 = .ok (.iconst 0, 1) := by decide +kernel
theorem dX4_readStreets_1 : decode cX4_readStreets 1 = .ok (.istore_n 2, 1) := by decide +kernel
theorem dX4_readStreets_2 : decode cX4_readStreets 2 = .ok (.iload_n 2, 1) := by decide +kernel
theorem dX4_readStreets_3 : decode cX4_readStreets 3 = .ok (.bipush 8, 2) := by decide +kernel
theorem dX4_readStreets_5 : decode cX4_readStreets 5 = .ok (.if_icmp .gt 86, 3) := by decide +kernel
theorem dX4_readStreets_8 : decode cX4_readStreets 8 = .ok (.aload_n 0, 1) := by decide +kernel
theorem dX4_readStreets_9 : decode cX4_readStreets 9 = .ok (.getfield 24, 3) := by decide +kernel
theorem dX4_readStreets_12 : decode cX4_readStreets 12 = .ok (.aload_n 0, 1) := by decide +kernel
theorem dX4_readStreets_13 : decode cX4_readStreets 13 = .ok (.getfield 15, 3) := by decide +kernel
theorem dX4_readStreets_16 : decode cX4_readStreets 16 = .ok (.if_icmp .ge 75, 3) := by decide +kernel
theorem dX4_readStreets_19 : decode cX4_readStreets 19 = .ok (.aload_n 0, 1) := by decide +kernel
theorem dX4_readStreets_20 : decode cX4_readStreets 20 = .ok (.invokevirtual 57, 3) := by decide +kernel
theorem dX4_readStreets_23 : decode cX4_readStreets 23 = .ok (.bipush 120, 2) := by decide +kernel
theorem dX4_readStreets_25 : decode cX4_readStreets 25 = .ok (.if_icmp .eq 13, 3) := by decide +kernel
theorem dX4_readStreets_28 : decode cX4_readStreets 28 = .ok (.aload_n 0, 1) := by decide +kernel
theorem dX4_readStreets_29 : decode cX4_readStreets 29 = .ok (.aload_n 0, 1) := by decide +kernel
theorem dX4_readStreets_30 : decode cX4_readStreets 30 = .ok (.getfield 24, 3) := by decide +kernel
theorem dX4_readStreets_33 : decode cX4_readStreets 33 = .ok (.iconst 1, 1) := by decide +kernel
theorem dX4_readStreets_34 : decode cX4_readStreets 34 = .ok (.invokevirtual 65, 3) := by decide +kernel
theorem dX4_readStreets_37 : decode cX4_readStreets 37 = .ok (.ireturn, 1) := by decide +kernel
theorem dX4_readStreets_38 : decode cX4_readStreets 38 = .ok (.iload_n 2, 1) := by decide +kernel
theorem dX4_readStreets_39 : decode cX4_readStreets 39 = .ok (.bipush 8, 2) := by decide +kernel
theorem dX4_readStreets_41 : decode cX4_readStreets 41 = .ok (.if_icmp .ne 13, 3) := by decide +kernel
theorem dX4_readStreets_44 : decode cX4_readStreets 44 = .ok (.aload_n 0, 1) := by decide +kernel
theorem dX4_readStreets_45 : decode cX4_readStreets 45 = .ok (.aload_n 0, 1) := by decide +kernel
theorem dX4_readStreets_46 : decode cX4_readStreets 46 = .ok (.getfield 24, 3) := by decide +kernel
theorem dX4_readStreets_49 : decode cX4_readStreets 49 = .ok (.iconst 3, 1) := by decide +kernel
theorem dX4_readStreets_50 : decode cX4_readStreets 50 = .ok (.invokevirtual 65, 3) := by decide +kernel
theorem dX4_readStreets_53 : decode cX4_readStreets 53 = .ok (.ireturn, 1) := by decide +kernel
theorem dX4_readStreets_54 : decode cX4_readStreets 54 = .ok (.aload_n 0, 1) := by decide +kernel
theorem dX4_readStreets_55 : decode cX4_readStreets 55 = .ok (.dup, 1) := by decide +kernel
theorem dX4_readStreets_56 : decode cX4_readStreets 56 = .ok (.getfield 24, 3) := by decide +kernel
theorem dX4_readStreets_59 : decode cX4_readStreets 59 = .ok (.iconst 1, 1) := by decide +kernel
theorem dX4_readStreets_60 : decode cX4_readStreets 60 = .ok (.iadd, 1) := by decide +kernel
theorem dX4_readStreets_61 : decode cX4_readStreets 61 = .ok (.putfield 24, 3) := by decide +kernel
theorem dX4_readStreets_64 : decode cX4_readStreets 64 = .ok (.aload_n 0, 1) := by decide +kernel
theorem dX4_readStreets_65 : decode cX4_readStreets 65 = .ok (.aload_n 1, 1) := by decide +kernel
theorem dX4_readStreets_66 : decode cX4_readStreets 66 = .ok (.iload_n 2, 1) := by decide +kernel
theorem dX4_readStreets_67 : decode cX4_readStreets 67 = .ok (.invokevirtual 81, 3) := by decide +kernel
theorem dX4_readStreets_70 : decode cX4_readStreets 70 = .ok (.ifCond .ne 5, 3) := by decide +kernel
theorem dX4_readStreets_73 : decode cX4_readStreets 73 = .ok (.iconst 0, 1) := by decide +kernel
theorem dX4_readStreets_74 : decode cX4_readStreets 74 = .ok (.ireturn, 1) := by decide +kernel
theorem dX4_readStreets_75 : decode cX4_readStreets 75 = .ok (.aload_n 1, 1) := by decide +kernel
theorem dX4_readStreets_76 : decode cX4_readStreets 76 = .ok (.dup, 1) := by decide +kernel
theorem dX4_readStreets_77 : decode cX4_readStreets 77 = .ok (.getfield 37, 3) := by decide +kernel
theorem dX4_readStreets_80 : decode cX4_readStreets 80 = .ok (.iconst 1, 1) := by decide +kernel
theorem dX4_readStreets_81 : decode cX4_readStreets 81 = .ok (.iadd, 1) := by decide +kernel
theorem dX4_readStreets_82 : decode cX4_readStreets 82 = .ok (.putfield 37, 3) := by decide +kernel
theorem dX4_readStreets_85 : decode cX4_readStreets 85 = .ok (.iinc 2 1, 3) := by decide +kernel
theorem dX4_readStreets_88 : decode cX4_readStreets 88 = .ok (.goto (-86), 3) := by decide +kernel
theorem dX4_readStreets_91 : decode cX4_readStreets 91 = .ok (.iconst 1, 1) := by decide +kernel
theorem dX4_readStreets_92 : decode cX4_readStreets 92 = .ok (.ireturn, 1) := by decide +kernel
theorem dX4_readEnds_0 : decode cX4_readEnds 0 = .ok (.aload_n 0, 1) := by decide +kernel
theorem dX4_readEnds_1 : decode cX4_readEnds 1 = .ok (.iconst 0, 1) := by decide +kernel
theorem dX4_readEnds_2 : decode cX4_readEnds 2 = .ok (.aload_n 1, 1) := by decide +kernel
theorem dX4_readEnds_3 : decode cX4_readEnds 3 = .ok (.getfield 78, 3) := by decide +kernel
theorem dX4_readEnds_6 : decode cX4_readEnds 6 = .ok (.iconst 1, 1) := by decide +kernel
theorem dX4_readEnds_7 : decode cX4_readEnds 7 = .ok (.isub, 1) := by decide +kernel
theorem dX4_readEnds_8 : decode cX4_readEnds 8 = .ok (.invokevirtual 47, 3) := by decide +kernel
theorem dX4_readEnds_11 : decode cX4_readEnds 11 = .ok (.istore_n 3, 1) := by decide +kernel
theorem dX4_readEnds_12 : decode cX4_readEnds 12 = .ok (.iload_n 3, 1) := by decide +kernel
theorem dX4_readEnds_13 : decode cX4_readEnds 13 = .ok (.ifCond .lt 12, 3) := by decide +kernel
theorem dX4_readEnds_16 : decode cX4_readEnds 16 = .ok (.aload_n 0, 1) := by decide +kernel
theorem dX4_readEnds_17 : decode cX4_readEnds 17 = .ok (.bipush 44, 2) := by decide +kernel
theorem dX4_readEnds_19 : decode cX4_readEnds 19 = .ok (.invokevirtual 43, 3) := by decide +kernel
theorem dX4_readEnds_22 : decode cX4_readEnds 22 = .ok (.ifCond .ne 5, 3) := by decide +kernel
theorem dX4_readEnds_25 : decode cX4_readEnds 25 = .ok (.iconst 0, 1) := by decide +kernel
theorem dX4_readEnds_26 : decode cX4_readEnds 26 = .ok (.ireturn, 1) := by decide +kernel
theorem dX4_readEnds_27 : decode cX4_readEnds 27 = .ok (.aload_n 0, 1) := by decide +kernel
theorem dX4_readEnds_28 : decode cX4_readEnds 28 = .ok (.getfield 24, 3) := by decide +kernel
theorem dX4_readEnds_31 : decode cX4_readEnds 31 = .ok (.istore 4, 2) := by decide +kernel
theorem dX4_readEnds_33 : decode cX4_readEnds 33 = .ok (.aload_n 0, 1) := by decide +kernel
theorem dX4_readEnds_34 : decode cX4_readEnds 34 = .ok (.iconst 0, 1) := by decide +kernel
theorem dX4_readEnds_35 : decode cX4_readEnds 35 = .ok (.aload_n 1, 1) := by decide +kernel
theorem dX4_readEnds_36 : decode cX4_readEnds 36 = .ok (.getfield 78, 3) := by decide +kernel
theorem dX4_readEnds_39 : decode cX4_readEnds 39 = .ok (.iconst 1, 1) := by decide +kernel
theorem dX4_readEnds_40 : decode cX4_readEnds 40 = .ok (.isub, 1) := by decide +kernel
theorem dX4_readEnds_41 : decode cX4_readEnds 41 = .ok (.invokevirtual 47, 3) := by decide +kernel
theorem dX4_readEnds_44 : decode cX4_readEnds 44 = .ok (.istore 5, 2) := by decide +kernel
theorem dX4_readEnds_46 : decode cX4_readEnds 46 = .ok (.iload 5, 2) := by decide +kernel
theorem dX4_readEnds_48 : decode cX4_readEnds 48 = .ok (.ifCond .ge 5, 3) := by decide +kernel
theorem dX4_readEnds_51 : decode cX4_readEnds 51 = .ok (.iconst 0, 1) := by decide +kernel
theorem dX4_readEnds_52 : decode cX4_readEnds 52 = .ok (.ireturn, 1) := by decide +kernel
theorem dX4_readEnds_53 : decode cX4_readEnds 53 = .ok (.iload_n 3, 1) := by decide +kernel
theorem dX4_readEnds_54 : decode cX4_readEnds 54 = .ok (.iload 5, 2) := by decide +kernel
theorem dX4_readEnds_56 : decode cX4_readEnds 56 = .ok (.if_icmp .eq 13, 3) := by decide +kernel
theorem dX4_readEnds_59 : decode cX4_readEnds 59 = .ok (.aload_n 1, 1) := by decide +kernel
theorem dX4_readEnds_60 : decode cX4_readEnds 60 = .ok (.iload_n 3, 1) := by decide +kernel
theorem dX4_readEnds_61 : decode cX4_readEnds 61 = .ok (.iload 5, 2) := by decide +kernel
theorem dX4_readEnds_63 : decode cX4_readEnds 63 = .ok (.invokestatic 85, 3) := by decide +kernel
theorem dX4_readEnds_66 : decode cX4_readEnds 66 = .ok (.ifCond .eq 11, 3) := by decide +kernel
theorem dX4_readEnds_69 : decode cX4_readEnds 69 = .ok (.aload_n 0, 1) := by decide +kernel
theorem dX4_readEnds_70 : decode cX4_readEnds 70 = .ok (.iload 4, 2) := by decide +kernel
theorem dX4_readEnds_72 : decode cX4_readEnds 72 = .ok (.iconst 2, 1) := by decide +kernel
theorem dX4_readEnds_73 : decode cX4_readEnds 73 = .ok (.invokevirtual 65, 3) := by decide +kernel
theorem dX4_readEnds_76 : decode cX4_readEnds 76 = .ok (.ireturn, 1) := by decide +kernel
theorem dX4_readEnds_77 : decode cX4_readEnds 77 = .ok (.aload_n 1, 1) := by decide +kernel
theorem dX4_readEnds_78 : decode cX4_readEnds 78 = .ok (.getfield 89, 3) := by decide +kernel
theorem dX4_readEnds_81 : decode cX4_readEnds 81 = .ok (.iload_n 2, 1) := by decide +kernel
theorem dX4_readEnds_82 : decode cX4_readEnds 82 = .ok (.iload_n 3, 1) := by decide +kernel
theorem dX4_readEnds_83 : decode cX4_readEnds 83 = .ok (.iastore, 1) := by decide +kernel
theorem dX4_readEnds_84 : decode cX4_readEnds 84 = .ok (.aload_n 1, 1) := by decide +kernel
theorem dX4_readEnds_85 : decode cX4_readEnds 85 = .ok (.getfield 92, 3) := by decide +kernel
theorem dX4_readEnds_88 : decode cX4_readEnds 88 = .ok (.iload_n 2, 1) := by decide +kernel
theorem dX4_readEnds_89 : decode cX4_readEnds 89 = .ok (.iload 5, 2) := by decide +kernel
theorem dX4_readEnds_91 : decode cX4_readEnds 91 = .ok (.iastore, 1) := by decide +kernel
theorem dX4_readEnds_92 : decode cX4_readEnds 92 = .ok (.aload_n 0, 1) := by decide +kernel
theorem dX4_readEnds_93 : decode cX4_readEnds 93 = .ok (.bipush 59, 2) := by decide +kernel
theorem dX4_readEnds_95 : decode cX4_readEnds 95 = .ok (.invokevirtual 43, 3) := by decide +kernel
theorem dX4_readEnds_98 : decode cX4_readEnds 98 = .ok (.ireturn, 1) := by decide +kernel
theorem dX4_isTold_0 : decode cX4_isTold 0 = .ok (.iconst 0, 1) := by decide +kernel
theorem dX4_isTold_1 : decode cX4_isTold 1 = .ok (.istore_n 3, 1) := by decide +kernel
theorem dX4_isTold_2 : decode cX4_isTold 2 = .ok (.iload_n 3, 1) := by decide +kernel
theorem dX4_isTold_3 : decode cX4_isTold 3 = .ok (.aload_n 0, 1) := by decide +kernel
theorem dX4_isTold_4 : decode cX4_isTold 4 = .ok (.getfield 37, 3) := by decide +kernel
theorem dX4_isTold_7 : decode cX4_isTold 7 = .ok (.if_icmp .ge 31, 3) := by decide +kernel
theorem dX4_isTold_10 : decode cX4_isTold 10 = .ok (.aload_n 0, 1) := by decide +kernel
theorem dX4_isTold_11 : decode cX4_isTold 11 = .ok (.getfield 89, 3) := by decide +kernel
theorem dX4_isTold_14 : decode cX4_isTold 14 = .ok (.iload_n 3, 1) := by decide +kernel
theorem dX4_isTold_15 : decode cX4_isTold 15 = .ok (.iaload, 1) := by decide +kernel
theorem dX4_isTold_16 : decode cX4_isTold 16 = .ok (.iload_n 1, 1) := by decide +kernel
theorem dX4_isTold_17 : decode cX4_isTold 17 = .ok (.if_icmp .ne 15, 3) := by decide +kernel
theorem dX4_isTold_20 : decode cX4_isTold 20 = .ok (.aload_n 0, 1) := by decide +kernel
theorem dX4_isTold_21 : decode cX4_isTold 21 = .ok (.getfield 92, 3) := by decide +kernel
theorem dX4_isTold_24 : decode cX4_isTold 24 = .ok (.iload_n 3, 1) := by decide +kernel
theorem dX4_isTold_25 : decode cX4_isTold 25 = .ok (.iaload, 1) := by decide +kernel
theorem dX4_isTold_26 : decode cX4_isTold 26 = .ok (.iload_n 2, 1) := by decide +kernel
theorem dX4_isTold_27 : decode cX4_isTold 27 = .ok (.if_icmp .ne 5, 3) := by decide +kernel
theorem dX4_isTold_30 : decode cX4_isTold 30 = .ok (.iconst 1, 1) := by decide +kernel
theorem dX4_isTold_31 : decode cX4_isTold 31 = .ok (.ireturn, 1) := by decide +kernel
theorem dX4_isTold_32 : decode cX4_isTold 32 = .ok (.iinc 3 1, 3) := by decide +kernel
theorem dX4_isTold_35 : decode cX4_isTold 35 = .ok (.goto (-33), 3) := by decide +kernel
theorem dX4_isTold_38 : decode cX4_isTold 38 = .ok (.iconst 0, 1) := by decide +kernel
theorem dX4_isTold_39 : decode cX4_isTold 39 = .ok (.ireturn, 1) := by decide +kernel
theorem dX4_kindOf_0 : decode cX4_kindOf 0 = .ok (.iload_n 0, 1) := by decide +kernel
theorem dX4_kindOf_1 : decode cX4_kindOf 1 = .ok (.tableswitch 73 103 114 #[69, 67, 73, 63, 73, 65, 73, 73, 73, 73, 73, 71], 63) := by decide +kernel
theorem dX4_kindOf_64 : decode cX4_kindOf 64 = .ok (.iconst 1, 1) := by decide +kernel
theorem dX4_kindOf_65 : decode cX4_kindOf 65 = .ok (.ireturn, 1) := by decide +kernel
theorem dX4_kindOf_66 : decode cX4_kindOf 66 = .ok (.iconst 2, 1) := by decide +kernel
theorem dX4_kindOf_67 : decode cX4_kindOf 67 = .ok (.ireturn, 1) := by decide +kernel
theorem dX4_kindOf_68 : decode cX4_kindOf 68 = .ok (.iconst 3, 1) := by decide +kernel
theorem dX4_kindOf_69 : decode cX4_kindOf 69 = .ok (.ireturn, 1) := by decide +kernel
theorem dX4_kindOf_70 : decode cX4_kindOf 70 = .ok (.iconst 4, 1) := by decide +kernel
theorem dX4_kindOf_71 : decode cX4_kindOf 71 = .ok (.ireturn, 1) := by decide +kernel
theorem dX4_kindOf_72 : decode cX4_kindOf 72 = .ok (.iconst 5, 1) := by decide +kernel
theorem dX4_kindOf_73 : decode cX4_kindOf 73 = .ok (.ireturn, 1) := by decide +kernel
theorem dX4_kindOf_74 : decode cX4_kindOf 74 = .ok (.iconst 0, 1) := by decide +kernel
theorem dX4_kindOf_75 : decode cX4_kindOf 75 = .ok (.ireturn, 1) := by decide +kernel
theorem dX4_letterHere_0 : decode cX4_letterHere 0 = .ok (.aload_n 0, 1) := by decide +kernel
theorem dX4_letterHere_1 : decode cX4_letterHere 1 = .ok (.getfield 24, 3) := by decide +kernel
theorem dX4_letterHere_4 : decode cX4_letterHere 4 = .ok (.aload_n 0, 1) := by decide +kernel
theorem dX4_letterHere_5 : decode cX4_letterHere 5 = .ok (.getfield 15, 3) := by decide +kernel
theorem dX4_letterHere_8 : decode cX4_letterHere 8 = .ok (.if_icmp .ge 15, 3) := by decide +kernel
theorem dX4_letterHere_11 : decode cX4_letterHere 11 = .ok (.aload_n 0, 1) := by decide +kernel
theorem dX4_letterHere_12 : decode cX4_letterHere 12 = .ok (.getfield 9, 3) := by decide +kernel
theorem dX4_letterHere_15 : decode cX4_letterHere 15 = .ok (.aload_n 0, 1) := by decide +kernel
theorem dX4_letterHere_16 : decode cX4_letterHere 16 = .ok (.getfield 24, 3) := by decide +kernel
theorem dX4_letterHere_19 : decode cX4_letterHere 19 = .ok (.iaload, 1) := by decide +kernel
theorem dX4_letterHere_20 : decode cX4_letterHere 20 = .ok (.goto 4, 3) := by decide +kernel
theorem dX4_letterHere_23 : decode cX4_letterHere 23 = .ok (.iconst (-1), 1) := by decide +kernel
theorem dX4_letterHere_24 : decode cX4_letterHere 24 = .ok (.ireturn, 1) := by decide +kernel
theorem dX4_takes_0 : decode cX4_takes 0 = .ok (.aload_n 0, 1) := by decide +kernel
theorem dX4_takes_1 : decode cX4_takes 1 = .ok (.invokevirtual 57, 3) := by decide +kernel
theorem dX4_takes_4 : decode cX4_takes 4 = .ok (.iload_n 1, 1) := by decide +kernel
theorem dX4_takes_5 : decode cX4_takes 5 = .ok (.if_icmp .eq 13, 3) := by decide +kernel
theorem dX4_takes_8 : decode cX4_takes 8 = .ok (.aload_n 0, 1) := by decide +kernel
theorem dX4_takes_9 : decode cX4_takes 9 = .ok (.aload_n 0, 1) := by decide +kernel
theorem dX4_takes_10 : decode cX4_takes 10 = .ok (.getfield 24, 3) := by decide +kernel
theorem dX4_takes_13 : decode cX4_takes 13 = .ok (.iconst 1, 1) := by decide +kernel
theorem dX4_takes_14 : decode cX4_takes 14 = .ok (.invokevirtual 65, 3) := by decide +kernel
theorem dX4_takes_17 : decode cX4_takes 17 = .ok (.ireturn, 1) := by decide +kernel
theorem dX4_takes_18 : decode cX4_takes 18 = .ok (.aload_n 0, 1) := by decide +kernel
theorem dX4_takes_19 : decode cX4_takes 19 = .ok (.dup, 1) := by decide +kernel
theorem dX4_takes_20 : decode cX4_takes 20 = .ok (.getfield 24, 3) := by decide +kernel
theorem dX4_takes_23 : decode cX4_takes 23 = .ok (.iconst 1, 1) := by decide +kernel
theorem dX4_takes_24 : decode cX4_takes 24 = .ok (.iadd, 1) := by decide +kernel
theorem dX4_takes_25 : decode cX4_takes 25 = .ok (.putfield 24, 3) := by decide +kernel
theorem dX4_takes_28 : decode cX4_takes 28 = .ok (.iconst 1, 1) := by decide +kernel
theorem dX4_takes_29 : decode cX4_takes 29 = .ok (.ireturn, 1) := by decide +kernel
theorem dX4_numberWithin_0 : decode cX4_numberWithin 0 = .ok (.aload_n 0, 1) := by decide +kernel
theorem dX4_numberWithin_1 : decode cX4_numberWithin 1 = .ok (.getfield 24, 3) := by decide +kernel
theorem dX4_numberWithin_4 : decode cX4_numberWithin 4 = .ok (.istore_n 3, 1) := by decide +kernel
theorem dX4_numberWithin_5 : decode cX4_numberWithin 5 = .ok (.iconst 0, 1) := by decide +kernel
theorem dX4_numberWithin_6 : decode cX4_numberWithin 6 = .ok (.istore 4, 2) := by decide +kernel
theorem dX4_numberWithin_8 : decode cX4_numberWithin 8 = .ok (.iload_n 3, 1) := by decide +kernel
theorem dX4_numberWithin_9 : decode cX4_numberWithin 9 = .ok (.aload_n 0, 1) := by decide +kernel
theorem dX4_numberWithin_10 : decode cX4_numberWithin 10 = .ok (.getfield 15, 3) := by decide +kernel
theorem dX4_numberWithin_13 : decode cX4_numberWithin 13 = .ok (.if_icmp .ge 58, 3) := by decide +kernel
theorem dX4_numberWithin_16 : decode cX4_numberWithin 16 = .ok (.iload_n 3, 1) := by decide +kernel
theorem dX4_numberWithin_17 : decode cX4_numberWithin 17 = .ok (.aload_n 0, 1) := by decide +kernel
theorem dX4_numberWithin_18 : decode cX4_numberWithin 18 = .ok (.getfield 24, 3) := by decide +kernel
theorem dX4_numberWithin_21 : decode cX4_numberWithin 21 = .ok (.iconst 3, 1) := by decide +kernel
theorem dX4_numberWithin_22 : decode cX4_numberWithin 22 = .ok (.iadd, 1) := by decide +kernel
theorem dX4_numberWithin_23 : decode cX4_numberWithin 23 = .ok (.if_icmp .ge 48, 3) := by decide +kernel
theorem dX4_numberWithin_26 : decode cX4_numberWithin 26 = .ok (.aload_n 0, 1) := by decide +kernel
theorem dX4_numberWithin_27 : decode cX4_numberWithin 27 = .ok (.getfield 9, 3) := by decide +kernel
theorem dX4_numberWithin_30 : decode cX4_numberWithin 30 = .ok (.iload_n 3, 1) := by decide +kernel
theorem dX4_numberWithin_31 : decode cX4_numberWithin 31 = .ok (.iaload, 1) := by decide +kernel
theorem dX4_numberWithin_32 : decode cX4_numberWithin 32 = .ok (.bipush 48, 2) := by decide +kernel
theorem dX4_numberWithin_34 : decode cX4_numberWithin 34 = .ok (.if_icmp .lt 37, 3) := by decide +kernel
theorem dX4_numberWithin_37 : decode cX4_numberWithin 37 = .ok (.aload_n 0, 1) := by decide +kernel
theorem dX4_numberWithin_38 : decode cX4_numberWithin 38 = .ok (.getfield 9, 3) := by decide +kernel
theorem dX4_numberWithin_41 : decode cX4_numberWithin 41 = .ok (.iload_n 3, 1) := by decide +kernel
theorem dX4_numberWithin_42 : decode cX4_numberWithin 42 = .ok (.iaload, 1) := by decide +kernel
theorem dX4_numberWithin_43 : decode cX4_numberWithin 43 = .ok (.bipush 57, 2) := by decide +kernel
theorem dX4_numberWithin_45 : decode cX4_numberWithin 45 = .ok (.if_icmp .gt 26, 3) := by decide +kernel
theorem dX4_numberWithin_48 : decode cX4_numberWithin 48 = .ok (.iload 4, 2) := by decide +kernel
theorem dX4_numberWithin_50 : decode cX4_numberWithin 50 = .ok (.bipush 10, 2) := by decide +kernel
theorem dX4_numberWithin_52 : decode cX4_numberWithin 52 = .ok (.imul, 1) := by decide +kernel
theorem dX4_numberWithin_53 : decode cX4_numberWithin 53 = .ok (.aload_n 0, 1) := by decide +kernel
theorem dX4_numberWithin_54 : decode cX4_numberWithin 54 = .ok (.getfield 9, 3) := by decide +kernel
theorem dX4_numberWithin_57 : decode cX4_numberWithin 57 = .ok (.iload_n 3, 1) := by decide +kernel
theorem dX4_numberWithin_58 : decode cX4_numberWithin 58 = .ok (.iaload, 1) := by decide +kernel
theorem dX4_numberWithin_59 : decode cX4_numberWithin 59 = .ok (.iadd, 1) := by decide +kernel
theorem dX4_numberWithin_60 : decode cX4_numberWithin 60 = .ok (.bipush 48, 2) := by decide +kernel
theorem dX4_numberWithin_62 : decode cX4_numberWithin 62 = .ok (.isub, 1) := by decide +kernel
theorem dX4_numberWithin_63 : decode cX4_numberWithin 63 = .ok (.istore 4, 2) := by decide +kernel
theorem dX4_numberWithin_65 : decode cX4_numberWithin 65 = .ok (.iinc 3 1, 3) := by decide +kernel
theorem dX4_numberWithin_68 : decode cX4_numberWithin 68 = .ok (.goto (-60), 3) := by decide +kernel
theorem dX4_numberWithin_71 : decode cX4_numberWithin 71 = .ok (.iload_n 3, 1) := by decide +kernel
theorem dX4_numberWithin_72 : decode cX4_numberWithin 72 = .ok (.aload_n 0, 1) := by decide +kernel
theorem dX4_numberWithin_73 : decode cX4_numberWithin 73 = .ok (.getfield 24, 3) := by decide +kernel
theorem dX4_numberWithin_76 : decode cX4_numberWithin 76 = .ok (.if_icmp .le 17, 3) := by decide +kernel
theorem dX4_numberWithin_79 : decode cX4_numberWithin 79 = .ok (.iload_n 3, 1) := by decide +kernel
theorem dX4_numberWithin_80 : decode cX4_numberWithin 80 = .ok (.aload_n 0, 1) := by decide +kernel
theorem dX4_numberWithin_81 : decode cX4_numberWithin 81 = .ok (.getfield 24, 3) := by decide +kernel
theorem dX4_numberWithin_84 : decode cX4_numberWithin 84 = .ok (.iconst 3, 1) := by decide +kernel
theorem dX4_numberWithin_85 : decode cX4_numberWithin 85 = .ok (.iadd, 1) := by decide +kernel
theorem dX4_numberWithin_86 : decode cX4_numberWithin 86 = .ok (.if_icmp .ge 7, 3) := by decide +kernel
theorem dX4_numberWithin_89 : decode cX4_numberWithin 89 = .ok (.iconst 1, 1) := by decide +kernel
theorem dX4_numberWithin_90 : decode cX4_numberWithin 90 = .ok (.goto 4, 3) := by decide +kernel
theorem dX4_numberWithin_93 : decode cX4_numberWithin 93 = .ok (.iconst 0, 1) := by decide +kernel
theorem dX4_numberWithin_94 : decode cX4_numberWithin 94 = .ok (.istore 5, 2) := by decide +kernel
theorem dX4_numberWithin_96 : decode cX4_numberWithin 96 = .ok (.iload 5, 2) := by decide +kernel
theorem dX4_numberWithin_98 : decode cX4_numberWithin 98 = .ok (.ifCond .eq 15, 3) := by decide +kernel
theorem dX4_numberWithin_101 : decode cX4_numberWithin 101 = .ok (.iload 4, 2) := by decide +kernel
theorem dX4_numberWithin_103 : decode cX4_numberWithin 103 = .ok (.iload_n 1, 1) := by decide +kernel
theorem dX4_numberWithin_104 : decode cX4_numberWithin 104 = .ok (.if_icmp .lt 9, 3) := by decide +kernel
theorem dX4_numberWithin_107 : decode cX4_numberWithin 107 = .ok (.iload 4, 2) := by decide +kernel
theorem dX4_numberWithin_109 : decode cX4_numberWithin 109 = .ok (.iload_n 2, 1) := by decide +kernel
theorem dX4_numberWithin_110 : decode cX4_numberWithin 110 = .ok (.if_icmp .le 24, 3) := by decide +kernel
theorem dX4_numberWithin_113 : decode cX4_numberWithin 113 = .ok (.aload_n 0, 1) := by decide +kernel
theorem dX4_numberWithin_114 : decode cX4_numberWithin 114 = .ok (.aload_n 0, 1) := by decide +kernel
theorem dX4_numberWithin_115 : decode cX4_numberWithin 115 = .ok (.getfield 24, 3) := by decide +kernel
theorem dX4_numberWithin_118 : decode cX4_numberWithin 118 = .ok (.iload 5, 2) := by decide +kernel
theorem dX4_numberWithin_120 : decode cX4_numberWithin 120 = .ok (.ifCond .eq 7, 3) := by decide +kernel
theorem dX4_numberWithin_123 : decode cX4_numberWithin 123 = .ok (.iconst 2, 1) := by decide +kernel
theorem dX4_numberWithin_124 : decode cX4_numberWithin 124 = .ok (.goto 4, 3) := by decide +kernel
theorem dX4_numberWithin_127 : decode cX4_numberWithin 127 = .ok (.iconst 1, 1) := by decide +kernel
theorem dX4_numberWithin_128 : decode cX4_numberWithin 128 = .ok (.invokevirtual 65, 3) := by decide +kernel
theorem dX4_numberWithin_131 : decode cX4_numberWithin 131 = .ok (.pop, 1) := by decide +kernel
theorem dX4_numberWithin_132 : decode cX4_numberWithin 132 = .ok (.iconst (-1), 1) := by decide +kernel
theorem dX4_numberWithin_133 : decode cX4_numberWithin 133 = .ok (.ireturn, 1) := by decide +kernel
theorem dX4_numberWithin_134 : decode cX4_numberWithin 134 = .ok (.aload_n 0, 1) := by decide +kernel
theorem dX4_numberWithin_135 : decode cX4_numberWithin 135 = .ok (.iload_n 3, 1) := by decide +kernel
theorem dX4_numberWithin_136 : decode cX4_numberWithin 136 = .ok (.putfield 24, 3) := by decide +kernel
theorem dX4_numberWithin_139 : decode cX4_numberWithin 139 = .ok (.iload 4, 2) := by decide +kernel
theorem dX4_numberWithin_141 : decode cX4_numberWithin 141 = .ok (.ireturn, 1) := by decide +kernel
theorem dX4_failsAt_0 : decode cX4_failsAt 0 = .ok (.aload_n 0, 1) := by decide +kernel
theorem dX4_failsAt_1 : decode cX4_failsAt 1 = .ok (.iload_n 1, 1) := by decide +kernel
theorem dX4_failsAt_2 : decode cX4_failsAt 2 = .ok (.putfield 95, 3) := by decide +kernel
theorem dX4_failsAt_5 : decode cX4_failsAt 5 = .ok (.aload_n 0, 1) := by decide +kernel
theorem dX4_failsAt_6 : decode cX4_failsAt 6 = .ok (.iload_n 2, 1) := by decide +kernel
theorem dX4_failsAt_7 : decode cX4_failsAt 7 = .ok (.putfield 98, 3) := by decide +kernel
theorem dX4_failsAt_10 : decode cX4_failsAt 10 = .ok (.iconst 0, 1) := by decide +kernel
theorem dX4_failsAt_11 : decode cX4_failsAt 11 = .ok (.ireturn, 1) := by decide +kernel
theorem dX5_init_0 : decode cX5_init 0 = .ok (.aload_n 0, 1) := by decide +kernel
theorem dX5_init_1 : decode cX5_init 1 = .ok (.invokespecial 3, 3) := by decide +kernel
theorem dX5_init_4 : decode cX5_init 4 = .ok (.aload_n 0, 1) := by decide +kernel
theorem dX5_init_5 : decode cX5_init 5 = .ok (.bipush 6, 2) := by decide +kernel
theorem dX5_init_7 : decode cX5_init 7 = .ok (.newarray .int, 2) := by decide +kernel
theorem dX5_init_9 : decode cX5_init 9 = .ok (.putfield 9, 3) := by decide +kernel
theorem dX5_init_12 : decode cX5_init 12 = .ok (.aload_n 0, 1) := by decide +kernel
theorem dX5_init_13 : decode cX5_init 13 = .ok (.bipush 6, 2) := by decide +kernel
theorem dX5_init_15 : decode cX5_init 15 = .ok (.newarray .int, 2) := by decide +kernel
theorem dX5_init_17 : decode cX5_init 17 = .ok (.putfield 15, 3) := by decide +kernel
theorem dX5_init_20 : decode cX5_init 20 = .ok (.aload_n 0, 1) := by decide +kernel
theorem dX5_init_21 : decode cX5_init 21 = .ok (.bipush 6, 2) := by decide +kernel
theorem dX5_init_23 : decode cX5_init 23 = .ok (.newarray .int, 2) := by decide +kernel
theorem dX5_init_25 : decode cX5_init 25 = .ok (.putfield 18, 3) := by decide +kernel
theorem dX5_init_28 : decode cX5_init 28 = .ok (.aload_n 0, 1) := by decide +kernel
theorem dX5_init_29 : decode cX5_init 29 = .ok (.bipush 8, 2) := by decide +kernel
theorem dX5_init_31 : decode cX5_init 31 = .ok (.newarray .int, 2) := by decide +kernel
theorem dX5_init_33 : decode cX5_init 33 = .ok (.putfield 21, 3) := by decide +kernel
theorem dX5_init_36 : decode cX5_init 36 = .ok (.aload_n 0, 1) := by decide +kernel
theorem dX5_init_37 : decode cX5_init 37 = .ok (.bipush 8, 2) := by decide +kernel
theorem dX5_init_39 : decode cX5_init 39 = .ok (.newarray .int, 2) := by decide +kernel
theorem dX5_init_41 : decode cX5_init 41 = .ok (.putfield 24, 3) := by decide +kernel
theorem dX5_init_44 : decode cX5_init 44 = .ok (.return_, 1) := by decide +kernel
theorem dX5_become_0 : decode cX5_become 0 = .ok (.aload_n 1, 1) := by decide +kernel
theorem dX5_become_1 : decode cX5_become 1 = .ok (.getfield 9, 3) := by decide +kernel
theorem dX5_become_4 : decode cX5_become 4 = .ok (.iconst 0, 1) := by decide +kernel
theorem dX5_become_5 : decode cX5_become 5 = .ok (.aload_n 0, 1) := by decide +kernel
theorem dX5_become_6 : decode cX5_become 6 = .ok (.getfield 9, 3) := by decide +kernel
theorem dX5_become_9 : decode cX5_become 9 = .ok (.iconst 0, 1) := by decide +kernel
theorem dX5_become_10 : decode cX5_become 10 = .ok (.bipush 6, 2) := by decide +kernel
theorem dX5_become_12 : decode cX5_become 12 = .ok (.invokestatic 27, 3) := by decide +kernel
theorem dX5_become_15 : decode cX5_become 15 = .ok (.aload_n 1, 1) := by decide +kernel
theorem dX5_become_16 : decode cX5_become 16 = .ok (.getfield 15, 3) := by decide +kernel
theorem dX5_become_19 : decode cX5_become 19 = .ok (.iconst 0, 1) := by decide +kernel
theorem dX5_become_20 : decode cX5_become 20 = .ok (.aload_n 0, 1) := by decide +kernel
theorem dX5_become_21 : decode cX5_become 21 = .ok (.getfield 15, 3) := by decide +kernel
theorem dX5_become_24 : decode cX5_become 24 = .ok (.iconst 0, 1) := by decide +kernel
theorem dX5_become_25 : decode cX5_become 25 = .ok (.bipush 6, 2) := by decide +kernel
theorem dX5_become_27 : decode cX5_become 27 = .ok (.invokestatic 27, 3) := by decide +kernel
theorem dX5_become_30 : decode cX5_become 30 = .ok (.aload_n 1, 1) := by decide +kernel
theorem dX5_become_31 : decode cX5_become 31 = .ok (.getfield 18, 3) := by decide +kernel
theorem dX5_become_34 : decode cX5_become 34 = .ok (.iconst 0, 1) := by decide +kernel
theorem dX5_become_35 : decode cX5_become 35 = .ok (.aload_n 0, 1) := by decide +kernel
theorem dX5_become_36 : decode cX5_become 36 = .ok (.getfield 18, 3) := by decide +kernel
theorem dX5_become_39 : decode cX5_become 39 = .ok (.iconst 0, 1) := by decide +kernel
theorem dX5_become_40 : decode cX5_become 40 = .ok (.bipush 6, 2) := by decide +kernel
theorem dX5_become_42 : decode cX5_become 42 = .ok (.invokestatic 27, 3) := by decide +kernel
theorem dX5_become_45 : decode cX5_become 45 = .ok (.aload_n 1, 1) := by decide +kernel
theorem dX5_become_46 : decode cX5_become 46 = .ok (.getfield 21, 3) := by decide +kernel
theorem dX5_become_49 : decode cX5_become 49 = .ok (.iconst 0, 1) := by decide +kernel
theorem dX5_become_50 : decode cX5_become 50 = .ok (.aload_n 0, 1) := by decide +kernel
theorem dX5_become_51 : decode cX5_become 51 = .ok (.getfield 21, 3) := by decide +kernel
theorem dX5_become_54 : decode cX5_become 54 = .ok (.iconst 0, 1) := by decide +kernel
theorem dX5_become_55 : decode cX5_become 55 = .ok (.bipush 8, 2) := by decide +kernel
theorem dX5_become_57 : decode cX5_become 57 = .ok (.invokestatic 27, 3) := by decide +kernel
theorem dX5_become_60 : decode cX5_become 60 = .ok (.aload_n 1, 1) := by decide +kernel
theorem dX5_become_61 : decode cX5_become 61 = .ok (.getfield 24, 3) := by decide +kernel
theorem dX5_become_64 : decode cX5_become 64 = .ok (.iconst 0, 1) := by decide +kernel
theorem dX5_become_65 : decode cX5_become 65 = .ok (.aload_n 0, 1) := by decide +kernel
theorem dX5_become_66 : decode cX5_become 66 = .ok (.getfield 24, 3) := by decide +kernel
theorem dX5_become_69 : decode cX5_become 69 = .ok (.iconst 0, 1) := by decide +kernel
theorem dX5_become_70 : decode cX5_become 70 = .ok (.bipush 8, 2) := by decide +kernel
theorem dX5_become_72 : decode cX5_become 72 = .ok (.invokestatic 27, 3) := by decide +kernel
theorem dX5_become_75 : decode cX5_become 75 = .ok (.aload_n 0, 1) := by decide +kernel
theorem dX5_become_76 : decode cX5_become 76 = .ok (.aload_n 1, 1) := by decide +kernel
theorem dX5_become_77 : decode cX5_become 77 = .ok (.getfield 33, 3) := by decide +kernel
theorem dX5_become_80 : decode cX5_become 80 = .ok (.putfield 33, 3) := by decide +kernel
theorem dX5_become_83 : decode cX5_become 83 = .ok (.aload_n 0, 1) := by decide +kernel
theorem dX5_become_84 : decode cX5_become 84 = .ok (.aload_n 1, 1) := by decide +kernel
theorem dX5_become_85 : decode cX5_become 85 = .ok (.getfield 37, 3) := by decide +kernel
theorem dX5_become_88 : decode cX5_become 88 = .ok (.putfield 37, 3) := by decide +kernel
theorem dX5_become_91 : decode cX5_become 91 = .ok (.aload_n 0, 1) := by decide +kernel
theorem dX5_become_92 : decode cX5_become 92 = .ok (.aload_n 1, 1) := by decide +kernel
theorem dX5_become_93 : decode cX5_become 93 = .ok (.getfield 40, 3) := by decide +kernel
theorem dX5_become_96 : decode cX5_become 96 = .ok (.putfield 40, 3) := by decide +kernel
theorem dX5_become_99 : decode cX5_become 99 = .ok (.aload_n 0, 1) := by decide +kernel
theorem dX5_become_100 : decode cX5_become 100 = .ok (.aload_n 1, 1) := by decide +kernel
theorem dX5_become_101 : decode cX5_become 101 = .ok (.getfield 43, 3) := by decide +kernel
theorem dX5_become_104 : decode cX5_become 104 = .ok (.putfield 43, 3) := by decide +kernel
theorem dX5_become_107 : decode cX5_become 107 = .ok (.aload_n 0, 1) := by decide +kernel
theorem dX5_become_108 : decode cX5_become 108 = .ok (.aload_n 1, 1) := by decide +kernel
theorem dX5_become_109 : decode cX5_become 109 = .ok (.getfield 46, 3) := by decide +kernel
theorem dX5_become_112 : decode cX5_become 112 = .ok (.putfield 46, 3) := by decide +kernel
theorem dX5_become_115 : decode cX5_become 115 = .ok (.aload_n 0, 1) := by decide +kernel
theorem dX5_become_116 : decode cX5_become 116 = .ok (.aload_n 1, 1) := by decide +kernel
theorem dX5_become_117 : decode cX5_become 117 = .ok (.getfield 49, 3) := by decide +kernel
theorem dX5_become_120 : decode cX5_become 120 = .ok (.putfield 49, 3) := by decide +kernel
theorem dX5_become_123 : decode cX5_become 123 = .ok (.aload_n 0, 1) := by decide +kernel
theorem dX5_become_124 : decode cX5_become 124 = .ok (.aload_n 1, 1) := by decide +kernel
theorem dX5_become_125 : decode cX5_become 125 = .ok (.getfield 52, 3) := by decide +kernel
theorem dX5_become_128 : decode cX5_become 128 = .ok (.putfield 52, 3) := by decide +kernel
theorem dX5_become_131 : decode cX5_become 131 = .ok (.aload_n 0, 1) := by decide +kernel
theorem dX5_become_132 : decode cX5_become 132 = .ok (.aload_n 1, 1) := by decide +kernel
theorem dX5_become_133 : decode cX5_become 133 = .ok (.getfield 55, 3) := by decide +kernel
theorem dX5_become_136 : decode cX5_become 136 = .ok (.putfield 55, 3) := by decide +kernel
theorem dX5_become_139 : decode cX5_become 139 = .ok (.return_, 1) := by decide +kernel
theorem dX5_clear_0 : decode cX5_clear 0 = .ok (.aload_n 0, 1) := by decide +kernel
theorem dX5_clear_1 : decode cX5_clear 1 = .ok (.iconst 0, 1) := by decide +kernel
theorem dX5_clear_2 : decode cX5_clear 2 = .ok (.putfield 33, 3) := by decide +kernel
theorem dX5_clear_5 : decode cX5_clear 5 = .ok (.aload_n 0, 1) := by decide +kernel
theorem dX5_clear_6 : decode cX5_clear 6 = .ok (.iconst 0, 1) := by decide +kernel
theorem dX5_clear_7 : decode cX5_clear 7 = .ok (.putfield 37, 3) := by decide +kernel
theorem dX5_clear_10 : decode cX5_clear 10 = .ok (.aload_n 0, 1) := by decide +kernel
theorem dX5_clear_11 : decode cX5_clear 11 = .ok (.iconst 0, 1) := by decide +kernel
theorem dX5_clear_12 : decode cX5_clear 12 = .ok (.putfield 40, 3) := by decide +kernel
theorem dX5_clear_15 : decode cX5_clear 15 = .ok (.aload_n 0, 1) := by decide +kernel
theorem dX5_clear_16 : decode cX5_clear 16 = .ok (.iconst 0, 1) := by decide +kernel
theorem dX5_clear_17 : decode cX5_clear 17 = .ok (.putfield 43, 3) := by decide +kernel
theorem dX5_clear_20 : decode cX5_clear 20 = .ok (.aload_n 0, 1) := by decide +kernel
theorem dX5_clear_21 : decode cX5_clear 21 = .ok (.iconst 0, 1) := by decide +kernel
theorem dX5_clear_22 : decode cX5_clear 22 = .ok (.putfield 46, 3) := by decide +kernel
theorem dX5_clear_25 : decode cX5_clear 25 = .ok (.aload_n 0, 1) := by decide +kernel
theorem dX5_clear_26 : decode cX5_clear 26 = .ok (.iconst 0, 1) := by decide +kernel
theorem dX5_clear_27 : decode cX5_clear 27 = .ok (.putfield 49, 3) := by decide +kernel
theorem dX5_clear_30 : decode cX5_clear 30 = .ok (.aload_n 0, 1) := by decide +kernel
theorem dX5_clear_31 : decode cX5_clear 31 = .ok (.iconst 0, 1) := by decide +kernel
theorem dX5_clear_32 : decode cX5_clear 32 = .ok (.putfield 52, 3) := by decide +kernel
theorem dX5_clear_35 : decode cX5_clear 35 = .ok (.aload_n 0, 1) := by decide +kernel
theorem dX5_clear_36 : decode cX5_clear 36 = .ok (.iconst 0, 1) := by decide +kernel
theorem dX5_clear_37 : decode cX5_clear 37 = .ok (.putfield 55, 3) := by decide +kernel
theorem dX5_clear_40 : decode cX5_clear 40 = .ok (.return_, 1) := by decide +kernel
theorem dX5_stands_0 : decode cX5_stands 0 = .ok (.aload_n 0, 1) := by decide +kernel
theorem dX5_stands_1 : decode cX5_stands 1 = .ok (.getfield 33, 3) := by decide +kernel
theorem dX5_stands_4 : decode cX5_stands 4 = .ok (.ifCond .le 7, 3) := by decide +kernel
theorem dX5_stands_7 : decode cX5_stands 7 = .ok (.iconst 1, 1) := by decide +kernel
theorem dX5_stands_8 : decode cX5_stands 8 = .ok (.goto 4, 3) := by decide +kernel
theorem dX5_stands_11 : decode cX5_stands 11 = .ok (.iconst 0, 1) := by decide +kernel
theorem dX5_stands_12 : decode cX5_stands 12 = .ok (.ireturn, 1) := by decide +kernel
theorem dX5_hasCorner_0 : decode cX5_hasCorner 0 = .ok (.iload_n 1, 1) := by decide +kernel
theorem dX5_hasCorner_1 : decode cX5_hasCorner 1 = .ok (.ifCond .lt 15, 3) := by decide +kernel
theorem dX5_hasCorner_4 : decode cX5_hasCorner 4 = .ok (.iload_n 1, 1) := by decide +kernel
theorem dX5_hasCorner_5 : decode cX5_hasCorner 5 = .ok (.aload_n 0, 1) := by decide +kernel
theorem dX5_hasCorner_6 : decode cX5_hasCorner 6 = .ok (.getfield 33, 3) := by decide +kernel
theorem dX5_hasCorner_9 : decode cX5_hasCorner 9 = .ok (.if_icmp .ge 7, 3) := by decide +kernel
theorem dX5_hasCorner_12 : decode cX5_hasCorner 12 = .ok (.iconst 1, 1) := by decide +kernel
theorem dX5_hasCorner_13 : decode cX5_hasCorner 13 = .ok (.goto 4, 3) := by decide +kernel
theorem dX5_hasCorner_16 : decode cX5_hasCorner 16 = .ok (.iconst 0, 1) := by decide +kernel
theorem dX5_hasCorner_17 : decode cX5_hasCorner 17 = .ok (.ireturn, 1) := by decide +kernel
theorem dX5_hasStreet_0 : decode cX5_hasStreet 0 = .ok (.iload_n 1, 1) := by decide +kernel
theorem dX5_hasStreet_1 : decode cX5_hasStreet 1 = .ok (.ifCond .lt 15, 3) := by decide +kernel
theorem dX5_hasStreet_4 : decode cX5_hasStreet 4 = .ok (.iload_n 1, 1) := by decide +kernel
theorem dX5_hasStreet_5 : decode cX5_hasStreet 5 = .ok (.aload_n 0, 1) := by decide +kernel
theorem dX5_hasStreet_6 : decode cX5_hasStreet 6 = .ok (.getfield 37, 3) := by decide +kernel
theorem dX5_hasStreet_9 : decode cX5_hasStreet 9 = .ok (.if_icmp .ge 7, 3) := by decide +kernel
theorem dX5_hasStreet_12 : decode cX5_hasStreet 12 = .ok (.iconst 1, 1) := by decide +kernel
theorem dX5_hasStreet_13 : decode cX5_hasStreet 13 = .ok (.goto 4, 3) := by decide +kernel
theorem dX5_hasStreet_16 : decode cX5_hasStreet 16 = .ok (.iconst 0, 1) := by decide +kernel
theorem dX5_hasStreet_17 : decode cX5_hasStreet 17 = .ok (.ireturn, 1) := by decide +kernel
theorem dX5_isOpen_0 : decode cX5_isOpen 0 = .ok (.aload_n 0, 1) := by decide +kernel
theorem dX5_isOpen_1 : decode cX5_isOpen 1 = .ok (.getfield 43, 3) := by decide +kernel
theorem dX5_isOpen_4 : decode cX5_isOpen 4 = .ok (.iload_n 1, 1) := by decide +kernel
theorem dX5_isOpen_5 : decode cX5_isOpen 5 = .ok (.ishr, 1) := by decide +kernel
theorem dX5_isOpen_6 : decode cX5_isOpen 6 = .ok (.iconst 1, 1) := by decide +kernel
theorem dX5_isOpen_7 : decode cX5_isOpen 7 = .ok (.iand, 1) := by decide +kernel
theorem dX5_isOpen_8 : decode cX5_isOpen 8 = .ok (.iconst 1, 1) := by decide +kernel
theorem dX5_isOpen_9 : decode cX5_isOpen 9 = .ok (.if_icmp .ne 7, 3) := by decide +kernel
theorem dX5_isOpen_12 : decode cX5_isOpen 12 = .ok (.iconst 1, 1) := by decide +kernel
theorem dX5_isOpen_13 : decode cX5_isOpen 13 = .ok (.goto 4, 3) := by decide +kernel
theorem dX5_isOpen_16 : decode cX5_isOpen 16 = .ok (.iconst 0, 1) := by decide +kernel
theorem dX5_isOpen_17 : decode cX5_isOpen 17 = .ok (.ireturn, 1) := by decide +kernel
theorem dX5_turn_0 : decode cX5_turn 0 = .ok (.aload_n 0, 1) := by decide +kernel
theorem dX5_turn_1 : decode cX5_turn 1 = .ok (.dup, 1) := by decide +kernel
theorem dX5_turn_2 : decode cX5_turn 2 = .ok (.getfield 43, 3) := by decide +kernel
theorem dX5_turn_5 : decode cX5_turn 5 = .ok (.iconst 1, 1) := by decide +kernel
theorem dX5_turn_6 : decode cX5_turn 6 = .ok (.iload_n 1, 1) := by decide +kernel
theorem dX5_turn_7 : decode cX5_turn 7 = .ok (.ishl, 1) := by decide +kernel
theorem dX5_turn_8 : decode cX5_turn 8 = .ok (.ixor, 1) := by decide +kernel
theorem dX5_turn_9 : decode cX5_turn 9 = .ok (.putfield 43, 3) := by decide +kernel
theorem dX5_turn_12 : decode cX5_turn 12 = .ok (.return_, 1) := by decide +kernel
theorem dX5_leads_0 : decode cX5_leads 0 = .ok (.aload_n 0, 1) := by decide +kernel
theorem dX5_leads_1 : decode cX5_leads 1 = .ok (.aload_n 0, 1) := by decide +kernel
theorem dX5_leads_2 : decode cX5_leads 2 = .ok (.getfield 46, 3) := by decide +kernel
theorem dX5_leads_5 : decode cX5_leads 5 = .ok (.iload_n 1, 1) := by decide +kernel
theorem dX5_leads_6 : decode cX5_leads 6 = .ok (.invokevirtual 58, 3) := by decide +kernel
theorem dX5_leads_9 : decode cX5_leads 9 = .ok (.ireturn, 1) := by decide +kernel
theorem dX5_leadsFrom_0 : decode cX5_leadsFrom 0 = .ok (.aload_n 0, 1) := by decide +kernel
theorem dX5_leadsFrom_1 : decode cX5_leadsFrom 1 = .ok (.iload_n 2, 1) := by decide +kernel
theorem dX5_leadsFrom_2 : decode cX5_leadsFrom 2 = .ok (.invokevirtual 62, 3) := by decide +kernel
theorem dX5_leadsFrom_5 : decode cX5_leadsFrom 5 = .ok (.ifCond .eq 25, 3) := by decide +kernel
theorem dX5_leadsFrom_8 : decode cX5_leadsFrom 8 = .ok (.aload_n 0, 1) := by decide +kernel
theorem dX5_leadsFrom_9 : decode cX5_leadsFrom 9 = .ok (.iload_n 2, 1) := by decide +kernel
theorem dX5_leadsFrom_10 : decode cX5_leadsFrom 10 = .ok (.invokevirtual 66, 3) := by decide +kernel
theorem dX5_leadsFrom_13 : decode cX5_leadsFrom 13 = .ok (.ifCond .eq 17, 3) := by decide +kernel
theorem dX5_leadsFrom_16 : decode cX5_leadsFrom 16 = .ok (.aload_n 0, 1) := by decide +kernel
theorem dX5_leadsFrom_17 : decode cX5_leadsFrom 17 = .ok (.getfield 21, 3) := by decide +kernel
theorem dX5_leadsFrom_20 : decode cX5_leadsFrom 20 = .ok (.iload_n 2, 1) := by decide +kernel
theorem dX5_leadsFrom_21 : decode cX5_leadsFrom 21 = .ok (.iaload, 1) := by decide +kernel
theorem dX5_leadsFrom_22 : decode cX5_leadsFrom 22 = .ok (.iload_n 1, 1) := by decide +kernel
theorem dX5_leadsFrom_23 : decode cX5_leadsFrom 23 = .ok (.if_icmp .ne 7, 3) := by decide +kernel
theorem dX5_leadsFrom_26 : decode cX5_leadsFrom 26 = .ok (.iconst 1, 1) := by decide +kernel
theorem dX5_leadsFrom_27 : decode cX5_leadsFrom 27 = .ok (.goto 4, 3) := by decide +kernel
theorem dX5_leadsFrom_30 : decode cX5_leadsFrom 30 = .ok (.iconst 0, 1) := by decide +kernel
theorem dX5_leadsFrom_31 : decode cX5_leadsFrom 31 = .ok (.ireturn, 1) := by decide +kernel
theorem dX5_moodBehind_0 : decode cX5_moodBehind 0 = .ok (.aload_n 0, 1) := by decide +kernel
theorem dX5_moodBehind_1 : decode cX5_moodBehind 1 = .ok (.getfield 15, 3) := by decide +kernel
theorem dX5_moodBehind_4 : decode cX5_moodBehind 4 = .ok (.iload_n 1, 1) := by decide +kernel
theorem dX5_moodBehind_5 : decode cX5_moodBehind 5 = .ok (.iaload, 1) := by decide +kernel
theorem dX5_moodBehind_6 : decode cX5_moodBehind 6 = .ok (.istore 4, 2) := by decide +kernel
theorem dX5_moodBehind_8 : decode cX5_moodBehind 8 = .ok (.aload_n 0, 1) := by decide +kernel
theorem dX5_moodBehind_9 : decode cX5_moodBehind 9 = .ok (.getfield 9, 3) := by decide +kernel
theorem dX5_moodBehind_12 : decode cX5_moodBehind 12 = .ok (.iload_n 1, 1) := by decide +kernel
theorem dX5_moodBehind_13 : decode cX5_moodBehind 13 = .ok (.iaload, 1) := by decide +kernel
theorem dX5_moodBehind_14 : decode cX5_moodBehind 14 = .ok (.tableswitch 92 1 4 #[30, 40, 62, 83], 30) := by decide +kernel
theorem dX5_moodBehind_44 : decode cX5_moodBehind 44 = .ok (.bipush 9, 2) := by decide +kernel
theorem dX5_moodBehind_46 : decode cX5_moodBehind 46 = .ok (.iload_n 2, 1) := by decide +kernel
theorem dX5_moodBehind_47 : decode cX5_moodBehind 47 = .ok (.iload 4, 2) := by decide +kernel
theorem dX5_moodBehind_49 : decode cX5_moodBehind 49 = .ok (.iadd, 1) := by decide +kernel
theorem dX5_moodBehind_50 : decode cX5_moodBehind 50 = .ok (.invokestatic 69, 3) := by decide +kernel
theorem dX5_moodBehind_53 : decode cX5_moodBehind 53 = .ok (.ireturn, 1) := by decide +kernel
theorem dX5_moodBehind_54 : decode cX5_moodBehind 54 = .ok (.bipush 9, 2) := by decide +kernel
theorem dX5_moodBehind_56 : decode cX5_moodBehind 56 = .ok (.iload_n 2, 1) := by decide +kernel
theorem dX5_moodBehind_57 : decode cX5_moodBehind 57 = .ok (.iload_n 2, 1) := by decide +kernel
theorem dX5_moodBehind_58 : decode cX5_moodBehind 58 = .ok (.iconst 4, 1) := by decide +kernel
theorem dX5_moodBehind_59 : decode cX5_moodBehind 59 = .ok (.if_icmp .le 10, 3) := by decide +kernel
theorem dX5_moodBehind_62 : decode cX5_moodBehind 62 = .ok (.iconst 2, 1) := by decide +kernel
theorem dX5_moodBehind_63 : decode cX5_moodBehind 63 = .ok (.iload 4, 2) := by decide +kernel
theorem dX5_moodBehind_65 : decode cX5_moodBehind 65 = .ok (.imul, 1) := by decide +kernel
theorem dX5_moodBehind_66 : decode cX5_moodBehind 66 = .ok (.goto 5, 3) := by decide +kernel
theorem dX5_moodBehind_69 : decode cX5_moodBehind 69 = .ok (.iload 4, 2) := by decide +kernel
theorem dX5_moodBehind_71 : decode cX5_moodBehind 71 = .ok (.iadd, 1) := by decide +kernel
theorem dX5_moodBehind_72 : decode cX5_moodBehind 72 = .ok (.invokestatic 69, 3) := by decide +kernel
theorem dX5_moodBehind_75 : decode cX5_moodBehind 75 = .ok (.ireturn, 1) := by decide +kernel
theorem dX5_moodBehind_76 : decode cX5_moodBehind 76 = .ok (.iload_n 3, 1) := by decide +kernel
theorem dX5_moodBehind_77 : decode cX5_moodBehind 77 = .ok (.iconst 2, 1) := by decide +kernel
theorem dX5_moodBehind_78 : decode cX5_moodBehind 78 = .ok (.irem, 1) := by decide +kernel
theorem dX5_moodBehind_79 : decode cX5_moodBehind 79 = .ok (.iconst 1, 1) := by decide +kernel
theorem dX5_moodBehind_80 : decode cX5_moodBehind 80 = .ok (.if_icmp .ne 15, 3) := by decide +kernel
theorem dX5_moodBehind_83 : decode cX5_moodBehind 83 = .ok (.bipush 9, 2) := by decide +kernel
theorem dX5_moodBehind_85 : decode cX5_moodBehind 85 = .ok (.iload_n 2, 1) := by decide +kernel
theorem dX5_moodBehind_86 : decode cX5_moodBehind 86 = .ok (.iload 4, 2) := by decide +kernel
theorem dX5_moodBehind_88 : decode cX5_moodBehind 88 = .ok (.iadd, 1) := by decide +kernel
theorem dX5_moodBehind_89 : decode cX5_moodBehind 89 = .ok (.invokestatic 69, 3) := by decide +kernel
theorem dX5_moodBehind_92 : decode cX5_moodBehind 92 = .ok (.goto 4, 3) := by decide +kernel
theorem dX5_moodBehind_95 : decode cX5_moodBehind 95 = .ok (.iload_n 2, 1) := by decide +kernel
theorem dX5_moodBehind_96 : decode cX5_moodBehind 96 = .ok (.ireturn, 1) := by decide +kernel
theorem dX5_moodBehind_97 : decode cX5_moodBehind 97 = .ok (.iconst 0, 1) := by decide +kernel
theorem dX5_moodBehind_98 : decode cX5_moodBehind 98 = .ok (.iload_n 2, 1) := by decide +kernel
theorem dX5_moodBehind_99 : decode cX5_moodBehind 99 = .ok (.iload 4, 2) := by decide +kernel
theorem dX5_moodBehind_101 : decode cX5_moodBehind 101 = .ok (.isub, 1) := by decide +kernel
theorem dX5_moodBehind_102 : decode cX5_moodBehind 102 = .ok (.invokestatic 75, 3) := by decide +kernel
theorem dX5_moodBehind_105 : decode cX5_moodBehind 105 = .ok (.ireturn, 1) := by decide +kernel
theorem dX5_moodBehind_106 : decode cX5_moodBehind 106 = .ok (.iconst 0, 1) := by decide +kernel
theorem dX5_moodBehind_107 : decode cX5_moodBehind 107 = .ok (.iload_n 2, 1) := by decide +kernel
theorem dX5_moodBehind_108 : decode cX5_moodBehind 108 = .ok (.iload 4, 2) := by decide +kernel
theorem dX5_moodBehind_110 : decode cX5_moodBehind 110 = .ok (.isub, 1) := by decide +kernel
theorem dX5_moodBehind_111 : decode cX5_moodBehind 111 = .ok (.invokestatic 75, 3) := by decide +kernel
theorem dX5_moodBehind_114 : decode cX5_moodBehind 114 = .ok (.iconst 2, 1) := by decide +kernel
theorem dX5_moodBehind_115 : decode cX5_moodBehind 115 = .ok (.idiv, 1) := by decide +kernel
theorem dX5_moodBehind_116 : decode cX5_moodBehind 116 = .ok (.ireturn, 1) := by decide +kernel
theorem dX5_costBetween_0 : decode cX5_costBetween 0 = .ok (.iload_n 3, 1) := by decide +kernel
theorem dX5_costBetween_1 : decode cX5_costBetween 1 = .ok (.iload_n 2, 1) := by decide +kernel
theorem dX5_costBetween_2 : decode cX5_costBetween 2 = .ok (.isub, 1) := by decide +kernel
theorem dX5_costBetween_3 : decode cX5_costBetween 3 = .ok (.invokestatic 78, 3) := by decide +kernel
theorem dX5_costBetween_6 : decode cX5_costBetween 6 = .ok (.aload_n 0, 1) := by decide +kernel
theorem dX5_costBetween_7 : decode cX5_costBetween 7 = .ok (.getfield 40, 3) := by decide +kernel
theorem dX5_costBetween_10 : decode cX5_costBetween 10 = .ok (.imul, 1) := by decide +kernel
theorem dX5_costBetween_11 : decode cX5_costBetween 11 = .ok (.aload_n 0, 1) := by decide +kernel
theorem dX5_costBetween_12 : decode cX5_costBetween 12 = .ok (.getfield 18, 3) := by decide +kernel
theorem dX5_costBetween_15 : decode cX5_costBetween 15 = .ok (.iload_n 1, 1) := by decide +kernel
theorem dX5_costBetween_16 : decode cX5_costBetween 16 = .ok (.iaload, 1) := by decide +kernel
theorem dX5_costBetween_17 : decode cX5_costBetween 17 = .ok (.iadd, 1) := by decide +kernel
theorem dX5_costBetween_18 : decode cX5_costBetween 18 = .ok (.ireturn, 1) := by decide +kernel
theorem dX5_moodBy_0 : decode cX5_moodBy 0 = .ok (.aload_n 0, 1) := by decide +kernel
theorem dX5_moodBy_1 : decode cX5_moodBy 1 = .ok (.aload_n 0, 1) := by decide +kernel
theorem dX5_moodBy_2 : decode cX5_moodBy 2 = .ok (.getfield 24, 3) := by decide +kernel
theorem dX5_moodBy_5 : decode cX5_moodBy 5 = .ok (.iload_n 1, 1) := by decide +kernel
theorem dX5_moodBy_6 : decode cX5_moodBy 6 = .ok (.iaload, 1) := by decide +kernel
theorem dX5_moodBy_7 : decode cX5_moodBy 7 = .ok (.aload_n 0, 1) := by decide +kernel
theorem dX5_moodBy_8 : decode cX5_moodBy 8 = .ok (.getfield 49, 3) := by decide +kernel
theorem dX5_moodBy_11 : decode cX5_moodBy 11 = .ok (.aload_n 0, 1) := by decide +kernel
theorem dX5_moodBy_12 : decode cX5_moodBy 12 = .ok (.getfield 55, 3) := by decide +kernel
theorem dX5_moodBy_15 : decode cX5_moodBy 15 = .ok (.invokevirtual 82, 3) := by decide +kernel
theorem dX5_moodBy_18 : decode cX5_moodBy 18 = .ok (.ireturn, 1) := by decide +kernel
theorem dX5_costBy_0 : decode cX5_costBy 0 = .ok (.aload_n 0, 1) := by decide +kernel
theorem dX5_costBy_1 : decode cX5_costBy 1 = .ok (.aload_n 0, 1) := by decide +kernel
theorem dX5_costBy_2 : decode cX5_costBy 2 = .ok (.getfield 24, 3) := by decide +kernel
theorem dX5_costBy_5 : decode cX5_costBy 5 = .ok (.iload_n 1, 1) := by decide +kernel
theorem dX5_costBy_6 : decode cX5_costBy 6 = .ok (.iaload, 1) := by decide +kernel
theorem dX5_costBy_7 : decode cX5_costBy 7 = .ok (.aload_n 0, 1) := by decide +kernel
theorem dX5_costBy_8 : decode cX5_costBy 8 = .ok (.getfield 49, 3) := by decide +kernel
theorem dX5_costBy_11 : decode cX5_costBy 11 = .ok (.aload_n 0, 1) := by decide +kernel
theorem dX5_costBy_12 : decode cX5_costBy 12 = .ok (.iload_n 1, 1) := by decide +kernel
theorem dX5_costBy_13 : decode cX5_costBy 13 = .ok (.invokevirtual 86, 3) := by decide +kernel
theorem dX5_costBy_16 : decode cX5_costBy 16 = .ok (.invokevirtual 89, 3) := by decide +kernel
theorem dX5_costBy_19 : decode cX5_costBy 19 = .ok (.ireturn, 1) := by decide +kernel
theorem dX5_goBy_0 : decode cX5_goBy 0 = .ok (.aload_n 0, 1) := by decide +kernel
theorem dX5_goBy_1 : decode cX5_goBy 1 = .ok (.sipush 9999, 3) := by decide +kernel
theorem dX5_goBy_4 : decode cX5_goBy 4 = .ok (.aload_n 0, 1) := by decide +kernel
theorem dX5_goBy_5 : decode cX5_goBy 5 = .ok (.getfield 52, 3) := by decide +kernel
theorem dX5_goBy_8 : decode cX5_goBy 8 = .ok (.aload_n 0, 1) := by decide +kernel
theorem dX5_goBy_9 : decode cX5_goBy 9 = .ok (.iload_n 1, 1) := by decide +kernel
theorem dX5_goBy_10 : decode cX5_goBy 10 = .ok (.invokevirtual 92, 3) := by decide +kernel
theorem dX5_goBy_13 : decode cX5_goBy 13 = .ok (.iadd, 1) := by decide +kernel
theorem dX5_goBy_14 : decode cX5_goBy 14 = .ok (.invokestatic 69, 3) := by decide +kernel
theorem dX5_goBy_17 : decode cX5_goBy 17 = .ok (.putfield 52, 3) := by decide +kernel
theorem dX5_goBy_20 : decode cX5_goBy 20 = .ok (.aload_n 0, 1) := by decide +kernel
theorem dX5_goBy_21 : decode cX5_goBy 21 = .ok (.aload_n 0, 1) := by decide +kernel
theorem dX5_goBy_22 : decode cX5_goBy 22 = .ok (.iload_n 1, 1) := by decide +kernel
theorem dX5_goBy_23 : decode cX5_goBy 23 = .ok (.invokevirtual 86, 3) := by decide +kernel
theorem dX5_goBy_26 : decode cX5_goBy 26 = .ok (.putfield 49, 3) := by decide +kernel
theorem dX5_goBy_29 : decode cX5_goBy 29 = .ok (.aload_n 0, 1) := by decide +kernel
theorem dX5_goBy_30 : decode cX5_goBy 30 = .ok (.aload_n 0, 1) := by decide +kernel
theorem dX5_goBy_31 : decode cX5_goBy 31 = .ok (.getfield 24, 3) := by decide +kernel
theorem dX5_goBy_34 : decode cX5_goBy 34 = .ok (.iload_n 1, 1) := by decide +kernel
theorem dX5_goBy_35 : decode cX5_goBy 35 = .ok (.iaload, 1) := by decide +kernel
theorem dX5_goBy_36 : decode cX5_goBy 36 = .ok (.putfield 46, 3) := by decide +kernel
theorem dX5_goBy_39 : decode cX5_goBy 39 = .ok (.aload_n 0, 1) := by decide +kernel
theorem dX5_goBy_40 : decode cX5_goBy 40 = .ok (.dup, 1) := by decide +kernel
theorem dX5_goBy_41 : decode cX5_goBy 41 = .ok (.getfield 55, 3) := by decide +kernel
theorem dX5_goBy_44 : decode cX5_goBy 44 = .ok (.iconst 1, 1) := by decide +kernel
theorem dX5_goBy_45 : decode cX5_goBy 45 = .ok (.iadd, 1) := by decide +kernel
theorem dX5_goBy_46 : decode cX5_goBy 46 = .ok (.putfield 55, 3) := by decide +kernel
theorem dX5_goBy_49 : decode cX5_goBy 49 = .ok (.return_, 1) := by decide +kernel
theorem dX5_goByDraw_0 : decode cX5_goByDraw 0 = .ok (.iconst 0, 1) := by decide +kernel
theorem dX5_goByDraw_1 : decode cX5_goByDraw 1 = .ok (.istore_n 3, 1) := by decide +kernel
theorem dX5_goByDraw_2 : decode cX5_goByDraw 2 = .ok (.iconst 0, 1) := by decide +kernel
theorem dX5_goByDraw_3 : decode cX5_goByDraw 3 = .ok (.istore 4, 2) := by decide +kernel
theorem dX5_goByDraw_5 : decode cX5_goByDraw 5 = .ok (.iload 4, 2) := by decide +kernel
theorem dX5_goByDraw_7 : decode cX5_goByDraw 7 = .ok (.aload_n 0, 1) := by decide +kernel
theorem dX5_goByDraw_8 : decode cX5_goByDraw 8 = .ok (.getfield 37, 3) := by decide +kernel
theorem dX5_goByDraw_11 : decode cX5_goByDraw 11 = .ok (.if_icmp .ge 21, 3) := by decide +kernel
theorem dX5_goByDraw_14 : decode cX5_goByDraw 14 = .ok (.aload_n 0, 1) := by decide +kernel
theorem dX5_goByDraw_15 : decode cX5_goByDraw 15 = .ok (.iload 4, 2) := by decide +kernel
theorem dX5_goByDraw_17 : decode cX5_goByDraw 17 = .ok (.invokevirtual 95, 3) := by decide +kernel
theorem dX5_goByDraw_20 : decode cX5_goByDraw 20 = .ok (.ifCond .eq 6, 3) := by decide +kernel
theorem dX5_goByDraw_23 : decode cX5_goByDraw 23 = .ok (.iinc 3 1, 3) := by decide +kernel
theorem dX5_goByDraw_26 : decode cX5_goByDraw 26 = .ok (.iinc 4 1, 3) := by decide +kernel
theorem dX5_goByDraw_29 : decode cX5_goByDraw 29 = .ok (.goto (-24), 3) := by decide +kernel
theorem dX5_goByDraw_32 : decode cX5_goByDraw 32 = .ok (.iload_n 3, 1) := by decide +kernel
theorem dX5_goByDraw_33 : decode cX5_goByDraw 33 = .ok (.ifCond .ne 14, 3) := by decide +kernel
theorem dX5_goByDraw_36 : decode cX5_goByDraw 36 = .ok (.aload_n 0, 1) := by decide +kernel
theorem dX5_goByDraw_37 : decode cX5_goByDraw 37 = .ok (.dup, 1) := by decide +kernel
theorem dX5_goByDraw_38 : decode cX5_goByDraw 38 = .ok (.getfield 55, 3) := by decide +kernel
theorem dX5_goByDraw_41 : decode cX5_goByDraw 41 = .ok (.iconst 1, 1) := by decide +kernel
theorem dX5_goByDraw_42 : decode cX5_goByDraw 42 = .ok (.iadd, 1) := by decide +kernel
theorem dX5_goByDraw_43 : decode cX5_goByDraw 43 = .ok (.putfield 55, 3) := by decide +kernel
theorem dX5_goByDraw_46 : decode cX5_goByDraw 46 = .ok (.return_, 1) := by decide +kernel
theorem dX5_goByDraw_47 : decode cX5_goByDraw 47 = .ok (.lload_n 1, 1) := by decide +kernel
theorem dX5_goByDraw_48 : decode cX5_goByDraw 48 = .ok (.iload_n 3, 1) := by decide +kernel
theorem dX5_goByDraw_49 : decode cX5_goByDraw 49 = .ok (.i2l, 1) := by decide +kernel
theorem dX5_goByDraw_50 : decode cX5_goByDraw 50 = .ok (.lrem, 1) := by decide +kernel
theorem dX5_goByDraw_51 : decode cX5_goByDraw 51 = .ok (.l2i, 1) := by decide +kernel
theorem dX5_goByDraw_52 : decode cX5_goByDraw 52 = .ok (.istore 4, 2) := by decide +kernel
theorem dX5_goByDraw_54 : decode cX5_goByDraw 54 = .ok (.iconst 0, 1) := by decide +kernel
theorem dX5_goByDraw_55 : decode cX5_goByDraw 55 = .ok (.istore 5, 2) := by decide +kernel
theorem dX5_goByDraw_57 : decode cX5_goByDraw 57 = .ok (.iload 5, 2) := by decide +kernel
theorem dX5_goByDraw_59 : decode cX5_goByDraw 59 = .ok (.aload_n 0, 1) := by decide +kernel
theorem dX5_goByDraw_60 : decode cX5_goByDraw 60 = .ok (.getfield 37, 3) := by decide +kernel
theorem dX5_goByDraw_63 : decode cX5_goByDraw 63 = .ok (.if_icmp .ge 33, 3) := by decide +kernel
theorem dX5_goByDraw_66 : decode cX5_goByDraw 66 = .ok (.aload_n 0, 1) := by decide +kernel
theorem dX5_goByDraw_67 : decode cX5_goByDraw 67 = .ok (.iload 5, 2) := by decide +kernel
theorem dX5_goByDraw_69 : decode cX5_goByDraw 69 = .ok (.invokevirtual 95, 3) := by decide +kernel
theorem dX5_goByDraw_72 : decode cX5_goByDraw 72 = .ok (.ifCond .eq 18, 3) := by decide +kernel
theorem dX5_goByDraw_75 : decode cX5_goByDraw 75 = .ok (.iload 4, 2) := by decide +kernel
theorem dX5_goByDraw_77 : decode cX5_goByDraw 77 = .ok (.ifCond .ne 10, 3) := by decide +kernel
theorem dX5_goByDraw_80 : decode cX5_goByDraw 80 = .ok (.aload_n 0, 1) := by decide +kernel
theorem dX5_goByDraw_81 : decode cX5_goByDraw 81 = .ok (.iload 5, 2) := by decide +kernel
theorem dX5_goByDraw_83 : decode cX5_goByDraw 83 = .ok (.invokevirtual 98, 3) := by decide +kernel
theorem dX5_goByDraw_86 : decode cX5_goByDraw 86 = .ok (.return_, 1) := by decide +kernel
theorem dX5_goByDraw_87 : decode cX5_goByDraw 87 = .ok (.iinc 4 (-1), 3) := by decide +kernel
theorem dX5_goByDraw_90 : decode cX5_goByDraw 90 = .ok (.iinc 5 1, 3) := by decide +kernel
theorem dX5_goByDraw_93 : decode cX5_goByDraw 93 = .ok (.goto (-36), 3) := by decide +kernel
theorem dX5_goByDraw_96 : decode cX5_goByDraw 96 = .ok (.return_, 1) := by decide +kernel
theorem dX5_openWays_0 : decode cX5_openWays 0 = .ok (.iconst 1, 1) := by decide +kernel
theorem dX5_openWays_1 : decode cX5_openWays 1 = .ok (.aload_n 0, 1) := by decide +kernel
theorem dX5_openWays_2 : decode cX5_openWays 2 = .ok (.getfield 46, 3) := by decide +kernel
theorem dX5_openWays_5 : decode cX5_openWays 5 = .ok (.ishl, 1) := by decide +kernel
theorem dX5_openWays_6 : decode cX5_openWays 6 = .ok (.istore_n 1, 1) := by decide +kernel
theorem dX5_openWays_7 : decode cX5_openWays 7 = .ok (.iconst 0, 1) := by decide +kernel
theorem dX5_openWays_8 : decode cX5_openWays 8 = .ok (.istore_n 2, 1) := by decide +kernel
theorem dX5_openWays_9 : decode cX5_openWays 9 = .ok (.iload_n 2, 1) := by decide +kernel
theorem dX5_openWays_10 : decode cX5_openWays 10 = .ok (.aload_n 0, 1) := by decide +kernel
theorem dX5_openWays_11 : decode cX5_openWays 11 = .ok (.getfield 33, 3) := by decide +kernel
theorem dX5_openWays_14 : decode cX5_openWays 14 = .ok (.if_icmp .ge 58, 3) := by decide +kernel
theorem dX5_openWays_17 : decode cX5_openWays 17 = .ok (.iconst 0, 1) := by decide +kernel
theorem dX5_openWays_18 : decode cX5_openWays 18 = .ok (.istore_n 3, 1) := by decide +kernel
theorem dX5_openWays_19 : decode cX5_openWays 19 = .ok (.iload_n 3, 1) := by decide +kernel
theorem dX5_openWays_20 : decode cX5_openWays 20 = .ok (.aload_n 0, 1) := by decide +kernel
theorem dX5_openWays_21 : decode cX5_openWays 21 = .ok (.getfield 37, 3) := by decide +kernel
theorem dX5_openWays_24 : decode cX5_openWays 24 = .ok (.if_icmp .ge 42, 3) := by decide +kernel
theorem dX5_openWays_27 : decode cX5_openWays 27 = .ok (.aload_n 0, 1) := by decide +kernel
theorem dX5_openWays_28 : decode cX5_openWays 28 = .ok (.iload_n 3, 1) := by decide +kernel
theorem dX5_openWays_29 : decode cX5_openWays 29 = .ok (.invokevirtual 66, 3) := by decide +kernel
theorem dX5_openWays_32 : decode cX5_openWays 32 = .ok (.ifCond .eq 28, 3) := by decide +kernel
theorem dX5_openWays_35 : decode cX5_openWays 35 = .ok (.iload_n 1, 1) := by decide +kernel
theorem dX5_openWays_36 : decode cX5_openWays 36 = .ok (.aload_n 0, 1) := by decide +kernel
theorem dX5_openWays_37 : decode cX5_openWays 37 = .ok (.getfield 21, 3) := by decide +kernel
theorem dX5_openWays_40 : decode cX5_openWays 40 = .ok (.iload_n 3, 1) := by decide +kernel
theorem dX5_openWays_41 : decode cX5_openWays 41 = .ok (.iaload, 1) := by decide +kernel
theorem dX5_openWays_42 : decode cX5_openWays 42 = .ok (.ishr, 1) := by decide +kernel
theorem dX5_openWays_43 : decode cX5_openWays 43 = .ok (.iconst 1, 1) := by decide +kernel
theorem dX5_openWays_44 : decode cX5_openWays 44 = .ok (.iand, 1) := by decide +kernel
theorem dX5_openWays_45 : decode cX5_openWays 45 = .ok (.iconst 1, 1) := by decide +kernel
theorem dX5_openWays_46 : decode cX5_openWays 46 = .ok (.if_icmp .ne 14, 3) := by decide +kernel
theorem dX5_openWays_49 : decode cX5_openWays 49 = .ok (.iload_n 1, 1) := by decide +kernel
theorem dX5_openWays_50 : decode cX5_openWays 50 = .ok (.iconst 1, 1) := by decide +kernel
theorem dX5_openWays_51 : decode cX5_openWays 51 = .ok (.aload_n 0, 1) := by decide +kernel
theorem dX5_openWays_52 : decode cX5_openWays 52 = .ok (.getfield 24, 3) := by decide +kernel
theorem dX5_openWays_55 : decode cX5_openWays 55 = .ok (.iload_n 3, 1) := by decide +kernel
theorem dX5_openWays_56 : decode cX5_openWays 56 = .ok (.iaload, 1) := by decide +kernel
theorem dX5_openWays_57 : decode cX5_openWays 57 = .ok (.ishl, 1) := by decide +kernel
theorem dX5_openWays_58 : decode cX5_openWays 58 = .ok (.ior, 1) := by decide +kernel
theorem dX5_openWays_59 : decode cX5_openWays 59 = .ok (.istore_n 1, 1) := by decide +kernel
theorem dX5_openWays_60 : decode cX5_openWays 60 = .ok (.iinc 3 1, 3) := by decide +kernel
theorem dX5_openWays_63 : decode cX5_openWays 63 = .ok (.goto (-44), 3) := by decide +kernel
theorem dX5_openWays_66 : decode cX5_openWays 66 = .ok (.iinc 2 1, 3) := by decide +kernel
theorem dX5_openWays_69 : decode cX5_openWays 69 = .ok (.goto (-60), 3) := by decide +kernel
theorem dX5_openWays_72 : decode cX5_openWays 72 = .ok (.iload_n 1, 1) := by decide +kernel
theorem dX5_openWays_73 : decode cX5_openWays 73 = .ok (.ireturn, 1) := by decide +kernel
theorem dJ6_bitCount_0f7a4_0 : decode cJ6_bitCount_0f7a4 0 = .ok (.iload_n 0, 1) := by decide +kernel
theorem dJ6_bitCount_0f7a4_1 : decode cJ6_bitCount_0f7a4 1 = .ok (.iload_n 0, 1) := by decide +kernel
theorem dJ6_bitCount_0f7a4_2 : decode cJ6_bitCount_0f7a4 2 = .ok (.iconst 1, 1) := by decide +kernel
theorem dJ6_bitCount_0f7a4_3 : decode cJ6_bitCount_0f7a4 3 = .ok (.iushr, 1) := by decide +kernel
theorem dJ6_bitCount_0f7a4_4 : decode cJ6_bitCount_0f7a4 4 = .ok (.ldc_w 265, 3) := by decide +kernel
theorem dJ6_bitCount_0f7a4_7 : decode cJ6_bitCount_0f7a4 7 = .ok (.iand, 1) := by decide +kernel
theorem dJ6_bitCount_0f7a4_8 : decode cJ6_bitCount_0f7a4 8 = .ok (.isub, 1) := by decide +kernel
theorem dJ6_bitCount_0f7a4_9 : decode cJ6_bitCount_0f7a4 9 = .ok (.istore_n 0, 1) := by decide +kernel
theorem dJ6_bitCount_0f7a4_10 : decode cJ6_bitCount_0f7a4 10 = .ok (.iload_n 0, 1) := by decide +kernel
theorem dJ6_bitCount_0f7a4_11 : decode cJ6_bitCount_0f7a4 11 = .ok (.ldc_w 266, 3) := by decide +kernel
theorem dJ6_bitCount_0f7a4_14 : decode cJ6_bitCount_0f7a4 14 = .ok (.iand, 1) := by decide +kernel
theorem dJ6_bitCount_0f7a4_15 : decode cJ6_bitCount_0f7a4 15 = .ok (.iload_n 0, 1) := by decide +kernel
theorem dJ6_bitCount_0f7a4_16 : decode cJ6_bitCount_0f7a4 16 = .ok (.iconst 2, 1) := by decide +kernel
theorem dJ6_bitCount_0f7a4_17 : decode cJ6_bitCount_0f7a4 17 = .ok (.iushr, 1) := by decide +kernel
theorem dJ6_bitCount_0f7a4_18 : decode cJ6_bitCount_0f7a4 18 = .ok (.ldc_w 266, 3) := by decide +kernel
theorem dJ6_bitCount_0f7a4_21 : decode cJ6_bitCount_0f7a4 21 = .ok (.iand, 1) := by decide +kernel
theorem dJ6_bitCount_0f7a4_22 : decode cJ6_bitCount_0f7a4 22 = .ok (.iadd, 1) := by decide +kernel
theorem dJ6_bitCount_0f7a4_23 : decode cJ6_bitCount_0f7a4 23 = .ok (.istore_n 0, 1) := by decide +kernel
theorem dJ6_bitCount_0f7a4_24 : decode cJ6_bitCount_0f7a4 24 = .ok (.iload_n 0, 1) := by decide +kernel
theorem dJ6_bitCount_0f7a4_25 : decode cJ6_bitCount_0f7a4 25 = .ok (.iload_n 0, 1) := by decide +kernel
theorem dJ6_bitCount_0f7a4_26 : decode cJ6_bitCount_0f7a4 26 = .ok (.iconst 4, 1) := by decide +kernel
theorem dJ6_bitCount_0f7a4_27 : decode cJ6_bitCount_0f7a4 27 = .ok (.iushr, 1) := by decide +kernel
theorem dJ6_bitCount_0f7a4_28 : decode cJ6_bitCount_0f7a4 28 = .ok (.iadd, 1) := by decide +kernel
theorem dJ6_bitCount_0f7a4_29 : decode cJ6_bitCount_0f7a4 29 = .ok (.ldc_w 267, 3) := by decide +kernel
theorem dJ6_bitCount_0f7a4_32 : decode cJ6_bitCount_0f7a4 32 = .ok (.iand, 1) := by decide +kernel
theorem dJ6_bitCount_0f7a4_33 : decode cJ6_bitCount_0f7a4 33 = .ok (.istore_n 0, 1) := by decide +kernel
theorem dJ6_bitCount_0f7a4_34 : decode cJ6_bitCount_0f7a4 34 = .ok (.iload_n 0, 1) := by decide +kernel
theorem dJ6_bitCount_0f7a4_35 : decode cJ6_bitCount_0f7a4 35 = .ok (.iload_n 0, 1) := by decide +kernel
theorem dJ6_bitCount_0f7a4_36 : decode cJ6_bitCount_0f7a4 36 = .ok (.bipush 8, 2) := by decide +kernel
theorem dJ6_bitCount_0f7a4_38 : decode cJ6_bitCount_0f7a4 38 = .ok (.iushr, 1) := by decide +kernel
theorem dJ6_bitCount_0f7a4_39 : decode cJ6_bitCount_0f7a4 39 = .ok (.iadd, 1) := by decide +kernel
theorem dJ6_bitCount_0f7a4_40 : decode cJ6_bitCount_0f7a4 40 = .ok (.istore_n 0, 1) := by decide +kernel
theorem dJ6_bitCount_0f7a4_41 : decode cJ6_bitCount_0f7a4 41 = .ok (.iload_n 0, 1) := by decide +kernel
theorem dJ6_bitCount_0f7a4_42 : decode cJ6_bitCount_0f7a4 42 = .ok (.iload_n 0, 1) := by decide +kernel
theorem dJ6_bitCount_0f7a4_43 : decode cJ6_bitCount_0f7a4 43 = .ok (.bipush 16, 2) := by decide +kernel
theorem dJ6_bitCount_0f7a4_45 : decode cJ6_bitCount_0f7a4 45 = .ok (.iushr, 1) := by decide +kernel
theorem dJ6_bitCount_0f7a4_46 : decode cJ6_bitCount_0f7a4 46 = .ok (.iadd, 1) := by decide +kernel
theorem dJ6_bitCount_0f7a4_47 : decode cJ6_bitCount_0f7a4 47 = .ok (.istore_n 0, 1) := by decide +kernel
theorem dJ6_bitCount_0f7a4_48 : decode cJ6_bitCount_0f7a4 48 = .ok (.iload_n 0, 1) := by decide +kernel
theorem dJ6_bitCount_0f7a4_49 : decode cJ6_bitCount_0f7a4 49 = .ok (.bipush 63, 2) := by decide +kernel
theorem dJ6_bitCount_0f7a4_51 : decode cJ6_bitCount_0f7a4 51 = .ok (.iand, 1) := by decide +kernel
theorem dJ6_bitCount_0f7a4_52 : decode cJ6_bitCount_0f7a4 52 = .ok (.ireturn, 1) := by decide +kernel
theorem dJ9_abs_0f7a4_0 : decode cJ9_abs_0f7a4 0 = .ok (.iload_n 0, 1) := by decide +kernel
theorem dJ9_abs_0f7a4_1 : decode cJ9_abs_0f7a4 1 = .ok (.ifCond .ge 8, 3) := by decide +kernel
theorem dJ9_abs_0f7a4_4 : decode cJ9_abs_0f7a4 4 = .ok (.iload_n 0, 1) := by decide +kernel
theorem dJ9_abs_0f7a4_5 : decode cJ9_abs_0f7a4 5 = .ok (.ineg, 1) := by decide +kernel
theorem dJ9_abs_0f7a4_6 : decode cJ9_abs_0f7a4 6 = .ok (.goto 4, 3) := by decide +kernel
theorem dJ9_abs_0f7a4_9 : decode cJ9_abs_0f7a4 9 = .ok (.iload_n 0, 1) := by decide +kernel
theorem dJ9_abs_0f7a4_10 : decode cJ9_abs_0f7a4 10 = .ok (.ireturn, 1) := by decide +kernel
theorem dJ9_max_7cf53_0 : decode cJ9_max_7cf53 0 = .ok (.iload_n 0, 1) := by decide +kernel
theorem dJ9_max_7cf53_1 : decode cJ9_max_7cf53 1 = .ok (.iload_n 1, 1) := by decide +kernel
theorem dJ9_max_7cf53_2 : decode cJ9_max_7cf53 2 = .ok (.if_icmp .lt 7, 3) := by decide +kernel
theorem dJ9_max_7cf53_5 : decode cJ9_max_7cf53 5 = .ok (.iload_n 0, 1) := by decide +kernel
theorem dJ9_max_7cf53_6 : decode cJ9_max_7cf53 6 = .ok (.goto 4, 3) := by decide +kernel
theorem dJ9_max_7cf53_9 : decode cJ9_max_7cf53 9 = .ok (.iload_n 1, 1) := by decide +kernel
theorem dJ9_max_7cf53_10 : decode cJ9_max_7cf53 10 = .ok (.ireturn, 1) := by decide +kernel
theorem dJ9_min_7cf53_0 : decode cJ9_min_7cf53 0 = .ok (.iload_n 0, 1) := by decide +kernel
theorem dJ9_min_7cf53_1 : decode cJ9_min_7cf53 1 = .ok (.iload_n 1, 1) := by decide +kernel
theorem dJ9_min_7cf53_2 : decode cJ9_min_7cf53 2 = .ok (.if_icmp .gt 7, 3) := by decide +kernel
theorem dJ9_min_7cf53_5 : decode cJ9_min_7cf53 5 = .ok (.iload_n 0, 1) := by decide +kernel
theorem dJ9_min_7cf53_6 : decode cJ9_min_7cf53 6 = .ok (.goto 4, 3) := by decide +kernel
theorem dJ9_min_7cf53_9 : decode cJ9_min_7cf53 9 = .ok (.iload_n 1, 1) := by decide +kernel
theorem dJ9_min_7cf53_10 : decode cJ9_min_7cf53 10 = .ok (.ireturn, 1) := by decide +kernel
