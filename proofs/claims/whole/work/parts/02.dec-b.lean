theorem dX6_init_0 : decode cX6_init 0 = .ok (.aload_n 0, 1) := by decide +kernel
theorem dX6_init_1 : decode cX6_init 1 = .ok (.invokespecial 1, 3) := by decide +kernel
theorem dX6_init_4 : decode cX6_init 4 = .ok (.aload_n 0, 1) := by decide +kernel
theorem dX6_init_5 : decode cX6_init 5 = .ok (.new 7, 3) := by decide +kernel
theorem dX6_init_8 : decode cX6_init 8 = .ok (.dup, 1) := by decide +kernel
theorem dX6_init_9 : decode cX6_init 9 = .ok (.invokespecial 9, 3) := by decide +kernel
theorem dX6_init_12 : decode cX6_init 12 = .ok (.putfield 10, 3) := by decide +kernel
theorem dX6_init_15 : decode cX6_init 15 = .ok (.aload_n 0, 1) := by decide +kernel
theorem dX6_init_16 : decode cX6_init 16 = .ok (.new 16, 3) := by decide +kernel
theorem dX6_init_19 : decode cX6_init 19 = .ok (.dup, 1) := by decide +kernel
theorem dX6_init_20 : decode cX6_init 20 = .ok (.invokespecial 18, 3) := by decide +kernel
theorem dX6_init_23 : decode cX6_init 23 = .ok (.putfield 19, 3) := by decide +kernel
theorem dX6_init_26 : decode cX6_init 26 = .ok (.aload_n 0, 1) := by decide +kernel
theorem dX6_init_27 : decode cX6_init 27 = .ok (.new 23, 3) := by decide +kernel
theorem dX6_init_30 : decode cX6_init 30 = .ok (.dup, 1) := by decide +kernel
theorem dX6_init_31 : decode cX6_init 31 = .ok (.invokespecial 25, 3) := by decide +kernel
theorem dX6_init_34 : decode cX6_init 34 = .ok (.putfield 26, 3) := by decide +kernel
theorem dX6_init_37 : decode cX6_init 37 = .ok (.aload_n 0, 1) := by decide +kernel
theorem dX6_init_38 : decode cX6_init 38 = .ok (.new 23, 3) := by decide +kernel
theorem dX6_init_41 : decode cX6_init 41 = .ok (.dup, 1) := by decide +kernel
theorem dX6_init_42 : decode cX6_init 42 = .ok (.invokespecial 25, 3) := by decide +kernel
theorem dX6_init_45 : decode cX6_init 45 = .ok (.putfield 30, 3) := by decide +kernel
theorem dX6_init_48 : decode cX6_init 48 = .ok (.aload_n 0, 1) := by decide +kernel
theorem dX6_init_49 : decode cX6_init 49 = .ok (.iconst 2, 1) := by decide +kernel
theorem dX6_init_50 : decode cX6_init 50 = .ok (.anewarray 23, 3) := by decide +kernel
theorem dX6_init_53 : decode cX6_init 53 = .ok (.putfield 33, 3) := by decide +kernel
theorem dX6_init_56 : decode cX6_init 56 = .ok (.iconst 0, 1) := by decide +kernel
theorem dX6_init_57 : decode cX6_init 57 = .ok (.istore_n 1, 1) := by decide +kernel
theorem dX6_init_58 : decode cX6_init 58 = .ok (.iload_n 1, 1) := by decide +kernel
theorem dX6_init_59 : decode cX6_init 59 = .ok (.iconst 2, 1) := by decide +kernel
theorem dX6_init_60 : decode cX6_init 60 = .ok (.if_icmp .ge 22, 3) := by decide +kernel
theorem dX6_init_63 : decode cX6_init 63 = .ok (.aload_n 0, 1) := by decide +kernel
theorem dX6_init_64 : decode cX6_init 64 = .ok (.getfield 33, 3) := by decide +kernel
theorem dX6_init_67 : decode cX6_init 67 = .ok (.iload_n 1, 1) := by decide +kernel
theorem dX6_init_68 : decode cX6_init 68 = .ok (.new 23, 3) := by decide +kernel
theorem dX6_init_71 : decode cX6_init 71 = .ok (.dup, 1) := by decide +kernel
theorem dX6_init_72 : decode cX6_init 72 = .ok (.invokespecial 25, 3) := by decide +kernel
theorem dX6_init_75 : decode cX6_init 75 = .ok (.aastore, 1) := by decide +kernel
theorem dX6_init_76 : decode cX6_init 76 = .ok (.iinc 1 1, 3) := by decide +kernel
theorem dX6_init_79 : decode cX6_init 79 = .ok (.goto (-21), 3) := by decide +kernel
theorem dX6_init_82 : decode cX6_init 82 = .ok (.aload_n 0, 1) := by decide +kernel
theorem dX6_init_83 : decode cX6_init 83 = .ok (.new 37, 3) := by decide +kernel
theorem dX6_init_86 : decode cX6_init 86 = .ok (.dup, 1) := by decide +kernel
theorem dX6_init_87 : decode cX6_init 87 = .ok (.invokespecial 39, 3) := by decide +kernel
theorem dX6_init_90 : decode cX6_init 90 = .ok (.putfield 40, 3) := by decide +kernel
theorem dX6_init_93 : decode cX6_init 93 = .ok (.aload_n 0, 1) := by decide +kernel
theorem dX6_init_94 : decode cX6_init 94 = .ok (.new 44, 3) := by decide +kernel
theorem dX6_init_97 : decode cX6_init 97 = .ok (.dup, 1) := by decide +kernel
theorem dX6_init_98 : decode cX6_init 98 = .ok (.invokespecial 46, 3) := by decide +kernel
theorem dX6_init_101 : decode cX6_init 101 = .ok (.putfield 47, 3) := by decide +kernel
theorem dX6_init_104 : decode cX6_init 104 = .ok (.aload_n 0, 1) := by decide +kernel
theorem dX6_init_105 : decode cX6_init 105 = .ok (.new 51, 3) := by decide +kernel
theorem dX6_init_108 : decode cX6_init 108 = .ok (.dup, 1) := by decide +kernel
theorem dX6_init_109 : decode cX6_init 109 = .ok (.invokespecial 53, 3) := by decide +kernel
theorem dX6_init_112 : decode cX6_init 112 = .ok (.putfield 54, 3) := by decide +kernel
theorem dX6_init_115 : decode cX6_init 115 = .ok (.aload_n 0, 1) := by decide +kernel
theorem dX6_init_116 : decode cX6_init 116 = .ok (.iconst 0, 1) := by decide +kernel
theorem dX6_init_117 : decode cX6_init 117 = .ok (.putfield 58, 3) := by decide +kernel
theorem dX6_init_120 : decode cX6_init 120 = .ok (.aload_n 0, 1) := by decide +kernel
theorem dX6_init_121 : decode cX6_init 121 = .ok (.iconst 0, 1) := by decide +kernel
theorem dX6_init_122 : decode cX6_init 122 = .ok (.putfield 62, 3) := by decide +kernel
theorem dX6_init_125 : decode cX6_init 125 = .ok (.return_, 1) := by decide +kernel
theorem dX6_row_0 : decode cX6_row 0 = .ok (.iload_n 1, 1) := by decide +kernel
theorem dX6_row_1 : decode cX6_row 1 = .ok (.invokestatic 65, 3) := by decide +kernel
theorem dX6_row_4 : decode cX6_row 4 = .ok (.ifCond .eq 18, 3) := by decide +kernel
theorem dX6_row_7 : decode cX6_row 7 = .ok (.iload_n 2, 1) := by decide +kernel
theorem dX6_row_8 : decode cX6_row 8 = .ok (.ifCond .lt 14, 3) := by decide +kernel
theorem dX6_row_11 : decode cX6_row 11 = .ok (.iload_n 2, 1) := by decide +kernel
theorem dX6_row_12 : decode cX6_row 12 = .ok (.iconst 2, 1) := by decide +kernel
theorem dX6_row_13 : decode cX6_row 13 = .ok (.if_icmp .gt 9, 3) := by decide +kernel
theorem dX6_row_16 : decode cX6_row 16 = .ok (.iload_n 3, 1) := by decide +kernel
theorem dX6_row_17 : decode cX6_row 17 = .ok (.bipush 40, 2) := by decide +kernel
theorem dX6_row_19 : decode cX6_row 19 = .ok (.if_icmp .le 6, 3) := by decide +kernel
theorem dX6_row_22 : decode cX6_row 22 = .ok (.ldc 69, 2) := by decide +kernel
theorem dX6_row_24 : decode cX6_row 24 = .ok (.ireturn, 1) := by decide +kernel
theorem dX6_row_25 : decode cX6_row 25 = .ok (.iload_n 3, 1) := by decide +kernel
theorem dX6_row_26 : decode cX6_row 26 = .ok (.ifCond .ge 9, 3) := by decide +kernel
theorem dX6_row_29 : decode cX6_row 29 = .ok (.aload_n 0, 1) := by decide +kernel
theorem dX6_row_30 : decode cX6_row 30 = .ok (.iconst 4, 1) := by decide +kernel
theorem dX6_row_31 : decode cX6_row 31 = .ok (.invokevirtual 70, 3) := by decide +kernel
theorem dX6_row_34 : decode cX6_row 34 = .ok (.ireturn, 1) := by decide +kernel
theorem dX6_row_35 : decode cX6_row 35 = .ok (.aload_n 0, 1) := by decide +kernel
theorem dX6_row_36 : decode cX6_row 36 = .ok (.getfield 10, 3) := by decide +kernel
theorem dX6_row_39 : decode cX6_row 39 = .ok (.iload_n 1, 1) := by decide +kernel
theorem dX6_row_40 : decode cX6_row 40 = .ok (.iload_n 2, 1) := by decide +kernel
theorem dX6_row_41 : decode cX6_row 41 = .ok (.iload_n 3, 1) := by decide +kernel
theorem dX6_row_42 : decode cX6_row 42 = .ok (.invokevirtual 74, 3) := by decide +kernel
theorem dX6_row_45 : decode cX6_row 45 = .ok (.aload_n 0, 1) := by decide +kernel
theorem dX6_row_46 : decode cX6_row 46 = .ok (.iload_n 3, 1) := by decide +kernel
theorem dX6_row_47 : decode cX6_row 47 = .ok (.invokevirtual 78, 3) := by decide +kernel
theorem dX6_row_50 : decode cX6_row 50 = .ok (.ireturn, 1) := by decide +kernel
theorem dX6_set_0 : decode cX6_set 0 = .ok (.iload_n 1, 1) := by decide +kernel
theorem dX6_set_1 : decode cX6_set 1 = .ok (.invokestatic 65, 3) := by decide +kernel
theorem dX6_set_4 : decode cX6_set 4 = .ok (.ifCond .ne 6, 3) := by decide +kernel
theorem dX6_set_7 : decode cX6_set 7 = .ok (.ldc 69, 2) := by decide +kernel
theorem dX6_set_9 : decode cX6_set 9 = .ok (.ireturn, 1) := by decide +kernel
theorem dX6_set_10 : decode cX6_set 10 = .ok (.aload_n 0, 1) := by decide +kernel
theorem dX6_set_11 : decode cX6_set 11 = .ok (.getfield 10, 3) := by decide +kernel
theorem dX6_set_14 : decode cX6_set 14 = .ok (.iload_n 1, 1) := by decide +kernel
theorem dX6_set_15 : decode cX6_set 15 = .ok (.iload_n 2, 1) := by decide +kernel
theorem dX6_set_16 : decode cX6_set 16 = .ok (.iconst 1, 1) := by decide +kernel
theorem dX6_set_17 : decode cX6_set 17 = .ok (.invokevirtual 81, 3) := by decide +kernel
theorem dX6_set_20 : decode cX6_set 20 = .ok (.istore 4, 2) := by decide +kernel
theorem dX6_set_22 : decode cX6_set 22 = .ok (.iload 4, 2) := by decide +kernel
theorem dX6_set_24 : decode cX6_set 24 = .ok (.ifCond .eq 10, 3) := by decide +kernel
theorem dX6_set_27 : decode cX6_set 27 = .ok (.aload_n 0, 1) := by decide +kernel
theorem dX6_set_28 : decode cX6_set 28 = .ok (.iload 4, 2) := by decide +kernel
theorem dX6_set_30 : decode cX6_set 30 = .ok (.invokevirtual 70, 3) := by decide +kernel
theorem dX6_set_33 : decode cX6_set 33 = .ok (.ireturn, 1) := by decide +kernel
theorem dX6_set_34 : decode cX6_set 34 = .ok (.aload_n 0, 1) := by decide +kernel
theorem dX6_set_35 : decode cX6_set 35 = .ok (.aload_n 0, 1) := by decide +kernel
theorem dX6_set_36 : decode cX6_set 36 = .ok (.getfield 10, 3) := by decide +kernel
theorem dX6_set_39 : decode cX6_set 39 = .ok (.iload_n 1, 1) := by decide +kernel
theorem dX6_set_40 : decode cX6_set 40 = .ok (.iload_n 2, 1) := by decide +kernel
theorem dX6_set_41 : decode cX6_set 41 = .ok (.iload_n 3, 1) := by decide +kernel
theorem dX6_set_42 : decode cX6_set 42 = .ok (.invokevirtual 85, 3) := by decide +kernel
theorem dX6_set_45 : decode cX6_set 45 = .ok (.invokevirtual 78, 3) := by decide +kernel
theorem dX6_set_48 : decode cX6_set 48 = .ok (.ireturn, 1) := by decide +kernel
theorem dX6_copy_0 : decode cX6_copy 0 = .ok (.iload_n 1, 1) := by decide +kernel
theorem dX6_copy_1 : decode cX6_copy 1 = .ok (.invokestatic 65, 3) := by decide +kernel
theorem dX6_copy_4 : decode cX6_copy 4 = .ok (.ifCond .eq 10, 3) := by decide +kernel
theorem dX6_copy_7 : decode cX6_copy 7 = .ok (.iload_n 3, 1) := by decide +kernel
theorem dX6_copy_8 : decode cX6_copy 8 = .ok (.invokestatic 65, 3) := by decide +kernel
theorem dX6_copy_11 : decode cX6_copy 11 = .ok (.ifCond .ne 6, 3) := by decide +kernel
theorem dX6_copy_14 : decode cX6_copy 14 = .ok (.ldc 69, 2) := by decide +kernel
theorem dX6_copy_16 : decode cX6_copy 16 = .ok (.ireturn, 1) := by decide +kernel
theorem dX6_copy_17 : decode cX6_copy 17 = .ok (.aload_n 0, 1) := by decide +kernel
theorem dX6_copy_18 : decode cX6_copy 18 = .ok (.getfield 10, 3) := by decide +kernel
theorem dX6_copy_21 : decode cX6_copy 21 = .ok (.iload_n 1, 1) := by decide +kernel
theorem dX6_copy_22 : decode cX6_copy 22 = .ok (.iload_n 2, 1) := by decide +kernel
theorem dX6_copy_23 : decode cX6_copy 23 = .ok (.iload_n 3, 1) := by decide +kernel
theorem dX6_copy_24 : decode cX6_copy 24 = .ok (.iload 4, 2) := by decide +kernel
theorem dX6_copy_26 : decode cX6_copy 26 = .ok (.iload 5, 2) := by decide +kernel
theorem dX6_copy_28 : decode cX6_copy 28 = .ok (.invokevirtual 88, 3) := by decide +kernel
theorem dX6_copy_31 : decode cX6_copy 31 = .ok (.istore 6, 2) := by decide +kernel
theorem dX6_copy_33 : decode cX6_copy 33 = .ok (.iload 6, 2) := by decide +kernel
theorem dX6_copy_35 : decode cX6_copy 35 = .ok (.ifCond .eq 10, 3) := by decide +kernel
theorem dX6_copy_38 : decode cX6_copy 38 = .ok (.aload_n 0, 1) := by decide +kernel
theorem dX6_copy_39 : decode cX6_copy 39 = .ok (.iload 6, 2) := by decide +kernel
theorem dX6_copy_41 : decode cX6_copy 41 = .ok (.invokevirtual 70, 3) := by decide +kernel
theorem dX6_copy_44 : decode cX6_copy 44 = .ok (.ireturn, 1) := by decide +kernel
theorem dX6_copy_45 : decode cX6_copy 45 = .ok (.aload_n 0, 1) := by decide +kernel
theorem dX6_copy_46 : decode cX6_copy 46 = .ok (.getfield 10, 3) := by decide +kernel
theorem dX6_copy_49 : decode cX6_copy 49 = .ok (.iload_n 1, 1) := by decide +kernel
theorem dX6_copy_50 : decode cX6_copy 50 = .ok (.iload_n 2, 1) := by decide +kernel
theorem dX6_copy_51 : decode cX6_copy 51 = .ok (.iload_n 3, 1) := by decide +kernel
theorem dX6_copy_52 : decode cX6_copy 52 = .ok (.iload 4, 2) := by decide +kernel
theorem dX6_copy_54 : decode cX6_copy 54 = .ok (.iload 5, 2) := by decide +kernel
theorem dX6_copy_56 : decode cX6_copy 56 = .ok (.invokevirtual 92, 3) := by decide +kernel
theorem dX6_copy_59 : decode cX6_copy 59 = .ok (.aload_n 0, 1) := by decide +kernel
theorem dX6_copy_60 : decode cX6_copy 60 = .ok (.iload 5, 2) := by decide +kernel
theorem dX6_copy_62 : decode cX6_copy 62 = .ok (.invokevirtual 78, 3) := by decide +kernel
theorem dX6_copy_65 : decode cX6_copy 65 = .ok (.ireturn, 1) := by decide +kernel
theorem dX6_drop_0 : decode cX6_drop 0 = .ok (.iload_n 1, 1) := by decide +kernel
theorem dX6_drop_1 : decode cX6_drop 1 = .ok (.invokestatic 65, 3) := by decide +kernel
theorem dX6_drop_4 : decode cX6_drop 4 = .ok (.ifCond .ne 6, 3) := by decide +kernel
theorem dX6_drop_7 : decode cX6_drop 7 = .ok (.ldc 69, 2) := by decide +kernel
theorem dX6_drop_9 : decode cX6_drop 9 = .ok (.ireturn, 1) := by decide +kernel
theorem dX6_drop_10 : decode cX6_drop 10 = .ok (.aload_n 0, 1) := by decide +kernel
theorem dX6_drop_11 : decode cX6_drop 11 = .ok (.getfield 10, 3) := by decide +kernel
theorem dX6_drop_14 : decode cX6_drop 14 = .ok (.iload_n 1, 1) := by decide +kernel
theorem dX6_drop_15 : decode cX6_drop 15 = .ok (.invokevirtual 96, 3) := by decide +kernel
theorem dX6_drop_18 : decode cX6_drop 18 = .ok (.ifCond .eq 9, 3) := by decide +kernel
theorem dX6_drop_21 : decode cX6_drop 21 = .ok (.aload_n 0, 1) := by decide +kernel
theorem dX6_drop_22 : decode cX6_drop 22 = .ok (.iconst 1, 1) := by decide +kernel
theorem dX6_drop_23 : decode cX6_drop 23 = .ok (.invokevirtual 70, 3) := by decide +kernel
theorem dX6_drop_26 : decode cX6_drop 26 = .ok (.ireturn, 1) := by decide +kernel
theorem dX6_drop_27 : decode cX6_drop 27 = .ok (.aload_n 0, 1) := by decide +kernel
theorem dX6_drop_28 : decode cX6_drop 28 = .ok (.aload_n 0, 1) := by decide +kernel
theorem dX6_drop_29 : decode cX6_drop 29 = .ok (.getfield 10, 3) := by decide +kernel
theorem dX6_drop_32 : decode cX6_drop 32 = .ok (.iload_n 1, 1) := by decide +kernel
theorem dX6_drop_33 : decode cX6_drop 33 = .ok (.invokevirtual 99, 3) := by decide +kernel
theorem dX6_drop_36 : decode cX6_drop 36 = .ok (.invokevirtual 78, 3) := by decide +kernel
theorem dX6_drop_39 : decode cX6_drop 39 = .ok (.ireturn, 1) := by decide +kernel
theorem dX6_feed_0 : decode cX6_feed 0 = .ok (.iload_n 1, 1) := by decide +kernel
theorem dX6_feed_1 : decode cX6_feed 1 = .ok (.ifCond .lt 10, 3) := by decide +kernel
theorem dX6_feed_4 : decode cX6_feed 4 = .ok (.iload_n 1, 1) := by decide +kernel
theorem dX6_feed_5 : decode cX6_feed 5 = .ok (.sipush 255, 3) := by decide +kernel
theorem dX6_feed_8 : decode cX6_feed 8 = .ok (.if_icmp .le 6, 3) := by decide +kernel
theorem dX6_feed_11 : decode cX6_feed 11 = .ok (.ldc 69, 2) := by decide +kernel
theorem dX6_feed_13 : decode cX6_feed 13 = .ok (.ireturn, 1) := by decide +kernel
theorem dX6_feed_14 : decode cX6_feed 14 = .ok (.aload_n 0, 1) := by decide +kernel
theorem dX6_feed_15 : decode cX6_feed 15 = .ok (.getfield 19, 3) := by decide +kernel
theorem dX6_feed_18 : decode cX6_feed 18 = .ok (.getfield 102, 3) := by decide +kernel
theorem dX6_feed_21 : decode cX6_feed 21 = .ok (.bipush 120, 2) := by decide +kernel
theorem dX6_feed_23 : decode cX6_feed 23 = .ok (.if_icmp .lt 6, 3) := by decide +kernel
theorem dX6_feed_26 : decode cX6_feed 26 = .ok (.ldc 105, 2) := by decide +kernel
theorem dX6_feed_28 : decode cX6_feed 28 = .ok (.ireturn, 1) := by decide +kernel
theorem dX6_feed_29 : decode cX6_feed 29 = .ok (.aload_n 0, 1) := by decide +kernel
theorem dX6_feed_30 : decode cX6_feed 30 = .ok (.getfield 19, 3) := by decide +kernel
theorem dX6_feed_33 : decode cX6_feed 33 = .ok (.iload_n 1, 1) := by decide +kernel
theorem dX6_feed_34 : decode cX6_feed 34 = .ok (.invokevirtual 106, 3) := by decide +kernel
theorem dX6_feed_37 : decode cX6_feed 37 = .ok (.ireturn, 1) := by decide +kernel
theorem dX6_town_0 : decode cX6_town 0 = .ok (.aload_n 0, 1) := by decide +kernel
theorem dX6_town_1 : decode cX6_town 1 = .ok (.getfield 19, 3) := by decide +kernel
theorem dX6_town_4 : decode cX6_town 4 = .ok (.aload_n 0, 1) := by decide +kernel
theorem dX6_town_5 : decode cX6_town 5 = .ok (.getfield 30, 3) := by decide +kernel
theorem dX6_town_8 : decode cX6_town 8 = .ok (.invokevirtual 108, 3) := by decide +kernel
theorem dX6_town_11 : decode cX6_town 11 = .ok (.istore_n 1, 1) := by decide +kernel
theorem dX6_town_12 : decode cX6_town 12 = .ok (.aload_n 0, 1) := by decide +kernel
theorem dX6_town_13 : decode cX6_town 13 = .ok (.getfield 19, 3) := by decide +kernel
theorem dX6_town_16 : decode cX6_town 16 = .ok (.iconst 0, 1) := by decide +kernel
theorem dX6_town_17 : decode cX6_town 17 = .ok (.putfield 102, 3) := by decide +kernel
theorem dX6_town_20 : decode cX6_town 20 = .ok (.iload_n 1, 1) := by decide +kernel
theorem dX6_town_21 : decode cX6_town 21 = .ok (.ifCond .ne 25, 3) := by decide +kernel
theorem dX6_town_24 : decode cX6_town 24 = .ok (.aload_n 0, 1) := by decide +kernel
theorem dX6_town_25 : decode cX6_town 25 = .ok (.aload_n 0, 1) := by decide +kernel
theorem dX6_town_26 : decode cX6_town 26 = .ok (.getfield 19, 3) := by decide +kernel
theorem dX6_town_29 : decode cX6_town 29 = .ok (.getfield 112, 3) := by decide +kernel
theorem dX6_town_32 : decode cX6_town 32 = .ok (.putfield 62, 3) := by decide +kernel
theorem dX6_town_35 : decode cX6_town 35 = .ok (.ldc 115, 2) := by decide +kernel
theorem dX6_town_37 : decode cX6_town 37 = .ok (.aload_n 0, 1) := by decide +kernel
theorem dX6_town_38 : decode cX6_town 38 = .ok (.getfield 19, 3) := by decide +kernel
theorem dX6_town_41 : decode cX6_town 41 = .ok (.getfield 116, 3) := by decide +kernel
theorem dX6_town_44 : decode cX6_town 44 = .ok (.isub, 1) := by decide +kernel
theorem dX6_town_45 : decode cX6_town 45 = .ok (.ireturn, 1) := by decide +kernel
theorem dX6_town_46 : decode cX6_town 46 = .ok (.aload_n 0, 1) := by decide +kernel
theorem dX6_town_47 : decode cX6_town 47 = .ok (.getfield 26, 3) := by decide +kernel
theorem dX6_town_50 : decode cX6_town 50 = .ok (.aload_n 0, 1) := by decide +kernel
theorem dX6_town_51 : decode cX6_town 51 = .ok (.getfield 30, 3) := by decide +kernel
theorem dX6_town_54 : decode cX6_town 54 = .ok (.invokevirtual 119, 3) := by decide +kernel
theorem dX6_town_57 : decode cX6_town 57 = .ok (.aload_n 0, 1) := by decide +kernel
theorem dX6_town_58 : decode cX6_town 58 = .ok (.getfield 40, 3) := by decide +kernel
theorem dX6_town_61 : decode cX6_town 61 = .ok (.invokevirtual 123, 3) := by decide +kernel
theorem dX6_town_64 : decode cX6_town 64 = .ok (.aload_n 0, 1) := by decide +kernel
theorem dX6_town_65 : decode cX6_town 65 = .ok (.getfield 26, 3) := by decide +kernel
theorem dX6_town_68 : decode cX6_town 68 = .ok (.getfield 126, 3) := by decide +kernel
theorem dX6_town_71 : decode cX6_town 71 = .ok (.ireturn, 1) := by decide +kernel
theorem dX6_fault_0 : decode cX6_fault 0 = .ok (.aload_n 0, 1) := by decide +kernel
theorem dX6_fault_1 : decode cX6_fault 1 = .ok (.getfield 62, 3) := by decide +kernel
theorem dX6_fault_4 : decode cX6_fault 4 = .ok (.ireturn, 1) := by decide +kernel
theorem dX6_ride_0 : decode cX6_ride 0 = .ok (.aload_n 0, 1) := by decide +kernel
theorem dX6_ride_1 : decode cX6_ride 1 = .ok (.getfield 26, 3) := by decide +kernel
theorem dX6_ride_4 : decode cX6_ride 4 = .ok (.iload_n 1, 1) := by decide +kernel
theorem dX6_ride_5 : decode cX6_ride 5 = .ok (.invokevirtual 129, 3) := by decide +kernel
theorem dX6_ride_8 : decode cX6_ride 8 = .ok (.ifCond .ne 6, 3) := by decide +kernel
theorem dX6_ride_11 : decode cX6_ride 11 = .ok (.ldc 69, 2) := by decide +kernel
theorem dX6_ride_13 : decode cX6_ride 13 = .ok (.ireturn, 1) := by decide +kernel
theorem dX6_ride_14 : decode cX6_ride 14 = .ok (.aload_n 0, 1) := by decide +kernel
theorem dX6_ride_15 : decode cX6_ride 15 = .ok (.getfield 26, 3) := by decide +kernel
theorem dX6_ride_18 : decode cX6_ride 18 = .ok (.iload_n 1, 1) := by decide +kernel
theorem dX6_ride_19 : decode cX6_ride 19 = .ok (.invokevirtual 132, 3) := by decide +kernel
theorem dX6_ride_22 : decode cX6_ride 22 = .ok (.ifCond .ne 6, 3) := by decide +kernel
theorem dX6_ride_25 : decode cX6_ride 25 = .ok (.ldc 135, 2) := by decide +kernel
theorem dX6_ride_27 : decode cX6_ride 27 = .ok (.ireturn, 1) := by decide +kernel
theorem dX6_ride_28 : decode cX6_ride 28 = .ok (.aload_n 0, 1) := by decide +kernel
theorem dX6_ride_29 : decode cX6_ride 29 = .ok (.getfield 26, 3) := by decide +kernel
theorem dX6_ride_32 : decode cX6_ride 32 = .ok (.getfield 136, 3) := by decide +kernel
theorem dX6_ride_35 : decode cX6_ride 35 = .ok (.sipush 999, 3) := by decide +kernel
theorem dX6_ride_38 : decode cX6_ride 38 = .ok (.if_icmp .lt 6, 3) := by decide +kernel
theorem dX6_ride_41 : decode cX6_ride 41 = .ok (.ldc 105, 2) := by decide +kernel
theorem dX6_ride_43 : decode cX6_ride 43 = .ok (.ireturn, 1) := by decide +kernel
theorem dX6_ride_44 : decode cX6_ride 44 = .ok (.aload_n 0, 1) := by decide +kernel
theorem dX6_ride_45 : decode cX6_ride 45 = .ok (.getfield 40, 3) := by decide +kernel
theorem dX6_ride_48 : decode cX6_ride 48 = .ok (.iconst 0, 1) := by decide +kernel
theorem dX6_ride_49 : decode cX6_ride 49 = .ok (.aload_n 0, 1) := by decide +kernel
theorem dX6_ride_50 : decode cX6_ride 50 = .ok (.getfield 26, 3) := by decide +kernel
theorem dX6_ride_53 : decode cX6_ride 53 = .ok (.getfield 139, 3) := by decide +kernel
theorem dX6_ride_56 : decode cX6_ride 56 = .ok (.aload_n 0, 1) := by decide +kernel
theorem dX6_ride_57 : decode cX6_ride 57 = .ok (.getfield 26, 3) := by decide +kernel
theorem dX6_ride_60 : decode cX6_ride 60 = .ok (.getfield 142, 3) := by decide +kernel
theorem dX6_ride_63 : decode cX6_ride 63 = .ok (.aload_n 0, 1) := by decide +kernel
theorem dX6_ride_64 : decode cX6_ride 64 = .ok (.getfield 26, 3) := by decide +kernel
theorem dX6_ride_67 : decode cX6_ride 67 = .ok (.getfield 145, 3) := by decide +kernel
theorem dX6_ride_70 : decode cX6_ride 70 = .ok (.invokevirtual 148, 3) := by decide +kernel
theorem dX6_ride_73 : decode cX6_ride 73 = .ok (.aload_n 0, 1) := by decide +kernel
theorem dX6_ride_74 : decode cX6_ride 74 = .ok (.getfield 26, 3) := by decide +kernel
theorem dX6_ride_77 : decode cX6_ride 77 = .ok (.iload_n 1, 1) := by decide +kernel
theorem dX6_ride_78 : decode cX6_ride 78 = .ok (.invokevirtual 152, 3) := by decide +kernel
theorem dX6_ride_81 : decode cX6_ride 81 = .ok (.aload_n 0, 1) := by decide +kernel
theorem dX6_ride_82 : decode cX6_ride 82 = .ok (.getfield 26, 3) := by decide +kernel
theorem dX6_ride_85 : decode cX6_ride 85 = .ok (.getfield 142, 3) := by decide +kernel
theorem dX6_ride_88 : decode cX6_ride 88 = .ok (.ireturn, 1) := by decide +kernel
theorem dX6_lesson_0 : decode cX6_lesson 0 = .ok (.aload_n 0, 1) := by decide +kernel
theorem dX6_lesson_1 : decode cX6_lesson 1 = .ok (.getfield 26, 3) := by decide +kernel
theorem dX6_lesson_4 : decode cX6_lesson 4 = .ok (.iload_n 1, 1) := by decide +kernel
theorem dX6_lesson_5 : decode cX6_lesson 5 = .ok (.invokevirtual 156, 3) := by decide +kernel
theorem dX6_lesson_8 : decode cX6_lesson 8 = .ok (.ifCond .eq 13, 3) := by decide +kernel
theorem dX6_lesson_11 : decode cX6_lesson 11 = .ok (.iload_n 2, 1) := by decide +kernel
theorem dX6_lesson_12 : decode cX6_lesson 12 = .ok (.ifCond .lt 9, 3) := by decide +kernel
theorem dX6_lesson_15 : decode cX6_lesson 15 = .ok (.iload_n 2, 1) := by decide +kernel
theorem dX6_lesson_16 : decode cX6_lesson 16 = .ok (.bipush 9, 2) := by decide +kernel
theorem dX6_lesson_18 : decode cX6_lesson 18 = .ok (.if_icmp .le 6, 3) := by decide +kernel
theorem dX6_lesson_21 : decode cX6_lesson 21 = .ok (.ldc 69, 2) := by decide +kernel
theorem dX6_lesson_23 : decode cX6_lesson 23 = .ok (.ireturn, 1) := by decide +kernel
theorem dX6_lesson_24 : decode cX6_lesson 24 = .ok (.aload_n 0, 1) := by decide +kernel
theorem dX6_lesson_25 : decode cX6_lesson 25 = .ok (.getfield 26, 3) := by decide +kernel
theorem dX6_lesson_28 : decode cX6_lesson 28 = .ok (.getfield 159, 3) := by decide +kernel
theorem dX6_lesson_31 : decode cX6_lesson 31 = .ok (.iload_n 1, 1) := by decide +kernel
theorem dX6_lesson_32 : decode cX6_lesson 32 = .ok (.iaload, 1) := by decide +kernel
theorem dX6_lesson_33 : decode cX6_lesson 33 = .ok (.istore_n 3, 1) := by decide +kernel
theorem dX6_lesson_34 : decode cX6_lesson 34 = .ok (.aload_n 0, 1) := by decide +kernel
theorem dX6_lesson_35 : decode cX6_lesson 35 = .ok (.getfield 40, 3) := by decide +kernel
theorem dX6_lesson_38 : decode cX6_lesson 38 = .ok (.iconst 1, 1) := by decide +kernel
theorem dX6_lesson_39 : decode cX6_lesson 39 = .ok (.iload_n 1, 1) := by decide +kernel
theorem dX6_lesson_40 : decode cX6_lesson 40 = .ok (.iload_n 3, 1) := by decide +kernel
theorem dX6_lesson_41 : decode cX6_lesson 41 = .ok (.iconst 0, 1) := by decide +kernel
theorem dX6_lesson_42 : decode cX6_lesson 42 = .ok (.invokevirtual 148, 3) := by decide +kernel
theorem dX6_lesson_45 : decode cX6_lesson 45 = .ok (.aload_n 0, 1) := by decide +kernel
theorem dX6_lesson_46 : decode cX6_lesson 46 = .ok (.getfield 26, 3) := by decide +kernel
theorem dX6_lesson_49 : decode cX6_lesson 49 = .ok (.getfield 159, 3) := by decide +kernel
theorem dX6_lesson_52 : decode cX6_lesson 52 = .ok (.iload_n 1, 1) := by decide +kernel
theorem dX6_lesson_53 : decode cX6_lesson 53 = .ok (.iload_n 2, 1) := by decide +kernel
theorem dX6_lesson_54 : decode cX6_lesson 54 = .ok (.iastore, 1) := by decide +kernel
theorem dX6_lesson_55 : decode cX6_lesson 55 = .ok (.iload_n 3, 1) := by decide +kernel
theorem dX6_lesson_56 : decode cX6_lesson 56 = .ok (.ireturn, 1) := by decide +kernel
theorem dX6_reset_0 : decode cX6_reset 0 = .ok (.aload_n 0, 1) := by decide +kernel
theorem dX6_reset_1 : decode cX6_reset 1 = .ok (.getfield 26, 3) := by decide +kernel
theorem dX6_reset_4 : decode cX6_reset 4 = .ok (.invokevirtual 163, 3) := by decide +kernel
theorem dX6_reset_7 : decode cX6_reset 7 = .ok (.ifCond .ne 6, 3) := by decide +kernel
theorem dX6_reset_10 : decode cX6_reset 10 = .ok (.ldc 135, 2) := by decide +kernel
theorem dX6_reset_12 : decode cX6_reset 12 = .ok (.ireturn, 1) := by decide +kernel
theorem dX6_reset_13 : decode cX6_reset 13 = .ok (.aload_n 0, 1) := by decide +kernel
theorem dX6_reset_14 : decode cX6_reset 14 = .ok (.getfield 26, 3) := by decide +kernel
theorem dX6_reset_17 : decode cX6_reset 17 = .ok (.getfield 145, 3) := by decide +kernel
theorem dX6_reset_20 : decode cX6_reset 20 = .ok (.istore_n 1, 1) := by decide +kernel
theorem dX6_reset_21 : decode cX6_reset 21 = .ok (.aload_n 0, 1) := by decide +kernel
theorem dX6_reset_22 : decode cX6_reset 22 = .ok (.getfield 40, 3) := by decide +kernel
theorem dX6_reset_25 : decode cX6_reset 25 = .ok (.iconst 2, 1) := by decide +kernel
theorem dX6_reset_26 : decode cX6_reset 26 = .ok (.iload_n 1, 1) := by decide +kernel
theorem dX6_reset_27 : decode cX6_reset 27 = .ok (.iconst 0, 1) := by decide +kernel
theorem dX6_reset_28 : decode cX6_reset 28 = .ok (.iconst 0, 1) := by decide +kernel
theorem dX6_reset_29 : decode cX6_reset 29 = .ok (.invokevirtual 148, 3) := by decide +kernel
theorem dX6_reset_32 : decode cX6_reset 32 = .ok (.aload_n 0, 1) := by decide +kernel
theorem dX6_reset_33 : decode cX6_reset 33 = .ok (.getfield 26, 3) := by decide +kernel
theorem dX6_reset_36 : decode cX6_reset 36 = .ok (.iconst 0, 1) := by decide +kernel
theorem dX6_reset_37 : decode cX6_reset 37 = .ok (.putfield 145, 3) := by decide +kernel
theorem dX6_reset_40 : decode cX6_reset 40 = .ok (.iload_n 1, 1) := by decide +kernel
theorem dX6_reset_41 : decode cX6_reset 41 = .ok (.ireturn, 1) := by decide +kernel
theorem dX6_street_0 : decode cX6_street 0 = .ok (.aload_n 0, 1) := by decide +kernel
theorem dX6_street_1 : decode cX6_street 1 = .ok (.getfield 26, 3) := by decide +kernel
theorem dX6_street_4 : decode cX6_street 4 = .ok (.iload_n 1, 1) := by decide +kernel
theorem dX6_street_5 : decode cX6_street 5 = .ok (.invokevirtual 129, 3) := by decide +kernel
theorem dX6_street_8 : decode cX6_street 8 = .ok (.ifCond .eq 12, 3) := by decide +kernel
theorem dX6_street_11 : decode cX6_street 11 = .ok (.iload_n 2, 1) := by decide +kernel
theorem dX6_street_12 : decode cX6_street 12 = .ok (.ifCond .lt 8, 3) := by decide +kernel
theorem dX6_street_15 : decode cX6_street 15 = .ok (.iload_n 2, 1) := by decide +kernel
theorem dX6_street_16 : decode cX6_street 16 = .ok (.iconst 1, 1) := by decide +kernel
theorem dX6_street_17 : decode cX6_street 17 = .ok (.if_icmp .le 6, 3) := by decide +kernel
theorem dX6_street_20 : decode cX6_street 20 = .ok (.ldc 69, 2) := by decide +kernel
theorem dX6_street_22 : decode cX6_street 22 = .ok (.ireturn, 1) := by decide +kernel
theorem dX6_street_23 : decode cX6_street 23 = .ok (.aload_n 0, 1) := by decide +kernel
theorem dX6_street_24 : decode cX6_street 24 = .ok (.getfield 26, 3) := by decide +kernel
theorem dX6_street_27 : decode cX6_street 27 = .ok (.iload_n 1, 1) := by decide +kernel
theorem dX6_street_28 : decode cX6_street 28 = .ok (.invokevirtual 167, 3) := by decide +kernel
theorem dX6_street_31 : decode cX6_street 31 = .ok (.iload_n 2, 1) := by decide +kernel
theorem dX6_street_32 : decode cX6_street 32 = .ok (.iconst 1, 1) := by decide +kernel
theorem dX6_street_33 : decode cX6_street 33 = .ok (.if_icmp .ne 7, 3) := by decide +kernel
theorem dX6_street_36 : decode cX6_street 36 = .ok (.iconst 1, 1) := by decide +kernel
theorem dX6_street_37 : decode cX6_street 37 = .ok (.goto 4, 3) := by decide +kernel
theorem dX6_street_40 : decode cX6_street 40 = .ok (.iconst 0, 1) := by decide +kernel
theorem dX6_street_41 : decode cX6_street 41 = .ok (.if_icmp .ne 6, 3) := by decide +kernel
theorem dX6_street_44 : decode cX6_street 44 = .ok (.ldc 135, 2) := by decide +kernel
theorem dX6_street_46 : decode cX6_street 46 = .ok (.ireturn, 1) := by decide +kernel
theorem dX6_street_47 : decode cX6_street 47 = .ok (.aload_n 0, 1) := by decide +kernel
theorem dX6_street_48 : decode cX6_street 48 = .ok (.getfield 40, 3) := by decide +kernel
theorem dX6_street_51 : decode cX6_street 51 = .ok (.iconst 3, 1) := by decide +kernel
theorem dX6_street_52 : decode cX6_street 52 = .ok (.iload_n 1, 1) := by decide +kernel
theorem dX6_street_53 : decode cX6_street 53 = .ok (.iconst 0, 1) := by decide +kernel
theorem dX6_street_54 : decode cX6_street 54 = .ok (.iconst 0, 1) := by decide +kernel
theorem dX6_street_55 : decode cX6_street 55 = .ok (.invokevirtual 148, 3) := by decide +kernel
theorem dX6_street_58 : decode cX6_street 58 = .ok (.aload_n 0, 1) := by decide +kernel
theorem dX6_street_59 : decode cX6_street 59 = .ok (.getfield 26, 3) := by decide +kernel
theorem dX6_street_62 : decode cX6_street 62 = .ok (.iload_n 1, 1) := by decide +kernel
theorem dX6_street_63 : decode cX6_street 63 = .ok (.invokevirtual 170, 3) := by decide +kernel
theorem dX6_street_66 : decode cX6_street 66 = .ok (.aload_n 0, 1) := by decide +kernel
theorem dX6_street_67 : decode cX6_street 67 = .ok (.getfield 26, 3) := by decide +kernel
theorem dX6_street_70 : decode cX6_street 70 = .ok (.getfield 173, 3) := by decide +kernel
theorem dX6_street_73 : decode cX6_street 73 = .ok (.ireturn, 1) := by decide +kernel
theorem dX6_undo_0 : decode cX6_undo 0 = .ok (.aload_n 0, 1) := by decide +kernel
theorem dX6_undo_1 : decode cX6_undo 1 = .ok (.getfield 40, 3) := by decide +kernel
theorem dX6_undo_4 : decode cX6_undo 4 = .ok (.getfield 176, 3) := by decide +kernel
theorem dX6_undo_7 : decode cX6_undo 7 = .ok (.ifCond .ne 6, 3) := by decide +kernel
theorem dX6_undo_10 : decode cX6_undo 10 = .ok (.ldc 135, 2) := by decide +kernel
theorem dX6_undo_12 : decode cX6_undo 12 = .ok (.ireturn, 1) := by decide +kernel
theorem dX6_undo_13 : decode cX6_undo 13 = .ok (.aload_n 0, 1) := by decide +kernel
theorem dX6_undo_14 : decode cX6_undo 14 = .ok (.getfield 40, 3) := by decide +kernel
theorem dX6_undo_17 : decode cX6_undo 17 = .ok (.aload_n 0, 1) := by decide +kernel
theorem dX6_undo_18 : decode cX6_undo 18 = .ok (.getfield 26, 3) := by decide +kernel
theorem dX6_undo_21 : decode cX6_undo 21 = .ok (.invokevirtual 179, 3) := by decide +kernel
theorem dX6_undo_24 : decode cX6_undo 24 = .ok (.aload_n 0, 1) := by decide +kernel
theorem dX6_undo_25 : decode cX6_undo 25 = .ok (.getfield 40, 3) := by decide +kernel
theorem dX6_undo_28 : decode cX6_undo 28 = .ok (.getfield 176, 3) := by decide +kernel
theorem dX6_undo_31 : decode cX6_undo 31 = .ok (.ireturn, 1) := by decide +kernel
theorem dX6_corner_0 : decode cX6_corner 0 = .ok (.aload_n 0, 1) := by decide +kernel
theorem dX6_corner_1 : decode cX6_corner 1 = .ok (.getfield 26, 3) := by decide +kernel
theorem dX6_corner_4 : decode cX6_corner 4 = .ok (.iload_n 1, 1) := by decide +kernel
theorem dX6_corner_5 : decode cX6_corner 5 = .ok (.invokevirtual 156, 3) := by decide +kernel
theorem dX6_corner_8 : decode cX6_corner 8 = .ok (.ifCond .ne 6, 3) := by decide +kernel
theorem dX6_corner_11 : decode cX6_corner 11 = .ok (.ldc 69, 2) := by decide +kernel
theorem dX6_corner_13 : decode cX6_corner 13 = .ok (.ireturn, 1) := by decide +kernel
theorem dX6_corner_14 : decode cX6_corner 14 = .ok (.iload_n 2, 1) := by decide +kernel
theorem dX6_corner_15 : decode cX6_corner 15 = .ok (.tableswitch 102 0 4 #[33, 43, 53, 66, 79], 33) := by decide +kernel
theorem dX6_corner_48 : decode cX6_corner 48 = .ok (.aload_n 0, 1) := by decide +kernel
theorem dX6_corner_49 : decode cX6_corner 49 = .ok (.getfield 26, 3) := by decide +kernel
theorem dX6_corner_52 : decode cX6_corner 52 = .ok (.getfield 159, 3) := by decide +kernel
theorem dX6_corner_55 : decode cX6_corner 55 = .ok (.iload_n 1, 1) := by decide +kernel
theorem dX6_corner_56 : decode cX6_corner 56 = .ok (.iaload, 1) := by decide +kernel
theorem dX6_corner_57 : decode cX6_corner 57 = .ok (.ireturn, 1) := by decide +kernel
theorem dX6_corner_58 : decode cX6_corner 58 = .ok (.aload_n 0, 1) := by decide +kernel
theorem dX6_corner_59 : decode cX6_corner 59 = .ok (.getfield 26, 3) := by decide +kernel
theorem dX6_corner_62 : decode cX6_corner 62 = .ok (.getfield 182, 3) := by decide +kernel
theorem dX6_corner_65 : decode cX6_corner 65 = .ok (.iload_n 1, 1) := by decide +kernel
theorem dX6_corner_66 : decode cX6_corner 66 = .ok (.iaload, 1) := by decide +kernel
theorem dX6_corner_67 : decode cX6_corner 67 = .ok (.ireturn, 1) := by decide +kernel
theorem dX6_corner_68 : decode cX6_corner 68 = .ok (.aload_n 0, 1) := by decide +kernel
theorem dX6_corner_69 : decode cX6_corner 69 = .ok (.iload_n 1, 1) := by decide +kernel
theorem dX6_corner_70 : decode cX6_corner 70 = .ok (.aload_n 0, 1) := by decide +kernel
theorem dX6_corner_71 : decode cX6_corner 71 = .ok (.getfield 26, 3) := by decide +kernel
theorem dX6_corner_74 : decode cX6_corner 74 = .ok (.getfield 185, 3) := by decide +kernel
theorem dX6_corner_77 : decode cX6_corner 77 = .ok (.invokevirtual 188, 3) := by decide +kernel
theorem dX6_corner_80 : decode cX6_corner 80 = .ok (.ireturn, 1) := by decide +kernel
theorem dX6_corner_81 : decode cX6_corner 81 = .ok (.aload_n 0, 1) := by decide +kernel
theorem dX6_corner_82 : decode cX6_corner 82 = .ok (.iload_n 1, 1) := by decide +kernel
theorem dX6_corner_83 : decode cX6_corner 83 = .ok (.aload_n 0, 1) := by decide +kernel
theorem dX6_corner_84 : decode cX6_corner 84 = .ok (.getfield 26, 3) := by decide +kernel
theorem dX6_corner_87 : decode cX6_corner 87 = .ok (.getfield 192, 3) := by decide +kernel
theorem dX6_corner_90 : decode cX6_corner 90 = .ok (.invokevirtual 188, 3) := by decide +kernel
theorem dX6_corner_93 : decode cX6_corner 93 = .ok (.ireturn, 1) := by decide +kernel
theorem dX6_corner_94 : decode cX6_corner 94 = .ok (.aload_n 0, 1) := by decide +kernel
theorem dX6_corner_95 : decode cX6_corner 95 = .ok (.getfield 26, 3) := by decide +kernel
theorem dX6_corner_98 : decode cX6_corner 98 = .ok (.iload_n 1, 1) := by decide +kernel
theorem dX6_corner_99 : decode cX6_corner 99 = .ok (.aload_n 0, 1) := by decide +kernel
theorem dX6_corner_100 : decode cX6_corner 100 = .ok (.getfield 26, 3) := by decide +kernel
theorem dX6_corner_103 : decode cX6_corner 103 = .ok (.getfield 142, 3) := by decide +kernel
theorem dX6_corner_106 : decode cX6_corner 106 = .ok (.aload_n 0, 1) := by decide +kernel
theorem dX6_corner_107 : decode cX6_corner 107 = .ok (.getfield 26, 3) := by decide +kernel
theorem dX6_corner_110 : decode cX6_corner 110 = .ok (.getfield 136, 3) := by decide +kernel
theorem dX6_corner_113 : decode cX6_corner 113 = .ok (.invokevirtual 195, 3) := by decide +kernel
theorem dX6_corner_116 : decode cX6_corner 116 = .ok (.ireturn, 1) := by decide +kernel
theorem dX6_corner_117 : decode cX6_corner 117 = .ok (.ldc 69, 2) := by decide +kernel
theorem dX6_corner_119 : decode cX6_corner 119 = .ok (.ireturn, 1) := by decide +kernel
theorem dX6_way_0 : decode cX6_way 0 = .ok (.aload_n 0, 1) := by decide +kernel
theorem dX6_way_1 : decode cX6_way 1 = .ok (.getfield 26, 3) := by decide +kernel
theorem dX6_way_4 : decode cX6_way 4 = .ok (.iload_n 1, 1) := by decide +kernel
theorem dX6_way_5 : decode cX6_way 5 = .ok (.invokevirtual 129, 3) := by decide +kernel
theorem dX6_way_8 : decode cX6_way 8 = .ok (.ifCond .ne 6, 3) := by decide +kernel
theorem dX6_way_11 : decode cX6_way 11 = .ok (.ldc 69, 2) := by decide +kernel
theorem dX6_way_13 : decode cX6_way 13 = .ok (.ireturn, 1) := by decide +kernel
theorem dX6_way_14 : decode cX6_way 14 = .ok (.iload_n 2, 1) := by decide +kernel
theorem dX6_way_15 : decode cX6_way 15 = .ok (.tableswitch 62 0 2 #[25, 35, 45], 25) := by decide +kernel
theorem dX6_way_40 : decode cX6_way 40 = .ok (.aload_n 0, 1) := by decide +kernel
theorem dX6_way_41 : decode cX6_way 41 = .ok (.getfield 26, 3) := by decide +kernel
theorem dX6_way_44 : decode cX6_way 44 = .ok (.getfield 185, 3) := by decide +kernel
theorem dX6_way_47 : decode cX6_way 47 = .ok (.iload_n 1, 1) := by decide +kernel
theorem dX6_way_48 : decode cX6_way 48 = .ok (.iaload, 1) := by decide +kernel
theorem dX6_way_49 : decode cX6_way 49 = .ok (.ireturn, 1) := by decide +kernel
theorem dX6_way_50 : decode cX6_way 50 = .ok (.aload_n 0, 1) := by decide +kernel
theorem dX6_way_51 : decode cX6_way 51 = .ok (.getfield 26, 3) := by decide +kernel
theorem dX6_way_54 : decode cX6_way 54 = .ok (.getfield 192, 3) := by decide +kernel
theorem dX6_way_57 : decode cX6_way 57 = .ok (.iload_n 1, 1) := by decide +kernel
theorem dX6_way_58 : decode cX6_way 58 = .ok (.iaload, 1) := by decide +kernel
theorem dX6_way_59 : decode cX6_way 59 = .ok (.ireturn, 1) := by decide +kernel
theorem dX6_way_60 : decode cX6_way 60 = .ok (.aload_n 0, 1) := by decide +kernel
theorem dX6_way_61 : decode cX6_way 61 = .ok (.getfield 26, 3) := by decide +kernel
theorem dX6_way_64 : decode cX6_way 64 = .ok (.iload_n 1, 1) := by decide +kernel
theorem dX6_way_65 : decode cX6_way 65 = .ok (.invokevirtual 167, 3) := by decide +kernel
theorem dX6_way_68 : decode cX6_way 68 = .ok (.ifCond .eq 7, 3) := by decide +kernel
theorem dX6_way_71 : decode cX6_way 71 = .ok (.iconst 1, 1) := by decide +kernel
theorem dX6_way_72 : decode cX6_way 72 = .ok (.goto 4, 3) := by decide +kernel
theorem dX6_way_75 : decode cX6_way 75 = .ok (.iconst 0, 1) := by decide +kernel
theorem dX6_way_76 : decode cX6_way 76 = .ok (.ireturn, 1) := by decide +kernel
theorem dX6_way_77 : decode cX6_way 77 = .ok (.ldc 69, 2) := by decide +kernel
theorem dX6_way_79 : decode cX6_way 79 = .ok (.ireturn, 1) := by decide +kernel
theorem dX6_would_0 : decode cX6_would 0 = .ok (.aload_n 0, 1) := by decide +kernel
theorem dX6_would_1 : decode cX6_would 1 = .ok (.getfield 26, 3) := by decide +kernel
theorem dX6_would_4 : decode cX6_would 4 = .ok (.iload_n 1, 1) := by decide +kernel
theorem dX6_would_5 : decode cX6_would 5 = .ok (.invokevirtual 129, 3) := by decide +kernel
theorem dX6_would_8 : decode cX6_would 8 = .ok (.ifCond .eq 12, 3) := by decide +kernel
theorem dX6_would_11 : decode cX6_would 11 = .ok (.iload_n 2, 1) := by decide +kernel
theorem dX6_would_12 : decode cX6_would 12 = .ok (.ifCond .lt 8, 3) := by decide +kernel
theorem dX6_would_15 : decode cX6_would 15 = .ok (.iload_n 2, 1) := by decide +kernel
theorem dX6_would_16 : decode cX6_would 16 = .ok (.iconst 1, 1) := by decide +kernel
theorem dX6_would_17 : decode cX6_would 17 = .ok (.if_icmp .le 6, 3) := by decide +kernel
theorem dX6_would_20 : decode cX6_would 20 = .ok (.ldc 69, 2) := by decide +kernel
theorem dX6_would_22 : decode cX6_would 22 = .ok (.ireturn, 1) := by decide +kernel
theorem dX6_would_23 : decode cX6_would 23 = .ok (.aload_n 0, 1) := by decide +kernel
theorem dX6_would_24 : decode cX6_would 24 = .ok (.getfield 26, 3) := by decide +kernel
theorem dX6_would_27 : decode cX6_would 27 = .ok (.iload_n 1, 1) := by decide +kernel
theorem dX6_would_28 : decode cX6_would 28 = .ok (.invokevirtual 132, 3) := by decide +kernel
theorem dX6_would_31 : decode cX6_would 31 = .ok (.ifCond .ne 6, 3) := by decide +kernel
theorem dX6_would_34 : decode cX6_would 34 = .ok (.ldc 198, 2) := by decide +kernel
theorem dX6_would_36 : decode cX6_would 36 = .ok (.ireturn, 1) := by decide +kernel
theorem dX6_would_37 : decode cX6_would 37 = .ok (.iload_n 2, 1) := by decide +kernel
theorem dX6_would_38 : decode cX6_would 38 = .ok (.ifCond .ne 14, 3) := by decide +kernel
theorem dX6_would_41 : decode cX6_would 41 = .ok (.aload_n 0, 1) := by decide +kernel
theorem dX6_would_42 : decode cX6_would 42 = .ok (.getfield 26, 3) := by decide +kernel
theorem dX6_would_45 : decode cX6_would 45 = .ok (.iload_n 1, 1) := by decide +kernel
theorem dX6_would_46 : decode cX6_would 46 = .ok (.invokevirtual 199, 3) := by decide +kernel
theorem dX6_would_49 : decode cX6_would 49 = .ok (.goto 11, 3) := by decide +kernel
theorem dX6_would_52 : decode cX6_would 52 = .ok (.aload_n 0, 1) := by decide +kernel
theorem dX6_would_53 : decode cX6_would 53 = .ok (.getfield 26, 3) := by decide +kernel
theorem dX6_would_56 : decode cX6_would 56 = .ok (.iload_n 1, 1) := by decide +kernel
theorem dX6_would_57 : decode cX6_would 57 = .ok (.invokevirtual 202, 3) := by decide +kernel
theorem dX6_would_60 : decode cX6_would 60 = .ok (.ireturn, 1) := by decide +kernel
theorem dX6_reach_0 : decode cX6_reach 0 = .ok (.aload_n 0, 1) := by decide +kernel
theorem dX6_reach_1 : decode cX6_reach 1 = .ok (.getfield 26, 3) := by decide +kernel
theorem dX6_reach_4 : decode cX6_reach 4 = .ok (.invokevirtual 163, 3) := by decide +kernel
theorem dX6_reach_7 : decode cX6_reach 7 = .ok (.ifCond .ne 6, 3) := by decide +kernel
theorem dX6_reach_10 : decode cX6_reach 10 = .ok (.ldc 135, 2) := by decide +kernel
theorem dX6_reach_12 : decode cX6_reach 12 = .ok (.ireturn, 1) := by decide +kernel
theorem dX6_reach_13 : decode cX6_reach 13 = .ok (.aload_n 0, 1) := by decide +kernel
theorem dX6_reach_14 : decode cX6_reach 14 = .ok (.getfield 26, 3) := by decide +kernel
theorem dX6_reach_17 : decode cX6_reach 17 = .ok (.invokevirtual 205, 3) := by decide +kernel
theorem dX6_reach_20 : decode cX6_reach 20 = .ok (.ireturn, 1) := by decide +kernel
theorem dX6_cheapest_0 : decode cX6_cheapest 0 = .ok (.aload_n 0, 1) := by decide +kernel
theorem dX6_cheapest_1 : decode cX6_cheapest 1 = .ok (.getfield 26, 3) := by decide +kernel
theorem dX6_cheapest_4 : decode cX6_cheapest 4 = .ok (.iload_n 1, 1) := by decide +kernel
theorem dX6_cheapest_5 : decode cX6_cheapest 5 = .ok (.invokevirtual 156, 3) := by decide +kernel
theorem dX6_cheapest_8 : decode cX6_cheapest 8 = .ok (.ifCond .eq 15, 3) := by decide +kernel
theorem dX6_cheapest_11 : decode cX6_cheapest 11 = .ok (.iload_n 2, 1) := by decide +kernel
theorem dX6_cheapest_12 : decode cX6_cheapest 12 = .ok (.bipush (-2), 2) := by decide +kernel
theorem dX6_cheapest_14 : decode cX6_cheapest 14 = .ok (.if_icmp .lt 9, 3) := by decide +kernel
theorem dX6_cheapest_17 : decode cX6_cheapest 17 = .ok (.iload_n 2, 1) := by decide +kernel
theorem dX6_cheapest_18 : decode cX6_cheapest 18 = .ok (.bipush 8, 2) := by decide +kernel
theorem dX6_cheapest_20 : decode cX6_cheapest 20 = .ok (.if_icmp .lt 6, 3) := by decide +kernel
theorem dX6_cheapest_23 : decode cX6_cheapest 23 = .ok (.ldc 69, 2) := by decide +kernel
theorem dX6_cheapest_25 : decode cX6_cheapest 25 = .ok (.ireturn, 1) := by decide +kernel
theorem dX6_cheapest_26 : decode cX6_cheapest 26 = .ok (.aload_n 0, 1) := by decide +kernel
theorem dX6_cheapest_27 : decode cX6_cheapest 27 = .ok (.getfield 47, 3) := by decide +kernel
theorem dX6_cheapest_30 : decode cX6_cheapest 30 = .ok (.aload_n 0, 1) := by decide +kernel
theorem dX6_cheapest_31 : decode cX6_cheapest 31 = .ok (.getfield 26, 3) := by decide +kernel
theorem dX6_cheapest_34 : decode cX6_cheapest 34 = .ok (.iconst 0, 1) := by decide +kernel
theorem dX6_cheapest_35 : decode cX6_cheapest 35 = .ok (.iload_n 1, 1) := by decide +kernel
theorem dX6_cheapest_36 : decode cX6_cheapest 36 = .ok (.bipush 8, 2) := by decide +kernel
theorem dX6_cheapest_38 : decode cX6_cheapest 38 = .ok (.invokevirtual 209, 3) := by decide +kernel
theorem dX6_cheapest_41 : decode cX6_cheapest 41 = .ok (.aload_n 0, 1) := by decide +kernel
theorem dX6_cheapest_42 : decode cX6_cheapest 42 = .ok (.getfield 47, 3) := by decide +kernel
theorem dX6_cheapest_45 : decode cX6_cheapest 45 = .ok (.getfield 213, 3) := by decide +kernel
theorem dX6_cheapest_48 : decode cX6_cheapest 48 = .ok (.ifCond .ge 6, 3) := by decide +kernel
theorem dX6_cheapest_51 : decode cX6_cheapest 51 = .ok (.ldc 198, 2) := by decide +kernel
theorem dX6_cheapest_53 : decode cX6_cheapest 53 = .ok (.ireturn, 1) := by decide +kernel
theorem dX6_cheapest_54 : decode cX6_cheapest 54 = .ok (.iload_n 2, 1) := by decide +kernel
theorem dX6_cheapest_55 : decode cX6_cheapest 55 = .ok (.iconst (-1), 1) := by decide +kernel
theorem dX6_cheapest_56 : decode cX6_cheapest 56 = .ok (.if_icmp .ne 11, 3) := by decide +kernel
theorem dX6_cheapest_59 : decode cX6_cheapest 59 = .ok (.aload_n 0, 1) := by decide +kernel
theorem dX6_cheapest_60 : decode cX6_cheapest 60 = .ok (.getfield 47, 3) := by decide +kernel
theorem dX6_cheapest_63 : decode cX6_cheapest 63 = .ok (.getfield 214, 3) := by decide +kernel
theorem dX6_cheapest_66 : decode cX6_cheapest 66 = .ok (.ireturn, 1) := by decide +kernel
theorem dX6_cheapest_67 : decode cX6_cheapest 67 = .ok (.iload_n 2, 1) := by decide +kernel
theorem dX6_cheapest_68 : decode cX6_cheapest 68 = .ok (.bipush (-2), 2) := by decide +kernel
theorem dX6_cheapest_70 : decode cX6_cheapest 70 = .ok (.if_icmp .ne 13, 3) := by decide +kernel
theorem dX6_cheapest_73 : decode cX6_cheapest 73 = .ok (.aload_n 0, 1) := by decide +kernel
theorem dX6_cheapest_74 : decode cX6_cheapest 74 = .ok (.getfield 47, 3) := by decide +kernel
theorem dX6_cheapest_77 : decode cX6_cheapest 77 = .ok (.getfield 213, 3) := by decide +kernel
theorem dX6_cheapest_80 : decode cX6_cheapest 80 = .ok (.goto 11, 3) := by decide +kernel
theorem dX6_cheapest_83 : decode cX6_cheapest 83 = .ok (.aload_n 0, 1) := by decide +kernel
theorem dX6_cheapest_84 : decode cX6_cheapest 84 = .ok (.getfield 47, 3) := by decide +kernel
theorem dX6_cheapest_87 : decode cX6_cheapest 87 = .ok (.iload_n 2, 1) := by decide +kernel
theorem dX6_cheapest_88 : decode cX6_cheapest 88 = .ok (.invokevirtual 217, 3) := by decide +kernel
theorem dX6_cheapest_91 : decode cX6_cheapest 91 = .ok (.ireturn, 1) := by decide +kernel
theorem dX6_dearest_0 : decode cX6_dearest 0 = .ok (.aload_n 0, 1) := by decide +kernel
theorem dX6_dearest_1 : decode cX6_dearest 1 = .ok (.getfield 26, 3) := by decide +kernel
theorem dX6_dearest_4 : decode cX6_dearest 4 = .ok (.invokevirtual 163, 3) := by decide +kernel
theorem dX6_dearest_7 : decode cX6_dearest 7 = .ok (.ifCond .ne 6, 3) := by decide +kernel
theorem dX6_dearest_10 : decode cX6_dearest 10 = .ok (.ldc 135, 2) := by decide +kernel
theorem dX6_dearest_12 : decode cX6_dearest 12 = .ok (.ireturn, 1) := by decide +kernel
theorem dX6_dearest_13 : decode cX6_dearest 13 = .ok (.iload_n 1, 1) := by decide +kernel
theorem dX6_dearest_14 : decode cX6_dearest 14 = .ok (.ifCond .lt 21, 3) := by decide +kernel
theorem dX6_dearest_17 : decode cX6_dearest 17 = .ok (.iload_n 1, 1) := by decide +kernel
theorem dX6_dearest_18 : decode cX6_dearest 18 = .ok (.bipush 8, 2) := by decide +kernel
theorem dX6_dearest_20 : decode cX6_dearest 20 = .ok (.if_icmp .gt 15, 3) := by decide +kernel
theorem dX6_dearest_23 : decode cX6_dearest 23 = .ok (.iload_n 2, 1) := by decide +kernel
theorem dX6_dearest_24 : decode cX6_dearest 24 = .ok (.bipush (-2), 2) := by decide +kernel
theorem dX6_dearest_26 : decode cX6_dearest 26 = .ok (.if_icmp .lt 9, 3) := by decide +kernel
theorem dX6_dearest_29 : decode cX6_dearest 29 = .ok (.iload_n 2, 1) := by decide +kernel
theorem dX6_dearest_30 : decode cX6_dearest 30 = .ok (.bipush 8, 2) := by decide +kernel
theorem dX6_dearest_32 : decode cX6_dearest 32 = .ok (.if_icmp .lt 6, 3) := by decide +kernel
theorem dX6_dearest_35 : decode cX6_dearest 35 = .ok (.ldc 69, 2) := by decide +kernel
theorem dX6_dearest_37 : decode cX6_dearest 37 = .ok (.ireturn, 1) := by decide +kernel
theorem dX6_dearest_38 : decode cX6_dearest 38 = .ok (.aload_n 0, 1) := by decide +kernel
theorem dX6_dearest_39 : decode cX6_dearest 39 = .ok (.getfield 47, 3) := by decide +kernel
theorem dX6_dearest_42 : decode cX6_dearest 42 = .ok (.aload_n 0, 1) := by decide +kernel
theorem dX6_dearest_43 : decode cX6_dearest 43 = .ok (.getfield 26, 3) := by decide +kernel
theorem dX6_dearest_46 : decode cX6_dearest 46 = .ok (.iconst 1, 1) := by decide +kernel
theorem dX6_dearest_47 : decode cX6_dearest 47 = .ok (.iconst 0, 1) := by decide +kernel
theorem dX6_dearest_48 : decode cX6_dearest 48 = .ok (.iload_n 1, 1) := by decide +kernel
theorem dX6_dearest_49 : decode cX6_dearest 49 = .ok (.invokevirtual 209, 3) := by decide +kernel
theorem dX6_dearest_52 : decode cX6_dearest 52 = .ok (.aload_n 0, 1) := by decide +kernel
theorem dX6_dearest_53 : decode cX6_dearest 53 = .ok (.getfield 47, 3) := by decide +kernel
theorem dX6_dearest_56 : decode cX6_dearest 56 = .ok (.getfield 213, 3) := by decide +kernel
theorem dX6_dearest_59 : decode cX6_dearest 59 = .ok (.ifCond .ge 6, 3) := by decide +kernel
theorem dX6_dearest_62 : decode cX6_dearest 62 = .ok (.ldc 198, 2) := by decide +kernel
theorem dX6_dearest_64 : decode cX6_dearest 64 = .ok (.ireturn, 1) := by decide +kernel
theorem dX6_dearest_65 : decode cX6_dearest 65 = .ok (.iload_n 2, 1) := by decide +kernel
theorem dX6_dearest_66 : decode cX6_dearest 66 = .ok (.iconst (-1), 1) := by decide +kernel
theorem dX6_dearest_67 : decode cX6_dearest 67 = .ok (.if_icmp .ne 11, 3) := by decide +kernel
theorem dX6_dearest_70 : decode cX6_dearest 70 = .ok (.aload_n 0, 1) := by decide +kernel
theorem dX6_dearest_71 : decode cX6_dearest 71 = .ok (.getfield 47, 3) := by decide +kernel
theorem dX6_dearest_74 : decode cX6_dearest 74 = .ok (.getfield 214, 3) := by decide +kernel
theorem dX6_dearest_77 : decode cX6_dearest 77 = .ok (.ireturn, 1) := by decide +kernel
theorem dX6_dearest_78 : decode cX6_dearest 78 = .ok (.iload_n 2, 1) := by decide +kernel
theorem dX6_dearest_79 : decode cX6_dearest 79 = .ok (.bipush (-2), 2) := by decide +kernel
theorem dX6_dearest_81 : decode cX6_dearest 81 = .ok (.if_icmp .ne 13, 3) := by decide +kernel
theorem dX6_dearest_84 : decode cX6_dearest 84 = .ok (.aload_n 0, 1) := by decide +kernel
theorem dX6_dearest_85 : decode cX6_dearest 85 = .ok (.getfield 47, 3) := by decide +kernel
theorem dX6_dearest_88 : decode cX6_dearest 88 = .ok (.getfield 220, 3) := by decide +kernel
theorem dX6_dearest_91 : decode cX6_dearest 91 = .ok (.goto 11, 3) := by decide +kernel
theorem dX6_dearest_94 : decode cX6_dearest 94 = .ok (.aload_n 0, 1) := by decide +kernel
theorem dX6_dearest_95 : decode cX6_dearest 95 = .ok (.getfield 47, 3) := by decide +kernel
theorem dX6_dearest_98 : decode cX6_dearest 98 = .ok (.iload_n 2, 1) := by decide +kernel
theorem dX6_dearest_99 : decode cX6_dearest 99 = .ok (.invokevirtual 217, 3) := by decide +kernel
theorem dX6_dearest_102 : decode cX6_dearest 102 = .ok (.ireturn, 1) := by decide +kernel
theorem dX6_moods_0 : decode cX6_moods 0 = .ok (.aload_n 0, 1) := by decide +kernel
theorem dX6_moods_1 : decode cX6_moods 1 = .ok (.getfield 26, 3) := by decide +kernel
theorem dX6_moods_4 : decode cX6_moods 4 = .ok (.iload_n 1, 1) := by decide +kernel
theorem dX6_moods_5 : decode cX6_moods 5 = .ok (.invokevirtual 156, 3) := by decide +kernel
theorem dX6_moods_8 : decode cX6_moods 8 = .ok (.ifCond .eq 13, 3) := by decide +kernel
theorem dX6_moods_11 : decode cX6_moods 11 = .ok (.iload_n 2, 1) := by decide +kernel
theorem dX6_moods_12 : decode cX6_moods 12 = .ok (.ifCond .lt 9, 3) := by decide +kernel
theorem dX6_moods_15 : decode cX6_moods 15 = .ok (.iload_n 2, 1) := by decide +kernel
theorem dX6_moods_16 : decode cX6_moods 16 = .ok (.bipush 8, 2) := by decide +kernel
theorem dX6_moods_18 : decode cX6_moods 18 = .ok (.if_icmp .le 6, 3) := by decide +kernel
theorem dX6_moods_21 : decode cX6_moods 21 = .ok (.ldc 69, 2) := by decide +kernel
theorem dX6_moods_23 : decode cX6_moods 23 = .ok (.ireturn, 1) := by decide +kernel
theorem dX6_moods_24 : decode cX6_moods 24 = .ok (.aload_n 0, 1) := by decide +kernel
theorem dX6_moods_25 : decode cX6_moods 25 = .ok (.getfield 47, 3) := by decide +kernel
theorem dX6_moods_28 : decode cX6_moods 28 = .ok (.aload_n 0, 1) := by decide +kernel
theorem dX6_moods_29 : decode cX6_moods 29 = .ok (.getfield 26, 3) := by decide +kernel
theorem dX6_moods_32 : decode cX6_moods 32 = .ok (.iconst 2, 1) := by decide +kernel
theorem dX6_moods_33 : decode cX6_moods 33 = .ok (.iload_n 1, 1) := by decide +kernel
theorem dX6_moods_34 : decode cX6_moods 34 = .ok (.iload_n 2, 1) := by decide +kernel
theorem dX6_moods_35 : decode cX6_moods 35 = .ok (.invokevirtual 209, 3) := by decide +kernel
theorem dX6_moods_38 : decode cX6_moods 38 = .ok (.aload_n 0, 1) := by decide +kernel
theorem dX6_moods_39 : decode cX6_moods 39 = .ok (.getfield 47, 3) := by decide +kernel
theorem dX6_moods_42 : decode cX6_moods 42 = .ok (.getfield 223, 3) := by decide +kernel
theorem dX6_moods_45 : decode cX6_moods 45 = .ok (.ireturn, 1) := by decide +kernel
theorem dX6_gets_0 : decode cX6_gets 0 = .ok (.aload_n 0, 1) := by decide +kernel
theorem dX6_gets_1 : decode cX6_gets 1 = .ok (.getfield 26, 3) := by decide +kernel
theorem dX6_gets_4 : decode cX6_gets 4 = .ok (.invokevirtual 163, 3) := by decide +kernel
theorem dX6_gets_7 : decode cX6_gets 7 = .ok (.ifCond .ne 6, 3) := by decide +kernel
theorem dX6_gets_10 : decode cX6_gets 10 = .ok (.ldc 135, 2) := by decide +kernel
theorem dX6_gets_12 : decode cX6_gets 12 = .ok (.ireturn, 1) := by decide +kernel
theorem dX6_gets_13 : decode cX6_gets 13 = .ok (.iload_n 1, 1) := by decide +kernel
theorem dX6_gets_14 : decode cX6_gets 14 = .ok (.ifCond .lt 20, 3) := by decide +kernel
theorem dX6_gets_17 : decode cX6_gets 17 = .ok (.iload_n 1, 1) := by decide +kernel
theorem dX6_gets_18 : decode cX6_gets 18 = .ok (.bipush 9, 2) := by decide +kernel
theorem dX6_gets_20 : decode cX6_gets 20 = .ok (.if_icmp .gt 14, 3) := by decide +kernel
theorem dX6_gets_23 : decode cX6_gets 23 = .ok (.iload_n 2, 1) := by decide +kernel
theorem dX6_gets_24 : decode cX6_gets 24 = .ok (.iconst (-1), 1) := by decide +kernel
theorem dX6_gets_25 : decode cX6_gets 25 = .ok (.if_icmp .lt 9, 3) := by decide +kernel
theorem dX6_gets_28 : decode cX6_gets 28 = .ok (.iload_n 2, 1) := by decide +kernel
theorem dX6_gets_29 : decode cX6_gets 29 = .ok (.bipush 8, 2) := by decide +kernel
theorem dX6_gets_31 : decode cX6_gets 31 = .ok (.if_icmp .lt 6, 3) := by decide +kernel
theorem dX6_gets_34 : decode cX6_gets 34 = .ok (.ldc 69, 2) := by decide +kernel
theorem dX6_gets_36 : decode cX6_gets 36 = .ok (.ireturn, 1) := by decide +kernel
theorem dX6_gets_37 : decode cX6_gets 37 = .ok (.aload_n 0, 1) := by decide +kernel
theorem dX6_gets_38 : decode cX6_gets 38 = .ok (.getfield 47, 3) := by decide +kernel
theorem dX6_gets_41 : decode cX6_gets 41 = .ok (.aload_n 0, 1) := by decide +kernel
theorem dX6_gets_42 : decode cX6_gets 42 = .ok (.getfield 26, 3) := by decide +kernel
theorem dX6_gets_45 : decode cX6_gets 45 = .ok (.iconst 3, 1) := by decide +kernel
theorem dX6_gets_46 : decode cX6_gets 46 = .ok (.iload_n 1, 1) := by decide +kernel
theorem dX6_gets_47 : decode cX6_gets 47 = .ok (.bipush 8, 2) := by decide +kernel
theorem dX6_gets_49 : decode cX6_gets 49 = .ok (.invokevirtual 209, 3) := by decide +kernel
theorem dX6_gets_52 : decode cX6_gets 52 = .ok (.aload_n 0, 1) := by decide +kernel
theorem dX6_gets_53 : decode cX6_gets 53 = .ok (.getfield 47, 3) := by decide +kernel
theorem dX6_gets_56 : decode cX6_gets 56 = .ok (.getfield 213, 3) := by decide +kernel
theorem dX6_gets_59 : decode cX6_gets 59 = .ok (.ifCond .ge 6, 3) := by decide +kernel
theorem dX6_gets_62 : decode cX6_gets 62 = .ok (.ldc 198, 2) := by decide +kernel
theorem dX6_gets_64 : decode cX6_gets 64 = .ok (.ireturn, 1) := by decide +kernel
theorem dX6_gets_65 : decode cX6_gets 65 = .ok (.iload_n 2, 1) := by decide +kernel
theorem dX6_gets_66 : decode cX6_gets 66 = .ok (.iconst (-1), 1) := by decide +kernel
theorem dX6_gets_67 : decode cX6_gets 67 = .ok (.if_icmp .ne 13, 3) := by decide +kernel
theorem dX6_gets_70 : decode cX6_gets 70 = .ok (.aload_n 0, 1) := by decide +kernel
theorem dX6_gets_71 : decode cX6_gets 71 = .ok (.getfield 47, 3) := by decide +kernel
theorem dX6_gets_74 : decode cX6_gets 74 = .ok (.getfield 213, 3) := by decide +kernel
theorem dX6_gets_77 : decode cX6_gets 77 = .ok (.goto 11, 3) := by decide +kernel
theorem dX6_gets_80 : decode cX6_gets 80 = .ok (.aload_n 0, 1) := by decide +kernel
theorem dX6_gets_81 : decode cX6_gets 81 = .ok (.getfield 47, 3) := by decide +kernel
theorem dX6_gets_84 : decode cX6_gets 84 = .ok (.iload_n 2, 1) := by decide +kernel
theorem dX6_gets_85 : decode cX6_gets 85 = .ok (.invokevirtual 217, 3) := by decide +kernel
theorem dX6_gets_88 : decode cX6_gets 88 = .ok (.ireturn, 1) := by decide +kernel
theorem dX6_fits_0 : decode cX6_fits 0 = .ok (.aload_n 0, 1) := by decide +kernel
theorem dX6_fits_1 : decode cX6_fits 1 = .ok (.getfield 26, 3) := by decide +kernel
theorem dX6_fits_4 : decode cX6_fits 4 = .ok (.invokevirtual 163, 3) := by decide +kernel
theorem dX6_fits_7 : decode cX6_fits 7 = .ok (.ifCond .ne 6, 3) := by decide +kernel
theorem dX6_fits_10 : decode cX6_fits 10 = .ok (.ldc 135, 2) := by decide +kernel
theorem dX6_fits_12 : decode cX6_fits 12 = .ok (.ireturn, 1) := by decide +kernel
theorem dX6_fits_13 : decode cX6_fits 13 = .ok (.iload_n 1, 1) := by decide +kernel
theorem dX6_fits_14 : decode cX6_fits 14 = .ok (.iload_n 3, 1) := by decide +kernel
theorem dX6_fits_15 : decode cX6_fits 15 = .ok (.iload 5, 2) := by decide +kernel
theorem dX6_fits_17 : decode cX6_fits 17 = .ok (.iload 6, 2) := by decide +kernel
theorem dX6_fits_19 : decode cX6_fits 19 = .ok (.invokestatic 226, 3) := by decide +kernel
theorem dX6_fits_22 : decode cX6_fits 22 = .ok (.ifCond .ne 6, 3) := by decide +kernel
theorem dX6_fits_25 : decode cX6_fits 25 = .ok (.ldc 69, 2) := by decide +kernel
theorem dX6_fits_27 : decode cX6_fits 27 = .ok (.ireturn, 1) := by decide +kernel
theorem dX6_fits_28 : decode cX6_fits 28 = .ok (.aload_n 0, 1) := by decide +kernel
theorem dX6_fits_29 : decode cX6_fits 29 = .ok (.iload_n 1, 1) := by decide +kernel
theorem dX6_fits_30 : decode cX6_fits 30 = .ok (.iload_n 2, 1) := by decide +kernel
theorem dX6_fits_31 : decode cX6_fits 31 = .ok (.iload_n 3, 1) := by decide +kernel
theorem dX6_fits_32 : decode cX6_fits 32 = .ok (.iload 4, 2) := by decide +kernel
theorem dX6_fits_34 : decode cX6_fits 34 = .ok (.iload 5, 2) := by decide +kernel
theorem dX6_fits_36 : decode cX6_fits 36 = .ok (.invokevirtual 230, 3) := by decide +kernel
theorem dX6_fits_39 : decode cX6_fits 39 = .ok (.istore 7, 2) := by decide +kernel
theorem dX6_fits_41 : decode cX6_fits 41 = .ok (.iload 7, 2) := by decide +kernel
theorem dX6_fits_43 : decode cX6_fits 43 = .ok (.ifCond .eq 10, 3) := by decide +kernel
theorem dX6_fits_46 : decode cX6_fits 46 = .ok (.aload_n 0, 1) := by decide +kernel
theorem dX6_fits_47 : decode cX6_fits 47 = .ok (.iload 7, 2) := by decide +kernel
theorem dX6_fits_49 : decode cX6_fits 49 = .ok (.invokevirtual 70, 3) := by decide +kernel
theorem dX6_fits_52 : decode cX6_fits 52 = .ok (.ireturn, 1) := by decide +kernel
theorem dX6_fits_53 : decode cX6_fits 53 = .ok (.iconst 0, 1) := by decide +kernel
theorem dX6_fits_54 : decode cX6_fits 54 = .ok (.istore 8, 2) := by decide +kernel
theorem dX6_fits_56 : decode cX6_fits 56 = .ok (.iload 6, 2) := by decide +kernel
theorem dX6_fits_58 : decode cX6_fits 58 = .ok (.ifCond .ne 7, 3) := by decide +kernel
theorem dX6_fits_61 : decode cX6_fits 61 = .ok (.iconst 0, 1) := by decide +kernel
theorem dX6_fits_62 : decode cX6_fits 62 = .ok (.goto 4, 3) := by decide +kernel
theorem dX6_fits_65 : decode cX6_fits 65 = .ok (.iconst 1, 1) := by decide +kernel
theorem dX6_fits_66 : decode cX6_fits 66 = .ok (.istore 9, 2) := by decide +kernel
theorem dX6_fits_68 : decode cX6_fits 68 = .ok (.iload 6, 2) := by decide +kernel
theorem dX6_fits_70 : decode cX6_fits 70 = .ok (.ifCond .ne 8, 3) := by decide +kernel
theorem dX6_fits_73 : decode cX6_fits 73 = .ok (.bipush 9, 2) := by decide +kernel
theorem dX6_fits_75 : decode cX6_fits 75 = .ok (.goto 5, 3) := by decide +kernel
theorem dX6_fits_78 : decode cX6_fits 78 = .ok (.bipush 9, 2) := by decide +kernel
theorem dX6_fits_80 : decode cX6_fits 80 = .ok (.istore 10, 2) := by decide +kernel
theorem dX6_fits_82 : decode cX6_fits 82 = .ok (.iload 9, 2) := by decide +kernel
theorem dX6_fits_84 : decode cX6_fits 84 = .ok (.istore 11, 2) := by decide +kernel
theorem dX6_fits_86 : decode cX6_fits 86 = .ok (.iload 11, 2) := by decide +kernel
theorem dX6_fits_88 : decode cX6_fits 88 = .ok (.iload 10, 2) := by decide +kernel
theorem dX6_fits_90 : decode cX6_fits 90 = .ok (.if_icmp .gt 69, 3) := by decide +kernel
theorem dX6_fits_93 : decode cX6_fits 93 = .ok (.aload_n 0, 1) := by decide +kernel
theorem dX6_fits_94 : decode cX6_fits 94 = .ok (.getfield 30, 3) := by decide +kernel
theorem dX6_fits_97 : decode cX6_fits 97 = .ok (.aload_n 0, 1) := by decide +kernel
theorem dX6_fits_98 : decode cX6_fits 98 = .ok (.getfield 26, 3) := by decide +kernel
theorem dX6_fits_101 : decode cX6_fits 101 = .ok (.invokevirtual 119, 3) := by decide +kernel
theorem dX6_fits_104 : decode cX6_fits 104 = .ok (.iload 6, 2) := by decide +kernel
theorem dX6_fits_106 : decode cX6_fits 106 = .ok (.ifCond .ne 15, 3) := by decide +kernel
theorem dX6_fits_109 : decode cX6_fits 109 = .ok (.aload_n 0, 1) := by decide +kernel
theorem dX6_fits_110 : decode cX6_fits 110 = .ok (.getfield 30, 3) := by decide +kernel
theorem dX6_fits_113 : decode cX6_fits 113 = .ok (.iload 11, 2) := by decide +kernel
theorem dX6_fits_115 : decode cX6_fits 115 = .ok (.putfield 142, 3) := by decide +kernel
theorem dX6_fits_118 : decode cX6_fits 118 = .ok (.goto 12, 3) := by decide +kernel
theorem dX6_fits_121 : decode cX6_fits 121 = .ok (.aload_n 0, 1) := by decide +kernel
theorem dX6_fits_122 : decode cX6_fits 122 = .ok (.getfield 30, 3) := by decide +kernel
theorem dX6_fits_125 : decode cX6_fits 125 = .ok (.iload 11, 2) := by decide +kernel
theorem dX6_fits_127 : decode cX6_fits 127 = .ok (.putfield 233, 3) := by decide +kernel
theorem dX6_fits_130 : decode cX6_fits 130 = .ok (.aload_n 0, 1) := by decide +kernel
theorem dX6_fits_131 : decode cX6_fits 131 = .ok (.iload_n 1, 1) := by decide +kernel
theorem dX6_fits_132 : decode cX6_fits 132 = .ok (.iload_n 2, 1) := by decide +kernel
theorem dX6_fits_133 : decode cX6_fits 133 = .ok (.iload_n 3, 1) := by decide +kernel
theorem dX6_fits_134 : decode cX6_fits 134 = .ok (.iload 4, 2) := by decide +kernel
theorem dX6_fits_136 : decode cX6_fits 136 = .ok (.iload 5, 2) := by decide +kernel
theorem dX6_fits_138 : decode cX6_fits 138 = .ok (.invokevirtual 236, 3) := by decide +kernel
theorem dX6_fits_141 : decode cX6_fits 141 = .ok (.ifCond .eq 12, 3) := by decide +kernel
theorem dX6_fits_144 : decode cX6_fits 144 = .ok (.iload 8, 2) := by decide +kernel
theorem dX6_fits_146 : decode cX6_fits 146 = .ok (.iconst 1, 1) := by decide +kernel
theorem dX6_fits_147 : decode cX6_fits 147 = .ok (.iload 11, 2) := by decide +kernel
theorem dX6_fits_149 : decode cX6_fits 149 = .ok (.ishl, 1) := by decide +kernel
theorem dX6_fits_150 : decode cX6_fits 150 = .ok (.ior, 1) := by decide +kernel
theorem dX6_fits_151 : decode cX6_fits 151 = .ok (.istore 8, 2) := by decide +kernel
theorem dX6_fits_153 : decode cX6_fits 153 = .ok (.iinc 11 1, 3) := by decide +kernel
theorem dX6_fits_156 : decode cX6_fits 156 = .ok (.goto (-70), 3) := by decide +kernel
theorem dX6_fits_159 : decode cX6_fits 159 = .ok (.aload_n 0, 1) := by decide +kernel
theorem dX6_fits_160 : decode cX6_fits 160 = .ok (.iload 8, 2) := by decide +kernel
theorem dX6_fits_162 : decode cX6_fits 162 = .ok (.invokevirtual 78, 3) := by decide +kernel
theorem dX6_fits_165 : decode cX6_fits 165 = .ok (.ireturn, 1) := by decide +kernel
theorem dX6_fitsOf_0 : decode cX6_fitsOf 0 = .ok (.aload_n 0, 1) := by decide +kernel
theorem dX6_fitsOf_1 : decode cX6_fitsOf 1 = .ok (.getfield 26, 3) := by decide +kernel
theorem dX6_fitsOf_4 : decode cX6_fitsOf 4 = .ok (.iload_n 1, 1) := by decide +kernel
theorem dX6_fitsOf_5 : decode cX6_fitsOf 5 = .ok (.invokevirtual 156, 3) := by decide +kernel
theorem dX6_fitsOf_8 : decode cX6_fitsOf 8 = .ok (.ifCond .eq 16, 3) := by decide +kernel
theorem dX6_fitsOf_11 : decode cX6_fitsOf 11 = .ok (.iload_n 2, 1) := by decide +kernel
theorem dX6_fitsOf_12 : decode cX6_fitsOf 12 = .ok (.iload 4, 2) := by decide +kernel
theorem dX6_fitsOf_14 : decode cX6_fitsOf 14 = .ok (.iload 6, 2) := by decide +kernel
theorem dX6_fitsOf_16 : decode cX6_fitsOf 16 = .ok (.iload 7, 2) := by decide +kernel
theorem dX6_fitsOf_18 : decode cX6_fitsOf 18 = .ok (.invokestatic 226, 3) := by decide +kernel
theorem dX6_fitsOf_21 : decode cX6_fitsOf 21 = .ok (.ifCond .ne 6, 3) := by decide +kernel
theorem dX6_fitsOf_24 : decode cX6_fitsOf 24 = .ok (.ldc 69, 2) := by decide +kernel
theorem dX6_fitsOf_26 : decode cX6_fitsOf 26 = .ok (.ireturn, 1) := by decide +kernel
theorem dX6_fitsOf_27 : decode cX6_fitsOf 27 = .ok (.aload_n 0, 1) := by decide +kernel
theorem dX6_fitsOf_28 : decode cX6_fitsOf 28 = .ok (.iload_n 2, 1) := by decide +kernel
theorem dX6_fitsOf_29 : decode cX6_fitsOf 29 = .ok (.iload_n 3, 1) := by decide +kernel
theorem dX6_fitsOf_30 : decode cX6_fitsOf 30 = .ok (.iload 4, 2) := by decide +kernel
theorem dX6_fitsOf_32 : decode cX6_fitsOf 32 = .ok (.iload 5, 2) := by decide +kernel
theorem dX6_fitsOf_34 : decode cX6_fitsOf 34 = .ok (.iload 6, 2) := by decide +kernel
theorem dX6_fitsOf_36 : decode cX6_fitsOf 36 = .ok (.invokevirtual 230, 3) := by decide +kernel
theorem dX6_fitsOf_39 : decode cX6_fitsOf 39 = .ok (.istore 8, 2) := by decide +kernel
theorem dX6_fitsOf_41 : decode cX6_fitsOf 41 = .ok (.iload 8, 2) := by decide +kernel
theorem dX6_fitsOf_43 : decode cX6_fitsOf 43 = .ok (.ifCond .eq 10, 3) := by decide +kernel
theorem dX6_fitsOf_46 : decode cX6_fitsOf 46 = .ok (.aload_n 0, 1) := by decide +kernel
theorem dX6_fitsOf_47 : decode cX6_fitsOf 47 = .ok (.iload 8, 2) := by decide +kernel
theorem dX6_fitsOf_49 : decode cX6_fitsOf 49 = .ok (.invokevirtual 70, 3) := by decide +kernel
theorem dX6_fitsOf_52 : decode cX6_fitsOf 52 = .ok (.ireturn, 1) := by decide +kernel
theorem dX6_fitsOf_53 : decode cX6_fitsOf 53 = .ok (.iconst 0, 1) := by decide +kernel
theorem dX6_fitsOf_54 : decode cX6_fitsOf 54 = .ok (.istore 9, 2) := by decide +kernel
theorem dX6_fitsOf_56 : decode cX6_fitsOf 56 = .ok (.iload 7, 2) := by decide +kernel
theorem dX6_fitsOf_58 : decode cX6_fitsOf 58 = .ok (.ifCond .ne 7, 3) := by decide +kernel
theorem dX6_fitsOf_61 : decode cX6_fitsOf 61 = .ok (.iconst 1, 1) := by decide +kernel
theorem dX6_fitsOf_62 : decode cX6_fitsOf 62 = .ok (.goto 4, 3) := by decide +kernel
theorem dX6_fitsOf_65 : decode cX6_fitsOf 65 = .ok (.iconst 0, 1) := by decide +kernel
theorem dX6_fitsOf_66 : decode cX6_fitsOf 66 = .ok (.istore 10, 2) := by decide +kernel
theorem dX6_fitsOf_68 : decode cX6_fitsOf 68 = .ok (.iload 7, 2) := by decide +kernel
theorem dX6_fitsOf_70 : decode cX6_fitsOf 70 = .ok (.ifCond .ne 7, 3) := by decide +kernel
theorem dX6_fitsOf_73 : decode cX6_fitsOf 73 = .ok (.iconst 5, 1) := by decide +kernel
theorem dX6_fitsOf_74 : decode cX6_fitsOf 74 = .ok (.goto 5, 3) := by decide +kernel
theorem dX6_fitsOf_77 : decode cX6_fitsOf 77 = .ok (.bipush 9, 2) := by decide +kernel
theorem dX6_fitsOf_79 : decode cX6_fitsOf 79 = .ok (.istore 11, 2) := by decide +kernel
theorem dX6_fitsOf_81 : decode cX6_fitsOf 81 = .ok (.iload 10, 2) := by decide +kernel
theorem dX6_fitsOf_83 : decode cX6_fitsOf 83 = .ok (.istore 12, 2) := by decide +kernel
theorem dX6_fitsOf_85 : decode cX6_fitsOf 85 = .ok (.iload 12, 2) := by decide +kernel
theorem dX6_fitsOf_87 : decode cX6_fitsOf 87 = .ok (.iload 11, 2) := by decide +kernel
theorem dX6_fitsOf_89 : decode cX6_fitsOf 89 = .ok (.if_icmp .gt 74, 3) := by decide +kernel
theorem dX6_fitsOf_92 : decode cX6_fitsOf 92 = .ok (.aload_n 0, 1) := by decide +kernel
theorem dX6_fitsOf_93 : decode cX6_fitsOf 93 = .ok (.getfield 30, 3) := by decide +kernel
theorem dX6_fitsOf_96 : decode cX6_fitsOf 96 = .ok (.aload_n 0, 1) := by decide +kernel
theorem dX6_fitsOf_97 : decode cX6_fitsOf 97 = .ok (.getfield 26, 3) := by decide +kernel
theorem dX6_fitsOf_100 : decode cX6_fitsOf 100 = .ok (.invokevirtual 119, 3) := by decide +kernel
theorem dX6_fitsOf_103 : decode cX6_fitsOf 103 = .ok (.iload 7, 2) := by decide +kernel
theorem dX6_fitsOf_105 : decode cX6_fitsOf 105 = .ok (.ifCond .ne 17, 3) := by decide +kernel
theorem dX6_fitsOf_108 : decode cX6_fitsOf 108 = .ok (.aload_n 0, 1) := by decide +kernel
theorem dX6_fitsOf_109 : decode cX6_fitsOf 109 = .ok (.getfield 30, 3) := by decide +kernel
theorem dX6_fitsOf_112 : decode cX6_fitsOf 112 = .ok (.getfield 240, 3) := by decide +kernel
theorem dX6_fitsOf_115 : decode cX6_fitsOf 115 = .ok (.iload_n 1, 1) := by decide +kernel
theorem dX6_fitsOf_116 : decode cX6_fitsOf 116 = .ok (.iload 12, 2) := by decide +kernel
theorem dX6_fitsOf_118 : decode cX6_fitsOf 118 = .ok (.iastore, 1) := by decide +kernel
theorem dX6_fitsOf_119 : decode cX6_fitsOf 119 = .ok (.goto 14, 3) := by decide +kernel
theorem dX6_fitsOf_122 : decode cX6_fitsOf 122 = .ok (.aload_n 0, 1) := by decide +kernel
theorem dX6_fitsOf_123 : decode cX6_fitsOf 123 = .ok (.getfield 30, 3) := by decide +kernel
theorem dX6_fitsOf_126 : decode cX6_fitsOf 126 = .ok (.getfield 159, 3) := by decide +kernel
theorem dX6_fitsOf_129 : decode cX6_fitsOf 129 = .ok (.iload_n 1, 1) := by decide +kernel
theorem dX6_fitsOf_130 : decode cX6_fitsOf 130 = .ok (.iload 12, 2) := by decide +kernel
theorem dX6_fitsOf_132 : decode cX6_fitsOf 132 = .ok (.iastore, 1) := by decide +kernel
theorem dX6_fitsOf_133 : decode cX6_fitsOf 133 = .ok (.aload_n 0, 1) := by decide +kernel
theorem dX6_fitsOf_134 : decode cX6_fitsOf 134 = .ok (.iload_n 2, 1) := by decide +kernel
theorem dX6_fitsOf_135 : decode cX6_fitsOf 135 = .ok (.iload_n 3, 1) := by decide +kernel
theorem dX6_fitsOf_136 : decode cX6_fitsOf 136 = .ok (.iload 4, 2) := by decide +kernel
theorem dX6_fitsOf_138 : decode cX6_fitsOf 138 = .ok (.iload 5, 2) := by decide +kernel
theorem dX6_fitsOf_140 : decode cX6_fitsOf 140 = .ok (.iload 6, 2) := by decide +kernel
theorem dX6_fitsOf_142 : decode cX6_fitsOf 142 = .ok (.invokevirtual 236, 3) := by decide +kernel
theorem dX6_fitsOf_145 : decode cX6_fitsOf 145 = .ok (.ifCond .eq 12, 3) := by decide +kernel
theorem dX6_fitsOf_148 : decode cX6_fitsOf 148 = .ok (.iload 9, 2) := by decide +kernel
theorem dX6_fitsOf_150 : decode cX6_fitsOf 150 = .ok (.iconst 1, 1) := by decide +kernel
theorem dX6_fitsOf_151 : decode cX6_fitsOf 151 = .ok (.iload 12, 2) := by decide +kernel
theorem dX6_fitsOf_153 : decode cX6_fitsOf 153 = .ok (.ishl, 1) := by decide +kernel
theorem dX6_fitsOf_154 : decode cX6_fitsOf 154 = .ok (.ior, 1) := by decide +kernel
theorem dX6_fitsOf_155 : decode cX6_fitsOf 155 = .ok (.istore 9, 2) := by decide +kernel
theorem dX6_fitsOf_157 : decode cX6_fitsOf 157 = .ok (.iinc 12 1, 3) := by decide +kernel
theorem dX6_fitsOf_160 : decode cX6_fitsOf 160 = .ok (.goto (-75), 3) := by decide +kernel
theorem dX6_fitsOf_163 : decode cX6_fitsOf 163 = .ok (.aload_n 0, 1) := by decide +kernel
theorem dX6_fitsOf_164 : decode cX6_fitsOf 164 = .ok (.iload 9, 2) := by decide +kernel
theorem dX6_fitsOf_166 : decode cX6_fitsOf 166 = .ok (.invokevirtual 78, 3) := by decide +kernel
theorem dX6_fitsOf_169 : decode cX6_fitsOf 169 = .ok (.ireturn, 1) := by decide +kernel
theorem dX6_share_0 : decode cX6_share 0 = .ok (.aload_n 0, 1) := by decide +kernel
theorem dX6_share_1 : decode cX6_share 1 = .ok (.getfield 26, 3) := by decide +kernel
theorem dX6_share_4 : decode cX6_share 4 = .ok (.invokevirtual 163, 3) := by decide +kernel
theorem dX6_share_7 : decode cX6_share 7 = .ok (.ifCond .ne 6, 3) := by decide +kernel
theorem dX6_share_10 : decode cX6_share 10 = .ok (.ldc 135, 2) := by decide +kernel
theorem dX6_share_12 : decode cX6_share 12 = .ok (.ireturn, 1) := by decide +kernel
theorem dX6_share_13 : decode cX6_share 13 = .ok (.iload_n 1, 1) := by decide +kernel
theorem dX6_share_14 : decode cX6_share 14 = .ok (.invokestatic 65, 3) := by decide +kernel
theorem dX6_share_17 : decode cX6_share 17 = .ok (.ifCond .eq 25, 3) := by decide +kernel
theorem dX6_share_20 : decode cX6_share 20 = .ok (.iload_n 3, 1) := by decide +kernel
theorem dX6_share_21 : decode cX6_share 21 = .ok (.iconst 1, 1) := by decide +kernel
theorem dX6_share_22 : decode cX6_share 22 = .ok (.if_icmp .lt 20, 3) := by decide +kernel
theorem dX6_share_25 : decode cX6_share 25 = .ok (.iload_n 3, 1) := by decide +kernel
theorem dX6_share_26 : decode cX6_share 26 = .ok (.bipush 8, 2) := by decide +kernel
theorem dX6_share_28 : decode cX6_share 28 = .ok (.if_icmp .gt 14, 3) := by decide +kernel
theorem dX6_share_31 : decode cX6_share 31 = .ok (.iload 4, 2) := by decide +kernel
theorem dX6_share_33 : decode cX6_share 33 = .ok (.ifCond .lt 9, 3) := by decide +kernel
theorem dX6_share_36 : decode cX6_share 36 = .ok (.iload 4, 2) := by decide +kernel
theorem dX6_share_38 : decode cX6_share 38 = .ok (.iload_n 3, 1) := by decide +kernel
theorem dX6_share_39 : decode cX6_share 39 = .ok (.if_icmp .lt 6, 3) := by decide +kernel
theorem dX6_share_42 : decode cX6_share 42 = .ok (.ldc 69, 2) := by decide +kernel
theorem dX6_share_44 : decode cX6_share 44 = .ok (.ireturn, 1) := by decide +kernel
theorem dX6_share_45 : decode cX6_share 45 = .ok (.aload_n 0, 1) := by decide +kernel
theorem dX6_share_46 : decode cX6_share 46 = .ok (.getfield 10, 3) := by decide +kernel
theorem dX6_share_49 : decode cX6_share 49 = .ok (.iload_n 1, 1) := by decide +kernel
theorem dX6_share_50 : decode cX6_share 50 = .ok (.iload_n 2, 1) := by decide +kernel
theorem dX6_share_51 : decode cX6_share 51 = .ok (.iload_n 3, 1) := by decide +kernel
theorem dX6_share_52 : decode cX6_share 52 = .ok (.invokevirtual 81, 3) := by decide +kernel
theorem dX6_share_55 : decode cX6_share 55 = .ok (.istore 5, 2) := by decide +kernel
theorem dX6_share_57 : decode cX6_share 57 = .ok (.iload 5, 2) := by decide +kernel
theorem dX6_share_59 : decode cX6_share 59 = .ok (.ifCond .eq 10, 3) := by decide +kernel
theorem dX6_share_62 : decode cX6_share 62 = .ok (.aload_n 0, 1) := by decide +kernel
theorem dX6_share_63 : decode cX6_share 63 = .ok (.iload 5, 2) := by decide +kernel
theorem dX6_share_65 : decode cX6_share 65 = .ok (.invokevirtual 70, 3) := by decide +kernel
theorem dX6_share_68 : decode cX6_share 68 = .ok (.ireturn, 1) := by decide +kernel
theorem dX6_share_69 : decode cX6_share 69 = .ok (.aload_n 0, 1) := by decide +kernel
theorem dX6_share_70 : decode cX6_share 70 = .ok (.aload_n 0, 1) := by decide +kernel
theorem dX6_share_71 : decode cX6_share 71 = .ok (.iload_n 1, 1) := by decide +kernel
theorem dX6_share_72 : decode cX6_share 72 = .ok (.iload_n 2, 1) := by decide +kernel
theorem dX6_share_73 : decode cX6_share 73 = .ok (.iload_n 3, 1) := by decide +kernel
theorem dX6_share_74 : decode cX6_share 74 = .ok (.iload 4, 2) := by decide +kernel
theorem dX6_share_76 : decode cX6_share 76 = .ok (.invokevirtual 243, 3) := by decide +kernel
theorem dX6_share_79 : decode cX6_share 79 = .ok (.invokevirtual 78, 3) := by decide +kernel
theorem dX6_share_82 : decode cX6_share 82 = .ok (.ireturn, 1) := by decide +kernel
theorem dX6_shut_0 : decode cX6_shut 0 = .ok (.aload_n 0, 1) := by decide +kernel
theorem dX6_shut_1 : decode cX6_shut 1 = .ok (.getfield 26, 3) := by decide +kernel
theorem dX6_shut_4 : decode cX6_shut 4 = .ok (.iload_n 1, 1) := by decide +kernel
theorem dX6_shut_5 : decode cX6_shut 5 = .ok (.invokevirtual 156, 3) := by decide +kernel
theorem dX6_shut_8 : decode cX6_shut 8 = .ok (.ifCond .eq 35, 3) := by decide +kernel
theorem dX6_shut_11 : decode cX6_shut 11 = .ok (.iload_n 2, 1) := by decide +kernel
theorem dX6_shut_12 : decode cX6_shut 12 = .ok (.ifCond .lt 31, 3) := by decide +kernel
theorem dX6_shut_15 : decode cX6_shut 15 = .ok (.iload_n 2, 1) := by decide +kernel
theorem dX6_shut_16 : decode cX6_shut 16 = .ok (.sipush 999, 3) := by decide +kernel
theorem dX6_shut_19 : decode cX6_shut 19 = .ok (.if_icmp .gt 24, 3) := by decide +kernel
theorem dX6_shut_22 : decode cX6_shut 22 = .ok (.iload_n 3, 1) := by decide +kernel
theorem dX6_shut_23 : decode cX6_shut 23 = .ok (.ifCond .lt 20, 3) := by decide +kernel
theorem dX6_shut_26 : decode cX6_shut 26 = .ok (.iload_n 3, 1) := by decide +kernel
theorem dX6_shut_27 : decode cX6_shut 27 = .ok (.bipush 10, 2) := by decide +kernel
theorem dX6_shut_29 : decode cX6_shut 29 = .ok (.if_icmp .gt 14, 3) := by decide +kernel
theorem dX6_shut_32 : decode cX6_shut 32 = .ok (.iload 4, 2) := by decide +kernel
theorem dX6_shut_34 : decode cX6_shut 34 = .ok (.ifCond .lt 9, 3) := by decide +kernel
theorem dX6_shut_37 : decode cX6_shut 37 = .ok (.iload 4, 2) := by decide +kernel
theorem dX6_shut_39 : decode cX6_shut 39 = .ok (.iconst 1, 1) := by decide +kernel
theorem dX6_shut_40 : decode cX6_shut 40 = .ok (.if_icmp .le 6, 3) := by decide +kernel
theorem dX6_shut_43 : decode cX6_shut 43 = .ok (.ldc 69, 2) := by decide +kernel
theorem dX6_shut_45 : decode cX6_shut 45 = .ok (.ireturn, 1) := by decide +kernel
theorem dX6_shut_46 : decode cX6_shut 46 = .ok (.aload_n 0, 1) := by decide +kernel
theorem dX6_shut_47 : decode cX6_shut 47 = .ok (.getfield 47, 3) := by decide +kernel
theorem dX6_shut_50 : decode cX6_shut 50 = .ok (.aload_n 0, 1) := by decide +kernel
theorem dX6_shut_51 : decode cX6_shut 51 = .ok (.getfield 26, 3) := by decide +kernel
theorem dX6_shut_54 : decode cX6_shut 54 = .ok (.iload_n 1, 1) := by decide +kernel
theorem dX6_shut_55 : decode cX6_shut 55 = .ok (.iload_n 2, 1) := by decide +kernel
theorem dX6_shut_56 : decode cX6_shut 56 = .ok (.invokevirtual 247, 3) := by decide +kernel
theorem dX6_shut_59 : decode cX6_shut 59 = .ok (.aload_n 0, 1) := by decide +kernel
theorem dX6_shut_60 : decode cX6_shut 60 = .ok (.getfield 47, 3) := by decide +kernel
theorem dX6_shut_63 : decode cX6_shut 63 = .ok (.aload_n 0, 1) := by decide +kernel
theorem dX6_shut_64 : decode cX6_shut 64 = .ok (.getfield 26, 3) := by decide +kernel
theorem dX6_shut_67 : decode cX6_shut 67 = .ok (.getfield 173, 3) := by decide +kernel
theorem dX6_shut_70 : decode cX6_shut 70 = .ok (.iload_n 3, 1) := by decide +kernel
theorem dX6_shut_71 : decode cX6_shut 71 = .ok (.invokevirtual 251, 3) := by decide +kernel
theorem dX6_shut_74 : decode cX6_shut 74 = .ok (.istore 5, 2) := by decide +kernel
theorem dX6_shut_76 : decode cX6_shut 76 = .ok (.bipush 10, 2) := by decide +kernel
theorem dX6_shut_78 : decode cX6_shut 78 = .ok (.aload_n 0, 1) := by decide +kernel
theorem dX6_shut_79 : decode cX6_shut 79 = .ok (.getfield 26, 3) := by decide +kernel
theorem dX6_shut_82 : decode cX6_shut 82 = .ok (.getfield 173, 3) := by decide +kernel
theorem dX6_shut_85 : decode cX6_shut 85 = .ok (.invokestatic 255, 3) := by decide +kernel
theorem dX6_shut_88 : decode cX6_shut 88 = .ok (.invokestatic 260, 3) := by decide +kernel
theorem dX6_shut_91 : decode cX6_shut 91 = .ok (.istore 6, 2) := by decide +kernel
theorem dX6_shut_93 : decode cX6_shut 93 = .ok (.iconst 1, 1) := by decide +kernel
theorem dX6_shut_94 : decode cX6_shut 94 = .ok (.iload 5, 2) := by decide +kernel
theorem dX6_shut_96 : decode cX6_shut 96 = .ok (.iload 6, 2) := by decide +kernel
theorem dX6_shut_98 : decode cX6_shut 98 = .ok (.invokestatic 263, 3) := by decide +kernel
theorem dX6_shut_101 : decode cX6_shut 101 = .ok (.invokestatic 266, 3) := by decide +kernel
theorem dX6_shut_104 : decode cX6_shut 104 = .ok (.istore 7, 2) := by decide +kernel
theorem dX6_shut_106 : decode cX6_shut 106 = .ok (.iload 4, 2) := by decide +kernel
theorem dX6_shut_108 : decode cX6_shut 108 = .ok (.ifCond .ne 8, 3) := by decide +kernel
theorem dX6_shut_111 : decode cX6_shut 111 = .ok (.iload 5, 2) := by decide +kernel
theorem dX6_shut_113 : decode cX6_shut 113 = .ok (.goto 5, 3) := by decide +kernel
theorem dX6_shut_116 : decode cX6_shut 116 = .ok (.iload 6, 2) := by decide +kernel
theorem dX6_shut_118 : decode cX6_shut 118 = .ok (.iload 7, 2) := by decide +kernel
theorem dX6_shut_120 : decode cX6_shut 120 = .ok (.idiv, 1) := by decide +kernel
theorem dX6_shut_121 : decode cX6_shut 121 = .ok (.ireturn, 1) := by decide +kernel
theorem dX6_drawn_0 : decode cX6_drawn 0 = .ok (.aload_n 0, 1) := by decide +kernel
theorem dX6_drawn_1 : decode cX6_drawn 1 = .ok (.getfield 26, 3) := by decide +kernel
theorem dX6_drawn_4 : decode cX6_drawn 4 = .ok (.invokevirtual 163, 3) := by decide +kernel
theorem dX6_drawn_7 : decode cX6_drawn 7 = .ok (.ifCond .ne 6, 3) := by decide +kernel
theorem dX6_drawn_10 : decode cX6_drawn 10 = .ok (.ldc 135, 2) := by decide +kernel
theorem dX6_drawn_12 : decode cX6_drawn 12 = .ok (.ireturn, 1) := by decide +kernel
theorem dX6_drawn_13 : decode cX6_drawn 13 = .ok (.iload_n 1, 1) := by decide +kernel
theorem dX6_drawn_14 : decode cX6_drawn 14 = .ok (.ifCond .lt 30, 3) := by decide +kernel
theorem dX6_drawn_17 : decode cX6_drawn 17 = .ok (.iload_n 1, 1) := by decide +kernel
theorem dX6_drawn_18 : decode cX6_drawn 18 = .ok (.bipush 60, 2) := by decide +kernel
theorem dX6_drawn_20 : decode cX6_drawn 20 = .ok (.if_icmp .gt 24, 3) := by decide +kernel
theorem dX6_drawn_23 : decode cX6_drawn 23 = .ok (.iload_n 2, 1) := by decide +kernel
theorem dX6_drawn_24 : decode cX6_drawn 24 = .ok (.iconst 1, 1) := by decide +kernel
theorem dX6_drawn_25 : decode cX6_drawn 25 = .ok (.if_icmp .lt 19, 3) := by decide +kernel
theorem dX6_drawn_28 : decode cX6_drawn 28 = .ok (.iload_n 2, 1) := by decide +kernel
theorem dX6_drawn_29 : decode cX6_drawn 29 = .ok (.ldc_w 271, 3) := by decide +kernel
theorem dX6_drawn_32 : decode cX6_drawn 32 = .ok (.if_icmp .gt 12, 3) := by decide +kernel
theorem dX6_drawn_35 : decode cX6_drawn 35 = .ok (.iload_n 3, 1) := by decide +kernel
theorem dX6_drawn_36 : decode cX6_drawn 36 = .ok (.ifCond .lt 8, 3) := by decide +kernel
theorem dX6_drawn_39 : decode cX6_drawn 39 = .ok (.iload_n 3, 1) := by decide +kernel
theorem dX6_drawn_40 : decode cX6_drawn 40 = .ok (.iconst 1, 1) := by decide +kernel
theorem dX6_drawn_41 : decode cX6_drawn 41 = .ok (.if_icmp .le 6, 3) := by decide +kernel
theorem dX6_drawn_44 : decode cX6_drawn 44 = .ok (.ldc 69, 2) := by decide +kernel
theorem dX6_drawn_46 : decode cX6_drawn 46 = .ok (.ireturn, 1) := by decide +kernel
theorem dX6_drawn_47 : decode cX6_drawn 47 = .ok (.aload_n 0, 1) := by decide +kernel
theorem dX6_drawn_48 : decode cX6_drawn 48 = .ok (.getfield 30, 3) := by decide +kernel
theorem dX6_drawn_51 : decode cX6_drawn 51 = .ok (.aload_n 0, 1) := by decide +kernel
theorem dX6_drawn_52 : decode cX6_drawn 52 = .ok (.getfield 26, 3) := by decide +kernel
theorem dX6_drawn_55 : decode cX6_drawn 55 = .ok (.invokevirtual 119, 3) := by decide +kernel
theorem dX6_drawn_58 : decode cX6_drawn 58 = .ok (.iload_n 2, 1) := by decide +kernel
theorem dX6_drawn_59 : decode cX6_drawn 59 = .ok (.i2l, 1) := by decide +kernel
theorem dX6_drawn_60 : decode cX6_drawn 60 = .ok (.lstore 4, 2) := by decide +kernel
theorem dX6_drawn_62 : decode cX6_drawn 62 = .ok (.iconst 0, 1) := by decide +kernel
theorem dX6_drawn_63 : decode cX6_drawn 63 = .ok (.istore 6, 2) := by decide +kernel
theorem dX6_drawn_65 : decode cX6_drawn 65 = .ok (.iload 6, 2) := by decide +kernel
theorem dX6_drawn_67 : decode cX6_drawn 67 = .ok (.iload_n 1, 1) := by decide +kernel
theorem dX6_drawn_68 : decode cX6_drawn 68 = .ok (.if_icmp .ge 30, 3) := by decide +kernel
theorem dX6_drawn_71 : decode cX6_drawn 71 = .ok (.lload 4, 2) := by decide +kernel
theorem dX6_drawn_73 : decode cX6_drawn 73 = .ok (.ldc2_w 272, 3) := by decide +kernel
theorem dX6_drawn_76 : decode cX6_drawn 76 = .ok (.lmul, 1) := by decide +kernel
theorem dX6_drawn_77 : decode cX6_drawn 77 = .ok (.ldc2_w 274, 3) := by decide +kernel
theorem dX6_drawn_80 : decode cX6_drawn 80 = .ok (.lrem, 1) := by decide +kernel
theorem dX6_drawn_81 : decode cX6_drawn 81 = .ok (.lstore 4, 2) := by decide +kernel
theorem dX6_drawn_83 : decode cX6_drawn 83 = .ok (.aload_n 0, 1) := by decide +kernel
theorem dX6_drawn_84 : decode cX6_drawn 84 = .ok (.getfield 30, 3) := by decide +kernel
theorem dX6_drawn_87 : decode cX6_drawn 87 = .ok (.lload 4, 2) := by decide +kernel
theorem dX6_drawn_89 : decode cX6_drawn 89 = .ok (.invokevirtual 276, 3) := by decide +kernel
theorem dX6_drawn_92 : decode cX6_drawn 92 = .ok (.iinc 6 1, 3) := by decide +kernel
theorem dX6_drawn_95 : decode cX6_drawn 95 = .ok (.goto (-30), 3) := by decide +kernel
theorem dX6_drawn_98 : decode cX6_drawn 98 = .ok (.iload_n 3, 1) := by decide +kernel
theorem dX6_drawn_99 : decode cX6_drawn 99 = .ok (.ifCond .ne 13, 3) := by decide +kernel
theorem dX6_drawn_102 : decode cX6_drawn 102 = .ok (.aload_n 0, 1) := by decide +kernel
theorem dX6_drawn_103 : decode cX6_drawn 103 = .ok (.getfield 30, 3) := by decide +kernel
theorem dX6_drawn_106 : decode cX6_drawn 106 = .ok (.getfield 145, 3) := by decide +kernel
theorem dX6_drawn_109 : decode cX6_drawn 109 = .ok (.goto 10, 3) := by decide +kernel
theorem dX6_drawn_112 : decode cX6_drawn 112 = .ok (.aload_n 0, 1) := by decide +kernel
theorem dX6_drawn_113 : decode cX6_drawn 113 = .ok (.getfield 30, 3) := by decide +kernel
theorem dX6_drawn_116 : decode cX6_drawn 116 = .ok (.getfield 139, 3) := by decide +kernel
theorem dX6_drawn_119 : decode cX6_drawn 119 = .ok (.ireturn, 1) := by decide +kernel
theorem dX6_image_0 : decode cX6_image 0 = .ok (.iload_n 1, 1) := by decide +kernel
theorem dX6_image_1 : decode cX6_image 1 = .ok (.ifCond .lt 8, 3) := by decide +kernel
theorem dX6_image_4 : decode cX6_image 4 = .ok (.iload_n 1, 1) := by decide +kernel
theorem dX6_image_5 : decode cX6_image 5 = .ok (.iconst 2, 1) := by decide +kernel
theorem dX6_image_6 : decode cX6_image 6 = .ok (.if_icmp .lt 6, 3) := by decide +kernel
theorem dX6_image_9 : decode cX6_image 9 = .ok (.ldc 69, 2) := by decide +kernel
theorem dX6_image_11 : decode cX6_image 11 = .ok (.ireturn, 1) := by decide +kernel
theorem dX6_image_12 : decode cX6_image 12 = .ok (.aload_n 0, 1) := by decide +kernel
theorem dX6_image_13 : decode cX6_image 13 = .ok (.getfield 26, 3) := by decide +kernel
theorem dX6_image_16 : decode cX6_image 16 = .ok (.invokevirtual 163, 3) := by decide +kernel
theorem dX6_image_19 : decode cX6_image 19 = .ok (.ifCond .ne 6, 3) := by decide +kernel
theorem dX6_image_22 : decode cX6_image 22 = .ok (.ldc 135, 2) := by decide +kernel
theorem dX6_image_24 : decode cX6_image 24 = .ok (.ireturn, 1) := by decide +kernel
theorem dX6_image_25 : decode cX6_image 25 = .ok (.aload_n 0, 1) := by decide +kernel
theorem dX6_image_26 : decode cX6_image 26 = .ok (.getfield 33, 3) := by decide +kernel
theorem dX6_image_29 : decode cX6_image 29 = .ok (.iload_n 1, 1) := by decide +kernel
theorem dX6_image_30 : decode cX6_image 30 = .ok (.aaload, 1) := by decide +kernel
theorem dX6_image_31 : decode cX6_image 31 = .ok (.aload_n 0, 1) := by decide +kernel
theorem dX6_image_32 : decode cX6_image 32 = .ok (.getfield 26, 3) := by decide +kernel
theorem dX6_image_35 : decode cX6_image 35 = .ok (.invokevirtual 119, 3) := by decide +kernel
theorem dX6_image_38 : decode cX6_image 38 = .ok (.iconst 1, 1) := by decide +kernel
theorem dX6_image_39 : decode cX6_image 39 = .ok (.ireturn, 1) := by decide +kernel
theorem dX6_restore_0 : decode cX6_restore 0 = .ok (.iload_n 1, 1) := by decide +kernel
theorem dX6_restore_1 : decode cX6_restore 1 = .ok (.ifCond .lt 8, 3) := by decide +kernel
theorem dX6_restore_4 : decode cX6_restore 4 = .ok (.iload_n 1, 1) := by decide +kernel
theorem dX6_restore_5 : decode cX6_restore 5 = .ok (.iconst 2, 1) := by decide +kernel
theorem dX6_restore_6 : decode cX6_restore 6 = .ok (.if_icmp .lt 6, 3) := by decide +kernel
theorem dX6_restore_9 : decode cX6_restore 9 = .ok (.ldc 69, 2) := by decide +kernel
theorem dX6_restore_11 : decode cX6_restore 11 = .ok (.ireturn, 1) := by decide +kernel
theorem dX6_restore_12 : decode cX6_restore 12 = .ok (.aload_n 0, 1) := by decide +kernel
theorem dX6_restore_13 : decode cX6_restore 13 = .ok (.getfield 33, 3) := by decide +kernel
theorem dX6_restore_16 : decode cX6_restore 16 = .ok (.iload_n 1, 1) := by decide +kernel
theorem dX6_restore_17 : decode cX6_restore 17 = .ok (.aaload, 1) := by decide +kernel
theorem dX6_restore_18 : decode cX6_restore 18 = .ok (.invokevirtual 163, 3) := by decide +kernel
theorem dX6_restore_21 : decode cX6_restore 21 = .ok (.ifCond .ne 6, 3) := by decide +kernel
theorem dX6_restore_24 : decode cX6_restore 24 = .ok (.ldc 135, 2) := by decide +kernel
theorem dX6_restore_26 : decode cX6_restore 26 = .ok (.ireturn, 1) := by decide +kernel
theorem dX6_restore_27 : decode cX6_restore 27 = .ok (.aload_n 0, 1) := by decide +kernel
theorem dX6_restore_28 : decode cX6_restore 28 = .ok (.getfield 26, 3) := by decide +kernel
theorem dX6_restore_31 : decode cX6_restore 31 = .ok (.aload_n 0, 1) := by decide +kernel
theorem dX6_restore_32 : decode cX6_restore 32 = .ok (.getfield 33, 3) := by decide +kernel
theorem dX6_restore_35 : decode cX6_restore 35 = .ok (.iload_n 1, 1) := by decide +kernel
theorem dX6_restore_36 : decode cX6_restore 36 = .ok (.aaload, 1) := by decide +kernel
theorem dX6_restore_37 : decode cX6_restore 37 = .ok (.invokevirtual 119, 3) := by decide +kernel
theorem dX6_restore_40 : decode cX6_restore 40 = .ok (.aload_n 0, 1) := by decide +kernel
theorem dX6_restore_41 : decode cX6_restore 41 = .ok (.getfield 40, 3) := by decide +kernel
theorem dX6_restore_44 : decode cX6_restore 44 = .ok (.invokevirtual 123, 3) := by decide +kernel
theorem dX6_restore_47 : decode cX6_restore 47 = .ok (.iconst 1, 1) := by decide +kernel
theorem dX6_restore_48 : decode cX6_restore 48 = .ok (.ireturn, 1) := by decide +kernel
theorem dX6_kind_0 : decode cX6_kind 0 = .ok (.aload_n 0, 1) := by decide +kernel
theorem dX6_kind_1 : decode cX6_kind 1 = .ok (.getfield 26, 3) := by decide +kernel
theorem dX6_kind_4 : decode cX6_kind 4 = .ok (.iload_n 1, 1) := by decide +kernel
theorem dX6_kind_5 : decode cX6_kind 5 = .ok (.invokevirtual 156, 3) := by decide +kernel
theorem dX6_kind_8 : decode cX6_kind 8 = .ok (.ifCond .eq 15, 3) := by decide +kernel
theorem dX6_kind_11 : decode cX6_kind 11 = .ok (.aload_n 0, 1) := by decide +kernel
theorem dX6_kind_12 : decode cX6_kind 12 = .ok (.getfield 26, 3) := by decide +kernel
theorem dX6_kind_15 : decode cX6_kind 15 = .ok (.getfield 240, 3) := by decide +kernel
theorem dX6_kind_18 : decode cX6_kind 18 = .ok (.iload_n 1, 1) := by decide +kernel
theorem dX6_kind_19 : decode cX6_kind 19 = .ok (.iaload, 1) := by decide +kernel
theorem dX6_kind_20 : decode cX6_kind 20 = .ok (.goto 5, 3) := by decide +kernel
theorem dX6_kind_23 : decode cX6_kind 23 = .ok (.ldc 69, 2) := by decide +kernel
theorem dX6_kind_25 : decode cX6_kind 25 = .ok (.ireturn, 1) := by decide +kernel
theorem dX6_as_0 : decode cX6_as 0 = .ok (.aload_n 0, 1) := by decide +kernel
theorem dX6_as_1 : decode cX6_as 1 = .ok (.getfield 26, 3) := by decide +kernel
theorem dX6_as_4 : decode cX6_as 4 = .ok (.iload_n 1, 1) := by decide +kernel
theorem dX6_as_5 : decode cX6_as 5 = .ok (.invokevirtual 156, 3) := by decide +kernel
theorem dX6_as_8 : decode cX6_as 8 = .ok (.ifCond .eq 12, 3) := by decide +kernel
theorem dX6_as_11 : decode cX6_as 11 = .ok (.iload_n 2, 1) := by decide +kernel
theorem dX6_as_12 : decode cX6_as 12 = .ok (.ifCond .lt 8, 3) := by decide +kernel
theorem dX6_as_15 : decode cX6_as 15 = .ok (.iload_n 2, 1) := by decide +kernel
theorem dX6_as_16 : decode cX6_as 16 = .ok (.iconst 5, 1) := by decide +kernel
theorem dX6_as_17 : decode cX6_as 17 = .ok (.if_icmp .le 6, 3) := by decide +kernel
theorem dX6_as_20 : decode cX6_as 20 = .ok (.ldc 69, 2) := by decide +kernel
theorem dX6_as_22 : decode cX6_as 22 = .ok (.ireturn, 1) := by decide +kernel
theorem dX6_as_23 : decode cX6_as 23 = .ok (.aload_n 0, 1) := by decide +kernel
theorem dX6_as_24 : decode cX6_as 24 = .ok (.getfield 26, 3) := by decide +kernel
theorem dX6_as_27 : decode cX6_as 27 = .ok (.getfield 240, 3) := by decide +kernel
theorem dX6_as_30 : decode cX6_as 30 = .ok (.iload_n 1, 1) := by decide +kernel
theorem dX6_as_31 : decode cX6_as 31 = .ok (.iaload, 1) := by decide +kernel
theorem dX6_as_32 : decode cX6_as 32 = .ok (.iload_n 2, 1) := by decide +kernel
theorem dX6_as_33 : decode cX6_as 33 = .ok (.invokestatic 280, 3) := by decide +kernel
theorem dX6_as_36 : decode cX6_as 36 = .ok (.ifCond .ne 9, 3) := by decide +kernel
theorem dX6_as_39 : decode cX6_as 39 = .ok (.aload_n 0, 1) := by decide +kernel
theorem dX6_as_40 : decode cX6_as 40 = .ok (.iconst 3, 1) := by decide +kernel
theorem dX6_as_41 : decode cX6_as 41 = .ok (.invokevirtual 70, 3) := by decide +kernel
theorem dX6_as_44 : decode cX6_as 44 = .ok (.ireturn, 1) := by decide +kernel
theorem dX6_as_45 : decode cX6_as 45 = .ok (.aload_n 0, 1) := by decide +kernel
theorem dX6_as_46 : decode cX6_as 46 = .ok (.iload_n 1, 1) := by decide +kernel
theorem dX6_as_47 : decode cX6_as 47 = .ok (.invokevirtual 78, 3) := by decide +kernel
theorem dX6_as_50 : decode cX6_as 50 = .ok (.ireturn, 1) := by decide +kernel
theorem dX6_ask_0 : decode cX6_ask 0 = .ok (.aload_n 0, 1) := by decide +kernel
theorem dX6_ask_1 : decode cX6_ask 1 = .ok (.getfield 26, 3) := by decide +kernel
theorem dX6_ask_4 : decode cX6_ask 4 = .ok (.iload_n 1, 1) := by decide +kernel
theorem dX6_ask_5 : decode cX6_ask 5 = .ok (.invokevirtual 156, 3) := by decide +kernel
theorem dX6_ask_8 : decode cX6_ask 8 = .ok (.ifCond .eq 12, 3) := by decide +kernel
theorem dX6_ask_11 : decode cX6_ask 11 = .ok (.iload_n 2, 1) := by decide +kernel
theorem dX6_ask_12 : decode cX6_ask 12 = .ok (.ifCond .lt 8, 3) := by decide +kernel
theorem dX6_ask_15 : decode cX6_ask 15 = .ok (.iload_n 2, 1) := by decide +kernel
theorem dX6_ask_16 : decode cX6_ask 16 = .ok (.iconst 1, 1) := by decide +kernel
theorem dX6_ask_17 : decode cX6_ask 17 = .ok (.if_icmp .le 6, 3) := by decide +kernel
theorem dX6_ask_20 : decode cX6_ask 20 = .ok (.ldc 69, 2) := by decide +kernel
theorem dX6_ask_22 : decode cX6_ask 22 = .ok (.ireturn, 1) := by decide +kernel
theorem dX6_ask_23 : decode cX6_ask 23 = .ok (.aload_n 0, 1) := by decide +kernel
theorem dX6_ask_24 : decode cX6_ask 24 = .ok (.getfield 54, 3) := by decide +kernel
theorem dX6_ask_27 : decode cX6_ask 27 = .ok (.aload_n 0, 1) := by decide +kernel
theorem dX6_ask_28 : decode cX6_ask 28 = .ok (.getfield 26, 3) := by decide +kernel
theorem dX6_ask_31 : decode cX6_ask 31 = .ok (.iload_n 1, 1) := by decide +kernel
theorem dX6_ask_32 : decode cX6_ask 32 = .ok (.iload_n 2, 1) := by decide +kernel
theorem dX6_ask_33 : decode cX6_ask 33 = .ok (.invokevirtual 284, 3) := by decide +kernel
theorem dX6_ask_36 : decode cX6_ask 36 = .ok (.ireturn, 1) := by decide +kernel
theorem dX6_trace_0 : decode cX6_trace 0 = .ok (.iload_n 1, 1) := by decide +kernel
theorem dX6_trace_1 : decode cX6_trace 1 = .ok (.ifCond .lt 14, 3) := by decide +kernel
theorem dX6_trace_4 : decode cX6_trace 4 = .ok (.iload_n 1, 1) := by decide +kernel
theorem dX6_trace_5 : decode cX6_trace 5 = .ok (.aload_n 0, 1) := by decide +kernel
theorem dX6_trace_6 : decode cX6_trace 6 = .ok (.getfield 54, 3) := by decide +kernel
theorem dX6_trace_9 : decode cX6_trace 9 = .ok (.getfield 288, 3) := by decide +kernel
theorem dX6_trace_12 : decode cX6_trace 12 = .ok (.if_icmp .lt 8, 3) := by decide +kernel
theorem dX6_trace_15 : decode cX6_trace 15 = .ok (.ldc 198, 2) := by decide +kernel
theorem dX6_trace_17 : decode cX6_trace 17 = .ok (.goto 12, 3) := by decide +kernel
theorem dX6_trace_20 : decode cX6_trace 20 = .ok (.aload_n 0, 1) := by decide +kernel
theorem dX6_trace_21 : decode cX6_trace 21 = .ok (.getfield 54, 3) := by decide +kernel
theorem dX6_trace_24 : decode cX6_trace 24 = .ok (.getfield 291, 3) := by decide +kernel
theorem dX6_trace_27 : decode cX6_trace 27 = .ok (.iload_n 1, 1) := by decide +kernel
theorem dX6_trace_28 : decode cX6_trace 28 = .ok (.iaload, 1) := by decide +kernel
theorem dX6_trace_29 : decode cX6_trace 29 = .ok (.ireturn, 1) := by decide +kernel
theorem dX6_count_0 : decode cX6_count 0 = .ok (.iload_n 1, 1) := by decide +kernel
theorem dX6_count_1 : decode cX6_count 1 = .ok (.tableswitch 135 0 9 #[55, 63, 71, 79, 87, 95, 103, 111, 119, 127], 55) := by decide +kernel
theorem dX6_count_56 : decode cX6_count 56 = .ok (.aload_n 0, 1) := by decide +kernel
theorem dX6_count_57 : decode cX6_count 57 = .ok (.getfield 10, 3) := by decide +kernel
theorem dX6_count_60 : decode cX6_count 60 = .ok (.invokevirtual 294, 3) := by decide +kernel
theorem dX6_count_63 : decode cX6_count 63 = .ok (.ireturn, 1) := by decide +kernel
theorem dX6_count_64 : decode cX6_count 64 = .ok (.aload_n 0, 1) := by decide +kernel
theorem dX6_count_65 : decode cX6_count 65 = .ok (.getfield 26, 3) := by decide +kernel
theorem dX6_count_68 : decode cX6_count 68 = .ok (.getfield 297, 3) := by decide +kernel
theorem dX6_count_71 : decode cX6_count 71 = .ok (.ireturn, 1) := by decide +kernel
theorem dX6_count_72 : decode cX6_count 72 = .ok (.aload_n 0, 1) := by decide +kernel
theorem dX6_count_73 : decode cX6_count 73 = .ok (.getfield 26, 3) := by decide +kernel
theorem dX6_count_76 : decode cX6_count 76 = .ok (.getfield 126, 3) := by decide +kernel
theorem dX6_count_79 : decode cX6_count 79 = .ok (.ireturn, 1) := by decide +kernel
theorem dX6_count_80 : decode cX6_count 80 = .ok (.aload_n 0, 1) := by decide +kernel
theorem dX6_count_81 : decode cX6_count 81 = .ok (.getfield 26, 3) := by decide +kernel
theorem dX6_count_84 : decode cX6_count 84 = .ok (.getfield 136, 3) := by decide +kernel
theorem dX6_count_87 : decode cX6_count 87 = .ok (.ireturn, 1) := by decide +kernel
theorem dX6_count_88 : decode cX6_count 88 = .ok (.aload_n 0, 1) := by decide +kernel
theorem dX6_count_89 : decode cX6_count 89 = .ok (.getfield 26, 3) := by decide +kernel
theorem dX6_count_92 : decode cX6_count 92 = .ok (.getfield 139, 3) := by decide +kernel
theorem dX6_count_95 : decode cX6_count 95 = .ok (.ireturn, 1) := by decide +kernel
theorem dX6_count_96 : decode cX6_count 96 = .ok (.aload_n 0, 1) := by decide +kernel
theorem dX6_count_97 : decode cX6_count 97 = .ok (.getfield 26, 3) := by decide +kernel
theorem dX6_count_100 : decode cX6_count 100 = .ok (.getfield 142, 3) := by decide +kernel
theorem dX6_count_103 : decode cX6_count 103 = .ok (.ireturn, 1) := by decide +kernel
theorem dX6_count_104 : decode cX6_count 104 = .ok (.aload_n 0, 1) := by decide +kernel
theorem dX6_count_105 : decode cX6_count 105 = .ok (.getfield 40, 3) := by decide +kernel
theorem dX6_count_108 : decode cX6_count 108 = .ok (.getfield 176, 3) := by decide +kernel
theorem dX6_count_111 : decode cX6_count 111 = .ok (.ireturn, 1) := by decide +kernel
theorem dX6_count_112 : decode cX6_count 112 = .ok (.aload_n 0, 1) := by decide +kernel
theorem dX6_count_113 : decode cX6_count 113 = .ok (.getfield 19, 3) := by decide +kernel
theorem dX6_count_116 : decode cX6_count 116 = .ok (.getfield 102, 3) := by decide +kernel
theorem dX6_count_119 : decode cX6_count 119 = .ok (.ireturn, 1) := by decide +kernel
theorem dX6_count_120 : decode cX6_count 120 = .ok (.aload_n 0, 1) := by decide +kernel
theorem dX6_count_121 : decode cX6_count 121 = .ok (.getfield 26, 3) := by decide +kernel
theorem dX6_count_124 : decode cX6_count 124 = .ok (.getfield 145, 3) := by decide +kernel
theorem dX6_count_127 : decode cX6_count 127 = .ok (.ireturn, 1) := by decide +kernel
theorem dX6_count_128 : decode cX6_count 128 = .ok (.aload_n 0, 1) := by decide +kernel
theorem dX6_count_129 : decode cX6_count 129 = .ok (.getfield 26, 3) := by decide +kernel
theorem dX6_count_132 : decode cX6_count 132 = .ok (.getfield 173, 3) := by decide +kernel
theorem dX6_count_135 : decode cX6_count 135 = .ok (.ireturn, 1) := by decide +kernel
theorem dX6_count_136 : decode cX6_count 136 = .ok (.ldc 69, 2) := by decide +kernel
theorem dX6_count_138 : decode cX6_count 138 = .ok (.ireturn, 1) := by decide +kernel
theorem dX6_status_0 : decode cX6_status 0 = .ok (.aload_n 0, 1) := by decide +kernel
theorem dX6_status_1 : decode cX6_status 1 = .ok (.getfield 58, 3) := by decide +kernel
theorem dX6_status_4 : decode cX6_status 4 = .ok (.ireturn, 1) := by decide +kernel
theorem dX6_found_0 : decode cX6_found 0 = .ok (.aload_n 0, 1) := by decide +kernel
theorem dX6_found_1 : decode cX6_found 1 = .ok (.iload_n 1, 1) := by decide +kernel
theorem dX6_found_2 : decode cX6_found 2 = .ok (.putfield 58, 3) := by decide +kernel
theorem dX6_found_5 : decode cX6_found 5 = .ok (.ldc_w 300, 3) := by decide +kernel
theorem dX6_found_8 : decode cX6_found 8 = .ok (.iload_n 1, 1) := by decide +kernel
theorem dX6_found_9 : decode cX6_found 9 = .ok (.isub, 1) := by decide +kernel
theorem dX6_found_10 : decode cX6_found 10 = .ok (.ireturn, 1) := by decide +kernel
theorem dX6_unfound_0 : decode cX6_unfound 0 = .ok (.aload_n 0, 1) := by decide +kernel
theorem dX6_unfound_1 : decode cX6_unfound 1 = .ok (.iconst 0, 1) := by decide +kernel
theorem dX6_unfound_2 : decode cX6_unfound 2 = .ok (.putfield 58, 3) := by decide +kernel
theorem dX6_unfound_5 : decode cX6_unfound 5 = .ok (.iload_n 1, 1) := by decide +kernel
theorem dX6_unfound_6 : decode cX6_unfound 6 = .ok (.ireturn, 1) := by decide +kernel
theorem dX6_streetsAt_0 : decode cX6_streetsAt 0 = .ok (.iconst 0, 1) := by decide +kernel
theorem dX6_streetsAt_1 : decode cX6_streetsAt 1 = .ok (.istore_n 3, 1) := by decide +kernel
theorem dX6_streetsAt_2 : decode cX6_streetsAt 2 = .ok (.iconst 0, 1) := by decide +kernel
theorem dX6_streetsAt_3 : decode cX6_streetsAt 3 = .ok (.istore 4, 2) := by decide +kernel
theorem dX6_streetsAt_5 : decode cX6_streetsAt 5 = .ok (.iload 4, 2) := by decide +kernel
theorem dX6_streetsAt_7 : decode cX6_streetsAt 7 = .ok (.aload_n 0, 1) := by decide +kernel
theorem dX6_streetsAt_8 : decode cX6_streetsAt 8 = .ok (.getfield 26, 3) := by decide +kernel
theorem dX6_streetsAt_11 : decode cX6_streetsAt 11 = .ok (.getfield 126, 3) := by decide +kernel
theorem dX6_streetsAt_14 : decode cX6_streetsAt 14 = .ok (.if_icmp .ge 24, 3) := by decide +kernel
theorem dX6_streetsAt_17 : decode cX6_streetsAt 17 = .ok (.aload_n 2, 1) := by decide +kernel
theorem dX6_streetsAt_18 : decode cX6_streetsAt 18 = .ok (.iload 4, 2) := by decide +kernel
theorem dX6_streetsAt_20 : decode cX6_streetsAt 20 = .ok (.iaload, 1) := by decide +kernel
theorem dX6_streetsAt_21 : decode cX6_streetsAt 21 = .ok (.iload_n 1, 1) := by decide +kernel
theorem dX6_streetsAt_22 : decode cX6_streetsAt 22 = .ok (.if_icmp .ne 10, 3) := by decide +kernel
theorem dX6_streetsAt_25 : decode cX6_streetsAt 25 = .ok (.iload_n 3, 1) := by decide +kernel
theorem dX6_streetsAt_26 : decode cX6_streetsAt 26 = .ok (.iconst 1, 1) := by decide +kernel
theorem dX6_streetsAt_27 : decode cX6_streetsAt 27 = .ok (.iload 4, 2) := by decide +kernel
theorem dX6_streetsAt_29 : decode cX6_streetsAt 29 = .ok (.ishl, 1) := by decide +kernel
theorem dX6_streetsAt_30 : decode cX6_streetsAt 30 = .ok (.ior, 1) := by decide +kernel
theorem dX6_streetsAt_31 : decode cX6_streetsAt 31 = .ok (.istore_n 3, 1) := by decide +kernel
theorem dX6_streetsAt_32 : decode cX6_streetsAt 32 = .ok (.iinc 4 1, 3) := by decide +kernel
theorem dX6_streetsAt_35 : decode cX6_streetsAt 35 = .ok (.goto (-30), 3) := by decide +kernel
theorem dX6_streetsAt_38 : decode cX6_streetsAt 38 = .ok (.iload_n 3, 1) := by decide +kernel
theorem dX6_streetsAt_39 : decode cX6_streetsAt 39 = .ok (.ireturn, 1) := by decide +kernel
theorem dX6_areFitting_0 : decode cX6_areFitting 0 = .ok (.iload_n 0, 1) := by decide +kernel
theorem dX6_areFitting_1 : decode cX6_areFitting 1 = .ok (.invokestatic 65, 3) := by decide +kernel
theorem dX6_areFitting_4 : decode cX6_areFitting 4 = .ok (.ifCond .eq 34, 3) := by decide +kernel
theorem dX6_areFitting_7 : decode cX6_areFitting 7 = .ok (.iload_n 1, 1) := by decide +kernel
theorem dX6_areFitting_8 : decode cX6_areFitting 8 = .ok (.invokestatic 65, 3) := by decide +kernel
theorem dX6_areFitting_11 : decode cX6_areFitting 11 = .ok (.ifCond .eq 27, 3) := by decide +kernel
theorem dX6_areFitting_14 : decode cX6_areFitting 14 = .ok (.iload_n 2, 1) := by decide +kernel
theorem dX6_areFitting_15 : decode cX6_areFitting 15 = .ok (.iconst 1, 1) := by decide +kernel
theorem dX6_areFitting_16 : decode cX6_areFitting 16 = .ok (.if_icmp .lt 22, 3) := by decide +kernel
theorem dX6_areFitting_19 : decode cX6_areFitting 19 = .ok (.iload_n 2, 1) := by decide +kernel
theorem dX6_areFitting_20 : decode cX6_areFitting 20 = .ok (.bipush 8, 2) := by decide +kernel
theorem dX6_areFitting_22 : decode cX6_areFitting 22 = .ok (.if_icmp .gt 16, 3) := by decide +kernel
theorem dX6_areFitting_25 : decode cX6_areFitting 25 = .ok (.iload_n 3, 1) := by decide +kernel
theorem dX6_areFitting_26 : decode cX6_areFitting 26 = .ok (.ifCond .lt 12, 3) := by decide +kernel
theorem dX6_areFitting_29 : decode cX6_areFitting 29 = .ok (.iload_n 3, 1) := by decide +kernel
theorem dX6_areFitting_30 : decode cX6_areFitting 30 = .ok (.iconst 1, 1) := by decide +kernel
theorem dX6_areFitting_31 : decode cX6_areFitting 31 = .ok (.if_icmp .gt 7, 3) := by decide +kernel
theorem dX6_areFitting_34 : decode cX6_areFitting 34 = .ok (.iconst 1, 1) := by decide +kernel
theorem dX6_areFitting_35 : decode cX6_areFitting 35 = .ok (.goto 4, 3) := by decide +kernel
theorem dX6_areFitting_38 : decode cX6_areFitting 38 = .ok (.iconst 0, 1) := by decide +kernel
theorem dX6_areFitting_39 : decode cX6_areFitting 39 = .ok (.ireturn, 1) := by decide +kernel
theorem dX6_findingOfTwo_0 : decode cX6_findingOfTwo 0 = .ok (.aload_n 0, 1) := by decide +kernel
theorem dX6_findingOfTwo_1 : decode cX6_findingOfTwo 1 = .ok (.getfield 10, 3) := by decide +kernel
theorem dX6_findingOfTwo_4 : decode cX6_findingOfTwo 4 = .ok (.iload_n 1, 1) := by decide +kernel
theorem dX6_findingOfTwo_5 : decode cX6_findingOfTwo 5 = .ok (.iload_n 2, 1) := by decide +kernel
theorem dX6_findingOfTwo_6 : decode cX6_findingOfTwo 6 = .ok (.iload 5, 2) := by decide +kernel
theorem dX6_findingOfTwo_8 : decode cX6_findingOfTwo 8 = .ok (.invokevirtual 81, 3) := by decide +kernel
theorem dX6_findingOfTwo_11 : decode cX6_findingOfTwo 11 = .ok (.istore 6, 2) := by decide +kernel
theorem dX6_findingOfTwo_13 : decode cX6_findingOfTwo 13 = .ok (.iload 6, 2) := by decide +kernel
theorem dX6_findingOfTwo_15 : decode cX6_findingOfTwo 15 = .ok (.ifCond .eq 8, 3) := by decide +kernel
theorem dX6_findingOfTwo_18 : decode cX6_findingOfTwo 18 = .ok (.iload 6, 2) := by decide +kernel
theorem dX6_findingOfTwo_20 : decode cX6_findingOfTwo 20 = .ok (.goto 15, 3) := by decide +kernel
theorem dX6_findingOfTwo_23 : decode cX6_findingOfTwo 23 = .ok (.aload_n 0, 1) := by decide +kernel
theorem dX6_findingOfTwo_24 : decode cX6_findingOfTwo 24 = .ok (.getfield 10, 3) := by decide +kernel
theorem dX6_findingOfTwo_27 : decode cX6_findingOfTwo 27 = .ok (.iload_n 3, 1) := by decide +kernel
theorem dX6_findingOfTwo_28 : decode cX6_findingOfTwo 28 = .ok (.iload 4, 2) := by decide +kernel
theorem dX6_findingOfTwo_30 : decode cX6_findingOfTwo 30 = .ok (.iload 5, 2) := by decide +kernel
theorem dX6_findingOfTwo_32 : decode cX6_findingOfTwo 32 = .ok (.invokevirtual 81, 3) := by decide +kernel
theorem dX6_findingOfTwo_35 : decode cX6_findingOfTwo 35 = .ok (.ireturn, 1) := by decide +kernel
theorem dX6_isSo_0 : decode cX6_isSo 0 = .ok (.iconst 0, 1) := by decide +kernel
theorem dX6_isSo_1 : decode cX6_isSo 1 = .ok (.istore 6, 2) := by decide +kernel
theorem dX6_isSo_3 : decode cX6_isSo 3 = .ok (.iload 6, 2) := by decide +kernel
theorem dX6_isSo_5 : decode cX6_isSo 5 = .ok (.iload 5, 2) := by decide +kernel
theorem dX6_isSo_7 : decode cX6_isSo 7 = .ok (.if_icmp .ge 75, 3) := by decide +kernel
theorem dX6_isSo_10 : decode cX6_isSo 10 = .ok (.aload_n 0, 1) := by decide +kernel
theorem dX6_isSo_11 : decode cX6_isSo 11 = .ok (.getfield 10, 3) := by decide +kernel
theorem dX6_isSo_14 : decode cX6_isSo 14 = .ok (.getfield 301, 3) := by decide +kernel
theorem dX6_isSo_17 : decode cX6_isSo 17 = .ok (.iload_n 3, 1) := by decide +kernel
theorem dX6_isSo_18 : decode cX6_isSo 18 = .ok (.aaload, 1) := by decide +kernel
theorem dX6_isSo_19 : decode cX6_isSo 19 = .ok (.iload 4, 2) := by decide +kernel
theorem dX6_isSo_21 : decode cX6_isSo 21 = .ok (.iload 6, 2) := by decide +kernel
theorem dX6_isSo_23 : decode cX6_isSo 23 = .ok (.iadd, 1) := by decide +kernel
theorem dX6_isSo_24 : decode cX6_isSo 24 = .ok (.iaload, 1) := by decide +kernel
theorem dX6_isSo_25 : decode cX6_isSo 25 = .ok (.istore 7, 2) := by decide +kernel
theorem dX6_isSo_27 : decode cX6_isSo 27 = .ok (.aload_n 0, 1) := by decide +kernel
theorem dX6_isSo_28 : decode cX6_isSo 28 = .ok (.getfield 30, 3) := by decide +kernel
theorem dX6_isSo_31 : decode cX6_isSo 31 = .ok (.iload 7, 2) := by decide +kernel
theorem dX6_isSo_33 : decode cX6_isSo 33 = .ok (.invokevirtual 132, 3) := by decide +kernel
theorem dX6_isSo_36 : decode cX6_isSo 36 = .ok (.ifCond .eq 29, 3) := by decide +kernel
theorem dX6_isSo_39 : decode cX6_isSo 39 = .ok (.aload_n 0, 1) := by decide +kernel
theorem dX6_isSo_40 : decode cX6_isSo 40 = .ok (.getfield 30, 3) := by decide +kernel
theorem dX6_isSo_43 : decode cX6_isSo 43 = .ok (.iload 7, 2) := by decide +kernel
theorem dX6_isSo_45 : decode cX6_isSo 45 = .ok (.invokevirtual 202, 3) := by decide +kernel
theorem dX6_isSo_48 : decode cX6_isSo 48 = .ok (.aload_n 0, 1) := by decide +kernel
theorem dX6_isSo_49 : decode cX6_isSo 49 = .ok (.getfield 10, 3) := by decide +kernel
theorem dX6_isSo_52 : decode cX6_isSo 52 = .ok (.getfield 301, 3) := by decide +kernel
theorem dX6_isSo_55 : decode cX6_isSo 55 = .ok (.iload_n 1, 1) := by decide +kernel
theorem dX6_isSo_56 : decode cX6_isSo 56 = .ok (.aaload, 1) := by decide +kernel
theorem dX6_isSo_57 : decode cX6_isSo 57 = .ok (.iload_n 2, 1) := by decide +kernel
theorem dX6_isSo_58 : decode cX6_isSo 58 = .ok (.iload 6, 2) := by decide +kernel
theorem dX6_isSo_60 : decode cX6_isSo 60 = .ok (.iadd, 1) := by decide +kernel
theorem dX6_isSo_61 : decode cX6_isSo 61 = .ok (.iaload, 1) := by decide +kernel
theorem dX6_isSo_62 : decode cX6_isSo 62 = .ok (.if_icmp .eq 5, 3) := by decide +kernel
theorem dX6_isSo_65 : decode cX6_isSo 65 = .ok (.iconst 0, 1) := by decide +kernel
theorem dX6_isSo_66 : decode cX6_isSo 66 = .ok (.ireturn, 1) := by decide +kernel
theorem dX6_isSo_67 : decode cX6_isSo 67 = .ok (.aload_n 0, 1) := by decide +kernel
theorem dX6_isSo_68 : decode cX6_isSo 68 = .ok (.getfield 30, 3) := by decide +kernel
theorem dX6_isSo_71 : decode cX6_isSo 71 = .ok (.iload 7, 2) := by decide +kernel
theorem dX6_isSo_73 : decode cX6_isSo 73 = .ok (.invokevirtual 152, 3) := by decide +kernel
theorem dX6_isSo_76 : decode cX6_isSo 76 = .ok (.iinc 6 1, 3) := by decide +kernel
theorem dX6_isSo_79 : decode cX6_isSo 79 = .ok (.goto (-76), 3) := by decide +kernel
theorem dX6_isSo_82 : decode cX6_isSo 82 = .ok (.iconst 1, 1) := by decide +kernel
theorem dX6_isSo_83 : decode cX6_isSo 83 = .ok (.ireturn, 1) := by decide +kernel
theorem dX6_owedFrom_0 : decode cX6_owedFrom 0 = .ok (.aload_n 0, 1) := by decide +kernel
theorem dX6_owedFrom_1 : decode cX6_owedFrom 1 = .ok (.getfield 30, 3) := by decide +kernel
theorem dX6_owedFrom_4 : decode cX6_owedFrom 4 = .ok (.aload_n 0, 1) := by decide +kernel
theorem dX6_owedFrom_5 : decode cX6_owedFrom 5 = .ok (.getfield 26, 3) := by decide +kernel
theorem dX6_owedFrom_8 : decode cX6_owedFrom 8 = .ok (.invokevirtual 119, 3) := by decide +kernel
theorem dX6_owedFrom_11 : decode cX6_owedFrom 11 = .ok (.iconst 0, 1) := by decide +kernel
theorem dX6_owedFrom_12 : decode cX6_owedFrom 12 = .ok (.istore 5, 2) := by decide +kernel
theorem dX6_owedFrom_14 : decode cX6_owedFrom 14 = .ok (.iconst 0, 1) := by decide +kernel
theorem dX6_owedFrom_15 : decode cX6_owedFrom 15 = .ok (.istore 6, 2) := by decide +kernel
theorem dX6_owedFrom_17 : decode cX6_owedFrom 17 = .ok (.iload 6, 2) := by decide +kernel
theorem dX6_owedFrom_19 : decode cX6_owedFrom 19 = .ok (.iload_n 3, 1) := by decide +kernel
theorem dX6_owedFrom_20 : decode cX6_owedFrom 20 = .ok (.if_icmp .ge 72, 3) := by decide +kernel
theorem dX6_owedFrom_23 : decode cX6_owedFrom 23 = .ok (.aload_n 0, 1) := by decide +kernel
theorem dX6_owedFrom_24 : decode cX6_owedFrom 24 = .ok (.getfield 10, 3) := by decide +kernel
theorem dX6_owedFrom_27 : decode cX6_owedFrom 27 = .ok (.getfield 301, 3) := by decide +kernel
theorem dX6_owedFrom_30 : decode cX6_owedFrom 30 = .ok (.iload_n 1, 1) := by decide +kernel
theorem dX6_owedFrom_31 : decode cX6_owedFrom 31 = .ok (.aaload, 1) := by decide +kernel
theorem dX6_owedFrom_32 : decode cX6_owedFrom 32 = .ok (.iload_n 2, 1) := by decide +kernel
theorem dX6_owedFrom_33 : decode cX6_owedFrom 33 = .ok (.iload 6, 2) := by decide +kernel
theorem dX6_owedFrom_35 : decode cX6_owedFrom 35 = .ok (.iadd, 1) := by decide +kernel
theorem dX6_owedFrom_36 : decode cX6_owedFrom 36 = .ok (.iaload, 1) := by decide +kernel
theorem dX6_owedFrom_37 : decode cX6_owedFrom 37 = .ok (.istore 7, 2) := by decide +kernel
theorem dX6_owedFrom_39 : decode cX6_owedFrom 39 = .ok (.aload_n 0, 1) := by decide +kernel
theorem dX6_owedFrom_40 : decode cX6_owedFrom 40 = .ok (.getfield 30, 3) := by decide +kernel
theorem dX6_owedFrom_43 : decode cX6_owedFrom 43 = .ok (.iload 7, 2) := by decide +kernel
theorem dX6_owedFrom_45 : decode cX6_owedFrom 45 = .ok (.invokevirtual 132, 3) := by decide +kernel
theorem dX6_owedFrom_48 : decode cX6_owedFrom 48 = .ok (.ifCond .ne 6, 3) := by decide +kernel
theorem dX6_owedFrom_51 : decode cX6_owedFrom 51 = .ok (.ldc 198, 2) := by decide +kernel
theorem dX6_owedFrom_53 : decode cX6_owedFrom 53 = .ok (.ireturn, 1) := by decide +kernel
theorem dX6_owedFrom_54 : decode cX6_owedFrom 54 = .ok (.iload 6, 2) := by decide +kernel
theorem dX6_owedFrom_56 : decode cX6_owedFrom 56 = .ok (.iload 4, 2) := by decide +kernel
theorem dX6_owedFrom_58 : decode cX6_owedFrom 58 = .ok (.if_icmp .lt 19, 3) := by decide +kernel
theorem dX6_owedFrom_61 : decode cX6_owedFrom 61 = .ok (.iload 5, 2) := by decide +kernel
theorem dX6_owedFrom_63 : decode cX6_owedFrom 63 = .ok (.aload_n 0, 1) := by decide +kernel
theorem dX6_owedFrom_64 : decode cX6_owedFrom 64 = .ok (.getfield 30, 3) := by decide +kernel
theorem dX6_owedFrom_67 : decode cX6_owedFrom 67 = .ok (.iload 7, 2) := by decide +kernel
theorem dX6_owedFrom_69 : decode cX6_owedFrom 69 = .ok (.invokevirtual 202, 3) := by decide +kernel
theorem dX6_owedFrom_72 : decode cX6_owedFrom 72 = .ok (.iconst 2, 1) := by decide +kernel
theorem dX6_owedFrom_73 : decode cX6_owedFrom 73 = .ok (.idiv, 1) := by decide +kernel
theorem dX6_owedFrom_74 : decode cX6_owedFrom 74 = .ok (.iadd, 1) := by decide +kernel
theorem dX6_owedFrom_75 : decode cX6_owedFrom 75 = .ok (.istore 5, 2) := by decide +kernel
theorem dX6_owedFrom_77 : decode cX6_owedFrom 77 = .ok (.aload_n 0, 1) := by decide +kernel
theorem dX6_owedFrom_78 : decode cX6_owedFrom 78 = .ok (.getfield 30, 3) := by decide +kernel
theorem dX6_owedFrom_81 : decode cX6_owedFrom 81 = .ok (.iload 7, 2) := by decide +kernel
theorem dX6_owedFrom_83 : decode cX6_owedFrom 83 = .ok (.invokevirtual 152, 3) := by decide +kernel
theorem dX6_owedFrom_86 : decode cX6_owedFrom 86 = .ok (.iinc 6 1, 3) := by decide +kernel
theorem dX6_owedFrom_89 : decode cX6_owedFrom 89 = .ok (.goto (-72), 3) := by decide +kernel
theorem dX6_owedFrom_92 : decode cX6_owedFrom 92 = .ok (.iload 5, 2) := by decide +kernel
theorem dX6_owedFrom_94 : decode cX6_owedFrom 94 = .ok (.ireturn, 1) := by decide +kernel
theorem dX6_isOfKind_0 : decode cX6_isOfKind 0 = .ok (.iload_n 1, 1) := by decide +kernel
theorem dX6_isOfKind_1 : decode cX6_isOfKind 1 = .ok (.tableswitch 74 0 4 #[35, 37, 74, 74, 58], 35) := by decide +kernel
theorem dX6_isOfKind_36 : decode cX6_isOfKind 36 = .ok (.iconst 1, 1) := by decide +kernel
theorem dX6_isOfKind_37 : decode cX6_isOfKind 37 = .ok (.ireturn, 1) := by decide +kernel
theorem dX6_isOfKind_38 : decode cX6_isOfKind 38 = .ok (.iload_n 0, 1) := by decide +kernel
theorem dX6_isOfKind_39 : decode cX6_isOfKind 39 = .ok (.iconst 1, 1) := by decide +kernel
theorem dX6_isOfKind_40 : decode cX6_isOfKind 40 = .ok (.if_icmp .eq 13, 3) := by decide +kernel
theorem dX6_isOfKind_43 : decode cX6_isOfKind 43 = .ok (.iload_n 0, 1) := by decide +kernel
theorem dX6_isOfKind_44 : decode cX6_isOfKind 44 = .ok (.iconst 2, 1) := by decide +kernel
theorem dX6_isOfKind_45 : decode cX6_isOfKind 45 = .ok (.if_icmp .eq 8, 3) := by decide +kernel
theorem dX6_isOfKind_48 : decode cX6_isOfKind 48 = .ok (.iload_n 0, 1) := by decide +kernel
theorem dX6_isOfKind_49 : decode cX6_isOfKind 49 = .ok (.iconst 3, 1) := by decide +kernel
theorem dX6_isOfKind_50 : decode cX6_isOfKind 50 = .ok (.if_icmp .ne 7, 3) := by decide +kernel
theorem dX6_isOfKind_53 : decode cX6_isOfKind 53 = .ok (.iconst 1, 1) := by decide +kernel
theorem dX6_isOfKind_54 : decode cX6_isOfKind 54 = .ok (.goto 4, 3) := by decide +kernel
theorem dX6_isOfKind_57 : decode cX6_isOfKind 57 = .ok (.iconst 0, 1) := by decide +kernel
theorem dX6_isOfKind_58 : decode cX6_isOfKind 58 = .ok (.ireturn, 1) := by decide +kernel
theorem dX6_isOfKind_59 : decode cX6_isOfKind 59 = .ok (.iload_n 0, 1) := by decide +kernel
theorem dX6_isOfKind_60 : decode cX6_isOfKind 60 = .ok (.iconst 4, 1) := by decide +kernel
theorem dX6_isOfKind_61 : decode cX6_isOfKind 61 = .ok (.if_icmp .eq 8, 3) := by decide +kernel
theorem dX6_isOfKind_64 : decode cX6_isOfKind 64 = .ok (.iload_n 0, 1) := by decide +kernel
theorem dX6_isOfKind_65 : decode cX6_isOfKind 65 = .ok (.iconst 5, 1) := by decide +kernel
theorem dX6_isOfKind_66 : decode cX6_isOfKind 66 = .ok (.if_icmp .ne 7, 3) := by decide +kernel
theorem dX6_isOfKind_69 : decode cX6_isOfKind 69 = .ok (.iconst 1, 1) := by decide +kernel
theorem dX6_isOfKind_70 : decode cX6_isOfKind 70 = .ok (.goto 4, 3) := by decide +kernel
theorem dX6_isOfKind_73 : decode cX6_isOfKind 73 = .ok (.iconst 0, 1) := by decide +kernel
theorem dX6_isOfKind_74 : decode cX6_isOfKind 74 = .ok (.ireturn, 1) := by decide +kernel
theorem dX6_isOfKind_75 : decode cX6_isOfKind 75 = .ok (.iload_n 0, 1) := by decide +kernel
theorem dX6_isOfKind_76 : decode cX6_isOfKind 76 = .ok (.iload_n 1, 1) := by decide +kernel
theorem dX6_isOfKind_77 : decode cX6_isOfKind 77 = .ok (.if_icmp .ne 7, 3) := by decide +kernel
theorem dX6_isOfKind_80 : decode cX6_isOfKind 80 = .ok (.iconst 1, 1) := by decide +kernel
theorem dX6_isOfKind_81 : decode cX6_isOfKind 81 = .ok (.goto 4, 3) := by decide +kernel
theorem dX6_isOfKind_84 : decode cX6_isOfKind 84 = .ok (.iconst 0, 1) := by decide +kernel
theorem dX6_isOfKind_85 : decode cX6_isOfKind 85 = .ok (.ireturn, 1) := by decide +kernel
theorem dX6_power_0 : decode cX6_power 0 = .ok (.iconst 1, 1) := by decide +kernel
theorem dX6_power_1 : decode cX6_power 1 = .ok (.istore_n 2, 1) := by decide +kernel
theorem dX6_power_2 : decode cX6_power 2 = .ok (.iconst 0, 1) := by decide +kernel
theorem dX6_power_3 : decode cX6_power 3 = .ok (.istore_n 3, 1) := by decide +kernel
theorem dX6_power_4 : decode cX6_power 4 = .ok (.iload_n 3, 1) := by decide +kernel
theorem dX6_power_5 : decode cX6_power 5 = .ok (.iload_n 1, 1) := by decide +kernel
theorem dX6_power_6 : decode cX6_power 6 = .ok (.if_icmp .ge 13, 3) := by decide +kernel
theorem dX6_power_9 : decode cX6_power 9 = .ok (.iload_n 2, 1) := by decide +kernel
theorem dX6_power_10 : decode cX6_power 10 = .ok (.iload_n 0, 1) := by decide +kernel
theorem dX6_power_11 : decode cX6_power 11 = .ok (.imul, 1) := by decide +kernel
theorem dX6_power_12 : decode cX6_power 12 = .ok (.istore_n 2, 1) := by decide +kernel
theorem dX6_power_13 : decode cX6_power 13 = .ok (.iinc 3 1, 3) := by decide +kernel
theorem dX6_power_16 : decode cX6_power 16 = .ok (.goto (-12), 3) := by decide +kernel
theorem dX6_power_19 : decode cX6_power 19 = .ok (.iload_n 2, 1) := by decide +kernel
theorem dX6_power_20 : decode cX6_power 20 = .ok (.ireturn, 1) := by decide +kernel
theorem dX6_commonDivisor_0 : decode cX6_commonDivisor 0 = .ok (.iload_n 1, 1) := by decide +kernel
theorem dX6_commonDivisor_1 : decode cX6_commonDivisor 1 = .ok (.istore_n 2, 1) := by decide +kernel
theorem dX6_commonDivisor_2 : decode cX6_commonDivisor 2 = .ok (.iload_n 0, 1) := by decide +kernel
theorem dX6_commonDivisor_3 : decode cX6_commonDivisor 3 = .ok (.istore_n 3, 1) := by decide +kernel
theorem dX6_commonDivisor_4 : decode cX6_commonDivisor 4 = .ok (.iconst 0, 1) := by decide +kernel
theorem dX6_commonDivisor_5 : decode cX6_commonDivisor 5 = .ok (.istore 4, 2) := by decide +kernel
theorem dX6_commonDivisor_7 : decode cX6_commonDivisor 7 = .ok (.iload 4, 2) := by decide +kernel
theorem dX6_commonDivisor_9 : decode cX6_commonDivisor 9 = .ok (.bipush 64, 2) := by decide +kernel
theorem dX6_commonDivisor_11 : decode cX6_commonDivisor 11 = .ok (.if_icmp .ge 23, 3) := by decide +kernel
theorem dX6_commonDivisor_14 : decode cX6_commonDivisor 14 = .ok (.iload_n 3, 1) := by decide +kernel
theorem dX6_commonDivisor_15 : decode cX6_commonDivisor 15 = .ok (.ifCond .eq 19, 3) := by decide +kernel
theorem dX6_commonDivisor_18 : decode cX6_commonDivisor 18 = .ok (.iload_n 2, 1) := by decide +kernel
theorem dX6_commonDivisor_19 : decode cX6_commonDivisor 19 = .ok (.iload_n 3, 1) := by decide +kernel
theorem dX6_commonDivisor_20 : decode cX6_commonDivisor 20 = .ok (.irem, 1) := by decide +kernel
theorem dX6_commonDivisor_21 : decode cX6_commonDivisor 21 = .ok (.istore 5, 2) := by decide +kernel
theorem dX6_commonDivisor_23 : decode cX6_commonDivisor 23 = .ok (.iload_n 3, 1) := by decide +kernel
theorem dX6_commonDivisor_24 : decode cX6_commonDivisor 24 = .ok (.istore_n 2, 1) := by decide +kernel
theorem dX6_commonDivisor_25 : decode cX6_commonDivisor 25 = .ok (.iload 5, 2) := by decide +kernel
theorem dX6_commonDivisor_27 : decode cX6_commonDivisor 27 = .ok (.istore_n 3, 1) := by decide +kernel
theorem dX6_commonDivisor_28 : decode cX6_commonDivisor 28 = .ok (.iinc 4 1, 3) := by decide +kernel
theorem dX6_commonDivisor_31 : decode cX6_commonDivisor 31 = .ok (.goto (-24), 3) := by decide +kernel
theorem dX6_commonDivisor_34 : decode cX6_commonDivisor 34 = .ok (.iload_n 2, 1) := by decide +kernel
theorem dX6_commonDivisor_35 : decode cX6_commonDivisor 35 = .ok (.ireturn, 1) := by decide +kernel
