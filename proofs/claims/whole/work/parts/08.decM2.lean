theorem dX7_gives_0 : decode cX7_gives 0 = .ok (.sipush 143, 3) := by decide +kernel
theorem dX7_gives_3 : decode cX7_gives 3 = .ok (.bipush 121, 2) := by decide +kernel
theorem dX7_gives_5 : decode cX7_gives 5 = .ok (.iload_n 1, 1) := by decide +kernel
theorem dX7_gives_6 : decode cX7_gives 6 = .ok (.imul, 1) := by decide +kernel
theorem dX7_gives_7 : decode cX7_gives 7 = .ok (.iadd, 1) := by decide +kernel
theorem dX7_gives_8 : decode cX7_gives 8 = .ok (.istore 5, 2) := by decide +kernel
theorem dX7_gives_10 : decode cX7_gives 10 = .ok (.aload_n 0, 1) := by decide +kernel
theorem dX7_gives_11 : decode cX7_gives 11 = .ok (.getfield 40, 3) := by decide +kernel
theorem dX7_gives_14 : decode cX7_gives 14 = .ok (.iconst 0, 1) := by decide +kernel
theorem dX7_gives_15 : decode cX7_gives 15 = .ok (.iload_n 2, 1) := by decide +kernel
theorem dX7_gives_16 : decode cX7_gives 16 = .ok (.iastore, 1) := by decide +kernel
theorem dX7_gives_17 : decode cX7_gives 17 = .ok (.aload_n 0, 1) := by decide +kernel
theorem dX7_gives_18 : decode cX7_gives 18 = .ok (.getfield 40, 3) := by decide +kernel
theorem dX7_gives_21 : decode cX7_gives 21 = .ok (.iconst 1, 1) := by decide +kernel
theorem dX7_gives_22 : decode cX7_gives 22 = .ok (.iload_n 3, 1) := by decide +kernel
theorem dX7_gives_23 : decode cX7_gives 23 = .ok (.iastore, 1) := by decide +kernel
theorem dX7_gives_24 : decode cX7_gives 24 = .ok (.aload_n 0, 1) := by decide +kernel
theorem dX7_gives_25 : decode cX7_gives 25 = .ok (.getfield 40, 3) := by decide +kernel
theorem dX7_gives_28 : decode cX7_gives 28 = .ok (.iconst 2, 1) := by decide +kernel
theorem dX7_gives_29 : decode cX7_gives 29 = .ok (.iload 4, 2) := by decide +kernel
theorem dX7_gives_31 : decode cX7_gives 31 = .ok (.iastore, 1) := by decide +kernel
theorem dX7_gives_32 : decode cX7_gives 32 = .ok (.aload_n 0, 1) := by decide +kernel
theorem dX7_gives_33 : decode cX7_gives 33 = .ok (.getfield 9, 3) := by decide +kernel
theorem dX7_gives_36 : decode cX7_gives 36 = .ok (.iload 5, 2) := by decide +kernel
theorem dX7_gives_38 : decode cX7_gives 38 = .ok (.iaload, 1) := by decide +kernel
theorem dX7_gives_39 : decode cX7_gives 39 = .ok (.ifCond .le 12, 3) := by decide +kernel
theorem dX7_gives_42 : decode cX7_gives 42 = .ok (.aload_n 0, 1) := by decide +kernel
theorem dX7_gives_43 : decode cX7_gives 43 = .ok (.iload 5, 2) := by decide +kernel
theorem dX7_gives_45 : decode cX7_gives 45 = .ok (.invokevirtual 195, 3) := by decide +kernel
theorem dX7_gives_48 : decode cX7_gives 48 = .ok (.goto 4, 3) := by decide +kernel
theorem dX7_gives_51 : decode cX7_gives 51 = .ok (.iload_n 2, 1) := by decide +kernel
theorem dX7_gives_52 : decode cX7_gives 52 = .ok (.istore 6, 2) := by decide +kernel
theorem dX7_gives_54 : decode cX7_gives 54 = .ok (.iload_n 1, 1) := by decide +kernel
theorem dX7_gives_55 : decode cX7_gives 55 = .ok (.ifCond .ne 13, 3) := by decide +kernel
theorem dX7_gives_58 : decode cX7_gives 58 = .ok (.iload 6, 2) := by decide +kernel
theorem dX7_gives_60 : decode cX7_gives 60 = .ok (.iconst 0, 1) := by decide +kernel
theorem dX7_gives_61 : decode cX7_gives 61 = .ok (.iconst 3, 1) := by decide +kernel
theorem dX7_gives_62 : decode cX7_gives 62 = .ok (.invokestatic 198, 3) := by decide +kernel
theorem dX7_gives_65 : decode cX7_gives 65 = .ok (.goto 11, 3) := by decide +kernel
theorem dX7_gives_68 : decode cX7_gives 68 = .ok (.iload 6, 2) := by decide +kernel
theorem dX7_gives_70 : decode cX7_gives 70 = .ok (.iconst 0, 1) := by decide +kernel
theorem dX7_gives_71 : decode cX7_gives 71 = .ok (.bipush 99, 2) := by decide +kernel
theorem dX7_gives_73 : decode cX7_gives 73 = .ok (.invokestatic 198, 3) := by decide +kernel
theorem dX7_gives_76 : decode cX7_gives 76 = .ok (.ireturn, 1) := by decide +kernel
theorem dX7_law_0 : decode cX7_law 0 = .ok (.iload_n 1, 1) := by decide +kernel
theorem dX7_law_1 : decode cX7_law 1 = .ok (.iconst 0, 1) := by decide +kernel
theorem dX7_law_2 : decode cX7_law 2 = .ok (.iconst 1, 1) := by decide +kernel
theorem dX7_law_3 : decode cX7_law 3 = .ok (.invokestatic 57, 3) := by decide +kernel
theorem dX7_law_6 : decode cX7_law 6 = .ok (.ifCond .eq 15, 3) := by decide +kernel
theorem dX7_law_9 : decode cX7_law 9 = .ok (.aload_n 0, 1) := by decide +kernel
theorem dX7_law_10 : decode cX7_law 10 = .ok (.iload_n 1, 1) := by decide +kernel
theorem dX7_law_11 : decode cX7_law 11 = .ok (.iload_n 2, 1) := by decide +kernel
theorem dX7_law_12 : decode cX7_law 12 = .ok (.iload_n 3, 1) := by decide +kernel
theorem dX7_law_13 : decode cX7_law 13 = .ok (.iload 4, 2) := by decide +kernel
theorem dX7_law_15 : decode cX7_law 15 = .ok (.invokevirtual 93, 3) := by decide +kernel
theorem dX7_law_18 : decode cX7_law 18 = .ok (.goto 9, 3) := by decide +kernel
theorem dX7_law_21 : decode cX7_law 21 = .ok (.aload_n 0, 1) := by decide +kernel
theorem dX7_law_22 : decode cX7_law 22 = .ok (.ldc 103, 2) := by decide +kernel
theorem dX7_law_24 : decode cX7_law 24 = .ok (.invokevirtual 104, 3) := by decide +kernel
theorem dX7_law_27 : decode cX7_law 27 = .ok (.ireturn, 1) := by decide +kernel
theorem dX7_nextOf_0 : decode cX7_nextOf 0 = .ok (.iconst 0, 1) := by decide +kernel
theorem dX7_nextOf_1 : decode cX7_nextOf 1 = .ok (.istore_n 3, 1) := by decide +kernel
theorem dX7_nextOf_2 : decode cX7_nextOf 2 = .ok (.aload_n 0, 1) := by decide +kernel
theorem dX7_nextOf_3 : decode cX7_nextOf 3 = .ok (.getfield 9, 3) := by decide +kernel
theorem dX7_nextOf_6 : decode cX7_nextOf 6 = .ok (.bipush 9, 2) := by decide +kernel
theorem dX7_nextOf_8 : decode cX7_nextOf 8 = .ok (.iload_n 1, 1) := by decide +kernel
theorem dX7_nextOf_9 : decode cX7_nextOf 9 = .ok (.iadd, 1) := by decide +kernel
theorem dX7_nextOf_10 : decode cX7_nextOf 10 = .ok (.iaload, 1) := by decide +kernel
theorem dX7_nextOf_11 : decode cX7_nextOf 11 = .ok (.iload_n 3, 1) := by decide +kernel
theorem dX7_nextOf_12 : decode cX7_nextOf 12 = .ok (.ishr, 1) := by decide +kernel
theorem dX7_nextOf_13 : decode cX7_nextOf 13 = .ok (.iconst 1, 1) := by decide +kernel
theorem dX7_nextOf_14 : decode cX7_nextOf 14 = .ok (.iand, 1) := by decide +kernel
theorem dX7_nextOf_15 : decode cX7_nextOf 15 = .ok (.ifCond .eq 20, 3) := by decide +kernel
theorem dX7_nextOf_18 : decode cX7_nextOf 18 = .ok (.aload_n 0, 1) := by decide +kernel
theorem dX7_nextOf_19 : decode cX7_nextOf 19 = .ok (.iload_n 3, 1) := by decide +kernel
theorem dX7_nextOf_20 : decode cX7_nextOf 20 = .ok (.iload_n 2, 1) := by decide +kernel
theorem dX7_nextOf_21 : decode cX7_nextOf 21 = .ok (.invokevirtual 81, 3) := by decide +kernel
theorem dX7_nextOf_24 : decode cX7_nextOf 24 = .ok (.aload_n 0, 1) := by decide +kernel
theorem dX7_nextOf_25 : decode cX7_nextOf 25 = .ok (.iload_n 1, 1) := by decide +kernel
theorem dX7_nextOf_26 : decode cX7_nextOf 26 = .ok (.iload_n 2, 1) := by decide +kernel
theorem dX7_nextOf_27 : decode cX7_nextOf 27 = .ok (.invokevirtual 81, 3) := by decide +kernel
theorem dX7_nextOf_30 : decode cX7_nextOf 30 = .ok (.iconst 1, 1) := by decide +kernel
theorem dX7_nextOf_31 : decode cX7_nextOf 31 = .ok (.isub, 1) := by decide +kernel
theorem dX7_nextOf_32 : decode cX7_nextOf 32 = .ok (.if_icmp .eq 9, 3) := by decide +kernel
theorem dX7_nextOf_35 : decode cX7_nextOf 35 = .ok (.iinc 3 1, 3) := by decide +kernel
theorem dX7_nextOf_38 : decode cX7_nextOf 38 = .ok (.goto (-36), 3) := by decide +kernel
theorem dX7_nextOf_41 : decode cX7_nextOf 41 = .ok (.iload_n 3, 1) := by decide +kernel
theorem dX7_nextOf_42 : decode cX7_nextOf 42 = .ok (.ireturn, 1) := by decide +kernel
theorem dX7_goes_0 : decode cX7_goes 0 = .ok (.iconst 0, 1) := by decide +kernel
theorem dX7_goes_1 : decode cX7_goes 1 = .ok (.istore_n 1, 1) := by decide +kernel
theorem dX7_goes_2 : decode cX7_goes 2 = .ok (.iload_n 1, 1) := by decide +kernel
theorem dX7_goes_3 : decode cX7_goes 3 = .ok (.aload_n 0, 1) := by decide +kernel
theorem dX7_goes_4 : decode cX7_goes 4 = .ok (.getfield 9, 3) := by decide +kernel
theorem dX7_goes_7 : decode cX7_goes 7 = .ok (.iconst 2, 1) := by decide +kernel
theorem dX7_goes_8 : decode cX7_goes 8 = .ok (.iaload, 1) := by decide +kernel
theorem dX7_goes_9 : decode cX7_goes 9 = .ok (.if_icmp .ge 34, 3) := by decide +kernel
theorem dX7_goes_12 : decode cX7_goes 12 = .ok (.aload_n 0, 1) := by decide +kernel
theorem dX7_goes_13 : decode cX7_goes 13 = .ok (.getfield 46, 3) := by decide +kernel
theorem dX7_goes_16 : decode cX7_goes 16 = .ok (.iload_n 1, 1) := by decide +kernel
theorem dX7_goes_17 : decode cX7_goes 17 = .ok (.aload_n 0, 1) := by decide +kernel
theorem dX7_goes_18 : decode cX7_goes 18 = .ok (.iload_n 1, 1) := by decide +kernel
theorem dX7_goes_19 : decode cX7_goes 19 = .ok (.invokevirtual 84, 3) := by decide +kernel
theorem dX7_goes_22 : decode cX7_goes 22 = .ok (.bipush 99, 2) := by decide +kernel
theorem dX7_goes_24 : decode cX7_goes 24 = .ok (.if_icmp .ne 7, 3) := by decide +kernel
theorem dX7_goes_27 : decode cX7_goes 27 = .ok (.iconst 0, 1) := by decide +kernel
theorem dX7_goes_28 : decode cX7_goes 28 = .ok (.goto 8, 3) := by decide +kernel
theorem dX7_goes_31 : decode cX7_goes 31 = .ok (.aload_n 0, 1) := by decide +kernel
theorem dX7_goes_32 : decode cX7_goes 32 = .ok (.iload_n 1, 1) := by decide +kernel
theorem dX7_goes_33 : decode cX7_goes 33 = .ok (.invokevirtual 128, 3) := by decide +kernel
theorem dX7_goes_36 : decode cX7_goes 36 = .ok (.iastore, 1) := by decide +kernel
theorem dX7_goes_37 : decode cX7_goes 37 = .ok (.iinc 1 1, 3) := by decide +kernel
theorem dX7_goes_40 : decode cX7_goes 40 = .ok (.goto (-38), 3) := by decide +kernel
theorem dX7_goes_43 : decode cX7_goes 43 = .ok (.iconst 0, 1) := by decide +kernel
theorem dX7_goes_44 : decode cX7_goes 44 = .ok (.istore_n 1, 1) := by decide +kernel
theorem dX7_goes_45 : decode cX7_goes 45 = .ok (.iload_n 1, 1) := by decide +kernel
theorem dX7_goes_46 : decode cX7_goes 46 = .ok (.aload_n 0, 1) := by decide +kernel
theorem dX7_goes_47 : decode cX7_goes 47 = .ok (.getfield 9, 3) := by decide +kernel
theorem dX7_goes_50 : decode cX7_goes 50 = .ok (.iconst 2, 1) := by decide +kernel
theorem dX7_goes_51 : decode cX7_goes 51 = .ok (.iaload, 1) := by decide +kernel
theorem dX7_goes_52 : decode cX7_goes 52 = .ok (.if_icmp .ge 56, 3) := by decide +kernel
theorem dX7_goes_55 : decode cX7_goes 55 = .ok (.iconst 0, 1) := by decide +kernel
theorem dX7_goes_56 : decode cX7_goes 56 = .ok (.istore_n 2, 1) := by decide +kernel
theorem dX7_goes_57 : decode cX7_goes 57 = .ok (.iload_n 2, 1) := by decide +kernel
theorem dX7_goes_58 : decode cX7_goes 58 = .ok (.aload_n 0, 1) := by decide +kernel
theorem dX7_goes_59 : decode cX7_goes 59 = .ok (.getfield 46, 3) := by decide +kernel
theorem dX7_goes_62 : decode cX7_goes 62 = .ok (.iload_n 1, 1) := by decide +kernel
theorem dX7_goes_63 : decode cX7_goes 63 = .ok (.iaload, 1) := by decide +kernel
theorem dX7_goes_64 : decode cX7_goes 64 = .ok (.if_icmp .ge 38, 3) := by decide +kernel
theorem dX7_goes_67 : decode cX7_goes 67 = .ok (.aload_n 0, 1) := by decide +kernel
theorem dX7_goes_68 : decode cX7_goes 68 = .ok (.iload_n 1, 1) := by decide +kernel
theorem dX7_goes_69 : decode cX7_goes 69 = .ok (.invokevirtual 69, 3) := by decide +kernel
theorem dX7_goes_72 : decode cX7_goes 72 = .ok (.ifCond .ne 30, 3) := by decide +kernel
theorem dX7_goes_75 : decode cX7_goes 75 = .ok (.aload_n 0, 1) := by decide +kernel
theorem dX7_goes_76 : decode cX7_goes 76 = .ok (.iload_n 1, 1) := by decide +kernel
theorem dX7_goes_77 : decode cX7_goes 77 = .ok (.iconst 3, 1) := by decide +kernel
theorem dX7_goes_78 : decode cX7_goes 78 = .ok (.aload_n 0, 1) := by decide +kernel
theorem dX7_goes_79 : decode cX7_goes 79 = .ok (.aload_n 0, 1) := by decide +kernel
theorem dX7_goes_80 : decode cX7_goes 80 = .ok (.iload_n 1, 1) := by decide +kernel
theorem dX7_goes_81 : decode cX7_goes 81 = .ok (.iconst 3, 1) := by decide +kernel
theorem dX7_goes_82 : decode cX7_goes 82 = .ok (.invokevirtual 61, 3) := by decide +kernel
theorem dX7_goes_85 : decode cX7_goes 85 = .ok (.aload_n 0, 1) := by decide +kernel
theorem dX7_goes_86 : decode cX7_goes 86 = .ok (.iload_n 1, 1) := by decide +kernel
theorem dX7_goes_87 : decode cX7_goes 87 = .ok (.invokevirtual 65, 3) := by decide +kernel
theorem dX7_goes_90 : decode cX7_goes 90 = .ok (.invokevirtual 201, 3) := by decide +kernel
theorem dX7_goes_93 : decode cX7_goes 93 = .ok (.invokevirtual 122, 3) := by decide +kernel
theorem dX7_goes_96 : decode cX7_goes 96 = .ok (.iinc 2 1, 3) := by decide +kernel
theorem dX7_goes_99 : decode cX7_goes 99 = .ok (.goto (-42), 3) := by decide +kernel
theorem dX7_goes_102 : decode cX7_goes 102 = .ok (.iinc 1 1, 3) := by decide +kernel
theorem dX7_goes_105 : decode cX7_goes 105 = .ok (.goto (-60), 3) := by decide +kernel
theorem dX7_goes_108 : decode cX7_goes 108 = .ok (.aload_n 0, 1) := by decide +kernel
theorem dX7_goes_109 : decode cX7_goes 109 = .ok (.getfield 9, 3) := by decide +kernel
theorem dX7_goes_112 : decode cX7_goes 112 = .ok (.iconst 0, 1) := by decide +kernel
theorem dX7_goes_113 : decode cX7_goes 113 = .ok (.dup2, 1) := by decide +kernel
theorem dX7_goes_114 : decode cX7_goes 114 = .ok (.iaload, 1) := by decide +kernel
theorem dX7_goes_115 : decode cX7_goes 115 = .ok (.iconst 1, 1) := by decide +kernel
theorem dX7_goes_116 : decode cX7_goes 116 = .ok (.iadd, 1) := by decide +kernel
theorem dX7_goes_117 : decode cX7_goes 117 = .ok (.iastore, 1) := by decide +kernel
theorem dX7_goes_118 : decode cX7_goes 118 = .ok (.return_, 1) := by decide +kernel
theorem dX7_goesFor_0 : decode cX7_goesFor 0 = .ok (.iconst 0, 1) := by decide +kernel
theorem dX7_goesFor_1 : decode cX7_goesFor 1 = .ok (.istore_n 2, 1) := by decide +kernel
theorem dX7_goesFor_2 : decode cX7_goesFor 2 = .ok (.iload_n 2, 1) := by decide +kernel
theorem dX7_goesFor_3 : decode cX7_goesFor 3 = .ok (.iload_n 1, 1) := by decide +kernel
theorem dX7_goesFor_4 : decode cX7_goesFor 4 = .ok (.if_icmp .ge 13, 3) := by decide +kernel
theorem dX7_goesFor_7 : decode cX7_goesFor 7 = .ok (.aload_n 0, 1) := by decide +kernel
theorem dX7_goesFor_8 : decode cX7_goesFor 8 = .ok (.invokevirtual 204, 3) := by decide +kernel
theorem dX7_goesFor_11 : decode cX7_goesFor 11 = .ok (.iinc 2 1, 3) := by decide +kernel
theorem dX7_goesFor_14 : decode cX7_goesFor 14 = .ok (.goto (-12), 3) := by decide +kernel
theorem dX7_goesFor_17 : decode cX7_goesFor 17 = .ok (.return_, 1) := by decide +kernel
theorem dX7_days_0 : decode cX7_days 0 = .ok (.iload_n 1, 1) := by decide +kernel
theorem dX7_days_1 : decode cX7_days 1 = .ok (.iconst 1, 1) := by decide +kernel
theorem dX7_days_2 : decode cX7_days 2 = .ok (.bipush 60, 2) := by decide +kernel
theorem dX7_days_4 : decode cX7_days 4 = .ok (.invokestatic 57, 3) := by decide +kernel
theorem dX7_days_7 : decode cX7_days 7 = .ok (.ifCond .ne 10, 3) := by decide +kernel
theorem dX7_days_10 : decode cX7_days 10 = .ok (.aload_n 0, 1) := by decide +kernel
theorem dX7_days_11 : decode cX7_days 11 = .ok (.ldc 103, 2) := by decide +kernel
theorem dX7_days_13 : decode cX7_days 13 = .ok (.invokevirtual 104, 3) := by decide +kernel
theorem dX7_days_16 : decode cX7_days 16 = .ok (.ireturn, 1) := by decide +kernel
theorem dX7_days_17 : decode cX7_days 17 = .ok (.aload_n 0, 1) := by decide +kernel
theorem dX7_days_18 : decode cX7_days 18 = .ok (.getfield 9, 3) := by decide +kernel
theorem dX7_days_21 : decode cX7_days 21 = .ok (.iconst 0, 1) := by decide +kernel
theorem dX7_days_22 : decode cX7_days 22 = .ok (.iaload, 1) := by decide +kernel
theorem dX7_days_23 : decode cX7_days 23 = .ok (.iload_n 1, 1) := by decide +kernel
theorem dX7_days_24 : decode cX7_days 24 = .ok (.iadd, 1) := by decide +kernel
theorem dX7_days_25 : decode cX7_days 25 = .ok (.sipush 9999, 3) := by decide +kernel
theorem dX7_days_28 : decode cX7_days 28 = .ok (.if_icmp .le 10, 3) := by decide +kernel
theorem dX7_days_31 : decode cX7_days 31 = .ok (.aload_n 0, 1) := by decide +kernel
theorem dX7_days_32 : decode cX7_days 32 = .ok (.ldc 207, 2) := by decide +kernel
theorem dX7_days_34 : decode cX7_days 34 = .ok (.invokevirtual 104, 3) := by decide +kernel
theorem dX7_days_37 : decode cX7_days 37 = .ok (.ireturn, 1) := by decide +kernel
theorem dX7_days_38 : decode cX7_days 38 = .ok (.aload_n 0, 1) := by decide +kernel
theorem dX7_days_39 : decode cX7_days 39 = .ok (.iload_n 1, 1) := by decide +kernel
theorem dX7_days_40 : decode cX7_days 40 = .ok (.invokevirtual 208, 3) := by decide +kernel
theorem dX7_days_43 : decode cX7_days 43 = .ok (.aload_n 0, 1) := by decide +kernel
theorem dX7_days_44 : decode cX7_days 44 = .ok (.invokevirtual 211, 3) := by decide +kernel
theorem dX7_days_47 : decode cX7_days 47 = .ok (.ireturn, 1) := by decide +kernel
theorem dX7_draw_0 : decode cX7_draw 0 = .ok (.aload_n 0, 1) := by decide +kernel
theorem dX7_draw_1 : decode cX7_draw 1 = .ok (.getfield 9, 3) := by decide +kernel
theorem dX7_draw_4 : decode cX7_draw 4 = .ok (.iconst 1, 1) := by decide +kernel
theorem dX7_draw_5 : decode cX7_draw 5 = .ok (.aload_n 0, 1) := by decide +kernel
theorem dX7_draw_6 : decode cX7_draw 6 = .ok (.getfield 9, 3) := by decide +kernel
theorem dX7_draw_9 : decode cX7_draw 9 = .ok (.iconst 1, 1) := by decide +kernel
theorem dX7_draw_10 : decode cX7_draw 10 = .ok (.iaload, 1) := by decide +kernel
theorem dX7_draw_11 : decode cX7_draw 11 = .ok (.ldc 214, 2) := by decide +kernel
theorem dX7_draw_13 : decode cX7_draw 13 = .ok (.imul, 1) := by decide +kernel
theorem dX7_draw_14 : decode cX7_draw 14 = .ok (.sipush 12345, 3) := by decide +kernel
theorem dX7_draw_17 : decode cX7_draw 17 = .ok (.iadd, 1) := by decide +kernel
theorem dX7_draw_18 : decode cX7_draw 18 = .ok (.iastore, 1) := by decide +kernel
theorem dX7_draw_19 : decode cX7_draw 19 = .ok (.aload_n 0, 1) := by decide +kernel
theorem dX7_draw_20 : decode cX7_draw 20 = .ok (.getfield 9, 3) := by decide +kernel
theorem dX7_draw_23 : decode cX7_draw 23 = .ok (.iconst 1, 1) := by decide +kernel
theorem dX7_draw_24 : decode cX7_draw 24 = .ok (.iaload, 1) := by decide +kernel
theorem dX7_draw_25 : decode cX7_draw 25 = .ok (.bipush 8, 2) := by decide +kernel
theorem dX7_draw_27 : decode cX7_draw 27 = .ok (.iushr, 1) := by decide +kernel
theorem dX7_draw_28 : decode cX7_draw 28 = .ok (.ireturn, 1) := by decide +kernel
theorem dX7_drawn_0 : decode cX7_drawn 0 = .ok (.aload_n 0, 1) := by decide +kernel
theorem dX7_drawn_1 : decode cX7_drawn 1 = .ok (.getfield 9, 3) := by decide +kernel
theorem dX7_drawn_4 : decode cX7_drawn 4 = .ok (.iconst 2, 1) := by decide +kernel
theorem dX7_drawn_5 : decode cX7_drawn 5 = .ok (.iaload, 1) := by decide +kernel
theorem dX7_drawn_6 : decode cX7_drawn 6 = .ok (.ifCond .le 51, 3) := by decide +kernel
theorem dX7_drawn_9 : decode cX7_drawn 9 = .ok (.aload_n 0, 1) := by decide +kernel
theorem dX7_drawn_10 : decode cX7_drawn 10 = .ok (.invokevirtual 215, 3) := by decide +kernel
theorem dX7_drawn_13 : decode cX7_drawn 13 = .ok (.aload_n 0, 1) := by decide +kernel
theorem dX7_drawn_14 : decode cX7_drawn 14 = .ok (.getfield 9, 3) := by decide +kernel
theorem dX7_drawn_17 : decode cX7_drawn 17 = .ok (.iconst 2, 1) := by decide +kernel
theorem dX7_drawn_18 : decode cX7_drawn 18 = .ok (.iaload, 1) := by decide +kernel
theorem dX7_drawn_19 : decode cX7_drawn 19 = .ok (.irem, 1) := by decide +kernel
theorem dX7_drawn_20 : decode cX7_drawn 20 = .ok (.istore_n 1, 1) := by decide +kernel
theorem dX7_drawn_21 : decode cX7_drawn 21 = .ok (.aload_n 0, 1) := by decide +kernel
theorem dX7_drawn_22 : decode cX7_drawn 22 = .ok (.iload_n 1, 1) := by decide +kernel
theorem dX7_drawn_23 : decode cX7_drawn 23 = .ok (.iconst 4, 1) := by decide +kernel
theorem dX7_drawn_24 : decode cX7_drawn 24 = .ok (.aload_n 0, 1) := by decide +kernel
theorem dX7_drawn_25 : decode cX7_drawn 25 = .ok (.invokevirtual 215, 3) := by decide +kernel
theorem dX7_drawn_28 : decode cX7_drawn 28 = .ok (.bipush 10, 2) := by decide +kernel
theorem dX7_drawn_30 : decode cX7_drawn 30 = .ok (.irem, 1) := by decide +kernel
theorem dX7_drawn_31 : decode cX7_drawn 31 = .ok (.invokevirtual 122, 3) := by decide +kernel
theorem dX7_drawn_34 : decode cX7_drawn 34 = .ok (.aload_n 0, 1) := by decide +kernel
theorem dX7_drawn_35 : decode cX7_drawn 35 = .ok (.invokevirtual 215, 3) := by decide +kernel
theorem dX7_drawn_38 : decode cX7_drawn 38 = .ok (.bipush 8, 2) := by decide +kernel
theorem dX7_drawn_40 : decode cX7_drawn 40 = .ok (.irem, 1) := by decide +kernel
theorem dX7_drawn_41 : decode cX7_drawn 41 = .ok (.ifCond .ne 16, 3) := by decide +kernel
theorem dX7_drawn_44 : decode cX7_drawn 44 = .ok (.aload_n 0, 1) := by decide +kernel
theorem dX7_drawn_45 : decode cX7_drawn 45 = .ok (.iload_n 1, 1) := by decide +kernel
theorem dX7_drawn_46 : decode cX7_drawn 46 = .ok (.iconst 3, 1) := by decide +kernel
theorem dX7_drawn_47 : decode cX7_drawn 47 = .ok (.aload_n 0, 1) := by decide +kernel
theorem dX7_drawn_48 : decode cX7_drawn 48 = .ok (.invokevirtual 215, 3) := by decide +kernel
theorem dX7_drawn_51 : decode cX7_drawn 51 = .ok (.bipush 10, 2) := by decide +kernel
theorem dX7_drawn_53 : decode cX7_drawn 53 = .ok (.irem, 1) := by decide +kernel
theorem dX7_drawn_54 : decode cX7_drawn 54 = .ok (.invokevirtual 122, 3) := by decide +kernel
theorem dX7_drawn_57 : decode cX7_drawn 57 = .ok (.aload_n 0, 1) := by decide +kernel
theorem dX7_drawn_58 : decode cX7_drawn 58 = .ok (.invokevirtual 204, 3) := by decide +kernel
theorem dX7_drawn_61 : decode cX7_drawn 61 = .ok (.return_, 1) := by decide +kernel
theorem dX7_loose_0 : decode cX7_loose 0 = .ok (.iload_n 1, 1) := by decide +kernel
theorem dX7_loose_1 : decode cX7_loose 1 = .ok (.iconst 1, 1) := by decide +kernel
theorem dX7_loose_2 : decode cX7_loose 2 = .ok (.bipush 30, 2) := by decide +kernel
theorem dX7_loose_4 : decode cX7_loose 4 = .ok (.invokestatic 57, 3) := by decide +kernel
theorem dX7_loose_7 : decode cX7_loose 7 = .ok (.ifCond .ne 10, 3) := by decide +kernel
theorem dX7_loose_10 : decode cX7_loose 10 = .ok (.aload_n 0, 1) := by decide +kernel
theorem dX7_loose_11 : decode cX7_loose 11 = .ok (.ldc 103, 2) := by decide +kernel
theorem dX7_loose_13 : decode cX7_loose 13 = .ok (.invokevirtual 104, 3) := by decide +kernel
theorem dX7_loose_16 : decode cX7_loose 16 = .ok (.ireturn, 1) := by decide +kernel
theorem dX7_loose_17 : decode cX7_loose 17 = .ok (.aload_n 0, 1) := by decide +kernel
theorem dX7_loose_18 : decode cX7_loose 18 = .ok (.getfield 9, 3) := by decide +kernel
theorem dX7_loose_21 : decode cX7_loose 21 = .ok (.iconst 0, 1) := by decide +kernel
theorem dX7_loose_22 : decode cX7_loose 22 = .ok (.iaload, 1) := by decide +kernel
theorem dX7_loose_23 : decode cX7_loose 23 = .ok (.iload_n 1, 1) := by decide +kernel
theorem dX7_loose_24 : decode cX7_loose 24 = .ok (.iadd, 1) := by decide +kernel
theorem dX7_loose_25 : decode cX7_loose 25 = .ok (.sipush 9999, 3) := by decide +kernel
theorem dX7_loose_28 : decode cX7_loose 28 = .ok (.if_icmp .le 10, 3) := by decide +kernel
theorem dX7_loose_31 : decode cX7_loose 31 = .ok (.aload_n 0, 1) := by decide +kernel
theorem dX7_loose_32 : decode cX7_loose 32 = .ok (.ldc 207, 2) := by decide +kernel
theorem dX7_loose_34 : decode cX7_loose 34 = .ok (.invokevirtual 104, 3) := by decide +kernel
theorem dX7_loose_37 : decode cX7_loose 37 = .ok (.ireturn, 1) := by decide +kernel
theorem dX7_loose_38 : decode cX7_loose 38 = .ok (.iconst 0, 1) := by decide +kernel
theorem dX7_loose_39 : decode cX7_loose 39 = .ok (.istore_n 2, 1) := by decide +kernel
theorem dX7_loose_40 : decode cX7_loose 40 = .ok (.iload_n 2, 1) := by decide +kernel
theorem dX7_loose_41 : decode cX7_loose 41 = .ok (.iload_n 1, 1) := by decide +kernel
theorem dX7_loose_42 : decode cX7_loose 42 = .ok (.if_icmp .ge 13, 3) := by decide +kernel
theorem dX7_loose_45 : decode cX7_loose 45 = .ok (.aload_n 0, 1) := by decide +kernel
theorem dX7_loose_46 : decode cX7_loose 46 = .ok (.invokevirtual 218, 3) := by decide +kernel
theorem dX7_loose_49 : decode cX7_loose 49 = .ok (.iinc 2 1, 3) := by decide +kernel
theorem dX7_loose_52 : decode cX7_loose 52 = .ok (.goto (-12), 3) := by decide +kernel
theorem dX7_loose_55 : decode cX7_loose 55 = .ok (.aload_n 0, 1) := by decide +kernel
theorem dX7_loose_56 : decode cX7_loose 56 = .ok (.invokevirtual 211, 3) := by decide +kernel
theorem dX7_loose_59 : decode cX7_loose 59 = .ok (.ireturn, 1) := by decide +kernel
theorem dX7_day_0 : decode cX7_day 0 = .ok (.iload_n 1, 1) := by decide +kernel
theorem dX7_day_1 : decode cX7_day 1 = .ok (.iconst 0, 1) := by decide +kernel
theorem dX7_day_2 : decode cX7_day 2 = .ok (.sipush 9999, 3) := by decide +kernel
theorem dX7_day_5 : decode cX7_day 5 = .ok (.invokestatic 57, 3) := by decide +kernel
theorem dX7_day_8 : decode cX7_day 8 = .ok (.ifCond .eq 12, 3) := by decide +kernel
theorem dX7_day_11 : decode cX7_day 11 = .ok (.aload_n 0, 1) := by decide +kernel
theorem dX7_day_12 : decode cX7_day 12 = .ok (.iconst 0, 1) := by decide +kernel
theorem dX7_day_13 : decode cX7_day 13 = .ok (.iload_n 1, 1) := by decide +kernel
theorem dX7_day_14 : decode cX7_day 14 = .ok (.invokevirtual 114, 3) := by decide +kernel
theorem dX7_day_17 : decode cX7_day 17 = .ok (.goto 9, 3) := by decide +kernel
theorem dX7_day_20 : decode cX7_day 20 = .ok (.aload_n 0, 1) := by decide +kernel
theorem dX7_day_21 : decode cX7_day 21 = .ok (.ldc 103, 2) := by decide +kernel
theorem dX7_day_23 : decode cX7_day 23 = .ok (.invokevirtual 104, 3) := by decide +kernel
theorem dX7_day_26 : decode cX7_day 26 = .ok (.ireturn, 1) := by decide +kernel
theorem dX7_seed_0 : decode cX7_seed 0 = .ok (.aload_n 0, 1) := by decide +kernel
theorem dX7_seed_1 : decode cX7_seed 1 = .ok (.iconst 1, 1) := by decide +kernel
theorem dX7_seed_2 : decode cX7_seed 2 = .ok (.iload_n 1, 1) := by decide +kernel
theorem dX7_seed_3 : decode cX7_seed 3 = .ok (.invokevirtual 114, 3) := by decide +kernel
theorem dX7_seed_6 : decode cX7_seed 6 = .ok (.ireturn, 1) := by decide +kernel
theorem dX7_then_0 : decode cX7_then 0 = .ok (.aload_n 0, 1) := by decide +kernel
theorem dX7_then_1 : decode cX7_then 1 = .ok (.iload_n 1, 1) := by decide +kernel
theorem dX7_then_2 : decode cX7_then 2 = .ok (.invokevirtual 125, 3) := by decide +kernel
theorem dX7_then_5 : decode cX7_then 5 = .ok (.ifCond .eq 13, 3) := by decide +kernel
theorem dX7_then_8 : decode cX7_then 8 = .ok (.iload_n 2, 1) := by decide +kernel
theorem dX7_then_9 : decode cX7_then 9 = .ok (.iconst 0, 1) := by decide +kernel
theorem dX7_then_10 : decode cX7_then 10 = .ok (.bipush 60, 2) := by decide +kernel
theorem dX7_then_12 : decode cX7_then 12 = .ok (.invokestatic 57, 3) := by decide +kernel
theorem dX7_then_15 : decode cX7_then 15 = .ok (.ifCond .ne 10, 3) := by decide +kernel
theorem dX7_then_18 : decode cX7_then 18 = .ok (.aload_n 0, 1) := by decide +kernel
theorem dX7_then_19 : decode cX7_then 19 = .ok (.ldc 103, 2) := by decide +kernel
theorem dX7_then_21 : decode cX7_then 21 = .ok (.invokevirtual 104, 3) := by decide +kernel
theorem dX7_then_24 : decode cX7_then 24 = .ok (.ireturn, 1) := by decide +kernel
theorem dX7_then_25 : decode cX7_then 25 = .ok (.aload_n 0, 1) := by decide +kernel
theorem dX7_then_26 : decode cX7_then 26 = .ok (.invokevirtual 221, 3) := by decide +kernel
theorem dX7_then_29 : decode cX7_then 29 = .ok (.aload_n 0, 1) := by decide +kernel
theorem dX7_then_30 : decode cX7_then 30 = .ok (.iload_n 2, 1) := by decide +kernel
theorem dX7_then_31 : decode cX7_then 31 = .ok (.invokevirtual 208, 3) := by decide +kernel
theorem dX7_then_34 : decode cX7_then 34 = .ok (.aload_n 0, 1) := by decide +kernel
theorem dX7_then_35 : decode cX7_then 35 = .ok (.iload_n 1, 1) := by decide +kernel
theorem dX7_then_36 : decode cX7_then 36 = .ok (.iconst 3, 1) := by decide +kernel
theorem dX7_then_37 : decode cX7_then 37 = .ok (.invokevirtual 61, 3) := by decide +kernel
theorem dX7_then_40 : decode cX7_then 40 = .ok (.istore_n 3, 1) := by decide +kernel
theorem dX7_then_41 : decode cX7_then 41 = .ok (.aload_n 0, 1) := by decide +kernel
theorem dX7_then_42 : decode cX7_then 42 = .ok (.invokevirtual 224, 3) := by decide +kernel
theorem dX7_then_45 : decode cX7_then 45 = .ok (.iload_n 3, 1) := by decide +kernel
theorem dX7_then_46 : decode cX7_then 46 = .ok (.ireturn, 1) := by decide +kernel
theorem dX7_soonest_0 : decode cX7_soonest 0 = .ok (.aload_n 0, 1) := by decide +kernel
theorem dX7_soonest_1 : decode cX7_soonest 1 = .ok (.iload_n 1, 1) := by decide +kernel
theorem dX7_soonest_2 : decode cX7_soonest 2 = .ok (.invokevirtual 125, 3) := by decide +kernel
theorem dX7_soonest_5 : decode cX7_soonest 5 = .ok (.ifCond .ne 10, 3) := by decide +kernel
theorem dX7_soonest_8 : decode cX7_soonest 8 = .ok (.aload_n 0, 1) := by decide +kernel
theorem dX7_soonest_9 : decode cX7_soonest 9 = .ok (.ldc 103, 2) := by decide +kernel
theorem dX7_soonest_11 : decode cX7_soonest 11 = .ok (.invokevirtual 104, 3) := by decide +kernel
theorem dX7_soonest_14 : decode cX7_soonest 14 = .ok (.ireturn, 1) := by decide +kernel
theorem dX7_soonest_15 : decode cX7_soonest 15 = .ok (.aload_n 0, 1) := by decide +kernel
theorem dX7_soonest_16 : decode cX7_soonest 16 = .ok (.invokevirtual 221, 3) := by decide +kernel
theorem dX7_soonest_19 : decode cX7_soonest 19 = .ok (.iconst 0, 1) := by decide +kernel
theorem dX7_soonest_20 : decode cX7_soonest 20 = .ok (.istore_n 2, 1) := by decide +kernel
theorem dX7_soonest_21 : decode cX7_soonest 21 = .ok (.iload_n 2, 1) := by decide +kernel
theorem dX7_soonest_22 : decode cX7_soonest 22 = .ok (.bipush 60, 2) := by decide +kernel
theorem dX7_soonest_24 : decode cX7_soonest 24 = .ok (.if_icmp .gt 21, 3) := by decide +kernel
theorem dX7_soonest_27 : decode cX7_soonest 27 = .ok (.aload_n 0, 1) := by decide +kernel
theorem dX7_soonest_28 : decode cX7_soonest 28 = .ok (.iload_n 1, 1) := by decide +kernel
theorem dX7_soonest_29 : decode cX7_soonest 29 = .ok (.invokevirtual 69, 3) := by decide +kernel
theorem dX7_soonest_32 : decode cX7_soonest 32 = .ok (.ifCond .ne 13, 3) := by decide +kernel
theorem dX7_soonest_35 : decode cX7_soonest 35 = .ok (.aload_n 0, 1) := by decide +kernel
theorem dX7_soonest_36 : decode cX7_soonest 36 = .ok (.invokevirtual 204, 3) := by decide +kernel
theorem dX7_soonest_39 : decode cX7_soonest 39 = .ok (.iinc 2 1, 3) := by decide +kernel
theorem dX7_soonest_42 : decode cX7_soonest 42 = .ok (.goto (-21), 3) := by decide +kernel
theorem dX7_soonest_45 : decode cX7_soonest 45 = .ok (.aload_n 0, 1) := by decide +kernel
theorem dX7_soonest_46 : decode cX7_soonest 46 = .ok (.invokevirtual 224, 3) := by decide +kernel
theorem dX7_soonest_49 : decode cX7_soonest 49 = .ok (.iload_n 2, 1) := by decide +kernel
theorem dX7_soonest_50 : decode cX7_soonest 50 = .ok (.bipush 60, 2) := by decide +kernel
theorem dX7_soonest_52 : decode cX7_soonest 52 = .ok (.if_icmp .le 12, 3) := by decide +kernel
theorem dX7_soonest_55 : decode cX7_soonest 55 = .ok (.aload_n 0, 1) := by decide +kernel
theorem dX7_soonest_56 : decode cX7_soonest 56 = .ok (.ldc 117, 2) := by decide +kernel
theorem dX7_soonest_58 : decode cX7_soonest 58 = .ok (.invokevirtual 104, 3) := by decide +kernel
theorem dX7_soonest_61 : decode cX7_soonest 61 = .ok (.goto 4, 3) := by decide +kernel
theorem dX7_soonest_64 : decode cX7_soonest 64 = .ok (.iload_n 2, 1) := by decide +kernel
theorem dX7_soonest_65 : decode cX7_soonest 65 = .ok (.ireturn, 1) := by decide +kernel
theorem dX7_gotBy_0 : decode cX7_gotBy 0 = .ok (.iconst 0, 1) := by decide +kernel
theorem dX7_gotBy_1 : decode cX7_gotBy 1 = .ok (.istore_n 2, 1) := by decide +kernel
theorem dX7_gotBy_2 : decode cX7_gotBy 2 = .ok (.iconst 0, 1) := by decide +kernel
theorem dX7_gotBy_3 : decode cX7_gotBy 3 = .ok (.istore_n 3, 1) := by decide +kernel
theorem dX7_gotBy_4 : decode cX7_gotBy 4 = .ok (.iload_n 3, 1) := by decide +kernel
theorem dX7_gotBy_5 : decode cX7_gotBy 5 = .ok (.aload_n 0, 1) := by decide +kernel
theorem dX7_gotBy_6 : decode cX7_gotBy 6 = .ok (.getfield 9, 3) := by decide +kernel
theorem dX7_gotBy_9 : decode cX7_gotBy 9 = .ok (.iconst 2, 1) := by decide +kernel
theorem dX7_gotBy_10 : decode cX7_gotBy 10 = .ok (.iaload, 1) := by decide +kernel
theorem dX7_gotBy_11 : decode cX7_gotBy 11 = .ok (.if_icmp .ge 39, 3) := by decide +kernel
theorem dX7_gotBy_14 : decode cX7_gotBy 14 = .ok (.iload_n 2, 1) := by decide +kernel
theorem dX7_gotBy_15 : decode cX7_gotBy 15 = .ok (.aload_n 0, 1) := by decide +kernel
theorem dX7_gotBy_16 : decode cX7_gotBy 16 = .ok (.iload_n 3, 1) := by decide +kernel
theorem dX7_gotBy_17 : decode cX7_gotBy 17 = .ok (.iconst 2, 1) := by decide +kernel
theorem dX7_gotBy_18 : decode cX7_gotBy 18 = .ok (.invokevirtual 61, 3) := by decide +kernel
theorem dX7_gotBy_21 : decode cX7_gotBy 21 = .ok (.iload_n 1, 1) := by decide +kernel
theorem dX7_gotBy_22 : decode cX7_gotBy 22 = .ok (.if_icmp .ne 19, 3) := by decide +kernel
theorem dX7_gotBy_25 : decode cX7_gotBy 25 = .ok (.aload_n 0, 1) := by decide +kernel
theorem dX7_gotBy_26 : decode cX7_gotBy 26 = .ok (.iload_n 3, 1) := by decide +kernel
theorem dX7_gotBy_27 : decode cX7_gotBy 27 = .ok (.invokevirtual 69, 3) := by decide +kernel
theorem dX7_gotBy_30 : decode cX7_gotBy 30 = .ok (.ifCond .eq 11, 3) := by decide +kernel
theorem dX7_gotBy_33 : decode cX7_gotBy 33 = .ok (.aload_n 0, 1) := by decide +kernel
theorem dX7_gotBy_34 : decode cX7_gotBy 34 = .ok (.iload_n 3, 1) := by decide +kernel
theorem dX7_gotBy_35 : decode cX7_gotBy 35 = .ok (.invokevirtual 131, 3) := by decide +kernel
theorem dX7_gotBy_38 : decode cX7_gotBy 38 = .ok (.goto 4, 3) := by decide +kernel
theorem dX7_gotBy_41 : decode cX7_gotBy 41 = .ok (.iconst 0, 1) := by decide +kernel
theorem dX7_gotBy_42 : decode cX7_gotBy 42 = .ok (.iadd, 1) := by decide +kernel
theorem dX7_gotBy_43 : decode cX7_gotBy 43 = .ok (.istore_n 2, 1) := by decide +kernel
theorem dX7_gotBy_44 : decode cX7_gotBy 44 = .ok (.iinc 3 1, 3) := by decide +kernel
theorem dX7_gotBy_47 : decode cX7_gotBy 47 = .ok (.goto (-43), 3) := by decide +kernel
theorem dX7_gotBy_50 : decode cX7_gotBy 50 = .ok (.iload_n 2, 1) := by decide +kernel
theorem dX7_gotBy_51 : decode cX7_gotBy 51 = .ok (.ireturn, 1) := by decide +kernel
theorem dX7_gets_0 : decode cX7_gets 0 = .ok (.iload_n 1, 1) := by decide +kernel
theorem dX7_gets_1 : decode cX7_gets 1 = .ok (.invokestatic 111, 3) := by decide +kernel
theorem dX7_gets_4 : decode cX7_gets 4 = .ok (.ifCond .eq 13, 3) := by decide +kernel
theorem dX7_gets_7 : decode cX7_gets 7 = .ok (.iload_n 2, 1) := by decide +kernel
theorem dX7_gets_8 : decode cX7_gets 8 = .ok (.iconst 0, 1) := by decide +kernel
theorem dX7_gets_9 : decode cX7_gets 9 = .ok (.bipush 60, 2) := by decide +kernel
theorem dX7_gets_11 : decode cX7_gets 11 = .ok (.invokestatic 57, 3) := by decide +kernel
theorem dX7_gets_14 : decode cX7_gets 14 = .ok (.ifCond .ne 10, 3) := by decide +kernel
theorem dX7_gets_17 : decode cX7_gets 17 = .ok (.aload_n 0, 1) := by decide +kernel
theorem dX7_gets_18 : decode cX7_gets 18 = .ok (.ldc 103, 2) := by decide +kernel
theorem dX7_gets_20 : decode cX7_gets 20 = .ok (.invokevirtual 104, 3) := by decide +kernel
theorem dX7_gets_23 : decode cX7_gets 23 = .ok (.ireturn, 1) := by decide +kernel
theorem dX7_gets_24 : decode cX7_gets 24 = .ok (.aload_n 0, 1) := by decide +kernel
theorem dX7_gets_25 : decode cX7_gets 25 = .ok (.invokevirtual 221, 3) := by decide +kernel
theorem dX7_gets_28 : decode cX7_gets 28 = .ok (.aload_n 0, 1) := by decide +kernel
theorem dX7_gets_29 : decode cX7_gets 29 = .ok (.iload_n 2, 1) := by decide +kernel
theorem dX7_gets_30 : decode cX7_gets 30 = .ok (.invokevirtual 208, 3) := by decide +kernel
theorem dX7_gets_33 : decode cX7_gets 33 = .ok (.aload_n 0, 1) := by decide +kernel
theorem dX7_gets_34 : decode cX7_gets 34 = .ok (.iload_n 1, 1) := by decide +kernel
theorem dX7_gets_35 : decode cX7_gets 35 = .ok (.invokevirtual 227, 3) := by decide +kernel
theorem dX7_gets_38 : decode cX7_gets 38 = .ok (.istore_n 3, 1) := by decide +kernel
theorem dX7_gets_39 : decode cX7_gets 39 = .ok (.aload_n 0, 1) := by decide +kernel
theorem dX7_gets_40 : decode cX7_gets 40 = .ok (.invokevirtual 224, 3) := by decide +kernel
theorem dX7_gets_43 : decode cX7_gets 43 = .ok (.iload_n 3, 1) := by decide +kernel
theorem dX7_gets_44 : decode cX7_gets 44 = .ok (.ireturn, 1) := by decide +kernel
theorem dX7_isEnough_0 : decode cX7_isEnough 0 = .ok (.iconst 0, 1) := by decide +kernel
theorem dX7_isEnough_1 : decode cX7_isEnough 1 = .ok (.istore 5, 2) := by decide +kernel
theorem dX7_isEnough_3 : decode cX7_isEnough 3 = .ok (.iload 5, 2) := by decide +kernel
theorem dX7_isEnough_5 : decode cX7_isEnough 5 = .ok (.aload_n 0, 1) := by decide +kernel
theorem dX7_isEnough_6 : decode cX7_isEnough 6 = .ok (.getfield 9, 3) := by decide +kernel
theorem dX7_isEnough_9 : decode cX7_isEnough 9 = .ok (.iconst 2, 1) := by decide +kernel
theorem dX7_isEnough_10 : decode cX7_isEnough 10 = .ok (.iaload, 1) := by decide +kernel
theorem dX7_isEnough_11 : decode cX7_isEnough 11 = .ok (.if_icmp .ge 42, 3) := by decide +kernel
theorem dX7_isEnough_14 : decode cX7_isEnough 14 = .ok (.aload_n 0, 1) := by decide +kernel
theorem dX7_isEnough_15 : decode cX7_isEnough 15 = .ok (.iload 5, 2) := by decide +kernel
theorem dX7_isEnough_17 : decode cX7_isEnough 17 = .ok (.iconst 3, 1) := by decide +kernel
theorem dX7_isEnough_18 : decode cX7_isEnough 18 = .ok (.iload_n 1, 1) := by decide +kernel
theorem dX7_isEnough_19 : decode cX7_isEnough 19 = .ok (.iload 5, 2) := by decide +kernel
theorem dX7_isEnough_21 : decode cX7_isEnough 21 = .ok (.ishr, 1) := by decide +kernel
theorem dX7_isEnough_22 : decode cX7_isEnough 22 = .ok (.iconst 1, 1) := by decide +kernel
theorem dX7_isEnough_23 : decode cX7_isEnough 23 = .ok (.iand, 1) := by decide +kernel
theorem dX7_isEnough_24 : decode cX7_isEnough 24 = .ok (.iconst 1, 1) := by decide +kernel
theorem dX7_isEnough_25 : decode cX7_isEnough 25 = .ok (.if_icmp .ne 12, 3) := by decide +kernel
theorem dX7_isEnough_28 : decode cX7_isEnough 28 = .ok (.aload_n 0, 1) := by decide +kernel
theorem dX7_isEnough_29 : decode cX7_isEnough 29 = .ok (.iload 5, 2) := by decide +kernel
theorem dX7_isEnough_31 : decode cX7_isEnough 31 = .ok (.invokevirtual 65, 3) := by decide +kernel
theorem dX7_isEnough_34 : decode cX7_isEnough 34 = .ok (.goto 10, 3) := by decide +kernel
theorem dX7_isEnough_37 : decode cX7_isEnough 37 = .ok (.aload_n 0, 1) := by decide +kernel
theorem dX7_isEnough_38 : decode cX7_isEnough 38 = .ok (.iload 5, 2) := by decide +kernel
theorem dX7_isEnough_40 : decode cX7_isEnough 40 = .ok (.iconst 3, 1) := by decide +kernel
theorem dX7_isEnough_41 : decode cX7_isEnough 41 = .ok (.invokevirtual 61, 3) := by decide +kernel
theorem dX7_isEnough_44 : decode cX7_isEnough 44 = .ok (.invokevirtual 122, 3) := by decide +kernel
theorem dX7_isEnough_47 : decode cX7_isEnough 47 = .ok (.iinc 5 1, 3) := by decide +kernel
theorem dX7_isEnough_50 : decode cX7_isEnough 50 = .ok (.goto (-47), 3) := by decide +kernel
theorem dX7_isEnough_53 : decode cX7_isEnough 53 = .ok (.aload_n 0, 1) := by decide +kernel
theorem dX7_isEnough_54 : decode cX7_isEnough 54 = .ok (.iload 4, 2) := by decide +kernel
theorem dX7_isEnough_56 : decode cX7_isEnough 56 = .ok (.invokevirtual 208, 3) := by decide +kernel
theorem dX7_isEnough_59 : decode cX7_isEnough 59 = .ok (.aload_n 0, 1) := by decide +kernel
theorem dX7_isEnough_60 : decode cX7_isEnough 60 = .ok (.iload_n 2, 1) := by decide +kernel
theorem dX7_isEnough_61 : decode cX7_isEnough 61 = .ok (.invokevirtual 227, 3) := by decide +kernel
theorem dX7_isEnough_64 : decode cX7_isEnough 64 = .ok (.iload_n 3, 1) := by decide +kernel
theorem dX7_isEnough_65 : decode cX7_isEnough 65 = .ok (.if_icmp .lt 7, 3) := by decide +kernel
theorem dX7_isEnough_68 : decode cX7_isEnough 68 = .ok (.iconst 1, 1) := by decide +kernel
theorem dX7_isEnough_69 : decode cX7_isEnough 69 = .ok (.goto 4, 3) := by decide +kernel
theorem dX7_isEnough_72 : decode cX7_isEnough 72 = .ok (.iconst 0, 1) := by decide +kernel
theorem dX7_isEnough_73 : decode cX7_isEnough 73 = .ok (.istore 5, 2) := by decide +kernel
theorem dX7_isEnough_75 : decode cX7_isEnough 75 = .ok (.aload_n 0, 1) := by decide +kernel
theorem dX7_isEnough_76 : decode cX7_isEnough 76 = .ok (.invokevirtual 224, 3) := by decide +kernel
theorem dX7_isEnough_79 : decode cX7_isEnough 79 = .ok (.iload 5, 2) := by decide +kernel
theorem dX7_isEnough_81 : decode cX7_isEnough 81 = .ok (.ireturn, 1) := by decide +kernel
theorem dX7_carry_0 : decode cX7_carry 0 = .ok (.iload_n 1, 1) := by decide +kernel
theorem dX7_carry_1 : decode cX7_carry 1 = .ok (.invokestatic 111, 3) := by decide +kernel
theorem dX7_carry_4 : decode cX7_carry 4 = .ok (.ifCond .eq 24, 3) := by decide +kernel
theorem dX7_carry_7 : decode cX7_carry 7 = .ok (.iload_n 2, 1) := by decide +kernel
theorem dX7_carry_8 : decode cX7_carry 8 = .ok (.iconst 0, 1) := by decide +kernel
theorem dX7_carry_9 : decode cX7_carry 9 = .ok (.sipush 999, 3) := by decide +kernel
theorem dX7_carry_12 : decode cX7_carry 12 = .ok (.invokestatic 57, 3) := by decide +kernel
theorem dX7_carry_15 : decode cX7_carry 15 = .ok (.ifCond .eq 13, 3) := by decide +kernel
theorem dX7_carry_18 : decode cX7_carry 18 = .ok (.iload_n 3, 1) := by decide +kernel
theorem dX7_carry_19 : decode cX7_carry 19 = .ok (.iconst 0, 1) := by decide +kernel
theorem dX7_carry_20 : decode cX7_carry 20 = .ok (.bipush 30, 2) := by decide +kernel
theorem dX7_carry_22 : decode cX7_carry 22 = .ok (.invokestatic 57, 3) := by decide +kernel
theorem dX7_carry_25 : decode cX7_carry 25 = .ok (.ifCond .ne 10, 3) := by decide +kernel
theorem dX7_carry_28 : decode cX7_carry 28 = .ok (.aload_n 0, 1) := by decide +kernel
theorem dX7_carry_29 : decode cX7_carry 29 = .ok (.ldc 103, 2) := by decide +kernel
theorem dX7_carry_31 : decode cX7_carry 31 = .ok (.invokevirtual 104, 3) := by decide +kernel
theorem dX7_carry_34 : decode cX7_carry 34 = .ok (.ireturn, 1) := by decide +kernel
theorem dX7_carry_35 : decode cX7_carry 35 = .ok (.aload_n 0, 1) := by decide +kernel
theorem dX7_carry_36 : decode cX7_carry 36 = .ok (.invokevirtual 221, 3) := by decide +kernel
theorem dX7_carry_39 : decode cX7_carry 39 = .ok (.iconst (-1), 1) := by decide +kernel
theorem dX7_carry_40 : decode cX7_carry 40 = .ok (.istore 4, 2) := by decide +kernel
theorem dX7_carry_42 : decode cX7_carry 42 = .ok (.iconst 0, 1) := by decide +kernel
theorem dX7_carry_43 : decode cX7_carry 43 = .ok (.istore 5, 2) := by decide +kernel
theorem dX7_carry_45 : decode cX7_carry 45 = .ok (.iload 5, 2) := by decide +kernel
theorem dX7_carry_47 : decode cX7_carry 47 = .ok (.iconst 1, 1) := by decide +kernel
theorem dX7_carry_48 : decode cX7_carry 48 = .ok (.aload_n 0, 1) := by decide +kernel
theorem dX7_carry_49 : decode cX7_carry 49 = .ok (.getfield 9, 3) := by decide +kernel
theorem dX7_carry_52 : decode cX7_carry 52 = .ok (.iconst 2, 1) := by decide +kernel
theorem dX7_carry_53 : decode cX7_carry 53 = .ok (.iaload, 1) := by decide +kernel
theorem dX7_carry_54 : decode cX7_carry 54 = .ok (.ishl, 1) := by decide +kernel
theorem dX7_carry_55 : decode cX7_carry 55 = .ok (.if_icmp .ge 60, 3) := by decide +kernel
theorem dX7_carry_58 : decode cX7_carry 58 = .ok (.iload 4, 2) := by decide +kernel
theorem dX7_carry_60 : decode cX7_carry 60 = .ok (.ifCond .lt 16, 3) := by decide +kernel
theorem dX7_carry_63 : decode cX7_carry 63 = .ok (.iload 5, 2) := by decide +kernel
theorem dX7_carry_65 : decode cX7_carry 65 = .ok (.invokestatic 230, 3) := by decide +kernel
theorem dX7_carry_68 : decode cX7_carry 68 = .ok (.iload 4, 2) := by decide +kernel
theorem dX7_carry_70 : decode cX7_carry 70 = .ok (.invokestatic 230, 3) := by decide +kernel
theorem dX7_carry_73 : decode cX7_carry 73 = .ok (.if_icmp .ge 7, 3) := by decide +kernel
theorem dX7_carry_76 : decode cX7_carry 76 = .ok (.iconst 1, 1) := by decide +kernel
theorem dX7_carry_77 : decode cX7_carry 77 = .ok (.goto 4, 3) := by decide +kernel
theorem dX7_carry_80 : decode cX7_carry 80 = .ok (.iconst 0, 1) := by decide +kernel
theorem dX7_carry_81 : decode cX7_carry 81 = .ok (.istore 6, 2) := by decide +kernel
theorem dX7_carry_83 : decode cX7_carry 83 = .ok (.iload 6, 2) := by decide +kernel
theorem dX7_carry_85 : decode cX7_carry 85 = .ok (.ifCond .eq 20, 3) := by decide +kernel
theorem dX7_carry_88 : decode cX7_carry 88 = .ok (.aload_n 0, 1) := by decide +kernel
theorem dX7_carry_89 : decode cX7_carry 89 = .ok (.iload 5, 2) := by decide +kernel
theorem dX7_carry_91 : decode cX7_carry 91 = .ok (.iload_n 1, 1) := by decide +kernel
theorem dX7_carry_92 : decode cX7_carry 92 = .ok (.iload_n 2, 1) := by decide +kernel
theorem dX7_carry_93 : decode cX7_carry 93 = .ok (.iload_n 3, 1) := by decide +kernel
theorem dX7_carry_94 : decode cX7_carry 94 = .ok (.invokevirtual 233, 3) := by decide +kernel
theorem dX7_carry_97 : decode cX7_carry 97 = .ok (.ifCond .eq 8, 3) := by decide +kernel
theorem dX7_carry_100 : decode cX7_carry 100 = .ok (.iload 5, 2) := by decide +kernel
theorem dX7_carry_102 : decode cX7_carry 102 = .ok (.goto 5, 3) := by decide +kernel
theorem dX7_carry_105 : decode cX7_carry 105 = .ok (.iload 4, 2) := by decide +kernel
theorem dX7_carry_107 : decode cX7_carry 107 = .ok (.istore 4, 2) := by decide +kernel
theorem dX7_carry_109 : decode cX7_carry 109 = .ok (.iinc 5 1, 3) := by decide +kernel
theorem dX7_carry_112 : decode cX7_carry 112 = .ok (.goto (-67), 3) := by decide +kernel
theorem dX7_carry_115 : decode cX7_carry 115 = .ok (.iload 4, 2) := by decide +kernel
theorem dX7_carry_117 : decode cX7_carry 117 = .ok (.ifCond .ge 12, 3) := by decide +kernel
theorem dX7_carry_120 : decode cX7_carry 120 = .ok (.aload_n 0, 1) := by decide +kernel
theorem dX7_carry_121 : decode cX7_carry 121 = .ok (.ldc 117, 2) := by decide +kernel
theorem dX7_carry_123 : decode cX7_carry 123 = .ok (.invokevirtual 104, 3) := by decide +kernel
theorem dX7_carry_126 : decode cX7_carry 126 = .ok (.goto 5, 3) := by decide +kernel
theorem dX7_carry_129 : decode cX7_carry 129 = .ok (.iload 4, 2) := by decide +kernel
theorem dX7_carry_131 : decode cX7_carry 131 = .ok (.ireturn, 1) := by decide +kernel
theorem dX7_way_0 : decode cX7_way 0 = .ok (.iload_n 1, 1) := by decide +kernel
theorem dX7_way_1 : decode cX7_way 1 = .ok (.iconst 0, 1) := by decide +kernel
theorem dX7_way_2 : decode cX7_way 2 = .ok (.bipush 30, 2) := by decide +kernel
theorem dX7_way_4 : decode cX7_way 4 = .ok (.invokestatic 57, 3) := by decide +kernel
theorem dX7_way_7 : decode cX7_way 7 = .ok (.ifCond .eq 12, 3) := by decide +kernel
theorem dX7_way_10 : decode cX7_way 10 = .ok (.iload_n 2, 1) := by decide +kernel
theorem dX7_way_11 : decode cX7_way 11 = .ok (.iconst 0, 1) := by decide +kernel
theorem dX7_way_12 : decode cX7_way 12 = .ok (.iconst 1, 1) := by decide +kernel
theorem dX7_way_13 : decode cX7_way 13 = .ok (.invokestatic 57, 3) := by decide +kernel
theorem dX7_way_16 : decode cX7_way 16 = .ok (.ifCond .ne 10, 3) := by decide +kernel
theorem dX7_way_19 : decode cX7_way 19 = .ok (.aload_n 0, 1) := by decide +kernel
theorem dX7_way_20 : decode cX7_way 20 = .ok (.ldc 103, 2) := by decide +kernel
theorem dX7_way_22 : decode cX7_way 22 = .ok (.invokevirtual 104, 3) := by decide +kernel
theorem dX7_way_25 : decode cX7_way 25 = .ok (.ireturn, 1) := by decide +kernel
theorem dX7_way_26 : decode cX7_way 26 = .ok (.aload_n 0, 1) := by decide +kernel
theorem dX7_way_27 : decode cX7_way 27 = .ok (.invokevirtual 221, 3) := by decide +kernel
theorem dX7_way_30 : decode cX7_way 30 = .ok (.iconst (-1), 1) := by decide +kernel
theorem dX7_way_31 : decode cX7_way 31 = .ok (.istore_n 3, 1) := by decide +kernel
theorem dX7_way_32 : decode cX7_way 32 = .ok (.iconst (-1), 1) := by decide +kernel
theorem dX7_way_33 : decode cX7_way 33 = .ok (.istore 4, 2) := by decide +kernel
theorem dX7_way_35 : decode cX7_way 35 = .ok (.iconst 0, 1) := by decide +kernel
theorem dX7_way_36 : decode cX7_way 36 = .ok (.istore 5, 2) := by decide +kernel
theorem dX7_way_38 : decode cX7_way 38 = .ok (.iload 5, 2) := by decide +kernel
theorem dX7_way_40 : decode cX7_way 40 = .ok (.bipush 100, 2) := by decide +kernel
theorem dX7_way_42 : decode cX7_way 42 = .ok (.if_icmp .ge 114, 3) := by decide +kernel
theorem dX7_way_45 : decode cX7_way 45 = .ok (.iload 5, 2) := by decide +kernel
theorem dX7_way_47 : decode cX7_way 47 = .ok (.bipush 10, 2) := by decide +kernel
theorem dX7_way_49 : decode cX7_way 49 = .ok (.idiv, 1) := by decide +kernel
theorem dX7_way_50 : decode cX7_way 50 = .ok (.istore 6, 2) := by decide +kernel
theorem dX7_way_52 : decode cX7_way 52 = .ok (.iload 5, 2) := by decide +kernel
theorem dX7_way_54 : decode cX7_way 54 = .ok (.bipush 10, 2) := by decide +kernel
theorem dX7_way_56 : decode cX7_way 56 = .ok (.irem, 1) := by decide +kernel
theorem dX7_way_57 : decode cX7_way 57 = .ok (.istore 7, 2) := by decide +kernel
theorem dX7_way_59 : decode cX7_way 59 = .ok (.iload 6, 2) := by decide +kernel
theorem dX7_way_61 : decode cX7_way 61 = .ok (.iload 7, 2) := by decide +kernel
theorem dX7_way_63 : decode cX7_way 63 = .ok (.if_icmp .ge 87, 3) := by decide +kernel
theorem dX7_way_66 : decode cX7_way 66 = .ok (.aload_n 0, 1) := by decide +kernel
theorem dX7_way_67 : decode cX7_way 67 = .ok (.getfield 9, 3) := by decide +kernel
theorem dX7_way_70 : decode cX7_way 70 = .ok (.bipush 9, 2) := by decide +kernel
theorem dX7_way_72 : decode cX7_way 72 = .ok (.iload 6, 2) := by decide +kernel
theorem dX7_way_74 : decode cX7_way 74 = .ok (.iadd, 1) := by decide +kernel
theorem dX7_way_75 : decode cX7_way 75 = .ok (.iaload, 1) := by decide +kernel
theorem dX7_way_76 : decode cX7_way 76 = .ok (.iload 7, 2) := by decide +kernel
theorem dX7_way_78 : decode cX7_way 78 = .ok (.ishr, 1) := by decide +kernel
theorem dX7_way_79 : decode cX7_way 79 = .ok (.iconst 1, 1) := by decide +kernel
theorem dX7_way_80 : decode cX7_way 80 = .ok (.iand, 1) := by decide +kernel
theorem dX7_way_81 : decode cX7_way 81 = .ok (.ifCond .ne 69, 3) := by decide +kernel
theorem dX7_way_84 : decode cX7_way 84 = .ok (.aload_n 0, 1) := by decide +kernel
theorem dX7_way_85 : decode cX7_way 85 = .ok (.iload 6, 2) := by decide +kernel
theorem dX7_way_87 : decode cX7_way 87 = .ok (.iload 7, 2) := by decide +kernel
theorem dX7_way_89 : decode cX7_way 89 = .ok (.iconst 1, 1) := by decide +kernel
theorem dX7_way_90 : decode cX7_way 90 = .ok (.invokevirtual 107, 3) := by decide +kernel
theorem dX7_way_93 : decode cX7_way 93 = .ok (.aload_n 0, 1) := by decide +kernel
theorem dX7_way_94 : decode cX7_way 94 = .ok (.iload 7, 2) := by decide +kernel
theorem dX7_way_96 : decode cX7_way 96 = .ok (.iload 6, 2) := by decide +kernel
theorem dX7_way_98 : decode cX7_way 98 = .ok (.iconst 1, 1) := by decide +kernel
theorem dX7_way_99 : decode cX7_way 99 = .ok (.invokevirtual 107, 3) := by decide +kernel
theorem dX7_way_102 : decode cX7_way 102 = .ok (.aload_n 0, 1) := by decide +kernel
theorem dX7_way_103 : decode cX7_way 103 = .ok (.iload_n 1, 1) := by decide +kernel
theorem dX7_way_104 : decode cX7_way 104 = .ok (.invokevirtual 208, 3) := by decide +kernel
theorem dX7_way_107 : decode cX7_way 107 = .ok (.aload_n 0, 1) := by decide +kernel
theorem dX7_way_108 : decode cX7_way 108 = .ok (.invokevirtual 211, 3) := by decide +kernel
theorem dX7_way_111 : decode cX7_way 111 = .ok (.invokestatic 230, 3) := by decide +kernel
theorem dX7_way_114 : decode cX7_way 114 = .ok (.istore 8, 2) := by decide +kernel
theorem dX7_way_116 : decode cX7_way 116 = .ok (.aload_n 0, 1) := by decide +kernel
theorem dX7_way_117 : decode cX7_way 117 = .ok (.invokevirtual 224, 3) := by decide +kernel
theorem dX7_way_120 : decode cX7_way 120 = .ok (.iload 8, 2) := by decide +kernel
theorem dX7_way_122 : decode cX7_way 122 = .ok (.iload 4, 2) := by decide +kernel
theorem dX7_way_124 : decode cX7_way 124 = .ok (.if_icmp .le 8, 3) := by decide +kernel
theorem dX7_way_127 : decode cX7_way 127 = .ok (.iload 5, 2) := by decide +kernel
theorem dX7_way_129 : decode cX7_way 129 = .ok (.goto 4, 3) := by decide +kernel
theorem dX7_way_132 : decode cX7_way 132 = .ok (.iload_n 3, 1) := by decide +kernel
theorem dX7_way_133 : decode cX7_way 133 = .ok (.istore_n 3, 1) := by decide +kernel
theorem dX7_way_134 : decode cX7_way 134 = .ok (.iload 8, 2) := by decide +kernel
theorem dX7_way_136 : decode cX7_way 136 = .ok (.iload 4, 2) := by decide +kernel
theorem dX7_way_138 : decode cX7_way 138 = .ok (.if_icmp .le 8, 3) := by decide +kernel
theorem dX7_way_141 : decode cX7_way 141 = .ok (.iload 8, 2) := by decide +kernel
theorem dX7_way_143 : decode cX7_way 143 = .ok (.goto 5, 3) := by decide +kernel
theorem dX7_way_146 : decode cX7_way 146 = .ok (.iload 4, 2) := by decide +kernel
theorem dX7_way_148 : decode cX7_way 148 = .ok (.istore 4, 2) := by decide +kernel
theorem dX7_way_150 : decode cX7_way 150 = .ok (.iinc 5 1, 3) := by decide +kernel
theorem dX7_way_153 : decode cX7_way 153 = .ok (.goto (-115), 3) := by decide +kernel
theorem dX7_way_156 : decode cX7_way 156 = .ok (.aload_n 0, 1) := by decide +kernel
theorem dX7_way_157 : decode cX7_way 157 = .ok (.iconst 0, 1) := by decide +kernel
theorem dX7_way_158 : decode cX7_way 158 = .ok (.putfield 73, 3) := by decide +kernel
theorem dX7_way_161 : decode cX7_way 161 = .ok (.iload_n 3, 1) := by decide +kernel
theorem dX7_way_162 : decode cX7_way 162 = .ok (.ifCond .ge 12, 3) := by decide +kernel
theorem dX7_way_165 : decode cX7_way 165 = .ok (.aload_n 0, 1) := by decide +kernel
theorem dX7_way_166 : decode cX7_way 166 = .ok (.ldc 117, 2) := by decide +kernel
theorem dX7_way_168 : decode cX7_way 168 = .ok (.invokevirtual 104, 3) := by decide +kernel
theorem dX7_way_171 : decode cX7_way 171 = .ok (.goto 13, 3) := by decide +kernel
theorem dX7_way_174 : decode cX7_way 174 = .ok (.iload_n 2, 1) := by decide +kernel
theorem dX7_way_175 : decode cX7_way 175 = .ok (.ifCond .ne 7, 3) := by decide +kernel
theorem dX7_way_178 : decode cX7_way 178 = .ok (.iload_n 3, 1) := by decide +kernel
theorem dX7_way_179 : decode cX7_way 179 = .ok (.goto 5, 3) := by decide +kernel
theorem dX7_way_182 : decode cX7_way 182 = .ok (.iload 4, 2) := by decide +kernel
theorem dX7_way_184 : decode cX7_way 184 = .ok (.ireturn, 1) := by decide +kernel
theorem dX7_odds_0 : decode cX7_odds 0 = .ok (.iload_n 1, 1) := by decide +kernel
theorem dX7_odds_1 : decode cX7_odds 1 = .ok (.iconst 0, 1) := by decide +kernel
theorem dX7_odds_2 : decode cX7_odds 2 = .ok (.bipush 60, 2) := by decide +kernel
theorem dX7_odds_4 : decode cX7_odds 4 = .ok (.invokestatic 57, 3) := by decide +kernel
theorem dX7_odds_7 : decode cX7_odds 7 = .ok (.ifCond .eq 12, 3) := by decide +kernel
theorem dX7_odds_10 : decode cX7_odds 10 = .ok (.iload_n 2, 1) := by decide +kernel
theorem dX7_odds_11 : decode cX7_odds 11 = .ok (.iconst 0, 1) := by decide +kernel
theorem dX7_odds_12 : decode cX7_odds 12 = .ok (.iconst 1, 1) := by decide +kernel
theorem dX7_odds_13 : decode cX7_odds 13 = .ok (.invokestatic 57, 3) := by decide +kernel
theorem dX7_odds_16 : decode cX7_odds 16 = .ok (.ifCond .ne 10, 3) := by decide +kernel
theorem dX7_odds_19 : decode cX7_odds 19 = .ok (.aload_n 0, 1) := by decide +kernel
theorem dX7_odds_20 : decode cX7_odds 20 = .ok (.ldc 103, 2) := by decide +kernel
theorem dX7_odds_22 : decode cX7_odds 22 = .ok (.invokevirtual 104, 3) := by decide +kernel
theorem dX7_odds_25 : decode cX7_odds 25 = .ok (.ireturn, 1) := by decide +kernel
theorem dX7_odds_26 : decode cX7_odds 26 = .ok (.aload_n 0, 1) := by decide +kernel
theorem dX7_odds_27 : decode cX7_odds 27 = .ok (.getfield 9, 3) := by decide +kernel
theorem dX7_odds_30 : decode cX7_odds 30 = .ok (.iconst 2, 1) := by decide +kernel
theorem dX7_odds_31 : decode cX7_odds 31 = .ok (.iaload, 1) := by decide +kernel
theorem dX7_odds_32 : decode cX7_odds 32 = .ok (.istore_n 3, 1) := by decide +kernel
theorem dX7_odds_33 : decode cX7_odds 33 = .ok (.iload_n 3, 1) := by decide +kernel
theorem dX7_odds_34 : decode cX7_odds 34 = .ok (.ifCond .ne 10, 3) := by decide +kernel
theorem dX7_odds_37 : decode cX7_odds 37 = .ok (.aload_n 0, 1) := by decide +kernel
theorem dX7_odds_38 : decode cX7_odds 38 = .ok (.ldc 207, 2) := by decide +kernel
theorem dX7_odds_40 : decode cX7_odds 40 = .ok (.invokevirtual 104, 3) := by decide +kernel
theorem dX7_odds_43 : decode cX7_odds 43 = .ok (.ireturn, 1) := by decide +kernel
theorem dX7_odds_44 : decode cX7_odds 44 = .ok (.aload_n 0, 1) := by decide +kernel
theorem dX7_odds_45 : decode cX7_odds 45 = .ok (.invokevirtual 221, 3) := by decide +kernel
theorem dX7_odds_48 : decode cX7_odds 48 = .ok (.aload_n 0, 1) := by decide +kernel
theorem dX7_odds_49 : decode cX7_odds 49 = .ok (.iload_n 1, 1) := by decide +kernel
theorem dX7_odds_50 : decode cX7_odds 50 = .ok (.invokevirtual 208, 3) := by decide +kernel
theorem dX7_odds_53 : decode cX7_odds 53 = .ok (.aload_n 0, 1) := by decide +kernel
theorem dX7_odds_54 : decode cX7_odds 54 = .ok (.invokevirtual 211, 3) := by decide +kernel
theorem dX7_odds_57 : decode cX7_odds 57 = .ok (.invokestatic 230, 3) := by decide +kernel
theorem dX7_odds_60 : decode cX7_odds 60 = .ok (.istore 4, 2) := by decide +kernel
theorem dX7_odds_62 : decode cX7_odds 62 = .ok (.aload_n 0, 1) := by decide +kernel
theorem dX7_odds_63 : decode cX7_odds 63 = .ok (.invokevirtual 224, 3) := by decide +kernel
theorem dX7_odds_66 : decode cX7_odds 66 = .ok (.iload_n 3, 1) := by decide +kernel
theorem dX7_odds_67 : decode cX7_odds 67 = .ok (.istore 5, 2) := by decide +kernel
theorem dX7_odds_69 : decode cX7_odds 69 = .ok (.iload 5, 2) := by decide +kernel
theorem dX7_odds_71 : decode cX7_odds 71 = .ok (.iconst 1, 1) := by decide +kernel
theorem dX7_odds_72 : decode cX7_odds 72 = .ok (.if_icmp .le 36, 3) := by decide +kernel
theorem dX7_odds_75 : decode cX7_odds 75 = .ok (.iload 4, 2) := by decide +kernel
theorem dX7_odds_77 : decode cX7_odds 77 = .ok (.iload 5, 2) := by decide +kernel
theorem dX7_odds_79 : decode cX7_odds 79 = .ok (.irem, 1) := by decide +kernel
theorem dX7_odds_80 : decode cX7_odds 80 = .ok (.ifCond .ne 22, 3) := by decide +kernel
theorem dX7_odds_83 : decode cX7_odds 83 = .ok (.iload_n 3, 1) := by decide +kernel
theorem dX7_odds_84 : decode cX7_odds 84 = .ok (.iload 5, 2) := by decide +kernel
theorem dX7_odds_86 : decode cX7_odds 86 = .ok (.irem, 1) := by decide +kernel
theorem dX7_odds_87 : decode cX7_odds 87 = .ok (.ifCond .ne 15, 3) := by decide +kernel
theorem dX7_odds_90 : decode cX7_odds 90 = .ok (.iload 4, 2) := by decide +kernel
theorem dX7_odds_92 : decode cX7_odds 92 = .ok (.iload 5, 2) := by decide +kernel
theorem dX7_odds_94 : decode cX7_odds 94 = .ok (.idiv, 1) := by decide +kernel
theorem dX7_odds_95 : decode cX7_odds 95 = .ok (.istore 4, 2) := by decide +kernel
theorem dX7_odds_97 : decode cX7_odds 97 = .ok (.iload_n 3, 1) := by decide +kernel
theorem dX7_odds_98 : decode cX7_odds 98 = .ok (.iload 5, 2) := by decide +kernel
theorem dX7_odds_100 : decode cX7_odds 100 = .ok (.idiv, 1) := by decide +kernel
theorem dX7_odds_101 : decode cX7_odds 101 = .ok (.istore_n 3, 1) := by decide +kernel
theorem dX7_odds_102 : decode cX7_odds 102 = .ok (.iinc 5 (-1), 3) := by decide +kernel
theorem dX7_odds_105 : decode cX7_odds 105 = .ok (.goto (-36), 3) := by decide +kernel
theorem dX7_odds_108 : decode cX7_odds 108 = .ok (.iload_n 2, 1) := by decide +kernel
theorem dX7_odds_109 : decode cX7_odds 109 = .ok (.ifCond .ne 8, 3) := by decide +kernel
theorem dX7_odds_112 : decode cX7_odds 112 = .ok (.iload 4, 2) := by decide +kernel
theorem dX7_odds_114 : decode cX7_odds 114 = .ok (.goto 4, 3) := by decide +kernel
theorem dX7_odds_117 : decode cX7_odds 117 = .ok (.iload_n 3, 1) := by decide +kernel
theorem dX7_odds_118 : decode cX7_odds 118 = .ok (.ireturn, 1) := by decide +kernel
theorem dX7_isSo_0 : decode cX7_isSo 0 = .ok (.iconst 1, 1) := by decide +kernel
theorem dX7_isSo_1 : decode cX7_isSo 1 = .ok (.istore_n 3, 1) := by decide +kernel
theorem dX7_isSo_2 : decode cX7_isSo 2 = .ok (.iconst 0, 1) := by decide +kernel
theorem dX7_isSo_3 : decode cX7_isSo 3 = .ok (.istore 4, 2) := by decide +kernel
theorem dX7_isSo_5 : decode cX7_isSo 5 = .ok (.iload 4, 2) := by decide +kernel
theorem dX7_isSo_7 : decode cX7_isSo 7 = .ok (.aload_n 0, 1) := by decide +kernel
theorem dX7_isSo_8 : decode cX7_isSo 8 = .ok (.getfield 25, 3) := by decide +kernel
theorem dX7_isSo_11 : decode cX7_isSo 11 = .ok (.iload_n 1, 1) := by decide +kernel
theorem dX7_isSo_12 : decode cX7_isSo 12 = .ok (.iaload, 1) := by decide +kernel
theorem dX7_isSo_13 : decode cX7_isSo 13 = .ok (.if_icmp .ge 43, 3) := by decide +kernel
theorem dX7_isSo_16 : decode cX7_isSo 16 = .ok (.iload_n 3, 1) := by decide +kernel
theorem dX7_isSo_17 : decode cX7_isSo 17 = .ok (.ifCond .eq 39, 3) := by decide +kernel
theorem dX7_isSo_20 : decode cX7_isSo 20 = .ok (.aload_n 0, 1) := by decide +kernel
theorem dX7_isSo_21 : decode cX7_isSo 21 = .ok (.getfield 28, 3) := by decide +kernel
theorem dX7_isSo_24 : decode cX7_isSo 24 = .ok (.bipush 24, 2) := by decide +kernel
theorem dX7_isSo_26 : decode cX7_isSo 26 = .ok (.iload_n 1, 1) := by decide +kernel
theorem dX7_isSo_27 : decode cX7_isSo 27 = .ok (.imul, 1) := by decide +kernel
theorem dX7_isSo_28 : decode cX7_isSo 28 = .ok (.iload 4, 2) := by decide +kernel
theorem dX7_isSo_30 : decode cX7_isSo 30 = .ok (.iadd, 1) := by decide +kernel
theorem dX7_isSo_31 : decode cX7_isSo 31 = .ok (.iaload, 1) := by decide +kernel
theorem dX7_isSo_32 : decode cX7_isSo 32 = .ok (.aload_n 0, 1) := by decide +kernel
theorem dX7_isSo_33 : decode cX7_isSo 33 = .ok (.iload_n 2, 1) := by decide +kernel
theorem dX7_isSo_34 : decode cX7_isSo 34 = .ok (.invokevirtual 134, 3) := by decide +kernel
theorem dX7_isSo_37 : decode cX7_isSo 37 = .ok (.if_icmp .ne 7, 3) := by decide +kernel
theorem dX7_isSo_40 : decode cX7_isSo 40 = .ok (.iconst 1, 1) := by decide +kernel
theorem dX7_isSo_41 : decode cX7_isSo 41 = .ok (.goto 4, 3) := by decide +kernel
theorem dX7_isSo_44 : decode cX7_isSo 44 = .ok (.iconst 0, 1) := by decide +kernel
theorem dX7_isSo_45 : decode cX7_isSo 45 = .ok (.istore_n 3, 1) := by decide +kernel
theorem dX7_isSo_46 : decode cX7_isSo 46 = .ok (.aload_n 0, 1) := by decide +kernel
theorem dX7_isSo_47 : decode cX7_isSo 47 = .ok (.invokevirtual 204, 3) := by decide +kernel
theorem dX7_isSo_50 : decode cX7_isSo 50 = .ok (.iinc 4 1, 3) := by decide +kernel
theorem dX7_isSo_53 : decode cX7_isSo 53 = .ok (.goto (-48), 3) := by decide +kernel
theorem dX7_isSo_56 : decode cX7_isSo 56 = .ok (.iload_n 3, 1) := by decide +kernel
theorem dX7_isSo_57 : decode cX7_isSo 57 = .ok (.ireturn, 1) := by decide +kernel
theorem dX7_whose_0 : decode cX7_whose 0 = .ok (.iload_n 1, 1) := by decide +kernel
theorem dX7_whose_1 : decode cX7_whose 1 = .ok (.invokestatic 237, 3) := by decide +kernel
theorem dX7_whose_4 : decode cX7_whose 4 = .ok (.ifCond .eq 20, 3) := by decide +kernel
theorem dX7_whose_7 : decode cX7_whose 7 = .ok (.aload_n 0, 1) := by decide +kernel
theorem dX7_whose_8 : decode cX7_whose 8 = .ok (.iload_n 2, 1) := by decide +kernel
theorem dX7_whose_9 : decode cX7_whose 9 = .ok (.invokevirtual 125, 3) := by decide +kernel
theorem dX7_whose_12 : decode cX7_whose 12 = .ok (.ifCond .eq 12, 3) := by decide +kernel
theorem dX7_whose_15 : decode cX7_whose 15 = .ok (.iload_n 3, 1) := by decide +kernel
theorem dX7_whose_16 : decode cX7_whose 16 = .ok (.iconst 0, 1) := by decide +kernel
theorem dX7_whose_17 : decode cX7_whose 17 = .ok (.iconst 1, 1) := by decide +kernel
theorem dX7_whose_18 : decode cX7_whose 18 = .ok (.invokestatic 57, 3) := by decide +kernel
theorem dX7_whose_21 : decode cX7_whose 21 = .ok (.ifCond .ne 10, 3) := by decide +kernel
theorem dX7_whose_24 : decode cX7_whose 24 = .ok (.aload_n 0, 1) := by decide +kernel
theorem dX7_whose_25 : decode cX7_whose 25 = .ok (.ldc 103, 2) := by decide +kernel
theorem dX7_whose_27 : decode cX7_whose 27 = .ok (.invokevirtual 104, 3) := by decide +kernel
theorem dX7_whose_30 : decode cX7_whose 30 = .ok (.ireturn, 1) := by decide +kernel
theorem dX7_whose_31 : decode cX7_whose 31 = .ok (.aload_n 0, 1) := by decide +kernel
theorem dX7_whose_32 : decode cX7_whose 32 = .ok (.getfield 22, 3) := by decide +kernel
theorem dX7_whose_35 : decode cX7_whose 35 = .ok (.iload_n 1, 1) := by decide +kernel
theorem dX7_whose_36 : decode cX7_whose 36 = .ok (.iaload, 1) := by decide +kernel
theorem dX7_whose_37 : decode cX7_whose 37 = .ok (.ifCond .ne 10, 3) := by decide +kernel
theorem dX7_whose_40 : decode cX7_whose 40 = .ok (.aload_n 0, 1) := by decide +kernel
theorem dX7_whose_41 : decode cX7_whose 41 = .ok (.ldc 117, 2) := by decide +kernel
theorem dX7_whose_43 : decode cX7_whose 43 = .ok (.invokevirtual 104, 3) := by decide +kernel
theorem dX7_whose_46 : decode cX7_whose 46 = .ok (.ireturn, 1) := by decide +kernel
theorem dX7_whose_47 : decode cX7_whose 47 = .ok (.aload_n 0, 1) := by decide +kernel
theorem dX7_whose_48 : decode cX7_whose 48 = .ok (.invokevirtual 221, 3) := by decide +kernel
theorem dX7_whose_51 : decode cX7_whose 51 = .ok (.iconst 0, 1) := by decide +kernel
theorem dX7_whose_52 : decode cX7_whose 52 = .ok (.istore 4, 2) := by decide +kernel
theorem dX7_whose_54 : decode cX7_whose 54 = .ok (.iconst 0, 1) := by decide +kernel
theorem dX7_whose_55 : decode cX7_whose 55 = .ok (.istore 5, 2) := by decide +kernel
theorem dX7_whose_57 : decode cX7_whose 57 = .ok (.iload 5, 2) := by decide +kernel
theorem dX7_whose_59 : decode cX7_whose 59 = .ok (.iconst 4, 1) := by decide +kernel
theorem dX7_whose_60 : decode cX7_whose 60 = .ok (.if_icmp .ge 43, 3) := by decide +kernel
theorem dX7_whose_63 : decode cX7_whose 63 = .ok (.aload_n 0, 1) := by decide +kernel
theorem dX7_whose_64 : decode cX7_whose 64 = .ok (.iload_n 2, 1) := by decide +kernel
theorem dX7_whose_65 : decode cX7_whose 65 = .ok (.iconst 2, 1) := by decide +kernel
theorem dX7_whose_66 : decode cX7_whose 66 = .ok (.iload 5, 2) := by decide +kernel
theorem dX7_whose_68 : decode cX7_whose 68 = .ok (.invokevirtual 122, 3) := by decide +kernel
theorem dX7_whose_71 : decode cX7_whose 71 = .ok (.iload 4, 2) := by decide +kernel
theorem dX7_whose_73 : decode cX7_whose 73 = .ok (.aload_n 0, 1) := by decide +kernel
theorem dX7_whose_74 : decode cX7_whose 74 = .ok (.iload_n 1, 1) := by decide +kernel
theorem dX7_whose_75 : decode cX7_whose 75 = .ok (.iload_n 2, 1) := by decide +kernel
theorem dX7_whose_76 : decode cX7_whose 76 = .ok (.invokevirtual 240, 3) := by decide +kernel
theorem dX7_whose_79 : decode cX7_whose 79 = .ok (.ifCond .eq 10, 3) := by decide +kernel
theorem dX7_whose_82 : decode cX7_whose 82 = .ok (.iconst 1, 1) := by decide +kernel
theorem dX7_whose_83 : decode cX7_whose 83 = .ok (.iload 5, 2) := by decide +kernel
theorem dX7_whose_85 : decode cX7_whose 85 = .ok (.ishl, 1) := by decide +kernel
theorem dX7_whose_86 : decode cX7_whose 86 = .ok (.goto 4, 3) := by decide +kernel
theorem dX7_whose_89 : decode cX7_whose 89 = .ok (.iconst 0, 1) := by decide +kernel
theorem dX7_whose_90 : decode cX7_whose 90 = .ok (.ior, 1) := by decide +kernel
theorem dX7_whose_91 : decode cX7_whose 91 = .ok (.istore 4, 2) := by decide +kernel
theorem dX7_whose_93 : decode cX7_whose 93 = .ok (.aload_n 0, 1) := by decide +kernel
theorem dX7_whose_94 : decode cX7_whose 94 = .ok (.invokevirtual 224, 3) := by decide +kernel
theorem dX7_whose_97 : decode cX7_whose 97 = .ok (.iinc 5 1, 3) := by decide +kernel
theorem dX7_whose_100 : decode cX7_whose 100 = .ok (.goto (-43), 3) := by decide +kernel
theorem dX7_whose_103 : decode cX7_whose 103 = .ok (.iload_n 3, 1) := by decide +kernel
theorem dX7_whose_104 : decode cX7_whose 104 = .ok (.ifCond .ne 8, 3) := by decide +kernel
theorem dX7_whose_107 : decode cX7_whose 107 = .ok (.iload 4, 2) := by decide +kernel
theorem dX7_whose_109 : decode cX7_whose 109 = .ok (.goto 8, 3) := by decide +kernel
theorem dX7_whose_112 : decode cX7_whose 112 = .ok (.iload 4, 2) := by decide +kernel
theorem dX7_whose_114 : decode cX7_whose 114 = .ok (.invokestatic 230, 3) := by decide +kernel
theorem dX7_whose_117 : decode cX7_whose 117 = .ok (.ireturn, 1) := by decide +kernel
theorem dX7_begins_0 : decode cX7_begins 0 = .ok (.aload_n 0, 1) := by decide +kernel
theorem dX7_begins_1 : decode cX7_begins 1 = .ok (.getfield 244, 3) := by decide +kernel
theorem dX7_begins_4 : decode cX7_begins 4 = .ok (.bipush 30, 2) := by decide +kernel
theorem dX7_begins_6 : decode cX7_begins 6 = .ok (.if_icmp .ge 23, 3) := by decide +kernel
theorem dX7_begins_9 : decode cX7_begins 9 = .ok (.aload_n 0, 1) := by decide +kernel
theorem dX7_begins_10 : decode cX7_begins 10 = .ok (.getfield 49, 3) := by decide +kernel
theorem dX7_begins_13 : decode cX7_begins 13 = .ok (.aload_n 0, 1) := by decide +kernel
theorem dX7_begins_14 : decode cX7_begins 14 = .ok (.getfield 244, 3) := by decide +kernel
theorem dX7_begins_17 : decode cX7_begins 17 = .ok (.iload_n 1, 1) := by decide +kernel
theorem dX7_begins_18 : decode cX7_begins 18 = .ok (.iastore, 1) := by decide +kernel
theorem dX7_begins_19 : decode cX7_begins 19 = .ok (.aload_n 0, 1) := by decide +kernel
theorem dX7_begins_20 : decode cX7_begins 20 = .ok (.dup, 1) := by decide +kernel
theorem dX7_begins_21 : decode cX7_begins 21 = .ok (.getfield 244, 3) := by decide +kernel
theorem dX7_begins_24 : decode cX7_begins 24 = .ok (.iconst 1, 1) := by decide +kernel
theorem dX7_begins_25 : decode cX7_begins 25 = .ok (.iadd, 1) := by decide +kernel
theorem dX7_begins_26 : decode cX7_begins 26 = .ok (.putfield 244, 3) := by decide +kernel
theorem dX7_begins_29 : decode cX7_begins 29 = .ok (.return_, 1) := by decide +kernel
theorem dX7_plainWalks_0 : decode cX7_plainWalks 0 = .ok (.aload_n 0, 1) := by decide +kernel
theorem dX7_plainWalks_1 : decode cX7_plainWalks 1 = .ok (.bipush 10, 2) := by decide +kernel
theorem dX7_plainWalks_3 : decode cX7_plainWalks 3 = .ok (.invokevirtual 247, 3) := by decide +kernel
theorem dX7_plainWalks_6 : decode cX7_plainWalks 6 = .ok (.iload_n 2, 1) := by decide +kernel
theorem dX7_plainWalks_7 : decode cX7_plainWalks 7 = .ok (.iload_n 1, 1) := by decide +kernel
theorem dX7_plainWalks_8 : decode cX7_plainWalks 8 = .ok (.iadd, 1) := by decide +kernel
theorem dX7_plainWalks_9 : decode cX7_plainWalks 9 = .ok (.ireturn, 1) := by decide +kernel
theorem dX7_crustWalks_0 : decode cX7_crustWalks 0 = .ok (.aload_n 0, 1) := by decide +kernel
theorem dX7_crustWalks_1 : decode cX7_crustWalks 1 = .ok (.bipush 20, 2) := by decide +kernel
theorem dX7_crustWalks_3 : decode cX7_crustWalks 3 = .ok (.invokevirtual 247, 3) := by decide +kernel
theorem dX7_crustWalks_6 : decode cX7_crustWalks 6 = .ok (.aload_n 0, 1) := by decide +kernel
theorem dX7_crustWalks_7 : decode cX7_crustWalks 7 = .ok (.iload_n 1, 1) := by decide +kernel
theorem dX7_crustWalks_8 : decode cX7_crustWalks 8 = .ok (.iload_n 2, 1) := by decide +kernel
theorem dX7_crustWalks_9 : decode cX7_crustWalks 9 = .ok (.invokevirtual 250, 3) := by decide +kernel
theorem dX7_crustWalks_12 : decode cX7_crustWalks 12 = .ok (.iconst 4, 1) := by decide +kernel
theorem dX7_crustWalks_13 : decode cX7_crustWalks 13 = .ok (.isub, 1) := by decide +kernel
theorem dX7_crustWalks_14 : decode cX7_crustWalks 14 = .ok (.ireturn, 1) := by decide +kernel
theorem dX7_walks_0 : decode cX7_walks 0 = .ok (.aload_n 0, 1) := by decide +kernel
theorem dX7_walks_1 : decode cX7_walks 1 = .ok (.iload_n 1, 1) := by decide +kernel
theorem dX7_walks_2 : decode cX7_walks 2 = .ok (.iconst 0, 1) := by decide +kernel
theorem dX7_walks_3 : decode cX7_walks 3 = .ok (.invokevirtual 61, 3) := by decide +kernel
theorem dX7_walks_6 : decode cX7_walks 6 = .ok (.lookupswitch 65 #[(1, 34), (4, 41), (6, 56)], 34) := by decide +kernel
theorem dX7_walks_40 : decode cX7_walks 40 = .ok (.aload_n 0, 1) := by decide +kernel
theorem dX7_walks_41 : decode cX7_walks 41 = .ok (.iload_n 1, 1) := by decide +kernel
theorem dX7_walks_42 : decode cX7_walks 42 = .ok (.iload_n 2, 1) := by decide +kernel
theorem dX7_walks_43 : decode cX7_walks 43 = .ok (.invokevirtual 253, 3) := by decide +kernel
theorem dX7_walks_46 : decode cX7_walks 46 = .ok (.ireturn, 1) := by decide +kernel
theorem dX7_walks_47 : decode cX7_walks 47 = .ok (.aload_n 0, 1) := by decide +kernel
theorem dX7_walks_48 : decode cX7_walks 48 = .ok (.bipush 50, 2) := by decide +kernel
theorem dX7_walks_50 : decode cX7_walks 50 = .ok (.invokevirtual 247, 3) := by decide +kernel
theorem dX7_walks_53 : decode cX7_walks 53 = .ok (.aload_n 0, 1) := by decide +kernel
theorem dX7_walks_54 : decode cX7_walks 54 = .ok (.iload_n 1, 1) := by decide +kernel
theorem dX7_walks_55 : decode cX7_walks 55 = .ok (.iload_n 2, 1) := by decide +kernel
theorem dX7_walks_56 : decode cX7_walks 56 = .ok (.invokevirtual 253, 3) := by decide +kernel
theorem dX7_walks_59 : decode cX7_walks 59 = .ok (.iconst 3, 1) := by decide +kernel
theorem dX7_walks_60 : decode cX7_walks 60 = .ok (.imul, 1) := by decide +kernel
theorem dX7_walks_61 : decode cX7_walks 61 = .ok (.ireturn, 1) := by decide +kernel
theorem dX7_walks_62 : decode cX7_walks 62 = .ok (.aload_n 0, 1) := by decide +kernel
theorem dX7_walks_63 : decode cX7_walks 63 = .ok (.bipush 70, 2) := by decide +kernel
theorem dX7_walks_65 : decode cX7_walks 65 = .ok (.invokevirtual 247, 3) := by decide +kernel
theorem dX7_walks_68 : decode cX7_walks 68 = .ok (.bipush 9, 2) := by decide +kernel
theorem dX7_walks_70 : decode cX7_walks 70 = .ok (.ireturn, 1) := by decide +kernel
theorem dX7_walks_71 : decode cX7_walks 71 = .ok (.aload_n 0, 1) := by decide +kernel
theorem dX7_walks_72 : decode cX7_walks 72 = .ok (.iload_n 1, 1) := by decide +kernel
theorem dX7_walks_73 : decode cX7_walks 73 = .ok (.iload_n 2, 1) := by decide +kernel
theorem dX7_walks_74 : decode cX7_walks 74 = .ok (.invokevirtual 250, 3) := by decide +kernel
theorem dX7_walks_77 : decode cX7_walks 77 = .ok (.ireturn, 1) := by decide +kernel
theorem dX7_plainWarms_0 : decode cX7_plainWarms 0 = .ok (.aload_n 0, 1) := by decide +kernel
theorem dX7_plainWarms_1 : decode cX7_plainWarms 1 = .ok (.bipush 11, 2) := by decide +kernel
theorem dX7_plainWarms_3 : decode cX7_plainWarms 3 = .ok (.invokevirtual 247, 3) := by decide +kernel
theorem dX7_plainWarms_6 : decode cX7_plainWarms 6 = .ok (.aload_n 0, 1) := by decide +kernel
theorem dX7_plainWarms_7 : decode cX7_plainWarms 7 = .ok (.iload_n 1, 1) := by decide +kernel
theorem dX7_plainWarms_8 : decode cX7_plainWarms 8 = .ok (.iload_n 2, 1) := by decide +kernel
theorem dX7_plainWarms_9 : decode cX7_plainWarms 9 = .ok (.invokevirtual 256, 3) := by decide +kernel
theorem dX7_plainWarms_12 : decode cX7_plainWarms 12 = .ok (.iconst 2, 1) := by decide +kernel
theorem dX7_plainWarms_13 : decode cX7_plainWarms 13 = .ok (.imul, 1) := by decide +kernel
theorem dX7_plainWarms_14 : decode cX7_plainWarms 14 = .ok (.ireturn, 1) := by decide +kernel
theorem dX7_officeWarms_0 : decode cX7_officeWarms 0 = .ok (.aload_n 0, 1) := by decide +kernel
theorem dX7_officeWarms_1 : decode cX7_officeWarms 1 = .ok (.bipush 30, 2) := by decide +kernel
theorem dX7_officeWarms_3 : decode cX7_officeWarms 3 = .ok (.invokevirtual 247, 3) := by decide +kernel
theorem dX7_officeWarms_6 : decode cX7_officeWarms 6 = .ok (.aload_n 0, 1) := by decide +kernel
theorem dX7_officeWarms_7 : decode cX7_officeWarms 7 = .ok (.iload_n 1, 1) := by decide +kernel
theorem dX7_officeWarms_8 : decode cX7_officeWarms 8 = .ok (.iload_n 2, 1) := by decide +kernel
theorem dX7_officeWarms_9 : decode cX7_officeWarms 9 = .ok (.invokevirtual 259, 3) := by decide +kernel
theorem dX7_officeWarms_12 : decode cX7_officeWarms 12 = .ok (.ineg, 1) := by decide +kernel
theorem dX7_officeWarms_13 : decode cX7_officeWarms 13 = .ok (.ireturn, 1) := by decide +kernel
theorem dX7_warms_0 : decode cX7_warms 0 = .ok (.aload_n 0, 1) := by decide +kernel
theorem dX7_warms_1 : decode cX7_warms 1 = .ok (.iload_n 1, 1) := by decide +kernel
theorem dX7_warms_2 : decode cX7_warms 2 = .ok (.iconst 0, 1) := by decide +kernel
theorem dX7_warms_3 : decode cX7_warms 3 = .ok (.invokevirtual 61, 3) := by decide +kernel
theorem dX7_warms_6 : decode cX7_warms 6 = .ok (.tableswitch 76 2 6 #[34, 76, 76, 41, 56], 34) := by decide +kernel
theorem dX7_warms_40 : decode cX7_warms 40 = .ok (.aload_n 0, 1) := by decide +kernel
theorem dX7_warms_41 : decode cX7_warms 41 = .ok (.iload_n 1, 1) := by decide +kernel
theorem dX7_warms_42 : decode cX7_warms 42 = .ok (.iload_n 2, 1) := by decide +kernel
theorem dX7_warms_43 : decode cX7_warms 43 = .ok (.invokevirtual 262, 3) := by decide +kernel
theorem dX7_warms_46 : decode cX7_warms 46 = .ok (.ireturn, 1) := by decide +kernel
theorem dX7_warms_47 : decode cX7_warms 47 = .ok (.aload_n 0, 1) := by decide +kernel
theorem dX7_warms_48 : decode cX7_warms 48 = .ok (.bipush 60, 2) := by decide +kernel
theorem dX7_warms_50 : decode cX7_warms 50 = .ok (.invokevirtual 247, 3) := by decide +kernel
theorem dX7_warms_53 : decode cX7_warms 53 = .ok (.aload_n 0, 1) := by decide +kernel
theorem dX7_warms_54 : decode cX7_warms 54 = .ok (.iload_n 1, 1) := by decide +kernel
theorem dX7_warms_55 : decode cX7_warms 55 = .ok (.iload_n 2, 1) := by decide +kernel
theorem dX7_warms_56 : decode cX7_warms 56 = .ok (.iconst 1, 1) := by decide +kernel
theorem dX7_warms_57 : decode cX7_warms 57 = .ok (.iadd, 1) := by decide +kernel
theorem dX7_warms_58 : decode cX7_warms 58 = .ok (.invokevirtual 262, 3) := by decide +kernel
theorem dX7_warms_61 : decode cX7_warms 61 = .ok (.ireturn, 1) := by decide +kernel
theorem dX7_warms_62 : decode cX7_warms 62 = .ok (.aload_n 0, 1) := by decide +kernel
theorem dX7_warms_63 : decode cX7_warms 63 = .ok (.bipush 71, 2) := by decide +kernel
theorem dX7_warms_65 : decode cX7_warms 65 = .ok (.invokevirtual 247, 3) := by decide +kernel
theorem dX7_warms_68 : decode cX7_warms 68 = .ok (.aload_n 0, 1) := by decide +kernel
theorem dX7_warms_69 : decode cX7_warms 69 = .ok (.iload_n 1, 1) := by decide +kernel
theorem dX7_warms_70 : decode cX7_warms 70 = .ok (.iload_n 2, 1) := by decide +kernel
theorem dX7_warms_71 : decode cX7_warms 71 = .ok (.invokevirtual 259, 3) := by decide +kernel
theorem dX7_warms_74 : decode cX7_warms 74 = .ok (.aload_n 0, 1) := by decide +kernel
theorem dX7_warms_75 : decode cX7_warms 75 = .ok (.iload_n 1, 1) := by decide +kernel
theorem dX7_warms_76 : decode cX7_warms 76 = .ok (.iconst 1, 1) := by decide +kernel
theorem dX7_warms_77 : decode cX7_warms 77 = .ok (.invokevirtual 61, 3) := by decide +kernel
theorem dX7_warms_80 : decode cX7_warms 80 = .ok (.iadd, 1) := by decide +kernel
theorem dX7_warms_81 : decode cX7_warms 81 = .ok (.ireturn, 1) := by decide +kernel
theorem dX7_warms_82 : decode cX7_warms 82 = .ok (.aload_n 0, 1) := by decide +kernel
theorem dX7_warms_83 : decode cX7_warms 83 = .ok (.iload_n 1, 1) := by decide +kernel
theorem dX7_warms_84 : decode cX7_warms 84 = .ok (.iload_n 2, 1) := by decide +kernel
theorem dX7_warms_85 : decode cX7_warms 85 = .ok (.invokevirtual 259, 3) := by decide +kernel
theorem dX7_warms_88 : decode cX7_warms 88 = .ok (.ireturn, 1) := by decide +kernel
theorem dX7_plainSprouts_0 : decode cX7_plainSprouts 0 = .ok (.aload_n 0, 1) := by decide +kernel
theorem dX7_plainSprouts_1 : decode cX7_plainSprouts 1 = .ok (.bipush 12, 2) := by decide +kernel
theorem dX7_plainSprouts_3 : decode cX7_plainSprouts 3 = .ok (.invokevirtual 247, 3) := by decide +kernel
theorem dX7_plainSprouts_6 : decode cX7_plainSprouts 6 = .ok (.aload_n 0, 1) := by decide +kernel
theorem dX7_plainSprouts_7 : decode cX7_plainSprouts 7 = .ok (.iload_n 1, 1) := by decide +kernel
theorem dX7_plainSprouts_8 : decode cX7_plainSprouts 8 = .ok (.iload_n 2, 1) := by decide +kernel
theorem dX7_plainSprouts_9 : decode cX7_plainSprouts 9 = .ok (.invokevirtual 265, 3) := by decide +kernel
theorem dX7_plainSprouts_12 : decode cX7_plainSprouts 12 = .ok (.aload_n 0, 1) := by decide +kernel
theorem dX7_plainSprouts_13 : decode cX7_plainSprouts 13 = .ok (.iload_n 1, 1) := by decide +kernel
theorem dX7_plainSprouts_14 : decode cX7_plainSprouts 14 = .ok (.iconst 1, 1) := by decide +kernel
theorem dX7_plainSprouts_15 : decode cX7_plainSprouts 15 = .ok (.invokevirtual 61, 3) := by decide +kernel
theorem dX7_plainSprouts_18 : decode cX7_plainSprouts 18 = .ok (.isub, 1) := by decide +kernel
theorem dX7_plainSprouts_19 : decode cX7_plainSprouts 19 = .ok (.ireturn, 1) := by decide +kernel
theorem dX7_sprouts_0 : decode cX7_sprouts 0 = .ok (.aload_n 0, 1) := by decide +kernel
theorem dX7_sprouts_1 : decode cX7_sprouts 1 = .ok (.iload_n 1, 1) := by decide +kernel
theorem dX7_sprouts_2 : decode cX7_sprouts 2 = .ok (.iconst 0, 1) := by decide +kernel
theorem dX7_sprouts_3 : decode cX7_sprouts 3 = .ok (.invokevirtual 61, 3) := by decide +kernel
theorem dX7_sprouts_6 : decode cX7_sprouts 6 = .ok (.lookupswitch 56 #[(3, 26), (4, 41)], 26) := by decide +kernel
theorem dX7_sprouts_32 : decode cX7_sprouts 32 = .ok (.aload_n 0, 1) := by decide +kernel
theorem dX7_sprouts_33 : decode cX7_sprouts 33 = .ok (.bipush 40, 2) := by decide +kernel
theorem dX7_sprouts_35 : decode cX7_sprouts 35 = .ok (.invokevirtual 247, 3) := by decide +kernel
theorem dX7_sprouts_38 : decode cX7_sprouts 38 = .ok (.aload_n 0, 1) := by decide +kernel
theorem dX7_sprouts_39 : decode cX7_sprouts 39 = .ok (.iload_n 1, 1) := by decide +kernel
theorem dX7_sprouts_40 : decode cX7_sprouts 40 = .ok (.iload_n 2, 1) := by decide +kernel
theorem dX7_sprouts_41 : decode cX7_sprouts 41 = .ok (.iconst 2, 1) := by decide +kernel
theorem dX7_sprouts_42 : decode cX7_sprouts 42 = .ok (.idiv, 1) := by decide +kernel
theorem dX7_sprouts_43 : decode cX7_sprouts 43 = .ok (.invokevirtual 268, 3) := by decide +kernel
theorem dX7_sprouts_46 : decode cX7_sprouts 46 = .ok (.ireturn, 1) := by decide +kernel
theorem dX7_sprouts_47 : decode cX7_sprouts 47 = .ok (.aload_n 0, 1) := by decide +kernel
theorem dX7_sprouts_48 : decode cX7_sprouts 48 = .ok (.bipush 51, 2) := by decide +kernel
theorem dX7_sprouts_50 : decode cX7_sprouts 50 = .ok (.invokevirtual 247, 3) := by decide +kernel
theorem dX7_sprouts_53 : decode cX7_sprouts 53 = .ok (.aload_n 0, 1) := by decide +kernel
theorem dX7_sprouts_54 : decode cX7_sprouts 54 = .ok (.iload_n 1, 1) := by decide +kernel
theorem dX7_sprouts_55 : decode cX7_sprouts 55 = .ok (.iload_n 2, 1) := by decide +kernel
theorem dX7_sprouts_56 : decode cX7_sprouts 56 = .ok (.invokevirtual 268, 3) := by decide +kernel
theorem dX7_sprouts_59 : decode cX7_sprouts 59 = .ok (.iload_n 1, 1) := by decide +kernel
theorem dX7_sprouts_60 : decode cX7_sprouts 60 = .ok (.ixor, 1) := by decide +kernel
theorem dX7_sprouts_61 : decode cX7_sprouts 61 = .ok (.ireturn, 1) := by decide +kernel
theorem dX7_sprouts_62 : decode cX7_sprouts 62 = .ok (.aload_n 0, 1) := by decide +kernel
theorem dX7_sprouts_63 : decode cX7_sprouts 63 = .ok (.iload_n 1, 1) := by decide +kernel
theorem dX7_sprouts_64 : decode cX7_sprouts 64 = .ok (.iload_n 2, 1) := by decide +kernel
theorem dX7_sprouts_65 : decode cX7_sprouts 65 = .ok (.invokevirtual 268, 3) := by decide +kernel
theorem dX7_sprouts_68 : decode cX7_sprouts 68 = .ok (.ireturn, 1) := by decide +kernel
theorem dX7_plainParts_0 : decode cX7_plainParts 0 = .ok (.aload_n 0, 1) := by decide +kernel
theorem dX7_plainParts_1 : decode cX7_plainParts 1 = .ok (.bipush 13, 2) := by decide +kernel
theorem dX7_plainParts_3 : decode cX7_plainParts 3 = .ok (.invokevirtual 247, 3) := by decide +kernel
theorem dX7_plainParts_6 : decode cX7_plainParts 6 = .ok (.aload_n 0, 1) := by decide +kernel
theorem dX7_plainParts_7 : decode cX7_plainParts 7 = .ok (.iload_n 1, 1) := by decide +kernel
theorem dX7_plainParts_8 : decode cX7_plainParts 8 = .ok (.iconst 1, 1) := by decide +kernel
theorem dX7_plainParts_9 : decode cX7_plainParts 9 = .ok (.invokevirtual 61, 3) := by decide +kernel
theorem dX7_plainParts_12 : decode cX7_plainParts 12 = .ok (.iload_n 1, 1) := by decide +kernel
theorem dX7_plainParts_13 : decode cX7_plainParts 13 = .ok (.isub, 1) := by decide +kernel
theorem dX7_plainParts_14 : decode cX7_plainParts 14 = .ok (.istore_n 3, 1) := by decide +kernel
theorem dX7_plainParts_15 : decode cX7_plainParts 15 = .ok (.aload_n 0, 1) := by decide +kernel
theorem dX7_plainParts_16 : decode cX7_plainParts 16 = .ok (.iload_n 3, 1) := by decide +kernel
theorem dX7_plainParts_17 : decode cX7_plainParts 17 = .ok (.ifCond .ne 7, 3) := by decide +kernel
theorem dX7_plainParts_20 : decode cX7_plainParts 20 = .ok (.iconst 1, 1) := by decide +kernel
theorem dX7_plainParts_21 : decode cX7_plainParts 21 = .ok (.goto 4, 3) := by decide +kernel
theorem dX7_plainParts_24 : decode cX7_plainParts 24 = .ok (.iconst 0, 1) := by decide +kernel
theorem dX7_plainParts_25 : decode cX7_plainParts 25 = .ok (.putfield 271, 3) := by decide +kernel
theorem dX7_plainParts_28 : decode cX7_plainParts 28 = .ok (.aload_n 0, 1) := by decide +kernel
theorem dX7_plainParts_29 : decode cX7_plainParts 29 = .ok (.getfield 271, 3) := by decide +kernel
theorem dX7_plainParts_32 : decode cX7_plainParts 32 = .ok (.ifCond .eq 7, 3) := by decide +kernel
theorem dX7_plainParts_35 : decode cX7_plainParts 35 = .ok (.iconst 0, 1) := by decide +kernel
theorem dX7_plainParts_36 : decode cX7_plainParts 36 = .ok (.goto 6, 3) := by decide +kernel
theorem dX7_plainParts_39 : decode cX7_plainParts 39 = .ok (.iload_n 2, 1) := by decide +kernel
theorem dX7_plainParts_40 : decode cX7_plainParts 40 = .ok (.iload_n 3, 1) := by decide +kernel
theorem dX7_plainParts_41 : decode cX7_plainParts 41 = .ok (.idiv, 1) := by decide +kernel
theorem dX7_plainParts_42 : decode cX7_plainParts 42 = .ok (.ireturn, 1) := by decide +kernel
theorem dX7_partsBy_0 : decode cX7_partsBy 0 = .ok (.aload_n 0, 1) := by decide +kernel
theorem dX7_partsBy_1 : decode cX7_partsBy 1 = .ok (.iload_n 1, 1) := by decide +kernel
theorem dX7_partsBy_2 : decode cX7_partsBy 2 = .ok (.iconst 0, 1) := by decide +kernel
theorem dX7_partsBy_3 : decode cX7_partsBy 3 = .ok (.invokevirtual 61, 3) := by decide +kernel
theorem dX7_partsBy_6 : decode cX7_partsBy 6 = .ok (.iconst 1, 1) := by decide +kernel
theorem dX7_partsBy_7 : decode cX7_partsBy 7 = .ok (.if_icmp .eq 13, 3) := by decide +kernel
theorem dX7_partsBy_10 : decode cX7_partsBy 10 = .ok (.aload_n 0, 1) := by decide +kernel
theorem dX7_partsBy_11 : decode cX7_partsBy 11 = .ok (.iload_n 1, 1) := by decide +kernel
theorem dX7_partsBy_12 : decode cX7_partsBy 12 = .ok (.iconst 0, 1) := by decide +kernel
theorem dX7_partsBy_13 : decode cX7_partsBy 13 = .ok (.invokevirtual 61, 3) := by decide +kernel
theorem dX7_partsBy_16 : decode cX7_partsBy 16 = .ok (.iconst 4, 1) := by decide +kernel
theorem dX7_partsBy_17 : decode cX7_partsBy 17 = .ok (.if_icmp .ne 36, 3) := by decide +kernel
theorem dX7_partsBy_20 : decode cX7_partsBy 20 = .ok (.aload_n 0, 1) := by decide +kernel
theorem dX7_partsBy_21 : decode cX7_partsBy 21 = .ok (.bipush 21, 2) := by decide +kernel
theorem dX7_partsBy_23 : decode cX7_partsBy 23 = .ok (.invokevirtual 247, 3) := by decide +kernel
theorem dX7_partsBy_26 : decode cX7_partsBy 26 = .ok (.aload_n 0, 1) := by decide +kernel
theorem dX7_partsBy_27 : decode cX7_partsBy 27 = .ok (.iload_n 1, 1) := by decide +kernel
theorem dX7_partsBy_28 : decode cX7_partsBy 28 = .ok (.iload_n 2, 1) := by decide +kernel
theorem dX7_partsBy_29 : decode cX7_partsBy 29 = .ok (.invokevirtual 274, 3) := by decide +kernel
theorem dX7_partsBy_32 : decode cX7_partsBy 32 = .ok (.istore_n 3, 1) := by decide +kernel
theorem dX7_partsBy_33 : decode cX7_partsBy 33 = .ok (.aload_n 0, 1) := by decide +kernel
theorem dX7_partsBy_34 : decode cX7_partsBy 34 = .ok (.getfield 271, 3) := by decide +kernel
theorem dX7_partsBy_37 : decode cX7_partsBy 37 = .ok (.ifCond .eq 7, 3) := by decide +kernel
theorem dX7_partsBy_40 : decode cX7_partsBy 40 = .ok (.iconst 0, 1) := by decide +kernel
theorem dX7_partsBy_41 : decode cX7_partsBy 41 = .ok (.goto 11, 3) := by decide +kernel
theorem dX7_partsBy_44 : decode cX7_partsBy 44 = .ok (.iload_n 3, 1) := by decide +kernel
theorem dX7_partsBy_45 : decode cX7_partsBy 45 = .ok (.aload_n 0, 1) := by decide +kernel
theorem dX7_partsBy_46 : decode cX7_partsBy 46 = .ok (.iload_n 1, 1) := by decide +kernel
theorem dX7_partsBy_47 : decode cX7_partsBy 47 = .ok (.iconst 1, 1) := by decide +kernel
theorem dX7_partsBy_48 : decode cX7_partsBy 48 = .ok (.invokevirtual 265, 3) := by decide +kernel
theorem dX7_partsBy_51 : decode cX7_partsBy 51 = .ok (.iadd, 1) := by decide +kernel
theorem dX7_partsBy_52 : decode cX7_partsBy 52 = .ok (.ireturn, 1) := by decide +kernel
theorem dX7_partsBy_53 : decode cX7_partsBy 53 = .ok (.aload_n 0, 1) := by decide +kernel
theorem dX7_partsBy_54 : decode cX7_partsBy 54 = .ok (.iload_n 1, 1) := by decide +kernel
theorem dX7_partsBy_55 : decode cX7_partsBy 55 = .ok (.iload_n 2, 1) := by decide +kernel
theorem dX7_partsBy_56 : decode cX7_partsBy 56 = .ok (.invokevirtual 274, 3) := by decide +kernel
theorem dX7_partsBy_59 : decode cX7_partsBy 59 = .ok (.ireturn, 1) := by decide +kernel
theorem dX7_voice_0 : decode cX7_voice 0 = .ok (.aload_n 0, 1) := by decide +kernel
theorem dX7_voice_1 : decode cX7_voice 1 = .ok (.iload_n 1, 1) := by decide +kernel
theorem dX7_voice_2 : decode cX7_voice 2 = .ok (.invokevirtual 125, 3) := by decide +kernel
theorem dX7_voice_5 : decode cX7_voice 5 = .ok (.ifCond .eq 12, 3) := by decide +kernel
theorem dX7_voice_8 : decode cX7_voice 8 = .ok (.iload_n 2, 1) := by decide +kernel
theorem dX7_voice_9 : decode cX7_voice 9 = .ok (.iconst 0, 1) := by decide +kernel
theorem dX7_voice_10 : decode cX7_voice 10 = .ok (.iconst 3, 1) := by decide +kernel
theorem dX7_voice_11 : decode cX7_voice 11 = .ok (.invokestatic 57, 3) := by decide +kernel
theorem dX7_voice_14 : decode cX7_voice 14 = .ok (.ifCond .ne 10, 3) := by decide +kernel
theorem dX7_voice_17 : decode cX7_voice 17 = .ok (.aload_n 0, 1) := by decide +kernel
theorem dX7_voice_18 : decode cX7_voice 18 = .ok (.ldc 103, 2) := by decide +kernel
theorem dX7_voice_20 : decode cX7_voice 20 = .ok (.invokevirtual 104, 3) := by decide +kernel
theorem dX7_voice_23 : decode cX7_voice 23 = .ok (.ireturn, 1) := by decide +kernel
theorem dX7_voice_24 : decode cX7_voice 24 = .ok (.aload_n 0, 1) := by decide +kernel
theorem dX7_voice_25 : decode cX7_voice 25 = .ok (.iconst 0, 1) := by decide +kernel
theorem dX7_voice_26 : decode cX7_voice 26 = .ok (.putfield 244, 3) := by decide +kernel
theorem dX7_voice_29 : decode cX7_voice 29 = .ok (.aload_n 0, 1) := by decide +kernel
theorem dX7_voice_30 : decode cX7_voice 30 = .ok (.iconst 0, 1) := by decide +kernel
theorem dX7_voice_31 : decode cX7_voice 31 = .ok (.putfield 271, 3) := by decide +kernel
theorem dX7_voice_34 : decode cX7_voice 34 = .ok (.iload_n 2, 1) := by decide +kernel
theorem dX7_voice_35 : decode cX7_voice 35 = .ok (.ifCond .ne 12, 3) := by decide +kernel
theorem dX7_voice_38 : decode cX7_voice 38 = .ok (.aload_n 0, 1) := by decide +kernel
theorem dX7_voice_39 : decode cX7_voice 39 = .ok (.iload_n 1, 1) := by decide +kernel
theorem dX7_voice_40 : decode cX7_voice 40 = .ok (.iload_n 3, 1) := by decide +kernel
theorem dX7_voice_41 : decode cX7_voice 41 = .ok (.invokevirtual 256, 3) := by decide +kernel
theorem dX7_voice_44 : decode cX7_voice 44 = .ok (.goto 37, 3) := by decide +kernel
theorem dX7_voice_47 : decode cX7_voice 47 = .ok (.iload_n 2, 1) := by decide +kernel
theorem dX7_voice_48 : decode cX7_voice 48 = .ok (.iconst 1, 1) := by decide +kernel
theorem dX7_voice_49 : decode cX7_voice 49 = .ok (.if_icmp .ne 12, 3) := by decide +kernel
theorem dX7_voice_52 : decode cX7_voice 52 = .ok (.aload_n 0, 1) := by decide +kernel
theorem dX7_voice_53 : decode cX7_voice 53 = .ok (.iload_n 1, 1) := by decide +kernel
theorem dX7_voice_54 : decode cX7_voice 54 = .ok (.iload_n 3, 1) := by decide +kernel
theorem dX7_voice_55 : decode cX7_voice 55 = .ok (.invokevirtual 265, 3) := by decide +kernel
theorem dX7_voice_58 : decode cX7_voice 58 = .ok (.goto 23, 3) := by decide +kernel
theorem dX7_voice_61 : decode cX7_voice 61 = .ok (.iload_n 2, 1) := by decide +kernel
theorem dX7_voice_62 : decode cX7_voice 62 = .ok (.iconst 2, 1) := by decide +kernel
theorem dX7_voice_63 : decode cX7_voice 63 = .ok (.if_icmp .ne 12, 3) := by decide +kernel
theorem dX7_voice_66 : decode cX7_voice 66 = .ok (.aload_n 0, 1) := by decide +kernel
theorem dX7_voice_67 : decode cX7_voice 67 = .ok (.iload_n 1, 1) := by decide +kernel
theorem dX7_voice_68 : decode cX7_voice 68 = .ok (.iload_n 3, 1) := by decide +kernel
theorem dX7_voice_69 : decode cX7_voice 69 = .ok (.invokevirtual 277, 3) := by decide +kernel
theorem dX7_voice_72 : decode cX7_voice 72 = .ok (.goto 9, 3) := by decide +kernel
theorem dX7_voice_75 : decode cX7_voice 75 = .ok (.aload_n 0, 1) := by decide +kernel
theorem dX7_voice_76 : decode cX7_voice 76 = .ok (.iload_n 1, 1) := by decide +kernel
theorem dX7_voice_77 : decode cX7_voice 77 = .ok (.iload_n 3, 1) := by decide +kernel
theorem dX7_voice_78 : decode cX7_voice 78 = .ok (.invokevirtual 280, 3) := by decide +kernel
theorem dX7_voice_81 : decode cX7_voice 81 = .ok (.istore 4, 2) := by decide +kernel
theorem dX7_voice_83 : decode cX7_voice 83 = .ok (.aload_n 0, 1) := by decide +kernel
theorem dX7_voice_84 : decode cX7_voice 84 = .ok (.getfield 271, 3) := by decide +kernel
theorem dX7_voice_87 : decode cX7_voice 87 = .ok (.ifCond .eq 13, 3) := by decide +kernel
theorem dX7_voice_90 : decode cX7_voice 90 = .ok (.aload_n 0, 1) := by decide +kernel
theorem dX7_voice_91 : decode cX7_voice 91 = .ok (.ldc_w 283, 3) := by decide +kernel
theorem dX7_voice_94 : decode cX7_voice 94 = .ok (.invokevirtual 104, 3) := by decide +kernel
theorem dX7_voice_97 : decode cX7_voice 97 = .ok (.goto 5, 3) := by decide +kernel
theorem dX7_voice_100 : decode cX7_voice 100 = .ok (.iload 4, 2) := by decide +kernel
theorem dX7_voice_102 : decode cX7_voice 102 = .ok (.ireturn, 1) := by decide +kernel
theorem dX7_body_0 : decode cX7_body 0 = .ok (.iload_n 1, 1) := by decide +kernel
theorem dX7_body_1 : decode cX7_body 1 = .ok (.iconst 0, 1) := by decide +kernel
theorem dX7_body_2 : decode cX7_body 2 = .ok (.aload_n 0, 1) := by decide +kernel
theorem dX7_body_3 : decode cX7_body 3 = .ok (.getfield 244, 3) := by decide +kernel
theorem dX7_body_6 : decode cX7_body 6 = .ok (.iconst 1, 1) := by decide +kernel
theorem dX7_body_7 : decode cX7_body 7 = .ok (.isub, 1) := by decide +kernel
theorem dX7_body_8 : decode cX7_body 8 = .ok (.invokestatic 57, 3) := by decide +kernel
theorem dX7_body_11 : decode cX7_body 11 = .ok (.ifCond .eq 12, 3) := by decide +kernel
theorem dX7_body_14 : decode cX7_body 14 = .ok (.aload_n 0, 1) := by decide +kernel
theorem dX7_body_15 : decode cX7_body 15 = .ok (.getfield 49, 3) := by decide +kernel
theorem dX7_body_18 : decode cX7_body 18 = .ok (.iload_n 1, 1) := by decide +kernel
theorem dX7_body_19 : decode cX7_body 19 = .ok (.iaload, 1) := by decide +kernel
theorem dX7_body_20 : decode cX7_body 20 = .ok (.goto 9, 3) := by decide +kernel
theorem dX7_body_23 : decode cX7_body 23 = .ok (.aload_n 0, 1) := by decide +kernel
theorem dX7_body_24 : decode cX7_body 24 = .ok (.ldc 117, 2) := by decide +kernel
theorem dX7_body_26 : decode cX7_body 26 = .ok (.invokevirtual 104, 3) := by decide +kernel
theorem dX7_body_29 : decode cX7_body 29 = .ok (.ireturn, 1) := by decide +kernel
theorem dX7_isSheet_0 : decode cX7_isSheet 0 = .ok (.iload_n 0, 1) := by decide +kernel
theorem dX7_isSheet_1 : decode cX7_isSheet 1 = .ok (.iconst 0, 1) := by decide +kernel
theorem dX7_isSheet_2 : decode cX7_isSheet 2 = .ok (.iconst 3, 1) := by decide +kernel
theorem dX7_isSheet_3 : decode cX7_isSheet 3 = .ok (.invokestatic 57, 3) := by decide +kernel
theorem dX7_isSheet_6 : decode cX7_isSheet 6 = .ok (.ireturn, 1) := by decide +kernel
theorem dX7_sheet_0 : decode cX7_sheet 0 = .ok (.iload_n 1, 1) := by decide +kernel
theorem dX7_sheet_1 : decode cX7_sheet 1 = .ok (.invokestatic 237, 3) := by decide +kernel
theorem dX7_sheet_4 : decode cX7_sheet 4 = .ok (.ifCond .eq 25, 3) := by decide +kernel
theorem dX7_sheet_7 : decode cX7_sheet 7 = .ok (.iload_n 2, 1) := by decide +kernel
theorem dX7_sheet_8 : decode cX7_sheet 8 = .ok (.ifCond .eq 28, 3) := by decide +kernel
theorem dX7_sheet_11 : decode cX7_sheet 11 = .ok (.iload_n 2, 1) := by decide +kernel
theorem dX7_sheet_12 : decode cX7_sheet 12 = .ok (.bipush 8, 2) := by decide +kernel
theorem dX7_sheet_14 : decode cX7_sheet 14 = .ok (.if_icmp .eq 22, 3) := by decide +kernel
theorem dX7_sheet_17 : decode cX7_sheet 17 = .ok (.iload_n 2, 1) := by decide +kernel
theorem dX7_sheet_18 : decode cX7_sheet 18 = .ok (.bipush 16, 2) := by decide +kernel
theorem dX7_sheet_20 : decode cX7_sheet 20 = .ok (.if_icmp .eq 16, 3) := by decide +kernel
theorem dX7_sheet_23 : decode cX7_sheet 23 = .ok (.iload_n 2, 1) := by decide +kernel
theorem dX7_sheet_24 : decode cX7_sheet 24 = .ok (.bipush 32, 2) := by decide +kernel
theorem dX7_sheet_26 : decode cX7_sheet 26 = .ok (.if_icmp .eq 10, 3) := by decide +kernel
theorem dX7_sheet_29 : decode cX7_sheet 29 = .ok (.aload_n 0, 1) := by decide +kernel
theorem dX7_sheet_30 : decode cX7_sheet 30 = .ok (.ldc 103, 2) := by decide +kernel
theorem dX7_sheet_32 : decode cX7_sheet 32 = .ok (.invokevirtual 104, 3) := by decide +kernel
theorem dX7_sheet_35 : decode cX7_sheet 35 = .ok (.ireturn, 1) := by decide +kernel
theorem dX7_sheet_36 : decode cX7_sheet 36 = .ok (.iload_n 2, 1) := by decide +kernel
theorem dX7_sheet_37 : decode cX7_sheet 37 = .ok (.ifCond .le 14, 3) := by decide +kernel
theorem dX7_sheet_40 : decode cX7_sheet 40 = .ok (.iload_n 3, 1) := by decide +kernel
theorem dX7_sheet_41 : decode cX7_sheet 41 = .ok (.ifCond .ge 10, 3) := by decide +kernel
theorem dX7_sheet_44 : decode cX7_sheet 44 = .ok (.aload_n 0, 1) := by decide +kernel
theorem dX7_sheet_45 : decode cX7_sheet 45 = .ok (.ldc 207, 2) := by decide +kernel
theorem dX7_sheet_47 : decode cX7_sheet 47 = .ok (.invokevirtual 104, 3) := by decide +kernel
theorem dX7_sheet_50 : decode cX7_sheet 50 = .ok (.ireturn, 1) := by decide +kernel
theorem dX7_sheet_51 : decode cX7_sheet 51 = .ok (.iload_n 2, 1) := by decide +kernel
theorem dX7_sheet_52 : decode cX7_sheet 52 = .ok (.ifCond .le 16, 3) := by decide +kernel
theorem dX7_sheet_55 : decode cX7_sheet 55 = .ok (.iload_n 3, 1) := by decide +kernel
theorem dX7_sheet_56 : decode cX7_sheet 56 = .ok (.bipush 24, 2) := by decide +kernel
theorem dX7_sheet_58 : decode cX7_sheet 58 = .ok (.if_icmp .le 10, 3) := by decide +kernel
theorem dX7_sheet_61 : decode cX7_sheet 61 = .ok (.aload_n 0, 1) := by decide +kernel
theorem dX7_sheet_62 : decode cX7_sheet 62 = .ok (.ldc 103, 2) := by decide +kernel
theorem dX7_sheet_64 : decode cX7_sheet 64 = .ok (.invokevirtual 104, 3) := by decide +kernel
theorem dX7_sheet_67 : decode cX7_sheet 67 = .ok (.ireturn, 1) := by decide +kernel
theorem dX7_sheet_68 : decode cX7_sheet 68 = .ok (.aload_n 0, 1) := by decide +kernel
theorem dX7_sheet_69 : decode cX7_sheet 69 = .ok (.getfield 22, 3) := by decide +kernel
theorem dX7_sheet_72 : decode cX7_sheet 72 = .ok (.iload_n 1, 1) := by decide +kernel
theorem dX7_sheet_73 : decode cX7_sheet 73 = .ok (.iload_n 2, 1) := by decide +kernel
theorem dX7_sheet_74 : decode cX7_sheet 74 = .ok (.iastore, 1) := by decide +kernel
theorem dX7_sheet_75 : decode cX7_sheet 75 = .ok (.aload_n 0, 1) := by decide +kernel
theorem dX7_sheet_76 : decode cX7_sheet 76 = .ok (.getfield 25, 3) := by decide +kernel
theorem dX7_sheet_79 : decode cX7_sheet 79 = .ok (.iload_n 1, 1) := by decide +kernel
theorem dX7_sheet_80 : decode cX7_sheet 80 = .ok (.iload_n 2, 1) := by decide +kernel
theorem dX7_sheet_81 : decode cX7_sheet 81 = .ok (.ifCond .ne 7, 3) := by decide +kernel
theorem dX7_sheet_84 : decode cX7_sheet 84 = .ok (.iconst 0, 1) := by decide +kernel
theorem dX7_sheet_85 : decode cX7_sheet 85 = .ok (.goto 4, 3) := by decide +kernel
theorem dX7_sheet_88 : decode cX7_sheet 88 = .ok (.iload_n 3, 1) := by decide +kernel
theorem dX7_sheet_89 : decode cX7_sheet 89 = .ok (.iastore, 1) := by decide +kernel
theorem dX7_sheet_90 : decode cX7_sheet 90 = .ok (.iconst 0, 1) := by decide +kernel
theorem dX7_sheet_91 : decode cX7_sheet 91 = .ok (.istore 4, 2) := by decide +kernel
theorem dX7_sheet_93 : decode cX7_sheet 93 = .ok (.iload 4, 2) := by decide +kernel
theorem dX7_sheet_95 : decode cX7_sheet 95 = .ok (.bipush 24, 2) := by decide +kernel
theorem dX7_sheet_97 : decode cX7_sheet 97 = .ok (.if_icmp .ge 22, 3) := by decide +kernel
theorem dX7_sheet_100 : decode cX7_sheet 100 = .ok (.aload_n 0, 1) := by decide +kernel
theorem dX7_sheet_101 : decode cX7_sheet 101 = .ok (.getfield 28, 3) := by decide +kernel
theorem dX7_sheet_104 : decode cX7_sheet 104 = .ok (.bipush 24, 2) := by decide +kernel
theorem dX7_sheet_106 : decode cX7_sheet 106 = .ok (.iload_n 1, 1) := by decide +kernel
theorem dX7_sheet_107 : decode cX7_sheet 107 = .ok (.imul, 1) := by decide +kernel
theorem dX7_sheet_108 : decode cX7_sheet 108 = .ok (.iload 4, 2) := by decide +kernel
theorem dX7_sheet_110 : decode cX7_sheet 110 = .ok (.iadd, 1) := by decide +kernel
theorem dX7_sheet_111 : decode cX7_sheet 111 = .ok (.iconst 0, 1) := by decide +kernel
theorem dX7_sheet_112 : decode cX7_sheet 112 = .ok (.iastore, 1) := by decide +kernel
theorem dX7_sheet_113 : decode cX7_sheet 113 = .ok (.iinc 4 1, 3) := by decide +kernel
theorem dX7_sheet_116 : decode cX7_sheet 116 = .ok (.goto (-23), 3) := by decide +kernel
theorem dX7_sheet_119 : decode cX7_sheet 119 = .ok (.iconst 1, 1) := by decide +kernel
theorem dX7_sheet_120 : decode cX7_sheet 120 = .ok (.ireturn, 1) := by decide +kernel
theorem dX7_notThere_0 : decode cX7_notThere 0 = .ok (.iload_n 1, 1) := by decide +kernel
theorem dX7_notThere_1 : decode cX7_notThere 1 = .ok (.invokestatic 237, 3) := by decide +kernel
theorem dX7_notThere_4 : decode cX7_notThere 4 = .ok (.ifCond .ne 8, 3) := by decide +kernel
theorem dX7_notThere_7 : decode cX7_notThere 7 = .ok (.ldc 103, 2) := by decide +kernel
theorem dX7_notThere_9 : decode cX7_notThere 9 = .ok (.goto 18, 3) := by decide +kernel
theorem dX7_notThere_12 : decode cX7_notThere 12 = .ok (.aload_n 0, 1) := by decide +kernel
theorem dX7_notThere_13 : decode cX7_notThere 13 = .ok (.getfield 22, 3) := by decide +kernel
theorem dX7_notThere_16 : decode cX7_notThere 16 = .ok (.iload_n 1, 1) := by decide +kernel
theorem dX7_notThere_17 : decode cX7_notThere 17 = .ok (.iaload, 1) := by decide +kernel
theorem dX7_notThere_18 : decode cX7_notThere 18 = .ok (.ifCond .ne 8, 3) := by decide +kernel
theorem dX7_notThere_21 : decode cX7_notThere 21 = .ok (.ldc 117, 2) := by decide +kernel
theorem dX7_notThere_23 : decode cX7_notThere 23 = .ok (.goto 4, 3) := by decide +kernel
theorem dX7_notThere_26 : decode cX7_notThere 26 = .ok (.iconst 0, 1) := by decide +kernel
theorem dX7_notThere_27 : decode cX7_notThere 27 = .ok (.ireturn, 1) := by decide +kernel
theorem dX7_put_0 : decode cX7_put 0 = .ok (.aload_n 0, 1) := by decide +kernel
theorem dX7_put_1 : decode cX7_put 1 = .ok (.iload_n 1, 1) := by decide +kernel
theorem dX7_put_2 : decode cX7_put 2 = .ok (.invokevirtual 284, 3) := by decide +kernel
theorem dX7_put_5 : decode cX7_put 5 = .ok (.istore 4, 2) := by decide +kernel
theorem dX7_put_7 : decode cX7_put 7 = .ok (.iload 4, 2) := by decide +kernel
theorem dX7_put_9 : decode cX7_put 9 = .ok (.ifCond .ne 24, 3) := by decide +kernel
theorem dX7_put_12 : decode cX7_put 12 = .ok (.iload_n 2, 1) := by decide +kernel
theorem dX7_put_13 : decode cX7_put 13 = .ok (.iconst 0, 1) := by decide +kernel
theorem dX7_put_14 : decode cX7_put 14 = .ok (.aload_n 0, 1) := by decide +kernel
theorem dX7_put_15 : decode cX7_put 15 = .ok (.getfield 25, 3) := by decide +kernel
theorem dX7_put_18 : decode cX7_put 18 = .ok (.iload_n 1, 1) := by decide +kernel
theorem dX7_put_19 : decode cX7_put 19 = .ok (.iaload, 1) := by decide +kernel
theorem dX7_put_20 : decode cX7_put 20 = .ok (.iconst 1, 1) := by decide +kernel
theorem dX7_put_21 : decode cX7_put 21 = .ok (.isub, 1) := by decide +kernel
theorem dX7_put_22 : decode cX7_put 22 = .ok (.invokestatic 57, 3) := by decide +kernel
theorem dX7_put_25 : decode cX7_put 25 = .ok (.ifCond .ne 8, 3) := by decide +kernel
theorem dX7_put_28 : decode cX7_put 28 = .ok (.ldc 103, 2) := by decide +kernel
theorem dX7_put_30 : decode cX7_put 30 = .ok (.goto 5, 3) := by decide +kernel
theorem dX7_put_33 : decode cX7_put 33 = .ok (.iload 4, 2) := by decide +kernel
theorem dX7_put_35 : decode cX7_put 35 = .ok (.istore 4, 2) := by decide +kernel
theorem dX7_put_37 : decode cX7_put 37 = .ok (.iload 4, 2) := by decide +kernel
theorem dX7_put_39 : decode cX7_put 39 = .ok (.ifCond .eq 10, 3) := by decide +kernel
theorem dX7_put_42 : decode cX7_put 42 = .ok (.aload_n 0, 1) := by decide +kernel
theorem dX7_put_43 : decode cX7_put 43 = .ok (.iload 4, 2) := by decide +kernel
theorem dX7_put_45 : decode cX7_put 45 = .ok (.invokevirtual 104, 3) := by decide +kernel
theorem dX7_put_48 : decode cX7_put 48 = .ok (.ireturn, 1) := by decide +kernel
theorem dX7_put_49 : decode cX7_put 49 = .ok (.aload_n 0, 1) := by decide +kernel
theorem dX7_put_50 : decode cX7_put 50 = .ok (.getfield 28, 3) := by decide +kernel
theorem dX7_put_53 : decode cX7_put 53 = .ok (.bipush 24, 2) := by decide +kernel
theorem dX7_put_55 : decode cX7_put 55 = .ok (.iload_n 1, 1) := by decide +kernel
theorem dX7_put_56 : decode cX7_put 56 = .ok (.imul, 1) := by decide +kernel
theorem dX7_put_57 : decode cX7_put 57 = .ok (.iload_n 2, 1) := by decide +kernel
theorem dX7_put_58 : decode cX7_put 58 = .ok (.iadd, 1) := by decide +kernel
theorem dX7_put_59 : decode cX7_put 59 = .ok (.aload_n 0, 1) := by decide +kernel
theorem dX7_put_60 : decode cX7_put 60 = .ok (.getfield 22, 3) := by decide +kernel
theorem dX7_put_63 : decode cX7_put 63 = .ok (.iload_n 1, 1) := by decide +kernel
theorem dX7_put_64 : decode cX7_put 64 = .ok (.iaload, 1) := by decide +kernel
theorem dX7_put_65 : decode cX7_put 65 = .ok (.bipush 8, 2) := by decide +kernel
theorem dX7_put_67 : decode cX7_put 67 = .ok (.if_icmp .ne 8, 3) := by decide +kernel
theorem dX7_put_70 : decode cX7_put 70 = .ok (.iload_n 3, 1) := by decide +kernel
theorem dX7_put_71 : decode cX7_put 71 = .ok (.i2b, 1) := by decide +kernel
theorem dX7_put_72 : decode cX7_put 72 = .ok (.goto 20, 3) := by decide +kernel
theorem dX7_put_75 : decode cX7_put 75 = .ok (.aload_n 0, 1) := by decide +kernel
theorem dX7_put_76 : decode cX7_put 76 = .ok (.getfield 22, 3) := by decide +kernel
theorem dX7_put_79 : decode cX7_put 79 = .ok (.iload_n 1, 1) := by decide +kernel
theorem dX7_put_80 : decode cX7_put 80 = .ok (.iaload, 1) := by decide +kernel
theorem dX7_put_81 : decode cX7_put 81 = .ok (.bipush 16, 2) := by decide +kernel
theorem dX7_put_83 : decode cX7_put 83 = .ok (.if_icmp .ne 8, 3) := by decide +kernel
theorem dX7_put_86 : decode cX7_put 86 = .ok (.iload_n 3, 1) := by decide +kernel
theorem dX7_put_87 : decode cX7_put 87 = .ok (.i2s, 1) := by decide +kernel
theorem dX7_put_88 : decode cX7_put 88 = .ok (.goto 4, 3) := by decide +kernel
theorem dX7_put_91 : decode cX7_put 91 = .ok (.iload_n 3, 1) := by decide +kernel
theorem dX7_put_92 : decode cX7_put 92 = .ok (.iastore, 1) := by decide +kernel
theorem dX7_put_93 : decode cX7_put 93 = .ok (.iconst 1, 1) := by decide +kernel
theorem dX7_put_94 : decode cX7_put 94 = .ok (.ireturn, 1) := by decide +kernel
theorem dX7_notMoved_0 : decode cX7_notMoved 0 = .ok (.iload_n 1, 1) := by decide +kernel
theorem dX7_notMoved_1 : decode cX7_notMoved 1 = .ok (.invokestatic 237, 3) := by decide +kernel
theorem dX7_notMoved_4 : decode cX7_notMoved 4 = .ok (.ifCond .eq 10, 3) := by decide +kernel
theorem dX7_notMoved_7 : decode cX7_notMoved 7 = .ok (.iload_n 3, 1) := by decide +kernel
theorem dX7_notMoved_8 : decode cX7_notMoved 8 = .ok (.invokestatic 237, 3) := by decide +kernel
theorem dX7_notMoved_11 : decode cX7_notMoved 11 = .ok (.ifCond .ne 6, 3) := by decide +kernel
theorem dX7_notMoved_14 : decode cX7_notMoved 14 = .ok (.ldc 103, 2) := by decide +kernel
theorem dX7_notMoved_16 : decode cX7_notMoved 16 = .ok (.ireturn, 1) := by decide +kernel
theorem dX7_notMoved_17 : decode cX7_notMoved 17 = .ok (.aload_n 0, 1) := by decide +kernel
theorem dX7_notMoved_18 : decode cX7_notMoved 18 = .ok (.getfield 22, 3) := by decide +kernel
theorem dX7_notMoved_21 : decode cX7_notMoved 21 = .ok (.iload_n 1, 1) := by decide +kernel
theorem dX7_notMoved_22 : decode cX7_notMoved 22 = .ok (.iaload, 1) := by decide +kernel
theorem dX7_notMoved_23 : decode cX7_notMoved 23 = .ok (.ifCond .eq 12, 3) := by decide +kernel
theorem dX7_notMoved_26 : decode cX7_notMoved 26 = .ok (.aload_n 0, 1) := by decide +kernel
theorem dX7_notMoved_27 : decode cX7_notMoved 27 = .ok (.getfield 22, 3) := by decide +kernel
theorem dX7_notMoved_30 : decode cX7_notMoved 30 = .ok (.iload_n 3, 1) := by decide +kernel
theorem dX7_notMoved_31 : decode cX7_notMoved 31 = .ok (.iaload, 1) := by decide +kernel
theorem dX7_notMoved_32 : decode cX7_notMoved 32 = .ok (.ifCond .ne 6, 3) := by decide +kernel
theorem dX7_notMoved_35 : decode cX7_notMoved 35 = .ok (.ldc 117, 2) := by decide +kernel
theorem dX7_notMoved_37 : decode cX7_notMoved 37 = .ok (.ireturn, 1) := by decide +kernel
theorem dX7_notMoved_38 : decode cX7_notMoved 38 = .ok (.aload_n 0, 1) := by decide +kernel
theorem dX7_notMoved_39 : decode cX7_notMoved 39 = .ok (.getfield 22, 3) := by decide +kernel
theorem dX7_notMoved_42 : decode cX7_notMoved 42 = .ok (.iload_n 1, 1) := by decide +kernel
theorem dX7_notMoved_43 : decode cX7_notMoved 43 = .ok (.iaload, 1) := by decide +kernel
theorem dX7_notMoved_44 : decode cX7_notMoved 44 = .ok (.aload_n 0, 1) := by decide +kernel
theorem dX7_notMoved_45 : decode cX7_notMoved 45 = .ok (.getfield 22, 3) := by decide +kernel
theorem dX7_notMoved_48 : decode cX7_notMoved 48 = .ok (.iload_n 3, 1) := by decide +kernel
theorem dX7_notMoved_49 : decode cX7_notMoved 49 = .ok (.iaload, 1) := by decide +kernel
theorem dX7_notMoved_50 : decode cX7_notMoved 50 = .ok (.if_icmp .eq 6, 3) := by decide +kernel
theorem dX7_notMoved_53 : decode cX7_notMoved 53 = .ok (.ldc 137, 2) := by decide +kernel
theorem dX7_notMoved_55 : decode cX7_notMoved 55 = .ok (.ireturn, 1) := by decide +kernel
theorem dX7_notMoved_56 : decode cX7_notMoved 56 = .ok (.iload 5, 2) := by decide +kernel
theorem dX7_notMoved_58 : decode cX7_notMoved 58 = .ok (.ifCond .lt 43, 3) := by decide +kernel
theorem dX7_notMoved_61 : decode cX7_notMoved 61 = .ok (.iload_n 2, 1) := by decide +kernel
theorem dX7_notMoved_62 : decode cX7_notMoved 62 = .ok (.ifCond .lt 39, 3) := by decide +kernel
theorem dX7_notMoved_65 : decode cX7_notMoved 65 = .ok (.iload 4, 2) := by decide +kernel
theorem dX7_notMoved_67 : decode cX7_notMoved 67 = .ok (.ifCond .lt 34, 3) := by decide +kernel
theorem dX7_notMoved_70 : decode cX7_notMoved 70 = .ok (.iload 5, 2) := by decide +kernel
theorem dX7_notMoved_72 : decode cX7_notMoved 72 = .ok (.aload_n 0, 1) := by decide +kernel
theorem dX7_notMoved_73 : decode cX7_notMoved 73 = .ok (.getfield 25, 3) := by decide +kernel
theorem dX7_notMoved_76 : decode cX7_notMoved 76 = .ok (.iload_n 1, 1) := by decide +kernel
theorem dX7_notMoved_77 : decode cX7_notMoved 77 = .ok (.iaload, 1) := by decide +kernel
theorem dX7_notMoved_78 : decode cX7_notMoved 78 = .ok (.iload_n 2, 1) := by decide +kernel
theorem dX7_notMoved_79 : decode cX7_notMoved 79 = .ok (.isub, 1) := by decide +kernel
theorem dX7_notMoved_80 : decode cX7_notMoved 80 = .ok (.if_icmp .gt 21, 3) := by decide +kernel
theorem dX7_notMoved_83 : decode cX7_notMoved 83 = .ok (.iload 5, 2) := by decide +kernel
theorem dX7_notMoved_85 : decode cX7_notMoved 85 = .ok (.aload_n 0, 1) := by decide +kernel
theorem dX7_notMoved_86 : decode cX7_notMoved 86 = .ok (.getfield 25, 3) := by decide +kernel
theorem dX7_notMoved_89 : decode cX7_notMoved 89 = .ok (.iload_n 3, 1) := by decide +kernel
theorem dX7_notMoved_90 : decode cX7_notMoved 90 = .ok (.iaload, 1) := by decide +kernel
theorem dX7_notMoved_91 : decode cX7_notMoved 91 = .ok (.iload 4, 2) := by decide +kernel
theorem dX7_notMoved_93 : decode cX7_notMoved 93 = .ok (.isub, 1) := by decide +kernel
theorem dX7_notMoved_94 : decode cX7_notMoved 94 = .ok (.if_icmp .gt 7, 3) := by decide +kernel
theorem dX7_notMoved_97 : decode cX7_notMoved 97 = .ok (.iconst 1, 1) := by decide +kernel
theorem dX7_notMoved_98 : decode cX7_notMoved 98 = .ok (.goto 4, 3) := by decide +kernel
theorem dX7_notMoved_101 : decode cX7_notMoved 101 = .ok (.iconst 0, 1) := by decide +kernel
theorem dX7_notMoved_102 : decode cX7_notMoved 102 = .ok (.istore 6, 2) := by decide +kernel
theorem dX7_notMoved_104 : decode cX7_notMoved 104 = .ok (.iload 6, 2) := by decide +kernel
theorem dX7_notMoved_106 : decode cX7_notMoved 106 = .ok (.ifCond .eq 7, 3) := by decide +kernel
theorem dX7_notMoved_109 : decode cX7_notMoved 109 = .ok (.iconst 0, 1) := by decide +kernel
theorem dX7_notMoved_110 : decode cX7_notMoved 110 = .ok (.goto 5, 3) := by decide +kernel
theorem dX7_notMoved_113 : decode cX7_notMoved 113 = .ok (.ldc 103, 2) := by decide +kernel
theorem dX7_notMoved_115 : decode cX7_notMoved 115 = .ok (.ireturn, 1) := by decide +kernel
theorem dX7_move_0 : decode cX7_move 0 = .ok (.aload_n 0, 1) := by decide +kernel
theorem dX7_move_1 : decode cX7_move 1 = .ok (.iload_n 1, 1) := by decide +kernel
theorem dX7_move_2 : decode cX7_move 2 = .ok (.iload_n 2, 1) := by decide +kernel
theorem dX7_move_3 : decode cX7_move 3 = .ok (.iload_n 3, 1) := by decide +kernel
theorem dX7_move_4 : decode cX7_move 4 = .ok (.iload 4, 2) := by decide +kernel
theorem dX7_move_6 : decode cX7_move 6 = .ok (.iload 5, 2) := by decide +kernel
theorem dX7_move_8 : decode cX7_move 8 = .ok (.invokevirtual 287, 3) := by decide +kernel
theorem dX7_move_11 : decode cX7_move 11 = .ok (.istore 6, 2) := by decide +kernel
theorem dX7_move_13 : decode cX7_move 13 = .ok (.iload 6, 2) := by decide +kernel
theorem dX7_move_15 : decode cX7_move 15 = .ok (.ifCond .eq 10, 3) := by decide +kernel
theorem dX7_move_18 : decode cX7_move 18 = .ok (.aload_n 0, 1) := by decide +kernel
theorem dX7_move_19 : decode cX7_move 19 = .ok (.iload 6, 2) := by decide +kernel
theorem dX7_move_21 : decode cX7_move 21 = .ok (.invokevirtual 104, 3) := by decide +kernel
theorem dX7_move_24 : decode cX7_move 24 = .ok (.ireturn, 1) := by decide +kernel
theorem dX7_move_25 : decode cX7_move 25 = .ok (.iconst 0, 1) := by decide +kernel
theorem dX7_move_26 : decode cX7_move 26 = .ok (.istore 7, 2) := by decide +kernel
theorem dX7_move_28 : decode cX7_move 28 = .ok (.iload 7, 2) := by decide +kernel
theorem dX7_move_30 : decode cX7_move 30 = .ok (.iload 5, 2) := by decide +kernel
theorem dX7_move_32 : decode cX7_move 32 = .ok (.if_icmp .ge 58, 3) := by decide +kernel
theorem dX7_move_35 : decode cX7_move 35 = .ok (.iload_n 2, 1) := by decide +kernel
theorem dX7_move_36 : decode cX7_move 36 = .ok (.iload 4, 2) := by decide +kernel
theorem dX7_move_38 : decode cX7_move 38 = .ok (.if_icmp .ge 13, 3) := by decide +kernel
theorem dX7_move_41 : decode cX7_move 41 = .ok (.iload 5, 2) := by decide +kernel
theorem dX7_move_43 : decode cX7_move 43 = .ok (.iconst 1, 1) := by decide +kernel
theorem dX7_move_44 : decode cX7_move 44 = .ok (.isub, 1) := by decide +kernel
theorem dX7_move_45 : decode cX7_move 45 = .ok (.iload 7, 2) := by decide +kernel
theorem dX7_move_47 : decode cX7_move 47 = .ok (.isub, 1) := by decide +kernel
theorem dX7_move_48 : decode cX7_move 48 = .ok (.goto 5, 3) := by decide +kernel
theorem dX7_move_51 : decode cX7_move 51 = .ok (.iload 7, 2) := by decide +kernel
theorem dX7_move_53 : decode cX7_move 53 = .ok (.istore 8, 2) := by decide +kernel
theorem dX7_move_55 : decode cX7_move 55 = .ok (.aload_n 0, 1) := by decide +kernel
theorem dX7_move_56 : decode cX7_move 56 = .ok (.getfield 28, 3) := by decide +kernel
theorem dX7_move_59 : decode cX7_move 59 = .ok (.bipush 24, 2) := by decide +kernel
theorem dX7_move_61 : decode cX7_move 61 = .ok (.iload_n 3, 1) := by decide +kernel
theorem dX7_move_62 : decode cX7_move 62 = .ok (.imul, 1) := by decide +kernel
theorem dX7_move_63 : decode cX7_move 63 = .ok (.iload 4, 2) := by decide +kernel
theorem dX7_move_65 : decode cX7_move 65 = .ok (.iadd, 1) := by decide +kernel
theorem dX7_move_66 : decode cX7_move 66 = .ok (.iload 8, 2) := by decide +kernel
theorem dX7_move_68 : decode cX7_move 68 = .ok (.iadd, 1) := by decide +kernel
theorem dX7_move_69 : decode cX7_move 69 = .ok (.aload_n 0, 1) := by decide +kernel
theorem dX7_move_70 : decode cX7_move 70 = .ok (.getfield 28, 3) := by decide +kernel
theorem dX7_move_73 : decode cX7_move 73 = .ok (.bipush 24, 2) := by decide +kernel
theorem dX7_move_75 : decode cX7_move 75 = .ok (.iload_n 1, 1) := by decide +kernel
theorem dX7_move_76 : decode cX7_move 76 = .ok (.imul, 1) := by decide +kernel
theorem dX7_move_77 : decode cX7_move 77 = .ok (.iload_n 2, 1) := by decide +kernel
theorem dX7_move_78 : decode cX7_move 78 = .ok (.iadd, 1) := by decide +kernel
theorem dX7_move_79 : decode cX7_move 79 = .ok (.iload 8, 2) := by decide +kernel
theorem dX7_move_81 : decode cX7_move 81 = .ok (.iadd, 1) := by decide +kernel
theorem dX7_move_82 : decode cX7_move 82 = .ok (.iaload, 1) := by decide +kernel
theorem dX7_move_83 : decode cX7_move 83 = .ok (.iastore, 1) := by decide +kernel
theorem dX7_move_84 : decode cX7_move 84 = .ok (.iinc 7 1, 3) := by decide +kernel
theorem dX7_move_87 : decode cX7_move 87 = .ok (.goto (-59), 3) := by decide +kernel
theorem dX7_move_90 : decode cX7_move 90 = .ok (.iload 5, 2) := by decide +kernel
theorem dX7_move_92 : decode cX7_move 92 = .ok (.ireturn, 1) := by decide +kernel
theorem dX7_lays_0 : decode cX7_lays 0 = .ok (.aload_n 0, 1) := by decide +kernel
theorem dX7_lays_1 : decode cX7_lays 1 = .ok (.iload_n 1, 1) := by decide +kernel
theorem dX7_lays_2 : decode cX7_lays 2 = .ok (.invokevirtual 284, 3) := by decide +kernel
theorem dX7_lays_5 : decode cX7_lays 5 = .ok (.istore_n 2, 1) := by decide +kernel
theorem dX7_lays_6 : decode cX7_lays 6 = .ok (.iload_n 2, 1) := by decide +kernel
theorem dX7_lays_7 : decode cX7_lays 7 = .ok (.ifCond .eq 9, 3) := by decide +kernel
theorem dX7_lays_10 : decode cX7_lays 10 = .ok (.aload_n 0, 1) := by decide +kernel
theorem dX7_lays_11 : decode cX7_lays 11 = .ok (.iload_n 2, 1) := by decide +kernel
theorem dX7_lays_12 : decode cX7_lays 12 = .ok (.invokevirtual 104, 3) := by decide +kernel
theorem dX7_lays_15 : decode cX7_lays 15 = .ok (.ireturn, 1) := by decide +kernel
theorem dX7_lays_16 : decode cX7_lays 16 = .ok (.iconst 0, 1) := by decide +kernel
theorem dX7_lays_17 : decode cX7_lays 17 = .ok (.istore_n 3, 1) := by decide +kernel
theorem dX7_lays_18 : decode cX7_lays 18 = .ok (.iload_n 3, 1) := by decide +kernel
theorem dX7_lays_19 : decode cX7_lays 19 = .ok (.aload_n 0, 1) := by decide +kernel
theorem dX7_lays_20 : decode cX7_lays 20 = .ok (.getfield 25, 3) := by decide +kernel
theorem dX7_lays_23 : decode cX7_lays 23 = .ok (.iload_n 1, 1) := by decide +kernel
theorem dX7_lays_24 : decode cX7_lays 24 = .ok (.iaload, 1) := by decide +kernel
theorem dX7_lays_25 : decode cX7_lays 25 = .ok (.if_icmp .ge 53, 3) := by decide +kernel
theorem dX7_lays_28 : decode cX7_lays 28 = .ok (.iload_n 3, 1) := by decide +kernel
theorem dX7_lays_29 : decode cX7_lays 29 = .ok (.aload_n 0, 1) := by decide +kernel
theorem dX7_lays_30 : decode cX7_lays 30 = .ok (.getfield 9, 3) := by decide +kernel
theorem dX7_lays_33 : decode cX7_lays 33 = .ok (.iconst 2, 1) := by decide +kernel
theorem dX7_lays_34 : decode cX7_lays 34 = .ok (.iaload, 1) := by decide +kernel
theorem dX7_lays_35 : decode cX7_lays 35 = .ok (.if_icmp .ge 43, 3) := by decide +kernel
theorem dX7_lays_38 : decode cX7_lays 38 = .ok (.aload_n 0, 1) := by decide +kernel
theorem dX7_lays_39 : decode cX7_lays 39 = .ok (.getfield 28, 3) := by decide +kernel
theorem dX7_lays_42 : decode cX7_lays 42 = .ok (.bipush 24, 2) := by decide +kernel
theorem dX7_lays_44 : decode cX7_lays 44 = .ok (.iload_n 1, 1) := by decide +kernel
theorem dX7_lays_45 : decode cX7_lays 45 = .ok (.imul, 1) := by decide +kernel
theorem dX7_lays_46 : decode cX7_lays 46 = .ok (.iload_n 3, 1) := by decide +kernel
theorem dX7_lays_47 : decode cX7_lays 47 = .ok (.iadd, 1) := by decide +kernel
theorem dX7_lays_48 : decode cX7_lays 48 = .ok (.iaload, 1) := by decide +kernel
theorem dX7_lays_49 : decode cX7_lays 49 = .ok (.invokestatic 100, 3) := by decide +kernel
theorem dX7_lays_52 : decode cX7_lays 52 = .ok (.ifCond .eq 26, 3) := by decide +kernel
theorem dX7_lays_55 : decode cX7_lays 55 = .ok (.aload_n 0, 1) := by decide +kernel
theorem dX7_lays_56 : decode cX7_lays 56 = .ok (.iload_n 3, 1) := by decide +kernel
theorem dX7_lays_57 : decode cX7_lays 57 = .ok (.iconst 3, 1) := by decide +kernel
theorem dX7_lays_58 : decode cX7_lays 58 = .ok (.aload_n 0, 1) := by decide +kernel
theorem dX7_lays_59 : decode cX7_lays 59 = .ok (.getfield 28, 3) := by decide +kernel
theorem dX7_lays_62 : decode cX7_lays 62 = .ok (.bipush 24, 2) := by decide +kernel
theorem dX7_lays_64 : decode cX7_lays 64 = .ok (.iload_n 1, 1) := by decide +kernel
theorem dX7_lays_65 : decode cX7_lays 65 = .ok (.imul, 1) := by decide +kernel
theorem dX7_lays_66 : decode cX7_lays 66 = .ok (.iload_n 3, 1) := by decide +kernel
theorem dX7_lays_67 : decode cX7_lays 67 = .ok (.iadd, 1) := by decide +kernel
theorem dX7_lays_68 : decode cX7_lays 68 = .ok (.iaload, 1) := by decide +kernel
theorem dX7_lays_69 : decode cX7_lays 69 = .ok (.invokevirtual 122, 3) := by decide +kernel
theorem dX7_lays_72 : decode cX7_lays 72 = .ok (.iinc 3 1, 3) := by decide +kernel
theorem dX7_lays_75 : decode cX7_lays 75 = .ok (.goto (-57), 3) := by decide +kernel
theorem dX7_lays_78 : decode cX7_lays 78 = .ok (.iload_n 3, 1) := by decide +kernel
theorem dX7_lays_79 : decode cX7_lays 79 = .ok (.ireturn, 1) := by decide +kernel
theorem dX7_judge_0 : decode cX7_judge 0 = .ok (.aload_n 0, 1) := by decide +kernel
theorem dX7_judge_1 : decode cX7_judge 1 = .ok (.iload_n 1, 1) := by decide +kernel
theorem dX7_judge_2 : decode cX7_judge 2 = .ok (.invokevirtual 284, 3) := by decide +kernel
theorem dX7_judge_5 : decode cX7_judge 5 = .ok (.istore_n 2, 1) := by decide +kernel
theorem dX7_judge_6 : decode cX7_judge 6 = .ok (.iload_n 2, 1) := by decide +kernel
theorem dX7_judge_7 : decode cX7_judge 7 = .ok (.ifCond .eq 9, 3) := by decide +kernel
theorem dX7_judge_10 : decode cX7_judge 10 = .ok (.aload_n 0, 1) := by decide +kernel
theorem dX7_judge_11 : decode cX7_judge 11 = .ok (.iload_n 2, 1) := by decide +kernel
theorem dX7_judge_12 : decode cX7_judge 12 = .ok (.invokevirtual 104, 3) := by decide +kernel
theorem dX7_judge_15 : decode cX7_judge 15 = .ok (.ireturn, 1) := by decide +kernel
theorem dX7_judge_16 : decode cX7_judge 16 = .ok (.iconst 0, 1) := by decide +kernel
theorem dX7_judge_17 : decode cX7_judge 17 = .ok (.istore_n 3, 1) := by decide +kernel
theorem dX7_judge_18 : decode cX7_judge 18 = .ok (.iload_n 3, 1) := by decide +kernel
theorem dX7_judge_19 : decode cX7_judge 19 = .ok (.aload_n 0, 1) := by decide +kernel
theorem dX7_judge_20 : decode cX7_judge 20 = .ok (.getfield 25, 3) := by decide +kernel
theorem dX7_judge_23 : decode cX7_judge 23 = .ok (.iload_n 1, 1) := by decide +kernel
theorem dX7_judge_24 : decode cX7_judge 24 = .ok (.iaload, 1) := by decide +kernel
theorem dX7_judge_25 : decode cX7_judge 25 = .ok (.if_icmp .ge 38, 3) := by decide +kernel
theorem dX7_judge_28 : decode cX7_judge 28 = .ok (.iload_n 3, 1) := by decide +kernel
theorem dX7_judge_29 : decode cX7_judge 29 = .ok (.aload_n 0, 1) := by decide +kernel
theorem dX7_judge_30 : decode cX7_judge 30 = .ok (.getfield 9, 3) := by decide +kernel
theorem dX7_judge_33 : decode cX7_judge 33 = .ok (.iconst 2, 1) := by decide +kernel
theorem dX7_judge_34 : decode cX7_judge 34 = .ok (.iaload, 1) := by decide +kernel
theorem dX7_judge_35 : decode cX7_judge 35 = .ok (.if_icmp .ge 28, 3) := by decide +kernel
theorem dX7_judge_38 : decode cX7_judge 38 = .ok (.aload_n 0, 1) := by decide +kernel
theorem dX7_judge_39 : decode cX7_judge 39 = .ok (.getfield 28, 3) := by decide +kernel
theorem dX7_judge_42 : decode cX7_judge 42 = .ok (.bipush 24, 2) := by decide +kernel
theorem dX7_judge_44 : decode cX7_judge 44 = .ok (.iload_n 1, 1) := by decide +kernel
theorem dX7_judge_45 : decode cX7_judge 45 = .ok (.imul, 1) := by decide +kernel
theorem dX7_judge_46 : decode cX7_judge 46 = .ok (.iload_n 3, 1) := by decide +kernel
theorem dX7_judge_47 : decode cX7_judge 47 = .ok (.iadd, 1) := by decide +kernel
theorem dX7_judge_48 : decode cX7_judge 48 = .ok (.iaload, 1) := by decide +kernel
theorem dX7_judge_49 : decode cX7_judge 49 = .ok (.aload_n 0, 1) := by decide +kernel
theorem dX7_judge_50 : decode cX7_judge 50 = .ok (.iload_n 3, 1) := by decide +kernel
theorem dX7_judge_51 : decode cX7_judge 51 = .ok (.invokevirtual 134, 3) := by decide +kernel
theorem dX7_judge_54 : decode cX7_judge 54 = .ok (.if_icmp .ne 9, 3) := by decide +kernel
theorem dX7_judge_57 : decode cX7_judge 57 = .ok (.iinc 3 1, 3) := by decide +kernel
theorem dX7_judge_60 : decode cX7_judge 60 = .ok (.goto (-42), 3) := by decide +kernel
theorem dX7_judge_63 : decode cX7_judge 63 = .ok (.iload_n 3, 1) := by decide +kernel
theorem dX7_judge_64 : decode cX7_judge 64 = .ok (.ireturn, 1) := by decide +kernel
theorem dX7_image_0 : decode cX7_image 0 = .ok (.aload_n 0, 1) := by decide +kernel
theorem dX7_image_1 : decode cX7_image 1 = .ok (.getfield 9, 3) := by decide +kernel
theorem dX7_image_4 : decode cX7_image 4 = .ok (.aload_n 0, 1) := by decide +kernel
theorem dX7_image_5 : decode cX7_image 5 = .ok (.getfield 13, 3) := by decide +kernel
theorem dX7_image_8 : decode cX7_image 8 = .ok (.invokestatic 53, 3) := by decide +kernel
theorem dX7_image_11 : decode cX7_image 11 = .ok (.aload_n 0, 1) := by decide +kernel
theorem dX7_image_12 : decode cX7_image 12 = .ok (.dup, 1) := by decide +kernel
theorem dX7_image_13 : decode cX7_image 13 = .ok (.getfield 291, 3) := by decide +kernel
theorem dX7_image_16 : decode cX7_image 16 = .ok (.iconst 1, 1) := by decide +kernel
theorem dX7_image_17 : decode cX7_image 17 = .ok (.iadd, 1) := by decide +kernel
theorem dX7_image_18 : decode cX7_image 18 = .ok (.putfield 291, 3) := by decide +kernel
theorem dX7_image_21 : decode cX7_image 21 = .ok (.aload_n 0, 1) := by decide +kernel
theorem dX7_image_22 : decode cX7_image 22 = .ok (.getfield 291, 3) := by decide +kernel
theorem dX7_image_25 : decode cX7_image 25 = .ok (.ireturn, 1) := by decide +kernel
theorem dX7_restore_0 : decode cX7_restore 0 = .ok (.aload_n 0, 1) := by decide +kernel
theorem dX7_restore_1 : decode cX7_restore 1 = .ok (.getfield 291, 3) := by decide +kernel
theorem dX7_restore_4 : decode cX7_restore 4 = .ok (.ifCond .ne 10, 3) := by decide +kernel
theorem dX7_restore_7 : decode cX7_restore 7 = .ok (.aload_n 0, 1) := by decide +kernel
theorem dX7_restore_8 : decode cX7_restore 8 = .ok (.ldc 117, 2) := by decide +kernel
theorem dX7_restore_10 : decode cX7_restore 10 = .ok (.invokevirtual 104, 3) := by decide +kernel
theorem dX7_restore_13 : decode cX7_restore 13 = .ok (.ireturn, 1) := by decide +kernel
theorem dX7_restore_14 : decode cX7_restore 14 = .ok (.aload_n 0, 1) := by decide +kernel
theorem dX7_restore_15 : decode cX7_restore 15 = .ok (.getfield 13, 3) := by decide +kernel
theorem dX7_restore_18 : decode cX7_restore 18 = .ok (.aload_n 0, 1) := by decide +kernel
theorem dX7_restore_19 : decode cX7_restore 19 = .ok (.getfield 9, 3) := by decide +kernel
theorem dX7_restore_22 : decode cX7_restore 22 = .ok (.invokestatic 53, 3) := by decide +kernel
theorem dX7_restore_25 : decode cX7_restore 25 = .ok (.aload_n 0, 1) := by decide +kernel
theorem dX7_restore_26 : decode cX7_restore 26 = .ok (.iconst 0, 1) := by decide +kernel
theorem dX7_restore_27 : decode cX7_restore 27 = .ok (.putfield 73, 3) := by decide +kernel
theorem dX7_restore_30 : decode cX7_restore 30 = .ok (.aload_n 0, 1) := by decide +kernel
theorem dX7_restore_31 : decode cX7_restore 31 = .ok (.getfield 9, 3) := by decide +kernel
theorem dX7_restore_34 : decode cX7_restore 34 = .ok (.iconst 0, 1) := by decide +kernel
theorem dX7_restore_35 : decode cX7_restore 35 = .ok (.iaload, 1) := by decide +kernel
theorem dX7_restore_36 : decode cX7_restore 36 = .ok (.ireturn, 1) := by decide +kernel
theorem dX7_tell_0 : decode cX7_tell 0 = .ok (.aload_n 0, 1) := by decide +kernel
theorem dX7_tell_1 : decode cX7_tell 1 = .ok (.getfield 9, 3) := by decide +kernel
theorem dX7_tell_4 : decode cX7_tell 4 = .ok (.iconst 4, 1) := by decide +kernel
theorem dX7_tell_5 : decode cX7_tell 5 = .ok (.iaload, 1) := by decide +kernel
theorem dX7_tell_6 : decode cX7_tell 6 = .ok (.bipush 24, 2) := by decide +kernel
theorem dX7_tell_8 : decode cX7_tell 8 = .ok (.if_icmp .ne 10, 3) := by decide +kernel
theorem dX7_tell_11 : decode cX7_tell 11 = .ok (.aload_n 0, 1) := by decide +kernel
theorem dX7_tell_12 : decode cX7_tell 12 = .ok (.ldc 121, 2) := by decide +kernel
theorem dX7_tell_14 : decode cX7_tell 14 = .ok (.invokevirtual 104, 3) := by decide +kernel
theorem dX7_tell_17 : decode cX7_tell 17 = .ok (.ireturn, 1) := by decide +kernel
theorem dX7_tell_18 : decode cX7_tell 18 = .ok (.aload_n 0, 1) := by decide +kernel
theorem dX7_tell_19 : decode cX7_tell 19 = .ok (.getfield 9, 3) := by decide +kernel
theorem dX7_tell_22 : decode cX7_tell 22 = .ok (.bipush 119, 2) := by decide +kernel
theorem dX7_tell_24 : decode cX7_tell 24 = .ok (.aload_n 0, 1) := by decide +kernel
theorem dX7_tell_25 : decode cX7_tell 25 = .ok (.getfield 9, 3) := by decide +kernel
theorem dX7_tell_28 : decode cX7_tell 28 = .ok (.iconst 4, 1) := by decide +kernel
theorem dX7_tell_29 : decode cX7_tell 29 = .ok (.iaload, 1) := by decide +kernel
theorem dX7_tell_30 : decode cX7_tell 30 = .ok (.iadd, 1) := by decide +kernel
theorem dX7_tell_31 : decode cX7_tell 31 = .ok (.iload_n 1, 1) := by decide +kernel
theorem dX7_tell_32 : decode cX7_tell 32 = .ok (.iastore, 1) := by decide +kernel
theorem dX7_tell_33 : decode cX7_tell 33 = .ok (.aload_n 0, 1) := by decide +kernel
theorem dX7_tell_34 : decode cX7_tell 34 = .ok (.getfield 9, 3) := by decide +kernel
theorem dX7_tell_37 : decode cX7_tell 37 = .ok (.iconst 4, 1) := by decide +kernel
theorem dX7_tell_38 : decode cX7_tell 38 = .ok (.dup2, 1) := by decide +kernel
theorem dX7_tell_39 : decode cX7_tell 39 = .ok (.iaload, 1) := by decide +kernel
theorem dX7_tell_40 : decode cX7_tell 40 = .ok (.iconst 1, 1) := by decide +kernel
theorem dX7_tell_41 : decode cX7_tell 41 = .ok (.iadd, 1) := by decide +kernel
theorem dX7_tell_42 : decode cX7_tell 42 = .ok (.iastore, 1) := by decide +kernel
theorem dX7_tell_43 : decode cX7_tell 43 = .ok (.aload_n 0, 1) := by decide +kernel
theorem dX7_tell_44 : decode cX7_tell 44 = .ok (.getfield 9, 3) := by decide +kernel
theorem dX7_tell_47 : decode cX7_tell 47 = .ok (.iconst 4, 1) := by decide +kernel
theorem dX7_tell_48 : decode cX7_tell 48 = .ok (.iaload, 1) := by decide +kernel
theorem dX7_tell_49 : decode cX7_tell 49 = .ok (.ireturn, 1) := by decide +kernel
theorem dX7_check_0 : decode cX7_check 0 = .ok (.aload_n 0, 1) := by decide +kernel
theorem dX7_check_1 : decode cX7_check 1 = .ok (.getfield 9, 3) := by decide +kernel
theorem dX7_check_4 : decode cX7_check 4 = .ok (.iconst 4, 1) := by decide +kernel
theorem dX7_check_5 : decode cX7_check 5 = .ok (.iaload, 1) := by decide +kernel
theorem dX7_check_6 : decode cX7_check 6 = .ok (.istore_n 1, 1) := by decide +kernel
theorem dX7_check_7 : decode cX7_check 7 = .ok (.aload_n 0, 1) := by decide +kernel
theorem dX7_check_8 : decode cX7_check 8 = .ok (.getfield 9, 3) := by decide +kernel
theorem dX7_check_11 : decode cX7_check 11 = .ok (.iconst 4, 1) := by decide +kernel
theorem dX7_check_12 : decode cX7_check 12 = .ok (.iconst 0, 1) := by decide +kernel
theorem dX7_check_13 : decode cX7_check 13 = .ok (.iastore, 1) := by decide +kernel
theorem dX7_check_14 : decode cX7_check 14 = .ok (.iconst 0, 1) := by decide +kernel
theorem dX7_check_15 : decode cX7_check 15 = .ok (.istore_n 2, 1) := by decide +kernel
theorem dX7_check_16 : decode cX7_check 16 = .ok (.iload_n 2, 1) := by decide +kernel
theorem dX7_check_17 : decode cX7_check 17 = .ok (.iload_n 1, 1) := by decide +kernel
theorem dX7_check_18 : decode cX7_check 18 = .ok (.if_icmp .ge 39, 3) := by decide +kernel
theorem dX7_check_21 : decode cX7_check 21 = .ok (.aload_n 0, 1) := by decide +kernel
theorem dX7_check_22 : decode cX7_check 22 = .ok (.iload_n 2, 1) := by decide +kernel
theorem dX7_check_23 : decode cX7_check 23 = .ok (.invokevirtual 125, 3) := by decide +kernel
theorem dX7_check_26 : decode cX7_check 26 = .ok (.ifCond .eq 21, 3) := by decide +kernel
theorem dX7_check_29 : decode cX7_check 29 = .ok (.aload_n 0, 1) := by decide +kernel
theorem dX7_check_30 : decode cX7_check 30 = .ok (.getfield 9, 3) := by decide +kernel
theorem dX7_check_33 : decode cX7_check 33 = .ok (.bipush 119, 2) := by decide +kernel
theorem dX7_check_35 : decode cX7_check 35 = .ok (.iload_n 2, 1) := by decide +kernel
theorem dX7_check_36 : decode cX7_check 36 = .ok (.iadd, 1) := by decide +kernel
theorem dX7_check_37 : decode cX7_check 37 = .ok (.iaload, 1) := by decide +kernel
theorem dX7_check_38 : decode cX7_check 38 = .ok (.aload_n 0, 1) := by decide +kernel
theorem dX7_check_39 : decode cX7_check 39 = .ok (.iload_n 2, 1) := by decide +kernel
theorem dX7_check_40 : decode cX7_check 40 = .ok (.iconst 3, 1) := by decide +kernel
theorem dX7_check_41 : decode cX7_check 41 = .ok (.invokevirtual 61, 3) := by decide +kernel
theorem dX7_check_44 : decode cX7_check 44 = .ok (.if_icmp .eq 7, 3) := by decide +kernel
theorem dX7_check_47 : decode cX7_check 47 = .ok (.iconst 1, 1) := by decide +kernel
theorem dX7_check_48 : decode cX7_check 48 = .ok (.iload_n 2, 1) := by decide +kernel
theorem dX7_check_49 : decode cX7_check 49 = .ok (.iadd, 1) := by decide +kernel
theorem dX7_check_50 : decode cX7_check 50 = .ok (.ireturn, 1) := by decide +kernel
theorem dX7_check_51 : decode cX7_check 51 = .ok (.iinc 2 1, 3) := by decide +kernel
theorem dX7_check_54 : decode cX7_check 54 = .ok (.goto (-38), 3) := by decide +kernel
theorem dX7_check_57 : decode cX7_check 57 = .ok (.iconst 0, 1) := by decide +kernel
theorem dX7_check_58 : decode cX7_check 58 = .ok (.ireturn, 1) := by decide +kernel
theorem dX7_count_0 : decode cX7_count 0 = .ok (.iload_n 1, 1) := by decide +kernel
theorem dX7_count_1 : decode cX7_count 1 = .ok (.tableswitch 88 0 6 #[43, 50, 57, 62, 69, 76, 81], 43) := by decide +kernel
theorem dX7_count_44 : decode cX7_count 44 = .ok (.aload_n 0, 1) := by decide +kernel
theorem dX7_count_45 : decode cX7_count 45 = .ok (.getfield 9, 3) := by decide +kernel
theorem dX7_count_48 : decode cX7_count 48 = .ok (.iconst 2, 1) := by decide +kernel
theorem dX7_count_49 : decode cX7_count 49 = .ok (.iaload, 1) := by decide +kernel
theorem dX7_count_50 : decode cX7_count 50 = .ok (.ireturn, 1) := by decide +kernel
theorem dX7_count_51 : decode cX7_count 51 = .ok (.aload_n 0, 1) := by decide +kernel
theorem dX7_count_52 : decode cX7_count 52 = .ok (.getfield 9, 3) := by decide +kernel
theorem dX7_count_55 : decode cX7_count 55 = .ok (.iconst 0, 1) := by decide +kernel
theorem dX7_count_56 : decode cX7_count 56 = .ok (.iaload, 1) := by decide +kernel
theorem dX7_count_57 : decode cX7_count 57 = .ok (.ireturn, 1) := by decide +kernel
theorem dX7_count_58 : decode cX7_count 58 = .ok (.aload_n 0, 1) := by decide +kernel
theorem dX7_count_59 : decode cX7_count 59 = .ok (.invokevirtual 211, 3) := by decide +kernel
theorem dX7_count_62 : decode cX7_count 62 = .ok (.ireturn, 1) := by decide +kernel
theorem dX7_count_63 : decode cX7_count 63 = .ok (.aload_n 0, 1) := by decide +kernel
theorem dX7_count_64 : decode cX7_count 64 = .ok (.getfield 9, 3) := by decide +kernel
theorem dX7_count_67 : decode cX7_count 67 = .ok (.iconst 3, 1) := by decide +kernel
theorem dX7_count_68 : decode cX7_count 68 = .ok (.iaload, 1) := by decide +kernel
theorem dX7_count_69 : decode cX7_count 69 = .ok (.ireturn, 1) := by decide +kernel
theorem dX7_count_70 : decode cX7_count 70 = .ok (.aload_n 0, 1) := by decide +kernel
theorem dX7_count_71 : decode cX7_count 71 = .ok (.getfield 9, 3) := by decide +kernel
theorem dX7_count_74 : decode cX7_count 74 = .ok (.iconst 4, 1) := by decide +kernel
theorem dX7_count_75 : decode cX7_count 75 = .ok (.iaload, 1) := by decide +kernel
theorem dX7_count_76 : decode cX7_count 76 = .ok (.ireturn, 1) := by decide +kernel
theorem dX7_count_77 : decode cX7_count 77 = .ok (.aload_n 0, 1) := by decide +kernel
theorem dX7_count_78 : decode cX7_count 78 = .ok (.getfield 244, 3) := by decide +kernel
theorem dX7_count_81 : decode cX7_count 81 = .ok (.ireturn, 1) := by decide +kernel
theorem dX7_count_82 : decode cX7_count 82 = .ok (.aload_n 0, 1) := by decide +kernel
theorem dX7_count_83 : decode cX7_count 83 = .ok (.getfield 9, 3) := by decide +kernel
theorem dX7_count_86 : decode cX7_count 86 = .ok (.iconst 1, 1) := by decide +kernel
theorem dX7_count_87 : decode cX7_count 87 = .ok (.iaload, 1) := by decide +kernel
theorem dX7_count_88 : decode cX7_count 88 = .ok (.ireturn, 1) := by decide +kernel
theorem dX7_count_89 : decode cX7_count 89 = .ok (.aload_n 0, 1) := by decide +kernel
theorem dX7_count_90 : decode cX7_count 90 = .ok (.ldc 103, 2) := by decide +kernel
theorem dX7_count_92 : decode cX7_count 92 = .ok (.invokevirtual 104, 3) := by decide +kernel
theorem dX7_count_95 : decode cX7_count 95 = .ok (.ireturn, 1) := by decide +kernel
theorem dX7_told_0 : decode cX7_told 0 = .ok (.iload_n 1, 1) := by decide +kernel
theorem dX7_told_1 : decode cX7_told 1 = .ok (.iconst 1, 1) := by decide +kernel
theorem dX7_told_2 : decode cX7_told 2 = .ok (.bipush 6, 2) := by decide +kernel
theorem dX7_told_4 : decode cX7_told 4 = .ok (.invokestatic 57, 3) := by decide +kernel
theorem dX7_told_7 : decode cX7_told 7 = .ok (.ifCond .eq 12, 3) := by decide +kernel
theorem dX7_told_10 : decode cX7_told 10 = .ok (.aload_n 0, 1) := by decide +kernel
theorem dX7_told_11 : decode cX7_told 11 = .ok (.getfield 19, 3) := by decide +kernel
theorem dX7_told_14 : decode cX7_told 14 = .ok (.iload_n 1, 1) := by decide +kernel
theorem dX7_told_15 : decode cX7_told 15 = .ok (.iaload, 1) := by decide +kernel
theorem dX7_told_16 : decode cX7_told 16 = .ok (.goto 9, 3) := by decide +kernel
theorem dX7_told_19 : decode cX7_told 19 = .ok (.aload_n 0, 1) := by decide +kernel
theorem dX7_told_20 : decode cX7_told 20 = .ok (.ldc 103, 2) := by decide +kernel
theorem dX7_told_22 : decode cX7_told 22 = .ok (.invokevirtual 104, 3) := by decide +kernel
theorem dX7_told_25 : decode cX7_told 25 = .ok (.ireturn, 1) := by decide +kernel
