theorem dX0_init_0 : decode cX0_init 0 = .ok (.aload_n 0, 1) := by decide +kernel
theorem dX0_init_1 : decode cX0_init 1 = .ok (.invokespecial 3, 3) := by decide +kernel
theorem dX0_init_4 : decode cX0_init 4 = .ok (.aload_n 0, 1) := by decide +kernel
theorem dX0_init_5 : decode cX0_init 5 = .ok (.iconst 0, 1) := by decide +kernel
theorem dX0_init_6 : decode cX0_init 6 = .ok (.putfield 9, 3) := by decide +kernel
theorem dX0_init_9 : decode cX0_init 9 = .ok (.aload_n 0, 1) := by decide +kernel
theorem dX0_init_10 : decode cX0_init 10 = .ok (.iconst 0, 1) := by decide +kernel
theorem dX0_init_11 : decode cX0_init 11 = .ok (.putfield 15, 3) := by decide +kernel
theorem dX0_init_14 : decode cX0_init 14 = .ok (.aload_n 0, 1) := by decide +kernel
theorem dX0_init_15 : decode cX0_init 15 = .ok (.bipush 8, 2) := by decide +kernel
theorem dX0_init_17 : decode cX0_init 17 = .ok (.newarray .int, 2) := by decide +kernel
theorem dX0_init_19 : decode cX0_init 19 = .ok (.putfield 18, 3) := by decide +kernel
theorem dX0_init_22 : decode cX0_init 22 = .ok (.aload_n 0, 1) := by decide +kernel
theorem dX0_init_23 : decode cX0_init 23 = .ok (.bipush 8, 2) := by decide +kernel
theorem dX0_init_25 : decode cX0_init 25 = .ok (.newarray .int, 2) := by decide +kernel
theorem dX0_init_27 : decode cX0_init 27 = .ok (.putfield 22, 3) := by decide +kernel
theorem dX0_init_30 : decode cX0_init 30 = .ok (.aload_n 0, 1) := by decide +kernel
theorem dX0_init_31 : decode cX0_init 31 = .ok (.bipush 8, 2) := by decide +kernel
theorem dX0_init_33 : decode cX0_init 33 = .ok (.newarray .int, 2) := by decide +kernel
theorem dX0_init_35 : decode cX0_init 35 = .ok (.putfield 25, 3) := by decide +kernel
theorem dX0_init_38 : decode cX0_init 38 = .ok (.aload_n 0, 1) := by decide +kernel
theorem dX0_init_39 : decode cX0_init 39 = .ok (.bipush 8, 2) := by decide +kernel
theorem dX0_init_41 : decode cX0_init 41 = .ok (.newarray .int, 2) := by decide +kernel
theorem dX0_init_43 : decode cX0_init 43 = .ok (.putfield 28, 3) := by decide +kernel
theorem dX0_init_46 : decode cX0_init 46 = .ok (.aload_n 0, 1) := by decide +kernel
theorem dX0_init_47 : decode cX0_init 47 = .ok (.bipush 8, 2) := by decide +kernel
theorem dX0_init_49 : decode cX0_init 49 = .ok (.newarray .int, 2) := by decide +kernel
theorem dX0_init_51 : decode cX0_init 51 = .ok (.putfield 31, 3) := by decide +kernel
theorem dX0_init_54 : decode cX0_init 54 = .ok (.aload_n 0, 1) := by decide +kernel
theorem dX0_init_55 : decode cX0_init 55 = .ok (.iconst 4, 1) := by decide +kernel
theorem dX0_init_56 : decode cX0_init 56 = .ok (.newarray .int, 2) := by decide +kernel
theorem dX0_init_58 : decode cX0_init 58 = .ok (.putfield 34, 3) := by decide +kernel
theorem dX0_init_61 : decode cX0_init 61 = .ok (.iconst 0, 1) := by decide +kernel
theorem dX0_init_62 : decode cX0_init 62 = .ok (.istore_n 1, 1) := by decide +kernel
theorem dX0_init_63 : decode cX0_init 63 = .ok (.iload_n 1, 1) := by decide +kernel
theorem dX0_init_64 : decode cX0_init 64 = .ok (.iconst 4, 1) := by decide +kernel
theorem dX0_init_65 : decode cX0_init 65 = .ok (.if_icmp .ge 16, 3) := by decide +kernel
theorem dX0_init_68 : decode cX0_init 68 = .ok (.aload_n 0, 1) := by decide +kernel
theorem dX0_init_69 : decode cX0_init 69 = .ok (.getfield 34, 3) := by decide +kernel
theorem dX0_init_72 : decode cX0_init 72 = .ok (.iload_n 1, 1) := by decide +kernel
theorem dX0_init_73 : decode cX0_init 73 = .ok (.iload_n 1, 1) := by decide +kernel
theorem dX0_init_74 : decode cX0_init 74 = .ok (.iastore, 1) := by decide +kernel
theorem dX0_init_75 : decode cX0_init 75 = .ok (.iinc 1 1, 3) := by decide +kernel
theorem dX0_init_78 : decode cX0_init 78 = .ok (.goto (-15), 3) := by decide +kernel
theorem dX0_init_81 : decode cX0_init 81 = .ok (.return_, 1) := by decide +kernel
theorem dX0_copy_0 : decode cX0_copy 0 = .ok (.aload_n 0, 1) := by decide +kernel
theorem dX0_copy_1 : decode cX0_copy 1 = .ok (.aload_n 1, 1) := by decide +kernel
theorem dX0_copy_2 : decode cX0_copy 2 = .ok (.getfield 9, 3) := by decide +kernel
theorem dX0_copy_5 : decode cX0_copy 5 = .ok (.putfield 9, 3) := by decide +kernel
theorem dX0_copy_8 : decode cX0_copy 8 = .ok (.aload_n 0, 1) := by decide +kernel
theorem dX0_copy_9 : decode cX0_copy 9 = .ok (.aload_n 1, 1) := by decide +kernel
theorem dX0_copy_10 : decode cX0_copy 10 = .ok (.getfield 15, 3) := by decide +kernel
theorem dX0_copy_13 : decode cX0_copy 13 = .ok (.putfield 15, 3) := by decide +kernel
theorem dX0_copy_16 : decode cX0_copy 16 = .ok (.aload_n 1, 1) := by decide +kernel
theorem dX0_copy_17 : decode cX0_copy 17 = .ok (.getfield 18, 3) := by decide +kernel
theorem dX0_copy_20 : decode cX0_copy 20 = .ok (.iconst 0, 1) := by decide +kernel
theorem dX0_copy_21 : decode cX0_copy 21 = .ok (.aload_n 0, 1) := by decide +kernel
theorem dX0_copy_22 : decode cX0_copy 22 = .ok (.getfield 18, 3) := by decide +kernel
theorem dX0_copy_25 : decode cX0_copy 25 = .ok (.iconst 0, 1) := by decide +kernel
theorem dX0_copy_26 : decode cX0_copy 26 = .ok (.bipush 8, 2) := by decide +kernel
theorem dX0_copy_28 : decode cX0_copy 28 = .ok (.invokestatic 37, 3) := by decide +kernel
theorem dX0_copy_31 : decode cX0_copy 31 = .ok (.aload_n 1, 1) := by decide +kernel
theorem dX0_copy_32 : decode cX0_copy 32 = .ok (.getfield 22, 3) := by decide +kernel
theorem dX0_copy_35 : decode cX0_copy 35 = .ok (.iconst 0, 1) := by decide +kernel
theorem dX0_copy_36 : decode cX0_copy 36 = .ok (.aload_n 0, 1) := by decide +kernel
theorem dX0_copy_37 : decode cX0_copy 37 = .ok (.getfield 22, 3) := by decide +kernel
theorem dX0_copy_40 : decode cX0_copy 40 = .ok (.iconst 0, 1) := by decide +kernel
theorem dX0_copy_41 : decode cX0_copy 41 = .ok (.bipush 8, 2) := by decide +kernel
theorem dX0_copy_43 : decode cX0_copy 43 = .ok (.invokestatic 37, 3) := by decide +kernel
theorem dX0_copy_46 : decode cX0_copy 46 = .ok (.aload_n 1, 1) := by decide +kernel
theorem dX0_copy_47 : decode cX0_copy 47 = .ok (.getfield 25, 3) := by decide +kernel
theorem dX0_copy_50 : decode cX0_copy 50 = .ok (.iconst 0, 1) := by decide +kernel
theorem dX0_copy_51 : decode cX0_copy 51 = .ok (.aload_n 0, 1) := by decide +kernel
theorem dX0_copy_52 : decode cX0_copy 52 = .ok (.getfield 25, 3) := by decide +kernel
theorem dX0_copy_55 : decode cX0_copy 55 = .ok (.iconst 0, 1) := by decide +kernel
theorem dX0_copy_56 : decode cX0_copy 56 = .ok (.bipush 8, 2) := by decide +kernel
theorem dX0_copy_58 : decode cX0_copy 58 = .ok (.invokestatic 37, 3) := by decide +kernel
theorem dX0_copy_61 : decode cX0_copy 61 = .ok (.aload_n 1, 1) := by decide +kernel
theorem dX0_copy_62 : decode cX0_copy 62 = .ok (.getfield 28, 3) := by decide +kernel
theorem dX0_copy_65 : decode cX0_copy 65 = .ok (.iconst 0, 1) := by decide +kernel
theorem dX0_copy_66 : decode cX0_copy 66 = .ok (.aload_n 0, 1) := by decide +kernel
theorem dX0_copy_67 : decode cX0_copy 67 = .ok (.getfield 28, 3) := by decide +kernel
theorem dX0_copy_70 : decode cX0_copy 70 = .ok (.iconst 0, 1) := by decide +kernel
theorem dX0_copy_71 : decode cX0_copy 71 = .ok (.bipush 8, 2) := by decide +kernel
theorem dX0_copy_73 : decode cX0_copy 73 = .ok (.invokestatic 37, 3) := by decide +kernel
theorem dX0_copy_76 : decode cX0_copy 76 = .ok (.aload_n 1, 1) := by decide +kernel
theorem dX0_copy_77 : decode cX0_copy 77 = .ok (.getfield 31, 3) := by decide +kernel
theorem dX0_copy_80 : decode cX0_copy 80 = .ok (.iconst 0, 1) := by decide +kernel
theorem dX0_copy_81 : decode cX0_copy 81 = .ok (.aload_n 0, 1) := by decide +kernel
theorem dX0_copy_82 : decode cX0_copy 82 = .ok (.getfield 31, 3) := by decide +kernel
theorem dX0_copy_85 : decode cX0_copy 85 = .ok (.iconst 0, 1) := by decide +kernel
theorem dX0_copy_86 : decode cX0_copy 86 = .ok (.bipush 8, 2) := by decide +kernel
theorem dX0_copy_88 : decode cX0_copy 88 = .ok (.invokestatic 37, 3) := by decide +kernel
theorem dX0_copy_91 : decode cX0_copy 91 = .ok (.aload_n 1, 1) := by decide +kernel
theorem dX0_copy_92 : decode cX0_copy 92 = .ok (.getfield 34, 3) := by decide +kernel
theorem dX0_copy_95 : decode cX0_copy 95 = .ok (.iconst 0, 1) := by decide +kernel
theorem dX0_copy_96 : decode cX0_copy 96 = .ok (.aload_n 0, 1) := by decide +kernel
theorem dX0_copy_97 : decode cX0_copy 97 = .ok (.getfield 34, 3) := by decide +kernel
theorem dX0_copy_100 : decode cX0_copy 100 = .ok (.iconst 0, 1) := by decide +kernel
theorem dX0_copy_101 : decode cX0_copy 101 = .ok (.iconst 4, 1) := by decide +kernel
theorem dX0_copy_102 : decode cX0_copy 102 = .ok (.invokestatic 37, 3) := by decide +kernel
theorem dX0_copy_105 : decode cX0_copy 105 = .ok (.return_, 1) := by decide +kernel
theorem dX0_grow_0 : decode cX0_grow 0 = .ok (.aload_n 0, 1) := by decide +kernel
theorem dX0_grow_1 : decode cX0_grow 1 = .ok (.getfield 9, 3) := by decide +kernel
theorem dX0_grow_4 : decode cX0_grow 4 = .ok (.istore 4, 2) := by decide +kernel
theorem dX0_grow_6 : decode cX0_grow 6 = .ok (.aload_n 0, 1) := by decide +kernel
theorem dX0_grow_7 : decode cX0_grow 7 = .ok (.getfield 18, 3) := by decide +kernel
theorem dX0_grow_10 : decode cX0_grow 10 = .ok (.iload 4, 2) := by decide +kernel
theorem dX0_grow_12 : decode cX0_grow 12 = .ok (.iload_n 1, 1) := by decide +kernel
theorem dX0_grow_13 : decode cX0_grow 13 = .ok (.bipush 10, 2) := by decide +kernel
theorem dX0_grow_15 : decode cX0_grow 15 = .ok (.idiv, 1) := by decide +kernel
theorem dX0_grow_16 : decode cX0_grow 16 = .ok (.iastore, 1) := by decide +kernel
theorem dX0_grow_17 : decode cX0_grow 17 = .ok (.aload_n 0, 1) := by decide +kernel
theorem dX0_grow_18 : decode cX0_grow 18 = .ok (.getfield 22, 3) := by decide +kernel
theorem dX0_grow_21 : decode cX0_grow 21 = .ok (.iload 4, 2) := by decide +kernel
theorem dX0_grow_23 : decode cX0_grow 23 = .ok (.iload_n 1, 1) := by decide +kernel
theorem dX0_grow_24 : decode cX0_grow 24 = .ok (.bipush 10, 2) := by decide +kernel
theorem dX0_grow_26 : decode cX0_grow 26 = .ok (.irem, 1) := by decide +kernel
theorem dX0_grow_27 : decode cX0_grow 27 = .ok (.iastore, 1) := by decide +kernel
theorem dX0_grow_28 : decode cX0_grow 28 = .ok (.aload_n 0, 1) := by decide +kernel
theorem dX0_grow_29 : decode cX0_grow 29 = .ok (.getfield 25, 3) := by decide +kernel
theorem dX0_grow_32 : decode cX0_grow 32 = .ok (.iload 4, 2) := by decide +kernel
theorem dX0_grow_34 : decode cX0_grow 34 = .ok (.iload_n 2, 1) := by decide +kernel
theorem dX0_grow_35 : decode cX0_grow 35 = .ok (.iastore, 1) := by decide +kernel
theorem dX0_grow_36 : decode cX0_grow 36 = .ok (.aload_n 0, 1) := by decide +kernel
theorem dX0_grow_37 : decode cX0_grow 37 = .ok (.getfield 28, 3) := by decide +kernel
theorem dX0_grow_40 : decode cX0_grow 40 = .ok (.iload 4, 2) := by decide +kernel
theorem dX0_grow_42 : decode cX0_grow 42 = .ok (.iload_n 3, 1) := by decide +kernel
theorem dX0_grow_43 : decode cX0_grow 43 = .ok (.iastore, 1) := by decide +kernel
theorem dX0_grow_44 : decode cX0_grow 44 = .ok (.aload_n 0, 1) := by decide +kernel
theorem dX0_grow_45 : decode cX0_grow 45 = .ok (.getfield 31, 3) := by decide +kernel
theorem dX0_grow_48 : decode cX0_grow 48 = .ok (.iload 4, 2) := by decide +kernel
theorem dX0_grow_50 : decode cX0_grow 50 = .ok (.iconst 0, 1) := by decide +kernel
theorem dX0_grow_51 : decode cX0_grow 51 = .ok (.iastore, 1) := by decide +kernel
theorem dX0_grow_52 : decode cX0_grow 52 = .ok (.aload_n 0, 1) := by decide +kernel
theorem dX0_grow_53 : decode cX0_grow 53 = .ok (.dup, 1) := by decide +kernel
theorem dX0_grow_54 : decode cX0_grow 54 = .ok (.getfield 9, 3) := by decide +kernel
theorem dX0_grow_57 : decode cX0_grow 57 = .ok (.iconst 1, 1) := by decide +kernel
theorem dX0_grow_58 : decode cX0_grow 58 = .ok (.iadd, 1) := by decide +kernel
theorem dX0_grow_59 : decode cX0_grow 59 = .ok (.putfield 9, 3) := by decide +kernel
theorem dX0_grow_62 : decode cX0_grow 62 = .ok (.iload 4, 2) := by decide +kernel
theorem dX0_grow_64 : decode cX0_grow 64 = .ok (.ireturn, 1) := by decide +kernel
theorem dX0_goal_0 : decode cX0_goal 0 = .ok (.aload_n 0, 1) := by decide +kernel
theorem dX0_goal_1 : decode cX0_goal 1 = .ok (.getfield 34, 3) := by decide +kernel
theorem dX0_goal_4 : decode cX0_goal 4 = .ok (.aload_n 0, 1) := by decide +kernel
theorem dX0_goal_5 : decode cX0_goal 5 = .ok (.getfield 25, 3) := by decide +kernel
theorem dX0_goal_8 : decode cX0_goal 8 = .ok (.iload_n 1, 1) := by decide +kernel
theorem dX0_goal_9 : decode cX0_goal 9 = .ok (.iaload, 1) := by decide +kernel
theorem dX0_goal_10 : decode cX0_goal 10 = .ok (.iaload, 1) := by decide +kernel
theorem dX0_goal_11 : decode cX0_goal 11 = .ok (.ireturn, 1) := by decide +kernel
theorem dX0_isHome_0 : decode cX0_isHome 0 = .ok (.aload_n 0, 1) := by decide +kernel
theorem dX0_isHome_1 : decode cX0_isHome 1 = .ok (.getfield 28, 3) := by decide +kernel
theorem dX0_isHome_4 : decode cX0_isHome 4 = .ok (.iload_n 1, 1) := by decide +kernel
theorem dX0_isHome_5 : decode cX0_isHome 5 = .ok (.iaload, 1) := by decide +kernel
theorem dX0_isHome_6 : decode cX0_isHome 6 = .ok (.aload_n 0, 1) := by decide +kernel
theorem dX0_isHome_7 : decode cX0_isHome 7 = .ok (.iload_n 1, 1) := by decide +kernel
theorem dX0_isHome_8 : decode cX0_isHome 8 = .ok (.invokevirtual 43, 3) := by decide +kernel
theorem dX0_isHome_11 : decode cX0_isHome 11 = .ok (.if_icmp .ne 7, 3) := by decide +kernel
theorem dX0_isHome_14 : decode cX0_isHome 14 = .ok (.iconst 1, 1) := by decide +kernel
theorem dX0_isHome_15 : decode cX0_isHome 15 = .ok (.goto 4, 3) := by decide +kernel
theorem dX0_isHome_18 : decode cX0_isHome 18 = .ok (.iconst 0, 1) := by decide +kernel
theorem dX0_isHome_19 : decode cX0_isHome 19 = .ok (.ireturn, 1) := by decide +kernel
theorem dX0_homeSet_0 : decode cX0_homeSet 0 = .ok (.iconst 0, 1) := by decide +kernel
theorem dX0_homeSet_1 : decode cX0_homeSet 1 = .ok (.istore_n 1, 1) := by decide +kernel
theorem dX0_homeSet_2 : decode cX0_homeSet 2 = .ok (.iconst 0, 1) := by decide +kernel
theorem dX0_homeSet_3 : decode cX0_homeSet 3 = .ok (.istore_n 2, 1) := by decide +kernel
theorem dX0_homeSet_4 : decode cX0_homeSet 4 = .ok (.iload_n 2, 1) := by decide +kernel
theorem dX0_homeSet_5 : decode cX0_homeSet 5 = .ok (.aload_n 0, 1) := by decide +kernel
theorem dX0_homeSet_6 : decode cX0_homeSet 6 = .ok (.getfield 9, 3) := by decide +kernel
theorem dX0_homeSet_9 : decode cX0_homeSet 9 = .ok (.if_icmp .ge 23, 3) := by decide +kernel
theorem dX0_homeSet_12 : decode cX0_homeSet 12 = .ok (.aload_n 0, 1) := by decide +kernel
theorem dX0_homeSet_13 : decode cX0_homeSet 13 = .ok (.iload_n 2, 1) := by decide +kernel
theorem dX0_homeSet_14 : decode cX0_homeSet 14 = .ok (.invokevirtual 47, 3) := by decide +kernel
theorem dX0_homeSet_17 : decode cX0_homeSet 17 = .ok (.ifCond .eq 9, 3) := by decide +kernel
theorem dX0_homeSet_20 : decode cX0_homeSet 20 = .ok (.iload_n 1, 1) := by decide +kernel
theorem dX0_homeSet_21 : decode cX0_homeSet 21 = .ok (.iconst 1, 1) := by decide +kernel
theorem dX0_homeSet_22 : decode cX0_homeSet 22 = .ok (.iload_n 2, 1) := by decide +kernel
theorem dX0_homeSet_23 : decode cX0_homeSet 23 = .ok (.ishl, 1) := by decide +kernel
theorem dX0_homeSet_24 : decode cX0_homeSet 24 = .ok (.ior, 1) := by decide +kernel
theorem dX0_homeSet_25 : decode cX0_homeSet 25 = .ok (.istore_n 1, 1) := by decide +kernel
theorem dX0_homeSet_26 : decode cX0_homeSet 26 = .ok (.iinc 2 1, 3) := by decide +kernel
theorem dX0_homeSet_29 : decode cX0_homeSet 29 = .ok (.goto (-25), 3) := by decide +kernel
theorem dX0_homeSet_32 : decode cX0_homeSet 32 = .ok (.iload_n 1, 1) := by decide +kernel
theorem dX0_homeSet_33 : decode cX0_homeSet 33 = .ok (.ireturn, 1) := by decide +kernel
theorem dX0_awaySet_0 : decode cX0_awaySet 0 = .ok (.iconst 0, 1) := by decide +kernel
theorem dX0_awaySet_1 : decode cX0_awaySet 1 = .ok (.istore_n 2, 1) := by decide +kernel
theorem dX0_awaySet_2 : decode cX0_awaySet 2 = .ok (.iconst 0, 1) := by decide +kernel
theorem dX0_awaySet_3 : decode cX0_awaySet 3 = .ok (.istore_n 3, 1) := by decide +kernel
theorem dX0_awaySet_4 : decode cX0_awaySet 4 = .ok (.iload_n 3, 1) := by decide +kernel
theorem dX0_awaySet_5 : decode cX0_awaySet 5 = .ok (.aload_n 0, 1) := by decide +kernel
theorem dX0_awaySet_6 : decode cX0_awaySet 6 = .ok (.getfield 9, 3) := by decide +kernel
theorem dX0_awaySet_9 : decode cX0_awaySet 9 = .ok (.if_icmp .ge 33, 3) := by decide +kernel
theorem dX0_awaySet_12 : decode cX0_awaySet 12 = .ok (.aload_n 0, 1) := by decide +kernel
theorem dX0_awaySet_13 : decode cX0_awaySet 13 = .ok (.getfield 25, 3) := by decide +kernel
theorem dX0_awaySet_16 : decode cX0_awaySet 16 = .ok (.iload_n 3, 1) := by decide +kernel
theorem dX0_awaySet_17 : decode cX0_awaySet 17 = .ok (.iaload, 1) := by decide +kernel
theorem dX0_awaySet_18 : decode cX0_awaySet 18 = .ok (.iload_n 1, 1) := by decide +kernel
theorem dX0_awaySet_19 : decode cX0_awaySet 19 = .ok (.if_icmp .ne 17, 3) := by decide +kernel
theorem dX0_awaySet_22 : decode cX0_awaySet 22 = .ok (.aload_n 0, 1) := by decide +kernel
theorem dX0_awaySet_23 : decode cX0_awaySet 23 = .ok (.iload_n 3, 1) := by decide +kernel
theorem dX0_awaySet_24 : decode cX0_awaySet 24 = .ok (.invokevirtual 47, 3) := by decide +kernel
theorem dX0_awaySet_27 : decode cX0_awaySet 27 = .ok (.ifCond .ne 9, 3) := by decide +kernel
theorem dX0_awaySet_30 : decode cX0_awaySet 30 = .ok (.iload_n 2, 1) := by decide +kernel
theorem dX0_awaySet_31 : decode cX0_awaySet 31 = .ok (.iconst 1, 1) := by decide +kernel
theorem dX0_awaySet_32 : decode cX0_awaySet 32 = .ok (.iload_n 3, 1) := by decide +kernel
theorem dX0_awaySet_33 : decode cX0_awaySet 33 = .ok (.ishl, 1) := by decide +kernel
theorem dX0_awaySet_34 : decode cX0_awaySet 34 = .ok (.ior, 1) := by decide +kernel
theorem dX0_awaySet_35 : decode cX0_awaySet 35 = .ok (.istore_n 2, 1) := by decide +kernel
theorem dX0_awaySet_36 : decode cX0_awaySet 36 = .ok (.iinc 3 1, 3) := by decide +kernel
theorem dX0_awaySet_39 : decode cX0_awaySet 39 = .ok (.goto (-35), 3) := by decide +kernel
theorem dX0_awaySet_42 : decode cX0_awaySet 42 = .ok (.iload_n 2, 1) := by decide +kernel
theorem dX0_awaySet_43 : decode cX0_awaySet 43 = .ok (.ireturn, 1) := by decide +kernel
theorem dX0_hasCompany_0 : decode cX0_hasCompany 0 = .ok (.iconst 0, 1) := by decide +kernel
theorem dX0_hasCompany_1 : decode cX0_hasCompany 1 = .ok (.istore_n 2, 1) := by decide +kernel
theorem dX0_hasCompany_2 : decode cX0_hasCompany 2 = .ok (.iload_n 2, 1) := by decide +kernel
theorem dX0_hasCompany_3 : decode cX0_hasCompany 3 = .ok (.aload_n 0, 1) := by decide +kernel
theorem dX0_hasCompany_4 : decode cX0_hasCompany 4 = .ok (.getfield 9, 3) := by decide +kernel
theorem dX0_hasCompany_7 : decode cX0_hasCompany 7 = .ok (.if_icmp .ge 46, 3) := by decide +kernel
theorem dX0_hasCompany_10 : decode cX0_hasCompany 10 = .ok (.iload_n 2, 1) := by decide +kernel
theorem dX0_hasCompany_11 : decode cX0_hasCompany 11 = .ok (.iload_n 1, 1) := by decide +kernel
theorem dX0_hasCompany_12 : decode cX0_hasCompany 12 = .ok (.if_icmp .eq 35, 3) := by decide +kernel
theorem dX0_hasCompany_15 : decode cX0_hasCompany 15 = .ok (.aload_n 0, 1) := by decide +kernel
theorem dX0_hasCompany_16 : decode cX0_hasCompany 16 = .ok (.getfield 25, 3) := by decide +kernel
theorem dX0_hasCompany_19 : decode cX0_hasCompany 19 = .ok (.iload_n 2, 1) := by decide +kernel
theorem dX0_hasCompany_20 : decode cX0_hasCompany 20 = .ok (.iaload, 1) := by decide +kernel
theorem dX0_hasCompany_21 : decode cX0_hasCompany 21 = .ok (.aload_n 0, 1) := by decide +kernel
theorem dX0_hasCompany_22 : decode cX0_hasCompany 22 = .ok (.getfield 25, 3) := by decide +kernel
theorem dX0_hasCompany_25 : decode cX0_hasCompany 25 = .ok (.iload_n 1, 1) := by decide +kernel
theorem dX0_hasCompany_26 : decode cX0_hasCompany 26 = .ok (.iaload, 1) := by decide +kernel
theorem dX0_hasCompany_27 : decode cX0_hasCompany 27 = .ok (.if_icmp .ne 20, 3) := by decide +kernel
theorem dX0_hasCompany_30 : decode cX0_hasCompany 30 = .ok (.aload_n 0, 1) := by decide +kernel
theorem dX0_hasCompany_31 : decode cX0_hasCompany 31 = .ok (.getfield 28, 3) := by decide +kernel
theorem dX0_hasCompany_34 : decode cX0_hasCompany 34 = .ok (.iload_n 2, 1) := by decide +kernel
theorem dX0_hasCompany_35 : decode cX0_hasCompany 35 = .ok (.iaload, 1) := by decide +kernel
theorem dX0_hasCompany_36 : decode cX0_hasCompany 36 = .ok (.aload_n 0, 1) := by decide +kernel
theorem dX0_hasCompany_37 : decode cX0_hasCompany 37 = .ok (.getfield 28, 3) := by decide +kernel
theorem dX0_hasCompany_40 : decode cX0_hasCompany 40 = .ok (.iload_n 1, 1) := by decide +kernel
theorem dX0_hasCompany_41 : decode cX0_hasCompany 41 = .ok (.iaload, 1) := by decide +kernel
theorem dX0_hasCompany_42 : decode cX0_hasCompany 42 = .ok (.if_icmp .ne 5, 3) := by decide +kernel
theorem dX0_hasCompany_45 : decode cX0_hasCompany 45 = .ok (.iconst 1, 1) := by decide +kernel
theorem dX0_hasCompany_46 : decode cX0_hasCompany 46 = .ok (.ireturn, 1) := by decide +kernel
theorem dX0_hasCompany_47 : decode cX0_hasCompany 47 = .ok (.iinc 2 1, 3) := by decide +kernel
theorem dX0_hasCompany_50 : decode cX0_hasCompany 50 = .ok (.goto (-48), 3) := by decide +kernel
theorem dX0_hasCompany_53 : decode cX0_hasCompany 53 = .ok (.iconst 0, 1) := by decide +kernel
theorem dX0_hasCompany_54 : decode cX0_hasCompany 54 = .ok (.ireturn, 1) := by decide +kernel
theorem dX0_walks_0 : decode cX0_walks 0 = .ok (.aload_n 0, 1) := by decide +kernel
theorem dX0_walks_1 : decode cX0_walks 1 = .ok (.getfield 15, 3) := by decide +kernel
theorem dX0_walks_4 : decode cX0_walks 4 = .ok (.iconst 2, 1) := by decide +kernel
theorem dX0_walks_5 : decode cX0_walks 5 = .ok (.irem, 1) := by decide +kernel
theorem dX0_walks_6 : decode cX0_walks 6 = .ok (.ifCond .ne 7, 3) := by decide +kernel
theorem dX0_walks_9 : decode cX0_walks 9 = .ok (.iconst 1, 1) := by decide +kernel
theorem dX0_walks_10 : decode cX0_walks 10 = .ok (.goto 4, 3) := by decide +kernel
theorem dX0_walks_13 : decode cX0_walks 13 = .ok (.iconst 0, 1) := by decide +kernel
theorem dX0_walks_14 : decode cX0_walks 14 = .ok (.istore_n 2, 1) := by decide +kernel
theorem dX0_walks_15 : decode cX0_walks 15 = .ok (.aload_n 0, 1) := by decide +kernel
theorem dX0_walks_16 : decode cX0_walks 16 = .ok (.getfield 15, 3) := by decide +kernel
theorem dX0_walks_19 : decode cX0_walks 19 = .ok (.bipush 7, 2) := by decide +kernel
theorem dX0_walks_21 : decode cX0_walks 21 = .ok (.irem, 1) := by decide +kernel
theorem dX0_walks_22 : decode cX0_walks 22 = .ok (.aload_n 0, 1) := by decide +kernel
theorem dX0_walks_23 : decode cX0_walks 23 = .ok (.getfield 22, 3) := by decide +kernel
theorem dX0_walks_26 : decode cX0_walks 26 = .ok (.iload_n 1, 1) := by decide +kernel
theorem dX0_walks_27 : decode cX0_walks 27 = .ok (.iaload, 1) := by decide +kernel
theorem dX0_walks_28 : decode cX0_walks 28 = .ok (.bipush 7, 2) := by decide +kernel
theorem dX0_walks_30 : decode cX0_walks 30 = .ok (.irem, 1) := by decide +kernel
theorem dX0_walks_31 : decode cX0_walks 31 = .ok (.if_icmp .ne 7, 3) := by decide +kernel
theorem dX0_walks_34 : decode cX0_walks 34 = .ok (.iconst 2, 1) := by decide +kernel
theorem dX0_walks_35 : decode cX0_walks 35 = .ok (.goto 4, 3) := by decide +kernel
theorem dX0_walks_38 : decode cX0_walks 38 = .ok (.iconst 0, 1) := by decide +kernel
theorem dX0_walks_39 : decode cX0_walks 39 = .ok (.istore_n 3, 1) := by decide +kernel
theorem dX0_walks_40 : decode cX0_walks 40 = .ok (.aload_n 0, 1) := by decide +kernel
theorem dX0_walks_41 : decode cX0_walks 41 = .ok (.getfield 18, 3) := by decide +kernel
theorem dX0_walks_44 : decode cX0_walks 44 = .ok (.iload_n 1, 1) := by decide +kernel
theorem dX0_walks_45 : decode cX0_walks 45 = .ok (.iaload, 1) := by decide +kernel
theorem dX0_walks_46 : decode cX0_walks 46 = .ok (.tableswitch 111 0 6 #[42, 44, 46, 48, 73, 90, 94], 42) := by decide +kernel
theorem dX0_walks_88 : decode cX0_walks 88 = .ok (.iconst 1, 1) := by decide +kernel
theorem dX0_walks_89 : decode cX0_walks 89 = .ok (.ireturn, 1) := by decide +kernel
theorem dX0_walks_90 : decode cX0_walks 90 = .ok (.iload_n 2, 1) := by decide +kernel
theorem dX0_walks_91 : decode cX0_walks 91 = .ok (.ireturn, 1) := by decide +kernel
theorem dX0_walks_92 : decode cX0_walks 92 = .ok (.iload_n 3, 1) := by decide +kernel
theorem dX0_walks_93 : decode cX0_walks 93 = .ok (.ireturn, 1) := by decide +kernel
theorem dX0_walks_94 : decode cX0_walks 94 = .ok (.aload_n 0, 1) := by decide +kernel
theorem dX0_walks_95 : decode cX0_walks 95 = .ok (.getfield 22, 3) := by decide +kernel
theorem dX0_walks_98 : decode cX0_walks 98 = .ok (.iload_n 1, 1) := by decide +kernel
theorem dX0_walks_99 : decode cX0_walks 99 = .ok (.iaload, 1) := by decide +kernel
theorem dX0_walks_100 : decode cX0_walks 100 = .ok (.bipush 6, 2) := by decide +kernel
theorem dX0_walks_102 : decode cX0_walks 102 = .ok (.if_icmp .gt 11, 3) := by decide +kernel
theorem dX0_walks_105 : decode cX0_walks 105 = .ok (.aload_n 0, 1) := by decide +kernel
theorem dX0_walks_106 : decode cX0_walks 106 = .ok (.iload_n 1, 1) := by decide +kernel
theorem dX0_walks_107 : decode cX0_walks 107 = .ok (.invokevirtual 51, 3) := by decide +kernel
theorem dX0_walks_110 : decode cX0_walks 110 = .ok (.ifCond .eq 7, 3) := by decide +kernel
theorem dX0_walks_113 : decode cX0_walks 113 = .ok (.iconst 1, 1) := by decide +kernel
theorem dX0_walks_114 : decode cX0_walks 114 = .ok (.goto 4, 3) := by decide +kernel
theorem dX0_walks_117 : decode cX0_walks 117 = .ok (.iconst 0, 1) := by decide +kernel
theorem dX0_walks_118 : decode cX0_walks 118 = .ok (.ireturn, 1) := by decide +kernel
theorem dX0_walks_119 : decode cX0_walks 119 = .ok (.iload_n 2, 1) := by decide +kernel
theorem dX0_walks_120 : decode cX0_walks 120 = .ok (.aload_n 0, 1) := by decide +kernel
theorem dX0_walks_121 : decode cX0_walks 121 = .ok (.getfield 15, 3) := by decide +kernel
theorem dX0_walks_124 : decode cX0_walks 124 = .ok (.iconst 3, 1) := by decide +kernel
theorem dX0_walks_125 : decode cX0_walks 125 = .ok (.irem, 1) := by decide +kernel
theorem dX0_walks_126 : decode cX0_walks 126 = .ok (.ifCond .ne 7, 3) := by decide +kernel
theorem dX0_walks_129 : decode cX0_walks 129 = .ok (.iconst 1, 1) := by decide +kernel
theorem dX0_walks_130 : decode cX0_walks 130 = .ok (.goto 4, 3) := by decide +kernel
theorem dX0_walks_133 : decode cX0_walks 133 = .ok (.iconst 0, 1) := by decide +kernel
theorem dX0_walks_134 : decode cX0_walks 134 = .ok (.iadd, 1) := by decide +kernel
theorem dX0_walks_135 : decode cX0_walks 135 = .ok (.ireturn, 1) := by decide +kernel
theorem dX0_walks_136 : decode cX0_walks 136 = .ok (.iload_n 3, 1) := by decide +kernel
theorem dX0_walks_137 : decode cX0_walks 137 = .ok (.iconst 1, 1) := by decide +kernel
theorem dX0_walks_138 : decode cX0_walks 138 = .ok (.iadd, 1) := by decide +kernel
theorem dX0_walks_139 : decode cX0_walks 139 = .ok (.ireturn, 1) := by decide +kernel
theorem dX0_walks_140 : decode cX0_walks 140 = .ok (.aload_n 0, 1) := by decide +kernel
theorem dX0_walks_141 : decode cX0_walks 141 = .ok (.getfield 22, 3) := by decide +kernel
theorem dX0_walks_144 : decode cX0_walks 144 = .ok (.iload_n 1, 1) := by decide +kernel
theorem dX0_walks_145 : decode cX0_walks 145 = .ok (.iaload, 1) := by decide +kernel
theorem dX0_walks_146 : decode cX0_walks 146 = .ok (.bipush 9, 2) := by decide +kernel
theorem dX0_walks_148 : decode cX0_walks 148 = .ok (.if_icmp .ne 7, 3) := by decide +kernel
theorem dX0_walks_151 : decode cX0_walks 151 = .ok (.iconst 1, 1) := by decide +kernel
theorem dX0_walks_152 : decode cX0_walks 152 = .ok (.goto 4, 3) := by decide +kernel
theorem dX0_walks_155 : decode cX0_walks 155 = .ok (.iconst 0, 1) := by decide +kernel
theorem dX0_walks_156 : decode cX0_walks 156 = .ok (.ireturn, 1) := by decide +kernel
theorem dX0_walks_157 : decode cX0_walks 157 = .ok (.iconst 0, 1) := by decide +kernel
theorem dX0_walks_158 : decode cX0_walks 158 = .ok (.ireturn, 1) := by decide +kernel
theorem dX0_weighs_0 : decode cX0_weighs 0 = .ok (.bipush 10, 2) := by decide +kernel
theorem dX0_weighs_2 : decode cX0_weighs 2 = .ok (.aload_n 0, 1) := by decide +kernel
theorem dX0_weighs_3 : decode cX0_weighs 3 = .ok (.getfield 22, 3) := by decide +kernel
theorem dX0_weighs_6 : decode cX0_weighs 6 = .ok (.iload_n 1, 1) := by decide +kernel
theorem dX0_weighs_7 : decode cX0_weighs 7 = .ok (.iaload, 1) := by decide +kernel
theorem dX0_weighs_8 : decode cX0_weighs 8 = .ok (.iadd, 1) := by decide +kernel
theorem dX0_weighs_9 : decode cX0_weighs 9 = .ok (.istore_n 2, 1) := by decide +kernel
theorem dX0_weighs_10 : decode cX0_weighs 10 = .ok (.iload_n 2, 1) := by decide +kernel
theorem dX0_weighs_11 : decode cX0_weighs 11 = .ok (.aload_n 0, 1) := by decide +kernel
theorem dX0_weighs_12 : decode cX0_weighs 12 = .ok (.getfield 31, 3) := by decide +kernel
theorem dX0_weighs_15 : decode cX0_weighs 15 = .ok (.iload_n 1, 1) := by decide +kernel
theorem dX0_weighs_16 : decode cX0_weighs 16 = .ok (.iaload, 1) := by decide +kernel
theorem dX0_weighs_17 : decode cX0_weighs 17 = .ok (.iadd, 1) := by decide +kernel
theorem dX0_weighs_18 : decode cX0_weighs 18 = .ok (.istore_n 3, 1) := by decide +kernel
theorem dX0_weighs_19 : decode cX0_weighs 19 = .ok (.aload_n 0, 1) := by decide +kernel
theorem dX0_weighs_20 : decode cX0_weighs 20 = .ok (.getfield 31, 3) := by decide +kernel
theorem dX0_weighs_23 : decode cX0_weighs 23 = .ok (.iload_n 1, 1) := by decide +kernel
theorem dX0_weighs_24 : decode cX0_weighs 24 = .ok (.iaload, 1) := by decide +kernel
theorem dX0_weighs_25 : decode cX0_weighs 25 = .ok (.iconst 4, 1) := by decide +kernel
theorem dX0_weighs_26 : decode cX0_weighs 26 = .ok (.if_icmp .le 7, 3) := by decide +kernel
theorem dX0_weighs_29 : decode cX0_weighs 29 = .ok (.iload_n 2, 1) := by decide +kernel
theorem dX0_weighs_30 : decode cX0_weighs 30 = .ok (.goto 4, 3) := by decide +kernel
theorem dX0_weighs_33 : decode cX0_weighs 33 = .ok (.iconst 0, 1) := by decide +kernel
theorem dX0_weighs_34 : decode cX0_weighs 34 = .ok (.istore 4, 2) := by decide +kernel
theorem dX0_weighs_36 : decode cX0_weighs 36 = .ok (.aload_n 0, 1) := by decide +kernel
theorem dX0_weighs_37 : decode cX0_weighs 37 = .ok (.getfield 18, 3) := by decide +kernel
theorem dX0_weighs_40 : decode cX0_weighs 40 = .ok (.iload_n 1, 1) := by decide +kernel
theorem dX0_weighs_41 : decode cX0_weighs 41 = .ok (.iaload, 1) := by decide +kernel
theorem dX0_weighs_42 : decode cX0_weighs 42 = .ok (.tableswitch 73 0 6 #[42, 44, 46, 49, 53, 57, 69], 42) := by decide +kernel
theorem dX0_weighs_84 : decode cX0_weighs 84 = .ok (.iload_n 2, 1) := by decide +kernel
theorem dX0_weighs_85 : decode cX0_weighs 85 = .ok (.ireturn, 1) := by decide +kernel
theorem dX0_weighs_86 : decode cX0_weighs 86 = .ok (.iload_n 3, 1) := by decide +kernel
theorem dX0_weighs_87 : decode cX0_weighs 87 = .ok (.ireturn, 1) := by decide +kernel
theorem dX0_weighs_88 : decode cX0_weighs 88 = .ok (.iload 4, 2) := by decide +kernel
theorem dX0_weighs_90 : decode cX0_weighs 90 = .ok (.ireturn, 1) := by decide +kernel
theorem dX0_weighs_91 : decode cX0_weighs 91 = .ok (.iload_n 2, 1) := by decide +kernel
theorem dX0_weighs_92 : decode cX0_weighs 92 = .ok (.iconst 2, 1) := by decide +kernel
theorem dX0_weighs_93 : decode cX0_weighs 93 = .ok (.idiv, 1) := by decide +kernel
theorem dX0_weighs_94 : decode cX0_weighs 94 = .ok (.ireturn, 1) := by decide +kernel
theorem dX0_weighs_95 : decode cX0_weighs 95 = .ok (.iload_n 3, 1) := by decide +kernel
theorem dX0_weighs_96 : decode cX0_weighs 96 = .ok (.iconst 5, 1) := by decide +kernel
theorem dX0_weighs_97 : decode cX0_weighs 97 = .ok (.iadd, 1) := by decide +kernel
theorem dX0_weighs_98 : decode cX0_weighs 98 = .ok (.ireturn, 1) := by decide +kernel
theorem dX0_weighs_99 : decode cX0_weighs 99 = .ok (.iconst 2, 1) := by decide +kernel
theorem dX0_weighs_100 : decode cX0_weighs 100 = .ok (.iload 4, 2) := by decide +kernel
theorem dX0_weighs_102 : decode cX0_weighs 102 = .ok (.imul, 1) := by decide +kernel
theorem dX0_weighs_103 : decode cX0_weighs 103 = .ok (.aload_n 0, 1) := by decide +kernel
theorem dX0_weighs_104 : decode cX0_weighs 104 = .ok (.getfield 22, 3) := by decide +kernel
theorem dX0_weighs_107 : decode cX0_weighs 107 = .ok (.iload_n 1, 1) := by decide +kernel
theorem dX0_weighs_108 : decode cX0_weighs 108 = .ok (.iaload, 1) := by decide +kernel
theorem dX0_weighs_109 : decode cX0_weighs 109 = .ok (.iadd, 1) := by decide +kernel
theorem dX0_weighs_110 : decode cX0_weighs 110 = .ok (.ireturn, 1) := by decide +kernel
theorem dX0_weighs_111 : decode cX0_weighs 111 = .ok (.iconst 3, 1) := by decide +kernel
theorem dX0_weighs_112 : decode cX0_weighs 112 = .ok (.iload_n 2, 1) := by decide +kernel
theorem dX0_weighs_113 : decode cX0_weighs 113 = .ok (.imul, 1) := by decide +kernel
theorem dX0_weighs_114 : decode cX0_weighs 114 = .ok (.ireturn, 1) := by decide +kernel
theorem dX0_weighs_115 : decode cX0_weighs 115 = .ok (.iconst 0, 1) := by decide +kernel
theorem dX0_weighs_116 : decode cX0_weighs 116 = .ok (.ireturn, 1) := by decide +kernel
theorem dX1_init_0 : decode cX1_init 0 = .ok (.aload_n 0, 1) := by decide +kernel
theorem dX1_init_1 : decode cX1_init 1 = .ok (.invokespecial 3, 3) := by decide +kernel
theorem dX1_init_4 : decode cX1_init 4 = .ok (.aload_n 0, 1) := by decide +kernel
theorem dX1_init_5 : decode cX1_init 5 = .ok (.bipush 60, 2) := by decide +kernel
theorem dX1_init_7 : decode cX1_init 7 = .ok (.newarray .int, 2) := by decide +kernel
theorem dX1_init_9 : decode cX1_init 9 = .ok (.putfield 9, 3) := by decide +kernel
theorem dX1_init_12 : decode cX1_init 12 = .ok (.aload_n 0, 1) := by decide +kernel
theorem dX1_init_13 : decode cX1_init 13 = .ok (.bipush 60, 2) := by decide +kernel
theorem dX1_init_15 : decode cX1_init 15 = .ok (.newarray .int, 2) := by decide +kernel
theorem dX1_init_17 : decode cX1_init 17 = .ok (.putfield 15, 3) := by decide +kernel
theorem dX1_init_20 : decode cX1_init 20 = .ok (.aload_n 0, 1) := by decide +kernel
theorem dX1_init_21 : decode cX1_init 21 = .ok (.iconst 0, 1) := by decide +kernel
theorem dX1_init_22 : decode cX1_init 22 = .ok (.putfield 18, 3) := by decide +kernel
theorem dX1_init_25 : decode cX1_init 25 = .ok (.aload_n 0, 1) := by decide +kernel
theorem dX1_init_26 : decode cX1_init 26 = .ok (.aload_n 1, 1) := by decide +kernel
theorem dX1_init_27 : decode cX1_init 27 = .ok (.putfield 22, 3) := by decide +kernel
theorem dX1_init_30 : decode cX1_init 30 = .ok (.aload_n 0, 1) := by decide +kernel
theorem dX1_init_31 : decode cX1_init 31 = .ok (.iload_n 2, 1) := by decide +kernel
theorem dX1_init_32 : decode cX1_init 32 = .ok (.putfield 26, 3) := by decide +kernel
theorem dX1_init_35 : decode cX1_init 35 = .ok (.return_, 1) := by decide +kernel
theorem dX1_take_0 : decode cX1_take 0 = .ok (.aload_n 1, 1) := by decide +kernel
theorem dX1_take_1 : decode cX1_take 1 = .ok (.iconst 0, 1) := by decide +kernel
theorem dX1_take_2 : decode cX1_take 2 = .ok (.aload_n 0, 1) := by decide +kernel
theorem dX1_take_3 : decode cX1_take 3 = .ok (.getfield 9, 3) := by decide +kernel
theorem dX1_take_6 : decode cX1_take 6 = .ok (.iconst 0, 1) := by decide +kernel
theorem dX1_take_7 : decode cX1_take 7 = .ok (.iload_n 2, 1) := by decide +kernel
theorem dX1_take_8 : decode cX1_take 8 = .ok (.invokestatic 29, 3) := by decide +kernel
theorem dX1_take_11 : decode cX1_take 11 = .ok (.aload_n 0, 1) := by decide +kernel
theorem dX1_take_12 : decode cX1_take 12 = .ok (.iload_n 2, 1) := by decide +kernel
theorem dX1_take_13 : decode cX1_take 13 = .ok (.putfield 18, 3) := by decide +kernel
theorem dX1_take_16 : decode cX1_take 16 = .ok (.return_, 1) := by decide +kernel
theorem dX1_gives_0 : decode cX1_gives 0 = .ok (.aload_n 0, 1) := by decide +kernel
theorem dX1_gives_1 : decode cX1_gives 1 = .ok (.getfield 18, 3) := by decide +kernel
theorem dX1_gives_4 : decode cX1_gives 4 = .ok (.ifCond .ne 7, 3) := by decide +kernel
theorem dX1_gives_7 : decode cX1_gives 7 = .ok (.iload_n 1, 1) := by decide +kernel
theorem dX1_gives_8 : decode cX1_gives 8 = .ok (.goto 10, 3) := by decide +kernel
theorem dX1_gives_11 : decode cX1_gives 11 = .ok (.aload_n 0, 1) := by decide +kernel
theorem dX1_gives_12 : decode cX1_gives 12 = .ok (.iload_n 1, 1) := by decide +kernel
theorem dX1_gives_13 : decode cX1_gives 13 = .ok (.iload_n 2, 1) := by decide +kernel
theorem dX1_gives_14 : decode cX1_gives 14 = .ok (.iload_n 3, 1) := by decide +kernel
theorem dX1_gives_15 : decode cX1_gives 15 = .ok (.invokevirtual 35, 3) := by decide +kernel
theorem dX1_gives_18 : decode cX1_gives 18 = .ok (.istore 4, 2) := by decide +kernel
theorem dX1_gives_20 : decode cX1_gives 20 = .ok (.iconst 0, 1) := by decide +kernel
theorem dX1_gives_21 : decode cX1_gives 21 = .ok (.aload_n 0, 1) := by decide +kernel
theorem dX1_gives_22 : decode cX1_gives 22 = .ok (.getfield 26, 3) := by decide +kernel
theorem dX1_gives_25 : decode cX1_gives 25 = .ok (.iload 4, 2) := by decide +kernel
theorem dX1_gives_27 : decode cX1_gives 27 = .ok (.invokestatic 39, 3) := by decide +kernel
theorem dX1_gives_30 : decode cX1_gives 30 = .ok (.invokestatic 45, 3) := by decide +kernel
theorem dX1_gives_33 : decode cX1_gives 33 = .ok (.ireturn, 1) := by decide +kernel
theorem dX1_workedOut_0 : decode cX1_workedOut 0 = .ok (.iconst (-1), 1) := by decide +kernel
theorem dX1_workedOut_1 : decode cX1_workedOut 1 = .ok (.istore 4, 2) := by decide +kernel
theorem dX1_workedOut_3 : decode cX1_workedOut 3 = .ok (.iconst 0, 1) := by decide +kernel
theorem dX1_workedOut_4 : decode cX1_workedOut 4 = .ok (.istore 5, 2) := by decide +kernel
theorem dX1_workedOut_6 : decode cX1_workedOut 6 = .ok (.iload 5, 2) := by decide +kernel
theorem dX1_workedOut_8 : decode cX1_workedOut 8 = .ok (.aload_n 0, 1) := by decide +kernel
theorem dX1_workedOut_9 : decode cX1_workedOut 9 = .ok (.getfield 18, 3) := by decide +kernel
theorem dX1_workedOut_12 : decode cX1_workedOut 12 = .ok (.if_icmp .ge 170, 3) := by decide +kernel
theorem dX1_workedOut_15 : decode cX1_workedOut 15 = .ok (.aload_n 0, 1) := by decide +kernel
theorem dX1_workedOut_16 : decode cX1_workedOut 16 = .ok (.getfield 9, 3) := by decide +kernel
theorem dX1_workedOut_19 : decode cX1_workedOut 19 = .ok (.iload 5, 2) := by decide +kernel
theorem dX1_workedOut_21 : decode cX1_workedOut 21 = .ok (.iaload, 1) := by decide +kernel
theorem dX1_workedOut_22 : decode cX1_workedOut 22 = .ok (.istore 6, 2) := by decide +kernel
theorem dX1_workedOut_24 : decode cX1_workedOut 24 = .ok (.iload 6, 2) := by decide +kernel
theorem dX1_workedOut_26 : decode cX1_workedOut 26 = .ok (.sipush 20033, 3) := by decide +kernel
theorem dX1_workedOut_29 : decode cX1_workedOut 29 = .ok (.if_icmp .ne 33, 3) := by decide +kernel
theorem dX1_workedOut_32 : decode cX1_workedOut 32 = .ok (.iload 4, 2) := by decide +kernel
theorem dX1_workedOut_34 : decode cX1_workedOut 34 = .ok (.ifCond .lt 142, 3) := by decide +kernel
theorem dX1_workedOut_37 : decode cX1_workedOut 37 = .ok (.aload_n 0, 1) := by decide +kernel
theorem dX1_workedOut_38 : decode cX1_workedOut 38 = .ok (.getfield 15, 3) := by decide +kernel
theorem dX1_workedOut_41 : decode cX1_workedOut 41 = .ok (.iload 4, 2) := by decide +kernel
theorem dX1_workedOut_43 : decode cX1_workedOut 43 = .ok (.aload_n 0, 1) := by decide +kernel
theorem dX1_workedOut_44 : decode cX1_workedOut 44 = .ok (.getfield 15, 3) := by decide +kernel
theorem dX1_workedOut_47 : decode cX1_workedOut 47 = .ok (.iload 4, 2) := by decide +kernel
theorem dX1_workedOut_49 : decode cX1_workedOut 49 = .ok (.iaload, 1) := by decide +kernel
theorem dX1_workedOut_50 : decode cX1_workedOut 50 = .ok (.ifCond .ne 7, 3) := by decide +kernel
theorem dX1_workedOut_53 : decode cX1_workedOut 53 = .ok (.iconst 1, 1) := by decide +kernel
theorem dX1_workedOut_54 : decode cX1_workedOut 54 = .ok (.goto 4, 3) := by decide +kernel
theorem dX1_workedOut_57 : decode cX1_workedOut 57 = .ok (.iconst 0, 1) := by decide +kernel
theorem dX1_workedOut_58 : decode cX1_workedOut 58 = .ok (.iastore, 1) := by decide +kernel
theorem dX1_workedOut_59 : decode cX1_workedOut 59 = .ok (.goto 117, 3) := by decide +kernel
theorem dX1_workedOut_62 : decode cX1_workedOut 62 = .ok (.iload 6, 2) := by decide +kernel
theorem dX1_workedOut_64 : decode cX1_workedOut 64 = .ok (.sipush 20000, 3) := by decide +kernel
theorem dX1_workedOut_67 : decode cX1_workedOut 67 = .ok (.if_icmp .lt 49, 3) := by decide +kernel
theorem dX1_workedOut_70 : decode cX1_workedOut 70 = .ok (.iload 4, 2) := by decide +kernel
theorem dX1_workedOut_72 : decode cX1_workedOut 72 = .ok (.iconst 1, 1) := by decide +kernel
theorem dX1_workedOut_73 : decode cX1_workedOut 73 = .ok (.if_icmp .ge 5, 3) := by decide +kernel
theorem dX1_workedOut_76 : decode cX1_workedOut 76 = .ok (.iconst 0, 1) := by decide +kernel
theorem dX1_workedOut_77 : decode cX1_workedOut 77 = .ok (.ireturn, 1) := by decide +kernel
theorem dX1_workedOut_78 : decode cX1_workedOut 78 = .ok (.iinc 4 (-1), 3) := by decide +kernel
theorem dX1_workedOut_81 : decode cX1_workedOut 81 = .ok (.aload_n 0, 1) := by decide +kernel
theorem dX1_workedOut_82 : decode cX1_workedOut 82 = .ok (.getfield 15, 3) := by decide +kernel
theorem dX1_workedOut_85 : decode cX1_workedOut 85 = .ok (.iload 4, 2) := by decide +kernel
theorem dX1_workedOut_87 : decode cX1_workedOut 87 = .ok (.iload 6, 2) := by decide +kernel
theorem dX1_workedOut_89 : decode cX1_workedOut 89 = .ok (.sipush 20000, 3) := by decide +kernel
theorem dX1_workedOut_92 : decode cX1_workedOut 92 = .ok (.isub, 1) := by decide +kernel
theorem dX1_workedOut_93 : decode cX1_workedOut 93 = .ok (.aload_n 0, 1) := by decide +kernel
theorem dX1_workedOut_94 : decode cX1_workedOut 94 = .ok (.getfield 15, 3) := by decide +kernel
theorem dX1_workedOut_97 : decode cX1_workedOut 97 = .ok (.iload 4, 2) := by decide +kernel
theorem dX1_workedOut_99 : decode cX1_workedOut 99 = .ok (.iaload, 1) := by decide +kernel
theorem dX1_workedOut_100 : decode cX1_workedOut 100 = .ok (.aload_n 0, 1) := by decide +kernel
theorem dX1_workedOut_101 : decode cX1_workedOut 101 = .ok (.getfield 15, 3) := by decide +kernel
theorem dX1_workedOut_104 : decode cX1_workedOut 104 = .ok (.iload 4, 2) := by decide +kernel
theorem dX1_workedOut_106 : decode cX1_workedOut 106 = .ok (.iconst 1, 1) := by decide +kernel
theorem dX1_workedOut_107 : decode cX1_workedOut 107 = .ok (.iadd, 1) := by decide +kernel
theorem dX1_workedOut_108 : decode cX1_workedOut 108 = .ok (.iaload, 1) := by decide +kernel
theorem dX1_workedOut_109 : decode cX1_workedOut 109 = .ok (.invokestatic 48, 3) := by decide +kernel
theorem dX1_workedOut_112 : decode cX1_workedOut 112 = .ok (.iastore, 1) := by decide +kernel
theorem dX1_workedOut_113 : decode cX1_workedOut 113 = .ok (.goto 63, 3) := by decide +kernel
theorem dX1_workedOut_116 : decode cX1_workedOut 116 = .ok (.iload 4, 2) := by decide +kernel
theorem dX1_workedOut_118 : decode cX1_workedOut 118 = .ok (.iconst 1, 1) := by decide +kernel
theorem dX1_workedOut_119 : decode cX1_workedOut 119 = .ok (.iadd, 1) := by decide +kernel
theorem dX1_workedOut_120 : decode cX1_workedOut 120 = .ok (.aload_n 0, 1) := by decide +kernel
theorem dX1_workedOut_121 : decode cX1_workedOut 121 = .ok (.getfield 15, 3) := by decide +kernel
theorem dX1_workedOut_124 : decode cX1_workedOut 124 = .ok (.arraylength, 1) := by decide +kernel
theorem dX1_workedOut_125 : decode cX1_workedOut 125 = .ok (.if_icmp .ge 51, 3) := by decide +kernel
theorem dX1_workedOut_128 : decode cX1_workedOut 128 = .ok (.iinc 4 1, 3) := by decide +kernel
theorem dX1_workedOut_131 : decode cX1_workedOut 131 = .ok (.aload_n 0, 1) := by decide +kernel
theorem dX1_workedOut_132 : decode cX1_workedOut 132 = .ok (.getfield 15, 3) := by decide +kernel
theorem dX1_workedOut_135 : decode cX1_workedOut 135 = .ok (.iload 4, 2) := by decide +kernel
theorem dX1_workedOut_137 : decode cX1_workedOut 137 = .ok (.iload 6, 2) := by decide +kernel
theorem dX1_workedOut_139 : decode cX1_workedOut 139 = .ok (.sipush 10000, 3) := by decide +kernel
theorem dX1_workedOut_142 : decode cX1_workedOut 142 = .ok (.if_icmp .ge 8, 3) := by decide +kernel
theorem dX1_workedOut_145 : decode cX1_workedOut 145 = .ok (.iload 6, 2) := by decide +kernel
theorem dX1_workedOut_147 : decode cX1_workedOut 147 = .ok (.goto 28, 3) := by decide +kernel
theorem dX1_workedOut_150 : decode cX1_workedOut 150 = .ok (.iload 6, 2) := by decide +kernel
theorem dX1_workedOut_152 : decode cX1_workedOut 152 = .ok (.sipush 10000, 3) := by decide +kernel
theorem dX1_workedOut_155 : decode cX1_workedOut 155 = .ok (.if_icmp .ne 7, 3) := by decide +kernel
theorem dX1_workedOut_158 : decode cX1_workedOut 158 = .ok (.iload_n 1, 1) := by decide +kernel
theorem dX1_workedOut_159 : decode cX1_workedOut 159 = .ok (.goto 16, 3) := by decide +kernel
theorem dX1_workedOut_162 : decode cX1_workedOut 162 = .ok (.iload 6, 2) := by decide +kernel
theorem dX1_workedOut_164 : decode cX1_workedOut 164 = .ok (.sipush 10001, 3) := by decide +kernel
theorem dX1_workedOut_167 : decode cX1_workedOut 167 = .ok (.if_icmp .ne 7, 3) := by decide +kernel
theorem dX1_workedOut_170 : decode cX1_workedOut 170 = .ok (.iload_n 2, 1) := by decide +kernel
theorem dX1_workedOut_171 : decode cX1_workedOut 171 = .ok (.goto 4, 3) := by decide +kernel
theorem dX1_workedOut_174 : decode cX1_workedOut 174 = .ok (.iload_n 3, 1) := by decide +kernel
theorem dX1_workedOut_175 : decode cX1_workedOut 175 = .ok (.iastore, 1) := by decide +kernel
theorem dX1_workedOut_176 : decode cX1_workedOut 176 = .ok (.iinc 5 1, 3) := by decide +kernel
theorem dX1_workedOut_179 : decode cX1_workedOut 179 = .ok (.goto (-173), 3) := by decide +kernel
theorem dX1_workedOut_182 : decode cX1_workedOut 182 = .ok (.iload 4, 2) := by decide +kernel
theorem dX1_workedOut_184 : decode cX1_workedOut 184 = .ok (.ifCond .ge 7, 3) := by decide +kernel
theorem dX1_workedOut_187 : decode cX1_workedOut 187 = .ok (.iconst 0, 1) := by decide +kernel
theorem dX1_workedOut_188 : decode cX1_workedOut 188 = .ok (.goto 10, 3) := by decide +kernel
theorem dX1_workedOut_191 : decode cX1_workedOut 191 = .ok (.aload_n 0, 1) := by decide +kernel
theorem dX1_workedOut_192 : decode cX1_workedOut 192 = .ok (.getfield 15, 3) := by decide +kernel
theorem dX1_workedOut_195 : decode cX1_workedOut 195 = .ok (.iload 4, 2) := by decide +kernel
theorem dX1_workedOut_197 : decode cX1_workedOut 197 = .ok (.iaload, 1) := by decide +kernel
theorem dX1_workedOut_198 : decode cX1_workedOut 198 = .ok (.ireturn, 1) := by decide +kernel
theorem dX1_joined_0 : decode cX1_joined 0 = .ok (.iload_n 0, 1) := by decide +kernel
theorem dX1_joined_1 : decode cX1_joined 1 = .ok (.lookupswitch 188 #[(37, 176), (38, 105), (42, 160), (43, 152), (45, 156), (47, 164), (60, 119), (61, 130), (62, 141), (124, 91)], 91) := by decide +kernel
theorem dX1_joined_92 : decode cX1_joined 92 = .ok (.iload_n 1, 1) := by decide +kernel
theorem dX1_joined_93 : decode cX1_joined 93 = .ok (.ifCond .ne 7, 3) := by decide +kernel
theorem dX1_joined_96 : decode cX1_joined 96 = .ok (.iload_n 2, 1) := by decide +kernel
theorem dX1_joined_97 : decode cX1_joined 97 = .ok (.ifCond .eq 7, 3) := by decide +kernel
theorem dX1_joined_100 : decode cX1_joined 100 = .ok (.iconst 1, 1) := by decide +kernel
theorem dX1_joined_101 : decode cX1_joined 101 = .ok (.goto 4, 3) := by decide +kernel
theorem dX1_joined_104 : decode cX1_joined 104 = .ok (.iconst 0, 1) := by decide +kernel
theorem dX1_joined_105 : decode cX1_joined 105 = .ok (.ireturn, 1) := by decide +kernel
theorem dX1_joined_106 : decode cX1_joined 106 = .ok (.iload_n 1, 1) := by decide +kernel
theorem dX1_joined_107 : decode cX1_joined 107 = .ok (.ifCond .eq 11, 3) := by decide +kernel
theorem dX1_joined_110 : decode cX1_joined 110 = .ok (.iload_n 2, 1) := by decide +kernel
theorem dX1_joined_111 : decode cX1_joined 111 = .ok (.ifCond .eq 7, 3) := by decide +kernel
theorem dX1_joined_114 : decode cX1_joined 114 = .ok (.iconst 1, 1) := by decide +kernel
theorem dX1_joined_115 : decode cX1_joined 115 = .ok (.goto 4, 3) := by decide +kernel
theorem dX1_joined_118 : decode cX1_joined 118 = .ok (.iconst 0, 1) := by decide +kernel
theorem dX1_joined_119 : decode cX1_joined 119 = .ok (.ireturn, 1) := by decide +kernel
theorem dX1_joined_120 : decode cX1_joined 120 = .ok (.iload_n 1, 1) := by decide +kernel
theorem dX1_joined_121 : decode cX1_joined 121 = .ok (.iload_n 2, 1) := by decide +kernel
theorem dX1_joined_122 : decode cX1_joined 122 = .ok (.if_icmp .ge 7, 3) := by decide +kernel
theorem dX1_joined_125 : decode cX1_joined 125 = .ok (.iconst 1, 1) := by decide +kernel
theorem dX1_joined_126 : decode cX1_joined 126 = .ok (.goto 4, 3) := by decide +kernel
theorem dX1_joined_129 : decode cX1_joined 129 = .ok (.iconst 0, 1) := by decide +kernel
theorem dX1_joined_130 : decode cX1_joined 130 = .ok (.ireturn, 1) := by decide +kernel
theorem dX1_joined_131 : decode cX1_joined 131 = .ok (.iload_n 1, 1) := by decide +kernel
theorem dX1_joined_132 : decode cX1_joined 132 = .ok (.iload_n 2, 1) := by decide +kernel
theorem dX1_joined_133 : decode cX1_joined 133 = .ok (.if_icmp .ne 7, 3) := by decide +kernel
theorem dX1_joined_136 : decode cX1_joined 136 = .ok (.iconst 1, 1) := by decide +kernel
theorem dX1_joined_137 : decode cX1_joined 137 = .ok (.goto 4, 3) := by decide +kernel
theorem dX1_joined_140 : decode cX1_joined 140 = .ok (.iconst 0, 1) := by decide +kernel
theorem dX1_joined_141 : decode cX1_joined 141 = .ok (.ireturn, 1) := by decide +kernel
theorem dX1_joined_142 : decode cX1_joined 142 = .ok (.iload_n 1, 1) := by decide +kernel
theorem dX1_joined_143 : decode cX1_joined 143 = .ok (.iload_n 2, 1) := by decide +kernel
theorem dX1_joined_144 : decode cX1_joined 144 = .ok (.if_icmp .le 7, 3) := by decide +kernel
theorem dX1_joined_147 : decode cX1_joined 147 = .ok (.iconst 1, 1) := by decide +kernel
theorem dX1_joined_148 : decode cX1_joined 148 = .ok (.goto 4, 3) := by decide +kernel
theorem dX1_joined_151 : decode cX1_joined 151 = .ok (.iconst 0, 1) := by decide +kernel
theorem dX1_joined_152 : decode cX1_joined 152 = .ok (.ireturn, 1) := by decide +kernel
theorem dX1_joined_153 : decode cX1_joined 153 = .ok (.iload_n 1, 1) := by decide +kernel
theorem dX1_joined_154 : decode cX1_joined 154 = .ok (.iload_n 2, 1) := by decide +kernel
theorem dX1_joined_155 : decode cX1_joined 155 = .ok (.iadd, 1) := by decide +kernel
theorem dX1_joined_156 : decode cX1_joined 156 = .ok (.ireturn, 1) := by decide +kernel
theorem dX1_joined_157 : decode cX1_joined 157 = .ok (.iload_n 1, 1) := by decide +kernel
theorem dX1_joined_158 : decode cX1_joined 158 = .ok (.iload_n 2, 1) := by decide +kernel
theorem dX1_joined_159 : decode cX1_joined 159 = .ok (.isub, 1) := by decide +kernel
theorem dX1_joined_160 : decode cX1_joined 160 = .ok (.ireturn, 1) := by decide +kernel
theorem dX1_joined_161 : decode cX1_joined 161 = .ok (.iload_n 1, 1) := by decide +kernel
theorem dX1_joined_162 : decode cX1_joined 162 = .ok (.iload_n 2, 1) := by decide +kernel
theorem dX1_joined_163 : decode cX1_joined 163 = .ok (.imul, 1) := by decide +kernel
theorem dX1_joined_164 : decode cX1_joined 164 = .ok (.ireturn, 1) := by decide +kernel
theorem dX1_joined_165 : decode cX1_joined 165 = .ok (.iload_n 2, 1) := by decide +kernel
theorem dX1_joined_166 : decode cX1_joined 166 = .ok (.ifCond .ne 7, 3) := by decide +kernel
theorem dX1_joined_169 : decode cX1_joined 169 = .ok (.iconst 0, 1) := by decide +kernel
theorem dX1_joined_170 : decode cX1_joined 170 = .ok (.goto 6, 3) := by decide +kernel
theorem dX1_joined_173 : decode cX1_joined 173 = .ok (.iload_n 1, 1) := by decide +kernel
theorem dX1_joined_174 : decode cX1_joined 174 = .ok (.iload_n 2, 1) := by decide +kernel
theorem dX1_joined_175 : decode cX1_joined 175 = .ok (.idiv, 1) := by decide +kernel
theorem dX1_joined_176 : decode cX1_joined 176 = .ok (.ireturn, 1) := by decide +kernel
theorem dX1_joined_177 : decode cX1_joined 177 = .ok (.iload_n 2, 1) := by decide +kernel
theorem dX1_joined_178 : decode cX1_joined 178 = .ok (.ifCond .ne 7, 3) := by decide +kernel
theorem dX1_joined_181 : decode cX1_joined 181 = .ok (.iconst 0, 1) := by decide +kernel
theorem dX1_joined_182 : decode cX1_joined 182 = .ok (.goto 6, 3) := by decide +kernel
theorem dX1_joined_185 : decode cX1_joined 185 = .ok (.iload_n 1, 1) := by decide +kernel
theorem dX1_joined_186 : decode cX1_joined 186 = .ok (.iload_n 2, 1) := by decide +kernel
theorem dX1_joined_187 : decode cX1_joined 187 = .ok (.irem, 1) := by decide +kernel
theorem dX1_joined_188 : decode cX1_joined 188 = .ok (.ireturn, 1) := by decide +kernel
theorem dX1_joined_189 : decode cX1_joined 189 = .ok (.iconst 0, 1) := by decide +kernel
theorem dX1_joined_190 : decode cX1_joined 190 = .ok (.ireturn, 1) := by decide +kernel
theorem dX2_init_0 : decode cX2_init 0 = .ok (.aload_n 0, 1) := by decide +kernel
theorem dX2_init_1 : decode cX2_init 1 = .ok (.invokespecial 3, 3) := by decide +kernel
theorem dX2_init_4 : decode cX2_init 4 = .ok (.aload_n 0, 1) := by decide +kernel
theorem dX2_init_5 : decode cX2_init 5 = .ok (.bipush 60, 2) := by decide +kernel
theorem dX2_init_7 : decode cX2_init 7 = .ok (.newarray .int, 2) := by decide +kernel
theorem dX2_init_9 : decode cX2_init 9 = .ok (.putfield 9, 3) := by decide +kernel
theorem dX2_init_12 : decode cX2_init 12 = .ok (.aload_n 0, 1) := by decide +kernel
theorem dX2_init_13 : decode cX2_init 13 = .ok (.iconst 0, 1) := by decide +kernel
theorem dX2_init_14 : decode cX2_init 14 = .ok (.putfield 15, 3) := by decide +kernel
theorem dX2_init_17 : decode cX2_init 17 = .ok (.aload_n 0, 1) := by decide +kernel
theorem dX2_init_18 : decode cX2_init 18 = .ok (.bipush 60, 2) := by decide +kernel
theorem dX2_init_20 : decode cX2_init 20 = .ok (.newarray .int, 2) := by decide +kernel
theorem dX2_init_22 : decode cX2_init 22 = .ok (.putfield 19, 3) := by decide +kernel
theorem dX2_init_25 : decode cX2_init 25 = .ok (.aload_n 0, 1) := by decide +kernel
theorem dX2_init_26 : decode cX2_init 26 = .ok (.iconst 0, 1) := by decide +kernel
theorem dX2_init_27 : decode cX2_init 27 = .ok (.putfield 22, 3) := by decide +kernel
theorem dX2_init_30 : decode cX2_init 30 = .ok (.aload_n 0, 1) := by decide +kernel
theorem dX2_init_31 : decode cX2_init 31 = .ok (.ldc 25, 2) := by decide +kernel
theorem dX2_init_33 : decode cX2_init 33 = .ok (.putfield 27, 3) := by decide +kernel
theorem dX2_init_36 : decode cX2_init 36 = .ok (.aload_n 0, 1) := by decide +kernel
theorem dX2_init_37 : decode cX2_init 37 = .ok (.iconst 0, 1) := by decide +kernel
theorem dX2_init_38 : decode cX2_init 38 = .ok (.putfield 31, 3) := by decide +kernel
theorem dX2_init_41 : decode cX2_init 41 = .ok (.aload_n 0, 1) := by decide +kernel
theorem dX2_init_42 : decode cX2_init 42 = .ok (.iconst 0, 1) := by decide +kernel
theorem dX2_init_43 : decode cX2_init 43 = .ok (.putfield 34, 3) := by decide +kernel
theorem dX2_init_46 : decode cX2_init 46 = .ok (.return_, 1) := by decide +kernel
theorem dX2_reads_0 : decode cX2_reads 0 = .ok (.aload_n 1, 1) := by decide +kernel
theorem dX2_reads_1 : decode cX2_reads 1 = .ok (.iconst 0, 1) := by decide +kernel
theorem dX2_reads_2 : decode cX2_reads 2 = .ok (.aload_n 0, 1) := by decide +kernel
theorem dX2_reads_3 : decode cX2_reads 3 = .ok (.getfield 19, 3) := by decide +kernel
theorem dX2_reads_6 : decode cX2_reads 6 = .ok (.iconst 0, 1) := by decide +kernel
theorem dX2_reads_7 : decode cX2_reads 7 = .ok (.iload_n 2, 1) := by decide +kernel
theorem dX2_reads_8 : decode cX2_reads 8 = .ok (.invokestatic 38, 3) := by decide +kernel
theorem dX2_reads_11 : decode cX2_reads 11 = .ok (.aload_n 0, 1) := by decide +kernel
theorem dX2_reads_12 : decode cX2_reads 12 = .ok (.iload_n 2, 1) := by decide +kernel
theorem dX2_reads_13 : decode cX2_reads 13 = .ok (.putfield 22, 3) := by decide +kernel
theorem dX2_reads_16 : decode cX2_reads 16 = .ok (.aload_n 0, 1) := by decide +kernel
theorem dX2_reads_17 : decode cX2_reads 17 = .ok (.aload_n 3, 1) := by decide +kernel
theorem dX2_reads_18 : decode cX2_reads 18 = .ok (.putfield 27, 3) := by decide +kernel
theorem dX2_reads_21 : decode cX2_reads 21 = .ok (.aload_n 0, 1) := by decide +kernel
theorem dX2_reads_22 : decode cX2_reads 22 = .ok (.iconst 0, 1) := by decide +kernel
theorem dX2_reads_23 : decode cX2_reads 23 = .ok (.putfield 31, 3) := by decide +kernel
theorem dX2_reads_26 : decode cX2_reads 26 = .ok (.aload_n 0, 1) := by decide +kernel
theorem dX2_reads_27 : decode cX2_reads 27 = .ok (.iconst 0, 1) := by decide +kernel
theorem dX2_reads_28 : decode cX2_reads 28 = .ok (.putfield 15, 3) := by decide +kernel
theorem dX2_reads_31 : decode cX2_reads 31 = .ok (.aload_n 0, 1) := by decide +kernel
theorem dX2_reads_32 : decode cX2_reads 32 = .ok (.iconst 0, 1) := by decide +kernel
theorem dX2_reads_33 : decode cX2_reads 33 = .ok (.putfield 34, 3) := by decide +kernel
theorem dX2_reads_36 : decode cX2_reads 36 = .ok (.aload_n 0, 1) := by decide +kernel
theorem dX2_reads_37 : decode cX2_reads 37 = .ok (.iconst 0, 1) := by decide +kernel
theorem dX2_reads_38 : decode cX2_reads 38 = .ok (.iconst 0, 1) := by decide +kernel
theorem dX2_reads_39 : decode cX2_reads 39 = .ok (.invokevirtual 44, 3) := by decide +kernel
theorem dX2_reads_42 : decode cX2_reads 42 = .ok (.aload_n 0, 1) := by decide +kernel
theorem dX2_reads_43 : decode cX2_reads 43 = .ok (.getfield 34, 3) := by decide +kernel
theorem dX2_reads_46 : decode cX2_reads 46 = .ok (.ifCond .ne 16, 3) := by decide +kernel
theorem dX2_reads_49 : decode cX2_reads 49 = .ok (.aload_n 0, 1) := by decide +kernel
theorem dX2_reads_50 : decode cX2_reads 50 = .ok (.getfield 31, 3) := by decide +kernel
theorem dX2_reads_53 : decode cX2_reads 53 = .ok (.aload_n 0, 1) := by decide +kernel
theorem dX2_reads_54 : decode cX2_reads 54 = .ok (.getfield 22, 3) := by decide +kernel
theorem dX2_reads_57 : decode cX2_reads 57 = .ok (.if_icmp .ne 5, 3) := by decide +kernel
theorem dX2_reads_60 : decode cX2_reads 60 = .ok (.iconst (-1), 1) := by decide +kernel
theorem dX2_reads_61 : decode cX2_reads 61 = .ok (.ireturn, 1) := by decide +kernel
theorem dX2_reads_62 : decode cX2_reads 62 = .ok (.aload_n 0, 1) := by decide +kernel
theorem dX2_reads_63 : decode cX2_reads 63 = .ok (.getfield 31, 3) := by decide +kernel
theorem dX2_reads_66 : decode cX2_reads 66 = .ok (.ireturn, 1) := by decide +kernel
theorem dX2_signsOf_0 : decode cX2_signsOf 0 = .ok (.iload_n 0, 1) := by decide +kernel
theorem dX2_signsOf_1 : decode cX2_signsOf 1 = .ok (.tableswitch 43 0 3 #[31, 34, 37, 40], 31) := by decide +kernel
theorem dX2_signsOf_32 : decode cX2_signsOf 32 = .ok (.ldc 48, 2) := by decide +kernel
theorem dX2_signsOf_34 : decode cX2_signsOf 34 = .ok (.areturn, 1) := by decide +kernel
theorem dX2_signsOf_35 : decode cX2_signsOf 35 = .ok (.ldc 50, 2) := by decide +kernel
theorem dX2_signsOf_37 : decode cX2_signsOf 37 = .ok (.areturn, 1) := by decide +kernel
theorem dX2_signsOf_38 : decode cX2_signsOf 38 = .ok (.ldc 52, 2) := by decide +kernel
theorem dX2_signsOf_40 : decode cX2_signsOf 40 = .ok (.areturn, 1) := by decide +kernel
theorem dX2_signsOf_41 : decode cX2_signsOf 41 = .ok (.ldc 54, 2) := by decide +kernel
theorem dX2_signsOf_43 : decode cX2_signsOf 43 = .ok (.areturn, 1) := by decide +kernel
theorem dX2_signsOf_44 : decode cX2_signsOf 44 = .ok (.ldc 56, 2) := by decide +kernel
theorem dX2_signsOf_46 : decode cX2_signsOf 46 = .ok (.areturn, 1) := by decide +kernel
theorem dX2_readRank_0 : decode cX2_readRank 0 = .ok (.iload_n 1, 1) := by decide +kernel
theorem dX2_readRank_1 : decode cX2_readRank 1 = .ok (.iconst 5, 1) := by decide +kernel
theorem dX2_readRank_2 : decode cX2_readRank 2 = .ok (.if_icmp .ge 12, 3) := by decide +kernel
theorem dX2_readRank_5 : decode cX2_readRank 5 = .ok (.aload_n 0, 1) := by decide +kernel
theorem dX2_readRank_6 : decode cX2_readRank 6 = .ok (.iload_n 1, 1) := by decide +kernel
theorem dX2_readRank_7 : decode cX2_readRank 7 = .ok (.iload_n 2, 1) := by decide +kernel
theorem dX2_readRank_8 : decode cX2_readRank 8 = .ok (.invokevirtual 58, 3) := by decide +kernel
theorem dX2_readRank_11 : decode cX2_readRank 11 = .ok (.goto 8, 3) := by decide +kernel
theorem dX2_readRank_14 : decode cX2_readRank 14 = .ok (.aload_n 0, 1) := by decide +kernel
theorem dX2_readRank_15 : decode cX2_readRank 15 = .ok (.iload_n 2, 1) := by decide +kernel
theorem dX2_readRank_16 : decode cX2_readRank 16 = .ok (.invokevirtual 61, 3) := by decide +kernel
theorem dX2_readRank_19 : decode cX2_readRank 19 = .ok (.return_, 1) := by decide +kernel
theorem dX2_readJoined_0 : decode cX2_readJoined 0 = .ok (.aload_n 0, 1) := by decide +kernel
theorem dX2_readJoined_1 : decode cX2_readJoined 1 = .ok (.iload_n 1, 1) := by decide +kernel
theorem dX2_readJoined_2 : decode cX2_readJoined 2 = .ok (.iconst 1, 1) := by decide +kernel
theorem dX2_readJoined_3 : decode cX2_readJoined 3 = .ok (.iadd, 1) := by decide +kernel
theorem dX2_readJoined_4 : decode cX2_readJoined 4 = .ok (.iload_n 2, 1) := by decide +kernel
theorem dX2_readJoined_5 : decode cX2_readJoined 5 = .ok (.invokevirtual 44, 3) := by decide +kernel
theorem dX2_readJoined_8 : decode cX2_readJoined 8 = .ok (.iload_n 1, 1) := by decide +kernel
theorem dX2_readJoined_9 : decode cX2_readJoined 9 = .ok (.invokestatic 65, 3) := by decide +kernel
theorem dX2_readJoined_12 : decode cX2_readJoined 12 = .ok (.astore_n 3, 1) := by decide +kernel
theorem dX2_readJoined_13 : decode cX2_readJoined 13 = .ok (.iload_n 1, 1) := by decide +kernel
theorem dX2_readJoined_14 : decode cX2_readJoined 14 = .ok (.iconst 2, 1) := by decide +kernel
theorem dX2_readJoined_15 : decode cX2_readJoined 15 = .ok (.if_icmp .ne 7, 3) := by decide +kernel
theorem dX2_readJoined_18 : decode cX2_readJoined 18 = .ok (.iconst 1, 1) := by decide +kernel
theorem dX2_readJoined_19 : decode cX2_readJoined 19 = .ok (.goto 5, 3) := by decide +kernel
theorem dX2_readJoined_22 : decode cX2_readJoined 22 = .ok (.bipush 60, 2) := by decide +kernel
theorem dX2_readJoined_24 : decode cX2_readJoined 24 = .ok (.istore 4, 2) := by decide +kernel
theorem dX2_readJoined_26 : decode cX2_readJoined 26 = .ok (.iconst 0, 1) := by decide +kernel
theorem dX2_readJoined_27 : decode cX2_readJoined 27 = .ok (.istore 5, 2) := by decide +kernel
theorem dX2_readJoined_29 : decode cX2_readJoined 29 = .ok (.iload 5, 2) := by decide +kernel
theorem dX2_readJoined_31 : decode cX2_readJoined 31 = .ok (.iload 4, 2) := by decide +kernel
theorem dX2_readJoined_33 : decode cX2_readJoined 33 = .ok (.if_icmp .ge 63, 3) := by decide +kernel
theorem dX2_readJoined_36 : decode cX2_readJoined 36 = .ok (.aload_n 0, 1) := by decide +kernel
theorem dX2_readJoined_37 : decode cX2_readJoined 37 = .ok (.getfield 34, 3) := by decide +kernel
theorem dX2_readJoined_40 : decode cX2_readJoined 40 = .ok (.ifCond .ne 56, 3) := by decide +kernel
theorem dX2_readJoined_43 : decode cX2_readJoined 43 = .ok (.aload_n 0, 1) := by decide +kernel
theorem dX2_readJoined_44 : decode cX2_readJoined 44 = .ok (.aload_n 3, 1) := by decide +kernel
theorem dX2_readJoined_45 : decode cX2_readJoined 45 = .ok (.invokevirtual 69, 3) := by decide +kernel
theorem dX2_readJoined_48 : decode cX2_readJoined 48 = .ok (.ifCond .eq 48, 3) := by decide +kernel
theorem dX2_readJoined_51 : decode cX2_readJoined 51 = .ok (.aload_n 0, 1) := by decide +kernel
theorem dX2_readJoined_52 : decode cX2_readJoined 52 = .ok (.getfield 19, 3) := by decide +kernel
theorem dX2_readJoined_55 : decode cX2_readJoined 55 = .ok (.aload_n 0, 1) := by decide +kernel
theorem dX2_readJoined_56 : decode cX2_readJoined 56 = .ok (.getfield 31, 3) := by decide +kernel
theorem dX2_readJoined_59 : decode cX2_readJoined 59 = .ok (.iaload, 1) := by decide +kernel
theorem dX2_readJoined_60 : decode cX2_readJoined 60 = .ok (.istore 6, 2) := by decide +kernel
theorem dX2_readJoined_62 : decode cX2_readJoined 62 = .ok (.aload_n 0, 1) := by decide +kernel
theorem dX2_readJoined_63 : decode cX2_readJoined 63 = .ok (.dup, 1) := by decide +kernel
theorem dX2_readJoined_64 : decode cX2_readJoined 64 = .ok (.getfield 31, 3) := by decide +kernel
theorem dX2_readJoined_67 : decode cX2_readJoined 67 = .ok (.iconst 1, 1) := by decide +kernel
theorem dX2_readJoined_68 : decode cX2_readJoined 68 = .ok (.iadd, 1) := by decide +kernel
theorem dX2_readJoined_69 : decode cX2_readJoined 69 = .ok (.putfield 31, 3) := by decide +kernel
theorem dX2_readJoined_72 : decode cX2_readJoined 72 = .ok (.aload_n 0, 1) := by decide +kernel
theorem dX2_readJoined_73 : decode cX2_readJoined 73 = .ok (.iload_n 1, 1) := by decide +kernel
theorem dX2_readJoined_74 : decode cX2_readJoined 74 = .ok (.iconst 1, 1) := by decide +kernel
theorem dX2_readJoined_75 : decode cX2_readJoined 75 = .ok (.iadd, 1) := by decide +kernel
theorem dX2_readJoined_76 : decode cX2_readJoined 76 = .ok (.iload_n 2, 1) := by decide +kernel
theorem dX2_readJoined_77 : decode cX2_readJoined 77 = .ok (.invokevirtual 44, 3) := by decide +kernel
theorem dX2_readJoined_80 : decode cX2_readJoined 80 = .ok (.aload_n 0, 1) := by decide +kernel
theorem dX2_readJoined_81 : decode cX2_readJoined 81 = .ok (.sipush 20000, 3) := by decide +kernel
theorem dX2_readJoined_84 : decode cX2_readJoined 84 = .ok (.iload 6, 2) := by decide +kernel
theorem dX2_readJoined_86 : decode cX2_readJoined 86 = .ok (.iadd, 1) := by decide +kernel
theorem dX2_readJoined_87 : decode cX2_readJoined 87 = .ok (.invokevirtual 75, 3) := by decide +kernel
theorem dX2_readJoined_90 : decode cX2_readJoined 90 = .ok (.iinc 5 1, 3) := by decide +kernel
theorem dX2_readJoined_93 : decode cX2_readJoined 93 = .ok (.goto (-64), 3) := by decide +kernel
theorem dX2_readJoined_96 : decode cX2_readJoined 96 = .ok (.return_, 1) := by decide +kernel
theorem dX2_readOne_0 : decode cX2_readOne 0 = .ok (.aload_n 0, 1) := by decide +kernel
theorem dX2_readOne_1 : decode cX2_readOne 1 = .ok (.ldc 78, 2) := by decide +kernel
theorem dX2_readOne_3 : decode cX2_readOne 3 = .ok (.invokevirtual 69, 3) := by decide +kernel
theorem dX2_readOne_6 : decode cX2_readOne 6 = .ok (.ifCond .eq 11, 3) := by decide +kernel
theorem dX2_readOne_9 : decode cX2_readOne 9 = .ok (.aload_n 0, 1) := by decide +kernel
theorem dX2_readOne_10 : decode cX2_readOne 10 = .ok (.iload_n 1, 1) := by decide +kernel
theorem dX2_readOne_11 : decode cX2_readOne 11 = .ok (.invokevirtual 80, 3) := by decide +kernel
theorem dX2_readOne_14 : decode cX2_readOne 14 = .ok (.goto 71, 3) := by decide +kernel
theorem dX2_readOne_17 : decode cX2_readOne 17 = .ok (.aload_n 0, 1) := by decide +kernel
theorem dX2_readOne_18 : decode cX2_readOne 18 = .ok (.aload_n 0, 1) := by decide +kernel
theorem dX2_readOne_19 : decode cX2_readOne 19 = .ok (.getfield 27, 3) := by decide +kernel
theorem dX2_readOne_22 : decode cX2_readOne 22 = .ok (.invokevirtual 69, 3) := by decide +kernel
theorem dX2_readOne_25 : decode cX2_readOne 25 = .ok (.ifCond .eq 41, 3) := by decide +kernel
theorem dX2_readOne_28 : decode cX2_readOne 28 = .ok (.aload_n 0, 1) := by decide +kernel
theorem dX2_readOne_29 : decode cX2_readOne 29 = .ok (.sipush 10000, 3) := by decide +kernel
theorem dX2_readOne_32 : decode cX2_readOne 32 = .ok (.aload_n 0, 1) := by decide +kernel
theorem dX2_readOne_33 : decode cX2_readOne 33 = .ok (.getfield 27, 3) := by decide +kernel
theorem dX2_readOne_36 : decode cX2_readOne 36 = .ok (.aload_n 0, 1) := by decide +kernel
theorem dX2_readOne_37 : decode cX2_readOne 37 = .ok (.getfield 19, 3) := by decide +kernel
theorem dX2_readOne_40 : decode cX2_readOne 40 = .ok (.aload_n 0, 1) := by decide +kernel
theorem dX2_readOne_41 : decode cX2_readOne 41 = .ok (.getfield 31, 3) := by decide +kernel
theorem dX2_readOne_44 : decode cX2_readOne 44 = .ok (.iaload, 1) := by decide +kernel
theorem dX2_readOne_45 : decode cX2_readOne 45 = .ok (.i2c, 1) := by decide +kernel
theorem dX2_readOne_46 : decode cX2_readOne 46 = .ok (.invokevirtual 83, 3) := by decide +kernel
theorem dX2_readOne_49 : decode cX2_readOne 49 = .ok (.iadd, 1) := by decide +kernel
theorem dX2_readOne_50 : decode cX2_readOne 50 = .ok (.invokevirtual 75, 3) := by decide +kernel
theorem dX2_readOne_53 : decode cX2_readOne 53 = .ok (.aload_n 0, 1) := by decide +kernel
theorem dX2_readOne_54 : decode cX2_readOne 54 = .ok (.dup, 1) := by decide +kernel
theorem dX2_readOne_55 : decode cX2_readOne 55 = .ok (.getfield 31, 3) := by decide +kernel
theorem dX2_readOne_58 : decode cX2_readOne 58 = .ok (.iconst 1, 1) := by decide +kernel
theorem dX2_readOne_59 : decode cX2_readOne 59 = .ok (.iadd, 1) := by decide +kernel
theorem dX2_readOne_60 : decode cX2_readOne 60 = .ok (.putfield 31, 3) := by decide +kernel
theorem dX2_readOne_63 : decode cX2_readOne 63 = .ok (.goto 22, 3) := by decide +kernel
theorem dX2_readOne_66 : decode cX2_readOne 66 = .ok (.aload_n 0, 1) := by decide +kernel
theorem dX2_readOne_67 : decode cX2_readOne 67 = .ok (.invokevirtual 89, 3) := by decide +kernel
theorem dX2_readOne_70 : decode cX2_readOne 70 = .ok (.ifCond .eq 10, 3) := by decide +kernel
theorem dX2_readOne_73 : decode cX2_readOne 73 = .ok (.aload_n 0, 1) := by decide +kernel
theorem dX2_readOne_74 : decode cX2_readOne 74 = .ok (.invokevirtual 93, 3) := by decide +kernel
theorem dX2_readOne_77 : decode cX2_readOne 77 = .ok (.goto 8, 3) := by decide +kernel
theorem dX2_readOne_80 : decode cX2_readOne 80 = .ok (.aload_n 0, 1) := by decide +kernel
theorem dX2_readOne_81 : decode cX2_readOne 81 = .ok (.iconst 1, 1) := by decide +kernel
theorem dX2_readOne_82 : decode cX2_readOne 82 = .ok (.putfield 34, 3) := by decide +kernel
theorem dX2_readOne_85 : decode cX2_readOne 85 = .ok (.return_, 1) := by decide +kernel
theorem dX2_readOpened_0 : decode cX2_readOpened 0 = .ok (.iload_n 1, 1) := by decide +kernel
theorem dX2_readOpened_1 : decode cX2_readOpened 1 = .ok (.iconst 5, 1) := by decide +kernel
theorem dX2_readOpened_2 : decode cX2_readOpened 2 = .ok (.if_icmp .lt 9, 3) := by decide +kernel
theorem dX2_readOpened_5 : decode cX2_readOpened 5 = .ok (.aload_n 0, 1) := by decide +kernel
theorem dX2_readOpened_6 : decode cX2_readOpened 6 = .ok (.iconst 1, 1) := by decide +kernel
theorem dX2_readOpened_7 : decode cX2_readOpened 7 = .ok (.putfield 34, 3) := by decide +kernel
theorem dX2_readOpened_10 : decode cX2_readOpened 10 = .ok (.return_, 1) := by decide +kernel
theorem dX2_readOpened_11 : decode cX2_readOpened 11 = .ok (.aload_n 0, 1) := by decide +kernel
theorem dX2_readOpened_12 : decode cX2_readOpened 12 = .ok (.getfield 19, 3) := by decide +kernel
theorem dX2_readOpened_15 : decode cX2_readOpened 15 = .ok (.aload_n 0, 1) := by decide +kernel
theorem dX2_readOpened_16 : decode cX2_readOpened 16 = .ok (.getfield 31, 3) := by decide +kernel
theorem dX2_readOpened_19 : decode cX2_readOpened 19 = .ok (.iaload, 1) := by decide +kernel
theorem dX2_readOpened_20 : decode cX2_readOpened 20 = .ok (.istore_n 2, 1) := by decide +kernel
theorem dX2_readOpened_21 : decode cX2_readOpened 21 = .ok (.aload_n 0, 1) := by decide +kernel
theorem dX2_readOpened_22 : decode cX2_readOpened 22 = .ok (.dup, 1) := by decide +kernel
theorem dX2_readOpened_23 : decode cX2_readOpened 23 = .ok (.getfield 31, 3) := by decide +kernel
theorem dX2_readOpened_26 : decode cX2_readOpened 26 = .ok (.iconst 1, 1) := by decide +kernel
theorem dX2_readOpened_27 : decode cX2_readOpened 27 = .ok (.iadd, 1) := by decide +kernel
theorem dX2_readOpened_28 : decode cX2_readOpened 28 = .ok (.putfield 31, 3) := by decide +kernel
theorem dX2_readOpened_31 : decode cX2_readOpened 31 = .ok (.iload_n 2, 1) := by decide +kernel
theorem dX2_readOpened_32 : decode cX2_readOpened 32 = .ok (.bipush 33, 2) := by decide +kernel
theorem dX2_readOpened_34 : decode cX2_readOpened 34 = .ok (.if_icmp .ne 20, 3) := by decide +kernel
theorem dX2_readOpened_37 : decode cX2_readOpened 37 = .ok (.aload_n 0, 1) := by decide +kernel
theorem dX2_readOpened_38 : decode cX2_readOpened 38 = .ok (.iload_n 1, 1) := by decide +kernel
theorem dX2_readOpened_39 : decode cX2_readOpened 39 = .ok (.iconst 1, 1) := by decide +kernel
theorem dX2_readOpened_40 : decode cX2_readOpened 40 = .ok (.iadd, 1) := by decide +kernel
theorem dX2_readOpened_41 : decode cX2_readOpened 41 = .ok (.invokevirtual 61, 3) := by decide +kernel
theorem dX2_readOpened_44 : decode cX2_readOpened 44 = .ok (.aload_n 0, 1) := by decide +kernel
theorem dX2_readOpened_45 : decode cX2_readOpened 45 = .ok (.sipush 20000, 3) := by decide +kernel
theorem dX2_readOpened_48 : decode cX2_readOpened 48 = .ok (.iload_n 2, 1) := by decide +kernel
theorem dX2_readOpened_49 : decode cX2_readOpened 49 = .ok (.iadd, 1) := by decide +kernel
theorem dX2_readOpened_50 : decode cX2_readOpened 50 = .ok (.invokevirtual 75, 3) := by decide +kernel
theorem dX2_readOpened_53 : decode cX2_readOpened 53 = .ok (.return_, 1) := by decide +kernel
theorem dX2_readOpened_54 : decode cX2_readOpened 54 = .ok (.aload_n 0, 1) := by decide +kernel
theorem dX2_readOpened_55 : decode cX2_readOpened 55 = .ok (.iconst 0, 1) := by decide +kernel
theorem dX2_readOpened_56 : decode cX2_readOpened 56 = .ok (.iload_n 1, 1) := by decide +kernel
theorem dX2_readOpened_57 : decode cX2_readOpened 57 = .ok (.iconst 1, 1) := by decide +kernel
theorem dX2_readOpened_58 : decode cX2_readOpened 58 = .ok (.iadd, 1) := by decide +kernel
theorem dX2_readOpened_59 : decode cX2_readOpened 59 = .ok (.invokevirtual 44, 3) := by decide +kernel
theorem dX2_readOpened_62 : decode cX2_readOpened 62 = .ok (.aload_n 0, 1) := by decide +kernel
theorem dX2_readOpened_63 : decode cX2_readOpened 63 = .ok (.getfield 34, 3) := by decide +kernel
theorem dX2_readOpened_66 : decode cX2_readOpened 66 = .ok (.ifCond .ne 25, 3) := by decide +kernel
theorem dX2_readOpened_69 : decode cX2_readOpened 69 = .ok (.aload_n 0, 1) := by decide +kernel
theorem dX2_readOpened_70 : decode cX2_readOpened 70 = .ok (.ldc 96, 2) := by decide +kernel
theorem dX2_readOpened_72 : decode cX2_readOpened 72 = .ok (.invokevirtual 69, 3) := by decide +kernel
theorem dX2_readOpened_75 : decode cX2_readOpened 75 = .ok (.ifCond .eq 16, 3) := by decide +kernel
theorem dX2_readOpened_78 : decode cX2_readOpened 78 = .ok (.aload_n 0, 1) := by decide +kernel
theorem dX2_readOpened_79 : decode cX2_readOpened 79 = .ok (.dup, 1) := by decide +kernel
theorem dX2_readOpened_80 : decode cX2_readOpened 80 = .ok (.getfield 31, 3) := by decide +kernel
theorem dX2_readOpened_83 : decode cX2_readOpened 83 = .ok (.iconst 1, 1) := by decide +kernel
theorem dX2_readOpened_84 : decode cX2_readOpened 84 = .ok (.iadd, 1) := by decide +kernel
theorem dX2_readOpened_85 : decode cX2_readOpened 85 = .ok (.putfield 31, 3) := by decide +kernel
theorem dX2_readOpened_88 : decode cX2_readOpened 88 = .ok (.goto 8, 3) := by decide +kernel
theorem dX2_readOpened_91 : decode cX2_readOpened 91 = .ok (.aload_n 0, 1) := by decide +kernel
theorem dX2_readOpened_92 : decode cX2_readOpened 92 = .ok (.iconst 1, 1) := by decide +kernel
theorem dX2_readOpened_93 : decode cX2_readOpened 93 = .ok (.putfield 34, 3) := by decide +kernel
theorem dX2_readOpened_96 : decode cX2_readOpened 96 = .ok (.return_, 1) := by decide +kernel
theorem dX2_readNumber_0 : decode cX2_readNumber 0 = .ok (.iconst 0, 1) := by decide +kernel
theorem dX2_readNumber_1 : decode cX2_readNumber 1 = .ok (.istore_n 1, 1) := by decide +kernel
theorem dX2_readNumber_2 : decode cX2_readNumber 2 = .ok (.iconst 0, 1) := by decide +kernel
theorem dX2_readNumber_3 : decode cX2_readNumber 3 = .ok (.istore_n 2, 1) := by decide +kernel
theorem dX2_readNumber_4 : decode cX2_readNumber 4 = .ok (.iload_n 2, 1) := by decide +kernel
theorem dX2_readNumber_5 : decode cX2_readNumber 5 = .ok (.iconst 4, 1) := by decide +kernel
theorem dX2_readNumber_6 : decode cX2_readNumber 6 = .ok (.if_icmp .ge 44, 3) := by decide +kernel
theorem dX2_readNumber_9 : decode cX2_readNumber 9 = .ok (.aload_n 0, 1) := by decide +kernel
theorem dX2_readNumber_10 : decode cX2_readNumber 10 = .ok (.invokevirtual 89, 3) := by decide +kernel
theorem dX2_readNumber_13 : decode cX2_readNumber 13 = .ok (.ifCond .eq 37, 3) := by decide +kernel
theorem dX2_readNumber_16 : decode cX2_readNumber 16 = .ok (.bipush 10, 2) := by decide +kernel
theorem dX2_readNumber_18 : decode cX2_readNumber 18 = .ok (.iload_n 1, 1) := by decide +kernel
theorem dX2_readNumber_19 : decode cX2_readNumber 19 = .ok (.imul, 1) := by decide +kernel
theorem dX2_readNumber_20 : decode cX2_readNumber 20 = .ok (.aload_n 0, 1) := by decide +kernel
theorem dX2_readNumber_21 : decode cX2_readNumber 21 = .ok (.getfield 19, 3) := by decide +kernel
theorem dX2_readNumber_24 : decode cX2_readNumber 24 = .ok (.aload_n 0, 1) := by decide +kernel
theorem dX2_readNumber_25 : decode cX2_readNumber 25 = .ok (.getfield 31, 3) := by decide +kernel
theorem dX2_readNumber_28 : decode cX2_readNumber 28 = .ok (.iaload, 1) := by decide +kernel
theorem dX2_readNumber_29 : decode cX2_readNumber 29 = .ok (.iadd, 1) := by decide +kernel
theorem dX2_readNumber_30 : decode cX2_readNumber 30 = .ok (.bipush 48, 2) := by decide +kernel
theorem dX2_readNumber_32 : decode cX2_readNumber 32 = .ok (.isub, 1) := by decide +kernel
theorem dX2_readNumber_33 : decode cX2_readNumber 33 = .ok (.istore_n 1, 1) := by decide +kernel
theorem dX2_readNumber_34 : decode cX2_readNumber 34 = .ok (.aload_n 0, 1) := by decide +kernel
theorem dX2_readNumber_35 : decode cX2_readNumber 35 = .ok (.dup, 1) := by decide +kernel
theorem dX2_readNumber_36 : decode cX2_readNumber 36 = .ok (.getfield 31, 3) := by decide +kernel
theorem dX2_readNumber_39 : decode cX2_readNumber 39 = .ok (.iconst 1, 1) := by decide +kernel
theorem dX2_readNumber_40 : decode cX2_readNumber 40 = .ok (.iadd, 1) := by decide +kernel
theorem dX2_readNumber_41 : decode cX2_readNumber 41 = .ok (.putfield 31, 3) := by decide +kernel
theorem dX2_readNumber_44 : decode cX2_readNumber 44 = .ok (.iinc 2 1, 3) := by decide +kernel
theorem dX2_readNumber_47 : decode cX2_readNumber 47 = .ok (.goto (-43), 3) := by decide +kernel
theorem dX2_readNumber_50 : decode cX2_readNumber 50 = .ok (.aload_n 0, 1) := by decide +kernel
theorem dX2_readNumber_51 : decode cX2_readNumber 51 = .ok (.iload_n 1, 1) := by decide +kernel
theorem dX2_readNumber_52 : decode cX2_readNumber 52 = .ok (.invokevirtual 75, 3) := by decide +kernel
theorem dX2_readNumber_55 : decode cX2_readNumber 55 = .ok (.return_, 1) := by decide +kernel
theorem dX2_isNextDigit_0 : decode cX2_isNextDigit 0 = .ok (.aload_n 0, 1) := by decide +kernel
theorem dX2_isNextDigit_1 : decode cX2_isNextDigit 1 = .ok (.getfield 31, 3) := by decide +kernel
theorem dX2_isNextDigit_4 : decode cX2_isNextDigit 4 = .ok (.aload_n 0, 1) := by decide +kernel
theorem dX2_isNextDigit_5 : decode cX2_isNextDigit 5 = .ok (.getfield 22, 3) := by decide +kernel
theorem dX2_isNextDigit_8 : decode cX2_isNextDigit 8 = .ok (.if_icmp .ge 35, 3) := by decide +kernel
theorem dX2_isNextDigit_11 : decode cX2_isNextDigit 11 = .ok (.aload_n 0, 1) := by decide +kernel
theorem dX2_isNextDigit_12 : decode cX2_isNextDigit 12 = .ok (.getfield 19, 3) := by decide +kernel
theorem dX2_isNextDigit_15 : decode cX2_isNextDigit 15 = .ok (.aload_n 0, 1) := by decide +kernel
theorem dX2_isNextDigit_16 : decode cX2_isNextDigit 16 = .ok (.getfield 31, 3) := by decide +kernel
theorem dX2_isNextDigit_19 : decode cX2_isNextDigit 19 = .ok (.iaload, 1) := by decide +kernel
theorem dX2_isNextDigit_20 : decode cX2_isNextDigit 20 = .ok (.bipush 48, 2) := by decide +kernel
theorem dX2_isNextDigit_22 : decode cX2_isNextDigit 22 = .ok (.if_icmp .lt 21, 3) := by decide +kernel
theorem dX2_isNextDigit_25 : decode cX2_isNextDigit 25 = .ok (.aload_n 0, 1) := by decide +kernel
theorem dX2_isNextDigit_26 : decode cX2_isNextDigit 26 = .ok (.getfield 19, 3) := by decide +kernel
theorem dX2_isNextDigit_29 : decode cX2_isNextDigit 29 = .ok (.aload_n 0, 1) := by decide +kernel
theorem dX2_isNextDigit_30 : decode cX2_isNextDigit 30 = .ok (.getfield 31, 3) := by decide +kernel
theorem dX2_isNextDigit_33 : decode cX2_isNextDigit 33 = .ok (.iaload, 1) := by decide +kernel
theorem dX2_isNextDigit_34 : decode cX2_isNextDigit 34 = .ok (.bipush 57, 2) := by decide +kernel
theorem dX2_isNextDigit_36 : decode cX2_isNextDigit 36 = .ok (.if_icmp .gt 7, 3) := by decide +kernel
theorem dX2_isNextDigit_39 : decode cX2_isNextDigit 39 = .ok (.iconst 1, 1) := by decide +kernel
theorem dX2_isNextDigit_40 : decode cX2_isNextDigit 40 = .ok (.goto 4, 3) := by decide +kernel
theorem dX2_isNextDigit_43 : decode cX2_isNextDigit 43 = .ok (.iconst 0, 1) := by decide +kernel
theorem dX2_isNextDigit_44 : decode cX2_isNextDigit 44 = .ok (.ireturn, 1) := by decide +kernel
theorem dX2_isNextOf_0 : decode cX2_isNextOf 0 = .ok (.aload_n 0, 1) := by decide +kernel
theorem dX2_isNextOf_1 : decode cX2_isNextOf 1 = .ok (.getfield 31, 3) := by decide +kernel
theorem dX2_isNextOf_4 : decode cX2_isNextOf 4 = .ok (.aload_n 0, 1) := by decide +kernel
theorem dX2_isNextOf_5 : decode cX2_isNextOf 5 = .ok (.getfield 22, 3) := by decide +kernel
theorem dX2_isNextOf_8 : decode cX2_isNextOf 8 = .ok (.if_icmp .ge 24, 3) := by decide +kernel
theorem dX2_isNextOf_11 : decode cX2_isNextOf 11 = .ok (.aload_n 1, 1) := by decide +kernel
theorem dX2_isNextOf_12 : decode cX2_isNextOf 12 = .ok (.aload_n 0, 1) := by decide +kernel
theorem dX2_isNextOf_13 : decode cX2_isNextOf 13 = .ok (.getfield 19, 3) := by decide +kernel
theorem dX2_isNextOf_16 : decode cX2_isNextOf 16 = .ok (.aload_n 0, 1) := by decide +kernel
theorem dX2_isNextOf_17 : decode cX2_isNextOf 17 = .ok (.getfield 31, 3) := by decide +kernel
theorem dX2_isNextOf_20 : decode cX2_isNextOf 20 = .ok (.iaload, 1) := by decide +kernel
theorem dX2_isNextOf_21 : decode cX2_isNextOf 21 = .ok (.i2c, 1) := by decide +kernel
theorem dX2_isNextOf_22 : decode cX2_isNextOf 22 = .ok (.invokevirtual 83, 3) := by decide +kernel
theorem dX2_isNextOf_25 : decode cX2_isNextOf 25 = .ok (.ifCond .lt 7, 3) := by decide +kernel
theorem dX2_isNextOf_28 : decode cX2_isNextOf 28 = .ok (.iconst 1, 1) := by decide +kernel
theorem dX2_isNextOf_29 : decode cX2_isNextOf 29 = .ok (.goto 4, 3) := by decide +kernel
theorem dX2_isNextOf_32 : decode cX2_isNextOf 32 = .ok (.iconst 0, 1) := by decide +kernel
theorem dX2_isNextOf_33 : decode cX2_isNextOf 33 = .ok (.ireturn, 1) := by decide +kernel
theorem dX2_write_0 : decode cX2_write 0 = .ok (.aload_n 0, 1) := by decide +kernel
theorem dX2_write_1 : decode cX2_write 1 = .ok (.getfield 15, 3) := by decide +kernel
theorem dX2_write_4 : decode cX2_write 4 = .ok (.aload_n 0, 1) := by decide +kernel
theorem dX2_write_5 : decode cX2_write 5 = .ok (.getfield 9, 3) := by decide +kernel
theorem dX2_write_8 : decode cX2_write 8 = .ok (.arraylength, 1) := by decide +kernel
theorem dX2_write_9 : decode cX2_write 9 = .ok (.if_icmp .ge 23, 3) := by decide +kernel
theorem dX2_write_12 : decode cX2_write 12 = .ok (.aload_n 0, 1) := by decide +kernel
theorem dX2_write_13 : decode cX2_write 13 = .ok (.getfield 9, 3) := by decide +kernel
theorem dX2_write_16 : decode cX2_write 16 = .ok (.aload_n 0, 1) := by decide +kernel
theorem dX2_write_17 : decode cX2_write 17 = .ok (.getfield 15, 3) := by decide +kernel
theorem dX2_write_20 : decode cX2_write 20 = .ok (.iload_n 1, 1) := by decide +kernel
theorem dX2_write_21 : decode cX2_write 21 = .ok (.iastore, 1) := by decide +kernel
theorem dX2_write_22 : decode cX2_write 22 = .ok (.aload_n 0, 1) := by decide +kernel
theorem dX2_write_23 : decode cX2_write 23 = .ok (.dup, 1) := by decide +kernel
theorem dX2_write_24 : decode cX2_write 24 = .ok (.getfield 15, 3) := by decide +kernel
theorem dX2_write_27 : decode cX2_write 27 = .ok (.iconst 1, 1) := by decide +kernel
theorem dX2_write_28 : decode cX2_write 28 = .ok (.iadd, 1) := by decide +kernel
theorem dX2_write_29 : decode cX2_write 29 = .ok (.putfield 15, 3) := by decide +kernel
theorem dX2_write_32 : decode cX2_write 32 = .ok (.return_, 1) := by decide +kernel
theorem dX3_init_0 : decode cX3_init 0 = .ok (.aload_n 0, 1) := by decide +kernel
theorem dX3_init_1 : decode cX3_init 1 = .ok (.invokespecial 3, 3) := by decide +kernel
theorem dX3_init_4 : decode cX3_init 4 = .ok (.aload_n 0, 1) := by decide +kernel
theorem dX3_init_5 : decode cX3_init 5 = .ok (.bipush 10, 2) := by decide +kernel
theorem dX3_init_7 : decode cX3_init 7 = .ok (.newarray .int, 2) := by decide +kernel
theorem dX3_init_9 : decode cX3_init 9 = .ok (.putfield 9, 3) := by decide +kernel
theorem dX3_init_12 : decode cX3_init 12 = .ok (.aload_n 0, 1) := by decide +kernel
theorem dX3_init_13 : decode cX3_init 13 = .ok (.bipush 100, 2) := by decide +kernel
theorem dX3_init_15 : decode cX3_init 15 = .ok (.newarray .int, 2) := by decide +kernel
theorem dX3_init_17 : decode cX3_init 17 = .ok (.putfield 15, 3) := by decide +kernel
theorem dX3_init_20 : decode cX3_init 20 = .ok (.aload_n 0, 1) := by decide +kernel
theorem dX3_init_21 : decode cX3_init 21 = .ok (.invokevirtual 18, 3) := by decide +kernel
theorem dX3_init_24 : decode cX3_init 24 = .ok (.return_, 1) := by decide +kernel
theorem dX3_copy_0 : decode cX3_copy 0 = .ok (.aload_n 1, 1) := by decide +kernel
theorem dX3_copy_1 : decode cX3_copy 1 = .ok (.getfield 9, 3) := by decide +kernel
theorem dX3_copy_4 : decode cX3_copy 4 = .ok (.iconst 0, 1) := by decide +kernel
theorem dX3_copy_5 : decode cX3_copy 5 = .ok (.aload_n 0, 1) := by decide +kernel
theorem dX3_copy_6 : decode cX3_copy 6 = .ok (.getfield 9, 3) := by decide +kernel
theorem dX3_copy_9 : decode cX3_copy 9 = .ok (.iconst 0, 1) := by decide +kernel
theorem dX3_copy_10 : decode cX3_copy 10 = .ok (.bipush 10, 2) := by decide +kernel
theorem dX3_copy_12 : decode cX3_copy 12 = .ok (.invokestatic 21, 3) := by decide +kernel
theorem dX3_copy_15 : decode cX3_copy 15 = .ok (.aload_n 1, 1) := by decide +kernel
theorem dX3_copy_16 : decode cX3_copy 16 = .ok (.getfield 15, 3) := by decide +kernel
theorem dX3_copy_19 : decode cX3_copy 19 = .ok (.iconst 0, 1) := by decide +kernel
theorem dX3_copy_20 : decode cX3_copy 20 = .ok (.aload_n 0, 1) := by decide +kernel
theorem dX3_copy_21 : decode cX3_copy 21 = .ok (.getfield 15, 3) := by decide +kernel
theorem dX3_copy_24 : decode cX3_copy 24 = .ok (.iconst 0, 1) := by decide +kernel
theorem dX3_copy_25 : decode cX3_copy 25 = .ok (.bipush 100, 2) := by decide +kernel
theorem dX3_copy_27 : decode cX3_copy 27 = .ok (.invokestatic 21, 3) := by decide +kernel
theorem dX3_copy_30 : decode cX3_copy 30 = .ok (.return_, 1) := by decide +kernel
theorem dX3_isOpen_0 : decode cX3_isOpen 0 = .ok (.aload_n 0, 1) := by decide +kernel
theorem dX3_isOpen_1 : decode cX3_isOpen 1 = .ok (.getfield 9, 3) := by decide +kernel
theorem dX3_isOpen_4 : decode cX3_isOpen 4 = .ok (.iload_n 1, 1) := by decide +kernel
theorem dX3_isOpen_5 : decode cX3_isOpen 5 = .ok (.iaload, 1) := by decide +kernel
theorem dX3_isOpen_6 : decode cX3_isOpen 6 = .ok (.iload_n 2, 1) := by decide +kernel
theorem dX3_isOpen_7 : decode cX3_isOpen 7 = .ok (.ishr, 1) := by decide +kernel
theorem dX3_isOpen_8 : decode cX3_isOpen 8 = .ok (.iconst 1, 1) := by decide +kernel
theorem dX3_isOpen_9 : decode cX3_isOpen 9 = .ok (.iand, 1) := by decide +kernel
theorem dX3_isOpen_10 : decode cX3_isOpen 10 = .ok (.iconst 1, 1) := by decide +kernel
theorem dX3_isOpen_11 : decode cX3_isOpen 11 = .ok (.if_icmp .ne 7, 3) := by decide +kernel
theorem dX3_isOpen_14 : decode cX3_isOpen 14 = .ok (.iconst 1, 1) := by decide +kernel
theorem dX3_isOpen_15 : decode cX3_isOpen 15 = .ok (.goto 4, 3) := by decide +kernel
theorem dX3_isOpen_18 : decode cX3_isOpen 18 = .ok (.iconst 0, 1) := by decide +kernel
theorem dX3_isOpen_19 : decode cX3_isOpen 19 = .ok (.ireturn, 1) := by decide +kernel
theorem dX3_leads_0 : decode cX3_leads 0 = .ok (.aload_n 0, 1) := by decide +kernel
theorem dX3_leads_1 : decode cX3_leads 1 = .ok (.getfield 15, 3) := by decide +kernel
theorem dX3_leads_4 : decode cX3_leads 4 = .ok (.iload_n 1, 1) := by decide +kernel
theorem dX3_leads_5 : decode cX3_leads 5 = .ok (.bipush 10, 2) := by decide +kernel
theorem dX3_leads_7 : decode cX3_leads 7 = .ok (.imul, 1) := by decide +kernel
theorem dX3_leads_8 : decode cX3_leads 8 = .ok (.iload_n 2, 1) := by decide +kernel
theorem dX3_leads_9 : decode cX3_leads 9 = .ok (.iadd, 1) := by decide +kernel
theorem dX3_leads_10 : decode cX3_leads 10 = .ok (.iaload, 1) := by decide +kernel
theorem dX3_leads_11 : decode cX3_leads 11 = .ok (.bipush 99, 2) := by decide +kernel
theorem dX3_leads_13 : decode cX3_leads 13 = .ok (.if_icmp .ge 7, 3) := by decide +kernel
theorem dX3_leads_16 : decode cX3_leads 16 = .ok (.iconst 1, 1) := by decide +kernel
theorem dX3_leads_17 : decode cX3_leads 17 = .ok (.goto 4, 3) := by decide +kernel
theorem dX3_leads_20 : decode cX3_leads 20 = .ok (.iconst 0, 1) := by decide +kernel
theorem dX3_leads_21 : decode cX3_leads 21 = .ok (.ireturn, 1) := by decide +kernel
theorem dX3_between_0 : decode cX3_between 0 = .ok (.aload_n 0, 1) := by decide +kernel
theorem dX3_between_1 : decode cX3_between 1 = .ok (.getfield 15, 3) := by decide +kernel
theorem dX3_between_4 : decode cX3_between 4 = .ok (.iload_n 1, 1) := by decide +kernel
theorem dX3_between_5 : decode cX3_between 5 = .ok (.bipush 10, 2) := by decide +kernel
theorem dX3_between_7 : decode cX3_between 7 = .ok (.imul, 1) := by decide +kernel
theorem dX3_between_8 : decode cX3_between 8 = .ok (.iload_n 2, 1) := by decide +kernel
theorem dX3_between_9 : decode cX3_between 9 = .ok (.iadd, 1) := by decide +kernel
theorem dX3_between_10 : decode cX3_between 10 = .ok (.iaload, 1) := by decide +kernel
theorem dX3_between_11 : decode cX3_between 11 = .ok (.ireturn, 1) := by decide +kernel
theorem dX3_join_0 : decode cX3_join 0 = .ok (.aload_n 0, 1) := by decide +kernel
theorem dX3_join_1 : decode cX3_join 1 = .ok (.getfield 9, 3) := by decide +kernel
theorem dX3_join_4 : decode cX3_join 4 = .ok (.iload_n 1, 1) := by decide +kernel
theorem dX3_join_5 : decode cX3_join 5 = .ok (.dup2, 1) := by decide +kernel
theorem dX3_join_6 : decode cX3_join 6 = .ok (.iaload, 1) := by decide +kernel
theorem dX3_join_7 : decode cX3_join 7 = .ok (.iconst 1, 1) := by decide +kernel
theorem dX3_join_8 : decode cX3_join 8 = .ok (.iload_n 2, 1) := by decide +kernel
theorem dX3_join_9 : decode cX3_join 9 = .ok (.ishl, 1) := by decide +kernel
theorem dX3_join_10 : decode cX3_join 10 = .ok (.ior, 1) := by decide +kernel
theorem dX3_join_11 : decode cX3_join 11 = .ok (.iastore, 1) := by decide +kernel
theorem dX3_join_12 : decode cX3_join 12 = .ok (.aload_n 0, 1) := by decide +kernel
theorem dX3_join_13 : decode cX3_join 13 = .ok (.getfield 9, 3) := by decide +kernel
theorem dX3_join_16 : decode cX3_join 16 = .ok (.iload_n 2, 1) := by decide +kernel
theorem dX3_join_17 : decode cX3_join 17 = .ok (.dup2, 1) := by decide +kernel
theorem dX3_join_18 : decode cX3_join 18 = .ok (.iaload, 1) := by decide +kernel
theorem dX3_join_19 : decode cX3_join 19 = .ok (.iconst 1, 1) := by decide +kernel
theorem dX3_join_20 : decode cX3_join 20 = .ok (.iload_n 1, 1) := by decide +kernel
theorem dX3_join_21 : decode cX3_join 21 = .ok (.ishl, 1) := by decide +kernel
theorem dX3_join_22 : decode cX3_join 22 = .ok (.ior, 1) := by decide +kernel
theorem dX3_join_23 : decode cX3_join 23 = .ok (.iastore, 1) := by decide +kernel
theorem dX3_join_24 : decode cX3_join 24 = .ok (.aload_n 0, 1) := by decide +kernel
theorem dX3_join_25 : decode cX3_join 25 = .ok (.iload_n 1, 1) := by decide +kernel
theorem dX3_join_26 : decode cX3_join 26 = .ok (.iload_n 2, 1) := by decide +kernel
theorem dX3_join_27 : decode cX3_join 27 = .ok (.invokevirtual 27, 3) := by decide +kernel
theorem dX3_join_30 : decode cX3_join 30 = .ok (.return_, 1) := by decide +kernel
theorem dX3_shut_0 : decode cX3_shut 0 = .ok (.aload_n 0, 1) := by decide +kernel
theorem dX3_shut_1 : decode cX3_shut 1 = .ok (.getfield 9, 3) := by decide +kernel
theorem dX3_shut_4 : decode cX3_shut 4 = .ok (.iload_n 1, 1) := by decide +kernel
theorem dX3_shut_5 : decode cX3_shut 5 = .ok (.dup2, 1) := by decide +kernel
theorem dX3_shut_6 : decode cX3_shut 6 = .ok (.iaload, 1) := by decide +kernel
theorem dX3_shut_7 : decode cX3_shut 7 = .ok (.iconst 1, 1) := by decide +kernel
theorem dX3_shut_8 : decode cX3_shut 8 = .ok (.iload_n 2, 1) := by decide +kernel
theorem dX3_shut_9 : decode cX3_shut 9 = .ok (.ishl, 1) := by decide +kernel
theorem dX3_shut_10 : decode cX3_shut 10 = .ok (.iconst (-1), 1) := by decide +kernel
theorem dX3_shut_11 : decode cX3_shut 11 = .ok (.ixor, 1) := by decide +kernel
theorem dX3_shut_12 : decode cX3_shut 12 = .ok (.iand, 1) := by decide +kernel
theorem dX3_shut_13 : decode cX3_shut 13 = .ok (.iastore, 1) := by decide +kernel
theorem dX3_shut_14 : decode cX3_shut 14 = .ok (.aload_n 0, 1) := by decide +kernel
theorem dX3_shut_15 : decode cX3_shut 15 = .ok (.getfield 9, 3) := by decide +kernel
theorem dX3_shut_18 : decode cX3_shut 18 = .ok (.iload_n 2, 1) := by decide +kernel
theorem dX3_shut_19 : decode cX3_shut 19 = .ok (.dup2, 1) := by decide +kernel
theorem dX3_shut_20 : decode cX3_shut 20 = .ok (.iaload, 1) := by decide +kernel
theorem dX3_shut_21 : decode cX3_shut 21 = .ok (.iconst 1, 1) := by decide +kernel
theorem dX3_shut_22 : decode cX3_shut 22 = .ok (.iload_n 1, 1) := by decide +kernel
theorem dX3_shut_23 : decode cX3_shut 23 = .ok (.ishl, 1) := by decide +kernel
theorem dX3_shut_24 : decode cX3_shut 24 = .ok (.iconst (-1), 1) := by decide +kernel
theorem dX3_shut_25 : decode cX3_shut 25 = .ok (.ixor, 1) := by decide +kernel
theorem dX3_shut_26 : decode cX3_shut 26 = .ok (.iand, 1) := by decide +kernel
theorem dX3_shut_27 : decode cX3_shut 27 = .ok (.iastore, 1) := by decide +kernel
theorem dX3_shut_28 : decode cX3_shut 28 = .ok (.aload_n 0, 1) := by decide +kernel
theorem dX3_shut_29 : decode cX3_shut 29 = .ok (.invokevirtual 18, 3) := by decide +kernel
theorem dX3_shut_32 : decode cX3_shut 32 = .ok (.return_, 1) := by decide +kernel
theorem dX3_measure_0 : decode cX3_measure 0 = .ok (.iconst 0, 1) := by decide +kernel
theorem dX3_measure_1 : decode cX3_measure 1 = .ok (.istore_n 1, 1) := by decide +kernel
theorem dX3_measure_2 : decode cX3_measure 2 = .ok (.iload_n 1, 1) := by decide +kernel
theorem dX3_measure_3 : decode cX3_measure 3 = .ok (.aload_n 0, 1) := by decide +kernel
theorem dX3_measure_4 : decode cX3_measure 4 = .ok (.getfield 15, 3) := by decide +kernel
theorem dX3_measure_7 : decode cX3_measure 7 = .ok (.arraylength, 1) := by decide +kernel
theorem dX3_measure_8 : decode cX3_measure 8 = .ok (.if_icmp .ge 32, 3) := by decide +kernel
theorem dX3_measure_11 : decode cX3_measure 11 = .ok (.aload_n 0, 1) := by decide +kernel
theorem dX3_measure_12 : decode cX3_measure 12 = .ok (.getfield 15, 3) := by decide +kernel
theorem dX3_measure_15 : decode cX3_measure 15 = .ok (.iload_n 1, 1) := by decide +kernel
theorem dX3_measure_16 : decode cX3_measure 16 = .ok (.iload_n 1, 1) := by decide +kernel
theorem dX3_measure_17 : decode cX3_measure 17 = .ok (.bipush 10, 2) := by decide +kernel
theorem dX3_measure_19 : decode cX3_measure 19 = .ok (.idiv, 1) := by decide +kernel
theorem dX3_measure_20 : decode cX3_measure 20 = .ok (.iload_n 1, 1) := by decide +kernel
theorem dX3_measure_21 : decode cX3_measure 21 = .ok (.bipush 10, 2) := by decide +kernel
theorem dX3_measure_23 : decode cX3_measure 23 = .ok (.irem, 1) := by decide +kernel
theorem dX3_measure_24 : decode cX3_measure 24 = .ok (.if_icmp .ne 7, 3) := by decide +kernel
theorem dX3_measure_27 : decode cX3_measure 27 = .ok (.iconst 0, 1) := by decide +kernel
theorem dX3_measure_28 : decode cX3_measure 28 = .ok (.goto 5, 3) := by decide +kernel
theorem dX3_measure_31 : decode cX3_measure 31 = .ok (.bipush 99, 2) := by decide +kernel
theorem dX3_measure_33 : decode cX3_measure 33 = .ok (.iastore, 1) := by decide +kernel
theorem dX3_measure_34 : decode cX3_measure 34 = .ok (.iinc 1 1, 3) := by decide +kernel
theorem dX3_measure_37 : decode cX3_measure 37 = .ok (.goto (-35), 3) := by decide +kernel
theorem dX3_measure_40 : decode cX3_measure 40 = .ok (.iconst 0, 1) := by decide +kernel
theorem dX3_measure_41 : decode cX3_measure 41 = .ok (.istore_n 1, 1) := by decide +kernel
theorem dX3_measure_42 : decode cX3_measure 42 = .ok (.iload_n 1, 1) := by decide +kernel
theorem dX3_measure_43 : decode cX3_measure 43 = .ok (.bipush 10, 2) := by decide +kernel
theorem dX3_measure_45 : decode cX3_measure 45 = .ok (.if_icmp .ge 40, 3) := by decide +kernel
theorem dX3_measure_48 : decode cX3_measure 48 = .ok (.iload_n 1, 1) := by decide +kernel
theorem dX3_measure_49 : decode cX3_measure 49 = .ok (.iconst 1, 1) := by decide +kernel
theorem dX3_measure_50 : decode cX3_measure 50 = .ok (.iadd, 1) := by decide +kernel
theorem dX3_measure_51 : decode cX3_measure 51 = .ok (.istore_n 2, 1) := by decide +kernel
theorem dX3_measure_52 : decode cX3_measure 52 = .ok (.iload_n 2, 1) := by decide +kernel
theorem dX3_measure_53 : decode cX3_measure 53 = .ok (.bipush 10, 2) := by decide +kernel
theorem dX3_measure_55 : decode cX3_measure 55 = .ok (.if_icmp .ge 24, 3) := by decide +kernel
theorem dX3_measure_58 : decode cX3_measure 58 = .ok (.aload_n 0, 1) := by decide +kernel
theorem dX3_measure_59 : decode cX3_measure 59 = .ok (.iload_n 1, 1) := by decide +kernel
theorem dX3_measure_60 : decode cX3_measure 60 = .ok (.iload_n 2, 1) := by decide +kernel
theorem dX3_measure_61 : decode cX3_measure 61 = .ok (.invokevirtual 31, 3) := by decide +kernel
theorem dX3_measure_64 : decode cX3_measure 64 = .ok (.ifCond .eq 9, 3) := by decide +kernel
theorem dX3_measure_67 : decode cX3_measure 67 = .ok (.aload_n 0, 1) := by decide +kernel
theorem dX3_measure_68 : decode cX3_measure 68 = .ok (.iload_n 1, 1) := by decide +kernel
theorem dX3_measure_69 : decode cX3_measure 69 = .ok (.iload_n 2, 1) := by decide +kernel
theorem dX3_measure_70 : decode cX3_measure 70 = .ok (.invokevirtual 27, 3) := by decide +kernel
theorem dX3_measure_73 : decode cX3_measure 73 = .ok (.iinc 2 1, 3) := by decide +kernel
theorem dX3_measure_76 : decode cX3_measure 76 = .ok (.goto (-24), 3) := by decide +kernel
theorem dX3_measure_79 : decode cX3_measure 79 = .ok (.iinc 1 1, 3) := by decide +kernel
theorem dX3_measure_82 : decode cX3_measure 82 = .ok (.goto (-40), 3) := by decide +kernel
theorem dX3_measure_85 : decode cX3_measure 85 = .ok (.return_, 1) := by decide +kernel
theorem dX3_shorten_0 : decode cX3_shorten 0 = .ok (.iconst 0, 1) := by decide +kernel
theorem dX3_shorten_1 : decode cX3_shorten 1 = .ok (.istore_n 3, 1) := by decide +kernel
theorem dX3_shorten_2 : decode cX3_shorten 2 = .ok (.iload_n 3, 1) := by decide +kernel
theorem dX3_shorten_3 : decode cX3_shorten 3 = .ok (.bipush 10, 2) := by decide +kernel
theorem dX3_shorten_5 : decode cX3_shorten 5 = .ok (.if_icmp .ge 90, 3) := by decide +kernel
theorem dX3_shorten_8 : decode cX3_shorten 8 = .ok (.iconst 0, 1) := by decide +kernel
theorem dX3_shorten_9 : decode cX3_shorten 9 = .ok (.istore 4, 2) := by decide +kernel
theorem dX3_shorten_11 : decode cX3_shorten 11 = .ok (.iload 4, 2) := by decide +kernel
theorem dX3_shorten_13 : decode cX3_shorten 13 = .ok (.bipush 10, 2) := by decide +kernel
theorem dX3_shorten_15 : decode cX3_shorten 15 = .ok (.if_icmp .ge 74, 3) := by decide +kernel
theorem dX3_shorten_18 : decode cX3_shorten 18 = .ok (.aload_n 0, 1) := by decide +kernel
theorem dX3_shorten_19 : decode cX3_shorten 19 = .ok (.iload_n 3, 1) := by decide +kernel
theorem dX3_shorten_20 : decode cX3_shorten 20 = .ok (.iload_n 1, 1) := by decide +kernel
theorem dX3_shorten_21 : decode cX3_shorten 21 = .ok (.invokevirtual 35, 3) := by decide +kernel
theorem dX3_shorten_24 : decode cX3_shorten 24 = .ok (.iconst 1, 1) := by decide +kernel
theorem dX3_shorten_25 : decode cX3_shorten 25 = .ok (.iadd, 1) := by decide +kernel
theorem dX3_shorten_26 : decode cX3_shorten 26 = .ok (.aload_n 0, 1) := by decide +kernel
theorem dX3_shorten_27 : decode cX3_shorten 27 = .ok (.iload_n 2, 1) := by decide +kernel
theorem dX3_shorten_28 : decode cX3_shorten 28 = .ok (.iload 4, 2) := by decide +kernel
theorem dX3_shorten_30 : decode cX3_shorten 30 = .ok (.invokevirtual 35, 3) := by decide +kernel
theorem dX3_shorten_33 : decode cX3_shorten 33 = .ok (.iadd, 1) := by decide +kernel
theorem dX3_shorten_34 : decode cX3_shorten 34 = .ok (.istore 5, 2) := by decide +kernel
theorem dX3_shorten_36 : decode cX3_shorten 36 = .ok (.aload_n 0, 1) := by decide +kernel
theorem dX3_shorten_37 : decode cX3_shorten 37 = .ok (.iload_n 3, 1) := by decide +kernel
theorem dX3_shorten_38 : decode cX3_shorten 38 = .ok (.iload_n 2, 1) := by decide +kernel
theorem dX3_shorten_39 : decode cX3_shorten 39 = .ok (.invokevirtual 35, 3) := by decide +kernel
theorem dX3_shorten_42 : decode cX3_shorten 42 = .ok (.iconst 1, 1) := by decide +kernel
theorem dX3_shorten_43 : decode cX3_shorten 43 = .ok (.iadd, 1) := by decide +kernel
theorem dX3_shorten_44 : decode cX3_shorten 44 = .ok (.aload_n 0, 1) := by decide +kernel
theorem dX3_shorten_45 : decode cX3_shorten 45 = .ok (.iload_n 1, 1) := by decide +kernel
theorem dX3_shorten_46 : decode cX3_shorten 46 = .ok (.iload 4, 2) := by decide +kernel
theorem dX3_shorten_48 : decode cX3_shorten 48 = .ok (.invokevirtual 35, 3) := by decide +kernel
theorem dX3_shorten_51 : decode cX3_shorten 51 = .ok (.iadd, 1) := by decide +kernel
theorem dX3_shorten_52 : decode cX3_shorten 52 = .ok (.istore 6, 2) := by decide +kernel
theorem dX3_shorten_54 : decode cX3_shorten 54 = .ok (.aload_n 0, 1) := by decide +kernel
theorem dX3_shorten_55 : decode cX3_shorten 55 = .ok (.getfield 15, 3) := by decide +kernel
theorem dX3_shorten_58 : decode cX3_shorten 58 = .ok (.iload_n 3, 1) := by decide +kernel
theorem dX3_shorten_59 : decode cX3_shorten 59 = .ok (.bipush 10, 2) := by decide +kernel
theorem dX3_shorten_61 : decode cX3_shorten 61 = .ok (.imul, 1) := by decide +kernel
theorem dX3_shorten_62 : decode cX3_shorten 62 = .ok (.iload 4, 2) := by decide +kernel
theorem dX3_shorten_64 : decode cX3_shorten 64 = .ok (.iadd, 1) := by decide +kernel
theorem dX3_shorten_65 : decode cX3_shorten 65 = .ok (.aload_n 0, 1) := by decide +kernel
theorem dX3_shorten_66 : decode cX3_shorten 66 = .ok (.iload_n 3, 1) := by decide +kernel
theorem dX3_shorten_67 : decode cX3_shorten 67 = .ok (.iload 4, 2) := by decide +kernel
theorem dX3_shorten_69 : decode cX3_shorten 69 = .ok (.invokevirtual 35, 3) := by decide +kernel
theorem dX3_shorten_72 : decode cX3_shorten 72 = .ok (.iload 5, 2) := by decide +kernel
theorem dX3_shorten_74 : decode cX3_shorten 74 = .ok (.iload 6, 2) := by decide +kernel
theorem dX3_shorten_76 : decode cX3_shorten 76 = .ok (.invokestatic 39, 3) := by decide +kernel
theorem dX3_shorten_79 : decode cX3_shorten 79 = .ok (.invokestatic 39, 3) := by decide +kernel
theorem dX3_shorten_82 : decode cX3_shorten 82 = .ok (.iastore, 1) := by decide +kernel
theorem dX3_shorten_83 : decode cX3_shorten 83 = .ok (.iinc 4 1, 3) := by decide +kernel
theorem dX3_shorten_86 : decode cX3_shorten 86 = .ok (.goto (-75), 3) := by decide +kernel
theorem dX3_shorten_89 : decode cX3_shorten 89 = .ok (.iinc 3 1, 3) := by decide +kernel
theorem dX3_shorten_92 : decode cX3_shorten 92 = .ok (.goto (-90), 3) := by decide +kernel
theorem dX3_shorten_95 : decode cX3_shorten 95 = .ok (.return_, 1) := by decide +kernel
theorem dX3_walked_0 : decode cX3_walked 0 = .ok (.iload_n 1, 1) := by decide +kernel
theorem dX3_walked_1 : decode cX3_walked 1 = .ok (.istore 4, 2) := by decide +kernel
theorem dX3_walked_3 : decode cX3_walked 3 = .ok (.iconst 0, 1) := by decide +kernel
theorem dX3_walked_4 : decode cX3_walked 4 = .ok (.istore 5, 2) := by decide +kernel
theorem dX3_walked_6 : decode cX3_walked 6 = .ok (.iload 5, 2) := by decide +kernel
theorem dX3_walked_8 : decode cX3_walked 8 = .ok (.iload_n 3, 1) := by decide +kernel
theorem dX3_walked_9 : decode cX3_walked 9 = .ok (.if_icmp .ge 24, 3) := by decide +kernel
theorem dX3_walked_12 : decode cX3_walked 12 = .ok (.iload 4, 2) := by decide +kernel
theorem dX3_walked_14 : decode cX3_walked 14 = .ok (.iload_n 2, 1) := by decide +kernel
theorem dX3_walked_15 : decode cX3_walked 15 = .ok (.if_icmp .eq 18, 3) := by decide +kernel
theorem dX3_walked_18 : decode cX3_walked 18 = .ok (.aload_n 0, 1) := by decide +kernel
theorem dX3_walked_19 : decode cX3_walked 19 = .ok (.iload 4, 2) := by decide +kernel
theorem dX3_walked_21 : decode cX3_walked 21 = .ok (.iload_n 2, 1) := by decide +kernel
theorem dX3_walked_22 : decode cX3_walked 22 = .ok (.invokevirtual 44, 3) := by decide +kernel
theorem dX3_walked_25 : decode cX3_walked 25 = .ok (.istore 4, 2) := by decide +kernel
theorem dX3_walked_27 : decode cX3_walked 27 = .ok (.iinc 5 1, 3) := by decide +kernel
theorem dX3_walked_30 : decode cX3_walked 30 = .ok (.goto (-24), 3) := by decide +kernel
theorem dX3_walked_33 : decode cX3_walked 33 = .ok (.iload 4, 2) := by decide +kernel
theorem dX3_walked_35 : decode cX3_walked 35 = .ok (.ireturn, 1) := by decide +kernel
theorem dX3_nextToward_0 : decode cX3_nextToward 0 = .ok (.iconst 0, 1) := by decide +kernel
theorem dX3_nextToward_1 : decode cX3_nextToward 1 = .ok (.istore_n 3, 1) := by decide +kernel
theorem dX3_nextToward_2 : decode cX3_nextToward 2 = .ok (.iload_n 3, 1) := by decide +kernel
theorem dX3_nextToward_3 : decode cX3_nextToward 3 = .ok (.bipush 10, 2) := by decide +kernel
theorem dX3_nextToward_5 : decode cX3_nextToward 5 = .ok (.if_icmp .ge 37, 3) := by decide +kernel
theorem dX3_nextToward_8 : decode cX3_nextToward 8 = .ok (.aload_n 0, 1) := by decide +kernel
theorem dX3_nextToward_9 : decode cX3_nextToward 9 = .ok (.iload_n 1, 1) := by decide +kernel
theorem dX3_nextToward_10 : decode cX3_nextToward 10 = .ok (.iload_n 3, 1) := by decide +kernel
theorem dX3_nextToward_11 : decode cX3_nextToward 11 = .ok (.invokevirtual 31, 3) := by decide +kernel
theorem dX3_nextToward_14 : decode cX3_nextToward 14 = .ok (.ifCond .eq 22, 3) := by decide +kernel
theorem dX3_nextToward_17 : decode cX3_nextToward 17 = .ok (.aload_n 0, 1) := by decide +kernel
theorem dX3_nextToward_18 : decode cX3_nextToward 18 = .ok (.iload_n 3, 1) := by decide +kernel
theorem dX3_nextToward_19 : decode cX3_nextToward 19 = .ok (.iload_n 2, 1) := by decide +kernel
theorem dX3_nextToward_20 : decode cX3_nextToward 20 = .ok (.invokevirtual 35, 3) := by decide +kernel
theorem dX3_nextToward_23 : decode cX3_nextToward 23 = .ok (.aload_n 0, 1) := by decide +kernel
theorem dX3_nextToward_24 : decode cX3_nextToward 24 = .ok (.iload_n 1, 1) := by decide +kernel
theorem dX3_nextToward_25 : decode cX3_nextToward 25 = .ok (.iload_n 2, 1) := by decide +kernel
theorem dX3_nextToward_26 : decode cX3_nextToward 26 = .ok (.invokevirtual 35, 3) := by decide +kernel
theorem dX3_nextToward_29 : decode cX3_nextToward 29 = .ok (.iconst 1, 1) := by decide +kernel
theorem dX3_nextToward_30 : decode cX3_nextToward 30 = .ok (.isub, 1) := by decide +kernel
theorem dX3_nextToward_31 : decode cX3_nextToward 31 = .ok (.if_icmp .ne 5, 3) := by decide +kernel
theorem dX3_nextToward_34 : decode cX3_nextToward 34 = .ok (.iload_n 3, 1) := by decide +kernel
theorem dX3_nextToward_35 : decode cX3_nextToward 35 = .ok (.ireturn, 1) := by decide +kernel
theorem dX3_nextToward_36 : decode cX3_nextToward 36 = .ok (.iinc 3 1, 3) := by decide +kernel
theorem dX3_nextToward_39 : decode cX3_nextToward 39 = .ok (.goto (-37), 3) := by decide +kernel
theorem dX3_nextToward_42 : decode cX3_nextToward 42 = .ok (.iload_n 1, 1) := by decide +kernel
theorem dX3_nextToward_43 : decode cX3_nextToward 43 = .ok (.ireturn, 1) := by decide +kernel
theorem dX4_init_0 : decode cX4_init 0 = .ok (.aload_n 0, 1) := by decide +kernel
theorem dX4_init_1 : decode cX4_init 1 = .ok (.invokespecial 1, 3) := by decide +kernel
theorem dX4_init_4 : decode cX4_init 4 = .ok (.aload_n 0, 1) := by decide +kernel
theorem dX4_init_5 : decode cX4_init 5 = .ok (.iconst 4, 1) := by decide +kernel
theorem dX4_init_6 : decode cX4_init 6 = .ok (.newarray .int, 2) := by decide +kernel
theorem dX4_init_8 : decode cX4_init 8 = .ok (.putfield 9, 3) := by decide +kernel
theorem dX4_init_11 : decode cX4_init 11 = .ok (.aload_n 0, 1) := by decide +kernel
theorem dX4_init_12 : decode cX4_init 12 = .ok (.iconst 4, 1) := by decide +kernel
theorem dX4_init_13 : decode cX4_init 13 = .ok (.newarray .int, 2) := by decide +kernel
theorem dX4_init_15 : decode cX4_init 15 = .ok (.putfield 13, 3) := by decide +kernel
theorem dX4_init_18 : decode cX4_init 18 = .ok (.aload_n 0, 1) := by decide +kernel
theorem dX4_init_19 : decode cX4_init 19 = .ok (.bipush 96, 2) := by decide +kernel
theorem dX4_init_21 : decode cX4_init 21 = .ok (.newarray .int, 2) := by decide +kernel
theorem dX4_init_23 : decode cX4_init 23 = .ok (.putfield 16, 3) := by decide +kernel
theorem dX4_init_26 : decode cX4_init 26 = .ok (.return_, 1) := by decide +kernel
theorem dX4_isMissing_0 : decode cX4_isMissing 0 = .ok (.aload_n 0, 1) := by decide +kernel
theorem dX4_isMissing_1 : decode cX4_isMissing 1 = .ok (.getfield 9, 3) := by decide +kernel
theorem dX4_isMissing_4 : decode cX4_isMissing 4 = .ok (.iload_n 1, 1) := by decide +kernel
theorem dX4_isMissing_5 : decode cX4_isMissing 5 = .ok (.iaload, 1) := by decide +kernel
theorem dX4_isMissing_6 : decode cX4_isMissing 6 = .ok (.ifCond .ne 7, 3) := by decide +kernel
theorem dX4_isMissing_9 : decode cX4_isMissing 9 = .ok (.iconst 1, 1) := by decide +kernel
theorem dX4_isMissing_10 : decode cX4_isMissing 10 = .ok (.goto 4, 3) := by decide +kernel
theorem dX4_isMissing_13 : decode cX4_isMissing 13 = .ok (.iconst 0, 1) := by decide +kernel
theorem dX4_isMissing_14 : decode cX4_isMissing 14 = .ok (.ireturn, 1) := by decide +kernel
theorem dX4_make_0 : decode cX4_make 0 = .ok (.aload_n 0, 1) := by decide +kernel
theorem dX4_make_1 : decode cX4_make 1 = .ok (.getfield 9, 3) := by decide +kernel
theorem dX4_make_4 : decode cX4_make 4 = .ok (.iload_n 1, 1) := by decide +kernel
theorem dX4_make_5 : decode cX4_make 5 = .ok (.iload_n 2, 1) := by decide +kernel
theorem dX4_make_6 : decode cX4_make 6 = .ok (.iastore, 1) := by decide +kernel
theorem dX4_make_7 : decode cX4_make 7 = .ok (.aload_n 0, 1) := by decide +kernel
theorem dX4_make_8 : decode cX4_make 8 = .ok (.getfield 13, 3) := by decide +kernel
theorem dX4_make_11 : decode cX4_make 11 = .ok (.iload_n 1, 1) := by decide +kernel
theorem dX4_make_12 : decode cX4_make 12 = .ok (.iload_n 3, 1) := by decide +kernel
theorem dX4_make_13 : decode cX4_make 13 = .ok (.iastore, 1) := by decide +kernel
theorem dX4_make_14 : decode cX4_make 14 = .ok (.iconst 0, 1) := by decide +kernel
theorem dX4_make_15 : decode cX4_make 15 = .ok (.istore 4, 2) := by decide +kernel
theorem dX4_make_17 : decode cX4_make 17 = .ok (.iload 4, 2) := by decide +kernel
theorem dX4_make_19 : decode cX4_make 19 = .ok (.bipush 24, 2) := by decide +kernel
theorem dX4_make_21 : decode cX4_make 21 = .ok (.if_icmp .ge 22, 3) := by decide +kernel
theorem dX4_make_24 : decode cX4_make 24 = .ok (.aload_n 0, 1) := by decide +kernel
theorem dX4_make_25 : decode cX4_make 25 = .ok (.getfield 16, 3) := by decide +kernel
theorem dX4_make_28 : decode cX4_make 28 = .ok (.iload_n 1, 1) := by decide +kernel
theorem dX4_make_29 : decode cX4_make 29 = .ok (.bipush 24, 2) := by decide +kernel
theorem dX4_make_31 : decode cX4_make 31 = .ok (.imul, 1) := by decide +kernel
theorem dX4_make_32 : decode cX4_make 32 = .ok (.iload 4, 2) := by decide +kernel
theorem dX4_make_34 : decode cX4_make 34 = .ok (.iadd, 1) := by decide +kernel
theorem dX4_make_35 : decode cX4_make 35 = .ok (.iconst 0, 1) := by decide +kernel
theorem dX4_make_36 : decode cX4_make 36 = .ok (.iastore, 1) := by decide +kernel
theorem dX4_make_37 : decode cX4_make 37 = .ok (.iinc 4 1, 3) := by decide +kernel
theorem dX4_make_40 : decode cX4_make 40 = .ok (.goto (-23), 3) := by decide +kernel
theorem dX4_make_43 : decode cX4_make 43 = .ok (.return_, 1) := by decide +kernel
theorem dX4_number_0 : decode cX4_number 0 = .ok (.aload_n 0, 1) := by decide +kernel
theorem dX4_number_1 : decode cX4_number 1 = .ok (.getfield 16, 3) := by decide +kernel
theorem dX4_number_4 : decode cX4_number 4 = .ok (.iload_n 1, 1) := by decide +kernel
theorem dX4_number_5 : decode cX4_number 5 = .ok (.bipush 24, 2) := by decide +kernel
theorem dX4_number_7 : decode cX4_number 7 = .ok (.imul, 1) := by decide +kernel
theorem dX4_number_8 : decode cX4_number 8 = .ok (.iload_n 2, 1) := by decide +kernel
theorem dX4_number_9 : decode cX4_number 9 = .ok (.iadd, 1) := by decide +kernel
theorem dX4_number_10 : decode cX4_number 10 = .ok (.iaload, 1) := by decide +kernel
theorem dX4_number_11 : decode cX4_number 11 = .ok (.ireturn, 1) := by decide +kernel
theorem dX4_write_0 : decode cX4_write 0 = .ok (.aload_n 0, 1) := by decide +kernel
theorem dX4_write_1 : decode cX4_write 1 = .ok (.getfield 9, 3) := by decide +kernel
theorem dX4_write_4 : decode cX4_write 4 = .ok (.iload_n 1, 1) := by decide +kernel
theorem dX4_write_5 : decode cX4_write 5 = .ok (.iaload, 1) := by decide +kernel
theorem dX4_write_6 : decode cX4_write 6 = .ok (.bipush 8, 2) := by decide +kernel
theorem dX4_write_8 : decode cX4_write 8 = .ok (.if_icmp .ne 8, 3) := by decide +kernel
theorem dX4_write_11 : decode cX4_write 11 = .ok (.iload_n 3, 1) := by decide +kernel
theorem dX4_write_12 : decode cX4_write 12 = .ok (.i2b, 1) := by decide +kernel
theorem dX4_write_13 : decode cX4_write 13 = .ok (.goto 20, 3) := by decide +kernel
theorem dX4_write_16 : decode cX4_write 16 = .ok (.aload_n 0, 1) := by decide +kernel
theorem dX4_write_17 : decode cX4_write 17 = .ok (.getfield 9, 3) := by decide +kernel
theorem dX4_write_20 : decode cX4_write 20 = .ok (.iload_n 1, 1) := by decide +kernel
theorem dX4_write_21 : decode cX4_write 21 = .ok (.iaload, 1) := by decide +kernel
theorem dX4_write_22 : decode cX4_write 22 = .ok (.bipush 16, 2) := by decide +kernel
theorem dX4_write_24 : decode cX4_write 24 = .ok (.if_icmp .ne 8, 3) := by decide +kernel
theorem dX4_write_27 : decode cX4_write 27 = .ok (.iload_n 3, 1) := by decide +kernel
theorem dX4_write_28 : decode cX4_write 28 = .ok (.i2s, 1) := by decide +kernel
theorem dX4_write_29 : decode cX4_write 29 = .ok (.goto 4, 3) := by decide +kernel
theorem dX4_write_32 : decode cX4_write 32 = .ok (.iload_n 3, 1) := by decide +kernel
theorem dX4_write_33 : decode cX4_write 33 = .ok (.istore 4, 2) := by decide +kernel
theorem dX4_write_35 : decode cX4_write 35 = .ok (.aload_n 0, 1) := by decide +kernel
theorem dX4_write_36 : decode cX4_write 36 = .ok (.getfield 16, 3) := by decide +kernel
theorem dX4_write_39 : decode cX4_write 39 = .ok (.iload_n 1, 1) := by decide +kernel
theorem dX4_write_40 : decode cX4_write 40 = .ok (.bipush 24, 2) := by decide +kernel
theorem dX4_write_42 : decode cX4_write 42 = .ok (.imul, 1) := by decide +kernel
theorem dX4_write_43 : decode cX4_write 43 = .ok (.iload_n 2, 1) := by decide +kernel
theorem dX4_write_44 : decode cX4_write 44 = .ok (.iadd, 1) := by decide +kernel
theorem dX4_write_45 : decode cX4_write 45 = .ok (.iload 4, 2) := by decide +kernel
theorem dX4_write_47 : decode cX4_write 47 = .ok (.iastore, 1) := by decide +kernel
theorem dX4_write_48 : decode cX4_write 48 = .ok (.return_, 1) := by decide +kernel
theorem dX4_stands_0 : decode cX4_stands 0 = .ok (.iload_n 2, 1) := by decide +kernel
theorem dX4_stands_1 : decode cX4_stands 1 = .ok (.ifCond .lt 27, 3) := by decide +kernel
theorem dX4_stands_4 : decode cX4_stands 4 = .ok (.iload_n 3, 1) := by decide +kernel
theorem dX4_stands_5 : decode cX4_stands 5 = .ok (.ifCond .lt 23, 3) := by decide +kernel
theorem dX4_stands_8 : decode cX4_stands 8 = .ok (.iload_n 2, 1) := by decide +kernel
theorem dX4_stands_9 : decode cX4_stands 9 = .ok (.i2l, 1) := by decide +kernel
theorem dX4_stands_10 : decode cX4_stands 10 = .ok (.iload_n 3, 1) := by decide +kernel
theorem dX4_stands_11 : decode cX4_stands 11 = .ok (.i2l, 1) := by decide +kernel
theorem dX4_stands_12 : decode cX4_stands 12 = .ok (.ladd, 1) := by decide +kernel
theorem dX4_stands_13 : decode cX4_stands 13 = .ok (.aload_n 0, 1) := by decide +kernel
theorem dX4_stands_14 : decode cX4_stands 14 = .ok (.getfield 13, 3) := by decide +kernel
theorem dX4_stands_17 : decode cX4_stands 17 = .ok (.iload_n 1, 1) := by decide +kernel
theorem dX4_stands_18 : decode cX4_stands 18 = .ok (.iaload, 1) := by decide +kernel
theorem dX4_stands_19 : decode cX4_stands 19 = .ok (.i2l, 1) := by decide +kernel
theorem dX4_stands_20 : decode cX4_stands 20 = .ok (.lcmp, 1) := by decide +kernel
theorem dX4_stands_21 : decode cX4_stands 21 = .ok (.ifCond .gt 7, 3) := by decide +kernel
theorem dX4_stands_24 : decode cX4_stands 24 = .ok (.iconst 1, 1) := by decide +kernel
theorem dX4_stands_25 : decode cX4_stands 25 = .ok (.goto 4, 3) := by decide +kernel
theorem dX4_stands_28 : decode cX4_stands 28 = .ok (.iconst 0, 1) := by decide +kernel
theorem dX4_stands_29 : decode cX4_stands 29 = .ok (.ireturn, 1) := by decide +kernel
theorem dX4_shift_0 : decode cX4_shift 0 = .ok (.aload_n 0, 1) := by decide +kernel
theorem dX4_shift_1 : decode cX4_shift 1 = .ok (.getfield 16, 3) := by decide +kernel
theorem dX4_shift_4 : decode cX4_shift 4 = .ok (.iload_n 1, 1) := by decide +kernel
theorem dX4_shift_5 : decode cX4_shift 5 = .ok (.bipush 24, 2) := by decide +kernel
theorem dX4_shift_7 : decode cX4_shift 7 = .ok (.imul, 1) := by decide +kernel
theorem dX4_shift_8 : decode cX4_shift 8 = .ok (.iload_n 2, 1) := by decide +kernel
theorem dX4_shift_9 : decode cX4_shift 9 = .ok (.iadd, 1) := by decide +kernel
theorem dX4_shift_10 : decode cX4_shift 10 = .ok (.aload_n 0, 1) := by decide +kernel
theorem dX4_shift_11 : decode cX4_shift 11 = .ok (.getfield 16, 3) := by decide +kernel
theorem dX4_shift_14 : decode cX4_shift 14 = .ok (.iload_n 3, 1) := by decide +kernel
theorem dX4_shift_15 : decode cX4_shift 15 = .ok (.bipush 24, 2) := by decide +kernel
theorem dX4_shift_17 : decode cX4_shift 17 = .ok (.imul, 1) := by decide +kernel
theorem dX4_shift_18 : decode cX4_shift 18 = .ok (.iload 4, 2) := by decide +kernel
theorem dX4_shift_20 : decode cX4_shift 20 = .ok (.iadd, 1) := by decide +kernel
theorem dX4_shift_21 : decode cX4_shift 21 = .ok (.iload 5, 2) := by decide +kernel
theorem dX4_shift_23 : decode cX4_shift 23 = .ok (.invokestatic 19, 3) := by decide +kernel
theorem dX4_shift_26 : decode cX4_shift 26 = .ok (.return_, 1) := by decide +kernel
theorem dX5_init_0 : decode cX5_init 0 = .ok (.aload_n 0, 1) := by decide +kernel
theorem dX5_init_1 : decode cX5_init 1 = .ok (.invokespecial 3, 3) := by decide +kernel
theorem dX5_init_4 : decode cX5_init 4 = .ok (.aload_n 0, 1) := by decide +kernel
theorem dX5_init_5 : decode cX5_init 5 = .ok (.new 9, 3) := by decide +kernel
theorem dX5_init_8 : decode cX5_init 8 = .ok (.dup, 1) := by decide +kernel
theorem dX5_init_9 : decode cX5_init 9 = .ok (.invokespecial 11, 3) := by decide +kernel
theorem dX5_init_12 : decode cX5_init 12 = .ok (.putfield 12, 3) := by decide +kernel
theorem dX5_init_15 : decode cX5_init 15 = .ok (.aload_n 0, 1) := by decide +kernel
theorem dX5_init_16 : decode cX5_init 16 = .ok (.new 18, 3) := by decide +kernel
theorem dX5_init_19 : decode cX5_init 19 = .ok (.dup, 1) := by decide +kernel
theorem dX5_init_20 : decode cX5_init 20 = .ok (.invokespecial 20, 3) := by decide +kernel
theorem dX5_init_23 : decode cX5_init 23 = .ok (.putfield 21, 3) := by decide +kernel
theorem dX5_init_26 : decode cX5_init 26 = .ok (.aload_n 0, 1) := by decide +kernel
theorem dX5_init_27 : decode cX5_init 27 = .ok (.new 25, 3) := by decide +kernel
theorem dX5_init_30 : decode cX5_init 30 = .ok (.dup, 1) := by decide +kernel
theorem dX5_init_31 : decode cX5_init 31 = .ok (.ldc 27, 2) := by decide +kernel
theorem dX5_init_33 : decode cX5_init 33 = .ok (.iconst 3, 1) := by decide +kernel
theorem dX5_init_34 : decode cX5_init 34 = .ok (.invokespecial 29, 3) := by decide +kernel
theorem dX5_init_37 : decode cX5_init 37 = .ok (.putfield 32, 3) := by decide +kernel
theorem dX5_init_40 : decode cX5_init 40 = .ok (.aload_n 0, 1) := by decide +kernel
theorem dX5_init_41 : decode cX5_init 41 = .ok (.new 25, 3) := by decide +kernel
theorem dX5_init_44 : decode cX5_init 44 = .ok (.dup, 1) := by decide +kernel
theorem dX5_init_45 : decode cX5_init 45 = .ok (.ldc 36, 2) := by decide +kernel
theorem dX5_init_47 : decode cX5_init 47 = .ok (.bipush 99, 2) := by decide +kernel
theorem dX5_init_49 : decode cX5_init 49 = .ok (.invokespecial 29, 3) := by decide +kernel
theorem dX5_init_52 : decode cX5_init 52 = .ok (.putfield 38, 3) := by decide +kernel
theorem dX5_init_55 : decode cX5_init 55 = .ok (.aload_n 0, 1) := by decide +kernel
theorem dX5_init_56 : decode cX5_init 56 = .ok (.bipush 60, 2) := by decide +kernel
theorem dX5_init_58 : decode cX5_init 58 = .ok (.newarray .int, 2) := by decide +kernel
theorem dX5_init_60 : decode cX5_init 60 = .ok (.putfield 41, 3) := by decide +kernel
theorem dX5_init_63 : decode cX5_init 63 = .ok (.aload_n 0, 1) := by decide +kernel
theorem dX5_init_64 : decode cX5_init 64 = .ok (.iconst 0, 1) := by decide +kernel
theorem dX5_init_65 : decode cX5_init 65 = .ok (.putfield 45, 3) := by decide +kernel
theorem dX5_init_68 : decode cX5_init 68 = .ok (.aload_n 0, 1) := by decide +kernel
theorem dX5_init_69 : decode cX5_init 69 = .ok (.bipush 24, 2) := by decide +kernel
theorem dX5_init_71 : decode cX5_init 71 = .ok (.newarray .int, 2) := by decide +kernel
theorem dX5_init_73 : decode cX5_init 73 = .ok (.putfield 49, 3) := by decide +kernel
theorem dX5_init_76 : decode cX5_init 76 = .ok (.aload_n 0, 1) := by decide +kernel
theorem dX5_init_77 : decode cX5_init 77 = .ok (.iconst 0, 1) := by decide +kernel
theorem dX5_init_78 : decode cX5_init 78 = .ok (.putfield 52, 3) := by decide +kernel
theorem dX5_init_81 : decode cX5_init 81 = .ok (.aload_n 0, 1) := by decide +kernel
theorem dX5_init_82 : decode cX5_init 82 = .ok (.iconst 1, 1) := by decide +kernel
theorem dX5_init_83 : decode cX5_init 83 = .ok (.putfield 55, 3) := by decide +kernel
theorem dX5_init_86 : decode cX5_init 86 = .ok (.return_, 1) := by decide +kernel
theorem dX5_copy_0 : decode cX5_copy 0 = .ok (.aload_n 0, 1) := by decide +kernel
theorem dX5_copy_1 : decode cX5_copy 1 = .ok (.getfield 12, 3) := by decide +kernel
theorem dX5_copy_4 : decode cX5_copy 4 = .ok (.aload_n 1, 1) := by decide +kernel
theorem dX5_copy_5 : decode cX5_copy 5 = .ok (.getfield 12, 3) := by decide +kernel
theorem dX5_copy_8 : decode cX5_copy 8 = .ok (.invokevirtual 58, 3) := by decide +kernel
theorem dX5_copy_11 : decode cX5_copy 11 = .ok (.aload_n 0, 1) := by decide +kernel
theorem dX5_copy_12 : decode cX5_copy 12 = .ok (.getfield 21, 3) := by decide +kernel
theorem dX5_copy_15 : decode cX5_copy 15 = .ok (.aload_n 1, 1) := by decide +kernel
theorem dX5_copy_16 : decode cX5_copy 16 = .ok (.getfield 21, 3) := by decide +kernel
theorem dX5_copy_19 : decode cX5_copy 19 = .ok (.invokevirtual 62, 3) := by decide +kernel
theorem dX5_copy_22 : decode cX5_copy 22 = .ok (.aload_n 0, 1) := by decide +kernel
theorem dX5_copy_23 : decode cX5_copy 23 = .ok (.getfield 32, 3) := by decide +kernel
theorem dX5_copy_26 : decode cX5_copy 26 = .ok (.aload_n 1, 1) := by decide +kernel
theorem dX5_copy_27 : decode cX5_copy 27 = .ok (.getfield 32, 3) := by decide +kernel
theorem dX5_copy_30 : decode cX5_copy 30 = .ok (.getfield 65, 3) := by decide +kernel
theorem dX5_copy_33 : decode cX5_copy 33 = .ok (.aload_n 1, 1) := by decide +kernel
theorem dX5_copy_34 : decode cX5_copy 34 = .ok (.getfield 32, 3) := by decide +kernel
theorem dX5_copy_37 : decode cX5_copy 37 = .ok (.getfield 68, 3) := by decide +kernel
theorem dX5_copy_40 : decode cX5_copy 40 = .ok (.invokevirtual 71, 3) := by decide +kernel
theorem dX5_copy_43 : decode cX5_copy 43 = .ok (.aload_n 0, 1) := by decide +kernel
theorem dX5_copy_44 : decode cX5_copy 44 = .ok (.getfield 38, 3) := by decide +kernel
theorem dX5_copy_47 : decode cX5_copy 47 = .ok (.aload_n 1, 1) := by decide +kernel
theorem dX5_copy_48 : decode cX5_copy 48 = .ok (.getfield 38, 3) := by decide +kernel
theorem dX5_copy_51 : decode cX5_copy 51 = .ok (.getfield 65, 3) := by decide +kernel
theorem dX5_copy_54 : decode cX5_copy 54 = .ok (.aload_n 1, 1) := by decide +kernel
theorem dX5_copy_55 : decode cX5_copy 55 = .ok (.getfield 38, 3) := by decide +kernel
theorem dX5_copy_58 : decode cX5_copy 58 = .ok (.getfield 68, 3) := by decide +kernel
theorem dX5_copy_61 : decode cX5_copy 61 = .ok (.invokevirtual 71, 3) := by decide +kernel
theorem dX5_copy_64 : decode cX5_copy 64 = .ok (.aload_n 1, 1) := by decide +kernel
theorem dX5_copy_65 : decode cX5_copy 65 = .ok (.getfield 41, 3) := by decide +kernel
theorem dX5_copy_68 : decode cX5_copy 68 = .ok (.iconst 0, 1) := by decide +kernel
theorem dX5_copy_69 : decode cX5_copy 69 = .ok (.aload_n 0, 1) := by decide +kernel
theorem dX5_copy_70 : decode cX5_copy 70 = .ok (.getfield 41, 3) := by decide +kernel
theorem dX5_copy_73 : decode cX5_copy 73 = .ok (.iconst 0, 1) := by decide +kernel
theorem dX5_copy_74 : decode cX5_copy 74 = .ok (.bipush 60, 2) := by decide +kernel
theorem dX5_copy_76 : decode cX5_copy 76 = .ok (.invokestatic 75, 3) := by decide +kernel
theorem dX5_copy_79 : decode cX5_copy 79 = .ok (.aload_n 0, 1) := by decide +kernel
theorem dX5_copy_80 : decode cX5_copy 80 = .ok (.aload_n 1, 1) := by decide +kernel
theorem dX5_copy_81 : decode cX5_copy 81 = .ok (.getfield 45, 3) := by decide +kernel
theorem dX5_copy_84 : decode cX5_copy 84 = .ok (.putfield 45, 3) := by decide +kernel
theorem dX5_copy_87 : decode cX5_copy 87 = .ok (.aload_n 1, 1) := by decide +kernel
theorem dX5_copy_88 : decode cX5_copy 88 = .ok (.getfield 49, 3) := by decide +kernel
theorem dX5_copy_91 : decode cX5_copy 91 = .ok (.iconst 0, 1) := by decide +kernel
theorem dX5_copy_92 : decode cX5_copy 92 = .ok (.aload_n 0, 1) := by decide +kernel
theorem dX5_copy_93 : decode cX5_copy 93 = .ok (.getfield 49, 3) := by decide +kernel
theorem dX5_copy_96 : decode cX5_copy 96 = .ok (.iconst 0, 1) := by decide +kernel
theorem dX5_copy_97 : decode cX5_copy 97 = .ok (.bipush 24, 2) := by decide +kernel
theorem dX5_copy_99 : decode cX5_copy 99 = .ok (.invokestatic 75, 3) := by decide +kernel
theorem dX5_copy_102 : decode cX5_copy 102 = .ok (.aload_n 0, 1) := by decide +kernel
theorem dX5_copy_103 : decode cX5_copy 103 = .ok (.aload_n 1, 1) := by decide +kernel
theorem dX5_copy_104 : decode cX5_copy 104 = .ok (.getfield 52, 3) := by decide +kernel
theorem dX5_copy_107 : decode cX5_copy 107 = .ok (.putfield 52, 3) := by decide +kernel
theorem dX5_copy_110 : decode cX5_copy 110 = .ok (.aload_n 0, 1) := by decide +kernel
theorem dX5_copy_111 : decode cX5_copy 111 = .ok (.aload_n 1, 1) := by decide +kernel
theorem dX5_copy_112 : decode cX5_copy 112 = .ok (.getfield 55, 3) := by decide +kernel
theorem dX5_copy_115 : decode cX5_copy 115 = .ok (.putfield 55, 3) := by decide +kernel
theorem dX5_copy_118 : decode cX5_copy 118 = .ok (.return_, 1) := by decide +kernel
theorem dX5_draw_0 : decode cX5_draw 0 = .ok (.aload_n 0, 1) := by decide +kernel
theorem dX5_draw_1 : decode cX5_draw 1 = .ok (.aload_n 0, 1) := by decide +kernel
theorem dX5_draw_2 : decode cX5_draw 2 = .ok (.getfield 55, 3) := by decide +kernel
theorem dX5_draw_5 : decode cX5_draw 5 = .ok (.ldc 81, 2) := by decide +kernel
theorem dX5_draw_7 : decode cX5_draw 7 = .ok (.imul, 1) := by decide +kernel
theorem dX5_draw_8 : decode cX5_draw 8 = .ok (.sipush 12345, 3) := by decide +kernel
theorem dX5_draw_11 : decode cX5_draw 11 = .ok (.iadd, 1) := by decide +kernel
theorem dX5_draw_12 : decode cX5_draw 12 = .ok (.putfield 55, 3) := by decide +kernel
theorem dX5_draw_15 : decode cX5_draw 15 = .ok (.aload_n 0, 1) := by decide +kernel
theorem dX5_draw_16 : decode cX5_draw 16 = .ok (.getfield 55, 3) := by decide +kernel
theorem dX5_draw_19 : decode cX5_draw 19 = .ok (.bipush 8, 2) := by decide +kernel
theorem dX5_draw_21 : decode cX5_draw 21 = .ok (.iushr, 1) := by decide +kernel
theorem dX5_draw_22 : decode cX5_draw 22 = .ok (.ireturn, 1) := by decide +kernel
theorem dX5_stir_0 : decode cX5_stir 0 = .ok (.aload_n 0, 1) := by decide +kernel
theorem dX5_stir_1 : decode cX5_stir 1 = .ok (.getfield 21, 3) := by decide +kernel
theorem dX5_stir_4 : decode cX5_stir 4 = .ok (.getfield 82, 3) := by decide +kernel
theorem dX5_stir_7 : decode cX5_stir 7 = .ok (.ifCond .ne 4, 3) := by decide +kernel
theorem dX5_stir_10 : decode cX5_stir 10 = .ok (.return_, 1) := by decide +kernel
theorem dX5_stir_11 : decode cX5_stir 11 = .ok (.aload_n 0, 1) := by decide +kernel
theorem dX5_stir_12 : decode cX5_stir 12 = .ok (.invokevirtual 85, 3) := by decide +kernel
theorem dX5_stir_15 : decode cX5_stir 15 = .ok (.aload_n 0, 1) := by decide +kernel
theorem dX5_stir_16 : decode cX5_stir 16 = .ok (.getfield 21, 3) := by decide +kernel
theorem dX5_stir_19 : decode cX5_stir 19 = .ok (.getfield 82, 3) := by decide +kernel
theorem dX5_stir_22 : decode cX5_stir 22 = .ok (.irem, 1) := by decide +kernel
theorem dX5_stir_23 : decode cX5_stir 23 = .ok (.istore_n 1, 1) := by decide +kernel
theorem dX5_stir_24 : decode cX5_stir 24 = .ok (.aload_n 0, 1) := by decide +kernel
theorem dX5_stir_25 : decode cX5_stir 25 = .ok (.getfield 21, 3) := by decide +kernel
theorem dX5_stir_28 : decode cX5_stir 28 = .ok (.getfield 89, 3) := by decide +kernel
theorem dX5_stir_31 : decode cX5_stir 31 = .ok (.iload_n 1, 1) := by decide +kernel
theorem dX5_stir_32 : decode cX5_stir 32 = .ok (.aload_n 0, 1) := by decide +kernel
theorem dX5_stir_33 : decode cX5_stir 33 = .ok (.invokevirtual 85, 3) := by decide +kernel
theorem dX5_stir_36 : decode cX5_stir 36 = .ok (.bipush 10, 2) := by decide +kernel
theorem dX5_stir_38 : decode cX5_stir 38 = .ok (.irem, 1) := by decide +kernel
theorem dX5_stir_39 : decode cX5_stir 39 = .ok (.iastore, 1) := by decide +kernel
theorem dX5_stir_40 : decode cX5_stir 40 = .ok (.aload_n 0, 1) := by decide +kernel
theorem dX5_stir_41 : decode cX5_stir 41 = .ok (.invokevirtual 85, 3) := by decide +kernel
theorem dX5_stir_44 : decode cX5_stir 44 = .ok (.bipush 8, 2) := by decide +kernel
theorem dX5_stir_46 : decode cX5_stir 46 = .ok (.irem, 1) := by decide +kernel
theorem dX5_stir_47 : decode cX5_stir 47 = .ok (.ifCond .ne 19, 3) := by decide +kernel
theorem dX5_stir_50 : decode cX5_stir 50 = .ok (.aload_n 0, 1) := by decide +kernel
theorem dX5_stir_51 : decode cX5_stir 51 = .ok (.getfield 21, 3) := by decide +kernel
theorem dX5_stir_54 : decode cX5_stir 54 = .ok (.getfield 92, 3) := by decide +kernel
theorem dX5_stir_57 : decode cX5_stir 57 = .ok (.iload_n 1, 1) := by decide +kernel
theorem dX5_stir_58 : decode cX5_stir 58 = .ok (.aload_n 0, 1) := by decide +kernel
theorem dX5_stir_59 : decode cX5_stir 59 = .ok (.invokevirtual 85, 3) := by decide +kernel
theorem dX5_stir_62 : decode cX5_stir 62 = .ok (.bipush 10, 2) := by decide +kernel
theorem dX5_stir_64 : decode cX5_stir 64 = .ok (.irem, 1) := by decide +kernel
theorem dX5_stir_65 : decode cX5_stir 65 = .ok (.iastore, 1) := by decide +kernel
theorem dX5_stir_66 : decode cX5_stir 66 = .ok (.return_, 1) := by decide +kernel
theorem dJ11_isValidCodePoint_9a6ad_0 : decode cJ11_isValidCodePoint_9a6ad 0 = .ok (.iload_n 0, 1) := by decide +kernel
theorem dJ11_isValidCodePoint_9a6ad_1 : decode cJ11_isValidCodePoint_9a6ad 1 = .ok (.bipush 16, 2) := by decide +kernel
theorem dJ11_isValidCodePoint_9a6ad_3 : decode cJ11_isValidCodePoint_9a6ad 3 = .ok (.iushr, 1) := by decide +kernel
theorem dJ11_isValidCodePoint_9a6ad_4 : decode cJ11_isValidCodePoint_9a6ad 4 = .ok (.istore_n 1, 1) := by decide +kernel
theorem dJ11_isValidCodePoint_9a6ad_5 : decode cJ11_isValidCodePoint_9a6ad 5 = .ok (.iload_n 1, 1) := by decide +kernel
theorem dJ11_isValidCodePoint_9a6ad_6 : decode cJ11_isValidCodePoint_9a6ad 6 = .ok (.bipush 17, 2) := by decide +kernel
theorem dJ11_isValidCodePoint_9a6ad_8 : decode cJ11_isValidCodePoint_9a6ad 8 = .ok (.if_icmp .ge 7, 3) := by decide +kernel
theorem dJ11_isValidCodePoint_9a6ad_11 : decode cJ11_isValidCodePoint_9a6ad 11 = .ok (.iconst 1, 1) := by decide +kernel
theorem dJ11_isValidCodePoint_9a6ad_12 : decode cJ11_isValidCodePoint_9a6ad 12 = .ok (.goto 4, 3) := by decide +kernel
theorem dJ11_isValidCodePoint_9a6ad_15 : decode cJ11_isValidCodePoint_9a6ad 15 = .ok (.iconst 0, 1) := by decide +kernel
theorem dJ11_isValidCodePoint_9a6ad_16 : decode cJ11_isValidCodePoint_9a6ad 16 = .ok (.ireturn, 1) := by decide +kernel
theorem dJ11_highSurrogate_5068e_0 : decode cJ11_highSurrogate_5068e 0 = .ok (.iload_n 0, 1) := by decide +kernel
theorem dJ11_highSurrogate_5068e_1 : decode cJ11_highSurrogate_5068e 1 = .ok (.bipush 10, 2) := by decide +kernel
theorem dJ11_highSurrogate_5068e_3 : decode cJ11_highSurrogate_5068e 3 = .ok (.iushr, 1) := by decide +kernel
theorem dJ11_highSurrogate_5068e_4 : decode cJ11_highSurrogate_5068e 4 = .ok (.ldc 110, 2) := by decide +kernel
theorem dJ11_highSurrogate_5068e_6 : decode cJ11_highSurrogate_5068e 6 = .ok (.iadd, 1) := by decide +kernel
theorem dJ11_highSurrogate_5068e_7 : decode cJ11_highSurrogate_5068e 7 = .ok (.i2c, 1) := by decide +kernel
theorem dJ11_highSurrogate_5068e_8 : decode cJ11_highSurrogate_5068e 8 = .ok (.ireturn, 1) := by decide +kernel
theorem dJ11_lowSurrogate_5068e_0 : decode cJ11_lowSurrogate_5068e 0 = .ok (.iload_n 0, 1) := by decide +kernel
theorem dJ11_lowSurrogate_5068e_1 : decode cJ11_lowSurrogate_5068e 1 = .ok (.sipush 1023, 3) := by decide +kernel
theorem dJ11_lowSurrogate_5068e_4 : decode cJ11_lowSurrogate_5068e 4 = .ok (.iand, 1) := by decide +kernel
theorem dJ11_lowSurrogate_5068e_5 : decode cJ11_lowSurrogate_5068e 5 = .ok (.ldc 76, 2) := by decide +kernel
theorem dJ11_lowSurrogate_5068e_7 : decode cJ11_lowSurrogate_5068e 7 = .ok (.iadd, 1) := by decide +kernel
theorem dJ11_lowSurrogate_5068e_8 : decode cJ11_lowSurrogate_5068e 8 = .ok (.i2c, 1) := by decide +kernel
theorem dJ11_lowSurrogate_5068e_9 : decode cJ11_lowSurrogate_5068e 9 = .ok (.ireturn, 1) := by decide +kernel
theorem dJ6_bitCount_0f7a4_0 : decode cJ6_bitCount_0f7a4 0 = .ok (.iload_n 0, 1) := by decide +kernel
theorem dJ6_bitCount_0f7a4_1 : decode cJ6_bitCount_0f7a4 1 = .ok (.iload_n 0, 1) := by decide +kernel
theorem dJ6_bitCount_0f7a4_2 : decode cJ6_bitCount_0f7a4 2 = .ok (.iconst 1, 1) := by decide +kernel
theorem dJ6_bitCount_0f7a4_3 : decode cJ6_bitCount_0f7a4 3 = .ok (.iushr, 1) := by decide +kernel
theorem dJ6_bitCount_0f7a4_4 : decode cJ6_bitCount_0f7a4 4 = .ok (.ldc_w 265, 3) := by decide +kernel
theorem dJ6_bitCount_0f7a4_7 : decode cJ6_bitCount_0f7a4 7 = .ok (.iand, 1) := by decide +kernel
theorem dJ6_bitCount_0f7a4_8 : decode cJ6_bitCount_0f7a4 8 = .ok (.isub, 1) := by decide +kernel
theorem dJ6_bitCount_0f7a4_9 : decode cJ6_bitCount_0f7a4 9 = .ok (.istore_n 0, 1) := by decide +kernel
theorem dJ6_bitCount_0f7a4_10 : decode cJ6_bitCount_0f7a4 10 = .ok (.iload_n 0, 1) := by decide +kernel
theorem dJ6_bitCount_0f7a4_11 : decode cJ6_bitCount_0f7a4 11 = .ok (.ldc_w 266, 3) := by decide +kernel
theorem dJ6_bitCount_0f7a4_14 : decode cJ6_bitCount_0f7a4 14 = .ok (.iand, 1) := by decide +kernel
theorem dJ6_bitCount_0f7a4_15 : decode cJ6_bitCount_0f7a4 15 = .ok (.iload_n 0, 1) := by decide +kernel
theorem dJ6_bitCount_0f7a4_16 : decode cJ6_bitCount_0f7a4 16 = .ok (.iconst 2, 1) := by decide +kernel
theorem dJ6_bitCount_0f7a4_17 : decode cJ6_bitCount_0f7a4 17 = .ok (.iushr, 1) := by decide +kernel
theorem dJ6_bitCount_0f7a4_18 : decode cJ6_bitCount_0f7a4 18 = .ok (.ldc_w 266, 3) := by decide +kernel
theorem dJ6_bitCount_0f7a4_21 : decode cJ6_bitCount_0f7a4 21 = .ok (.iand, 1) := by decide +kernel
theorem dJ6_bitCount_0f7a4_22 : decode cJ6_bitCount_0f7a4 22 = .ok (.iadd, 1) := by decide +kernel
theorem dJ6_bitCount_0f7a4_23 : decode cJ6_bitCount_0f7a4 23 = .ok (.istore_n 0, 1) := by decide +kernel
theorem dJ6_bitCount_0f7a4_24 : decode cJ6_bitCount_0f7a4 24 = .ok (.iload_n 0, 1) := by decide +kernel
theorem dJ6_bitCount_0f7a4_25 : decode cJ6_bitCount_0f7a4 25 = .ok (.iload_n 0, 1) := by decide +kernel
theorem dJ6_bitCount_0f7a4_26 : decode cJ6_bitCount_0f7a4 26 = .ok (.iconst 4, 1) := by decide +kernel
theorem dJ6_bitCount_0f7a4_27 : decode cJ6_bitCount_0f7a4 27 = .ok (.iushr, 1) := by decide +kernel
theorem dJ6_bitCount_0f7a4_28 : decode cJ6_bitCount_0f7a4 28 = .ok (.iadd, 1) := by decide +kernel
theorem dJ6_bitCount_0f7a4_29 : decode cJ6_bitCount_0f7a4 29 = .ok (.ldc_w 267, 3) := by decide +kernel
theorem dJ6_bitCount_0f7a4_32 : decode cJ6_bitCount_0f7a4 32 = .ok (.iand, 1) := by decide +kernel
theorem dJ6_bitCount_0f7a4_33 : decode cJ6_bitCount_0f7a4 33 = .ok (.istore_n 0, 1) := by decide +kernel
theorem dJ6_bitCount_0f7a4_34 : decode cJ6_bitCount_0f7a4 34 = .ok (.iload_n 0, 1) := by decide +kernel
theorem dJ6_bitCount_0f7a4_35 : decode cJ6_bitCount_0f7a4 35 = .ok (.iload_n 0, 1) := by decide +kernel
theorem dJ6_bitCount_0f7a4_36 : decode cJ6_bitCount_0f7a4 36 = .ok (.bipush 8, 2) := by decide +kernel
theorem dJ6_bitCount_0f7a4_38 : decode cJ6_bitCount_0f7a4 38 = .ok (.iushr, 1) := by decide +kernel
theorem dJ6_bitCount_0f7a4_39 : decode cJ6_bitCount_0f7a4 39 = .ok (.iadd, 1) := by decide +kernel
theorem dJ6_bitCount_0f7a4_40 : decode cJ6_bitCount_0f7a4 40 = .ok (.istore_n 0, 1) := by decide +kernel
theorem dJ6_bitCount_0f7a4_41 : decode cJ6_bitCount_0f7a4 41 = .ok (.iload_n 0, 1) := by decide +kernel
theorem dJ6_bitCount_0f7a4_42 : decode cJ6_bitCount_0f7a4 42 = .ok (.iload_n 0, 1) := by decide +kernel
theorem dJ6_bitCount_0f7a4_43 : decode cJ6_bitCount_0f7a4 43 = .ok (.bipush 16, 2) := by decide +kernel
theorem dJ6_bitCount_0f7a4_45 : decode cJ6_bitCount_0f7a4 45 = .ok (.iushr, 1) := by decide +kernel
theorem dJ6_bitCount_0f7a4_46 : decode cJ6_bitCount_0f7a4 46 = .ok (.iadd, 1) := by decide +kernel
theorem dJ6_bitCount_0f7a4_47 : decode cJ6_bitCount_0f7a4 47 = .ok (.istore_n 0, 1) := by decide +kernel
theorem dJ6_bitCount_0f7a4_48 : decode cJ6_bitCount_0f7a4 48 = .ok (.iload_n 0, 1) := by decide +kernel
theorem dJ6_bitCount_0f7a4_49 : decode cJ6_bitCount_0f7a4 49 = .ok (.bipush 63, 2) := by decide +kernel
theorem dJ6_bitCount_0f7a4_51 : decode cJ6_bitCount_0f7a4 51 = .ok (.iand, 1) := by decide +kernel
theorem dJ6_bitCount_0f7a4_52 : decode cJ6_bitCount_0f7a4 52 = .ok (.ireturn, 1) := by decide +kernel
theorem dJ9_max_7cf53_0 : decode cJ9_max_7cf53 0 = .ok (.iload_n 0, 1) := by decide +kernel
theorem dJ9_max_7cf53_1 : decode cJ9_max_7cf53 1 = .ok (.iload_n 1, 1) := by decide +kernel
theorem dJ9_max_7cf53_2 : decode cJ9_max_7cf53 2 = .ok (.if_icmp .lt 7, 3) := by decide +kernel
theorem dJ9_max_7cf53_5 : decode cJ9_max_7cf53 5 = .ok (.iload_n 0, 1) := by decide +kernel
theorem dJ9_max_7cf53_6 : decode cJ9_max_7cf53 6 = .ok (.goto 4, 3) := by decide +kernel
theorem dJ9_max_7cf53_9 : decode cJ9_max_7cf53 9 = .ok (.iload_n 1, 1) := by decide +kernel
theorem dJ9_max_7cf53_10 : decode cJ9_max_7cf53 10 = .ok (.ireturn, 1) := by decide +kernel
theorem dJ9_min_7cf53_0 : decode cJ9_min_7cf53 0 = .ok (.iload_n 0, 1) := by decide +kernel
theorem dJ9_min_7cf53_1 : decode cJ9_min_7cf53 1 = .ok (.iload_n 1, 1) := by decide +kernel
theorem dJ9_min_7cf53_2 : decode cJ9_min_7cf53 2 = .ok (.if_icmp .gt 7, 3) := by decide +kernel
theorem dJ9_min_7cf53_5 : decode cJ9_min_7cf53 5 = .ok (.iload_n 0, 1) := by decide +kernel
theorem dJ9_min_7cf53_6 : decode cJ9_min_7cf53 6 = .ok (.goto 4, 3) := by decide +kernel
theorem dJ9_min_7cf53_9 : decode cJ9_min_7cf53 9 = .ok (.iload_n 1, 1) := by decide +kernel
theorem dJ9_min_7cf53_10 : decode cJ9_min_7cf53 10 = .ok (.ireturn, 1) := by decide +kernel
theorem dJ0_length_8abf5_0 : decode cJ0_length_8abf5 0 = .ok (.aload_n 0, 1) := by decide +kernel
theorem dJ0_length_8abf5_1 : decode cJ0_length_8abf5 1 = .ok (.getfield 9, 3) := by decide +kernel
theorem dJ0_length_8abf5_4 : decode cJ0_length_8abf5 4 = .ok (.arraylength, 1) := by decide +kernel
theorem dJ0_length_8abf5_5 : decode cJ0_length_8abf5 5 = .ok (.aload_n 0, 1) := by decide +kernel
theorem dJ0_length_8abf5_6 : decode cJ0_length_8abf5 6 = .ok (.invokevirtual 335, 3) := by decide +kernel
theorem dJ0_length_8abf5_9 : decode cJ0_length_8abf5 9 = .ok (.ishr, 1) := by decide +kernel
theorem dJ0_length_8abf5_10 : decode cJ0_length_8abf5 10 = .ok (.ireturn, 1) := by decide +kernel
theorem dJ0_indexOf_0f7a4_0 : decode cJ0_indexOf_0f7a4 0 = .ok (.aload_n 0, 1) := by decide +kernel
theorem dJ0_indexOf_0f7a4_1 : decode cJ0_indexOf_0f7a4 1 = .ok (.iload_n 1, 1) := by decide +kernel
theorem dJ0_indexOf_0f7a4_2 : decode cJ0_indexOf_0f7a4 2 = .ok (.iconst 0, 1) := by decide +kernel
theorem dJ0_indexOf_0f7a4_3 : decode cJ0_indexOf_0f7a4 3 = .ok (.invokevirtual 633, 3) := by decide +kernel
theorem dJ0_indexOf_0f7a4_6 : decode cJ0_indexOf_0f7a4 6 = .ok (.ireturn, 1) := by decide +kernel
theorem dJ0_indexOf_7cf53_0 : decode cJ0_indexOf_7cf53 0 = .ok (.aload_n 0, 1) := by decide +kernel
theorem dJ0_indexOf_7cf53_1 : decode cJ0_indexOf_7cf53 1 = .ok (.invokevirtual 492, 3) := by decide +kernel
theorem dJ0_indexOf_7cf53_4 : decode cJ0_indexOf_7cf53 4 = .ok (.ifCond .eq 19, 3) := by decide +kernel
theorem dJ0_indexOf_7cf53_7 : decode cJ0_indexOf_7cf53 7 = .ok (.aload_n 0, 1) := by decide +kernel
theorem dJ0_indexOf_7cf53_8 : decode cJ0_indexOf_7cf53 8 = .ok (.getfield 9, 3) := by decide +kernel
theorem dJ0_indexOf_7cf53_11 : decode cJ0_indexOf_7cf53 11 = .ok (.iload_n 1, 1) := by decide +kernel
theorem dJ0_indexOf_7cf53_12 : decode cJ0_indexOf_7cf53 12 = .ok (.iload_n 2, 1) := by decide +kernel
theorem dJ0_indexOf_7cf53_13 : decode cJ0_indexOf_7cf53 13 = .ok (.aload_n 0, 1) := by decide +kernel
theorem dJ0_indexOf_7cf53_14 : decode cJ0_indexOf_7cf53 14 = .ok (.invokevirtual 505, 3) := by decide +kernel
theorem dJ0_indexOf_7cf53_17 : decode cJ0_indexOf_7cf53 17 = .ok (.invokestatic 637, 3) := by decide +kernel
theorem dJ0_indexOf_7cf53_20 : decode cJ0_indexOf_7cf53 20 = .ok (.goto 16, 3) := by decide +kernel
theorem dJ0_indexOf_7cf53_23 : decode cJ0_indexOf_7cf53 23 = .ok (.aload_n 0, 1) := by decide +kernel
theorem dJ0_indexOf_7cf53_24 : decode cJ0_indexOf_7cf53 24 = .ok (.getfield 9, 3) := by decide +kernel
theorem dJ0_indexOf_7cf53_27 : decode cJ0_indexOf_7cf53 27 = .ok (.iload_n 1, 1) := by decide +kernel
theorem dJ0_indexOf_7cf53_28 : decode cJ0_indexOf_7cf53 28 = .ok (.iload_n 2, 1) := by decide +kernel
theorem dJ0_indexOf_7cf53_29 : decode cJ0_indexOf_7cf53 29 = .ok (.aload_n 0, 1) := by decide +kernel
theorem dJ0_indexOf_7cf53_30 : decode cJ0_indexOf_7cf53 30 = .ok (.invokevirtual 505, 3) := by decide +kernel
theorem dJ0_indexOf_7cf53_33 : decode cJ0_indexOf_7cf53 33 = .ok (.invokestatic 640, 3) := by decide +kernel
theorem dJ0_indexOf_7cf53_36 : decode cJ0_indexOf_7cf53 36 = .ok (.ireturn, 1) := by decide +kernel
theorem dJ0_coder_7d493_0 : decode cJ0_coder_7d493 0 = .ok (.getstatic 38, 3) := by decide +kernel
theorem dJ0_coder_7d493_3 : decode cJ0_coder_7d493 3 = .ok (.ifCond .eq 10, 3) := by decide +kernel
theorem dJ0_coder_7d493_6 : decode cJ0_coder_7d493 6 = .ok (.aload_n 0, 1) := by decide +kernel
theorem dJ0_coder_7d493_7 : decode cJ0_coder_7d493 7 = .ok (.getfield 15, 3) := by decide +kernel
theorem dJ0_coder_7d493_10 : decode cJ0_coder_7d493 10 = .ok (.goto 4, 3) := by decide +kernel
theorem dJ0_coder_7d493_13 : decode cJ0_coder_7d493 13 = .ok (.iconst 1, 1) := by decide +kernel
theorem dJ0_coder_7d493_14 : decode cJ0_coder_7d493 14 = .ok (.ireturn, 1) := by decide +kernel
theorem dJ0_isLatin1_aae02_0 : decode cJ0_isLatin1_aae02 0 = .ok (.getstatic 38, 3) := by decide +kernel
theorem dJ0_isLatin1_aae02_3 : decode cJ0_isLatin1_aae02 3 = .ok (.ifCond .eq 14, 3) := by decide +kernel
theorem dJ0_isLatin1_aae02_6 : decode cJ0_isLatin1_aae02 6 = .ok (.aload_n 0, 1) := by decide +kernel
theorem dJ0_isLatin1_aae02_7 : decode cJ0_isLatin1_aae02 7 = .ok (.getfield 15, 3) := by decide +kernel
theorem dJ0_isLatin1_aae02_10 : decode cJ0_isLatin1_aae02 10 = .ok (.ifCond .ne 7, 3) := by decide +kernel
theorem dJ0_isLatin1_aae02_13 : decode cJ0_isLatin1_aae02 13 = .ok (.iconst 1, 1) := by decide +kernel
theorem dJ0_isLatin1_aae02_14 : decode cJ0_isLatin1_aae02 14 = .ok (.goto 4, 3) := by decide +kernel
theorem dJ0_isLatin1_aae02_17 : decode cJ0_isLatin1_aae02 17 = .ok (.iconst 0, 1) := by decide +kernel
theorem dJ0_isLatin1_aae02_18 : decode cJ0_isLatin1_aae02 18 = .ok (.ireturn, 1) := by decide +kernel
theorem dJ0_checkBoundsBeginEnd_23922_0 : decode cJ0_checkBoundsBeginEnd_23922 0 = .ok (.iload_n 0, 1) := by decide +kernel
theorem dJ0_checkBoundsBeginEnd_23922_1 : decode cJ0_checkBoundsBeginEnd_23922 1 = .ok (.iload_n 1, 1) := by decide +kernel
theorem dJ0_checkBoundsBeginEnd_23922_2 : decode cJ0_checkBoundsBeginEnd_23922 2 = .ok (.iload_n 2, 1) := by decide +kernel
theorem dJ0_checkBoundsBeginEnd_23922_3 : decode cJ0_checkBoundsBeginEnd_23922 3 = .ok (.getstatic 1053, 3) := by decide +kernel
theorem dJ0_checkBoundsBeginEnd_23922_6 : decode cJ0_checkBoundsBeginEnd_23922 6 = .ok (.invokestatic 1062, 3) := by decide +kernel
theorem dJ0_checkBoundsBeginEnd_23922_9 : decode cJ0_checkBoundsBeginEnd_23922 9 = .ok (.pop, 1) := by decide +kernel
theorem dJ0_checkBoundsBeginEnd_23922_10 : decode cJ0_checkBoundsBeginEnd_23922 10 = .ok (.return_, 1) := by decide +kernel
theorem dJ1_canEncode_9a6ad_0 : decode cJ1_canEncode_9a6ad 0 = .ok (.iload_n 0, 1) := by decide +kernel
theorem dJ1_canEncode_9a6ad_1 : decode cJ1_canEncode_9a6ad 1 = .ok (.ifCond .lt 14, 3) := by decide +kernel
theorem dJ1_canEncode_9a6ad_4 : decode cJ1_canEncode_9a6ad 4 = .ok (.iload_n 0, 1) := by decide +kernel
theorem dJ1_canEncode_9a6ad_5 : decode cJ1_canEncode_9a6ad 5 = .ok (.sipush 255, 3) := by decide +kernel
theorem dJ1_canEncode_9a6ad_8 : decode cJ1_canEncode_9a6ad 8 = .ok (.if_icmp .gt 7, 3) := by decide +kernel
theorem dJ1_canEncode_9a6ad_11 : decode cJ1_canEncode_9a6ad 11 = .ok (.iconst 1, 1) := by decide +kernel
theorem dJ1_canEncode_9a6ad_12 : decode cJ1_canEncode_9a6ad 12 = .ok (.goto 4, 3) := by decide +kernel
theorem dJ1_canEncode_9a6ad_15 : decode cJ1_canEncode_9a6ad 15 = .ok (.iconst 0, 1) := by decide +kernel
theorem dJ1_canEncode_9a6ad_16 : decode cJ1_canEncode_9a6ad 16 = .ok (.ireturn, 1) := by decide +kernel
theorem dJ1_indexOf_4cfef_0 : decode cJ1_indexOf_4cfef 0 = .ok (.iload_n 1, 1) := by decide +kernel
theorem dJ1_indexOf_4cfef_1 : decode cJ1_indexOf_4cfef 1 = .ok (.invokestatic 88, 3) := by decide +kernel
theorem dJ1_indexOf_4cfef_4 : decode cJ1_indexOf_4cfef 4 = .ok (.ifCond .ne 5, 3) := by decide +kernel
theorem dJ1_indexOf_4cfef_7 : decode cJ1_indexOf_4cfef 7 = .ok (.iconst (-1), 1) := by decide +kernel
theorem dJ1_indexOf_4cfef_8 : decode cJ1_indexOf_4cfef 8 = .ok (.ireturn, 1) := by decide +kernel
theorem dJ1_indexOf_4cfef_9 : decode cJ1_indexOf_4cfef 9 = .ok (.iload_n 2, 1) := by decide +kernel
theorem dJ1_indexOf_4cfef_10 : decode cJ1_indexOf_4cfef 10 = .ok (.iconst 0, 1) := by decide +kernel
theorem dJ1_indexOf_4cfef_11 : decode cJ1_indexOf_4cfef 11 = .ok (.invokestatic 92, 3) := by decide +kernel
theorem dJ1_indexOf_4cfef_14 : decode cJ1_indexOf_4cfef 14 = .ok (.istore_n 2, 1) := by decide +kernel
theorem dJ1_indexOf_4cfef_15 : decode cJ1_indexOf_4cfef 15 = .ok (.iload_n 3, 1) := by decide +kernel
theorem dJ1_indexOf_4cfef_16 : decode cJ1_indexOf_4cfef 16 = .ok (.aload_n 0, 1) := by decide +kernel
theorem dJ1_indexOf_4cfef_17 : decode cJ1_indexOf_4cfef 17 = .ok (.arraylength, 1) := by decide +kernel
theorem dJ1_indexOf_4cfef_18 : decode cJ1_indexOf_4cfef 18 = .ok (.invokestatic 38, 3) := by decide +kernel
theorem dJ1_indexOf_4cfef_21 : decode cJ1_indexOf_4cfef 21 = .ok (.istore_n 3, 1) := by decide +kernel
theorem dJ1_indexOf_4cfef_22 : decode cJ1_indexOf_4cfef 22 = .ok (.iload_n 2, 1) := by decide +kernel
theorem dJ1_indexOf_4cfef_23 : decode cJ1_indexOf_4cfef 23 = .ok (.iload_n 3, 1) := by decide +kernel
theorem dJ1_indexOf_4cfef_24 : decode cJ1_indexOf_4cfef 24 = .ok (.if_icmp .lt 5, 3) := by decide +kernel
theorem dJ1_indexOf_4cfef_27 : decode cJ1_indexOf_4cfef 27 = .ok (.iconst (-1), 1) := by decide +kernel
theorem dJ1_indexOf_4cfef_28 : decode cJ1_indexOf_4cfef 28 = .ok (.ireturn, 1) := by decide +kernel
theorem dJ1_indexOf_4cfef_29 : decode cJ1_indexOf_4cfef 29 = .ok (.aload_n 0, 1) := by decide +kernel
theorem dJ1_indexOf_4cfef_30 : decode cJ1_indexOf_4cfef 30 = .ok (.iload_n 1, 1) := by decide +kernel
theorem dJ1_indexOf_4cfef_31 : decode cJ1_indexOf_4cfef 31 = .ok (.iload_n 2, 1) := by decide +kernel
theorem dJ1_indexOf_4cfef_32 : decode cJ1_indexOf_4cfef 32 = .ok (.iload_n 3, 1) := by decide +kernel
theorem dJ1_indexOf_4cfef_33 : decode cJ1_indexOf_4cfef 33 = .ok (.invokestatic 95, 3) := by decide +kernel
theorem dJ1_indexOf_4cfef_36 : decode cJ1_indexOf_4cfef 36 = .ok (.ireturn, 1) := by decide +kernel
theorem dJ1_indexOfChar_4cfef_0 : decode cJ1_indexOfChar_4cfef 0 = .ok (.iload_n 1, 1) := by decide +kernel
theorem dJ1_indexOfChar_4cfef_1 : decode cJ1_indexOfChar_4cfef 1 = .ok (.i2b, 1) := by decide +kernel
theorem dJ1_indexOfChar_4cfef_2 : decode cJ1_indexOfChar_4cfef 2 = .ok (.istore 4, 2) := by decide +kernel
theorem dJ1_indexOfChar_4cfef_4 : decode cJ1_indexOfChar_4cfef 4 = .ok (.iload_n 2, 1) := by decide +kernel
theorem dJ1_indexOfChar_4cfef_5 : decode cJ1_indexOfChar_4cfef 5 = .ok (.istore 5, 2) := by decide +kernel
theorem dJ1_indexOfChar_4cfef_7 : decode cJ1_indexOfChar_4cfef 7 = .ok (.iload 5, 2) := by decide +kernel
theorem dJ1_indexOfChar_4cfef_9 : decode cJ1_indexOfChar_4cfef 9 = .ok (.iload_n 3, 1) := by decide +kernel
theorem dJ1_indexOfChar_4cfef_10 : decode cJ1_indexOfChar_4cfef 10 = .ok (.if_icmp .ge 21, 3) := by decide +kernel
theorem dJ1_indexOfChar_4cfef_13 : decode cJ1_indexOfChar_4cfef 13 = .ok (.aload_n 0, 1) := by decide +kernel
theorem dJ1_indexOfChar_4cfef_14 : decode cJ1_indexOfChar_4cfef 14 = .ok (.iload 5, 2) := by decide +kernel
theorem dJ1_indexOfChar_4cfef_16 : decode cJ1_indexOfChar_4cfef 16 = .ok (.baload, 1) := by decide +kernel
theorem dJ1_indexOfChar_4cfef_17 : decode cJ1_indexOfChar_4cfef 17 = .ok (.iload 4, 2) := by decide +kernel
theorem dJ1_indexOfChar_4cfef_19 : decode cJ1_indexOfChar_4cfef 19 = .ok (.if_icmp .ne 6, 3) := by decide +kernel
theorem dJ1_indexOfChar_4cfef_22 : decode cJ1_indexOfChar_4cfef 22 = .ok (.iload 5, 2) := by decide +kernel
theorem dJ1_indexOfChar_4cfef_24 : decode cJ1_indexOfChar_4cfef 24 = .ok (.ireturn, 1) := by decide +kernel
theorem dJ1_indexOfChar_4cfef_25 : decode cJ1_indexOfChar_4cfef 25 = .ok (.iinc 5 1, 3) := by decide +kernel
theorem dJ1_indexOfChar_4cfef_28 : decode cJ1_indexOfChar_4cfef 28 = .ok (.goto (-21), 3) := by decide +kernel
theorem dJ1_indexOfChar_4cfef_31 : decode cJ1_indexOfChar_4cfef 31 = .ok (.iconst (-1), 1) := by decide +kernel
theorem dJ1_indexOfChar_4cfef_32 : decode cJ1_indexOfChar_4cfef 32 = .ok (.ireturn, 1) := by decide +kernel
theorem dJ2_getChar_3b067_0 : decode cJ2_getChar_3b067 0 = .ok (.getstatic 44, 3) := by decide +kernel
theorem dJ2_getChar_3b067_3 : decode cJ2_getChar_3b067 3 = .ok (.ifCond .ne 25, 3) := by decide +kernel
theorem dJ2_getChar_3b067_6 : decode cJ2_getChar_3b067 6 = .ok (.iload_n 1, 1) := by decide +kernel
theorem dJ2_getChar_3b067_7 : decode cJ2_getChar_3b067 7 = .ok (.ifCond .lt 11, 3) := by decide +kernel
theorem dJ2_getChar_3b067_10 : decode cJ2_getChar_3b067 10 = .ok (.iload_n 1, 1) := by decide +kernel
theorem dJ2_getChar_3b067_11 : decode cJ2_getChar_3b067 11 = .ok (.aload_n 0, 1) := by decide +kernel
theorem dJ2_getChar_3b067_12 : decode cJ2_getChar_3b067 12 = .ok (.invokestatic 48, 3) := by decide +kernel
theorem dJ2_getChar_3b067_15 : decode cJ2_getChar_3b067 15 = .ok (.if_icmp .lt 13, 3) := by decide +kernel
theorem dJ2_getChar_3b067_18 : decode cJ2_getChar_3b067 18 = .ok (.new 52, 3) := by decide +kernel
theorem dJ2_getChar_3b067_21 : decode cJ2_getChar_3b067 21 = .ok (.dup, 1) := by decide +kernel
theorem dJ2_getChar_3b067_22 : decode cJ2_getChar_3b067 22 = .ok (.ldc 54, 2) := by decide +kernel
theorem dJ2_getChar_3b067_24 : decode cJ2_getChar_3b067 24 = .ok (.invokespecial 56, 3) := by decide +kernel
theorem dJ2_getChar_3b067_27 : decode cJ2_getChar_3b067 27 = .ok (.athrow, 1) := by decide +kernel
theorem dJ2_getChar_3b067_28 : decode cJ2_getChar_3b067 28 = .ok (.iload_n 1, 1) := by decide +kernel
theorem dJ2_getChar_3b067_29 : decode cJ2_getChar_3b067 29 = .ok (.iconst 1, 1) := by decide +kernel
theorem dJ2_getChar_3b067_30 : decode cJ2_getChar_3b067 30 = .ok (.ishl, 1) := by decide +kernel
theorem dJ2_getChar_3b067_31 : decode cJ2_getChar_3b067 31 = .ok (.istore_n 1, 1) := by decide +kernel
theorem dJ2_getChar_3b067_32 : decode cJ2_getChar_3b067 32 = .ok (.aload_n 0, 1) := by decide +kernel
theorem dJ2_getChar_3b067_33 : decode cJ2_getChar_3b067 33 = .ok (.iload_n 1, 1) := by decide +kernel
theorem dJ2_getChar_3b067_34 : decode cJ2_getChar_3b067 34 = .ok (.iinc 1 1, 3) := by decide +kernel
theorem dJ2_getChar_3b067_37 : decode cJ2_getChar_3b067 37 = .ok (.baload, 1) := by decide +kernel
theorem dJ2_getChar_3b067_38 : decode cJ2_getChar_3b067 38 = .ok (.sipush 255, 3) := by decide +kernel
theorem dJ2_getChar_3b067_41 : decode cJ2_getChar_3b067 41 = .ok (.iand, 1) := by decide +kernel
theorem dJ2_getChar_3b067_42 : decode cJ2_getChar_3b067 42 = .ok (.getstatic 59, 3) := by decide +kernel
theorem dJ2_getChar_3b067_45 : decode cJ2_getChar_3b067 45 = .ok (.ishl, 1) := by decide +kernel
theorem dJ2_getChar_3b067_46 : decode cJ2_getChar_3b067 46 = .ok (.aload_n 0, 1) := by decide +kernel
theorem dJ2_getChar_3b067_47 : decode cJ2_getChar_3b067 47 = .ok (.iload_n 1, 1) := by decide +kernel
theorem dJ2_getChar_3b067_48 : decode cJ2_getChar_3b067 48 = .ok (.baload, 1) := by decide +kernel
theorem dJ2_getChar_3b067_49 : decode cJ2_getChar_3b067 49 = .ok (.sipush 255, 3) := by decide +kernel
theorem dJ2_getChar_3b067_52 : decode cJ2_getChar_3b067 52 = .ok (.iand, 1) := by decide +kernel
theorem dJ2_getChar_3b067_53 : decode cJ2_getChar_3b067 53 = .ok (.getstatic 63, 3) := by decide +kernel
theorem dJ2_getChar_3b067_56 : decode cJ2_getChar_3b067 56 = .ok (.ishl, 1) := by decide +kernel
theorem dJ2_getChar_3b067_57 : decode cJ2_getChar_3b067 57 = .ok (.ior, 1) := by decide +kernel
theorem dJ2_getChar_3b067_58 : decode cJ2_getChar_3b067 58 = .ok (.i2c, 1) := by decide +kernel
theorem dJ2_getChar_3b067_59 : decode cJ2_getChar_3b067 59 = .ok (.ireturn, 1) := by decide +kernel
theorem dJ2_length_9d52b_0 : decode cJ2_length_9d52b 0 = .ok (.aload_n 0, 1) := by decide +kernel
theorem dJ2_length_9d52b_1 : decode cJ2_length_9d52b 1 = .ok (.arraylength, 1) := by decide +kernel
theorem dJ2_length_9d52b_2 : decode cJ2_length_9d52b 2 = .ok (.iconst 1, 1) := by decide +kernel
theorem dJ2_length_9d52b_3 : decode cJ2_length_9d52b 3 = .ok (.ishr, 1) := by decide +kernel
theorem dJ2_length_9d52b_4 : decode cJ2_length_9d52b 4 = .ok (.ireturn, 1) := by decide +kernel
theorem dJ2_indexOf_4cfef_0 : decode cJ2_indexOf_4cfef 0 = .ok (.iload_n 2, 1) := by decide +kernel
theorem dJ2_indexOf_4cfef_1 : decode cJ2_indexOf_4cfef 1 = .ok (.iconst 0, 1) := by decide +kernel
theorem dJ2_indexOf_4cfef_2 : decode cJ2_indexOf_4cfef 2 = .ok (.invokestatic 224, 3) := by decide +kernel
theorem dJ2_indexOf_4cfef_5 : decode cJ2_indexOf_4cfef 5 = .ok (.istore_n 2, 1) := by decide +kernel
theorem dJ2_indexOf_4cfef_6 : decode cJ2_indexOf_4cfef 6 = .ok (.iload_n 3, 1) := by decide +kernel
theorem dJ2_indexOf_4cfef_7 : decode cJ2_indexOf_4cfef 7 = .ok (.aload_n 0, 1) := by decide +kernel
theorem dJ2_indexOf_4cfef_8 : decode cJ2_indexOf_4cfef 8 = .ok (.arraylength, 1) := by decide +kernel
theorem dJ2_indexOf_4cfef_9 : decode cJ2_indexOf_4cfef 9 = .ok (.iconst 1, 1) := by decide +kernel
theorem dJ2_indexOf_4cfef_10 : decode cJ2_indexOf_4cfef 10 = .ok (.ishr, 1) := by decide +kernel
theorem dJ2_indexOf_4cfef_11 : decode cJ2_indexOf_4cfef 11 = .ok (.invokestatic 183, 3) := by decide +kernel
theorem dJ2_indexOf_4cfef_14 : decode cJ2_indexOf_4cfef 14 = .ok (.istore_n 3, 1) := by decide +kernel
theorem dJ2_indexOf_4cfef_15 : decode cJ2_indexOf_4cfef 15 = .ok (.iload_n 2, 1) := by decide +kernel
theorem dJ2_indexOf_4cfef_16 : decode cJ2_indexOf_4cfef 16 = .ok (.iload_n 3, 1) := by decide +kernel
theorem dJ2_indexOf_4cfef_17 : decode cJ2_indexOf_4cfef 17 = .ok (.if_icmp .lt 5, 3) := by decide +kernel
theorem dJ2_indexOf_4cfef_20 : decode cJ2_indexOf_4cfef 20 = .ok (.iconst (-1), 1) := by decide +kernel
theorem dJ2_indexOf_4cfef_21 : decode cJ2_indexOf_4cfef 21 = .ok (.ireturn, 1) := by decide +kernel
theorem dJ2_indexOf_4cfef_22 : decode cJ2_indexOf_4cfef 22 = .ok (.iload_n 1, 1) := by decide +kernel
theorem dJ2_indexOf_4cfef_23 : decode cJ2_indexOf_4cfef 23 = .ok (.ldc 227, 2) := by decide +kernel
theorem dJ2_indexOf_4cfef_25 : decode cJ2_indexOf_4cfef 25 = .ok (.if_icmp .ge 11, 3) := by decide +kernel
theorem dJ2_indexOf_4cfef_28 : decode cJ2_indexOf_4cfef 28 = .ok (.aload_n 0, 1) := by decide +kernel
theorem dJ2_indexOf_4cfef_29 : decode cJ2_indexOf_4cfef 29 = .ok (.iload_n 1, 1) := by decide +kernel
theorem dJ2_indexOf_4cfef_30 : decode cJ2_indexOf_4cfef 30 = .ok (.iload_n 2, 1) := by decide +kernel
theorem dJ2_indexOf_4cfef_31 : decode cJ2_indexOf_4cfef 31 = .ok (.iload_n 3, 1) := by decide +kernel
theorem dJ2_indexOf_4cfef_32 : decode cJ2_indexOf_4cfef 32 = .ok (.invokestatic 228, 3) := by decide +kernel
theorem dJ2_indexOf_4cfef_35 : decode cJ2_indexOf_4cfef 35 = .ok (.ireturn, 1) := by decide +kernel
theorem dJ2_indexOf_4cfef_36 : decode cJ2_indexOf_4cfef 36 = .ok (.aload_n 0, 1) := by decide +kernel
theorem dJ2_indexOf_4cfef_37 : decode cJ2_indexOf_4cfef 37 = .ok (.iload_n 1, 1) := by decide +kernel
theorem dJ2_indexOf_4cfef_38 : decode cJ2_indexOf_4cfef 38 = .ok (.iload_n 2, 1) := by decide +kernel
theorem dJ2_indexOf_4cfef_39 : decode cJ2_indexOf_4cfef 39 = .ok (.iload_n 3, 1) := by decide +kernel
theorem dJ2_indexOf_4cfef_40 : decode cJ2_indexOf_4cfef 40 = .ok (.invokestatic 232, 3) := by decide +kernel
theorem dJ2_indexOf_4cfef_43 : decode cJ2_indexOf_4cfef 43 = .ok (.ireturn, 1) := by decide +kernel
theorem dJ2_indexOfChar_4cfef_0 : decode cJ2_indexOfChar_4cfef 0 = .ok (.iload_n 2, 1) := by decide +kernel
theorem dJ2_indexOfChar_4cfef_1 : decode cJ2_indexOfChar_4cfef 1 = .ok (.iload_n 3, 1) := by decide +kernel
theorem dJ2_indexOfChar_4cfef_2 : decode cJ2_indexOfChar_4cfef 2 = .ok (.aload_n 0, 1) := by decide +kernel
theorem dJ2_indexOfChar_4cfef_3 : decode cJ2_indexOfChar_4cfef 3 = .ok (.invokestatic 96, 3) := by decide +kernel
theorem dJ2_indexOfChar_4cfef_6 : decode cJ2_indexOfChar_4cfef 6 = .ok (.aload_n 0, 1) := by decide +kernel
theorem dJ2_indexOfChar_4cfef_7 : decode cJ2_indexOfChar_4cfef 7 = .ok (.iload_n 1, 1) := by decide +kernel
theorem dJ2_indexOfChar_4cfef_8 : decode cJ2_indexOfChar_4cfef 8 = .ok (.iload_n 2, 1) := by decide +kernel
theorem dJ2_indexOfChar_4cfef_9 : decode cJ2_indexOfChar_4cfef 9 = .ok (.iload_n 3, 1) := by decide +kernel
theorem dJ2_indexOfChar_4cfef_10 : decode cJ2_indexOfChar_4cfef 10 = .ok (.invokestatic 244, 3) := by decide +kernel
theorem dJ2_indexOfChar_4cfef_13 : decode cJ2_indexOfChar_4cfef 13 = .ok (.ireturn, 1) := by decide +kernel
theorem dJ2_indexOfCharUnsafe_4cfef_0 : decode cJ2_indexOfCharUnsafe_4cfef 0 = .ok (.iload_n 2, 1) := by decide +kernel
theorem dJ2_indexOfCharUnsafe_4cfef_1 : decode cJ2_indexOfCharUnsafe_4cfef 1 = .ok (.istore 4, 2) := by decide +kernel
theorem dJ2_indexOfCharUnsafe_4cfef_3 : decode cJ2_indexOfCharUnsafe_4cfef 3 = .ok (.iload 4, 2) := by decide +kernel
theorem dJ2_indexOfCharUnsafe_4cfef_5 : decode cJ2_indexOfCharUnsafe_4cfef 5 = .ok (.iload_n 3, 1) := by decide +kernel
theorem dJ2_indexOfCharUnsafe_4cfef_6 : decode cJ2_indexOfCharUnsafe_4cfef 6 = .ok (.if_icmp .ge 22, 3) := by decide +kernel
theorem dJ2_indexOfCharUnsafe_4cfef_9 : decode cJ2_indexOfCharUnsafe_4cfef 9 = .ok (.aload_n 0, 1) := by decide +kernel
theorem dJ2_indexOfCharUnsafe_4cfef_10 : decode cJ2_indexOfCharUnsafe_4cfef 10 = .ok (.iload 4, 2) := by decide +kernel
theorem dJ2_indexOfCharUnsafe_4cfef_12 : decode cJ2_indexOfCharUnsafe_4cfef 12 = .ok (.invokestatic 71, 3) := by decide +kernel
theorem dJ2_indexOfCharUnsafe_4cfef_15 : decode cJ2_indexOfCharUnsafe_4cfef 15 = .ok (.iload_n 1, 1) := by decide +kernel
theorem dJ2_indexOfCharUnsafe_4cfef_16 : decode cJ2_indexOfCharUnsafe_4cfef 16 = .ok (.if_icmp .ne 6, 3) := by decide +kernel
theorem dJ2_indexOfCharUnsafe_4cfef_19 : decode cJ2_indexOfCharUnsafe_4cfef 19 = .ok (.iload 4, 2) := by decide +kernel
theorem dJ2_indexOfCharUnsafe_4cfef_21 : decode cJ2_indexOfCharUnsafe_4cfef 21 = .ok (.ireturn, 1) := by decide +kernel
theorem dJ2_indexOfCharUnsafe_4cfef_22 : decode cJ2_indexOfCharUnsafe_4cfef 22 = .ok (.iinc 4 1, 3) := by decide +kernel
theorem dJ2_indexOfCharUnsafe_4cfef_25 : decode cJ2_indexOfCharUnsafe_4cfef 25 = .ok (.goto (-22), 3) := by decide +kernel
theorem dJ2_indexOfCharUnsafe_4cfef_28 : decode cJ2_indexOfCharUnsafe_4cfef 28 = .ok (.iconst (-1), 1) := by decide +kernel
theorem dJ2_indexOfCharUnsafe_4cfef_29 : decode cJ2_indexOfCharUnsafe_4cfef 29 = .ok (.ireturn, 1) := by decide +kernel
theorem dJ2_indexOfSupplementary_4cfef_0 : decode cJ2_indexOfSupplementary_4cfef 0 = .ok (.iload_n 1, 1) := by decide +kernel
theorem dJ2_indexOfSupplementary_4cfef_1 : decode cJ2_indexOfSupplementary_4cfef 1 = .ok (.invokestatic 164, 3) := by decide +kernel
theorem dJ2_indexOfSupplementary_4cfef_4 : decode cJ2_indexOfSupplementary_4cfef 4 = .ok (.ifCond .eq 65, 3) := by decide +kernel
theorem dJ2_indexOfSupplementary_4cfef_7 : decode cJ2_indexOfSupplementary_4cfef 7 = .ok (.iload_n 1, 1) := by decide +kernel
theorem dJ2_indexOfSupplementary_4cfef_8 : decode cJ2_indexOfSupplementary_4cfef 8 = .ok (.invokestatic 157, 3) := by decide +kernel
theorem dJ2_indexOfSupplementary_4cfef_11 : decode cJ2_indexOfSupplementary_4cfef 11 = .ok (.istore 4, 2) := by decide +kernel
theorem dJ2_indexOfSupplementary_4cfef_13 : decode cJ2_indexOfSupplementary_4cfef 13 = .ok (.iload_n 1, 1) := by decide +kernel
theorem dJ2_indexOfSupplementary_4cfef_14 : decode cJ2_indexOfSupplementary_4cfef 14 = .ok (.invokestatic 161, 3) := by decide +kernel
theorem dJ2_indexOfSupplementary_4cfef_17 : decode cJ2_indexOfSupplementary_4cfef 17 = .ok (.istore 5, 2) := by decide +kernel
theorem dJ2_indexOfSupplementary_4cfef_19 : decode cJ2_indexOfSupplementary_4cfef 19 = .ok (.iload_n 2, 1) := by decide +kernel
theorem dJ2_indexOfSupplementary_4cfef_20 : decode cJ2_indexOfSupplementary_4cfef 20 = .ok (.iload_n 3, 1) := by decide +kernel
theorem dJ2_indexOfSupplementary_4cfef_21 : decode cJ2_indexOfSupplementary_4cfef 21 = .ok (.aload_n 0, 1) := by decide +kernel
theorem dJ2_indexOfSupplementary_4cfef_22 : decode cJ2_indexOfSupplementary_4cfef 22 = .ok (.invokestatic 96, 3) := by decide +kernel
theorem dJ2_indexOfSupplementary_4cfef_25 : decode cJ2_indexOfSupplementary_4cfef 25 = .ok (.iload_n 2, 1) := by decide +kernel
theorem dJ2_indexOfSupplementary_4cfef_26 : decode cJ2_indexOfSupplementary_4cfef 26 = .ok (.istore 6, 2) := by decide +kernel
theorem dJ2_indexOfSupplementary_4cfef_28 : decode cJ2_indexOfSupplementary_4cfef 28 = .ok (.iload 6, 2) := by decide +kernel
theorem dJ2_indexOfSupplementary_4cfef_30 : decode cJ2_indexOfSupplementary_4cfef 30 = .ok (.iload_n 3, 1) := by decide +kernel
theorem dJ2_indexOfSupplementary_4cfef_31 : decode cJ2_indexOfSupplementary_4cfef 31 = .ok (.iconst 1, 1) := by decide +kernel
theorem dJ2_indexOfSupplementary_4cfef_32 : decode cJ2_indexOfSupplementary_4cfef 32 = .ok (.isub, 1) := by decide +kernel
theorem dJ2_indexOfSupplementary_4cfef_33 : decode cJ2_indexOfSupplementary_4cfef 33 = .ok (.if_icmp .ge 36, 3) := by decide +kernel
theorem dJ2_indexOfSupplementary_4cfef_36 : decode cJ2_indexOfSupplementary_4cfef 36 = .ok (.aload_n 0, 1) := by decide +kernel
theorem dJ2_indexOfSupplementary_4cfef_37 : decode cJ2_indexOfSupplementary_4cfef 37 = .ok (.iload 6, 2) := by decide +kernel
theorem dJ2_indexOfSupplementary_4cfef_39 : decode cJ2_indexOfSupplementary_4cfef 39 = .ok (.invokestatic 71, 3) := by decide +kernel
theorem dJ2_indexOfSupplementary_4cfef_42 : decode cJ2_indexOfSupplementary_4cfef 42 = .ok (.iload 4, 2) := by decide +kernel
theorem dJ2_indexOfSupplementary_4cfef_44 : decode cJ2_indexOfSupplementary_4cfef 44 = .ok (.if_icmp .ne 19, 3) := by decide +kernel
theorem dJ2_indexOfSupplementary_4cfef_47 : decode cJ2_indexOfSupplementary_4cfef 47 = .ok (.aload_n 0, 1) := by decide +kernel
theorem dJ2_indexOfSupplementary_4cfef_48 : decode cJ2_indexOfSupplementary_4cfef 48 = .ok (.iload 6, 2) := by decide +kernel
theorem dJ2_indexOfSupplementary_4cfef_50 : decode cJ2_indexOfSupplementary_4cfef 50 = .ok (.iconst 1, 1) := by decide +kernel
theorem dJ2_indexOfSupplementary_4cfef_51 : decode cJ2_indexOfSupplementary_4cfef 51 = .ok (.iadd, 1) := by decide +kernel
theorem dJ2_indexOfSupplementary_4cfef_52 : decode cJ2_indexOfSupplementary_4cfef 52 = .ok (.invokestatic 71, 3) := by decide +kernel
theorem dJ2_indexOfSupplementary_4cfef_55 : decode cJ2_indexOfSupplementary_4cfef 55 = .ok (.iload 5, 2) := by decide +kernel
theorem dJ2_indexOfSupplementary_4cfef_57 : decode cJ2_indexOfSupplementary_4cfef 57 = .ok (.if_icmp .ne 6, 3) := by decide +kernel
theorem dJ2_indexOfSupplementary_4cfef_60 : decode cJ2_indexOfSupplementary_4cfef 60 = .ok (.iload 6, 2) := by decide +kernel
theorem dJ2_indexOfSupplementary_4cfef_62 : decode cJ2_indexOfSupplementary_4cfef 62 = .ok (.ireturn, 1) := by decide +kernel
theorem dJ2_indexOfSupplementary_4cfef_63 : decode cJ2_indexOfSupplementary_4cfef 63 = .ok (.iinc 6 1, 3) := by decide +kernel
theorem dJ2_indexOfSupplementary_4cfef_66 : decode cJ2_indexOfSupplementary_4cfef 66 = .ok (.goto (-38), 3) := by decide +kernel
theorem dJ2_indexOfSupplementary_4cfef_69 : decode cJ2_indexOfSupplementary_4cfef 69 = .ok (.iconst (-1), 1) := by decide +kernel
theorem dJ2_indexOfSupplementary_4cfef_70 : decode cJ2_indexOfSupplementary_4cfef 70 = .ok (.ireturn, 1) := by decide +kernel
theorem dJ2_checkBoundsBeginEnd_d044e_0 : decode cJ2_checkBoundsBeginEnd_d044e 0 = .ok (.iload_n 0, 1) := by decide +kernel
theorem dJ2_checkBoundsBeginEnd_d044e_1 : decode cJ2_checkBoundsBeginEnd_d044e 1 = .ok (.iload_n 1, 1) := by decide +kernel
theorem dJ2_checkBoundsBeginEnd_d044e_2 : decode cJ2_checkBoundsBeginEnd_d044e 2 = .ok (.aload_n 2, 1) := by decide +kernel
theorem dJ2_checkBoundsBeginEnd_d044e_3 : decode cJ2_checkBoundsBeginEnd_d044e 3 = .ok (.invokestatic 48, 3) := by decide +kernel
theorem dJ2_checkBoundsBeginEnd_d044e_6 : decode cJ2_checkBoundsBeginEnd_d044e 6 = .ok (.invokestatic 241, 3) := by decide +kernel
theorem dJ2_checkBoundsBeginEnd_d044e_9 : decode cJ2_checkBoundsBeginEnd_d044e 9 = .ok (.return_, 1) := by decide +kernel
theorem dJ3_checkFromToIndex_8c36e_0 : decode cJ3_checkFromToIndex_8c36e 0 = .ok (.iload_n 0, 1) := by decide +kernel
theorem dJ3_checkFromToIndex_8c36e_1 : decode cJ3_checkFromToIndex_8c36e 1 = .ok (.ifCond .lt 13, 3) := by decide +kernel
theorem dJ3_checkFromToIndex_8c36e_4 : decode cJ3_checkFromToIndex_8c36e 4 = .ok (.iload_n 0, 1) := by decide +kernel
theorem dJ3_checkFromToIndex_8c36e_5 : decode cJ3_checkFromToIndex_8c36e 5 = .ok (.iload_n 1, 1) := by decide +kernel
theorem dJ3_checkFromToIndex_8c36e_6 : decode cJ3_checkFromToIndex_8c36e 6 = .ok (.if_icmp .gt 8, 3) := by decide +kernel
theorem dJ3_checkFromToIndex_8c36e_9 : decode cJ3_checkFromToIndex_8c36e 9 = .ok (.iload_n 1, 1) := by decide +kernel
theorem dJ3_checkFromToIndex_8c36e_10 : decode cJ3_checkFromToIndex_8c36e 10 = .ok (.iload_n 2, 1) := by decide +kernel
theorem dJ3_checkFromToIndex_8c36e_11 : decode cJ3_checkFromToIndex_8c36e 11 = .ok (.if_icmp .le 11, 3) := by decide +kernel
theorem dJ3_checkFromToIndex_8c36e_14 : decode cJ3_checkFromToIndex_8c36e 14 = .ok (.aload_n 3, 1) := by decide +kernel
theorem dJ3_checkFromToIndex_8c36e_15 : decode cJ3_checkFromToIndex_8c36e 15 = .ok (.iload_n 0, 1) := by decide +kernel
theorem dJ3_checkFromToIndex_8c36e_16 : decode cJ3_checkFromToIndex_8c36e 16 = .ok (.iload_n 1, 1) := by decide +kernel
theorem dJ3_checkFromToIndex_8c36e_17 : decode cJ3_checkFromToIndex_8c36e 17 = .ok (.iload_n 2, 1) := by decide +kernel
theorem dJ3_checkFromToIndex_8c36e_18 : decode cJ3_checkFromToIndex_8c36e 18 = .ok (.invokestatic 99, 3) := by decide +kernel
theorem dJ3_checkFromToIndex_8c36e_21 : decode cJ3_checkFromToIndex_8c36e 21 = .ok (.athrow, 1) := by decide +kernel
theorem dJ3_checkFromToIndex_8c36e_22 : decode cJ3_checkFromToIndex_8c36e 22 = .ok (.iload_n 0, 1) := by decide +kernel
theorem dJ3_checkFromToIndex_8c36e_23 : decode cJ3_checkFromToIndex_8c36e 23 = .ok (.ireturn, 1) := by decide +kernel
