theorem dX7_init_0 : decode cX7_init 0 = .ok (.aload_n 0, 1) := by decide +kernel
theorem dX7_init_1 : decode cX7_init 1 = .ok (.invokespecial 3, 3) := by decide +kernel
theorem dX7_init_4 : decode cX7_init 4 = .ok (.aload_n 0, 1) := by decide +kernel
theorem dX7_init_5 : decode cX7_init 5 = .ok (.sipush 385, 3) := by decide +kernel
theorem dX7_init_8 : decode cX7_init 8 = .ok (.newarray .int, 2) := by decide +kernel
theorem dX7_init_10 : decode cX7_init 10 = .ok (.putfield 9, 3) := by decide +kernel
theorem dX7_init_13 : decode cX7_init 13 = .ok (.aload_n 0, 1) := by decide +kernel
theorem dX7_init_14 : decode cX7_init 14 = .ok (.sipush 385, 3) := by decide +kernel
theorem dX7_init_17 : decode cX7_init 17 = .ok (.newarray .int, 2) := by decide +kernel
theorem dX7_init_19 : decode cX7_init 19 = .ok (.putfield 13, 3) := by decide +kernel
theorem dX7_init_22 : decode cX7_init 22 = .ok (.aload_n 0, 1) := by decide +kernel
theorem dX7_init_23 : decode cX7_init 23 = .ok (.sipush 385, 3) := by decide +kernel
theorem dX7_init_26 : decode cX7_init 26 = .ok (.newarray .int, 2) := by decide +kernel
theorem dX7_init_28 : decode cX7_init 28 = .ok (.putfield 16, 3) := by decide +kernel
theorem dX7_init_31 : decode cX7_init 31 = .ok (.aload_n 0, 1) := by decide +kernel
theorem dX7_init_32 : decode cX7_init 32 = .ok (.bipush 7, 2) := by decide +kernel
theorem dX7_init_34 : decode cX7_init 34 = .ok (.newarray .int, 2) := by decide +kernel
theorem dX7_init_36 : decode cX7_init 36 = .ok (.putfield 19, 3) := by decide +kernel
theorem dX7_init_39 : decode cX7_init 39 = .ok (.aload_n 0, 1) := by decide +kernel
theorem dX7_init_40 : decode cX7_init 40 = .ok (.iconst 4, 1) := by decide +kernel
theorem dX7_init_41 : decode cX7_init 41 = .ok (.newarray .int, 2) := by decide +kernel
theorem dX7_init_43 : decode cX7_init 43 = .ok (.putfield 22, 3) := by decide +kernel
theorem dX7_init_46 : decode cX7_init 46 = .ok (.aload_n 0, 1) := by decide +kernel
theorem dX7_init_47 : decode cX7_init 47 = .ok (.iconst 4, 1) := by decide +kernel
theorem dX7_init_48 : decode cX7_init 48 = .ok (.newarray .int, 2) := by decide +kernel
theorem dX7_init_50 : decode cX7_init 50 = .ok (.putfield 25, 3) := by decide +kernel
theorem dX7_init_53 : decode cX7_init 53 = .ok (.aload_n 0, 1) := by decide +kernel
theorem dX7_init_54 : decode cX7_init 54 = .ok (.bipush 96, 2) := by decide +kernel
theorem dX7_init_56 : decode cX7_init 56 = .ok (.newarray .int, 2) := by decide +kernel
theorem dX7_init_58 : decode cX7_init 58 = .ok (.putfield 28, 3) := by decide +kernel
theorem dX7_init_61 : decode cX7_init 61 = .ok (.aload_n 0, 1) := by decide +kernel
theorem dX7_init_62 : decode cX7_init 62 = .ok (.bipush 100, 2) := by decide +kernel
theorem dX7_init_64 : decode cX7_init 64 = .ok (.newarray .int, 2) := by decide +kernel
theorem dX7_init_66 : decode cX7_init 66 = .ok (.putfield 31, 3) := by decide +kernel
theorem dX7_init_69 : decode cX7_init 69 = .ok (.aload_n 0, 1) := by decide +kernel
theorem dX7_init_70 : decode cX7_init 70 = .ok (.bipush 60, 2) := by decide +kernel
theorem dX7_init_72 : decode cX7_init 72 = .ok (.newarray .int, 2) := by decide +kernel
theorem dX7_init_74 : decode cX7_init 74 = .ok (.putfield 34, 3) := by decide +kernel
theorem dX7_init_77 : decode cX7_init 77 = .ok (.aload_n 0, 1) := by decide +kernel
theorem dX7_init_78 : decode cX7_init 78 = .ok (.bipush 60, 2) := by decide +kernel
theorem dX7_init_80 : decode cX7_init 80 = .ok (.newarray .int, 2) := by decide +kernel
theorem dX7_init_82 : decode cX7_init 82 = .ok (.putfield 37, 3) := by decide +kernel
theorem dX7_init_85 : decode cX7_init 85 = .ok (.aload_n 0, 1) := by decide +kernel
theorem dX7_init_86 : decode cX7_init 86 = .ok (.iconst 3, 1) := by decide +kernel
theorem dX7_init_87 : decode cX7_init 87 = .ok (.newarray .int, 2) := by decide +kernel
theorem dX7_init_89 : decode cX7_init 89 = .ok (.putfield 40, 3) := by decide +kernel
theorem dX7_init_92 : decode cX7_init 92 = .ok (.aload_n 0, 1) := by decide +kernel
theorem dX7_init_93 : decode cX7_init 93 = .ok (.bipush 60, 2) := by decide +kernel
theorem dX7_init_95 : decode cX7_init 95 = .ok (.newarray .int, 2) := by decide +kernel
theorem dX7_init_97 : decode cX7_init 97 = .ok (.putfield 43, 3) := by decide +kernel
theorem dX7_init_100 : decode cX7_init 100 = .ok (.aload_n 0, 1) := by decide +kernel
theorem dX7_init_101 : decode cX7_init 101 = .ok (.bipush 8, 2) := by decide +kernel
theorem dX7_init_103 : decode cX7_init 103 = .ok (.newarray .int, 2) := by decide +kernel
theorem dX7_init_105 : decode cX7_init 105 = .ok (.putfield 46, 3) := by decide +kernel
theorem dX7_init_108 : decode cX7_init 108 = .ok (.aload_n 0, 1) := by decide +kernel
theorem dX7_init_109 : decode cX7_init 109 = .ok (.bipush 30, 2) := by decide +kernel
theorem dX7_init_111 : decode cX7_init 111 = .ok (.newarray .int, 2) := by decide +kernel
theorem dX7_init_113 : decode cX7_init 113 = .ok (.putfield 49, 3) := by decide +kernel
theorem dX7_init_116 : decode cX7_init 116 = .ok (.aload_n 0, 1) := by decide +kernel
theorem dX7_init_117 : decode cX7_init 117 = .ok (.getfield 9, 3) := by decide +kernel
theorem dX7_init_120 : decode cX7_init 120 = .ok (.iconst 1, 1) := by decide +kernel
theorem dX7_init_121 : decode cX7_init 121 = .ok (.iconst 1, 1) := by decide +kernel
theorem dX7_init_122 : decode cX7_init 122 = .ok (.iastore, 1) := by decide +kernel
theorem dX7_init_123 : decode cX7_init 123 = .ok (.iconst 0, 1) := by decide +kernel
theorem dX7_init_124 : decode cX7_init 124 = .ok (.istore_n 1, 1) := by decide +kernel
theorem dX7_init_125 : decode cX7_init 125 = .ok (.iload_n 1, 1) := by decide +kernel
theorem dX7_init_126 : decode cX7_init 126 = .ok (.iconst 4, 1) := by decide +kernel
theorem dX7_init_127 : decode cX7_init 127 = .ok (.if_icmp .ge 18, 3) := by decide +kernel
theorem dX7_init_130 : decode cX7_init 130 = .ok (.aload_n 0, 1) := by decide +kernel
theorem dX7_init_131 : decode cX7_init 131 = .ok (.getfield 9, 3) := by decide +kernel
theorem dX7_init_134 : decode cX7_init 134 = .ok (.iconst 5, 1) := by decide +kernel
theorem dX7_init_135 : decode cX7_init 135 = .ok (.iload_n 1, 1) := by decide +kernel
theorem dX7_init_136 : decode cX7_init 136 = .ok (.iadd, 1) := by decide +kernel
theorem dX7_init_137 : decode cX7_init 137 = .ok (.iload_n 1, 1) := by decide +kernel
theorem dX7_init_138 : decode cX7_init 138 = .ok (.iastore, 1) := by decide +kernel
theorem dX7_init_139 : decode cX7_init 139 = .ok (.iinc 1 1, 3) := by decide +kernel
theorem dX7_init_142 : decode cX7_init 142 = .ok (.goto (-17), 3) := by decide +kernel
theorem dX7_init_145 : decode cX7_init 145 = .ok (.return_, 1) := by decide +kernel
theorem dX7_error_0 : decode cX7_error 0 = .ok (.aload_n 0, 1) := by decide +kernel
theorem dX7_error_1 : decode cX7_error 1 = .ok (.getfield 19, 3) := by decide +kernel
theorem dX7_error_4 : decode cX7_error 4 = .ok (.ldc 52, 2) := by decide +kernel
theorem dX7_error_6 : decode cX7_error 6 = .ok (.iload_n 1, 1) := by decide +kernel
theorem dX7_error_7 : decode cX7_error 7 = .ok (.isub, 1) := by decide +kernel
theorem dX7_error_8 : decode cX7_error 8 = .ok (.dup2, 1) := by decide +kernel
theorem dX7_error_9 : decode cX7_error 9 = .ok (.iaload, 1) := by decide +kernel
theorem dX7_error_10 : decode cX7_error 10 = .ok (.iconst 1, 1) := by decide +kernel
theorem dX7_error_11 : decode cX7_error 11 = .ok (.iadd, 1) := by decide +kernel
theorem dX7_error_12 : decode cX7_error 12 = .ok (.iastore, 1) := by decide +kernel
theorem dX7_error_13 : decode cX7_error 13 = .ok (.iload_n 1, 1) := by decide +kernel
theorem dX7_error_14 : decode cX7_error 14 = .ok (.ireturn, 1) := by decide +kernel
theorem dX7_in_0 : decode cX7_in 0 = .ok (.iload_n 0, 1) := by decide +kernel
theorem dX7_in_1 : decode cX7_in 1 = .ok (.iload_n 1, 1) := by decide +kernel
theorem dX7_in_2 : decode cX7_in 2 = .ok (.if_icmp .lt 12, 3) := by decide +kernel
theorem dX7_in_5 : decode cX7_in 5 = .ok (.iload_n 0, 1) := by decide +kernel
theorem dX7_in_6 : decode cX7_in 6 = .ok (.iload_n 2, 1) := by decide +kernel
theorem dX7_in_7 : decode cX7_in 7 = .ok (.if_icmp .gt 7, 3) := by decide +kernel
theorem dX7_in_10 : decode cX7_in 10 = .ok (.iconst 1, 1) := by decide +kernel
theorem dX7_in_11 : decode cX7_in 11 = .ok (.goto 4, 3) := by decide +kernel
theorem dX7_in_14 : decode cX7_in 14 = .ok (.iconst 0, 1) := by decide +kernel
theorem dX7_in_15 : decode cX7_in 15 = .ok (.ireturn, 1) := by decide +kernel
theorem dX7_held_0 : decode cX7_held 0 = .ok (.iload_n 0, 1) := by decide +kernel
theorem dX7_held_1 : decode cX7_held 1 = .ok (.iload_n 1, 1) := by decide +kernel
theorem dX7_held_2 : decode cX7_held 2 = .ok (.if_icmp .ge 7, 3) := by decide +kernel
theorem dX7_held_5 : decode cX7_held 5 = .ok (.iload_n 1, 1) := by decide +kernel
theorem dX7_held_6 : decode cX7_held 6 = .ok (.goto 13, 3) := by decide +kernel
theorem dX7_held_9 : decode cX7_held 9 = .ok (.iload_n 0, 1) := by decide +kernel
theorem dX7_held_10 : decode cX7_held 10 = .ok (.iload_n 2, 1) := by decide +kernel
theorem dX7_held_11 : decode cX7_held 11 = .ok (.if_icmp .le 7, 3) := by decide +kernel
theorem dX7_held_14 : decode cX7_held 14 = .ok (.iload_n 2, 1) := by decide +kernel
theorem dX7_held_15 : decode cX7_held 15 = .ok (.goto 4, 3) := by decide +kernel
theorem dX7_held_18 : decode cX7_held 18 = .ok (.iload_n 0, 1) := by decide +kernel
theorem dX7_held_19 : decode cX7_held 19 = .ok (.ireturn, 1) := by decide +kernel
theorem dX7_copyAll_0 : decode cX7_copyAll 0 = .ok (.iconst 0, 1) := by decide +kernel
theorem dX7_copyAll_1 : decode cX7_copyAll 1 = .ok (.istore_n 2, 1) := by decide +kernel
theorem dX7_copyAll_2 : decode cX7_copyAll 2 = .ok (.iload_n 2, 1) := by decide +kernel
theorem dX7_copyAll_3 : decode cX7_copyAll 3 = .ok (.sipush 385, 3) := by decide +kernel
theorem dX7_copyAll_6 : decode cX7_copyAll 6 = .ok (.if_icmp .ge 15, 3) := by decide +kernel
theorem dX7_copyAll_9 : decode cX7_copyAll 9 = .ok (.aload_n 1, 1) := by decide +kernel
theorem dX7_copyAll_10 : decode cX7_copyAll 10 = .ok (.iload_n 2, 1) := by decide +kernel
theorem dX7_copyAll_11 : decode cX7_copyAll 11 = .ok (.aload_n 0, 1) := by decide +kernel
theorem dX7_copyAll_12 : decode cX7_copyAll 12 = .ok (.iload_n 2, 1) := by decide +kernel
theorem dX7_copyAll_13 : decode cX7_copyAll 13 = .ok (.iaload, 1) := by decide +kernel
theorem dX7_copyAll_14 : decode cX7_copyAll 14 = .ok (.iastore, 1) := by decide +kernel
theorem dX7_copyAll_15 : decode cX7_copyAll 15 = .ok (.iinc 2 1, 3) := by decide +kernel
theorem dX7_copyAll_18 : decode cX7_copyAll 18 = .ok (.goto (-16), 3) := by decide +kernel
theorem dX7_copyAll_21 : decode cX7_copyAll 21 = .ok (.return_, 1) := by decide +kernel
theorem dX7_thinks_0 : decode cX7_thinks 0 = .ok (.aload_n 0, 1) := by decide +kernel
theorem dX7_thinks_1 : decode cX7_thinks 1 = .ok (.getfield 9, 3) := by decide +kernel
theorem dX7_thinks_4 : decode cX7_thinks 4 = .ok (.aload_n 0, 1) := by decide +kernel
theorem dX7_thinks_5 : decode cX7_thinks 5 = .ok (.getfield 16, 3) := by decide +kernel
theorem dX7_thinks_8 : decode cX7_thinks 8 = .ok (.invokestatic 53, 3) := by decide +kernel
theorem dX7_thinks_11 : decode cX7_thinks 11 = .ok (.return_, 1) := by decide +kernel
theorem dX7_putsBack_0 : decode cX7_putsBack 0 = .ok (.aload_n 0, 1) := by decide +kernel
theorem dX7_putsBack_1 : decode cX7_putsBack 1 = .ok (.getfield 16, 3) := by decide +kernel
theorem dX7_putsBack_4 : decode cX7_putsBack 4 = .ok (.aload_n 0, 1) := by decide +kernel
theorem dX7_putsBack_5 : decode cX7_putsBack 5 = .ok (.getfield 9, 3) := by decide +kernel
theorem dX7_putsBack_8 : decode cX7_putsBack 8 = .ok (.invokestatic 53, 3) := by decide +kernel
theorem dX7_putsBack_11 : decode cX7_putsBack 11 = .ok (.return_, 1) := by decide +kernel
theorem dX7_bits_0 : decode cX7_bits 0 = .ok (.iconst 0, 1) := by decide +kernel
theorem dX7_bits_1 : decode cX7_bits 1 = .ok (.istore_n 1, 1) := by decide +kernel
theorem dX7_bits_2 : decode cX7_bits 2 = .ok (.iload_n 0, 1) := by decide +kernel
theorem dX7_bits_3 : decode cX7_bits 3 = .ok (.istore_n 2, 1) := by decide +kernel
theorem dX7_bits_4 : decode cX7_bits 4 = .ok (.iload_n 2, 1) := by decide +kernel
theorem dX7_bits_5 : decode cX7_bits 5 = .ok (.ifCond .eq 15, 3) := by decide +kernel
theorem dX7_bits_8 : decode cX7_bits 8 = .ok (.iinc 1 1, 3) := by decide +kernel
theorem dX7_bits_11 : decode cX7_bits 11 = .ok (.iload_n 2, 1) := by decide +kernel
theorem dX7_bits_12 : decode cX7_bits 12 = .ok (.iload_n 2, 1) := by decide +kernel
theorem dX7_bits_13 : decode cX7_bits 13 = .ok (.iconst 1, 1) := by decide +kernel
theorem dX7_bits_14 : decode cX7_bits 14 = .ok (.isub, 1) := by decide +kernel
theorem dX7_bits_15 : decode cX7_bits 15 = .ok (.iand, 1) := by decide +kernel
theorem dX7_bits_16 : decode cX7_bits 16 = .ok (.istore_n 2, 1) := by decide +kernel
theorem dX7_bits_17 : decode cX7_bits 17 = .ok (.goto (-13), 3) := by decide +kernel
theorem dX7_bits_20 : decode cX7_bits 20 = .ok (.iload_n 1, 1) := by decide +kernel
theorem dX7_bits_21 : decode cX7_bits 21 = .ok (.ireturn, 1) := by decide +kernel
theorem dX7_isBit_0 : decode cX7_isBit 0 = .ok (.iload_n 1, 1) := by decide +kernel
theorem dX7_isBit_1 : decode cX7_isBit 1 = .ok (.iconst 0, 1) := by decide +kernel
theorem dX7_isBit_2 : decode cX7_isBit 2 = .ok (.aload_n 0, 1) := by decide +kernel
theorem dX7_isBit_3 : decode cX7_isBit 3 = .ok (.getfield 9, 3) := by decide +kernel
theorem dX7_isBit_6 : decode cX7_isBit 6 = .ok (.iconst 2, 1) := by decide +kernel
theorem dX7_isBit_7 : decode cX7_isBit 7 = .ok (.iaload, 1) := by decide +kernel
theorem dX7_isBit_8 : decode cX7_isBit 8 = .ok (.iconst 1, 1) := by decide +kernel
theorem dX7_isBit_9 : decode cX7_isBit 9 = .ok (.isub, 1) := by decide +kernel
theorem dX7_isBit_10 : decode cX7_isBit 10 = .ok (.invokestatic 57, 3) := by decide +kernel
theorem dX7_isBit_13 : decode cX7_isBit 13 = .ok (.ireturn, 1) := by decide +kernel
theorem dX7_isPlace_0 : decode cX7_isPlace 0 = .ok (.iload_n 0, 1) := by decide +kernel
theorem dX7_isPlace_1 : decode cX7_isPlace 1 = .ok (.iconst 0, 1) := by decide +kernel
theorem dX7_isPlace_2 : decode cX7_isPlace 2 = .ok (.bipush 9, 2) := by decide +kernel
theorem dX7_isPlace_4 : decode cX7_isPlace 4 = .ok (.invokestatic 57, 3) := by decide +kernel
theorem dX7_isPlace_7 : decode cX7_isPlace 7 = .ok (.ireturn, 1) := by decide +kernel
theorem dX7_isField_0 : decode cX7_isField 0 = .ok (.iload_n 0, 1) := by decide +kernel
theorem dX7_isField_1 : decode cX7_isField 1 = .ok (.iconst 0, 1) := by decide +kernel
theorem dX7_isField_2 : decode cX7_isField 2 = .ok (.iconst 3, 1) := by decide +kernel
theorem dX7_isField_3 : decode cX7_isField 3 = .ok (.invokestatic 57, 3) := by decide +kernel
theorem dX7_isField_6 : decode cX7_isField 6 = .ok (.ireturn, 1) := by decide +kernel
theorem dX7_becomes_0 : decode cX7_becomes 0 = .ok (.aload_n 0, 1) := by decide +kernel
theorem dX7_becomes_1 : decode cX7_becomes 1 = .ok (.getfield 9, 3) := by decide +kernel
theorem dX7_becomes_4 : decode cX7_becomes 4 = .ok (.iload_n 1, 1) := by decide +kernel
theorem dX7_becomes_5 : decode cX7_becomes 5 = .ok (.iaload, 1) := by decide +kernel
theorem dX7_becomes_6 : decode cX7_becomes 6 = .ok (.istore_n 3, 1) := by decide +kernel
theorem dX7_becomes_7 : decode cX7_becomes 7 = .ok (.aload_n 0, 1) := by decide +kernel
theorem dX7_becomes_8 : decode cX7_becomes 8 = .ok (.getfield 9, 3) := by decide +kernel
theorem dX7_becomes_11 : decode cX7_becomes 11 = .ok (.iload_n 1, 1) := by decide +kernel
theorem dX7_becomes_12 : decode cX7_becomes 12 = .ok (.iload_n 2, 1) := by decide +kernel
theorem dX7_becomes_13 : decode cX7_becomes 13 = .ok (.iastore, 1) := by decide +kernel
theorem dX7_becomes_14 : decode cX7_becomes 14 = .ok (.iload_n 3, 1) := by decide +kernel
theorem dX7_becomes_15 : decode cX7_becomes 15 = .ok (.ireturn, 1) := by decide +kernel
theorem dX7_of_0 : decode cX7_of 0 = .ok (.aload_n 0, 1) := by decide +kernel
theorem dX7_of_1 : decode cX7_of 1 = .ok (.getfield 9, 3) := by decide +kernel
theorem dX7_of_4 : decode cX7_of 4 = .ok (.bipush 19, 2) := by decide +kernel
theorem dX7_of_6 : decode cX7_of 6 = .ok (.iconst 5, 1) := by decide +kernel
theorem dX7_of_7 : decode cX7_of 7 = .ok (.iload_n 1, 1) := by decide +kernel
theorem dX7_of_8 : decode cX7_of 8 = .ok (.imul, 1) := by decide +kernel
theorem dX7_of_9 : decode cX7_of 9 = .ok (.iadd, 1) := by decide +kernel
theorem dX7_of_10 : decode cX7_of 10 = .ok (.iload_n 2, 1) := by decide +kernel
theorem dX7_of_11 : decode cX7_of 11 = .ok (.iadd, 1) := by decide +kernel
theorem dX7_of_12 : decode cX7_of 12 = .ok (.iaload, 1) := by decide +kernel
theorem dX7_of_13 : decode cX7_of 13 = .ok (.ireturn, 1) := by decide +kernel
theorem dX7_lets_0 : decode cX7_lets 0 = .ok (.aload_n 0, 1) := by decide +kernel
theorem dX7_lets_1 : decode cX7_lets 1 = .ok (.getfield 9, 3) := by decide +kernel
theorem dX7_lets_4 : decode cX7_lets 4 = .ok (.bipush 19, 2) := by decide +kernel
theorem dX7_lets_6 : decode cX7_lets 6 = .ok (.iconst 5, 1) := by decide +kernel
theorem dX7_lets_7 : decode cX7_lets 7 = .ok (.iload_n 1, 1) := by decide +kernel
theorem dX7_lets_8 : decode cX7_lets 8 = .ok (.imul, 1) := by decide +kernel
theorem dX7_lets_9 : decode cX7_lets 9 = .ok (.iadd, 1) := by decide +kernel
theorem dX7_lets_10 : decode cX7_lets 10 = .ok (.iload_n 2, 1) := by decide +kernel
theorem dX7_lets_11 : decode cX7_lets 11 = .ok (.iadd, 1) := by decide +kernel
theorem dX7_lets_12 : decode cX7_lets 12 = .ok (.iload_n 3, 1) := by decide +kernel
theorem dX7_lets_13 : decode cX7_lets 13 = .ok (.iastore, 1) := by decide +kernel
theorem dX7_lets_14 : decode cX7_lets 14 = .ok (.return_, 1) := by decide +kernel
theorem dX7_homeOf_0 : decode cX7_homeOf 0 = .ok (.aload_n 0, 1) := by decide +kernel
theorem dX7_homeOf_1 : decode cX7_homeOf 1 = .ok (.getfield 9, 3) := by decide +kernel
theorem dX7_homeOf_4 : decode cX7_homeOf 4 = .ok (.iconst 5, 1) := by decide +kernel
theorem dX7_homeOf_5 : decode cX7_homeOf 5 = .ok (.aload_n 0, 1) := by decide +kernel
theorem dX7_homeOf_6 : decode cX7_homeOf 6 = .ok (.iload_n 1, 1) := by decide +kernel
theorem dX7_homeOf_7 : decode cX7_homeOf 7 = .ok (.iconst 2, 1) := by decide +kernel
theorem dX7_homeOf_8 : decode cX7_homeOf 8 = .ok (.invokevirtual 61, 3) := by decide +kernel
theorem dX7_homeOf_11 : decode cX7_homeOf 11 = .ok (.iadd, 1) := by decide +kernel
theorem dX7_homeOf_12 : decode cX7_homeOf 12 = .ok (.iaload, 1) := by decide +kernel
theorem dX7_homeOf_13 : decode cX7_homeOf 13 = .ok (.ireturn, 1) := by decide +kernel
theorem dX7_isHome_0 : decode cX7_isHome 0 = .ok (.aload_n 0, 1) := by decide +kernel
theorem dX7_isHome_1 : decode cX7_isHome 1 = .ok (.iload_n 1, 1) := by decide +kernel
theorem dX7_isHome_2 : decode cX7_isHome 2 = .ok (.iconst 3, 1) := by decide +kernel
theorem dX7_isHome_3 : decode cX7_isHome 3 = .ok (.invokevirtual 61, 3) := by decide +kernel
theorem dX7_isHome_6 : decode cX7_isHome 6 = .ok (.aload_n 0, 1) := by decide +kernel
theorem dX7_isHome_7 : decode cX7_isHome 7 = .ok (.iload_n 1, 1) := by decide +kernel
theorem dX7_isHome_8 : decode cX7_isHome 8 = .ok (.invokevirtual 65, 3) := by decide +kernel
theorem dX7_isHome_11 : decode cX7_isHome 11 = .ok (.if_icmp .ne 7, 3) := by decide +kernel
theorem dX7_isHome_14 : decode cX7_isHome 14 = .ok (.iconst 1, 1) := by decide +kernel
theorem dX7_isHome_15 : decode cX7_isHome 15 = .ok (.goto 4, 3) := by decide +kernel
theorem dX7_isHome_18 : decode cX7_isHome 18 = .ok (.iconst 0, 1) := by decide +kernel
theorem dX7_isHome_19 : decode cX7_isHome 19 = .ok (.ireturn, 1) := by decide +kernel
theorem dX7_homes_0 : decode cX7_homes 0 = .ok (.iconst 0, 1) := by decide +kernel
theorem dX7_homes_1 : decode cX7_homes 1 = .ok (.istore_n 1, 1) := by decide +kernel
theorem dX7_homes_2 : decode cX7_homes 2 = .ok (.iconst 0, 1) := by decide +kernel
theorem dX7_homes_3 : decode cX7_homes 3 = .ok (.istore_n 2, 1) := by decide +kernel
theorem dX7_homes_4 : decode cX7_homes 4 = .ok (.iload_n 2, 1) := by decide +kernel
theorem dX7_homes_5 : decode cX7_homes 5 = .ok (.aload_n 0, 1) := by decide +kernel
theorem dX7_homes_6 : decode cX7_homes 6 = .ok (.getfield 9, 3) := by decide +kernel
theorem dX7_homes_9 : decode cX7_homes 9 = .ok (.iconst 2, 1) := by decide +kernel
theorem dX7_homes_10 : decode cX7_homes 10 = .ok (.iaload, 1) := by decide +kernel
theorem dX7_homes_11 : decode cX7_homes 11 = .ok (.if_icmp .ge 27, 3) := by decide +kernel
theorem dX7_homes_14 : decode cX7_homes 14 = .ok (.iload_n 1, 1) := by decide +kernel
theorem dX7_homes_15 : decode cX7_homes 15 = .ok (.aload_n 0, 1) := by decide +kernel
theorem dX7_homes_16 : decode cX7_homes 16 = .ok (.iload_n 2, 1) := by decide +kernel
theorem dX7_homes_17 : decode cX7_homes 17 = .ok (.invokevirtual 69, 3) := by decide +kernel
theorem dX7_homes_20 : decode cX7_homes 20 = .ok (.ifCond .eq 9, 3) := by decide +kernel
theorem dX7_homes_23 : decode cX7_homes 23 = .ok (.iconst 1, 1) := by decide +kernel
theorem dX7_homes_24 : decode cX7_homes 24 = .ok (.iload_n 2, 1) := by decide +kernel
theorem dX7_homes_25 : decode cX7_homes 25 = .ok (.ishl, 1) := by decide +kernel
theorem dX7_homes_26 : decode cX7_homes 26 = .ok (.goto 4, 3) := by decide +kernel
theorem dX7_homes_29 : decode cX7_homes 29 = .ok (.iconst 0, 1) := by decide +kernel
theorem dX7_homes_30 : decode cX7_homes 30 = .ok (.ior, 1) := by decide +kernel
theorem dX7_homes_31 : decode cX7_homes 31 = .ok (.istore_n 1, 1) := by decide +kernel
theorem dX7_homes_32 : decode cX7_homes 32 = .ok (.iinc 2 1, 3) := by decide +kernel
theorem dX7_homes_35 : decode cX7_homes 35 = .ok (.goto (-31), 3) := by decide +kernel
theorem dX7_homes_38 : decode cX7_homes 38 = .ok (.iload_n 1, 1) := by decide +kernel
theorem dX7_homes_39 : decode cX7_homes 39 = .ok (.ireturn, 1) := by decide +kernel
theorem dX7_findFrom_0 : decode cX7_findFrom 0 = .ok (.iconst 1, 1) := by decide +kernel
theorem dX7_findFrom_1 : decode cX7_findFrom 1 = .ok (.iload_n 1, 1) := by decide +kernel
theorem dX7_findFrom_2 : decode cX7_findFrom 2 = .ok (.ishl, 1) := by decide +kernel
theorem dX7_findFrom_3 : decode cX7_findFrom 3 = .ok (.istore_n 2, 1) := by decide +kernel
theorem dX7_findFrom_4 : decode cX7_findFrom 4 = .ok (.iconst 0, 1) := by decide +kernel
theorem dX7_findFrom_5 : decode cX7_findFrom 5 = .ok (.istore_n 3, 1) := by decide +kernel
theorem dX7_findFrom_6 : decode cX7_findFrom 6 = .ok (.iload_n 3, 1) := by decide +kernel
theorem dX7_findFrom_7 : decode cX7_findFrom 7 = .ok (.bipush 10, 2) := by decide +kernel
theorem dX7_findFrom_9 : decode cX7_findFrom 9 = .ok (.if_icmp .ge 31, 3) := by decide +kernel
theorem dX7_findFrom_12 : decode cX7_findFrom 12 = .ok (.aload_n 0, 1) := by decide +kernel
theorem dX7_findFrom_13 : decode cX7_findFrom 13 = .ok (.getfield 31, 3) := by decide +kernel
theorem dX7_findFrom_16 : decode cX7_findFrom 16 = .ok (.bipush 10, 2) := by decide +kernel
theorem dX7_findFrom_18 : decode cX7_findFrom 18 = .ok (.iload_n 1, 1) := by decide +kernel
theorem dX7_findFrom_19 : decode cX7_findFrom 19 = .ok (.imul, 1) := by decide +kernel
theorem dX7_findFrom_20 : decode cX7_findFrom 20 = .ok (.iload_n 3, 1) := by decide +kernel
theorem dX7_findFrom_21 : decode cX7_findFrom 21 = .ok (.iadd, 1) := by decide +kernel
theorem dX7_findFrom_22 : decode cX7_findFrom 22 = .ok (.iload_n 3, 1) := by decide +kernel
theorem dX7_findFrom_23 : decode cX7_findFrom 23 = .ok (.iload_n 1, 1) := by decide +kernel
theorem dX7_findFrom_24 : decode cX7_findFrom 24 = .ok (.if_icmp .ne 7, 3) := by decide +kernel
theorem dX7_findFrom_27 : decode cX7_findFrom 27 = .ok (.iconst 0, 1) := by decide +kernel
theorem dX7_findFrom_28 : decode cX7_findFrom 28 = .ok (.goto 5, 3) := by decide +kernel
theorem dX7_findFrom_31 : decode cX7_findFrom 31 = .ok (.bipush 99, 2) := by decide +kernel
theorem dX7_findFrom_33 : decode cX7_findFrom 33 = .ok (.iastore, 1) := by decide +kernel
theorem dX7_findFrom_34 : decode cX7_findFrom 34 = .ok (.iinc 3 1, 3) := by decide +kernel
theorem dX7_findFrom_37 : decode cX7_findFrom 37 = .ok (.goto (-31), 3) := by decide +kernel
theorem dX7_findFrom_40 : decode cX7_findFrom 40 = .ok (.iconst 1, 1) := by decide +kernel
theorem dX7_findFrom_41 : decode cX7_findFrom 41 = .ok (.istore_n 3, 1) := by decide +kernel
theorem dX7_findFrom_42 : decode cX7_findFrom 42 = .ok (.iload_n 3, 1) := by decide +kernel
theorem dX7_findFrom_43 : decode cX7_findFrom 43 = .ok (.bipush 10, 2) := by decide +kernel
theorem dX7_findFrom_45 : decode cX7_findFrom 45 = .ok (.if_icmp .ge 113, 3) := by decide +kernel
theorem dX7_findFrom_48 : decode cX7_findFrom 48 = .ok (.iload_n 2, 1) := by decide +kernel
theorem dX7_findFrom_49 : decode cX7_findFrom 49 = .ok (.istore 4, 2) := by decide +kernel
theorem dX7_findFrom_51 : decode cX7_findFrom 51 = .ok (.iconst 0, 1) := by decide +kernel
theorem dX7_findFrom_52 : decode cX7_findFrom 52 = .ok (.istore 5, 2) := by decide +kernel
theorem dX7_findFrom_54 : decode cX7_findFrom 54 = .ok (.iload 5, 2) := by decide +kernel
theorem dX7_findFrom_56 : decode cX7_findFrom 56 = .ok (.bipush 10, 2) := by decide +kernel
theorem dX7_findFrom_58 : decode cX7_findFrom 58 = .ok (.if_icmp .ge 91, 3) := by decide +kernel
theorem dX7_findFrom_61 : decode cX7_findFrom 61 = .ok (.iload_n 2, 1) := by decide +kernel
theorem dX7_findFrom_62 : decode cX7_findFrom 62 = .ok (.iload 5, 2) := by decide +kernel
theorem dX7_findFrom_64 : decode cX7_findFrom 64 = .ok (.ishr, 1) := by decide +kernel
theorem dX7_findFrom_65 : decode cX7_findFrom 65 = .ok (.iconst 1, 1) := by decide +kernel
theorem dX7_findFrom_66 : decode cX7_findFrom 66 = .ok (.iand, 1) := by decide +kernel
theorem dX7_findFrom_67 : decode cX7_findFrom 67 = .ok (.ifCond .ne 22, 3) := by decide +kernel
theorem dX7_findFrom_70 : decode cX7_findFrom 70 = .ok (.aload_n 0, 1) := by decide +kernel
theorem dX7_findFrom_71 : decode cX7_findFrom 71 = .ok (.getfield 9, 3) := by decide +kernel
theorem dX7_findFrom_74 : decode cX7_findFrom 74 = .ok (.bipush 9, 2) := by decide +kernel
theorem dX7_findFrom_76 : decode cX7_findFrom 76 = .ok (.iload 5, 2) := by decide +kernel
theorem dX7_findFrom_78 : decode cX7_findFrom 78 = .ok (.iadd, 1) := by decide +kernel
theorem dX7_findFrom_79 : decode cX7_findFrom 79 = .ok (.iaload, 1) := by decide +kernel
theorem dX7_findFrom_80 : decode cX7_findFrom 80 = .ok (.iload_n 2, 1) := by decide +kernel
theorem dX7_findFrom_81 : decode cX7_findFrom 81 = .ok (.iand, 1) := by decide +kernel
theorem dX7_findFrom_82 : decode cX7_findFrom 82 = .ok (.ifCond .eq 7, 3) := by decide +kernel
theorem dX7_findFrom_85 : decode cX7_findFrom 85 = .ok (.iconst 1, 1) := by decide +kernel
theorem dX7_findFrom_86 : decode cX7_findFrom 86 = .ok (.goto 4, 3) := by decide +kernel
theorem dX7_findFrom_89 : decode cX7_findFrom 89 = .ok (.iconst 0, 1) := by decide +kernel
theorem dX7_findFrom_90 : decode cX7_findFrom 90 = .ok (.istore 6, 2) := by decide +kernel
theorem dX7_findFrom_92 : decode cX7_findFrom 92 = .ok (.aload_n 0, 1) := by decide +kernel
theorem dX7_findFrom_93 : decode cX7_findFrom 93 = .ok (.getfield 31, 3) := by decide +kernel
theorem dX7_findFrom_96 : decode cX7_findFrom 96 = .ok (.bipush 10, 2) := by decide +kernel
theorem dX7_findFrom_98 : decode cX7_findFrom 98 = .ok (.iload_n 1, 1) := by decide +kernel
theorem dX7_findFrom_99 : decode cX7_findFrom 99 = .ok (.imul, 1) := by decide +kernel
theorem dX7_findFrom_100 : decode cX7_findFrom 100 = .ok (.iload 5, 2) := by decide +kernel
theorem dX7_findFrom_102 : decode cX7_findFrom 102 = .ok (.iadd, 1) := by decide +kernel
theorem dX7_findFrom_103 : decode cX7_findFrom 103 = .ok (.iload 6, 2) := by decide +kernel
theorem dX7_findFrom_105 : decode cX7_findFrom 105 = .ok (.ifCond .eq 7, 3) := by decide +kernel
theorem dX7_findFrom_108 : decode cX7_findFrom 108 = .ok (.iload_n 3, 1) := by decide +kernel
theorem dX7_findFrom_109 : decode cX7_findFrom 109 = .ok (.goto 15, 3) := by decide +kernel
theorem dX7_findFrom_112 : decode cX7_findFrom 112 = .ok (.aload_n 0, 1) := by decide +kernel
theorem dX7_findFrom_113 : decode cX7_findFrom 113 = .ok (.getfield 31, 3) := by decide +kernel
theorem dX7_findFrom_116 : decode cX7_findFrom 116 = .ok (.bipush 10, 2) := by decide +kernel
theorem dX7_findFrom_118 : decode cX7_findFrom 118 = .ok (.iload_n 1, 1) := by decide +kernel
theorem dX7_findFrom_119 : decode cX7_findFrom 119 = .ok (.imul, 1) := by decide +kernel
theorem dX7_findFrom_120 : decode cX7_findFrom 120 = .ok (.iload 5, 2) := by decide +kernel
theorem dX7_findFrom_122 : decode cX7_findFrom 122 = .ok (.iadd, 1) := by decide +kernel
theorem dX7_findFrom_123 : decode cX7_findFrom 123 = .ok (.iaload, 1) := by decide +kernel
theorem dX7_findFrom_124 : decode cX7_findFrom 124 = .ok (.iastore, 1) := by decide +kernel
theorem dX7_findFrom_125 : decode cX7_findFrom 125 = .ok (.iload 4, 2) := by decide +kernel
theorem dX7_findFrom_127 : decode cX7_findFrom 127 = .ok (.iload 6, 2) := by decide +kernel
theorem dX7_findFrom_129 : decode cX7_findFrom 129 = .ok (.ifCond .eq 10, 3) := by decide +kernel
theorem dX7_findFrom_132 : decode cX7_findFrom 132 = .ok (.iconst 1, 1) := by decide +kernel
theorem dX7_findFrom_133 : decode cX7_findFrom 133 = .ok (.iload 5, 2) := by decide +kernel
theorem dX7_findFrom_135 : decode cX7_findFrom 135 = .ok (.ishl, 1) := by decide +kernel
theorem dX7_findFrom_136 : decode cX7_findFrom 136 = .ok (.goto 4, 3) := by decide +kernel
theorem dX7_findFrom_139 : decode cX7_findFrom 139 = .ok (.iconst 0, 1) := by decide +kernel
theorem dX7_findFrom_140 : decode cX7_findFrom 140 = .ok (.ior, 1) := by decide +kernel
theorem dX7_findFrom_141 : decode cX7_findFrom 141 = .ok (.istore 4, 2) := by decide +kernel
theorem dX7_findFrom_143 : decode cX7_findFrom 143 = .ok (.iinc 5 1, 3) := by decide +kernel
theorem dX7_findFrom_146 : decode cX7_findFrom 146 = .ok (.goto (-92), 3) := by decide +kernel
theorem dX7_findFrom_149 : decode cX7_findFrom 149 = .ok (.iload 4, 2) := by decide +kernel
theorem dX7_findFrom_151 : decode cX7_findFrom 151 = .ok (.istore_n 2, 1) := by decide +kernel
theorem dX7_findFrom_152 : decode cX7_findFrom 152 = .ok (.iinc 3 1, 3) := by decide +kernel
theorem dX7_findFrom_155 : decode cX7_findFrom 155 = .ok (.goto (-113), 3) := by decide +kernel
theorem dX7_findFrom_158 : decode cX7_findFrom 158 = .ok (.return_, 1) := by decide +kernel
theorem dX7_farBy_0 : decode cX7_farBy 0 = .ok (.iconst 0, 1) := by decide +kernel
theorem dX7_farBy_1 : decode cX7_farBy 1 = .ok (.istore_n 3, 1) := by decide +kernel
theorem dX7_farBy_2 : decode cX7_farBy 2 = .ok (.iload_n 3, 1) := by decide +kernel
theorem dX7_farBy_3 : decode cX7_farBy 3 = .ok (.bipush 10, 2) := by decide +kernel
theorem dX7_farBy_5 : decode cX7_farBy 5 = .ok (.if_icmp .ge 21, 3) := by decide +kernel
theorem dX7_farBy_8 : decode cX7_farBy 8 = .ok (.aload_n 0, 1) := by decide +kernel
theorem dX7_farBy_9 : decode cX7_farBy 9 = .ok (.getfield 73, 3) := by decide +kernel
theorem dX7_farBy_12 : decode cX7_farBy 12 = .ok (.ifCond .ne 14, 3) := by decide +kernel
theorem dX7_farBy_15 : decode cX7_farBy 15 = .ok (.aload_n 0, 1) := by decide +kernel
theorem dX7_farBy_16 : decode cX7_farBy 16 = .ok (.iload_n 3, 1) := by decide +kernel
theorem dX7_farBy_17 : decode cX7_farBy 17 = .ok (.invokevirtual 77, 3) := by decide +kernel
theorem dX7_farBy_20 : decode cX7_farBy 20 = .ok (.iinc 3 1, 3) := by decide +kernel
theorem dX7_farBy_23 : decode cX7_farBy 23 = .ok (.goto (-21), 3) := by decide +kernel
theorem dX7_farBy_26 : decode cX7_farBy 26 = .ok (.aload_n 0, 1) := by decide +kernel
theorem dX7_farBy_27 : decode cX7_farBy 27 = .ok (.iconst 1, 1) := by decide +kernel
theorem dX7_farBy_28 : decode cX7_farBy 28 = .ok (.putfield 73, 3) := by decide +kernel
theorem dX7_farBy_31 : decode cX7_farBy 31 = .ok (.aload_n 0, 1) := by decide +kernel
theorem dX7_farBy_32 : decode cX7_farBy 32 = .ok (.getfield 31, 3) := by decide +kernel
theorem dX7_farBy_35 : decode cX7_farBy 35 = .ok (.bipush 10, 2) := by decide +kernel
theorem dX7_farBy_37 : decode cX7_farBy 37 = .ok (.iload_n 1, 1) := by decide +kernel
theorem dX7_farBy_38 : decode cX7_farBy 38 = .ok (.imul, 1) := by decide +kernel
theorem dX7_farBy_39 : decode cX7_farBy 39 = .ok (.iload_n 2, 1) := by decide +kernel
theorem dX7_farBy_40 : decode cX7_farBy 40 = .ok (.iadd, 1) := by decide +kernel
theorem dX7_farBy_41 : decode cX7_farBy 41 = .ok (.iaload, 1) := by decide +kernel
theorem dX7_farBy_42 : decode cX7_farBy 42 = .ok (.ireturn, 1) := by decide +kernel
theorem dX7_farHome_0 : decode cX7_farHome 0 = .ok (.aload_n 0, 1) := by decide +kernel
theorem dX7_farHome_1 : decode cX7_farHome 1 = .ok (.aload_n 0, 1) := by decide +kernel
theorem dX7_farHome_2 : decode cX7_farHome 2 = .ok (.iload_n 1, 1) := by decide +kernel
theorem dX7_farHome_3 : decode cX7_farHome 3 = .ok (.iconst 3, 1) := by decide +kernel
theorem dX7_farHome_4 : decode cX7_farHome 4 = .ok (.invokevirtual 61, 3) := by decide +kernel
theorem dX7_farHome_7 : decode cX7_farHome 7 = .ok (.aload_n 0, 1) := by decide +kernel
theorem dX7_farHome_8 : decode cX7_farHome 8 = .ok (.iload_n 1, 1) := by decide +kernel
theorem dX7_farHome_9 : decode cX7_farHome 9 = .ok (.invokevirtual 65, 3) := by decide +kernel
theorem dX7_farHome_12 : decode cX7_farHome 12 = .ok (.invokevirtual 81, 3) := by decide +kernel
theorem dX7_farHome_15 : decode cX7_farHome 15 = .ok (.ireturn, 1) := by decide +kernel
theorem dX7_warmth_0 : decode cX7_warmth 0 = .ok (.aload_n 0, 1) := by decide +kernel
theorem dX7_warmth_1 : decode cX7_warmth 1 = .ok (.iload_n 1, 1) := by decide +kernel
theorem dX7_warmth_2 : decode cX7_warmth 2 = .ok (.invokevirtual 84, 3) := by decide +kernel
theorem dX7_warmth_5 : decode cX7_warmth 5 = .ok (.istore_n 2, 1) := by decide +kernel
theorem dX7_warmth_6 : decode cX7_warmth 6 = .ok (.iload_n 2, 1) := by decide +kernel
theorem dX7_warmth_7 : decode cX7_warmth 7 = .ok (.bipush 99, 2) := by decide +kernel
theorem dX7_warmth_9 : decode cX7_warmth 9 = .ok (.if_icmp .ne 7, 3) := by decide +kernel
theorem dX7_warmth_12 : decode cX7_warmth 12 = .ok (.iconst 0, 1) := by decide +kernel
theorem dX7_warmth_13 : decode cX7_warmth 13 = .ok (.goto 7, 3) := by decide +kernel
theorem dX7_warmth_16 : decode cX7_warmth 16 = .ok (.bipush 9, 2) := by decide +kernel
theorem dX7_warmth_18 : decode cX7_warmth 18 = .ok (.iload_n 2, 1) := by decide +kernel
theorem dX7_warmth_19 : decode cX7_warmth 19 = .ok (.isub, 1) := by decide +kernel
theorem dX7_warmth_20 : decode cX7_warmth 20 = .ok (.ireturn, 1) := by decide +kernel
theorem dX7_isTogether_0 : decode cX7_isTogether 0 = .ok (.iconst 0, 1) := by decide +kernel
theorem dX7_isTogether_1 : decode cX7_isTogether 1 = .ok (.istore_n 2, 1) := by decide +kernel
theorem dX7_isTogether_2 : decode cX7_isTogether 2 = .ok (.iconst 0, 1) := by decide +kernel
theorem dX7_isTogether_3 : decode cX7_isTogether 3 = .ok (.istore_n 3, 1) := by decide +kernel
theorem dX7_isTogether_4 : decode cX7_isTogether 4 = .ok (.iload_n 3, 1) := by decide +kernel
theorem dX7_isTogether_5 : decode cX7_isTogether 5 = .ok (.aload_n 0, 1) := by decide +kernel
theorem dX7_isTogether_6 : decode cX7_isTogether 6 = .ok (.getfield 9, 3) := by decide +kernel
theorem dX7_isTogether_9 : decode cX7_isTogether 9 = .ok (.iconst 2, 1) := by decide +kernel
theorem dX7_isTogether_10 : decode cX7_isTogether 10 = .ok (.iaload, 1) := by decide +kernel
theorem dX7_isTogether_11 : decode cX7_isTogether 11 = .ok (.if_icmp .ge 54, 3) := by decide +kernel
theorem dX7_isTogether_14 : decode cX7_isTogether 14 = .ok (.iload_n 2, 1) := by decide +kernel
theorem dX7_isTogether_15 : decode cX7_isTogether 15 = .ok (.ifCond .ne 38, 3) := by decide +kernel
theorem dX7_isTogether_18 : decode cX7_isTogether 18 = .ok (.iload_n 3, 1) := by decide +kernel
theorem dX7_isTogether_19 : decode cX7_isTogether 19 = .ok (.iload_n 1, 1) := by decide +kernel
theorem dX7_isTogether_20 : decode cX7_isTogether 20 = .ok (.if_icmp .eq 37, 3) := by decide +kernel
theorem dX7_isTogether_23 : decode cX7_isTogether 23 = .ok (.aload_n 0, 1) := by decide +kernel
theorem dX7_isTogether_24 : decode cX7_isTogether 24 = .ok (.iload_n 3, 1) := by decide +kernel
theorem dX7_isTogether_25 : decode cX7_isTogether 25 = .ok (.iconst 2, 1) := by decide +kernel
theorem dX7_isTogether_26 : decode cX7_isTogether 26 = .ok (.invokevirtual 61, 3) := by decide +kernel
theorem dX7_isTogether_29 : decode cX7_isTogether 29 = .ok (.aload_n 0, 1) := by decide +kernel
theorem dX7_isTogether_30 : decode cX7_isTogether 30 = .ok (.iload_n 1, 1) := by decide +kernel
theorem dX7_isTogether_31 : decode cX7_isTogether 31 = .ok (.iconst 2, 1) := by decide +kernel
theorem dX7_isTogether_32 : decode cX7_isTogether 32 = .ok (.invokevirtual 61, 3) := by decide +kernel
theorem dX7_isTogether_35 : decode cX7_isTogether 35 = .ok (.if_icmp .ne 22, 3) := by decide +kernel
theorem dX7_isTogether_38 : decode cX7_isTogether 38 = .ok (.aload_n 0, 1) := by decide +kernel
theorem dX7_isTogether_39 : decode cX7_isTogether 39 = .ok (.iload_n 3, 1) := by decide +kernel
theorem dX7_isTogether_40 : decode cX7_isTogether 40 = .ok (.iconst 3, 1) := by decide +kernel
theorem dX7_isTogether_41 : decode cX7_isTogether 41 = .ok (.invokevirtual 61, 3) := by decide +kernel
theorem dX7_isTogether_44 : decode cX7_isTogether 44 = .ok (.aload_n 0, 1) := by decide +kernel
theorem dX7_isTogether_45 : decode cX7_isTogether 45 = .ok (.iload_n 1, 1) := by decide +kernel
theorem dX7_isTogether_46 : decode cX7_isTogether 46 = .ok (.iconst 3, 1) := by decide +kernel
theorem dX7_isTogether_47 : decode cX7_isTogether 47 = .ok (.invokevirtual 61, 3) := by decide +kernel
theorem dX7_isTogether_50 : decode cX7_isTogether 50 = .ok (.if_icmp .ne 7, 3) := by decide +kernel
theorem dX7_isTogether_53 : decode cX7_isTogether 53 = .ok (.iconst 1, 1) := by decide +kernel
theorem dX7_isTogether_54 : decode cX7_isTogether 54 = .ok (.goto 4, 3) := by decide +kernel
theorem dX7_isTogether_57 : decode cX7_isTogether 57 = .ok (.iconst 0, 1) := by decide +kernel
theorem dX7_isTogether_58 : decode cX7_isTogether 58 = .ok (.istore_n 2, 1) := by decide +kernel
theorem dX7_isTogether_59 : decode cX7_isTogether 59 = .ok (.iinc 3 1, 3) := by decide +kernel
theorem dX7_isTogether_62 : decode cX7_isTogether 62 = .ok (.goto (-58), 3) := by decide +kernel
theorem dX7_isTogether_65 : decode cX7_isTogether 65 = .ok (.iload_n 2, 1) := by decide +kernel
theorem dX7_isTogether_66 : decode cX7_isTogether 66 = .ok (.ireturn, 1) := by decide +kernel
theorem dX7_walksBy_0 : decode cX7_walksBy 0 = .ok (.aload_n 0, 1) := by decide +kernel
theorem dX7_walksBy_1 : decode cX7_walksBy 1 = .ok (.iload_n 1, 1) := by decide +kernel
theorem dX7_walksBy_2 : decode cX7_walksBy 2 = .ok (.iconst 1, 1) := by decide +kernel
theorem dX7_walksBy_3 : decode cX7_walksBy 3 = .ok (.invokevirtual 61, 3) := by decide +kernel
theorem dX7_walksBy_6 : decode cX7_walksBy 6 = .ok (.istore_n 2, 1) := by decide +kernel
theorem dX7_walksBy_7 : decode cX7_walksBy 7 = .ok (.aload_n 0, 1) := by decide +kernel
theorem dX7_walksBy_8 : decode cX7_walksBy 8 = .ok (.getfield 9, 3) := by decide +kernel
theorem dX7_walksBy_11 : decode cX7_walksBy 11 = .ok (.iconst 0, 1) := by decide +kernel
theorem dX7_walksBy_12 : decode cX7_walksBy 12 = .ok (.iaload, 1) := by decide +kernel
theorem dX7_walksBy_13 : decode cX7_walksBy 13 = .ok (.iconst 2, 1) := by decide +kernel
theorem dX7_walksBy_14 : decode cX7_walksBy 14 = .ok (.irem, 1) := by decide +kernel
theorem dX7_walksBy_15 : decode cX7_walksBy 15 = .ok (.ifCond .ne 7, 3) := by decide +kernel
theorem dX7_walksBy_18 : decode cX7_walksBy 18 = .ok (.iconst 1, 1) := by decide +kernel
theorem dX7_walksBy_19 : decode cX7_walksBy 19 = .ok (.goto 4, 3) := by decide +kernel
theorem dX7_walksBy_22 : decode cX7_walksBy 22 = .ok (.iconst 0, 1) := by decide +kernel
theorem dX7_walksBy_23 : decode cX7_walksBy 23 = .ok (.istore_n 3, 1) := by decide +kernel
theorem dX7_walksBy_24 : decode cX7_walksBy 24 = .ok (.aload_n 0, 1) := by decide +kernel
theorem dX7_walksBy_25 : decode cX7_walksBy 25 = .ok (.getfield 9, 3) := by decide +kernel
theorem dX7_walksBy_28 : decode cX7_walksBy 28 = .ok (.iconst 0, 1) := by decide +kernel
theorem dX7_walksBy_29 : decode cX7_walksBy 29 = .ok (.iaload, 1) := by decide +kernel
theorem dX7_walksBy_30 : decode cX7_walksBy 30 = .ok (.bipush 7, 2) := by decide +kernel
theorem dX7_walksBy_32 : decode cX7_walksBy 32 = .ok (.irem, 1) := by decide +kernel
theorem dX7_walksBy_33 : decode cX7_walksBy 33 = .ok (.iload_n 2, 1) := by decide +kernel
theorem dX7_walksBy_34 : decode cX7_walksBy 34 = .ok (.bipush 7, 2) := by decide +kernel
theorem dX7_walksBy_36 : decode cX7_walksBy 36 = .ok (.irem, 1) := by decide +kernel
theorem dX7_walksBy_37 : decode cX7_walksBy 37 = .ok (.if_icmp .ne 7, 3) := by decide +kernel
theorem dX7_walksBy_40 : decode cX7_walksBy 40 = .ok (.iconst 2, 1) := by decide +kernel
theorem dX7_walksBy_41 : decode cX7_walksBy 41 = .ok (.goto 4, 3) := by decide +kernel
theorem dX7_walksBy_44 : decode cX7_walksBy 44 = .ok (.iconst 0, 1) := by decide +kernel
theorem dX7_walksBy_45 : decode cX7_walksBy 45 = .ok (.istore 4, 2) := by decide +kernel
theorem dX7_walksBy_47 : decode cX7_walksBy 47 = .ok (.aload_n 0, 1) := by decide +kernel
theorem dX7_walksBy_48 : decode cX7_walksBy 48 = .ok (.iload_n 1, 1) := by decide +kernel
theorem dX7_walksBy_49 : decode cX7_walksBy 49 = .ok (.iconst 0, 1) := by decide +kernel
theorem dX7_walksBy_50 : decode cX7_walksBy 50 = .ok (.invokevirtual 61, 3) := by decide +kernel
theorem dX7_walksBy_53 : decode cX7_walksBy 53 = .ok (.tableswitch 100 1 6 #[39, 41, 44, 64, 83, 88], 39) := by decide +kernel
theorem dX7_walksBy_92 : decode cX7_walksBy 92 = .ok (.iload_n 3, 1) := by decide +kernel
theorem dX7_walksBy_93 : decode cX7_walksBy 93 = .ok (.ireturn, 1) := by decide +kernel
theorem dX7_walksBy_94 : decode cX7_walksBy 94 = .ok (.iload 4, 2) := by decide +kernel
theorem dX7_walksBy_96 : decode cX7_walksBy 96 = .ok (.ireturn, 1) := by decide +kernel
theorem dX7_walksBy_97 : decode cX7_walksBy 97 = .ok (.iload_n 2, 1) := by decide +kernel
theorem dX7_walksBy_98 : decode cX7_walksBy 98 = .ok (.bipush 6, 2) := by decide +kernel
theorem dX7_walksBy_100 : decode cX7_walksBy 100 = .ok (.if_icmp .gt 11, 3) := by decide +kernel
theorem dX7_walksBy_103 : decode cX7_walksBy 103 = .ok (.aload_n 0, 1) := by decide +kernel
theorem dX7_walksBy_104 : decode cX7_walksBy 104 = .ok (.iload_n 1, 1) := by decide +kernel
theorem dX7_walksBy_105 : decode cX7_walksBy 105 = .ok (.invokevirtual 87, 3) := by decide +kernel
theorem dX7_walksBy_108 : decode cX7_walksBy 108 = .ok (.ifCond .eq 7, 3) := by decide +kernel
theorem dX7_walksBy_111 : decode cX7_walksBy 111 = .ok (.iconst 1, 1) := by decide +kernel
theorem dX7_walksBy_112 : decode cX7_walksBy 112 = .ok (.goto 4, 3) := by decide +kernel
theorem dX7_walksBy_115 : decode cX7_walksBy 115 = .ok (.iconst 0, 1) := by decide +kernel
theorem dX7_walksBy_116 : decode cX7_walksBy 116 = .ok (.ireturn, 1) := by decide +kernel
theorem dX7_walksBy_117 : decode cX7_walksBy 117 = .ok (.iload_n 3, 1) := by decide +kernel
theorem dX7_walksBy_118 : decode cX7_walksBy 118 = .ok (.aload_n 0, 1) := by decide +kernel
theorem dX7_walksBy_119 : decode cX7_walksBy 119 = .ok (.getfield 9, 3) := by decide +kernel
theorem dX7_walksBy_122 : decode cX7_walksBy 122 = .ok (.iconst 0, 1) := by decide +kernel
theorem dX7_walksBy_123 : decode cX7_walksBy 123 = .ok (.iaload, 1) := by decide +kernel
theorem dX7_walksBy_124 : decode cX7_walksBy 124 = .ok (.iconst 3, 1) := by decide +kernel
theorem dX7_walksBy_125 : decode cX7_walksBy 125 = .ok (.irem, 1) := by decide +kernel
theorem dX7_walksBy_126 : decode cX7_walksBy 126 = .ok (.ifCond .ne 7, 3) := by decide +kernel
theorem dX7_walksBy_129 : decode cX7_walksBy 129 = .ok (.iconst 1, 1) := by decide +kernel
theorem dX7_walksBy_130 : decode cX7_walksBy 130 = .ok (.goto 4, 3) := by decide +kernel
theorem dX7_walksBy_133 : decode cX7_walksBy 133 = .ok (.iconst 0, 1) := by decide +kernel
theorem dX7_walksBy_134 : decode cX7_walksBy 134 = .ok (.iadd, 1) := by decide +kernel
theorem dX7_walksBy_135 : decode cX7_walksBy 135 = .ok (.ireturn, 1) := by decide +kernel
theorem dX7_walksBy_136 : decode cX7_walksBy 136 = .ok (.iload 4, 2) := by decide +kernel
theorem dX7_walksBy_138 : decode cX7_walksBy 138 = .ok (.iconst 1, 1) := by decide +kernel
theorem dX7_walksBy_139 : decode cX7_walksBy 139 = .ok (.iadd, 1) := by decide +kernel
theorem dX7_walksBy_140 : decode cX7_walksBy 140 = .ok (.ireturn, 1) := by decide +kernel
theorem dX7_walksBy_141 : decode cX7_walksBy 141 = .ok (.iload_n 2, 1) := by decide +kernel
theorem dX7_walksBy_142 : decode cX7_walksBy 142 = .ok (.bipush 9, 2) := by decide +kernel
theorem dX7_walksBy_144 : decode cX7_walksBy 144 = .ok (.if_icmp .ne 7, 3) := by decide +kernel
theorem dX7_walksBy_147 : decode cX7_walksBy 147 = .ok (.iconst 1, 1) := by decide +kernel
theorem dX7_walksBy_148 : decode cX7_walksBy 148 = .ok (.goto 4, 3) := by decide +kernel
theorem dX7_walksBy_151 : decode cX7_walksBy 151 = .ok (.iconst 0, 1) := by decide +kernel
theorem dX7_walksBy_152 : decode cX7_walksBy 152 = .ok (.ireturn, 1) := by decide +kernel
theorem dX7_walksBy_153 : decode cX7_walksBy 153 = .ok (.iconst 1, 1) := by decide +kernel
theorem dX7_walksBy_154 : decode cX7_walksBy 154 = .ok (.ireturn, 1) := by decide +kernel
theorem dX7_weighsOf_0 : decode cX7_weighsOf 0 = .ok (.aload_n 0, 1) := by decide +kernel
theorem dX7_weighsOf_1 : decode cX7_weighsOf 1 = .ok (.iload_n 1, 1) := by decide +kernel
theorem dX7_weighsOf_2 : decode cX7_weighsOf 2 = .ok (.iconst 1, 1) := by decide +kernel
theorem dX7_weighsOf_3 : decode cX7_weighsOf 3 = .ok (.invokevirtual 61, 3) := by decide +kernel
theorem dX7_weighsOf_6 : decode cX7_weighsOf 6 = .ok (.istore_n 2, 1) := by decide +kernel
theorem dX7_weighsOf_7 : decode cX7_weighsOf 7 = .ok (.bipush 10, 2) := by decide +kernel
theorem dX7_weighsOf_9 : decode cX7_weighsOf 9 = .ok (.iload_n 2, 1) := by decide +kernel
theorem dX7_weighsOf_10 : decode cX7_weighsOf 10 = .ok (.iadd, 1) := by decide +kernel
theorem dX7_weighsOf_11 : decode cX7_weighsOf 11 = .ok (.istore_n 3, 1) := by decide +kernel
theorem dX7_weighsOf_12 : decode cX7_weighsOf 12 = .ok (.aload_n 0, 1) := by decide +kernel
theorem dX7_weighsOf_13 : decode cX7_weighsOf 13 = .ok (.iload_n 1, 1) := by decide +kernel
theorem dX7_weighsOf_14 : decode cX7_weighsOf 14 = .ok (.iconst 4, 1) := by decide +kernel
theorem dX7_weighsOf_15 : decode cX7_weighsOf 15 = .ok (.invokevirtual 61, 3) := by decide +kernel
theorem dX7_weighsOf_18 : decode cX7_weighsOf 18 = .ok (.iconst 4, 1) := by decide +kernel
theorem dX7_weighsOf_19 : decode cX7_weighsOf 19 = .ok (.if_icmp .le 7, 3) := by decide +kernel
theorem dX7_weighsOf_22 : decode cX7_weighsOf 22 = .ok (.iload_n 3, 1) := by decide +kernel
theorem dX7_weighsOf_23 : decode cX7_weighsOf 23 = .ok (.goto 4, 3) := by decide +kernel
theorem dX7_weighsOf_26 : decode cX7_weighsOf 26 = .ok (.iconst 0, 1) := by decide +kernel
theorem dX7_weighsOf_27 : decode cX7_weighsOf 27 = .ok (.istore 4, 2) := by decide +kernel
theorem dX7_weighsOf_29 : decode cX7_weighsOf 29 = .ok (.aload_n 0, 1) := by decide +kernel
theorem dX7_weighsOf_30 : decode cX7_weighsOf 30 = .ok (.iload_n 1, 1) := by decide +kernel
theorem dX7_weighsOf_31 : decode cX7_weighsOf 31 = .ok (.iconst 0, 1) := by decide +kernel
theorem dX7_weighsOf_32 : decode cX7_weighsOf 32 = .ok (.invokevirtual 61, 3) := by decide +kernel
theorem dX7_weighsOf_35 : decode cX7_weighsOf 35 = .ok (.tableswitch 75 1 6 #[37, 46, 49, 53, 64, 71], 37) := by decide +kernel
theorem dX7_weighsOf_72 : decode cX7_weighsOf 72 = .ok (.iload_n 3, 1) := by decide +kernel
theorem dX7_weighsOf_73 : decode cX7_weighsOf 73 = .ok (.aload_n 0, 1) := by decide +kernel
theorem dX7_weighsOf_74 : decode cX7_weighsOf 74 = .ok (.iload_n 1, 1) := by decide +kernel
theorem dX7_weighsOf_75 : decode cX7_weighsOf 75 = .ok (.iconst 4, 1) := by decide +kernel
theorem dX7_weighsOf_76 : decode cX7_weighsOf 76 = .ok (.invokevirtual 61, 3) := by decide +kernel
theorem dX7_weighsOf_79 : decode cX7_weighsOf 79 = .ok (.iadd, 1) := by decide +kernel
theorem dX7_weighsOf_80 : decode cX7_weighsOf 80 = .ok (.ireturn, 1) := by decide +kernel
theorem dX7_weighsOf_81 : decode cX7_weighsOf 81 = .ok (.iload 4, 2) := by decide +kernel
theorem dX7_weighsOf_83 : decode cX7_weighsOf 83 = .ok (.ireturn, 1) := by decide +kernel
theorem dX7_weighsOf_84 : decode cX7_weighsOf 84 = .ok (.iload_n 3, 1) := by decide +kernel
theorem dX7_weighsOf_85 : decode cX7_weighsOf 85 = .ok (.iconst 2, 1) := by decide +kernel
theorem dX7_weighsOf_86 : decode cX7_weighsOf 86 = .ok (.idiv, 1) := by decide +kernel
theorem dX7_weighsOf_87 : decode cX7_weighsOf 87 = .ok (.ireturn, 1) := by decide +kernel
theorem dX7_weighsOf_88 : decode cX7_weighsOf 88 = .ok (.iload_n 3, 1) := by decide +kernel
theorem dX7_weighsOf_89 : decode cX7_weighsOf 89 = .ok (.aload_n 0, 1) := by decide +kernel
theorem dX7_weighsOf_90 : decode cX7_weighsOf 90 = .ok (.iload_n 1, 1) := by decide +kernel
theorem dX7_weighsOf_91 : decode cX7_weighsOf 91 = .ok (.iconst 4, 1) := by decide +kernel
theorem dX7_weighsOf_92 : decode cX7_weighsOf 92 = .ok (.invokevirtual 61, 3) := by decide +kernel
theorem dX7_weighsOf_95 : decode cX7_weighsOf 95 = .ok (.iadd, 1) := by decide +kernel
theorem dX7_weighsOf_96 : decode cX7_weighsOf 96 = .ok (.iconst 5, 1) := by decide +kernel
theorem dX7_weighsOf_97 : decode cX7_weighsOf 97 = .ok (.iadd, 1) := by decide +kernel
theorem dX7_weighsOf_98 : decode cX7_weighsOf 98 = .ok (.ireturn, 1) := by decide +kernel
theorem dX7_weighsOf_99 : decode cX7_weighsOf 99 = .ok (.iconst 2, 1) := by decide +kernel
theorem dX7_weighsOf_100 : decode cX7_weighsOf 100 = .ok (.iload 4, 2) := by decide +kernel
theorem dX7_weighsOf_102 : decode cX7_weighsOf 102 = .ok (.imul, 1) := by decide +kernel
theorem dX7_weighsOf_103 : decode cX7_weighsOf 103 = .ok (.iload_n 2, 1) := by decide +kernel
theorem dX7_weighsOf_104 : decode cX7_weighsOf 104 = .ok (.iadd, 1) := by decide +kernel
theorem dX7_weighsOf_105 : decode cX7_weighsOf 105 = .ok (.ireturn, 1) := by decide +kernel
theorem dX7_weighsOf_106 : decode cX7_weighsOf 106 = .ok (.iconst 3, 1) := by decide +kernel
theorem dX7_weighsOf_107 : decode cX7_weighsOf 107 = .ok (.iload_n 3, 1) := by decide +kernel
theorem dX7_weighsOf_108 : decode cX7_weighsOf 108 = .ok (.imul, 1) := by decide +kernel
theorem dX7_weighsOf_109 : decode cX7_weighsOf 109 = .ok (.ireturn, 1) := by decide +kernel
theorem dX7_weighsOf_110 : decode cX7_weighsOf 110 = .ok (.iload_n 3, 1) := by decide +kernel
theorem dX7_weighsOf_111 : decode cX7_weighsOf 111 = .ok (.ireturn, 1) := by decide +kernel
theorem dX7_stepsOf_0 : decode cX7_stepsOf 0 = .ok (.aload_n 0, 1) := by decide +kernel
theorem dX7_stepsOf_1 : decode cX7_stepsOf 1 = .ok (.iload_n 1, 1) := by decide +kernel
theorem dX7_stepsOf_2 : decode cX7_stepsOf 2 = .ok (.invokevirtual 84, 3) := by decide +kernel
theorem dX7_stepsOf_5 : decode cX7_stepsOf 5 = .ok (.istore_n 2, 1) := by decide +kernel
theorem dX7_stepsOf_6 : decode cX7_stepsOf 6 = .ok (.aload_n 0, 1) := by decide +kernel
theorem dX7_stepsOf_7 : decode cX7_stepsOf 7 = .ok (.iconst 0, 1) := by decide +kernel
theorem dX7_stepsOf_8 : decode cX7_stepsOf 8 = .ok (.aload_n 0, 1) := by decide +kernel
theorem dX7_stepsOf_9 : decode cX7_stepsOf 9 = .ok (.iload_n 1, 1) := by decide +kernel
theorem dX7_stepsOf_10 : decode cX7_stepsOf 10 = .ok (.invokevirtual 90, 3) := by decide +kernel
theorem dX7_stepsOf_13 : decode cX7_stepsOf 13 = .ok (.aload_n 0, 1) := by decide +kernel
theorem dX7_stepsOf_14 : decode cX7_stepsOf 14 = .ok (.getfield 9, 3) := by decide +kernel
theorem dX7_stepsOf_17 : decode cX7_stepsOf 17 = .ok (.iconst 0, 1) := by decide +kernel
theorem dX7_stepsOf_18 : decode cX7_stepsOf 18 = .ok (.iaload, 1) := by decide +kernel
theorem dX7_stepsOf_19 : decode cX7_stepsOf 19 = .ok (.bipush 7, 2) := by decide +kernel
theorem dX7_stepsOf_21 : decode cX7_stepsOf 21 = .ok (.irem, 1) := by decide +kernel
theorem dX7_stepsOf_22 : decode cX7_stepsOf 22 = .ok (.iload_n 2, 1) := by decide +kernel
theorem dX7_stepsOf_23 : decode cX7_stepsOf 23 = .ok (.bipush 99, 2) := by decide +kernel
theorem dX7_stepsOf_25 : decode cX7_stepsOf 25 = .ok (.if_icmp .ne 7, 3) := by decide +kernel
theorem dX7_stepsOf_28 : decode cX7_stepsOf 28 = .ok (.iconst 0, 1) := by decide +kernel
theorem dX7_stepsOf_29 : decode cX7_stepsOf 29 = .ok (.goto 4, 3) := by decide +kernel
theorem dX7_stepsOf_32 : decode cX7_stepsOf 32 = .ok (.iload_n 2, 1) := by decide +kernel
theorem dX7_stepsOf_33 : decode cX7_stepsOf 33 = .ok (.invokevirtual 93, 3) := by decide +kernel
theorem dX7_stepsOf_36 : decode cX7_stepsOf 36 = .ok (.ireturn, 1) := by decide +kernel
theorem dX7_worthOf_0 : decode cX7_worthOf 0 = .ok (.aload_n 0, 1) := by decide +kernel
theorem dX7_worthOf_1 : decode cX7_worthOf 1 = .ok (.iconst 1, 1) := by decide +kernel
theorem dX7_worthOf_2 : decode cX7_worthOf 2 = .ok (.aload_n 0, 1) := by decide +kernel
theorem dX7_worthOf_3 : decode cX7_worthOf 3 = .ok (.iload_n 1, 1) := by decide +kernel
theorem dX7_worthOf_4 : decode cX7_worthOf 4 = .ok (.invokevirtual 97, 3) := by decide +kernel
theorem dX7_worthOf_7 : decode cX7_worthOf 7 = .ok (.aload_n 0, 1) := by decide +kernel
theorem dX7_worthOf_8 : decode cX7_worthOf 8 = .ok (.iload_n 1, 1) := by decide +kernel
theorem dX7_worthOf_9 : decode cX7_worthOf 9 = .ok (.iconst 4, 1) := by decide +kernel
theorem dX7_worthOf_10 : decode cX7_worthOf 10 = .ok (.invokevirtual 61, 3) := by decide +kernel
theorem dX7_worthOf_13 : decode cX7_worthOf 13 = .ok (.aload_n 0, 1) := by decide +kernel
theorem dX7_worthOf_14 : decode cX7_worthOf 14 = .ok (.getfield 9, 3) := by decide +kernel
theorem dX7_worthOf_17 : decode cX7_worthOf 17 = .ok (.iconst 0, 1) := by decide +kernel
theorem dX7_worthOf_18 : decode cX7_worthOf 18 = .ok (.iaload, 1) := by decide +kernel
theorem dX7_worthOf_19 : decode cX7_worthOf 19 = .ok (.bipush 10, 2) := by decide +kernel
theorem dX7_worthOf_21 : decode cX7_worthOf 21 = .ok (.irem, 1) := by decide +kernel
theorem dX7_worthOf_22 : decode cX7_worthOf 22 = .ok (.invokevirtual 93, 3) := by decide +kernel
theorem dX7_worthOf_25 : decode cX7_worthOf 25 = .ok (.ireturn, 1) := by decide +kernel
theorem dX7_opensFrom_0 : decode cX7_opensFrom 0 = .ok (.aload_n 0, 1) := by decide +kernel
theorem dX7_opensFrom_1 : decode cX7_opensFrom 1 = .ok (.getfield 9, 3) := by decide +kernel
theorem dX7_opensFrom_4 : decode cX7_opensFrom 4 = .ok (.bipush 9, 2) := by decide +kernel
theorem dX7_opensFrom_6 : decode cX7_opensFrom 6 = .ok (.iload_n 1, 1) := by decide +kernel
theorem dX7_opensFrom_7 : decode cX7_opensFrom 7 = .ok (.iadd, 1) := by decide +kernel
theorem dX7_opensFrom_8 : decode cX7_opensFrom 8 = .ok (.iload_n 3, 1) := by decide +kernel
theorem dX7_opensFrom_9 : decode cX7_opensFrom 9 = .ok (.iconst 1, 1) := by decide +kernel
theorem dX7_opensFrom_10 : decode cX7_opensFrom 10 = .ok (.if_icmp .ne 19, 3) := by decide +kernel
theorem dX7_opensFrom_13 : decode cX7_opensFrom 13 = .ok (.aload_n 0, 1) := by decide +kernel
theorem dX7_opensFrom_14 : decode cX7_opensFrom 14 = .ok (.getfield 9, 3) := by decide +kernel
theorem dX7_opensFrom_17 : decode cX7_opensFrom 17 = .ok (.bipush 9, 2) := by decide +kernel
theorem dX7_opensFrom_19 : decode cX7_opensFrom 19 = .ok (.iload_n 1, 1) := by decide +kernel
theorem dX7_opensFrom_20 : decode cX7_opensFrom 20 = .ok (.iadd, 1) := by decide +kernel
theorem dX7_opensFrom_21 : decode cX7_opensFrom 21 = .ok (.iaload, 1) := by decide +kernel
theorem dX7_opensFrom_22 : decode cX7_opensFrom 22 = .ok (.iconst 1, 1) := by decide +kernel
theorem dX7_opensFrom_23 : decode cX7_opensFrom 23 = .ok (.iload_n 2, 1) := by decide +kernel
theorem dX7_opensFrom_24 : decode cX7_opensFrom 24 = .ok (.ishl, 1) := by decide +kernel
theorem dX7_opensFrom_25 : decode cX7_opensFrom 25 = .ok (.ior, 1) := by decide +kernel
theorem dX7_opensFrom_26 : decode cX7_opensFrom 26 = .ok (.goto 18, 3) := by decide +kernel
theorem dX7_opensFrom_29 : decode cX7_opensFrom 29 = .ok (.aload_n 0, 1) := by decide +kernel
theorem dX7_opensFrom_30 : decode cX7_opensFrom 30 = .ok (.getfield 9, 3) := by decide +kernel
theorem dX7_opensFrom_33 : decode cX7_opensFrom 33 = .ok (.bipush 9, 2) := by decide +kernel
theorem dX7_opensFrom_35 : decode cX7_opensFrom 35 = .ok (.iload_n 1, 1) := by decide +kernel
theorem dX7_opensFrom_36 : decode cX7_opensFrom 36 = .ok (.iadd, 1) := by decide +kernel
theorem dX7_opensFrom_37 : decode cX7_opensFrom 37 = .ok (.iaload, 1) := by decide +kernel
theorem dX7_opensFrom_38 : decode cX7_opensFrom 38 = .ok (.iconst 1, 1) := by decide +kernel
theorem dX7_opensFrom_39 : decode cX7_opensFrom 39 = .ok (.iload_n 2, 1) := by decide +kernel
theorem dX7_opensFrom_40 : decode cX7_opensFrom 40 = .ok (.ishl, 1) := by decide +kernel
theorem dX7_opensFrom_41 : decode cX7_opensFrom 41 = .ok (.iconst (-1), 1) := by decide +kernel
theorem dX7_opensFrom_42 : decode cX7_opensFrom 42 = .ok (.ixor, 1) := by decide +kernel
theorem dX7_opensFrom_43 : decode cX7_opensFrom 43 = .ok (.iand, 1) := by decide +kernel
theorem dX7_opensFrom_44 : decode cX7_opensFrom 44 = .ok (.iastore, 1) := by decide +kernel
theorem dX7_opensFrom_45 : decode cX7_opensFrom 45 = .ok (.aload_n 0, 1) := by decide +kernel
theorem dX7_opensFrom_46 : decode cX7_opensFrom 46 = .ok (.iconst 0, 1) := by decide +kernel
theorem dX7_opensFrom_47 : decode cX7_opensFrom 47 = .ok (.putfield 73, 3) := by decide +kernel
theorem dX7_opensFrom_50 : decode cX7_opensFrom 50 = .ok (.return_, 1) := by decide +kernel
theorem dX7_opens_0 : decode cX7_opens 0 = .ok (.iload_n 1, 1) := by decide +kernel
theorem dX7_opens_1 : decode cX7_opens 1 = .ok (.invokestatic 100, 3) := by decide +kernel
theorem dX7_opens_4 : decode cX7_opens 4 = .ok (.ifCond .eq 24, 3) := by decide +kernel
theorem dX7_opens_7 : decode cX7_opens 7 = .ok (.iload_n 2, 1) := by decide +kernel
theorem dX7_opens_8 : decode cX7_opens 8 = .ok (.invokestatic 100, 3) := by decide +kernel
theorem dX7_opens_11 : decode cX7_opens 11 = .ok (.ifCond .eq 17, 3) := by decide +kernel
theorem dX7_opens_14 : decode cX7_opens 14 = .ok (.iload_n 1, 1) := by decide +kernel
theorem dX7_opens_15 : decode cX7_opens 15 = .ok (.iload_n 2, 1) := by decide +kernel
theorem dX7_opens_16 : decode cX7_opens 16 = .ok (.if_icmp .eq 12, 3) := by decide +kernel
theorem dX7_opens_19 : decode cX7_opens 19 = .ok (.iload_n 3, 1) := by decide +kernel
theorem dX7_opens_20 : decode cX7_opens 20 = .ok (.iconst 0, 1) := by decide +kernel
theorem dX7_opens_21 : decode cX7_opens 21 = .ok (.iconst 1, 1) := by decide +kernel
theorem dX7_opens_22 : decode cX7_opens 22 = .ok (.invokestatic 57, 3) := by decide +kernel
theorem dX7_opens_25 : decode cX7_opens 25 = .ok (.ifCond .ne 10, 3) := by decide +kernel
theorem dX7_opens_28 : decode cX7_opens 28 = .ok (.aload_n 0, 1) := by decide +kernel
theorem dX7_opens_29 : decode cX7_opens 29 = .ok (.ldc 103, 2) := by decide +kernel
theorem dX7_opens_31 : decode cX7_opens 31 = .ok (.invokevirtual 104, 3) := by decide +kernel
theorem dX7_opens_34 : decode cX7_opens 34 = .ok (.ireturn, 1) := by decide +kernel
theorem dX7_opens_35 : decode cX7_opens 35 = .ok (.aload_n 0, 1) := by decide +kernel
theorem dX7_opens_36 : decode cX7_opens 36 = .ok (.getfield 9, 3) := by decide +kernel
theorem dX7_opens_39 : decode cX7_opens 39 = .ok (.bipush 9, 2) := by decide +kernel
theorem dX7_opens_41 : decode cX7_opens 41 = .ok (.iload_n 1, 1) := by decide +kernel
theorem dX7_opens_42 : decode cX7_opens 42 = .ok (.iadd, 1) := by decide +kernel
theorem dX7_opens_43 : decode cX7_opens 43 = .ok (.iaload, 1) := by decide +kernel
theorem dX7_opens_44 : decode cX7_opens 44 = .ok (.iload_n 2, 1) := by decide +kernel
theorem dX7_opens_45 : decode cX7_opens 45 = .ok (.ishr, 1) := by decide +kernel
theorem dX7_opens_46 : decode cX7_opens 46 = .ok (.iconst 1, 1) := by decide +kernel
theorem dX7_opens_47 : decode cX7_opens 47 = .ok (.iand, 1) := by decide +kernel
theorem dX7_opens_48 : decode cX7_opens 48 = .ok (.istore 4, 2) := by decide +kernel
theorem dX7_opens_50 : decode cX7_opens 50 = .ok (.aload_n 0, 1) := by decide +kernel
theorem dX7_opens_51 : decode cX7_opens 51 = .ok (.iload_n 1, 1) := by decide +kernel
theorem dX7_opens_52 : decode cX7_opens 52 = .ok (.iload_n 2, 1) := by decide +kernel
theorem dX7_opens_53 : decode cX7_opens 53 = .ok (.iload_n 3, 1) := by decide +kernel
theorem dX7_opens_54 : decode cX7_opens 54 = .ok (.invokevirtual 107, 3) := by decide +kernel
theorem dX7_opens_57 : decode cX7_opens 57 = .ok (.aload_n 0, 1) := by decide +kernel
theorem dX7_opens_58 : decode cX7_opens 58 = .ok (.iload_n 2, 1) := by decide +kernel
theorem dX7_opens_59 : decode cX7_opens 59 = .ok (.iload_n 1, 1) := by decide +kernel
theorem dX7_opens_60 : decode cX7_opens 60 = .ok (.iload_n 3, 1) := by decide +kernel
theorem dX7_opens_61 : decode cX7_opens 61 = .ok (.invokevirtual 107, 3) := by decide +kernel
theorem dX7_opens_64 : decode cX7_opens 64 = .ok (.iload 4, 2) := by decide +kernel
theorem dX7_opens_66 : decode cX7_opens 66 = .ok (.ireturn, 1) := by decide +kernel
theorem dX7_field_0 : decode cX7_field 0 = .ok (.iload_n 1, 1) := by decide +kernel
theorem dX7_field_1 : decode cX7_field 1 = .ok (.invokestatic 111, 3) := by decide +kernel
theorem dX7_field_4 : decode cX7_field 4 = .ok (.ifCond .eq 21, 3) := by decide +kernel
theorem dX7_field_7 : decode cX7_field 7 = .ok (.iload_n 2, 1) := by decide +kernel
theorem dX7_field_8 : decode cX7_field 8 = .ok (.invokestatic 100, 3) := by decide +kernel
theorem dX7_field_11 : decode cX7_field 11 = .ok (.ifCond .eq 14, 3) := by decide +kernel
theorem dX7_field_14 : decode cX7_field 14 = .ok (.aload_n 0, 1) := by decide +kernel
theorem dX7_field_15 : decode cX7_field 15 = .ok (.iconst 5, 1) := by decide +kernel
theorem dX7_field_16 : decode cX7_field 16 = .ok (.iload_n 1, 1) := by decide +kernel
theorem dX7_field_17 : decode cX7_field 17 = .ok (.iadd, 1) := by decide +kernel
theorem dX7_field_18 : decode cX7_field 18 = .ok (.iload_n 2, 1) := by decide +kernel
theorem dX7_field_19 : decode cX7_field 19 = .ok (.invokevirtual 114, 3) := by decide +kernel
theorem dX7_field_22 : decode cX7_field 22 = .ok (.goto 9, 3) := by decide +kernel
theorem dX7_field_25 : decode cX7_field 25 = .ok (.aload_n 0, 1) := by decide +kernel
theorem dX7_field_26 : decode cX7_field 26 = .ok (.ldc 103, 2) := by decide +kernel
theorem dX7_field_28 : decode cX7_field 28 = .ok (.invokevirtual 104, 3) := by decide +kernel
theorem dX7_field_31 : decode cX7_field 31 = .ok (.ireturn, 1) := by decide +kernel
theorem dX7_far_0 : decode cX7_far 0 = .ok (.iload_n 1, 1) := by decide +kernel
theorem dX7_far_1 : decode cX7_far 1 = .ok (.invokestatic 100, 3) := by decide +kernel
theorem dX7_far_4 : decode cX7_far 4 = .ok (.ifCond .eq 10, 3) := by decide +kernel
theorem dX7_far_7 : decode cX7_far 7 = .ok (.iload_n 2, 1) := by decide +kernel
theorem dX7_far_8 : decode cX7_far 8 = .ok (.invokestatic 100, 3) := by decide +kernel
theorem dX7_far_11 : decode cX7_far 11 = .ok (.ifCond .ne 10, 3) := by decide +kernel
theorem dX7_far_14 : decode cX7_far 14 = .ok (.aload_n 0, 1) := by decide +kernel
theorem dX7_far_15 : decode cX7_far 15 = .ok (.ldc 103, 2) := by decide +kernel
theorem dX7_far_17 : decode cX7_far 17 = .ok (.invokevirtual 104, 3) := by decide +kernel
theorem dX7_far_20 : decode cX7_far 20 = .ok (.ireturn, 1) := by decide +kernel
theorem dX7_far_21 : decode cX7_far 21 = .ok (.aload_n 0, 1) := by decide +kernel
theorem dX7_far_22 : decode cX7_far 22 = .ok (.iload_n 1, 1) := by decide +kernel
theorem dX7_far_23 : decode cX7_far 23 = .ok (.iload_n 2, 1) := by decide +kernel
theorem dX7_far_24 : decode cX7_far 24 = .ok (.invokevirtual 81, 3) := by decide +kernel
theorem dX7_far_27 : decode cX7_far 27 = .ok (.istore_n 3, 1) := by decide +kernel
theorem dX7_far_28 : decode cX7_far 28 = .ok (.iload_n 3, 1) := by decide +kernel
theorem dX7_far_29 : decode cX7_far 29 = .ok (.bipush 99, 2) := by decide +kernel
theorem dX7_far_31 : decode cX7_far 31 = .ok (.if_icmp .ne 12, 3) := by decide +kernel
theorem dX7_far_34 : decode cX7_far 34 = .ok (.aload_n 0, 1) := by decide +kernel
theorem dX7_far_35 : decode cX7_far 35 = .ok (.ldc 117, 2) := by decide +kernel
theorem dX7_far_37 : decode cX7_far 37 = .ok (.invokevirtual 104, 3) := by decide +kernel
theorem dX7_far_40 : decode cX7_far 40 = .ok (.goto 4, 3) := by decide +kernel
theorem dX7_far_43 : decode cX7_far 43 = .ok (.iload_n 3, 1) := by decide +kernel
theorem dX7_far_44 : decode cX7_far 44 = .ok (.ireturn, 1) := by decide +kernel
theorem dX7_isKm_0 : decode cX7_isKm 0 = .ok (.iload_n 0, 1) := by decide +kernel
theorem dX7_isKm_1 : decode cX7_isKm 1 = .ok (.iconst 0, 1) := by decide +kernel
theorem dX7_isKm_2 : decode cX7_isKm 2 = .ok (.bipush 69, 2) := by decide +kernel
theorem dX7_isKm_4 : decode cX7_isKm 4 = .ok (.invokestatic 57, 3) := by decide +kernel
theorem dX7_isKm_7 : decode cX7_isKm 7 = .ok (.ireturn, 1) := by decide +kernel
theorem dX7_bit_0 : decode cX7_bit 0 = .ok (.iload_n 1, 1) := by decide +kernel
theorem dX7_bit_1 : decode cX7_bit 1 = .ok (.invokestatic 118, 3) := by decide +kernel
theorem dX7_bit_4 : decode cX7_bit 4 = .ok (.ifCond .eq 17, 3) := by decide +kernel
theorem dX7_bit_7 : decode cX7_bit 7 = .ok (.iload_n 2, 1) := by decide +kernel
theorem dX7_bit_8 : decode cX7_bit 8 = .ok (.invokestatic 111, 3) := by decide +kernel
theorem dX7_bit_11 : decode cX7_bit 11 = .ok (.ifCond .eq 10, 3) := by decide +kernel
theorem dX7_bit_14 : decode cX7_bit 14 = .ok (.iload_n 3, 1) := by decide +kernel
theorem dX7_bit_15 : decode cX7_bit 15 = .ok (.invokestatic 100, 3) := by decide +kernel
theorem dX7_bit_18 : decode cX7_bit 18 = .ok (.ifCond .ne 10, 3) := by decide +kernel
theorem dX7_bit_21 : decode cX7_bit 21 = .ok (.aload_n 0, 1) := by decide +kernel
theorem dX7_bit_22 : decode cX7_bit 22 = .ok (.ldc 103, 2) := by decide +kernel
theorem dX7_bit_24 : decode cX7_bit 24 = .ok (.invokevirtual 104, 3) := by decide +kernel
theorem dX7_bit_27 : decode cX7_bit 27 = .ok (.ireturn, 1) := by decide +kernel
theorem dX7_bit_28 : decode cX7_bit 28 = .ok (.aload_n 0, 1) := by decide +kernel
theorem dX7_bit_29 : decode cX7_bit 29 = .ok (.getfield 9, 3) := by decide +kernel
theorem dX7_bit_32 : decode cX7_bit 32 = .ok (.iconst 2, 1) := by decide +kernel
theorem dX7_bit_33 : decode cX7_bit 33 = .ok (.iaload, 1) := by decide +kernel
theorem dX7_bit_34 : decode cX7_bit 34 = .ok (.istore 4, 2) := by decide +kernel
theorem dX7_bit_36 : decode cX7_bit 36 = .ok (.iload 4, 2) := by decide +kernel
theorem dX7_bit_38 : decode cX7_bit 38 = .ok (.bipush 8, 2) := by decide +kernel
theorem dX7_bit_40 : decode cX7_bit 40 = .ok (.if_icmp .ne 10, 3) := by decide +kernel
theorem dX7_bit_43 : decode cX7_bit 43 = .ok (.aload_n 0, 1) := by decide +kernel
theorem dX7_bit_44 : decode cX7_bit 44 = .ok (.ldc 121, 2) := by decide +kernel
theorem dX7_bit_46 : decode cX7_bit 46 = .ok (.invokevirtual 104, 3) := by decide +kernel
theorem dX7_bit_49 : decode cX7_bit 49 = .ok (.ireturn, 1) := by decide +kernel
theorem dX7_bit_50 : decode cX7_bit 50 = .ok (.aload_n 0, 1) := by decide +kernel
theorem dX7_bit_51 : decode cX7_bit 51 = .ok (.getfield 9, 3) := by decide +kernel
theorem dX7_bit_54 : decode cX7_bit 54 = .ok (.iconst 2, 1) := by decide +kernel
theorem dX7_bit_55 : decode cX7_bit 55 = .ok (.dup2, 1) := by decide +kernel
theorem dX7_bit_56 : decode cX7_bit 56 = .ok (.iaload, 1) := by decide +kernel
theorem dX7_bit_57 : decode cX7_bit 57 = .ok (.iconst 1, 1) := by decide +kernel
theorem dX7_bit_58 : decode cX7_bit 58 = .ok (.iadd, 1) := by decide +kernel
theorem dX7_bit_59 : decode cX7_bit 59 = .ok (.iastore, 1) := by decide +kernel
theorem dX7_bit_60 : decode cX7_bit 60 = .ok (.aload_n 0, 1) := by decide +kernel
theorem dX7_bit_61 : decode cX7_bit 61 = .ok (.iload 4, 2) := by decide +kernel
theorem dX7_bit_63 : decode cX7_bit 63 = .ok (.iconst 0, 1) := by decide +kernel
theorem dX7_bit_64 : decode cX7_bit 64 = .ok (.iload_n 1, 1) := by decide +kernel
theorem dX7_bit_65 : decode cX7_bit 65 = .ok (.bipush 10, 2) := by decide +kernel
theorem dX7_bit_67 : decode cX7_bit 67 = .ok (.idiv, 1) := by decide +kernel
theorem dX7_bit_68 : decode cX7_bit 68 = .ok (.invokevirtual 122, 3) := by decide +kernel
theorem dX7_bit_71 : decode cX7_bit 71 = .ok (.aload_n 0, 1) := by decide +kernel
theorem dX7_bit_72 : decode cX7_bit 72 = .ok (.iload 4, 2) := by decide +kernel
theorem dX7_bit_74 : decode cX7_bit 74 = .ok (.iconst 1, 1) := by decide +kernel
theorem dX7_bit_75 : decode cX7_bit 75 = .ok (.iload_n 1, 1) := by decide +kernel
theorem dX7_bit_76 : decode cX7_bit 76 = .ok (.bipush 10, 2) := by decide +kernel
theorem dX7_bit_78 : decode cX7_bit 78 = .ok (.irem, 1) := by decide +kernel
theorem dX7_bit_79 : decode cX7_bit 79 = .ok (.invokevirtual 122, 3) := by decide +kernel
theorem dX7_bit_82 : decode cX7_bit 82 = .ok (.aload_n 0, 1) := by decide +kernel
theorem dX7_bit_83 : decode cX7_bit 83 = .ok (.iload 4, 2) := by decide +kernel
theorem dX7_bit_85 : decode cX7_bit 85 = .ok (.iconst 2, 1) := by decide +kernel
theorem dX7_bit_86 : decode cX7_bit 86 = .ok (.iload_n 2, 1) := by decide +kernel
theorem dX7_bit_87 : decode cX7_bit 87 = .ok (.invokevirtual 122, 3) := by decide +kernel
theorem dX7_bit_90 : decode cX7_bit 90 = .ok (.aload_n 0, 1) := by decide +kernel
theorem dX7_bit_91 : decode cX7_bit 91 = .ok (.iload 4, 2) := by decide +kernel
theorem dX7_bit_93 : decode cX7_bit 93 = .ok (.iconst 3, 1) := by decide +kernel
theorem dX7_bit_94 : decode cX7_bit 94 = .ok (.iload_n 3, 1) := by decide +kernel
theorem dX7_bit_95 : decode cX7_bit 95 = .ok (.invokevirtual 122, 3) := by decide +kernel
theorem dX7_bit_98 : decode cX7_bit 98 = .ok (.aload_n 0, 1) := by decide +kernel
theorem dX7_bit_99 : decode cX7_bit 99 = .ok (.iload 4, 2) := by decide +kernel
theorem dX7_bit_101 : decode cX7_bit 101 = .ok (.iconst 4, 1) := by decide +kernel
theorem dX7_bit_102 : decode cX7_bit 102 = .ok (.iconst 0, 1) := by decide +kernel
theorem dX7_bit_103 : decode cX7_bit 103 = .ok (.invokevirtual 122, 3) := by decide +kernel
theorem dX7_bit_106 : decode cX7_bit 106 = .ok (.iload 4, 2) := by decide +kernel
theorem dX7_bit_108 : decode cX7_bit 108 = .ok (.ireturn, 1) := by decide +kernel
theorem dX7_bitIs_0 : decode cX7_bitIs 0 = .ok (.aload_n 0, 1) := by decide +kernel
theorem dX7_bitIs_1 : decode cX7_bitIs 1 = .ok (.iload_n 1, 1) := by decide +kernel
theorem dX7_bitIs_2 : decode cX7_bitIs 2 = .ok (.invokevirtual 125, 3) := by decide +kernel
theorem dX7_bitIs_5 : decode cX7_bitIs 5 = .ok (.ifCond .eq 13, 3) := by decide +kernel
theorem dX7_bitIs_8 : decode cX7_bitIs 8 = .ok (.iload_n 2, 1) := by decide +kernel
theorem dX7_bitIs_9 : decode cX7_bitIs 9 = .ok (.iconst 0, 1) := by decide +kernel
theorem dX7_bitIs_10 : decode cX7_bitIs 10 = .ok (.bipush 7, 2) := by decide +kernel
theorem dX7_bitIs_12 : decode cX7_bitIs 12 = .ok (.invokestatic 57, 3) := by decide +kernel
theorem dX7_bitIs_15 : decode cX7_bitIs 15 = .ok (.ifCond .ne 10, 3) := by decide +kernel
theorem dX7_bitIs_18 : decode cX7_bitIs 18 = .ok (.aload_n 0, 1) := by decide +kernel
theorem dX7_bitIs_19 : decode cX7_bitIs 19 = .ok (.ldc 103, 2) := by decide +kernel
theorem dX7_bitIs_21 : decode cX7_bitIs 21 = .ok (.invokevirtual 104, 3) := by decide +kernel
theorem dX7_bitIs_24 : decode cX7_bitIs 24 = .ok (.ireturn, 1) := by decide +kernel
theorem dX7_bitIs_25 : decode cX7_bitIs 25 = .ok (.iload_n 2, 1) := by decide +kernel
theorem dX7_bitIs_26 : decode cX7_bitIs 26 = .ok (.iconst 5, 1) := by decide +kernel
theorem dX7_bitIs_27 : decode cX7_bitIs 27 = .ok (.if_icmp .ge 10, 3) := by decide +kernel
theorem dX7_bitIs_30 : decode cX7_bitIs 30 = .ok (.aload_n 0, 1) := by decide +kernel
theorem dX7_bitIs_31 : decode cX7_bitIs 31 = .ok (.iload_n 1, 1) := by decide +kernel
theorem dX7_bitIs_32 : decode cX7_bitIs 32 = .ok (.iload_n 2, 1) := by decide +kernel
theorem dX7_bitIs_33 : decode cX7_bitIs 33 = .ok (.invokevirtual 61, 3) := by decide +kernel
theorem dX7_bitIs_36 : decode cX7_bitIs 36 = .ok (.ireturn, 1) := by decide +kernel
theorem dX7_bitIs_37 : decode cX7_bitIs 37 = .ok (.iload_n 2, 1) := by decide +kernel
theorem dX7_bitIs_38 : decode cX7_bitIs 38 = .ok (.iconst 5, 1) := by decide +kernel
theorem dX7_bitIs_39 : decode cX7_bitIs 39 = .ok (.if_icmp .ne 11, 3) := by decide +kernel
theorem dX7_bitIs_42 : decode cX7_bitIs 42 = .ok (.aload_n 0, 1) := by decide +kernel
theorem dX7_bitIs_43 : decode cX7_bitIs 43 = .ok (.iload_n 1, 1) := by decide +kernel
theorem dX7_bitIs_44 : decode cX7_bitIs 44 = .ok (.invokevirtual 128, 3) := by decide +kernel
theorem dX7_bitIs_47 : decode cX7_bitIs 47 = .ok (.goto 22, 3) := by decide +kernel
theorem dX7_bitIs_50 : decode cX7_bitIs 50 = .ok (.iload_n 2, 1) := by decide +kernel
theorem dX7_bitIs_51 : decode cX7_bitIs 51 = .ok (.bipush 6, 2) := by decide +kernel
theorem dX7_bitIs_53 : decode cX7_bitIs 53 = .ok (.if_icmp .ne 11, 3) := by decide +kernel
theorem dX7_bitIs_56 : decode cX7_bitIs 56 = .ok (.aload_n 0, 1) := by decide +kernel
theorem dX7_bitIs_57 : decode cX7_bitIs 57 = .ok (.iload_n 1, 1) := by decide +kernel
theorem dX7_bitIs_58 : decode cX7_bitIs 58 = .ok (.invokevirtual 131, 3) := by decide +kernel
theorem dX7_bitIs_61 : decode cX7_bitIs 61 = .ok (.goto 8, 3) := by decide +kernel
theorem dX7_bitIs_64 : decode cX7_bitIs 64 = .ok (.aload_n 0, 1) := by decide +kernel
theorem dX7_bitIs_65 : decode cX7_bitIs 65 = .ok (.iload_n 1, 1) := by decide +kernel
theorem dX7_bitIs_66 : decode cX7_bitIs 66 = .ok (.invokevirtual 134, 3) := by decide +kernel
theorem dX7_bitIs_69 : decode cX7_bitIs 69 = .ok (.ireturn, 1) := by decide +kernel
theorem dX7_become_0 : decode cX7_become 0 = .ok (.aload_n 0, 1) := by decide +kernel
theorem dX7_become_1 : decode cX7_become 1 = .ok (.iload_n 1, 1) := by decide +kernel
theorem dX7_become_2 : decode cX7_become 2 = .ok (.invokevirtual 125, 3) := by decide +kernel
theorem dX7_become_5 : decode cX7_become 5 = .ok (.ifCond .eq 10, 3) := by decide +kernel
theorem dX7_become_8 : decode cX7_become 8 = .ok (.iload_n 2, 1) := by decide +kernel
theorem dX7_become_9 : decode cX7_become 9 = .ok (.invokestatic 118, 3) := by decide +kernel
theorem dX7_become_12 : decode cX7_become 12 = .ok (.ifCond .ne 10, 3) := by decide +kernel
theorem dX7_become_15 : decode cX7_become 15 = .ok (.aload_n 0, 1) := by decide +kernel
theorem dX7_become_16 : decode cX7_become 16 = .ok (.ldc 103, 2) := by decide +kernel
theorem dX7_become_18 : decode cX7_become 18 = .ok (.invokevirtual 104, 3) := by decide +kernel
theorem dX7_become_21 : decode cX7_become 21 = .ok (.ireturn, 1) := by decide +kernel
theorem dX7_become_22 : decode cX7_become 22 = .ok (.aload_n 0, 1) := by decide +kernel
theorem dX7_become_23 : decode cX7_become 23 = .ok (.iload_n 1, 1) := by decide +kernel
theorem dX7_become_24 : decode cX7_become 24 = .ok (.iconst 1, 1) := by decide +kernel
theorem dX7_become_25 : decode cX7_become 25 = .ok (.iload_n 2, 1) := by decide +kernel
theorem dX7_become_26 : decode cX7_become 26 = .ok (.bipush 10, 2) := by decide +kernel
theorem dX7_become_28 : decode cX7_become 28 = .ok (.irem, 1) := by decide +kernel
theorem dX7_become_29 : decode cX7_become 29 = .ok (.invokevirtual 122, 3) := by decide +kernel
theorem dX7_become_32 : decode cX7_become 32 = .ok (.aload_n 0, 1) := by decide +kernel
theorem dX7_become_33 : decode cX7_become 33 = .ok (.bipush 19, 2) := by decide +kernel
theorem dX7_become_35 : decode cX7_become 35 = .ok (.iconst 5, 1) := by decide +kernel
theorem dX7_become_36 : decode cX7_become 36 = .ok (.iload_n 1, 1) := by decide +kernel
theorem dX7_become_37 : decode cX7_become 37 = .ok (.imul, 1) := by decide +kernel
theorem dX7_become_38 : decode cX7_become 38 = .ok (.iadd, 1) := by decide +kernel
theorem dX7_become_39 : decode cX7_become 39 = .ok (.iload_n 2, 1) := by decide +kernel
theorem dX7_become_40 : decode cX7_become 40 = .ok (.bipush 10, 2) := by decide +kernel
theorem dX7_become_42 : decode cX7_become 42 = .ok (.idiv, 1) := by decide +kernel
theorem dX7_become_43 : decode cX7_become 43 = .ok (.invokevirtual 114, 3) := by decide +kernel
theorem dX7_become_46 : decode cX7_become 46 = .ok (.ireturn, 1) := by decide +kernel
theorem dX7_as_0 : decode cX7_as 0 = .ok (.aload_n 0, 1) := by decide +kernel
theorem dX7_as_1 : decode cX7_as 1 = .ok (.iload_n 1, 1) := by decide +kernel
theorem dX7_as_2 : decode cX7_as 2 = .ok (.invokevirtual 125, 3) := by decide +kernel
theorem dX7_as_5 : decode cX7_as 5 = .ok (.ifCond .eq 13, 3) := by decide +kernel
theorem dX7_as_8 : decode cX7_as 8 = .ok (.iload_n 2, 1) := by decide +kernel
theorem dX7_as_9 : decode cX7_as 9 = .ok (.iconst 0, 1) := by decide +kernel
theorem dX7_as_10 : decode cX7_as 10 = .ok (.bipush 6, 2) := by decide +kernel
theorem dX7_as_12 : decode cX7_as 12 = .ok (.invokestatic 57, 3) := by decide +kernel
theorem dX7_as_15 : decode cX7_as 15 = .ok (.ifCond .ne 10, 3) := by decide +kernel
theorem dX7_as_18 : decode cX7_as 18 = .ok (.aload_n 0, 1) := by decide +kernel
theorem dX7_as_19 : decode cX7_as 19 = .ok (.ldc 103, 2) := by decide +kernel
theorem dX7_as_21 : decode cX7_as 21 = .ok (.invokevirtual 104, 3) := by decide +kernel
theorem dX7_as_24 : decode cX7_as 24 = .ok (.ireturn, 1) := by decide +kernel
theorem dX7_as_25 : decode cX7_as 25 = .ok (.aload_n 0, 1) := by decide +kernel
theorem dX7_as_26 : decode cX7_as 26 = .ok (.iload_n 1, 1) := by decide +kernel
theorem dX7_as_27 : decode cX7_as 27 = .ok (.iconst 0, 1) := by decide +kernel
theorem dX7_as_28 : decode cX7_as 28 = .ok (.invokevirtual 61, 3) := by decide +kernel
theorem dX7_as_31 : decode cX7_as 31 = .ok (.istore_n 3, 1) := by decide +kernel
theorem dX7_as_32 : decode cX7_as 32 = .ok (.iload_n 2, 1) := by decide +kernel
theorem dX7_as_33 : decode cX7_as 33 = .ok (.ifCond .eq 28, 3) := by decide +kernel
theorem dX7_as_36 : decode cX7_as 36 = .ok (.iload_n 2, 1) := by decide +kernel
theorem dX7_as_37 : decode cX7_as 37 = .ok (.iload_n 3, 1) := by decide +kernel
theorem dX7_as_38 : decode cX7_as 38 = .ok (.if_icmp .eq 23, 3) := by decide +kernel
theorem dX7_as_41 : decode cX7_as 41 = .ok (.iload_n 2, 1) := by decide +kernel
theorem dX7_as_42 : decode cX7_as 42 = .ok (.iconst 1, 1) := by decide +kernel
theorem dX7_as_43 : decode cX7_as 43 = .ok (.if_icmp .ne 8, 3) := by decide +kernel
theorem dX7_as_46 : decode cX7_as 46 = .ok (.iload_n 3, 1) := by decide +kernel
theorem dX7_as_47 : decode cX7_as 47 = .ok (.iconst 4, 1) := by decide +kernel
theorem dX7_as_48 : decode cX7_as 48 = .ok (.if_icmp .eq 13, 3) := by decide +kernel
theorem dX7_as_51 : decode cX7_as 51 = .ok (.iload_n 2, 1) := by decide +kernel
theorem dX7_as_52 : decode cX7_as 52 = .ok (.iconst 2, 1) := by decide +kernel
theorem dX7_as_53 : decode cX7_as 53 = .ok (.if_icmp .ne 12, 3) := by decide +kernel
theorem dX7_as_56 : decode cX7_as 56 = .ok (.iload_n 3, 1) := by decide +kernel
theorem dX7_as_57 : decode cX7_as 57 = .ok (.iconst 5, 1) := by decide +kernel
theorem dX7_as_58 : decode cX7_as 58 = .ok (.if_icmp .ne 7, 3) := by decide +kernel
theorem dX7_as_61 : decode cX7_as 61 = .ok (.iconst 1, 1) := by decide +kernel
theorem dX7_as_62 : decode cX7_as 62 = .ok (.goto 4, 3) := by decide +kernel
theorem dX7_as_65 : decode cX7_as 65 = .ok (.iconst 0, 1) := by decide +kernel
theorem dX7_as_66 : decode cX7_as 66 = .ok (.istore 4, 2) := by decide +kernel
theorem dX7_as_68 : decode cX7_as 68 = .ok (.iload 4, 2) := by decide +kernel
theorem dX7_as_70 : decode cX7_as 70 = .ok (.ifCond .eq 12, 3) := by decide +kernel
theorem dX7_as_73 : decode cX7_as 73 = .ok (.aload_n 0, 1) := by decide +kernel
theorem dX7_as_74 : decode cX7_as 74 = .ok (.iload_n 1, 1) := by decide +kernel
theorem dX7_as_75 : decode cX7_as 75 = .ok (.iconst 1, 1) := by decide +kernel
theorem dX7_as_76 : decode cX7_as 76 = .ok (.invokevirtual 61, 3) := by decide +kernel
theorem dX7_as_79 : decode cX7_as 79 = .ok (.goto 9, 3) := by decide +kernel
theorem dX7_as_82 : decode cX7_as 82 = .ok (.aload_n 0, 1) := by decide +kernel
theorem dX7_as_83 : decode cX7_as 83 = .ok (.ldc 137, 2) := by decide +kernel
theorem dX7_as_85 : decode cX7_as 85 = .ok (.invokevirtual 104, 3) := by decide +kernel
theorem dX7_as_88 : decode cX7_as 88 = .ok (.ireturn, 1) := by decide +kernel
theorem dX7_hears_0 : decode cX7_hears 0 = .ok (.aload_n 0, 1) := by decide +kernel
theorem dX7_hears_1 : decode cX7_hears 1 = .ok (.iload_n 1, 1) := by decide +kernel
theorem dX7_hears_2 : decode cX7_hears 2 = .ok (.invokevirtual 125, 3) := by decide +kernel
theorem dX7_hears_5 : decode cX7_hears 5 = .ok (.ifCond .eq 29, 3) := by decide +kernel
theorem dX7_hears_8 : decode cX7_hears 8 = .ok (.iload_n 2, 1) := by decide +kernel
theorem dX7_hears_9 : decode cX7_hears 9 = .ok (.iconst 0, 1) := by decide +kernel
theorem dX7_hears_10 : decode cX7_hears 10 = .ok (.bipush 9, 2) := by decide +kernel
theorem dX7_hears_12 : decode cX7_hears 12 = .ok (.invokestatic 57, 3) := by decide +kernel
theorem dX7_hears_15 : decode cX7_hears 15 = .ok (.ifCond .eq 19, 3) := by decide +kernel
theorem dX7_hears_18 : decode cX7_hears 18 = .ok (.aload_n 0, 1) := by decide +kernel
theorem dX7_hears_19 : decode cX7_hears 19 = .ok (.bipush 19, 2) := by decide +kernel
theorem dX7_hears_21 : decode cX7_hears 21 = .ok (.iconst 5, 1) := by decide +kernel
theorem dX7_hears_22 : decode cX7_hears 22 = .ok (.iload_n 1, 1) := by decide +kernel
theorem dX7_hears_23 : decode cX7_hears 23 = .ok (.imul, 1) := by decide +kernel
theorem dX7_hears_24 : decode cX7_hears 24 = .ok (.iadd, 1) := by decide +kernel
theorem dX7_hears_25 : decode cX7_hears 25 = .ok (.iconst 4, 1) := by decide +kernel
theorem dX7_hears_26 : decode cX7_hears 26 = .ok (.iadd, 1) := by decide +kernel
theorem dX7_hears_27 : decode cX7_hears 27 = .ok (.iload_n 2, 1) := by decide +kernel
theorem dX7_hears_28 : decode cX7_hears 28 = .ok (.invokevirtual 114, 3) := by decide +kernel
theorem dX7_hears_31 : decode cX7_hears 31 = .ok (.goto 9, 3) := by decide +kernel
theorem dX7_hears_34 : decode cX7_hears 34 = .ok (.aload_n 0, 1) := by decide +kernel
theorem dX7_hears_35 : decode cX7_hears 35 = .ok (.ldc 103, 2) := by decide +kernel
theorem dX7_hears_37 : decode cX7_hears 37 = .ok (.invokevirtual 104, 3) := by decide +kernel
theorem dX7_hears_40 : decode cX7_hears 40 = .ok (.ireturn, 1) := by decide +kernel
theorem dX7_lay_0 : decode cX7_lay 0 = .ok (.aload_n 0, 1) := by decide +kernel
theorem dX7_lay_1 : decode cX7_lay 1 = .ok (.iload_n 1, 1) := by decide +kernel
theorem dX7_lay_2 : decode cX7_lay 2 = .ok (.invokevirtual 125, 3) := by decide +kernel
theorem dX7_lay_5 : decode cX7_lay 5 = .ok (.ifCond .eq 26, 3) := by decide +kernel
theorem dX7_lay_8 : decode cX7_lay 8 = .ok (.iload_n 2, 1) := by decide +kernel
theorem dX7_lay_9 : decode cX7_lay 9 = .ok (.invokestatic 100, 3) := by decide +kernel
theorem dX7_lay_12 : decode cX7_lay 12 = .ok (.ifCond .eq 19, 3) := by decide +kernel
theorem dX7_lay_15 : decode cX7_lay 15 = .ok (.aload_n 0, 1) := by decide +kernel
theorem dX7_lay_16 : decode cX7_lay 16 = .ok (.bipush 19, 2) := by decide +kernel
theorem dX7_lay_18 : decode cX7_lay 18 = .ok (.iconst 5, 1) := by decide +kernel
theorem dX7_lay_19 : decode cX7_lay 19 = .ok (.iload_n 1, 1) := by decide +kernel
theorem dX7_lay_20 : decode cX7_lay 20 = .ok (.imul, 1) := by decide +kernel
theorem dX7_lay_21 : decode cX7_lay 21 = .ok (.iadd, 1) := by decide +kernel
theorem dX7_lay_22 : decode cX7_lay 22 = .ok (.iconst 3, 1) := by decide +kernel
theorem dX7_lay_23 : decode cX7_lay 23 = .ok (.iadd, 1) := by decide +kernel
theorem dX7_lay_24 : decode cX7_lay 24 = .ok (.iload_n 2, 1) := by decide +kernel
theorem dX7_lay_25 : decode cX7_lay 25 = .ok (.invokevirtual 114, 3) := by decide +kernel
theorem dX7_lay_28 : decode cX7_lay 28 = .ok (.goto 9, 3) := by decide +kernel
theorem dX7_lay_31 : decode cX7_lay 31 = .ok (.aload_n 0, 1) := by decide +kernel
theorem dX7_lay_32 : decode cX7_lay 32 = .ok (.ldc 103, 2) := by decide +kernel
theorem dX7_lay_34 : decode cX7_lay 34 = .ok (.invokevirtual 104, 3) := by decide +kernel
theorem dX7_lay_37 : decode cX7_lay 37 = .ok (.ireturn, 1) := by decide +kernel
theorem dX7_feed_0 : decode cX7_feed 0 = .ok (.iload_n 3, 1) := by decide +kernel
theorem dX7_feed_1 : decode cX7_feed 1 = .ok (.iconst 1, 1) := by decide +kernel
theorem dX7_feed_2 : decode cX7_feed 2 = .ok (.bipush 8, 2) := by decide +kernel
theorem dX7_feed_4 : decode cX7_feed 4 = .ok (.invokestatic 57, 3) := by decide +kernel
theorem dX7_feed_7 : decode cX7_feed 7 = .ok (.ifCond .ne 10, 3) := by decide +kernel
theorem dX7_feed_10 : decode cX7_feed 10 = .ok (.aload_n 0, 1) := by decide +kernel
theorem dX7_feed_11 : decode cX7_feed 11 = .ok (.ldc 103, 2) := by decide +kernel
theorem dX7_feed_13 : decode cX7_feed 13 = .ok (.invokevirtual 104, 3) := by decide +kernel
theorem dX7_feed_16 : decode cX7_feed 16 = .ok (.ireturn, 1) := by decide +kernel
theorem dX7_feed_17 : decode cX7_feed 17 = .ok (.aload_n 0, 1) := by decide +kernel
theorem dX7_feed_18 : decode cX7_feed 18 = .ok (.getfield 9, 3) := by decide +kernel
theorem dX7_feed_21 : decode cX7_feed 21 = .ok (.iconst 3, 1) := by decide +kernel
theorem dX7_feed_22 : decode cX7_feed 22 = .ok (.iaload, 1) := by decide +kernel
theorem dX7_feed_23 : decode cX7_feed 23 = .ok (.iload_n 3, 1) := by decide +kernel
theorem dX7_feed_24 : decode cX7_feed 24 = .ok (.iadd, 1) := by decide +kernel
theorem dX7_feed_25 : decode cX7_feed 25 = .ok (.bipush 60, 2) := by decide +kernel
theorem dX7_feed_27 : decode cX7_feed 27 = .ok (.if_icmp .le 10, 3) := by decide +kernel
theorem dX7_feed_30 : decode cX7_feed 30 = .ok (.aload_n 0, 1) := by decide +kernel
theorem dX7_feed_31 : decode cX7_feed 31 = .ok (.ldc 121, 2) := by decide +kernel
theorem dX7_feed_33 : decode cX7_feed 33 = .ok (.invokevirtual 104, 3) := by decide +kernel
theorem dX7_feed_36 : decode cX7_feed 36 = .ok (.ireturn, 1) := by decide +kernel
theorem dX7_feed_37 : decode cX7_feed 37 = .ok (.iconst 0, 1) := by decide +kernel
theorem dX7_feed_38 : decode cX7_feed 38 = .ok (.istore 4, 2) := by decide +kernel
theorem dX7_feed_40 : decode cX7_feed 40 = .ok (.iload 4, 2) := by decide +kernel
theorem dX7_feed_42 : decode cX7_feed 42 = .ok (.iload_n 3, 1) := by decide +kernel
theorem dX7_feed_43 : decode cX7_feed 43 = .ok (.if_icmp .ge 45, 3) := by decide +kernel
theorem dX7_feed_46 : decode cX7_feed 46 = .ok (.aload_n 0, 1) := by decide +kernel
theorem dX7_feed_47 : decode cX7_feed 47 = .ok (.getfield 9, 3) := by decide +kernel
theorem dX7_feed_50 : decode cX7_feed 50 = .ok (.bipush 59, 2) := by decide +kernel
theorem dX7_feed_52 : decode cX7_feed 52 = .ok (.aload_n 0, 1) := by decide +kernel
theorem dX7_feed_53 : decode cX7_feed 53 = .ok (.getfield 9, 3) := by decide +kernel
theorem dX7_feed_56 : decode cX7_feed 56 = .ok (.iconst 3, 1) := by decide +kernel
theorem dX7_feed_57 : decode cX7_feed 57 = .ok (.iaload, 1) := by decide +kernel
theorem dX7_feed_58 : decode cX7_feed 58 = .ok (.iadd, 1) := by decide +kernel
theorem dX7_feed_59 : decode cX7_feed 59 = .ok (.lload_n 1, 1) := by decide +kernel
theorem dX7_feed_60 : decode cX7_feed 60 = .ok (.bipush 8, 2) := by decide +kernel
theorem dX7_feed_62 : decode cX7_feed 62 = .ok (.iload 4, 2) := by decide +kernel
theorem dX7_feed_64 : decode cX7_feed 64 = .ok (.imul, 1) := by decide +kernel
theorem dX7_feed_65 : decode cX7_feed 65 = .ok (.lshr, 1) := by decide +kernel
theorem dX7_feed_66 : decode cX7_feed 66 = .ok (.ldc2_w 138, 3) := by decide +kernel
theorem dX7_feed_69 : decode cX7_feed 69 = .ok (.land, 1) := by decide +kernel
theorem dX7_feed_70 : decode cX7_feed 70 = .ok (.l2i, 1) := by decide +kernel
theorem dX7_feed_71 : decode cX7_feed 71 = .ok (.iastore, 1) := by decide +kernel
theorem dX7_feed_72 : decode cX7_feed 72 = .ok (.aload_n 0, 1) := by decide +kernel
theorem dX7_feed_73 : decode cX7_feed 73 = .ok (.getfield 9, 3) := by decide +kernel
theorem dX7_feed_76 : decode cX7_feed 76 = .ok (.iconst 3, 1) := by decide +kernel
theorem dX7_feed_77 : decode cX7_feed 77 = .ok (.dup2, 1) := by decide +kernel
theorem dX7_feed_78 : decode cX7_feed 78 = .ok (.iaload, 1) := by decide +kernel
theorem dX7_feed_79 : decode cX7_feed 79 = .ok (.iconst 1, 1) := by decide +kernel
theorem dX7_feed_80 : decode cX7_feed 80 = .ok (.iadd, 1) := by decide +kernel
theorem dX7_feed_81 : decode cX7_feed 81 = .ok (.iastore, 1) := by decide +kernel
theorem dX7_feed_82 : decode cX7_feed 82 = .ok (.iinc 4 1, 3) := by decide +kernel
theorem dX7_feed_85 : decode cX7_feed 85 = .ok (.goto (-45), 3) := by decide +kernel
theorem dX7_feed_88 : decode cX7_feed 88 = .ok (.aload_n 0, 1) := by decide +kernel
theorem dX7_feed_89 : decode cX7_feed 89 = .ok (.getfield 9, 3) := by decide +kernel
theorem dX7_feed_92 : decode cX7_feed 92 = .ok (.iconst 3, 1) := by decide +kernel
theorem dX7_feed_93 : decode cX7_feed 93 = .ok (.iaload, 1) := by decide +kernel
theorem dX7_feed_94 : decode cX7_feed 94 = .ok (.ireturn, 1) := by decide +kernel
theorem dX7_look_0 : decode cX7_look 0 = .ok (.aload_n 0, 1) := by decide +kernel
theorem dX7_look_1 : decode cX7_look 1 = .ok (.getfield 140, 3) := by decide +kernel
theorem dX7_look_4 : decode cX7_look 4 = .ok (.aload_n 0, 1) := by decide +kernel
theorem dX7_look_5 : decode cX7_look 5 = .ok (.getfield 9, 3) := by decide +kernel
theorem dX7_look_8 : decode cX7_look 8 = .ok (.iconst 3, 1) := by decide +kernel
theorem dX7_look_9 : decode cX7_look 9 = .ok (.iaload, 1) := by decide +kernel
theorem dX7_look_10 : decode cX7_look 10 = .ok (.if_icmp .ge 18, 3) := by decide +kernel
theorem dX7_look_13 : decode cX7_look 13 = .ok (.aload_n 0, 1) := by decide +kernel
theorem dX7_look_14 : decode cX7_look 14 = .ok (.getfield 9, 3) := by decide +kernel
theorem dX7_look_17 : decode cX7_look 17 = .ok (.bipush 59, 2) := by decide +kernel
theorem dX7_look_19 : decode cX7_look 19 = .ok (.aload_n 0, 1) := by decide +kernel
theorem dX7_look_20 : decode cX7_look 20 = .ok (.getfield 140, 3) := by decide +kernel
theorem dX7_look_23 : decode cX7_look 23 = .ok (.iadd, 1) := by decide +kernel
theorem dX7_look_24 : decode cX7_look 24 = .ok (.iaload, 1) := by decide +kernel
theorem dX7_look_25 : decode cX7_look 25 = .ok (.goto 4, 3) := by decide +kernel
theorem dX7_look_28 : decode cX7_look 28 = .ok (.iconst (-1), 1) := by decide +kernel
theorem dX7_look_29 : decode cX7_look 29 = .ok (.ireturn, 1) := by decide +kernel
theorem dX7_laysBy_0 : decode cX7_laysBy 0 = .ok (.aload_n 0, 1) := by decide +kernel
theorem dX7_laysBy_1 : decode cX7_laysBy 1 = .ok (.getfield 144, 3) := by decide +kernel
theorem dX7_laysBy_4 : decode cX7_laysBy 4 = .ok (.aload_n 0, 1) := by decide +kernel
theorem dX7_laysBy_5 : decode cX7_laysBy 5 = .ok (.getfield 34, 3) := by decide +kernel
theorem dX7_laysBy_8 : decode cX7_laysBy 8 = .ok (.arraylength, 1) := by decide +kernel
theorem dX7_laysBy_9 : decode cX7_laysBy 9 = .ok (.if_icmp .ge 33, 3) := by decide +kernel
theorem dX7_laysBy_12 : decode cX7_laysBy 12 = .ok (.aload_n 0, 1) := by decide +kernel
theorem dX7_laysBy_13 : decode cX7_laysBy 13 = .ok (.getfield 34, 3) := by decide +kernel
theorem dX7_laysBy_16 : decode cX7_laysBy 16 = .ok (.aload_n 0, 1) := by decide +kernel
theorem dX7_laysBy_17 : decode cX7_laysBy 17 = .ok (.getfield 144, 3) := by decide +kernel
theorem dX7_laysBy_20 : decode cX7_laysBy 20 = .ok (.iload_n 1, 1) := by decide +kernel
theorem dX7_laysBy_21 : decode cX7_laysBy 21 = .ok (.iastore, 1) := by decide +kernel
theorem dX7_laysBy_22 : decode cX7_laysBy 22 = .ok (.aload_n 0, 1) := by decide +kernel
theorem dX7_laysBy_23 : decode cX7_laysBy 23 = .ok (.getfield 37, 3) := by decide +kernel
theorem dX7_laysBy_26 : decode cX7_laysBy 26 = .ok (.aload_n 0, 1) := by decide +kernel
theorem dX7_laysBy_27 : decode cX7_laysBy 27 = .ok (.getfield 144, 3) := by decide +kernel
theorem dX7_laysBy_30 : decode cX7_laysBy 30 = .ok (.iload_n 2, 1) := by decide +kernel
theorem dX7_laysBy_31 : decode cX7_laysBy 31 = .ok (.iastore, 1) := by decide +kernel
theorem dX7_laysBy_32 : decode cX7_laysBy 32 = .ok (.aload_n 0, 1) := by decide +kernel
theorem dX7_laysBy_33 : decode cX7_laysBy 33 = .ok (.dup, 1) := by decide +kernel
theorem dX7_laysBy_34 : decode cX7_laysBy 34 = .ok (.getfield 144, 3) := by decide +kernel
theorem dX7_laysBy_37 : decode cX7_laysBy 37 = .ok (.iconst 1, 1) := by decide +kernel
theorem dX7_laysBy_38 : decode cX7_laysBy 38 = .ok (.iadd, 1) := by decide +kernel
theorem dX7_laysBy_39 : decode cX7_laysBy 39 = .ok (.putfield 144, 3) := by decide +kernel
theorem dX7_laysBy_42 : decode cX7_laysBy 42 = .ok (.return_, 1) := by decide +kernel
theorem dX7_nameOf_0 : decode cX7_nameOf 0 = .ok (.iload_n 1, 1) := by decide +kernel
theorem dX7_nameOf_1 : decode cX7_nameOf 1 = .ok (.lookupswitch 126 #[(100, 59), (102, 59), (104, 92), (115, 59), (119, 92), (121, 92)], 59) := by decide +kernel
theorem dX7_nameOf_60 : decode cX7_nameOf 60 = .ok (.aload_n 0, 1) := by decide +kernel
theorem dX7_nameOf_61 : decode cX7_nameOf 61 = .ok (.getfield 147, 3) := by decide +kernel
theorem dX7_nameOf_64 : decode cX7_nameOf 64 = .ok (.ifCond .eq 7, 3) := by decide +kernel
theorem dX7_nameOf_67 : decode cX7_nameOf 67 = .ok (.iconst (-1), 1) := by decide +kernel
theorem dX7_nameOf_68 : decode cX7_nameOf 68 = .ok (.goto 24, 3) := by decide +kernel
theorem dX7_nameOf_71 : decode cX7_nameOf 71 = .ok (.iload_n 1, 1) := by decide +kernel
theorem dX7_nameOf_72 : decode cX7_nameOf 72 = .ok (.bipush 115, 2) := by decide +kernel
theorem dX7_nameOf_74 : decode cX7_nameOf 74 = .ok (.if_icmp .ne 7, 3) := by decide +kernel
theorem dX7_nameOf_77 : decode cX7_nameOf 77 = .ok (.iconst 0, 1) := by decide +kernel
theorem dX7_nameOf_78 : decode cX7_nameOf 78 = .ok (.goto 14, 3) := by decide +kernel
theorem dX7_nameOf_81 : decode cX7_nameOf 81 = .ok (.iload_n 1, 1) := by decide +kernel
theorem dX7_nameOf_82 : decode cX7_nameOf 82 = .ok (.bipush 100, 2) := by decide +kernel
theorem dX7_nameOf_84 : decode cX7_nameOf 84 = .ok (.if_icmp .ne 7, 3) := by decide +kernel
theorem dX7_nameOf_87 : decode cX7_nameOf 87 = .ok (.iconst 1, 1) := by decide +kernel
theorem dX7_nameOf_88 : decode cX7_nameOf 88 = .ok (.goto 4, 3) := by decide +kernel
theorem dX7_nameOf_91 : decode cX7_nameOf 91 = .ok (.iconst 2, 1) := by decide +kernel
theorem dX7_nameOf_92 : decode cX7_nameOf 92 = .ok (.ireturn, 1) := by decide +kernel
theorem dX7_nameOf_93 : decode cX7_nameOf 93 = .ok (.aload_n 0, 1) := by decide +kernel
theorem dX7_nameOf_94 : decode cX7_nameOf 94 = .ok (.getfield 147, 3) := by decide +kernel
theorem dX7_nameOf_97 : decode cX7_nameOf 97 = .ok (.iconst 1, 1) := by decide +kernel
theorem dX7_nameOf_98 : decode cX7_nameOf 98 = .ok (.if_icmp .eq 7, 3) := by decide +kernel
theorem dX7_nameOf_101 : decode cX7_nameOf 101 = .ok (.iconst (-1), 1) := by decide +kernel
theorem dX7_nameOf_102 : decode cX7_nameOf 102 = .ok (.goto 24, 3) := by decide +kernel
theorem dX7_nameOf_105 : decode cX7_nameOf 105 = .ok (.iload_n 1, 1) := by decide +kernel
theorem dX7_nameOf_106 : decode cX7_nameOf 106 = .ok (.bipush 119, 2) := by decide +kernel
theorem dX7_nameOf_108 : decode cX7_nameOf 108 = .ok (.if_icmp .ne 7, 3) := by decide +kernel
theorem dX7_nameOf_111 : decode cX7_nameOf 111 = .ok (.iconst 0, 1) := by decide +kernel
theorem dX7_nameOf_112 : decode cX7_nameOf 112 = .ok (.goto 14, 3) := by decide +kernel
theorem dX7_nameOf_115 : decode cX7_nameOf 115 = .ok (.iload_n 1, 1) := by decide +kernel
theorem dX7_nameOf_116 : decode cX7_nameOf 116 = .ok (.bipush 104, 2) := by decide +kernel
theorem dX7_nameOf_118 : decode cX7_nameOf 118 = .ok (.if_icmp .ne 7, 3) := by decide +kernel
theorem dX7_nameOf_121 : decode cX7_nameOf 121 = .ok (.iconst 1, 1) := by decide +kernel
theorem dX7_nameOf_122 : decode cX7_nameOf 122 = .ok (.goto 4, 3) := by decide +kernel
theorem dX7_nameOf_125 : decode cX7_nameOf 125 = .ok (.iconst 2, 1) := by decide +kernel
theorem dX7_nameOf_126 : decode cX7_nameOf 126 = .ok (.ireturn, 1) := by decide +kernel
theorem dX7_nameOf_127 : decode cX7_nameOf 127 = .ok (.iconst (-1), 1) := by decide +kernel
theorem dX7_nameOf_128 : decode cX7_nameOf 128 = .ok (.ireturn, 1) := by decide +kernel
theorem dX7_number_0 : decode cX7_number 0 = .ok (.iconst 0, 1) := by decide +kernel
theorem dX7_number_1 : decode cX7_number 1 = .ok (.istore_n 1, 1) := by decide +kernel
theorem dX7_number_2 : decode cX7_number 2 = .ok (.iconst 0, 1) := by decide +kernel
theorem dX7_number_3 : decode cX7_number 3 = .ok (.istore_n 2, 1) := by decide +kernel
theorem dX7_number_4 : decode cX7_number 4 = .ok (.iload_n 2, 1) := by decide +kernel
theorem dX7_number_5 : decode cX7_number 5 = .ok (.iconst 4, 1) := by decide +kernel
theorem dX7_number_6 : decode cX7_number 6 = .ok (.if_icmp .ge 46, 3) := by decide +kernel
theorem dX7_number_9 : decode cX7_number 9 = .ok (.aload_n 0, 1) := by decide +kernel
theorem dX7_number_10 : decode cX7_number 10 = .ok (.invokevirtual 150, 3) := by decide +kernel
theorem dX7_number_13 : decode cX7_number 13 = .ok (.bipush 48, 2) := by decide +kernel
theorem dX7_number_15 : decode cX7_number 15 = .ok (.bipush 57, 2) := by decide +kernel
theorem dX7_number_17 : decode cX7_number 17 = .ok (.invokestatic 57, 3) := by decide +kernel
theorem dX7_number_20 : decode cX7_number 20 = .ok (.ifCond .eq 32, 3) := by decide +kernel
theorem dX7_number_23 : decode cX7_number 23 = .ok (.bipush 10, 2) := by decide +kernel
theorem dX7_number_25 : decode cX7_number 25 = .ok (.iload_n 1, 1) := by decide +kernel
theorem dX7_number_26 : decode cX7_number 26 = .ok (.imul, 1) := by decide +kernel
theorem dX7_number_27 : decode cX7_number 27 = .ok (.aload_n 0, 1) := by decide +kernel
theorem dX7_number_28 : decode cX7_number 28 = .ok (.invokevirtual 150, 3) := by decide +kernel
theorem dX7_number_31 : decode cX7_number 31 = .ok (.iadd, 1) := by decide +kernel
theorem dX7_number_32 : decode cX7_number 32 = .ok (.bipush 48, 2) := by decide +kernel
theorem dX7_number_34 : decode cX7_number 34 = .ok (.isub, 1) := by decide +kernel
theorem dX7_number_35 : decode cX7_number 35 = .ok (.istore_n 1, 1) := by decide +kernel
theorem dX7_number_36 : decode cX7_number 36 = .ok (.aload_n 0, 1) := by decide +kernel
theorem dX7_number_37 : decode cX7_number 37 = .ok (.dup, 1) := by decide +kernel
theorem dX7_number_38 : decode cX7_number 38 = .ok (.getfield 140, 3) := by decide +kernel
theorem dX7_number_41 : decode cX7_number 41 = .ok (.iconst 1, 1) := by decide +kernel
theorem dX7_number_42 : decode cX7_number 42 = .ok (.iadd, 1) := by decide +kernel
theorem dX7_number_43 : decode cX7_number 43 = .ok (.putfield 140, 3) := by decide +kernel
theorem dX7_number_46 : decode cX7_number 46 = .ok (.iinc 2 1, 3) := by decide +kernel
theorem dX7_number_49 : decode cX7_number 49 = .ok (.goto (-45), 3) := by decide +kernel
theorem dX7_number_52 : decode cX7_number 52 = .ok (.aload_n 0, 1) := by decide +kernel
theorem dX7_number_53 : decode cX7_number 53 = .ok (.iload_n 2, 1) := by decide +kernel
theorem dX7_number_54 : decode cX7_number 54 = .ok (.ifCond .ne 7, 3) := by decide +kernel
theorem dX7_number_57 : decode cX7_number 57 = .ok (.iconst 1, 1) := by decide +kernel
theorem dX7_number_58 : decode cX7_number 58 = .ok (.goto 4, 3) := by decide +kernel
theorem dX7_number_61 : decode cX7_number 61 = .ok (.iconst 0, 1) := by decide +kernel
theorem dX7_number_62 : decode cX7_number 62 = .ok (.putfield 154, 3) := by decide +kernel
theorem dX7_number_65 : decode cX7_number 65 = .ok (.aload_n 0, 1) := by decide +kernel
theorem dX7_number_66 : decode cX7_number 66 = .ok (.iconst 1, 1) := by decide +kernel
theorem dX7_number_67 : decode cX7_number 67 = .ok (.iload_n 1, 1) := by decide +kernel
theorem dX7_number_68 : decode cX7_number 68 = .ok (.invokevirtual 157, 3) := by decide +kernel
theorem dX7_number_71 : decode cX7_number 71 = .ok (.return_, 1) := by decide +kernel
theorem dX7_opensBy_0 : decode cX7_opensBy 0 = .ok (.aload_n 0, 1) := by decide +kernel
theorem dX7_opensBy_1 : decode cX7_opensBy 1 = .ok (.getfield 161, 3) := by decide +kernel
theorem dX7_opensBy_4 : decode cX7_opensBy 4 = .ok (.iconst 5, 1) := by decide +kernel
theorem dX7_opensBy_5 : decode cX7_opensBy 5 = .ok (.if_icmp .ne 9, 3) := by decide +kernel
theorem dX7_opensBy_8 : decode cX7_opensBy 8 = .ok (.aload_n 0, 1) := by decide +kernel
theorem dX7_opensBy_9 : decode cX7_opensBy 9 = .ok (.iconst 1, 1) := by decide +kernel
theorem dX7_opensBy_10 : decode cX7_opensBy 10 = .ok (.putfield 154, 3) := by decide +kernel
theorem dX7_opensBy_13 : decode cX7_opensBy 13 = .ok (.return_, 1) := by decide +kernel
theorem dX7_opensBy_14 : decode cX7_opensBy 14 = .ok (.aload_n 0, 1) := by decide +kernel
theorem dX7_opensBy_15 : decode cX7_opensBy 15 = .ok (.dup, 1) := by decide +kernel
theorem dX7_opensBy_16 : decode cX7_opensBy 16 = .ok (.getfield 161, 3) := by decide +kernel
theorem dX7_opensBy_19 : decode cX7_opensBy 19 = .ok (.iconst 1, 1) := by decide +kernel
theorem dX7_opensBy_20 : decode cX7_opensBy 20 = .ok (.iadd, 1) := by decide +kernel
theorem dX7_opensBy_21 : decode cX7_opensBy 21 = .ok (.putfield 161, 3) := by decide +kernel
theorem dX7_opensBy_24 : decode cX7_opensBy 24 = .ok (.aload_n 0, 1) := by decide +kernel
theorem dX7_opensBy_25 : decode cX7_opensBy 25 = .ok (.dup, 1) := by decide +kernel
theorem dX7_opensBy_26 : decode cX7_opensBy 26 = .ok (.getfield 140, 3) := by decide +kernel
theorem dX7_opensBy_29 : decode cX7_opensBy 29 = .ok (.iconst 1, 1) := by decide +kernel
theorem dX7_opensBy_30 : decode cX7_opensBy 30 = .ok (.iadd, 1) := by decide +kernel
theorem dX7_opensBy_31 : decode cX7_opensBy 31 = .ok (.putfield 140, 3) := by decide +kernel
theorem dX7_opensBy_34 : decode cX7_opensBy 34 = .ok (.iload_n 1, 1) := by decide +kernel
theorem dX7_opensBy_35 : decode cX7_opensBy 35 = .ok (.bipush 33, 2) := by decide +kernel
theorem dX7_opensBy_37 : decode cX7_opensBy 37 = .ok (.if_icmp .ne 16, 3) := by decide +kernel
theorem dX7_opensBy_40 : decode cX7_opensBy 40 = .ok (.aload_n 0, 1) := by decide +kernel
theorem dX7_opensBy_41 : decode cX7_opensBy 41 = .ok (.invokevirtual 164, 3) := by decide +kernel
theorem dX7_opensBy_44 : decode cX7_opensBy 44 = .ok (.aload_n 0, 1) := by decide +kernel
theorem dX7_opensBy_45 : decode cX7_opensBy 45 = .ok (.iconst 3, 1) := by decide +kernel
theorem dX7_opensBy_46 : decode cX7_opensBy 46 = .ok (.iconst 0, 1) := by decide +kernel
theorem dX7_opensBy_47 : decode cX7_opensBy 47 = .ok (.invokevirtual 157, 3) := by decide +kernel
theorem dX7_opensBy_50 : decode cX7_opensBy 50 = .ok (.goto 53, 3) := by decide +kernel
theorem dX7_opensBy_53 : decode cX7_opensBy 53 = .ok (.aload_n 0, 1) := by decide +kernel
theorem dX7_opensBy_54 : decode cX7_opensBy 54 = .ok (.invokevirtual 167, 3) := by decide +kernel
theorem dX7_opensBy_57 : decode cX7_opensBy 57 = .ok (.aload_n 0, 1) := by decide +kernel
theorem dX7_opensBy_58 : decode cX7_opensBy 58 = .ok (.aload_n 0, 1) := by decide +kernel
theorem dX7_opensBy_59 : decode cX7_opensBy 59 = .ok (.getfield 154, 3) := by decide +kernel
theorem dX7_opensBy_62 : decode cX7_opensBy 62 = .ok (.ifCond .ne 12, 3) := by decide +kernel
theorem dX7_opensBy_65 : decode cX7_opensBy 65 = .ok (.aload_n 0, 1) := by decide +kernel
theorem dX7_opensBy_66 : decode cX7_opensBy 66 = .ok (.invokevirtual 150, 3) := by decide +kernel
theorem dX7_opensBy_69 : decode cX7_opensBy 69 = .ok (.bipush 41, 2) := by decide +kernel
theorem dX7_opensBy_71 : decode cX7_opensBy 71 = .ok (.if_icmp .eq 7, 3) := by decide +kernel
theorem dX7_opensBy_74 : decode cX7_opensBy 74 = .ok (.iconst 1, 1) := by decide +kernel
theorem dX7_opensBy_75 : decode cX7_opensBy 75 = .ok (.goto 4, 3) := by decide +kernel
theorem dX7_opensBy_78 : decode cX7_opensBy 78 = .ok (.iconst 0, 1) := by decide +kernel
theorem dX7_opensBy_79 : decode cX7_opensBy 79 = .ok (.putfield 154, 3) := by decide +kernel
theorem dX7_opensBy_82 : decode cX7_opensBy 82 = .ok (.aload_n 0, 1) := by decide +kernel
theorem dX7_opensBy_83 : decode cX7_opensBy 83 = .ok (.dup, 1) := by decide +kernel
theorem dX7_opensBy_84 : decode cX7_opensBy 84 = .ok (.getfield 140, 3) := by decide +kernel
theorem dX7_opensBy_87 : decode cX7_opensBy 87 = .ok (.aload_n 0, 1) := by decide +kernel
theorem dX7_opensBy_88 : decode cX7_opensBy 88 = .ok (.getfield 154, 3) := by decide +kernel
theorem dX7_opensBy_91 : decode cX7_opensBy 91 = .ok (.ifCond .eq 7, 3) := by decide +kernel
theorem dX7_opensBy_94 : decode cX7_opensBy 94 = .ok (.iconst 0, 1) := by decide +kernel
theorem dX7_opensBy_95 : decode cX7_opensBy 95 = .ok (.goto 4, 3) := by decide +kernel
theorem dX7_opensBy_98 : decode cX7_opensBy 98 = .ok (.iconst 1, 1) := by decide +kernel
theorem dX7_opensBy_99 : decode cX7_opensBy 99 = .ok (.iadd, 1) := by decide +kernel
theorem dX7_opensBy_100 : decode cX7_opensBy 100 = .ok (.putfield 140, 3) := by decide +kernel
theorem dX7_opensBy_103 : decode cX7_opensBy 103 = .ok (.aload_n 0, 1) := by decide +kernel
theorem dX7_opensBy_104 : decode cX7_opensBy 104 = .ok (.dup, 1) := by decide +kernel
theorem dX7_opensBy_105 : decode cX7_opensBy 105 = .ok (.getfield 161, 3) := by decide +kernel
theorem dX7_opensBy_108 : decode cX7_opensBy 108 = .ok (.iconst 1, 1) := by decide +kernel
theorem dX7_opensBy_109 : decode cX7_opensBy 109 = .ok (.isub, 1) := by decide +kernel
theorem dX7_opensBy_110 : decode cX7_opensBy 110 = .ok (.putfield 161, 3) := by decide +kernel
theorem dX7_opensBy_113 : decode cX7_opensBy 113 = .ok (.return_, 1) := by decide +kernel
theorem dX7_one_0 : decode cX7_one 0 = .ok (.aload_n 0, 1) := by decide +kernel
theorem dX7_one_1 : decode cX7_one 1 = .ok (.invokevirtual 150, 3) := by decide +kernel
theorem dX7_one_4 : decode cX7_one 4 = .ok (.istore_n 1, 1) := by decide +kernel
theorem dX7_one_5 : decode cX7_one 5 = .ok (.aload_n 0, 1) := by decide +kernel
theorem dX7_one_6 : decode cX7_one 6 = .ok (.iload_n 1, 1) := by decide +kernel
theorem dX7_one_7 : decode cX7_one 7 = .ok (.invokevirtual 170, 3) := by decide +kernel
theorem dX7_one_10 : decode cX7_one 10 = .ok (.istore_n 2, 1) := by decide +kernel
theorem dX7_one_11 : decode cX7_one 11 = .ok (.iload_n 2, 1) := by decide +kernel
theorem dX7_one_12 : decode cX7_one 12 = .ok (.ifCond .lt 22, 3) := by decide +kernel
theorem dX7_one_15 : decode cX7_one 15 = .ok (.aload_n 0, 1) := by decide +kernel
theorem dX7_one_16 : decode cX7_one 16 = .ok (.dup, 1) := by decide +kernel
theorem dX7_one_17 : decode cX7_one 17 = .ok (.getfield 140, 3) := by decide +kernel
theorem dX7_one_20 : decode cX7_one 20 = .ok (.iconst 1, 1) := by decide +kernel
theorem dX7_one_21 : decode cX7_one 21 = .ok (.iadd, 1) := by decide +kernel
theorem dX7_one_22 : decode cX7_one 22 = .ok (.putfield 140, 3) := by decide +kernel
theorem dX7_one_25 : decode cX7_one 25 = .ok (.aload_n 0, 1) := by decide +kernel
theorem dX7_one_26 : decode cX7_one 26 = .ok (.iconst 2, 1) := by decide +kernel
theorem dX7_one_27 : decode cX7_one 27 = .ok (.iload_n 2, 1) := by decide +kernel
theorem dX7_one_28 : decode cX7_one 28 = .ok (.invokevirtual 157, 3) := by decide +kernel
theorem dX7_one_31 : decode cX7_one 31 = .ok (.goto 27, 3) := by decide +kernel
theorem dX7_one_34 : decode cX7_one 34 = .ok (.iload_n 1, 1) := by decide +kernel
theorem dX7_one_35 : decode cX7_one 35 = .ok (.bipush 33, 2) := by decide +kernel
theorem dX7_one_37 : decode cX7_one 37 = .ok (.if_icmp .eq 9, 3) := by decide +kernel
theorem dX7_one_40 : decode cX7_one 40 = .ok (.iload_n 1, 1) := by decide +kernel
theorem dX7_one_41 : decode cX7_one 41 = .ok (.bipush 40, 2) := by decide +kernel
theorem dX7_one_43 : decode cX7_one 43 = .ok (.if_icmp .ne 11, 3) := by decide +kernel
theorem dX7_one_46 : decode cX7_one 46 = .ok (.aload_n 0, 1) := by decide +kernel
theorem dX7_one_47 : decode cX7_one 47 = .ok (.iload_n 1, 1) := by decide +kernel
theorem dX7_one_48 : decode cX7_one 48 = .ok (.invokevirtual 173, 3) := by decide +kernel
theorem dX7_one_51 : decode cX7_one 51 = .ok (.goto 7, 3) := by decide +kernel
theorem dX7_one_54 : decode cX7_one 54 = .ok (.aload_n 0, 1) := by decide +kernel
theorem dX7_one_55 : decode cX7_one 55 = .ok (.invokevirtual 176, 3) := by decide +kernel
theorem dX7_one_58 : decode cX7_one 58 = .ok (.return_, 1) := by decide +kernel
theorem dX7_times_0 : decode cX7_times 0 = .ok (.aload_n 0, 1) := by decide +kernel
theorem dX7_times_1 : decode cX7_times 1 = .ok (.invokevirtual 164, 3) := by decide +kernel
theorem dX7_times_4 : decode cX7_times 4 = .ok (.aload_n 0, 1) := by decide +kernel
theorem dX7_times_5 : decode cX7_times 5 = .ok (.getfield 154, 3) := by decide +kernel
theorem dX7_times_8 : decode cX7_times 8 = .ok (.ifCond .ne 58, 3) := by decide +kernel
theorem dX7_times_11 : decode cX7_times 11 = .ok (.aload_n 0, 1) := by decide +kernel
theorem dX7_times_12 : decode cX7_times 12 = .ok (.invokevirtual 150, 3) := by decide +kernel
theorem dX7_times_15 : decode cX7_times 15 = .ok (.bipush 42, 2) := by decide +kernel
theorem dX7_times_17 : decode cX7_times 17 = .ok (.if_icmp .eq 21, 3) := by decide +kernel
theorem dX7_times_20 : decode cX7_times 20 = .ok (.aload_n 0, 1) := by decide +kernel
theorem dX7_times_21 : decode cX7_times 21 = .ok (.invokevirtual 150, 3) := by decide +kernel
theorem dX7_times_24 : decode cX7_times 24 = .ok (.bipush 47, 2) := by decide +kernel
theorem dX7_times_26 : decode cX7_times 26 = .ok (.if_icmp .eq 12, 3) := by decide +kernel
theorem dX7_times_29 : decode cX7_times 29 = .ok (.aload_n 0, 1) := by decide +kernel
theorem dX7_times_30 : decode cX7_times 30 = .ok (.invokevirtual 150, 3) := by decide +kernel
theorem dX7_times_33 : decode cX7_times 33 = .ok (.bipush 37, 2) := by decide +kernel
theorem dX7_times_35 : decode cX7_times 35 = .ok (.if_icmp .ne 31, 3) := by decide +kernel
theorem dX7_times_38 : decode cX7_times 38 = .ok (.aload_n 0, 1) := by decide +kernel
theorem dX7_times_39 : decode cX7_times 39 = .ok (.invokevirtual 150, 3) := by decide +kernel
theorem dX7_times_42 : decode cX7_times 42 = .ok (.istore_n 1, 1) := by decide +kernel
theorem dX7_times_43 : decode cX7_times 43 = .ok (.aload_n 0, 1) := by decide +kernel
theorem dX7_times_44 : decode cX7_times 44 = .ok (.dup, 1) := by decide +kernel
theorem dX7_times_45 : decode cX7_times 45 = .ok (.getfield 140, 3) := by decide +kernel
theorem dX7_times_48 : decode cX7_times 48 = .ok (.iconst 1, 1) := by decide +kernel
theorem dX7_times_49 : decode cX7_times 49 = .ok (.iadd, 1) := by decide +kernel
theorem dX7_times_50 : decode cX7_times 50 = .ok (.putfield 140, 3) := by decide +kernel
theorem dX7_times_53 : decode cX7_times 53 = .ok (.aload_n 0, 1) := by decide +kernel
theorem dX7_times_54 : decode cX7_times 54 = .ok (.invokevirtual 164, 3) := by decide +kernel
theorem dX7_times_57 : decode cX7_times 57 = .ok (.aload_n 0, 1) := by decide +kernel
theorem dX7_times_58 : decode cX7_times 58 = .ok (.iload_n 1, 1) := by decide +kernel
theorem dX7_times_59 : decode cX7_times 59 = .ok (.iconst 0, 1) := by decide +kernel
theorem dX7_times_60 : decode cX7_times 60 = .ok (.invokevirtual 157, 3) := by decide +kernel
theorem dX7_times_63 : decode cX7_times 63 = .ok (.goto (-59), 3) := by decide +kernel
theorem dX7_times_66 : decode cX7_times 66 = .ok (.return_, 1) := by decide +kernel
theorem dX7_sum_0 : decode cX7_sum 0 = .ok (.aload_n 0, 1) := by decide +kernel
theorem dX7_sum_1 : decode cX7_sum 1 = .ok (.invokevirtual 179, 3) := by decide +kernel
theorem dX7_sum_4 : decode cX7_sum 4 = .ok (.aload_n 0, 1) := by decide +kernel
theorem dX7_sum_5 : decode cX7_sum 5 = .ok (.getfield 154, 3) := by decide +kernel
theorem dX7_sum_8 : decode cX7_sum 8 = .ok (.ifCond .ne 49, 3) := by decide +kernel
theorem dX7_sum_11 : decode cX7_sum 11 = .ok (.aload_n 0, 1) := by decide +kernel
theorem dX7_sum_12 : decode cX7_sum 12 = .ok (.invokevirtual 150, 3) := by decide +kernel
theorem dX7_sum_15 : decode cX7_sum 15 = .ok (.bipush 43, 2) := by decide +kernel
theorem dX7_sum_17 : decode cX7_sum 17 = .ok (.if_icmp .eq 12, 3) := by decide +kernel
theorem dX7_sum_20 : decode cX7_sum 20 = .ok (.aload_n 0, 1) := by decide +kernel
theorem dX7_sum_21 : decode cX7_sum 21 = .ok (.invokevirtual 150, 3) := by decide +kernel
theorem dX7_sum_24 : decode cX7_sum 24 = .ok (.bipush 45, 2) := by decide +kernel
theorem dX7_sum_26 : decode cX7_sum 26 = .ok (.if_icmp .ne 31, 3) := by decide +kernel
theorem dX7_sum_29 : decode cX7_sum 29 = .ok (.aload_n 0, 1) := by decide +kernel
theorem dX7_sum_30 : decode cX7_sum 30 = .ok (.invokevirtual 150, 3) := by decide +kernel
theorem dX7_sum_33 : decode cX7_sum 33 = .ok (.istore_n 1, 1) := by decide +kernel
theorem dX7_sum_34 : decode cX7_sum 34 = .ok (.aload_n 0, 1) := by decide +kernel
theorem dX7_sum_35 : decode cX7_sum 35 = .ok (.dup, 1) := by decide +kernel
theorem dX7_sum_36 : decode cX7_sum 36 = .ok (.getfield 140, 3) := by decide +kernel
theorem dX7_sum_39 : decode cX7_sum 39 = .ok (.iconst 1, 1) := by decide +kernel
theorem dX7_sum_40 : decode cX7_sum 40 = .ok (.iadd, 1) := by decide +kernel
theorem dX7_sum_41 : decode cX7_sum 41 = .ok (.putfield 140, 3) := by decide +kernel
theorem dX7_sum_44 : decode cX7_sum 44 = .ok (.aload_n 0, 1) := by decide +kernel
theorem dX7_sum_45 : decode cX7_sum 45 = .ok (.invokevirtual 179, 3) := by decide +kernel
theorem dX7_sum_48 : decode cX7_sum 48 = .ok (.aload_n 0, 1) := by decide +kernel
theorem dX7_sum_49 : decode cX7_sum 49 = .ok (.iload_n 1, 1) := by decide +kernel
theorem dX7_sum_50 : decode cX7_sum 50 = .ok (.iconst 0, 1) := by decide +kernel
theorem dX7_sum_51 : decode cX7_sum 51 = .ok (.invokevirtual 157, 3) := by decide +kernel
theorem dX7_sum_54 : decode cX7_sum 54 = .ok (.goto (-50), 3) := by decide +kernel
theorem dX7_sum_57 : decode cX7_sum 57 = .ok (.return_, 1) := by decide +kernel
theorem dX7_compares_0 : decode cX7_compares 0 = .ok (.aload_n 0, 1) := by decide +kernel
theorem dX7_compares_1 : decode cX7_compares 1 = .ok (.invokevirtual 182, 3) := by decide +kernel
theorem dX7_compares_4 : decode cX7_compares 4 = .ok (.aload_n 0, 1) := by decide +kernel
theorem dX7_compares_5 : decode cX7_compares 5 = .ok (.invokevirtual 150, 3) := by decide +kernel
theorem dX7_compares_8 : decode cX7_compares 8 = .ok (.istore_n 1, 1) := by decide +kernel
theorem dX7_compares_9 : decode cX7_compares 9 = .ok (.aload_n 0, 1) := by decide +kernel
theorem dX7_compares_10 : decode cX7_compares 10 = .ok (.getfield 154, 3) := by decide +kernel
theorem dX7_compares_13 : decode cX7_compares 13 = .ok (.ifCond .ne 41, 3) := by decide +kernel
theorem dX7_compares_16 : decode cX7_compares 16 = .ok (.iload_n 1, 1) := by decide +kernel
theorem dX7_compares_17 : decode cX7_compares 17 = .ok (.bipush 60, 2) := by decide +kernel
theorem dX7_compares_19 : decode cX7_compares 19 = .ok (.if_icmp .eq 15, 3) := by decide +kernel
theorem dX7_compares_22 : decode cX7_compares 22 = .ok (.iload_n 1, 1) := by decide +kernel
theorem dX7_compares_23 : decode cX7_compares 23 = .ok (.bipush 61, 2) := by decide +kernel
theorem dX7_compares_25 : decode cX7_compares 25 = .ok (.if_icmp .eq 9, 3) := by decide +kernel
theorem dX7_compares_28 : decode cX7_compares 28 = .ok (.iload_n 1, 1) := by decide +kernel
theorem dX7_compares_29 : decode cX7_compares 29 = .ok (.bipush 62, 2) := by decide +kernel
theorem dX7_compares_31 : decode cX7_compares 31 = .ok (.if_icmp .ne 23, 3) := by decide +kernel
theorem dX7_compares_34 : decode cX7_compares 34 = .ok (.aload_n 0, 1) := by decide +kernel
theorem dX7_compares_35 : decode cX7_compares 35 = .ok (.dup, 1) := by decide +kernel
theorem dX7_compares_36 : decode cX7_compares 36 = .ok (.getfield 140, 3) := by decide +kernel
theorem dX7_compares_39 : decode cX7_compares 39 = .ok (.iconst 1, 1) := by decide +kernel
theorem dX7_compares_40 : decode cX7_compares 40 = .ok (.iadd, 1) := by decide +kernel
theorem dX7_compares_41 : decode cX7_compares 41 = .ok (.putfield 140, 3) := by decide +kernel
theorem dX7_compares_44 : decode cX7_compares 44 = .ok (.aload_n 0, 1) := by decide +kernel
theorem dX7_compares_45 : decode cX7_compares 45 = .ok (.invokevirtual 182, 3) := by decide +kernel
theorem dX7_compares_48 : decode cX7_compares 48 = .ok (.aload_n 0, 1) := by decide +kernel
theorem dX7_compares_49 : decode cX7_compares 49 = .ok (.iload_n 1, 1) := by decide +kernel
theorem dX7_compares_50 : decode cX7_compares 50 = .ok (.iconst 0, 1) := by decide +kernel
theorem dX7_compares_51 : decode cX7_compares 51 = .ok (.invokevirtual 157, 3) := by decide +kernel
theorem dX7_compares_54 : decode cX7_compares 54 = .ok (.return_, 1) := by decide +kernel
theorem dX7_all_0 : decode cX7_all 0 = .ok (.aload_n 0, 1) := by decide +kernel
theorem dX7_all_1 : decode cX7_all 1 = .ok (.invokevirtual 185, 3) := by decide +kernel
theorem dX7_all_4 : decode cX7_all 4 = .ok (.aload_n 0, 1) := by decide +kernel
theorem dX7_all_5 : decode cX7_all 5 = .ok (.getfield 154, 3) := by decide +kernel
theorem dX7_all_8 : decode cX7_all 8 = .ok (.ifCond .ne 36, 3) := by decide +kernel
theorem dX7_all_11 : decode cX7_all 11 = .ok (.aload_n 0, 1) := by decide +kernel
theorem dX7_all_12 : decode cX7_all 12 = .ok (.invokevirtual 150, 3) := by decide +kernel
theorem dX7_all_15 : decode cX7_all 15 = .ok (.bipush 38, 2) := by decide +kernel
theorem dX7_all_17 : decode cX7_all 17 = .ok (.if_icmp .ne 27, 3) := by decide +kernel
theorem dX7_all_20 : decode cX7_all 20 = .ok (.aload_n 0, 1) := by decide +kernel
theorem dX7_all_21 : decode cX7_all 21 = .ok (.dup, 1) := by decide +kernel
theorem dX7_all_22 : decode cX7_all 22 = .ok (.getfield 140, 3) := by decide +kernel
theorem dX7_all_25 : decode cX7_all 25 = .ok (.iconst 1, 1) := by decide +kernel
theorem dX7_all_26 : decode cX7_all 26 = .ok (.iadd, 1) := by decide +kernel
theorem dX7_all_27 : decode cX7_all 27 = .ok (.putfield 140, 3) := by decide +kernel
theorem dX7_all_30 : decode cX7_all 30 = .ok (.aload_n 0, 1) := by decide +kernel
theorem dX7_all_31 : decode cX7_all 31 = .ok (.invokevirtual 185, 3) := by decide +kernel
theorem dX7_all_34 : decode cX7_all 34 = .ok (.aload_n 0, 1) := by decide +kernel
theorem dX7_all_35 : decode cX7_all 35 = .ok (.bipush 38, 2) := by decide +kernel
theorem dX7_all_37 : decode cX7_all 37 = .ok (.iconst 0, 1) := by decide +kernel
theorem dX7_all_38 : decode cX7_all 38 = .ok (.invokevirtual 157, 3) := by decide +kernel
theorem dX7_all_41 : decode cX7_all 41 = .ok (.goto (-37), 3) := by decide +kernel
theorem dX7_all_44 : decode cX7_all 44 = .ok (.return_, 1) := by decide +kernel
theorem dX7_any_0 : decode cX7_any 0 = .ok (.aload_n 0, 1) := by decide +kernel
theorem dX7_any_1 : decode cX7_any 1 = .ok (.invokevirtual 188, 3) := by decide +kernel
theorem dX7_any_4 : decode cX7_any 4 = .ok (.aload_n 0, 1) := by decide +kernel
theorem dX7_any_5 : decode cX7_any 5 = .ok (.getfield 154, 3) := by decide +kernel
theorem dX7_any_8 : decode cX7_any 8 = .ok (.ifCond .ne 36, 3) := by decide +kernel
theorem dX7_any_11 : decode cX7_any 11 = .ok (.aload_n 0, 1) := by decide +kernel
theorem dX7_any_12 : decode cX7_any 12 = .ok (.invokevirtual 150, 3) := by decide +kernel
theorem dX7_any_15 : decode cX7_any 15 = .ok (.bipush 124, 2) := by decide +kernel
theorem dX7_any_17 : decode cX7_any 17 = .ok (.if_icmp .ne 27, 3) := by decide +kernel
theorem dX7_any_20 : decode cX7_any 20 = .ok (.aload_n 0, 1) := by decide +kernel
theorem dX7_any_21 : decode cX7_any 21 = .ok (.dup, 1) := by decide +kernel
theorem dX7_any_22 : decode cX7_any 22 = .ok (.getfield 140, 3) := by decide +kernel
theorem dX7_any_25 : decode cX7_any 25 = .ok (.iconst 1, 1) := by decide +kernel
theorem dX7_any_26 : decode cX7_any 26 = .ok (.iadd, 1) := by decide +kernel
theorem dX7_any_27 : decode cX7_any 27 = .ok (.putfield 140, 3) := by decide +kernel
theorem dX7_any_30 : decode cX7_any 30 = .ok (.aload_n 0, 1) := by decide +kernel
theorem dX7_any_31 : decode cX7_any 31 = .ok (.invokevirtual 188, 3) := by decide +kernel
theorem dX7_any_34 : decode cX7_any 34 = .ok (.aload_n 0, 1) := by decide +kernel
theorem dX7_any_35 : decode cX7_any 35 = .ok (.bipush 124, 2) := by decide +kernel
theorem dX7_any_37 : decode cX7_any 37 = .ok (.iconst 0, 1) := by decide +kernel
theorem dX7_any_38 : decode cX7_any 38 = .ok (.invokevirtual 157, 3) := by decide +kernel
theorem dX7_any_41 : decode cX7_any 41 = .ok (.goto (-37), 3) := by decide +kernel
theorem dX7_any_44 : decode cX7_any 44 = .ok (.return_, 1) := by decide +kernel
theorem dX7_text_0 : decode cX7_text 0 = .ok (.iload_n 1, 1) := by decide +kernel
theorem dX7_text_1 : decode cX7_text 1 = .ok (.iconst 0, 1) := by decide +kernel
theorem dX7_text_2 : decode cX7_text 2 = .ok (.iconst 1, 1) := by decide +kernel
theorem dX7_text_3 : decode cX7_text 3 = .ok (.invokestatic 57, 3) := by decide +kernel
theorem dX7_text_6 : decode cX7_text 6 = .ok (.ifCond .ne 10, 3) := by decide +kernel
theorem dX7_text_9 : decode cX7_text 9 = .ok (.aload_n 0, 1) := by decide +kernel
theorem dX7_text_10 : decode cX7_text 10 = .ok (.ldc 103, 2) := by decide +kernel
theorem dX7_text_12 : decode cX7_text 12 = .ok (.invokevirtual 104, 3) := by decide +kernel
theorem dX7_text_15 : decode cX7_text 15 = .ok (.ireturn, 1) := by decide +kernel
theorem dX7_text_16 : decode cX7_text 16 = .ok (.aload_n 0, 1) := by decide +kernel
theorem dX7_text_17 : decode cX7_text 17 = .ok (.iload_n 1, 1) := by decide +kernel
theorem dX7_text_18 : decode cX7_text 18 = .ok (.putfield 147, 3) := by decide +kernel
theorem dX7_text_21 : decode cX7_text 21 = .ok (.aload_n 0, 1) := by decide +kernel
theorem dX7_text_22 : decode cX7_text 22 = .ok (.iconst 0, 1) := by decide +kernel
theorem dX7_text_23 : decode cX7_text 23 = .ok (.putfield 144, 3) := by decide +kernel
theorem dX7_text_26 : decode cX7_text 26 = .ok (.aload_n 0, 1) := by decide +kernel
theorem dX7_text_27 : decode cX7_text 27 = .ok (.iconst 0, 1) := by decide +kernel
theorem dX7_text_28 : decode cX7_text 28 = .ok (.putfield 140, 3) := by decide +kernel
theorem dX7_text_31 : decode cX7_text 31 = .ok (.aload_n 0, 1) := by decide +kernel
theorem dX7_text_32 : decode cX7_text 32 = .ok (.iconst 0, 1) := by decide +kernel
theorem dX7_text_33 : decode cX7_text 33 = .ok (.putfield 161, 3) := by decide +kernel
theorem dX7_text_36 : decode cX7_text 36 = .ok (.aload_n 0, 1) := by decide +kernel
theorem dX7_text_37 : decode cX7_text 37 = .ok (.iconst 0, 1) := by decide +kernel
theorem dX7_text_38 : decode cX7_text 38 = .ok (.putfield 154, 3) := by decide +kernel
theorem dX7_text_41 : decode cX7_text 41 = .ok (.aload_n 0, 1) := by decide +kernel
theorem dX7_text_42 : decode cX7_text 42 = .ok (.invokevirtual 167, 3) := by decide +kernel
theorem dX7_text_45 : decode cX7_text 45 = .ok (.aload_n 0, 1) := by decide +kernel
theorem dX7_text_46 : decode cX7_text 46 = .ok (.aload_n 0, 1) := by decide +kernel
theorem dX7_text_47 : decode cX7_text 47 = .ok (.getfield 154, 3) := by decide +kernel
theorem dX7_text_50 : decode cX7_text 50 = .ok (.ifCond .ne 16, 3) := by decide +kernel
theorem dX7_text_53 : decode cX7_text 53 = .ok (.aload_n 0, 1) := by decide +kernel
theorem dX7_text_54 : decode cX7_text 54 = .ok (.getfield 140, 3) := by decide +kernel
theorem dX7_text_57 : decode cX7_text 57 = .ok (.aload_n 0, 1) := by decide +kernel
theorem dX7_text_58 : decode cX7_text 58 = .ok (.getfield 9, 3) := by decide +kernel
theorem dX7_text_61 : decode cX7_text 61 = .ok (.iconst 3, 1) := by decide +kernel
theorem dX7_text_62 : decode cX7_text 62 = .ok (.iaload, 1) := by decide +kernel
theorem dX7_text_63 : decode cX7_text 63 = .ok (.if_icmp .ge 7, 3) := by decide +kernel
theorem dX7_text_66 : decode cX7_text 66 = .ok (.iconst 1, 1) := by decide +kernel
theorem dX7_text_67 : decode cX7_text 67 = .ok (.goto 4, 3) := by decide +kernel
theorem dX7_text_70 : decode cX7_text 70 = .ok (.iconst 0, 1) := by decide +kernel
theorem dX7_text_71 : decode cX7_text 71 = .ok (.putfield 154, 3) := by decide +kernel
theorem dX7_text_74 : decode cX7_text 74 = .ok (.aload_n 0, 1) := by decide +kernel
theorem dX7_text_75 : decode cX7_text 75 = .ok (.getfield 9, 3) := by decide +kernel
theorem dX7_text_78 : decode cX7_text 78 = .ok (.iconst 3, 1) := by decide +kernel
theorem dX7_text_79 : decode cX7_text 79 = .ok (.iconst 0, 1) := by decide +kernel
theorem dX7_text_80 : decode cX7_text 80 = .ok (.iastore, 1) := by decide +kernel
theorem dX7_text_81 : decode cX7_text 81 = .ok (.aload_n 0, 1) := by decide +kernel
theorem dX7_text_82 : decode cX7_text 82 = .ok (.getfield 154, 3) := by decide +kernel
theorem dX7_text_85 : decode cX7_text 85 = .ok (.ifCond .eq 11, 3) := by decide +kernel
theorem dX7_text_88 : decode cX7_text 88 = .ok (.bipush (-10), 2) := by decide +kernel
theorem dX7_text_90 : decode cX7_text 90 = .ok (.aload_n 0, 1) := by decide +kernel
theorem dX7_text_91 : decode cX7_text 91 = .ok (.getfield 140, 3) := by decide +kernel
theorem dX7_text_94 : decode cX7_text 94 = .ok (.isub, 1) := by decide +kernel
theorem dX7_text_95 : decode cX7_text 95 = .ok (.ireturn, 1) := by decide +kernel
theorem dX7_text_96 : decode cX7_text 96 = .ok (.sipush 143, 3) := by decide +kernel
theorem dX7_text_99 : decode cX7_text 99 = .ok (.bipush 121, 2) := by decide +kernel
theorem dX7_text_101 : decode cX7_text 101 = .ok (.iload_n 1, 1) := by decide +kernel
theorem dX7_text_102 : decode cX7_text 102 = .ok (.imul, 1) := by decide +kernel
theorem dX7_text_103 : decode cX7_text 103 = .ok (.iadd, 1) := by decide +kernel
theorem dX7_text_104 : decode cX7_text 104 = .ok (.istore_n 2, 1) := by decide +kernel
theorem dX7_text_105 : decode cX7_text 105 = .ok (.aload_n 0, 1) := by decide +kernel
theorem dX7_text_106 : decode cX7_text 106 = .ok (.getfield 9, 3) := by decide +kernel
theorem dX7_text_109 : decode cX7_text 109 = .ok (.iload_n 2, 1) := by decide +kernel
theorem dX7_text_110 : decode cX7_text 110 = .ok (.aload_n 0, 1) := by decide +kernel
theorem dX7_text_111 : decode cX7_text 111 = .ok (.getfield 144, 3) := by decide +kernel
theorem dX7_text_114 : decode cX7_text 114 = .ok (.iastore, 1) := by decide +kernel
theorem dX7_text_115 : decode cX7_text 115 = .ok (.iconst 0, 1) := by decide +kernel
theorem dX7_text_116 : decode cX7_text 116 = .ok (.istore_n 3, 1) := by decide +kernel
theorem dX7_text_117 : decode cX7_text 117 = .ok (.iload_n 3, 1) := by decide +kernel
theorem dX7_text_118 : decode cX7_text 118 = .ok (.aload_n 0, 1) := by decide +kernel
theorem dX7_text_119 : decode cX7_text 119 = .ok (.getfield 144, 3) := by decide +kernel
theorem dX7_text_122 : decode cX7_text 122 = .ok (.if_icmp .ge 42, 3) := by decide +kernel
theorem dX7_text_125 : decode cX7_text 125 = .ok (.aload_n 0, 1) := by decide +kernel
theorem dX7_text_126 : decode cX7_text 126 = .ok (.getfield 9, 3) := by decide +kernel
theorem dX7_text_129 : decode cX7_text 129 = .ok (.iload_n 2, 1) := by decide +kernel
theorem dX7_text_130 : decode cX7_text 130 = .ok (.iconst 1, 1) := by decide +kernel
theorem dX7_text_131 : decode cX7_text 131 = .ok (.iadd, 1) := by decide +kernel
theorem dX7_text_132 : decode cX7_text 132 = .ok (.iload_n 3, 1) := by decide +kernel
theorem dX7_text_133 : decode cX7_text 133 = .ok (.iadd, 1) := by decide +kernel
theorem dX7_text_134 : decode cX7_text 134 = .ok (.aload_n 0, 1) := by decide +kernel
theorem dX7_text_135 : decode cX7_text 135 = .ok (.getfield 34, 3) := by decide +kernel
theorem dX7_text_138 : decode cX7_text 138 = .ok (.iload_n 3, 1) := by decide +kernel
theorem dX7_text_139 : decode cX7_text 139 = .ok (.iaload, 1) := by decide +kernel
theorem dX7_text_140 : decode cX7_text 140 = .ok (.iastore, 1) := by decide +kernel
theorem dX7_text_141 : decode cX7_text 141 = .ok (.aload_n 0, 1) := by decide +kernel
theorem dX7_text_142 : decode cX7_text 142 = .ok (.getfield 9, 3) := by decide +kernel
theorem dX7_text_145 : decode cX7_text 145 = .ok (.iload_n 2, 1) := by decide +kernel
theorem dX7_text_146 : decode cX7_text 146 = .ok (.bipush 61, 2) := by decide +kernel
theorem dX7_text_148 : decode cX7_text 148 = .ok (.iadd, 1) := by decide +kernel
theorem dX7_text_149 : decode cX7_text 149 = .ok (.iload_n 3, 1) := by decide +kernel
theorem dX7_text_150 : decode cX7_text 150 = .ok (.iadd, 1) := by decide +kernel
theorem dX7_text_151 : decode cX7_text 151 = .ok (.aload_n 0, 1) := by decide +kernel
theorem dX7_text_152 : decode cX7_text 152 = .ok (.getfield 37, 3) := by decide +kernel
theorem dX7_text_155 : decode cX7_text 155 = .ok (.iload_n 3, 1) := by decide +kernel
theorem dX7_text_156 : decode cX7_text 156 = .ok (.iaload, 1) := by decide +kernel
theorem dX7_text_157 : decode cX7_text 157 = .ok (.iastore, 1) := by decide +kernel
theorem dX7_text_158 : decode cX7_text 158 = .ok (.iinc 3 1, 3) := by decide +kernel
theorem dX7_text_161 : decode cX7_text 161 = .ok (.goto (-44), 3) := by decide +kernel
theorem dX7_text_164 : decode cX7_text 164 = .ok (.iconst 1, 1) := by decide +kernel
theorem dX7_text_165 : decode cX7_text 165 = .ok (.ireturn, 1) := by decide +kernel
theorem dX7_untell_0 : decode cX7_untell 0 = .ok (.iload_n 1, 1) := by decide +kernel
theorem dX7_untell_1 : decode cX7_untell 1 = .ok (.iconst 0, 1) := by decide +kernel
theorem dX7_untell_2 : decode cX7_untell 2 = .ok (.iconst 1, 1) := by decide +kernel
theorem dX7_untell_3 : decode cX7_untell 3 = .ok (.invokestatic 57, 3) := by decide +kernel
theorem dX7_untell_6 : decode cX7_untell 6 = .ok (.ifCond .ne 10, 3) := by decide +kernel
theorem dX7_untell_9 : decode cX7_untell 9 = .ok (.aload_n 0, 1) := by decide +kernel
theorem dX7_untell_10 : decode cX7_untell 10 = .ok (.ldc 103, 2) := by decide +kernel
theorem dX7_untell_12 : decode cX7_untell 12 = .ok (.invokevirtual 104, 3) := by decide +kernel
theorem dX7_untell_15 : decode cX7_untell 15 = .ok (.ireturn, 1) := by decide +kernel
theorem dX7_untell_16 : decode cX7_untell 16 = .ok (.aload_n 0, 1) := by decide +kernel
theorem dX7_untell_17 : decode cX7_untell 17 = .ok (.sipush 143, 3) := by decide +kernel
theorem dX7_untell_20 : decode cX7_untell 20 = .ok (.bipush 121, 2) := by decide +kernel
theorem dX7_untell_22 : decode cX7_untell 22 = .ok (.iload_n 1, 1) := by decide +kernel
theorem dX7_untell_23 : decode cX7_untell 23 = .ok (.imul, 1) := by decide +kernel
theorem dX7_untell_24 : decode cX7_untell 24 = .ok (.iadd, 1) := by decide +kernel
theorem dX7_untell_25 : decode cX7_untell 25 = .ok (.iconst 0, 1) := by decide +kernel
theorem dX7_untell_26 : decode cX7_untell 26 = .ok (.invokevirtual 114, 3) := by decide +kernel
theorem dX7_untell_29 : decode cX7_untell 29 = .ok (.ifCond .le 7, 3) := by decide +kernel
theorem dX7_untell_32 : decode cX7_untell 32 = .ok (.iconst 1, 1) := by decide +kernel
theorem dX7_untell_33 : decode cX7_untell 33 = .ok (.goto 4, 3) := by decide +kernel
theorem dX7_untell_36 : decode cX7_untell 36 = .ok (.iconst 0, 1) := by decide +kernel
theorem dX7_untell_37 : decode cX7_untell 37 = .ok (.ireturn, 1) := by decide +kernel
theorem dX7_twoOf_0 : decode cX7_twoOf 0 = .ok (.iload_n 0, 1) := by decide +kernel
theorem dX7_twoOf_1 : decode cX7_twoOf 1 = .ok (.tableswitch 202 37 62 #[143, 188, 202, 202, 202, 127, 119, 202, 123, 202, 131, 202, 202, 202, 202, 202, 202, 202, 202, 202, 202, 202, 202, 155, 166, 177], 119) := by decide +kernel
theorem dX7_twoOf_120 : decode cX7_twoOf 120 = .ok (.iload_n 1, 1) := by decide +kernel
theorem dX7_twoOf_121 : decode cX7_twoOf 121 = .ok (.iload_n 2, 1) := by decide +kernel
theorem dX7_twoOf_122 : decode cX7_twoOf 122 = .ok (.iadd, 1) := by decide +kernel
theorem dX7_twoOf_123 : decode cX7_twoOf 123 = .ok (.ireturn, 1) := by decide +kernel
theorem dX7_twoOf_124 : decode cX7_twoOf 124 = .ok (.iload_n 1, 1) := by decide +kernel
theorem dX7_twoOf_125 : decode cX7_twoOf 125 = .ok (.iload_n 2, 1) := by decide +kernel
theorem dX7_twoOf_126 : decode cX7_twoOf 126 = .ok (.isub, 1) := by decide +kernel
theorem dX7_twoOf_127 : decode cX7_twoOf 127 = .ok (.ireturn, 1) := by decide +kernel
theorem dX7_twoOf_128 : decode cX7_twoOf 128 = .ok (.iload_n 1, 1) := by decide +kernel
theorem dX7_twoOf_129 : decode cX7_twoOf 129 = .ok (.iload_n 2, 1) := by decide +kernel
theorem dX7_twoOf_130 : decode cX7_twoOf 130 = .ok (.imul, 1) := by decide +kernel
theorem dX7_twoOf_131 : decode cX7_twoOf 131 = .ok (.ireturn, 1) := by decide +kernel
theorem dX7_twoOf_132 : decode cX7_twoOf 132 = .ok (.iload_n 2, 1) := by decide +kernel
theorem dX7_twoOf_133 : decode cX7_twoOf 133 = .ok (.ifCond .ne 7, 3) := by decide +kernel
theorem dX7_twoOf_136 : decode cX7_twoOf 136 = .ok (.iconst 0, 1) := by decide +kernel
theorem dX7_twoOf_137 : decode cX7_twoOf 137 = .ok (.goto 6, 3) := by decide +kernel
theorem dX7_twoOf_140 : decode cX7_twoOf 140 = .ok (.iload_n 1, 1) := by decide +kernel
theorem dX7_twoOf_141 : decode cX7_twoOf 141 = .ok (.iload_n 2, 1) := by decide +kernel
theorem dX7_twoOf_142 : decode cX7_twoOf 142 = .ok (.idiv, 1) := by decide +kernel
theorem dX7_twoOf_143 : decode cX7_twoOf 143 = .ok (.ireturn, 1) := by decide +kernel
theorem dX7_twoOf_144 : decode cX7_twoOf 144 = .ok (.iload_n 2, 1) := by decide +kernel
theorem dX7_twoOf_145 : decode cX7_twoOf 145 = .ok (.ifCond .ne 7, 3) := by decide +kernel
theorem dX7_twoOf_148 : decode cX7_twoOf 148 = .ok (.iconst 0, 1) := by decide +kernel
theorem dX7_twoOf_149 : decode cX7_twoOf 149 = .ok (.goto 6, 3) := by decide +kernel
theorem dX7_twoOf_152 : decode cX7_twoOf 152 = .ok (.iload_n 1, 1) := by decide +kernel
theorem dX7_twoOf_153 : decode cX7_twoOf 153 = .ok (.iload_n 2, 1) := by decide +kernel
theorem dX7_twoOf_154 : decode cX7_twoOf 154 = .ok (.irem, 1) := by decide +kernel
theorem dX7_twoOf_155 : decode cX7_twoOf 155 = .ok (.ireturn, 1) := by decide +kernel
theorem dX7_twoOf_156 : decode cX7_twoOf 156 = .ok (.iload_n 1, 1) := by decide +kernel
theorem dX7_twoOf_157 : decode cX7_twoOf 157 = .ok (.iload_n 2, 1) := by decide +kernel
theorem dX7_twoOf_158 : decode cX7_twoOf 158 = .ok (.if_icmp .ge 7, 3) := by decide +kernel
theorem dX7_twoOf_161 : decode cX7_twoOf 161 = .ok (.iconst 1, 1) := by decide +kernel
theorem dX7_twoOf_162 : decode cX7_twoOf 162 = .ok (.goto 4, 3) := by decide +kernel
theorem dX7_twoOf_165 : decode cX7_twoOf 165 = .ok (.iconst 0, 1) := by decide +kernel
theorem dX7_twoOf_166 : decode cX7_twoOf 166 = .ok (.ireturn, 1) := by decide +kernel
theorem dX7_twoOf_167 : decode cX7_twoOf 167 = .ok (.iload_n 1, 1) := by decide +kernel
theorem dX7_twoOf_168 : decode cX7_twoOf 168 = .ok (.iload_n 2, 1) := by decide +kernel
theorem dX7_twoOf_169 : decode cX7_twoOf 169 = .ok (.if_icmp .ne 7, 3) := by decide +kernel
theorem dX7_twoOf_172 : decode cX7_twoOf 172 = .ok (.iconst 1, 1) := by decide +kernel
theorem dX7_twoOf_173 : decode cX7_twoOf 173 = .ok (.goto 4, 3) := by decide +kernel
theorem dX7_twoOf_176 : decode cX7_twoOf 176 = .ok (.iconst 0, 1) := by decide +kernel
theorem dX7_twoOf_177 : decode cX7_twoOf 177 = .ok (.ireturn, 1) := by decide +kernel
theorem dX7_twoOf_178 : decode cX7_twoOf 178 = .ok (.iload_n 1, 1) := by decide +kernel
theorem dX7_twoOf_179 : decode cX7_twoOf 179 = .ok (.iload_n 2, 1) := by decide +kernel
theorem dX7_twoOf_180 : decode cX7_twoOf 180 = .ok (.if_icmp .le 7, 3) := by decide +kernel
theorem dX7_twoOf_183 : decode cX7_twoOf 183 = .ok (.iconst 1, 1) := by decide +kernel
theorem dX7_twoOf_184 : decode cX7_twoOf 184 = .ok (.goto 4, 3) := by decide +kernel
theorem dX7_twoOf_187 : decode cX7_twoOf 187 = .ok (.iconst 0, 1) := by decide +kernel
theorem dX7_twoOf_188 : decode cX7_twoOf 188 = .ok (.ireturn, 1) := by decide +kernel
theorem dX7_twoOf_189 : decode cX7_twoOf 189 = .ok (.iload_n 1, 1) := by decide +kernel
theorem dX7_twoOf_190 : decode cX7_twoOf 190 = .ok (.ifCond .eq 11, 3) := by decide +kernel
theorem dX7_twoOf_193 : decode cX7_twoOf 193 = .ok (.iload_n 2, 1) := by decide +kernel
theorem dX7_twoOf_194 : decode cX7_twoOf 194 = .ok (.ifCond .eq 7, 3) := by decide +kernel
theorem dX7_twoOf_197 : decode cX7_twoOf 197 = .ok (.iconst 1, 1) := by decide +kernel
theorem dX7_twoOf_198 : decode cX7_twoOf 198 = .ok (.goto 4, 3) := by decide +kernel
theorem dX7_twoOf_201 : decode cX7_twoOf 201 = .ok (.iconst 0, 1) := by decide +kernel
theorem dX7_twoOf_202 : decode cX7_twoOf 202 = .ok (.ireturn, 1) := by decide +kernel
theorem dX7_twoOf_203 : decode cX7_twoOf 203 = .ok (.iload_n 1, 1) := by decide +kernel
theorem dX7_twoOf_204 : decode cX7_twoOf 204 = .ok (.ifCond .ne 7, 3) := by decide +kernel
theorem dX7_twoOf_207 : decode cX7_twoOf 207 = .ok (.iload_n 2, 1) := by decide +kernel
theorem dX7_twoOf_208 : decode cX7_twoOf 208 = .ok (.ifCond .eq 7, 3) := by decide +kernel
theorem dX7_twoOf_211 : decode cX7_twoOf 211 = .ok (.iconst 1, 1) := by decide +kernel
theorem dX7_twoOf_212 : decode cX7_twoOf 212 = .ok (.goto 4, 3) := by decide +kernel
theorem dX7_twoOf_215 : decode cX7_twoOf 215 = .ok (.iconst 0, 1) := by decide +kernel
theorem dX7_twoOf_216 : decode cX7_twoOf 216 = .ok (.ireturn, 1) := by decide +kernel
theorem dX7_works_0 : decode cX7_works 0 = .ok (.iconst 0, 1) := by decide +kernel
theorem dX7_works_1 : decode cX7_works 1 = .ok (.istore_n 2, 1) := by decide +kernel
theorem dX7_works_2 : decode cX7_works 2 = .ok (.iconst 0, 1) := by decide +kernel
theorem dX7_works_3 : decode cX7_works 3 = .ok (.istore_n 3, 1) := by decide +kernel
theorem dX7_works_4 : decode cX7_works 4 = .ok (.iload_n 3, 1) := by decide +kernel
theorem dX7_works_5 : decode cX7_works 5 = .ok (.aload_n 0, 1) := by decide +kernel
theorem dX7_works_6 : decode cX7_works 6 = .ok (.getfield 9, 3) := by decide +kernel
theorem dX7_works_9 : decode cX7_works 9 = .ok (.iload_n 1, 1) := by decide +kernel
theorem dX7_works_10 : decode cX7_works 10 = .ok (.iaload, 1) := by decide +kernel
theorem dX7_works_11 : decode cX7_works 11 = .ok (.if_icmp .ge 144, 3) := by decide +kernel
theorem dX7_works_14 : decode cX7_works 14 = .ok (.aload_n 0, 1) := by decide +kernel
theorem dX7_works_15 : decode cX7_works 15 = .ok (.getfield 9, 3) := by decide +kernel
theorem dX7_works_18 : decode cX7_works 18 = .ok (.iload_n 1, 1) := by decide +kernel
theorem dX7_works_19 : decode cX7_works 19 = .ok (.iconst 1, 1) := by decide +kernel
theorem dX7_works_20 : decode cX7_works 20 = .ok (.iadd, 1) := by decide +kernel
theorem dX7_works_21 : decode cX7_works 21 = .ok (.iload_n 3, 1) := by decide +kernel
theorem dX7_works_22 : decode cX7_works 22 = .ok (.iadd, 1) := by decide +kernel
theorem dX7_works_23 : decode cX7_works 23 = .ok (.iaload, 1) := by decide +kernel
theorem dX7_works_24 : decode cX7_works 24 = .ok (.istore 4, 2) := by decide +kernel
theorem dX7_works_26 : decode cX7_works 26 = .ok (.iload 4, 2) := by decide +kernel
theorem dX7_works_28 : decode cX7_works 28 = .ok (.iconst 1, 1) := by decide +kernel
theorem dX7_works_29 : decode cX7_works 29 = .ok (.if_icmp .eq 9, 3) := by decide +kernel
theorem dX7_works_32 : decode cX7_works 32 = .ok (.iload 4, 2) := by decide +kernel
theorem dX7_works_34 : decode cX7_works 34 = .ok (.iconst 2, 1) := by decide +kernel
theorem dX7_works_35 : decode cX7_works 35 = .ok (.if_icmp .ne 51, 3) := by decide +kernel
theorem dX7_works_38 : decode cX7_works 38 = .ok (.aload_n 0, 1) := by decide +kernel
theorem dX7_works_39 : decode cX7_works 39 = .ok (.getfield 43, 3) := by decide +kernel
theorem dX7_works_42 : decode cX7_works 42 = .ok (.iload_n 2, 1) := by decide +kernel
theorem dX7_works_43 : decode cX7_works 43 = .ok (.iload 4, 2) := by decide +kernel
theorem dX7_works_45 : decode cX7_works 45 = .ok (.iconst 1, 1) := by decide +kernel
theorem dX7_works_46 : decode cX7_works 46 = .ok (.if_icmp .ne 17, 3) := by decide +kernel
theorem dX7_works_49 : decode cX7_works 49 = .ok (.aload_n 0, 1) := by decide +kernel
theorem dX7_works_50 : decode cX7_works 50 = .ok (.getfield 9, 3) := by decide +kernel
theorem dX7_works_53 : decode cX7_works 53 = .ok (.iload_n 1, 1) := by decide +kernel
theorem dX7_works_54 : decode cX7_works 54 = .ok (.bipush 61, 2) := by decide +kernel
theorem dX7_works_56 : decode cX7_works 56 = .ok (.iadd, 1) := by decide +kernel
theorem dX7_works_57 : decode cX7_works 57 = .ok (.iload_n 3, 1) := by decide +kernel
theorem dX7_works_58 : decode cX7_works 58 = .ok (.iadd, 1) := by decide +kernel
theorem dX7_works_59 : decode cX7_works 59 = .ok (.iaload, 1) := by decide +kernel
theorem dX7_works_60 : decode cX7_works 60 = .ok (.goto 19, 3) := by decide +kernel
theorem dX7_works_63 : decode cX7_works 63 = .ok (.aload_n 0, 1) := by decide +kernel
theorem dX7_works_64 : decode cX7_works 64 = .ok (.getfield 40, 3) := by decide +kernel
theorem dX7_works_67 : decode cX7_works 67 = .ok (.aload_n 0, 1) := by decide +kernel
theorem dX7_works_68 : decode cX7_works 68 = .ok (.getfield 9, 3) := by decide +kernel
theorem dX7_works_71 : decode cX7_works 71 = .ok (.iload_n 1, 1) := by decide +kernel
theorem dX7_works_72 : decode cX7_works 72 = .ok (.bipush 61, 2) := by decide +kernel
theorem dX7_works_74 : decode cX7_works 74 = .ok (.iadd, 1) := by decide +kernel
theorem dX7_works_75 : decode cX7_works 75 = .ok (.iload_n 3, 1) := by decide +kernel
theorem dX7_works_76 : decode cX7_works 76 = .ok (.iadd, 1) := by decide +kernel
theorem dX7_works_77 : decode cX7_works 77 = .ok (.iaload, 1) := by decide +kernel
theorem dX7_works_78 : decode cX7_works 78 = .ok (.iaload, 1) := by decide +kernel
theorem dX7_works_79 : decode cX7_works 79 = .ok (.iastore, 1) := by decide +kernel
theorem dX7_works_80 : decode cX7_works 80 = .ok (.iinc 2 1, 3) := by decide +kernel
theorem dX7_works_83 : decode cX7_works 83 = .ok (.goto 66, 3) := by decide +kernel
theorem dX7_works_86 : decode cX7_works 86 = .ok (.iload 4, 2) := by decide +kernel
theorem dX7_works_88 : decode cX7_works 88 = .ok (.iconst 3, 1) := by decide +kernel
theorem dX7_works_89 : decode cX7_works 89 = .ok (.if_icmp .ne 30, 3) := by decide +kernel
theorem dX7_works_92 : decode cX7_works 92 = .ok (.aload_n 0, 1) := by decide +kernel
theorem dX7_works_93 : decode cX7_works 93 = .ok (.getfield 43, 3) := by decide +kernel
theorem dX7_works_96 : decode cX7_works 96 = .ok (.iload_n 2, 1) := by decide +kernel
theorem dX7_works_97 : decode cX7_works 97 = .ok (.iconst 1, 1) := by decide +kernel
theorem dX7_works_98 : decode cX7_works 98 = .ok (.isub, 1) := by decide +kernel
theorem dX7_works_99 : decode cX7_works 99 = .ok (.aload_n 0, 1) := by decide +kernel
theorem dX7_works_100 : decode cX7_works 100 = .ok (.getfield 43, 3) := by decide +kernel
theorem dX7_works_103 : decode cX7_works 103 = .ok (.iload_n 2, 1) := by decide +kernel
theorem dX7_works_104 : decode cX7_works 104 = .ok (.iconst 1, 1) := by decide +kernel
theorem dX7_works_105 : decode cX7_works 105 = .ok (.isub, 1) := by decide +kernel
theorem dX7_works_106 : decode cX7_works 106 = .ok (.iaload, 1) := by decide +kernel
theorem dX7_works_107 : decode cX7_works 107 = .ok (.ifCond .ne 7, 3) := by decide +kernel
theorem dX7_works_110 : decode cX7_works 110 = .ok (.iconst 1, 1) := by decide +kernel
theorem dX7_works_111 : decode cX7_works 111 = .ok (.goto 4, 3) := by decide +kernel
theorem dX7_works_114 : decode cX7_works 114 = .ok (.iconst 0, 1) := by decide +kernel
theorem dX7_works_115 : decode cX7_works 115 = .ok (.iastore, 1) := by decide +kernel
theorem dX7_works_116 : decode cX7_works 116 = .ok (.goto 33, 3) := by decide +kernel
theorem dX7_works_119 : decode cX7_works 119 = .ok (.iinc 2 (-1), 3) := by decide +kernel
theorem dX7_works_122 : decode cX7_works 122 = .ok (.aload_n 0, 1) := by decide +kernel
theorem dX7_works_123 : decode cX7_works 123 = .ok (.getfield 43, 3) := by decide +kernel
theorem dX7_works_126 : decode cX7_works 126 = .ok (.iload_n 2, 1) := by decide +kernel
theorem dX7_works_127 : decode cX7_works 127 = .ok (.iconst 1, 1) := by decide +kernel
theorem dX7_works_128 : decode cX7_works 128 = .ok (.isub, 1) := by decide +kernel
theorem dX7_works_129 : decode cX7_works 129 = .ok (.iload 4, 2) := by decide +kernel
theorem dX7_works_131 : decode cX7_works 131 = .ok (.aload_n 0, 1) := by decide +kernel
theorem dX7_works_132 : decode cX7_works 132 = .ok (.getfield 43, 3) := by decide +kernel
theorem dX7_works_135 : decode cX7_works 135 = .ok (.iload_n 2, 1) := by decide +kernel
theorem dX7_works_136 : decode cX7_works 136 = .ok (.iconst 1, 1) := by decide +kernel
theorem dX7_works_137 : decode cX7_works 137 = .ok (.isub, 1) := by decide +kernel
theorem dX7_works_138 : decode cX7_works 138 = .ok (.iaload, 1) := by decide +kernel
theorem dX7_works_139 : decode cX7_works 139 = .ok (.aload_n 0, 1) := by decide +kernel
theorem dX7_works_140 : decode cX7_works 140 = .ok (.getfield 43, 3) := by decide +kernel
theorem dX7_works_143 : decode cX7_works 143 = .ok (.iload_n 2, 1) := by decide +kernel
theorem dX7_works_144 : decode cX7_works 144 = .ok (.iaload, 1) := by decide +kernel
theorem dX7_works_145 : decode cX7_works 145 = .ok (.invokestatic 191, 3) := by decide +kernel
theorem dX7_works_148 : decode cX7_works 148 = .ok (.iastore, 1) := by decide +kernel
theorem dX7_works_149 : decode cX7_works 149 = .ok (.iinc 3 1, 3) := by decide +kernel
theorem dX7_works_152 : decode cX7_works 152 = .ok (.goto (-148), 3) := by decide +kernel
theorem dX7_works_155 : decode cX7_works 155 = .ok (.aload_n 0, 1) := by decide +kernel
theorem dX7_works_156 : decode cX7_works 156 = .ok (.getfield 43, 3) := by decide +kernel
theorem dX7_works_159 : decode cX7_works 159 = .ok (.iconst 0, 1) := by decide +kernel
theorem dX7_works_160 : decode cX7_works 160 = .ok (.iaload, 1) := by decide +kernel
theorem dX7_works_161 : decode cX7_works 161 = .ok (.ireturn, 1) := by decide +kernel
