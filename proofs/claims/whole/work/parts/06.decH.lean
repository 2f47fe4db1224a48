theorem dX6_init_0 : decode cX6_init 0 = .ok (.aload_n 0, 1) := by decide +kernel
theorem dX6_init_1 : decode cX6_init 1 = .ok (.invokespecial 1, 3) := by decide +kernel
theorem dX6_init_4 : decode cX6_init 4 = .ok (.aload_n 0, 1) := by decide +kernel
theorem dX6_init_5 : decode cX6_init 5 = .ok (.new 7, 3) := by decide +kernel
theorem dX6_init_8 : decode cX6_init 8 = .ok (.dup, 1) := by decide +kernel
theorem dX6_init_9 : decode cX6_init 9 = .ok (.invokespecial 9, 3) := by decide +kernel
theorem dX6_init_12 : decode cX6_init 12 = .ok (.putfield 10, 3) := by decide +kernel
theorem dX6_init_15 : decode cX6_init 15 = .ok (.aload_n 0, 1) := by decide +kernel
theorem dX6_init_16 : decode cX6_init 16 = .ok (.new 7, 3) := by decide +kernel
theorem dX6_init_19 : decode cX6_init 19 = .ok (.dup, 1) := by decide +kernel
theorem dX6_init_20 : decode cX6_init 20 = .ok (.invokespecial 9, 3) := by decide +kernel
theorem dX6_init_23 : decode cX6_init 23 = .ok (.putfield 16, 3) := by decide +kernel
theorem dX6_init_26 : decode cX6_init 26 = .ok (.aload_n 0, 1) := by decide +kernel
theorem dX6_init_27 : decode cX6_init 27 = .ok (.iconst 0, 1) := by decide +kernel
theorem dX6_init_28 : decode cX6_init 28 = .ok (.putfield 19, 3) := by decide +kernel
theorem dX6_init_31 : decode cX6_init 31 = .ok (.aload_n 0, 1) := by decide +kernel
theorem dX6_init_32 : decode cX6_init 32 = .ok (.new 23, 3) := by decide +kernel
theorem dX6_init_35 : decode cX6_init 35 = .ok (.dup, 1) := by decide +kernel
theorem dX6_init_36 : decode cX6_init 36 = .ok (.invokespecial 25, 3) := by decide +kernel
theorem dX6_init_39 : decode cX6_init 39 = .ok (.putfield 26, 3) := by decide +kernel
theorem dX6_init_42 : decode cX6_init 42 = .ok (.aload_n 0, 1) := by decide +kernel
theorem dX6_init_43 : decode cX6_init 43 = .ok (.new 30, 3) := by decide +kernel
theorem dX6_init_46 : decode cX6_init 46 = .ok (.dup, 1) := by decide +kernel
theorem dX6_init_47 : decode cX6_init 47 = .ok (.invokespecial 32, 3) := by decide +kernel
theorem dX6_init_50 : decode cX6_init 50 = .ok (.putfield 33, 3) := by decide +kernel
theorem dX6_init_53 : decode cX6_init 53 = .ok (.aload_n 0, 1) := by decide +kernel
theorem dX6_init_54 : decode cX6_init 54 = .ok (.bipush 8, 2) := by decide +kernel
theorem dX6_init_56 : decode cX6_init 56 = .ok (.newarray .int, 2) := by decide +kernel
theorem dX6_init_58 : decode cX6_init 58 = .ok (.putfield 37, 3) := by decide +kernel
theorem dX6_init_61 : decode cX6_init 61 = .ok (.aload_n 0, 1) := by decide +kernel
theorem dX6_init_62 : decode cX6_init 62 = .ok (.new 41, 3) := by decide +kernel
theorem dX6_init_65 : decode cX6_init 65 = .ok (.dup, 1) := by decide +kernel
theorem dX6_init_66 : decode cX6_init 66 = .ok (.invokespecial 43, 3) := by decide +kernel
theorem dX6_init_69 : decode cX6_init 69 = .ok (.putfield 44, 3) := by decide +kernel
theorem dX6_init_72 : decode cX6_init 72 = .ok (.aload_n 0, 1) := by decide +kernel
theorem dX6_init_73 : decode cX6_init 73 = .ok (.new 48, 3) := by decide +kernel
theorem dX6_init_76 : decode cX6_init 76 = .ok (.dup, 1) := by decide +kernel
theorem dX6_init_77 : decode cX6_init 77 = .ok (.invokespecial 50, 3) := by decide +kernel
theorem dX6_init_80 : decode cX6_init 80 = .ok (.putfield 51, 3) := by decide +kernel
theorem dX6_init_83 : decode cX6_init 83 = .ok (.aload_n 0, 1) := by decide +kernel
theorem dX6_init_84 : decode cX6_init 84 = .ok (.bipush 7, 2) := by decide +kernel
theorem dX6_init_86 : decode cX6_init 86 = .ok (.newarray .int, 2) := by decide +kernel
theorem dX6_init_88 : decode cX6_init 88 = .ok (.putfield 55, 3) := by decide +kernel
theorem dX6_init_91 : decode cX6_init 91 = .ok (.aload_n 0, 1) := by decide +kernel
theorem dX6_init_92 : decode cX6_init 92 = .ok (.bipush 30, 2) := by decide +kernel
theorem dX6_init_94 : decode cX6_init 94 = .ok (.newarray .int, 2) := by decide +kernel
theorem dX6_init_96 : decode cX6_init 96 = .ok (.putfield 58, 3) := by decide +kernel
theorem dX6_init_99 : decode cX6_init 99 = .ok (.aload_n 0, 1) := by decide +kernel
theorem dX6_init_100 : decode cX6_init 100 = .ok (.iconst 0, 1) := by decide +kernel
theorem dX6_init_101 : decode cX6_init 101 = .ok (.putfield 61, 3) := by decide +kernel
theorem dX6_init_104 : decode cX6_init 104 = .ok (.aload_n 0, 1) := by decide +kernel
theorem dX6_init_105 : decode cX6_init 105 = .ok (.iconst 0, 1) := by decide +kernel
theorem dX6_init_106 : decode cX6_init 106 = .ok (.putfield 64, 3) := by decide +kernel
theorem dX6_init_109 : decode cX6_init 109 = .ok (.return_, 1) := by decide +kernel
theorem dX6_opens_0 : decode cX6_opens 0 = .ok (.iload_n 1, 1) := by decide +kernel
theorem dX6_opens_1 : decode cX6_opens 1 = .ok (.invokestatic 68, 3) := by decide +kernel
theorem dX6_opens_4 : decode cX6_opens 4 = .ok (.ifCond .eq 24, 3) := by decide +kernel
theorem dX6_opens_7 : decode cX6_opens 7 = .ok (.iload_n 2, 1) := by decide +kernel
theorem dX6_opens_8 : decode cX6_opens 8 = .ok (.invokestatic 68, 3) := by decide +kernel
theorem dX6_opens_11 : decode cX6_opens 11 = .ok (.ifCond .eq 17, 3) := by decide +kernel
theorem dX6_opens_14 : decode cX6_opens 14 = .ok (.iload_n 1, 1) := by decide +kernel
theorem dX6_opens_15 : decode cX6_opens 15 = .ok (.iload_n 2, 1) := by decide +kernel
theorem dX6_opens_16 : decode cX6_opens 16 = .ok (.if_icmp .eq 12, 3) := by decide +kernel
theorem dX6_opens_19 : decode cX6_opens 19 = .ok (.iload_n 3, 1) := by decide +kernel
theorem dX6_opens_20 : decode cX6_opens 20 = .ok (.ifCond .lt 8, 3) := by decide +kernel
theorem dX6_opens_23 : decode cX6_opens 23 = .ok (.iload_n 3, 1) := by decide +kernel
theorem dX6_opens_24 : decode cX6_opens 24 = .ok (.iconst 1, 1) := by decide +kernel
theorem dX6_opens_25 : decode cX6_opens 25 = .ok (.if_icmp .le 9, 3) := by decide +kernel
theorem dX6_opens_28 : decode cX6_opens 28 = .ok (.aload_n 0, 1) := by decide +kernel
theorem dX6_opens_29 : decode cX6_opens 29 = .ok (.iconst 1, 1) := by decide +kernel
theorem dX6_opens_30 : decode cX6_opens 30 = .ok (.invokevirtual 72, 3) := by decide +kernel
theorem dX6_opens_33 : decode cX6_opens 33 = .ok (.ireturn, 1) := by decide +kernel
theorem dX6_opens_34 : decode cX6_opens 34 = .ok (.aload_n 0, 1) := by decide +kernel
theorem dX6_opens_35 : decode cX6_opens 35 = .ok (.getfield 10, 3) := by decide +kernel
theorem dX6_opens_38 : decode cX6_opens 38 = .ok (.getfield 76, 3) := by decide +kernel
theorem dX6_opens_41 : decode cX6_opens 41 = .ok (.iload_n 1, 1) := by decide +kernel
theorem dX6_opens_42 : decode cX6_opens 42 = .ok (.iload_n 2, 1) := by decide +kernel
theorem dX6_opens_43 : decode cX6_opens 43 = .ok (.invokevirtual 79, 3) := by decide +kernel
theorem dX6_opens_46 : decode cX6_opens 46 = .ok (.ifCond .eq 7, 3) := by decide +kernel
theorem dX6_opens_49 : decode cX6_opens 49 = .ok (.iconst 1, 1) := by decide +kernel
theorem dX6_opens_50 : decode cX6_opens 50 = .ok (.goto 4, 3) := by decide +kernel
theorem dX6_opens_53 : decode cX6_opens 53 = .ok (.iconst 0, 1) := by decide +kernel
theorem dX6_opens_54 : decode cX6_opens 54 = .ok (.istore 4, 2) := by decide +kernel
theorem dX6_opens_56 : decode cX6_opens 56 = .ok (.iload_n 3, 1) := by decide +kernel
theorem dX6_opens_57 : decode cX6_opens 57 = .ok (.iload 4, 2) := by decide +kernel
theorem dX6_opens_59 : decode cX6_opens 59 = .ok (.if_icmp .le 15, 3) := by decide +kernel
theorem dX6_opens_62 : decode cX6_opens 62 = .ok (.aload_n 0, 1) := by decide +kernel
theorem dX6_opens_63 : decode cX6_opens 63 = .ok (.getfield 10, 3) := by decide +kernel
theorem dX6_opens_66 : decode cX6_opens 66 = .ok (.getfield 76, 3) := by decide +kernel
theorem dX6_opens_69 : decode cX6_opens 69 = .ok (.iload_n 1, 1) := by decide +kernel
theorem dX6_opens_70 : decode cX6_opens 70 = .ok (.iload_n 2, 1) := by decide +kernel
theorem dX6_opens_71 : decode cX6_opens 71 = .ok (.invokevirtual 83, 3) := by decide +kernel
theorem dX6_opens_74 : decode cX6_opens 74 = .ok (.iload_n 3, 1) := by decide +kernel
theorem dX6_opens_75 : decode cX6_opens 75 = .ok (.iload 4, 2) := by decide +kernel
theorem dX6_opens_77 : decode cX6_opens 77 = .ok (.if_icmp .ge 15, 3) := by decide +kernel
theorem dX6_opens_80 : decode cX6_opens 80 = .ok (.aload_n 0, 1) := by decide +kernel
theorem dX6_opens_81 : decode cX6_opens 81 = .ok (.getfield 10, 3) := by decide +kernel
theorem dX6_opens_84 : decode cX6_opens 84 = .ok (.getfield 76, 3) := by decide +kernel
theorem dX6_opens_87 : decode cX6_opens 87 = .ok (.iload_n 1, 1) := by decide +kernel
theorem dX6_opens_88 : decode cX6_opens 88 = .ok (.iload_n 2, 1) := by decide +kernel
theorem dX6_opens_89 : decode cX6_opens 89 = .ok (.invokevirtual 87, 3) := by decide +kernel
theorem dX6_opens_92 : decode cX6_opens 92 = .ok (.iload 4, 2) := by decide +kernel
theorem dX6_opens_94 : decode cX6_opens 94 = .ok (.ireturn, 1) := by decide +kernel
theorem dX6_field_0 : decode cX6_field 0 = .ok (.iload_n 1, 1) := by decide +kernel
theorem dX6_field_1 : decode cX6_field 1 = .ok (.invokestatic 90, 3) := by decide +kernel
theorem dX6_field_4 : decode cX6_field 4 = .ok (.ifCond .eq 10, 3) := by decide +kernel
theorem dX6_field_7 : decode cX6_field 7 = .ok (.iload_n 2, 1) := by decide +kernel
theorem dX6_field_8 : decode cX6_field 8 = .ok (.invokestatic 68, 3) := by decide +kernel
theorem dX6_field_11 : decode cX6_field 11 = .ok (.ifCond .ne 9, 3) := by decide +kernel
theorem dX6_field_14 : decode cX6_field 14 = .ok (.aload_n 0, 1) := by decide +kernel
theorem dX6_field_15 : decode cX6_field 15 = .ok (.iconst 1, 1) := by decide +kernel
theorem dX6_field_16 : decode cX6_field 16 = .ok (.invokevirtual 72, 3) := by decide +kernel
theorem dX6_field_19 : decode cX6_field 19 = .ok (.ireturn, 1) := by decide +kernel
theorem dX6_field_20 : decode cX6_field 20 = .ok (.aload_n 0, 1) := by decide +kernel
theorem dX6_field_21 : decode cX6_field 21 = .ok (.getfield 10, 3) := by decide +kernel
theorem dX6_field_24 : decode cX6_field 24 = .ok (.getfield 93, 3) := by decide +kernel
theorem dX6_field_27 : decode cX6_field 27 = .ok (.getfield 96, 3) := by decide +kernel
theorem dX6_field_30 : decode cX6_field 30 = .ok (.iload_n 1, 1) := by decide +kernel
theorem dX6_field_31 : decode cX6_field 31 = .ok (.iaload, 1) := by decide +kernel
theorem dX6_field_32 : decode cX6_field 32 = .ok (.istore_n 3, 1) := by decide +kernel
theorem dX6_field_33 : decode cX6_field 33 = .ok (.aload_n 0, 1) := by decide +kernel
theorem dX6_field_34 : decode cX6_field 34 = .ok (.getfield 10, 3) := by decide +kernel
theorem dX6_field_37 : decode cX6_field 37 = .ok (.getfield 93, 3) := by decide +kernel
theorem dX6_field_40 : decode cX6_field 40 = .ok (.getfield 96, 3) := by decide +kernel
theorem dX6_field_43 : decode cX6_field 43 = .ok (.iload_n 1, 1) := by decide +kernel
theorem dX6_field_44 : decode cX6_field 44 = .ok (.iload_n 2, 1) := by decide +kernel
theorem dX6_field_45 : decode cX6_field 45 = .ok (.iastore, 1) := by decide +kernel
theorem dX6_field_46 : decode cX6_field 46 = .ok (.iload_n 3, 1) := by decide +kernel
theorem dX6_field_47 : decode cX6_field 47 = .ok (.ireturn, 1) := by decide +kernel
theorem dX6_far_0 : decode cX6_far 0 = .ok (.iload_n 1, 1) := by decide +kernel
theorem dX6_far_1 : decode cX6_far 1 = .ok (.invokestatic 68, 3) := by decide +kernel
theorem dX6_far_4 : decode cX6_far 4 = .ok (.ifCond .eq 10, 3) := by decide +kernel
theorem dX6_far_7 : decode cX6_far 7 = .ok (.iload_n 2, 1) := by decide +kernel
theorem dX6_far_8 : decode cX6_far 8 = .ok (.invokestatic 68, 3) := by decide +kernel
theorem dX6_far_11 : decode cX6_far 11 = .ok (.ifCond .ne 9, 3) := by decide +kernel
theorem dX6_far_14 : decode cX6_far 14 = .ok (.aload_n 0, 1) := by decide +kernel
theorem dX6_far_15 : decode cX6_far 15 = .ok (.iconst 1, 1) := by decide +kernel
theorem dX6_far_16 : decode cX6_far 16 = .ok (.invokevirtual 72, 3) := by decide +kernel
theorem dX6_far_19 : decode cX6_far 19 = .ok (.ireturn, 1) := by decide +kernel
theorem dX6_far_20 : decode cX6_far 20 = .ok (.aload_n 0, 1) := by decide +kernel
theorem dX6_far_21 : decode cX6_far 21 = .ok (.getfield 10, 3) := by decide +kernel
theorem dX6_far_24 : decode cX6_far 24 = .ok (.getfield 76, 3) := by decide +kernel
theorem dX6_far_27 : decode cX6_far 27 = .ok (.iload_n 1, 1) := by decide +kernel
theorem dX6_far_28 : decode cX6_far 28 = .ok (.iload_n 2, 1) := by decide +kernel
theorem dX6_far_29 : decode cX6_far 29 = .ok (.invokevirtual 99, 3) := by decide +kernel
theorem dX6_far_32 : decode cX6_far 32 = .ok (.ifCond .ne 9, 3) := by decide +kernel
theorem dX6_far_35 : decode cX6_far 35 = .ok (.aload_n 0, 1) := by decide +kernel
theorem dX6_far_36 : decode cX6_far 36 = .ok (.iconst 2, 1) := by decide +kernel
theorem dX6_far_37 : decode cX6_far 37 = .ok (.invokevirtual 72, 3) := by decide +kernel
theorem dX6_far_40 : decode cX6_far 40 = .ok (.ireturn, 1) := by decide +kernel
theorem dX6_far_41 : decode cX6_far 41 = .ok (.aload_n 0, 1) := by decide +kernel
theorem dX6_far_42 : decode cX6_far 42 = .ok (.getfield 10, 3) := by decide +kernel
theorem dX6_far_45 : decode cX6_far 45 = .ok (.getfield 76, 3) := by decide +kernel
theorem dX6_far_48 : decode cX6_far 48 = .ok (.iload_n 1, 1) := by decide +kernel
theorem dX6_far_49 : decode cX6_far 49 = .ok (.iload_n 2, 1) := by decide +kernel
theorem dX6_far_50 : decode cX6_far 50 = .ok (.invokevirtual 102, 3) := by decide +kernel
theorem dX6_far_53 : decode cX6_far 53 = .ok (.ireturn, 1) := by decide +kernel
theorem dX6_bit_0 : decode cX6_bit 0 = .ok (.iload_n 1, 1) := by decide +kernel
theorem dX6_bit_1 : decode cX6_bit 1 = .ok (.invokestatic 106, 3) := by decide +kernel
theorem dX6_bit_4 : decode cX6_bit 4 = .ok (.ifCond .eq 17, 3) := by decide +kernel
theorem dX6_bit_7 : decode cX6_bit 7 = .ok (.iload_n 2, 1) := by decide +kernel
theorem dX6_bit_8 : decode cX6_bit 8 = .ok (.invokestatic 90, 3) := by decide +kernel
theorem dX6_bit_11 : decode cX6_bit 11 = .ok (.ifCond .eq 10, 3) := by decide +kernel
theorem dX6_bit_14 : decode cX6_bit 14 = .ok (.iload_n 3, 1) := by decide +kernel
theorem dX6_bit_15 : decode cX6_bit 15 = .ok (.invokestatic 68, 3) := by decide +kernel
theorem dX6_bit_18 : decode cX6_bit 18 = .ok (.ifCond .ne 9, 3) := by decide +kernel
theorem dX6_bit_21 : decode cX6_bit 21 = .ok (.aload_n 0, 1) := by decide +kernel
theorem dX6_bit_22 : decode cX6_bit 22 = .ok (.iconst 1, 1) := by decide +kernel
theorem dX6_bit_23 : decode cX6_bit 23 = .ok (.invokevirtual 72, 3) := by decide +kernel
theorem dX6_bit_26 : decode cX6_bit 26 = .ok (.ireturn, 1) := by decide +kernel
theorem dX6_bit_27 : decode cX6_bit 27 = .ok (.aload_n 0, 1) := by decide +kernel
theorem dX6_bit_28 : decode cX6_bit 28 = .ok (.getfield 10, 3) := by decide +kernel
theorem dX6_bit_31 : decode cX6_bit 31 = .ok (.getfield 93, 3) := by decide +kernel
theorem dX6_bit_34 : decode cX6_bit 34 = .ok (.getfield 109, 3) := by decide +kernel
theorem dX6_bit_37 : decode cX6_bit 37 = .ok (.bipush 8, 2) := by decide +kernel
theorem dX6_bit_39 : decode cX6_bit 39 = .ok (.if_icmp .lt 9, 3) := by decide +kernel
theorem dX6_bit_42 : decode cX6_bit 42 = .ok (.aload_n 0, 1) := by decide +kernel
theorem dX6_bit_43 : decode cX6_bit 43 = .ok (.iconst 4, 1) := by decide +kernel
theorem dX6_bit_44 : decode cX6_bit 44 = .ok (.invokevirtual 72, 3) := by decide +kernel
theorem dX6_bit_47 : decode cX6_bit 47 = .ok (.ireturn, 1) := by decide +kernel
theorem dX6_bit_48 : decode cX6_bit 48 = .ok (.aload_n 0, 1) := by decide +kernel
theorem dX6_bit_49 : decode cX6_bit 49 = .ok (.getfield 10, 3) := by decide +kernel
theorem dX6_bit_52 : decode cX6_bit 52 = .ok (.getfield 93, 3) := by decide +kernel
theorem dX6_bit_55 : decode cX6_bit 55 = .ok (.iload_n 1, 1) := by decide +kernel
theorem dX6_bit_56 : decode cX6_bit 56 = .ok (.iload_n 2, 1) := by decide +kernel
theorem dX6_bit_57 : decode cX6_bit 57 = .ok (.iload_n 3, 1) := by decide +kernel
theorem dX6_bit_58 : decode cX6_bit 58 = .ok (.invokevirtual 112, 3) := by decide +kernel
theorem dX6_bit_61 : decode cX6_bit 61 = .ok (.ireturn, 1) := by decide +kernel
theorem dX6_bitIs_0 : decode cX6_bitIs 0 = .ok (.aload_n 0, 1) := by decide +kernel
theorem dX6_bitIs_1 : decode cX6_bitIs 1 = .ok (.iload_n 1, 1) := by decide +kernel
theorem dX6_bitIs_2 : decode cX6_bitIs 2 = .ok (.invokevirtual 116, 3) := by decide +kernel
theorem dX6_bitIs_5 : decode cX6_bitIs 5 = .ok (.ifCond .ne 9, 3) := by decide +kernel
theorem dX6_bitIs_8 : decode cX6_bitIs 8 = .ok (.aload_n 0, 1) := by decide +kernel
theorem dX6_bitIs_9 : decode cX6_bitIs 9 = .ok (.iconst 1, 1) := by decide +kernel
theorem dX6_bitIs_10 : decode cX6_bitIs 10 = .ok (.invokevirtual 72, 3) := by decide +kernel
theorem dX6_bitIs_13 : decode cX6_bitIs 13 = .ok (.ireturn, 1) := by decide +kernel
theorem dX6_bitIs_14 : decode cX6_bitIs 14 = .ok (.aload_n 0, 1) := by decide +kernel
theorem dX6_bitIs_15 : decode cX6_bitIs 15 = .ok (.getfield 10, 3) := by decide +kernel
theorem dX6_bitIs_18 : decode cX6_bitIs 18 = .ok (.getfield 93, 3) := by decide +kernel
theorem dX6_bitIs_21 : decode cX6_bitIs 21 = .ok (.astore_n 3, 1) := by decide +kernel
theorem dX6_bitIs_22 : decode cX6_bitIs 22 = .ok (.iload_n 2, 1) := by decide +kernel
theorem dX6_bitIs_23 : decode cX6_bitIs 23 = .ok (.tableswitch 114 0 7 #[45, 52, 59, 66, 73, 80, 94, 101], 45) := by decide +kernel
theorem dX6_bitIs_68 : decode cX6_bitIs 68 = .ok (.aload_n 3, 1) := by decide +kernel
theorem dX6_bitIs_69 : decode cX6_bitIs 69 = .ok (.getfield 119, 3) := by decide +kernel
theorem dX6_bitIs_72 : decode cX6_bitIs 72 = .ok (.iload_n 1, 1) := by decide +kernel
theorem dX6_bitIs_73 : decode cX6_bitIs 73 = .ok (.iaload, 1) := by decide +kernel
theorem dX6_bitIs_74 : decode cX6_bitIs 74 = .ok (.ireturn, 1) := by decide +kernel
theorem dX6_bitIs_75 : decode cX6_bitIs 75 = .ok (.aload_n 3, 1) := by decide +kernel
theorem dX6_bitIs_76 : decode cX6_bitIs 76 = .ok (.getfield 122, 3) := by decide +kernel
theorem dX6_bitIs_79 : decode cX6_bitIs 79 = .ok (.iload_n 1, 1) := by decide +kernel
theorem dX6_bitIs_80 : decode cX6_bitIs 80 = .ok (.iaload, 1) := by decide +kernel
theorem dX6_bitIs_81 : decode cX6_bitIs 81 = .ok (.ireturn, 1) := by decide +kernel
theorem dX6_bitIs_82 : decode cX6_bitIs 82 = .ok (.aload_n 3, 1) := by decide +kernel
theorem dX6_bitIs_83 : decode cX6_bitIs 83 = .ok (.getfield 125, 3) := by decide +kernel
theorem dX6_bitIs_86 : decode cX6_bitIs 86 = .ok (.iload_n 1, 1) := by decide +kernel
theorem dX6_bitIs_87 : decode cX6_bitIs 87 = .ok (.iaload, 1) := by decide +kernel
theorem dX6_bitIs_88 : decode cX6_bitIs 88 = .ok (.ireturn, 1) := by decide +kernel
theorem dX6_bitIs_89 : decode cX6_bitIs 89 = .ok (.aload_n 3, 1) := by decide +kernel
theorem dX6_bitIs_90 : decode cX6_bitIs 90 = .ok (.getfield 128, 3) := by decide +kernel
theorem dX6_bitIs_93 : decode cX6_bitIs 93 = .ok (.iload_n 1, 1) := by decide +kernel
theorem dX6_bitIs_94 : decode cX6_bitIs 94 = .ok (.iaload, 1) := by decide +kernel
theorem dX6_bitIs_95 : decode cX6_bitIs 95 = .ok (.ireturn, 1) := by decide +kernel
theorem dX6_bitIs_96 : decode cX6_bitIs 96 = .ok (.aload_n 3, 1) := by decide +kernel
theorem dX6_bitIs_97 : decode cX6_bitIs 97 = .ok (.getfield 131, 3) := by decide +kernel
theorem dX6_bitIs_100 : decode cX6_bitIs 100 = .ok (.iload_n 1, 1) := by decide +kernel
theorem dX6_bitIs_101 : decode cX6_bitIs 101 = .ok (.iaload, 1) := by decide +kernel
theorem dX6_bitIs_102 : decode cX6_bitIs 102 = .ok (.ireturn, 1) := by decide +kernel
theorem dX6_bitIs_103 : decode cX6_bitIs 103 = .ok (.aload_n 0, 1) := by decide +kernel
theorem dX6_bitIs_104 : decode cX6_bitIs 104 = .ok (.aload_n 3, 1) := by decide +kernel
theorem dX6_bitIs_105 : decode cX6_bitIs 105 = .ok (.aload_n 0, 1) := by decide +kernel
theorem dX6_bitIs_106 : decode cX6_bitIs 106 = .ok (.getfield 10, 3) := by decide +kernel
theorem dX6_bitIs_109 : decode cX6_bitIs 109 = .ok (.getfield 76, 3) := by decide +kernel
theorem dX6_bitIs_112 : decode cX6_bitIs 112 = .ok (.iload_n 1, 1) := by decide +kernel
theorem dX6_bitIs_113 : decode cX6_bitIs 113 = .ok (.invokevirtual 134, 3) := by decide +kernel
theorem dX6_bitIs_116 : decode cX6_bitIs 116 = .ok (.ireturn, 1) := by decide +kernel
theorem dX6_bitIs_117 : decode cX6_bitIs 117 = .ok (.aload_n 0, 1) := by decide +kernel
theorem dX6_bitIs_118 : decode cX6_bitIs 118 = .ok (.aload_n 3, 1) := by decide +kernel
theorem dX6_bitIs_119 : decode cX6_bitIs 119 = .ok (.iload_n 1, 1) := by decide +kernel
theorem dX6_bitIs_120 : decode cX6_bitIs 120 = .ok (.invokevirtual 138, 3) := by decide +kernel
theorem dX6_bitIs_123 : decode cX6_bitIs 123 = .ok (.ireturn, 1) := by decide +kernel
theorem dX6_bitIs_124 : decode cX6_bitIs 124 = .ok (.aload_n 3, 1) := by decide +kernel
theorem dX6_bitIs_125 : decode cX6_bitIs 125 = .ok (.aload_n 0, 1) := by decide +kernel
theorem dX6_bitIs_126 : decode cX6_bitIs 126 = .ok (.getfield 10, 3) := by decide +kernel
theorem dX6_bitIs_129 : decode cX6_bitIs 129 = .ok (.getfield 76, 3) := by decide +kernel
theorem dX6_bitIs_132 : decode cX6_bitIs 132 = .ok (.iload_n 1, 1) := by decide +kernel
theorem dX6_bitIs_133 : decode cX6_bitIs 133 = .ok (.invokestatic 142, 3) := by decide +kernel
theorem dX6_bitIs_136 : decode cX6_bitIs 136 = .ok (.ireturn, 1) := by decide +kernel
theorem dX6_bitIs_137 : decode cX6_bitIs 137 = .ok (.aload_n 0, 1) := by decide +kernel
theorem dX6_bitIs_138 : decode cX6_bitIs 138 = .ok (.iconst 1, 1) := by decide +kernel
theorem dX6_bitIs_139 : decode cX6_bitIs 139 = .ok (.invokevirtual 72, 3) := by decide +kernel
theorem dX6_bitIs_142 : decode cX6_bitIs 142 = .ok (.ireturn, 1) := by decide +kernel
theorem dX6_become_0 : decode cX6_become 0 = .ok (.aload_n 0, 1) := by decide +kernel
theorem dX6_become_1 : decode cX6_become 1 = .ok (.iload_n 1, 1) := by decide +kernel
theorem dX6_become_2 : decode cX6_become 2 = .ok (.invokevirtual 116, 3) := by decide +kernel
theorem dX6_become_5 : decode cX6_become 5 = .ok (.ifCond .eq 10, 3) := by decide +kernel
theorem dX6_become_8 : decode cX6_become 8 = .ok (.iload_n 2, 1) := by decide +kernel
theorem dX6_become_9 : decode cX6_become 9 = .ok (.invokestatic 106, 3) := by decide +kernel
theorem dX6_become_12 : decode cX6_become 12 = .ok (.ifCond .ne 9, 3) := by decide +kernel
theorem dX6_become_15 : decode cX6_become 15 = .ok (.aload_n 0, 1) := by decide +kernel
theorem dX6_become_16 : decode cX6_become 16 = .ok (.iconst 1, 1) := by decide +kernel
theorem dX6_become_17 : decode cX6_become 17 = .ok (.invokevirtual 72, 3) := by decide +kernel
theorem dX6_become_20 : decode cX6_become 20 = .ok (.ireturn, 1) := by decide +kernel
theorem dX6_become_21 : decode cX6_become 21 = .ok (.aload_n 0, 1) := by decide +kernel
theorem dX6_become_22 : decode cX6_become 22 = .ok (.getfield 10, 3) := by decide +kernel
theorem dX6_become_25 : decode cX6_become 25 = .ok (.getfield 93, 3) := by decide +kernel
theorem dX6_become_28 : decode cX6_become 28 = .ok (.getfield 119, 3) := by decide +kernel
theorem dX6_become_31 : decode cX6_become 31 = .ok (.iload_n 1, 1) := by decide +kernel
theorem dX6_become_32 : decode cX6_become 32 = .ok (.iaload, 1) := by decide +kernel
theorem dX6_become_33 : decode cX6_become 33 = .ok (.istore_n 3, 1) := by decide +kernel
theorem dX6_become_34 : decode cX6_become 34 = .ok (.aload_n 0, 1) := by decide +kernel
theorem dX6_become_35 : decode cX6_become 35 = .ok (.getfield 10, 3) := by decide +kernel
theorem dX6_become_38 : decode cX6_become 38 = .ok (.getfield 93, 3) := by decide +kernel
theorem dX6_become_41 : decode cX6_become 41 = .ok (.getfield 119, 3) := by decide +kernel
theorem dX6_become_44 : decode cX6_become 44 = .ok (.iload_n 1, 1) := by decide +kernel
theorem dX6_become_45 : decode cX6_become 45 = .ok (.iload_n 2, 1) := by decide +kernel
theorem dX6_become_46 : decode cX6_become 46 = .ok (.bipush 10, 2) := by decide +kernel
theorem dX6_become_48 : decode cX6_become 48 = .ok (.idiv, 1) := by decide +kernel
theorem dX6_become_49 : decode cX6_become 49 = .ok (.iastore, 1) := by decide +kernel
theorem dX6_become_50 : decode cX6_become 50 = .ok (.aload_n 0, 1) := by decide +kernel
theorem dX6_become_51 : decode cX6_become 51 = .ok (.getfield 10, 3) := by decide +kernel
theorem dX6_become_54 : decode cX6_become 54 = .ok (.getfield 93, 3) := by decide +kernel
theorem dX6_become_57 : decode cX6_become 57 = .ok (.getfield 122, 3) := by decide +kernel
theorem dX6_become_60 : decode cX6_become 60 = .ok (.iload_n 1, 1) := by decide +kernel
theorem dX6_become_61 : decode cX6_become 61 = .ok (.iload_n 2, 1) := by decide +kernel
theorem dX6_become_62 : decode cX6_become 62 = .ok (.bipush 10, 2) := by decide +kernel
theorem dX6_become_64 : decode cX6_become 64 = .ok (.irem, 1) := by decide +kernel
theorem dX6_become_65 : decode cX6_become 65 = .ok (.iastore, 1) := by decide +kernel
theorem dX6_become_66 : decode cX6_become 66 = .ok (.iload_n 3, 1) := by decide +kernel
theorem dX6_become_67 : decode cX6_become 67 = .ok (.ireturn, 1) := by decide +kernel
theorem dX6_as_0 : decode cX6_as 0 = .ok (.aload_n 0, 1) := by decide +kernel
theorem dX6_as_1 : decode cX6_as 1 = .ok (.iload_n 1, 1) := by decide +kernel
theorem dX6_as_2 : decode cX6_as 2 = .ok (.invokevirtual 116, 3) := by decide +kernel
theorem dX6_as_5 : decode cX6_as 5 = .ok (.ifCond .eq 13, 3) := by decide +kernel
theorem dX6_as_8 : decode cX6_as 8 = .ok (.iload_n 2, 1) := by decide +kernel
theorem dX6_as_9 : decode cX6_as 9 = .ok (.ifCond .lt 9, 3) := by decide +kernel
theorem dX6_as_12 : decode cX6_as 12 = .ok (.iload_n 2, 1) := by decide +kernel
theorem dX6_as_13 : decode cX6_as 13 = .ok (.bipush 7, 2) := by decide +kernel
theorem dX6_as_15 : decode cX6_as 15 = .ok (.if_icmp .lt 9, 3) := by decide +kernel
theorem dX6_as_18 : decode cX6_as 18 = .ok (.aload_n 0, 1) := by decide +kernel
theorem dX6_as_19 : decode cX6_as 19 = .ok (.iconst 1, 1) := by decide +kernel
theorem dX6_as_20 : decode cX6_as 20 = .ok (.invokevirtual 72, 3) := by decide +kernel
theorem dX6_as_23 : decode cX6_as 23 = .ok (.ireturn, 1) := by decide +kernel
theorem dX6_as_24 : decode cX6_as 24 = .ok (.aload_n 0, 1) := by decide +kernel
theorem dX6_as_25 : decode cX6_as 25 = .ok (.getfield 10, 3) := by decide +kernel
theorem dX6_as_28 : decode cX6_as 28 = .ok (.getfield 93, 3) := by decide +kernel
theorem dX6_as_31 : decode cX6_as 31 = .ok (.getfield 119, 3) := by decide +kernel
theorem dX6_as_34 : decode cX6_as 34 = .ok (.iload_n 1, 1) := by decide +kernel
theorem dX6_as_35 : decode cX6_as 35 = .ok (.iaload, 1) := by decide +kernel
theorem dX6_as_36 : decode cX6_as 36 = .ok (.iload_n 2, 1) := by decide +kernel
theorem dX6_as_37 : decode cX6_as 37 = .ok (.invokestatic 145, 3) := by decide +kernel
theorem dX6_as_40 : decode cX6_as 40 = .ok (.ifCond .ne 9, 3) := by decide +kernel
theorem dX6_as_43 : decode cX6_as 43 = .ok (.aload_n 0, 1) := by decide +kernel
theorem dX6_as_44 : decode cX6_as 44 = .ok (.iconst 5, 1) := by decide +kernel
theorem dX6_as_45 : decode cX6_as 45 = .ok (.invokevirtual 72, 3) := by decide +kernel
theorem dX6_as_48 : decode cX6_as 48 = .ok (.ireturn, 1) := by decide +kernel
theorem dX6_as_49 : decode cX6_as 49 = .ok (.aload_n 0, 1) := by decide +kernel
theorem dX6_as_50 : decode cX6_as 50 = .ok (.getfield 10, 3) := by decide +kernel
theorem dX6_as_53 : decode cX6_as 53 = .ok (.getfield 93, 3) := by decide +kernel
theorem dX6_as_56 : decode cX6_as 56 = .ok (.getfield 122, 3) := by decide +kernel
theorem dX6_as_59 : decode cX6_as 59 = .ok (.iload_n 1, 1) := by decide +kernel
theorem dX6_as_60 : decode cX6_as 60 = .ok (.iaload, 1) := by decide +kernel
theorem dX6_as_61 : decode cX6_as 61 = .ok (.ireturn, 1) := by decide +kernel
theorem dX6_hears_0 : decode cX6_hears 0 = .ok (.aload_n 0, 1) := by decide +kernel
theorem dX6_hears_1 : decode cX6_hears 1 = .ok (.iload_n 1, 1) := by decide +kernel
theorem dX6_hears_2 : decode cX6_hears 2 = .ok (.invokevirtual 116, 3) := by decide +kernel
theorem dX6_hears_5 : decode cX6_hears 5 = .ok (.ifCond .eq 13, 3) := by decide +kernel
theorem dX6_hears_8 : decode cX6_hears 8 = .ok (.iload_n 2, 1) := by decide +kernel
theorem dX6_hears_9 : decode cX6_hears 9 = .ok (.ifCond .lt 9, 3) := by decide +kernel
theorem dX6_hears_12 : decode cX6_hears 12 = .ok (.iload_n 2, 1) := by decide +kernel
theorem dX6_hears_13 : decode cX6_hears 13 = .ok (.bipush 9, 2) := by decide +kernel
theorem dX6_hears_15 : decode cX6_hears 15 = .ok (.if_icmp .le 9, 3) := by decide +kernel
theorem dX6_hears_18 : decode cX6_hears 18 = .ok (.aload_n 0, 1) := by decide +kernel
theorem dX6_hears_19 : decode cX6_hears 19 = .ok (.iconst 1, 1) := by decide +kernel
theorem dX6_hears_20 : decode cX6_hears 20 = .ok (.invokevirtual 72, 3) := by decide +kernel
theorem dX6_hears_23 : decode cX6_hears 23 = .ok (.ireturn, 1) := by decide +kernel
theorem dX6_hears_24 : decode cX6_hears 24 = .ok (.aload_n 0, 1) := by decide +kernel
theorem dX6_hears_25 : decode cX6_hears 25 = .ok (.getfield 10, 3) := by decide +kernel
theorem dX6_hears_28 : decode cX6_hears 28 = .ok (.getfield 93, 3) := by decide +kernel
theorem dX6_hears_31 : decode cX6_hears 31 = .ok (.getfield 131, 3) := by decide +kernel
theorem dX6_hears_34 : decode cX6_hears 34 = .ok (.iload_n 1, 1) := by decide +kernel
theorem dX6_hears_35 : decode cX6_hears 35 = .ok (.iaload, 1) := by decide +kernel
theorem dX6_hears_36 : decode cX6_hears 36 = .ok (.istore_n 3, 1) := by decide +kernel
theorem dX6_hears_37 : decode cX6_hears 37 = .ok (.aload_n 0, 1) := by decide +kernel
theorem dX6_hears_38 : decode cX6_hears 38 = .ok (.getfield 10, 3) := by decide +kernel
theorem dX6_hears_41 : decode cX6_hears 41 = .ok (.getfield 93, 3) := by decide +kernel
theorem dX6_hears_44 : decode cX6_hears 44 = .ok (.getfield 131, 3) := by decide +kernel
theorem dX6_hears_47 : decode cX6_hears 47 = .ok (.iload_n 1, 1) := by decide +kernel
theorem dX6_hears_48 : decode cX6_hears 48 = .ok (.iload_n 2, 1) := by decide +kernel
theorem dX6_hears_49 : decode cX6_hears 49 = .ok (.iastore, 1) := by decide +kernel
theorem dX6_hears_50 : decode cX6_hears 50 = .ok (.iload_n 3, 1) := by decide +kernel
theorem dX6_hears_51 : decode cX6_hears 51 = .ok (.ireturn, 1) := by decide +kernel
theorem dX6_lay_0 : decode cX6_lay 0 = .ok (.aload_n 0, 1) := by decide +kernel
theorem dX6_lay_1 : decode cX6_lay 1 = .ok (.iload_n 1, 1) := by decide +kernel
theorem dX6_lay_2 : decode cX6_lay 2 = .ok (.invokevirtual 116, 3) := by decide +kernel
theorem dX6_lay_5 : decode cX6_lay 5 = .ok (.ifCond .eq 10, 3) := by decide +kernel
theorem dX6_lay_8 : decode cX6_lay 8 = .ok (.iload_n 2, 1) := by decide +kernel
theorem dX6_lay_9 : decode cX6_lay 9 = .ok (.invokestatic 68, 3) := by decide +kernel
theorem dX6_lay_12 : decode cX6_lay 12 = .ok (.ifCond .ne 9, 3) := by decide +kernel
theorem dX6_lay_15 : decode cX6_lay 15 = .ok (.aload_n 0, 1) := by decide +kernel
theorem dX6_lay_16 : decode cX6_lay 16 = .ok (.iconst 1, 1) := by decide +kernel
theorem dX6_lay_17 : decode cX6_lay 17 = .ok (.invokevirtual 72, 3) := by decide +kernel
theorem dX6_lay_20 : decode cX6_lay 20 = .ok (.ireturn, 1) := by decide +kernel
theorem dX6_lay_21 : decode cX6_lay 21 = .ok (.aload_n 0, 1) := by decide +kernel
theorem dX6_lay_22 : decode cX6_lay 22 = .ok (.getfield 10, 3) := by decide +kernel
theorem dX6_lay_25 : decode cX6_lay 25 = .ok (.getfield 93, 3) := by decide +kernel
theorem dX6_lay_28 : decode cX6_lay 28 = .ok (.getfield 128, 3) := by decide +kernel
theorem dX6_lay_31 : decode cX6_lay 31 = .ok (.iload_n 1, 1) := by decide +kernel
theorem dX6_lay_32 : decode cX6_lay 32 = .ok (.iaload, 1) := by decide +kernel
theorem dX6_lay_33 : decode cX6_lay 33 = .ok (.istore_n 3, 1) := by decide +kernel
theorem dX6_lay_34 : decode cX6_lay 34 = .ok (.aload_n 0, 1) := by decide +kernel
theorem dX6_lay_35 : decode cX6_lay 35 = .ok (.getfield 10, 3) := by decide +kernel
theorem dX6_lay_38 : decode cX6_lay 38 = .ok (.getfield 93, 3) := by decide +kernel
theorem dX6_lay_41 : decode cX6_lay 41 = .ok (.getfield 128, 3) := by decide +kernel
theorem dX6_lay_44 : decode cX6_lay 44 = .ok (.iload_n 1, 1) := by decide +kernel
theorem dX6_lay_45 : decode cX6_lay 45 = .ok (.iload_n 2, 1) := by decide +kernel
theorem dX6_lay_46 : decode cX6_lay 46 = .ok (.iastore, 1) := by decide +kernel
theorem dX6_lay_47 : decode cX6_lay 47 = .ok (.iload_n 3, 1) := by decide +kernel
theorem dX6_lay_48 : decode cX6_lay 48 = .ok (.ireturn, 1) := by decide +kernel
theorem dX6_feed_0 : decode cX6_feed 0 = .ok (.iload_n 3, 1) := by decide +kernel
theorem dX6_feed_1 : decode cX6_feed 1 = .ok (.iconst 1, 1) := by decide +kernel
theorem dX6_feed_2 : decode cX6_feed 2 = .ok (.if_icmp .lt 9, 3) := by decide +kernel
theorem dX6_feed_5 : decode cX6_feed 5 = .ok (.iload_n 3, 1) := by decide +kernel
theorem dX6_feed_6 : decode cX6_feed 6 = .ok (.bipush 8, 2) := by decide +kernel
theorem dX6_feed_8 : decode cX6_feed 8 = .ok (.if_icmp .le 9, 3) := by decide +kernel
theorem dX6_feed_11 : decode cX6_feed 11 = .ok (.aload_n 0, 1) := by decide +kernel
theorem dX6_feed_12 : decode cX6_feed 12 = .ok (.iconst 1, 1) := by decide +kernel
theorem dX6_feed_13 : decode cX6_feed 13 = .ok (.invokevirtual 72, 3) := by decide +kernel
theorem dX6_feed_16 : decode cX6_feed 16 = .ok (.ireturn, 1) := by decide +kernel
theorem dX6_feed_17 : decode cX6_feed 17 = .ok (.aload_n 0, 1) := by decide +kernel
theorem dX6_feed_18 : decode cX6_feed 18 = .ok (.getfield 10, 3) := by decide +kernel
theorem dX6_feed_21 : decode cX6_feed 21 = .ok (.getfield 148, 3) := by decide +kernel
theorem dX6_feed_24 : decode cX6_feed 24 = .ok (.iload_n 3, 1) := by decide +kernel
theorem dX6_feed_25 : decode cX6_feed 25 = .ok (.iadd, 1) := by decide +kernel
theorem dX6_feed_26 : decode cX6_feed 26 = .ok (.bipush 60, 2) := by decide +kernel
theorem dX6_feed_28 : decode cX6_feed 28 = .ok (.if_icmp .le 9, 3) := by decide +kernel
theorem dX6_feed_31 : decode cX6_feed 31 = .ok (.aload_n 0, 1) := by decide +kernel
theorem dX6_feed_32 : decode cX6_feed 32 = .ok (.iconst 4, 1) := by decide +kernel
theorem dX6_feed_33 : decode cX6_feed 33 = .ok (.invokevirtual 72, 3) := by decide +kernel
theorem dX6_feed_36 : decode cX6_feed 36 = .ok (.ireturn, 1) := by decide +kernel
theorem dX6_feed_37 : decode cX6_feed 37 = .ok (.iconst 0, 1) := by decide +kernel
theorem dX6_feed_38 : decode cX6_feed 38 = .ok (.istore 4, 2) := by decide +kernel
theorem dX6_feed_40 : decode cX6_feed 40 = .ok (.iload 4, 2) := by decide +kernel
theorem dX6_feed_42 : decode cX6_feed 42 = .ok (.iload_n 3, 1) := by decide +kernel
theorem dX6_feed_43 : decode cX6_feed 43 = .ok (.if_icmp .ge 39, 3) := by decide +kernel
theorem dX6_feed_46 : decode cX6_feed 46 = .ok (.aload_n 0, 1) := by decide +kernel
theorem dX6_feed_47 : decode cX6_feed 47 = .ok (.getfield 10, 3) := by decide +kernel
theorem dX6_feed_50 : decode cX6_feed 50 = .ok (.getfield 151, 3) := by decide +kernel
theorem dX6_feed_53 : decode cX6_feed 53 = .ok (.aload_n 0, 1) := by decide +kernel
theorem dX6_feed_54 : decode cX6_feed 54 = .ok (.getfield 10, 3) := by decide +kernel
theorem dX6_feed_57 : decode cX6_feed 57 = .ok (.getfield 148, 3) := by decide +kernel
theorem dX6_feed_60 : decode cX6_feed 60 = .ok (.iload 4, 2) := by decide +kernel
theorem dX6_feed_62 : decode cX6_feed 62 = .ok (.iadd, 1) := by decide +kernel
theorem dX6_feed_63 : decode cX6_feed 63 = .ok (.lload_n 1, 1) := by decide +kernel
theorem dX6_feed_64 : decode cX6_feed 64 = .ok (.bipush 8, 2) := by decide +kernel
theorem dX6_feed_66 : decode cX6_feed 66 = .ok (.iload 4, 2) := by decide +kernel
theorem dX6_feed_68 : decode cX6_feed 68 = .ok (.imul, 1) := by decide +kernel
theorem dX6_feed_69 : decode cX6_feed 69 = .ok (.lushr, 1) := by decide +kernel
theorem dX6_feed_70 : decode cX6_feed 70 = .ok (.l2i, 1) := by decide +kernel
theorem dX6_feed_71 : decode cX6_feed 71 = .ok (.sipush 255, 3) := by decide +kernel
theorem dX6_feed_74 : decode cX6_feed 74 = .ok (.iand, 1) := by decide +kernel
theorem dX6_feed_75 : decode cX6_feed 75 = .ok (.iastore, 1) := by decide +kernel
theorem dX6_feed_76 : decode cX6_feed 76 = .ok (.iinc 4 1, 3) := by decide +kernel
theorem dX6_feed_79 : decode cX6_feed 79 = .ok (.goto (-39), 3) := by decide +kernel
theorem dX6_feed_82 : decode cX6_feed 82 = .ok (.aload_n 0, 1) := by decide +kernel
theorem dX6_feed_83 : decode cX6_feed 83 = .ok (.getfield 10, 3) := by decide +kernel
theorem dX6_feed_86 : decode cX6_feed 86 = .ok (.dup, 1) := by decide +kernel
theorem dX6_feed_87 : decode cX6_feed 87 = .ok (.getfield 148, 3) := by decide +kernel
theorem dX6_feed_90 : decode cX6_feed 90 = .ok (.iload_n 3, 1) := by decide +kernel
theorem dX6_feed_91 : decode cX6_feed 91 = .ok (.iadd, 1) := by decide +kernel
theorem dX6_feed_92 : decode cX6_feed 92 = .ok (.putfield 148, 3) := by decide +kernel
theorem dX6_feed_95 : decode cX6_feed 95 = .ok (.aload_n 0, 1) := by decide +kernel
theorem dX6_feed_96 : decode cX6_feed 96 = .ok (.getfield 10, 3) := by decide +kernel
theorem dX6_feed_99 : decode cX6_feed 99 = .ok (.getfield 148, 3) := by decide +kernel
theorem dX6_feed_102 : decode cX6_feed 102 = .ok (.ireturn, 1) := by decide +kernel
theorem dX6_text_0 : decode cX6_text 0 = .ok (.iload_n 1, 1) := by decide +kernel
theorem dX6_text_1 : decode cX6_text 1 = .ok (.invokestatic 154, 3) := by decide +kernel
theorem dX6_text_4 : decode cX6_text 4 = .ok (.ifCond .ne 9, 3) := by decide +kernel
theorem dX6_text_7 : decode cX6_text 7 = .ok (.aload_n 0, 1) := by decide +kernel
theorem dX6_text_8 : decode cX6_text 8 = .ok (.iconst 1, 1) := by decide +kernel
theorem dX6_text_9 : decode cX6_text 9 = .ok (.invokevirtual 72, 3) := by decide +kernel
theorem dX6_text_12 : decode cX6_text 12 = .ok (.ireturn, 1) := by decide +kernel
theorem dX6_text_13 : decode cX6_text 13 = .ok (.aload_n 0, 1) := by decide +kernel
theorem dX6_text_14 : decode cX6_text 14 = .ok (.iload_n 1, 1) := by decide +kernel
theorem dX6_text_15 : decode cX6_text 15 = .ok (.invokevirtual 157, 3) := by decide +kernel
theorem dX6_text_18 : decode cX6_text 18 = .ok (.astore_n 2, 1) := by decide +kernel
theorem dX6_text_19 : decode cX6_text 19 = .ok (.aload_n 0, 1) := by decide +kernel
theorem dX6_text_20 : decode cX6_text 20 = .ok (.getfield 44, 3) := by decide +kernel
theorem dX6_text_23 : decode cX6_text 23 = .ok (.aload_n 0, 1) := by decide +kernel
theorem dX6_text_24 : decode cX6_text 24 = .ok (.getfield 10, 3) := by decide +kernel
theorem dX6_text_27 : decode cX6_text 27 = .ok (.getfield 151, 3) := by decide +kernel
theorem dX6_text_30 : decode cX6_text 30 = .ok (.aload_n 0, 1) := by decide +kernel
theorem dX6_text_31 : decode cX6_text 31 = .ok (.getfield 10, 3) := by decide +kernel
theorem dX6_text_34 : decode cX6_text 34 = .ok (.getfield 148, 3) := by decide +kernel
theorem dX6_text_37 : decode cX6_text 37 = .ok (.aload_n 2, 1) := by decide +kernel
theorem dX6_text_38 : decode cX6_text 38 = .ok (.getfield 161, 3) := by decide +kernel
theorem dX6_text_41 : decode cX6_text 41 = .ok (.invokevirtual 167, 3) := by decide +kernel
theorem dX6_text_44 : decode cX6_text 44 = .ok (.istore_n 3, 1) := by decide +kernel
theorem dX6_text_45 : decode cX6_text 45 = .ok (.aload_n 0, 1) := by decide +kernel
theorem dX6_text_46 : decode cX6_text 46 = .ok (.getfield 10, 3) := by decide +kernel
theorem dX6_text_49 : decode cX6_text 49 = .ok (.iconst 0, 1) := by decide +kernel
theorem dX6_text_50 : decode cX6_text 50 = .ok (.putfield 148, 3) := by decide +kernel
theorem dX6_text_53 : decode cX6_text 53 = .ok (.iload_n 3, 1) := by decide +kernel
theorem dX6_text_54 : decode cX6_text 54 = .ok (.ifCond .lt 8, 3) := by decide +kernel
theorem dX6_text_57 : decode cX6_text 57 = .ok (.bipush (-10), 2) := by decide +kernel
theorem dX6_text_59 : decode cX6_text 59 = .ok (.iload_n 3, 1) := by decide +kernel
theorem dX6_text_60 : decode cX6_text 60 = .ok (.isub, 1) := by decide +kernel
theorem dX6_text_61 : decode cX6_text 61 = .ok (.ireturn, 1) := by decide +kernel
theorem dX6_text_62 : decode cX6_text 62 = .ok (.aload_n 2, 1) := by decide +kernel
theorem dX6_text_63 : decode cX6_text 63 = .ok (.aload_n 0, 1) := by decide +kernel
theorem dX6_text_64 : decode cX6_text 64 = .ok (.getfield 44, 3) := by decide +kernel
theorem dX6_text_67 : decode cX6_text 67 = .ok (.getfield 171, 3) := by decide +kernel
theorem dX6_text_70 : decode cX6_text 70 = .ok (.aload_n 0, 1) := by decide +kernel
theorem dX6_text_71 : decode cX6_text 71 = .ok (.getfield 44, 3) := by decide +kernel
theorem dX6_text_74 : decode cX6_text 74 = .ok (.getfield 174, 3) := by decide +kernel
theorem dX6_text_77 : decode cX6_text 77 = .ok (.invokevirtual 177, 3) := by decide +kernel
theorem dX6_text_80 : decode cX6_text 80 = .ok (.iconst 1, 1) := by decide +kernel
theorem dX6_text_81 : decode cX6_text 81 = .ok (.ireturn, 1) := by decide +kernel
theorem dX6_untell_0 : decode cX6_untell 0 = .ok (.iload_n 1, 1) := by decide +kernel
theorem dX6_untell_1 : decode cX6_untell 1 = .ok (.invokestatic 154, 3) := by decide +kernel
theorem dX6_untell_4 : decode cX6_untell 4 = .ok (.ifCond .ne 9, 3) := by decide +kernel
theorem dX6_untell_7 : decode cX6_untell 7 = .ok (.aload_n 0, 1) := by decide +kernel
theorem dX6_untell_8 : decode cX6_untell 8 = .ok (.iconst 1, 1) := by decide +kernel
theorem dX6_untell_9 : decode cX6_untell 9 = .ok (.invokevirtual 72, 3) := by decide +kernel
theorem dX6_untell_12 : decode cX6_untell 12 = .ok (.ireturn, 1) := by decide +kernel
theorem dX6_untell_13 : decode cX6_untell 13 = .ok (.aload_n 0, 1) := by decide +kernel
theorem dX6_untell_14 : decode cX6_untell 14 = .ok (.iload_n 1, 1) := by decide +kernel
theorem dX6_untell_15 : decode cX6_untell 15 = .ok (.invokevirtual 157, 3) := by decide +kernel
theorem dX6_untell_18 : decode cX6_untell 18 = .ok (.astore_n 2, 1) := by decide +kernel
theorem dX6_untell_19 : decode cX6_untell 19 = .ok (.aload_n 2, 1) := by decide +kernel
theorem dX6_untell_20 : decode cX6_untell 20 = .ok (.getfield 181, 3) := by decide +kernel
theorem dX6_untell_23 : decode cX6_untell 23 = .ok (.ifCond .le 7, 3) := by decide +kernel
theorem dX6_untell_26 : decode cX6_untell 26 = .ok (.iconst 1, 1) := by decide +kernel
theorem dX6_untell_27 : decode cX6_untell 27 = .ok (.goto 4, 3) := by decide +kernel
theorem dX6_untell_30 : decode cX6_untell 30 = .ok (.iconst 0, 1) := by decide +kernel
theorem dX6_untell_31 : decode cX6_untell 31 = .ok (.istore_n 3, 1) := by decide +kernel
theorem dX6_untell_32 : decode cX6_untell 32 = .ok (.aload_n 2, 1) := by decide +kernel
theorem dX6_untell_33 : decode cX6_untell 33 = .ok (.iconst 0, 1) := by decide +kernel
theorem dX6_untell_34 : decode cX6_untell 34 = .ok (.putfield 181, 3) := by decide +kernel
theorem dX6_untell_37 : decode cX6_untell 37 = .ok (.iload_n 3, 1) := by decide +kernel
theorem dX6_untell_38 : decode cX6_untell 38 = .ok (.ireturn, 1) := by decide +kernel
theorem dX6_law_0 : decode cX6_law 0 = .ok (.iload_n 1, 1) := by decide +kernel
theorem dX6_law_1 : decode cX6_law 1 = .ok (.invokestatic 154, 3) := by decide +kernel
theorem dX6_law_4 : decode cX6_law 4 = .ok (.ifCond .ne 9, 3) := by decide +kernel
theorem dX6_law_7 : decode cX6_law 7 = .ok (.aload_n 0, 1) := by decide +kernel
theorem dX6_law_8 : decode cX6_law 8 = .ok (.iconst 1, 1) := by decide +kernel
theorem dX6_law_9 : decode cX6_law 9 = .ok (.invokevirtual 72, 3) := by decide +kernel
theorem dX6_law_12 : decode cX6_law 12 = .ok (.ireturn, 1) := by decide +kernel
theorem dX6_law_13 : decode cX6_law 13 = .ok (.aload_n 0, 1) := by decide +kernel
theorem dX6_law_14 : decode cX6_law 14 = .ok (.iload_n 1, 1) := by decide +kernel
theorem dX6_law_15 : decode cX6_law 15 = .ok (.invokevirtual 157, 3) := by decide +kernel
theorem dX6_law_18 : decode cX6_law 18 = .ok (.iload_n 2, 1) := by decide +kernel
theorem dX6_law_19 : decode cX6_law 19 = .ok (.iload_n 3, 1) := by decide +kernel
theorem dX6_law_20 : decode cX6_law 20 = .ok (.iload 4, 2) := by decide +kernel
theorem dX6_law_22 : decode cX6_law 22 = .ok (.invokevirtual 184, 3) := by decide +kernel
theorem dX6_law_25 : decode cX6_law 25 = .ok (.ireturn, 1) := by decide +kernel
theorem dX6_days_0 : decode cX6_days 0 = .ok (.iload_n 1, 1) := by decide +kernel
theorem dX6_days_1 : decode cX6_days 1 = .ok (.iconst 1, 1) := by decide +kernel
theorem dX6_days_2 : decode cX6_days 2 = .ok (.if_icmp .lt 9, 3) := by decide +kernel
theorem dX6_days_5 : decode cX6_days 5 = .ok (.iload_n 1, 1) := by decide +kernel
theorem dX6_days_6 : decode cX6_days 6 = .ok (.bipush 60, 2) := by decide +kernel
theorem dX6_days_8 : decode cX6_days 8 = .ok (.if_icmp .le 9, 3) := by decide +kernel
theorem dX6_days_11 : decode cX6_days 11 = .ok (.aload_n 0, 1) := by decide +kernel
theorem dX6_days_12 : decode cX6_days 12 = .ok (.iconst 1, 1) := by decide +kernel
theorem dX6_days_13 : decode cX6_days 13 = .ok (.invokevirtual 72, 3) := by decide +kernel
theorem dX6_days_16 : decode cX6_days 16 = .ok (.ireturn, 1) := by decide +kernel
theorem dX6_days_17 : decode cX6_days 17 = .ok (.aload_n 0, 1) := by decide +kernel
theorem dX6_days_18 : decode cX6_days 18 = .ok (.getfield 10, 3) := by decide +kernel
theorem dX6_days_21 : decode cX6_days 21 = .ok (.getfield 93, 3) := by decide +kernel
theorem dX6_days_24 : decode cX6_days 24 = .ok (.getfield 187, 3) := by decide +kernel
theorem dX6_days_27 : decode cX6_days 27 = .ok (.iload_n 1, 1) := by decide +kernel
theorem dX6_days_28 : decode cX6_days 28 = .ok (.iadd, 1) := by decide +kernel
theorem dX6_days_29 : decode cX6_days 29 = .ok (.sipush 9999, 3) := by decide +kernel
theorem dX6_days_32 : decode cX6_days 32 = .ok (.if_icmp .le 9, 3) := by decide +kernel
theorem dX6_days_35 : decode cX6_days 35 = .ok (.aload_n 0, 1) := by decide +kernel
theorem dX6_days_36 : decode cX6_days 36 = .ok (.iconst 3, 1) := by decide +kernel
theorem dX6_days_37 : decode cX6_days 37 = .ok (.invokevirtual 72, 3) := by decide +kernel
theorem dX6_days_40 : decode cX6_days 40 = .ok (.ireturn, 1) := by decide +kernel
theorem dX6_days_41 : decode cX6_days 41 = .ok (.aload_n 0, 1) := by decide +kernel
theorem dX6_days_42 : decode cX6_days 42 = .ok (.aload_n 0, 1) := by decide +kernel
theorem dX6_days_43 : decode cX6_days 43 = .ok (.getfield 10, 3) := by decide +kernel
theorem dX6_days_46 : decode cX6_days 46 = .ok (.getfield 93, 3) := by decide +kernel
theorem dX6_days_49 : decode cX6_days 49 = .ok (.aload_n 0, 1) := by decide +kernel
theorem dX6_days_50 : decode cX6_days 50 = .ok (.getfield 10, 3) := by decide +kernel
theorem dX6_days_53 : decode cX6_days 53 = .ok (.getfield 76, 3) := by decide +kernel
theorem dX6_days_56 : decode cX6_days 56 = .ok (.iload_n 1, 1) := by decide +kernel
theorem dX6_days_57 : decode cX6_days 57 = .ok (.invokevirtual 190, 3) := by decide +kernel
theorem dX6_days_60 : decode cX6_days 60 = .ok (.aload_n 0, 1) := by decide +kernel
theorem dX6_days_61 : decode cX6_days 61 = .ok (.getfield 10, 3) := by decide +kernel
theorem dX6_days_64 : decode cX6_days 64 = .ok (.getfield 93, 3) := by decide +kernel
theorem dX6_days_67 : decode cX6_days 67 = .ok (.invokevirtual 194, 3) := by decide +kernel
theorem dX6_days_70 : decode cX6_days 70 = .ok (.ireturn, 1) := by decide +kernel
theorem dX6_loose_0 : decode cX6_loose 0 = .ok (.iload_n 1, 1) := by decide +kernel
theorem dX6_loose_1 : decode cX6_loose 1 = .ok (.iconst 1, 1) := by decide +kernel
theorem dX6_loose_2 : decode cX6_loose 2 = .ok (.if_icmp .lt 9, 3) := by decide +kernel
theorem dX6_loose_5 : decode cX6_loose 5 = .ok (.iload_n 1, 1) := by decide +kernel
theorem dX6_loose_6 : decode cX6_loose 6 = .ok (.bipush 30, 2) := by decide +kernel
theorem dX6_loose_8 : decode cX6_loose 8 = .ok (.if_icmp .le 9, 3) := by decide +kernel
theorem dX6_loose_11 : decode cX6_loose 11 = .ok (.aload_n 0, 1) := by decide +kernel
theorem dX6_loose_12 : decode cX6_loose 12 = .ok (.iconst 1, 1) := by decide +kernel
theorem dX6_loose_13 : decode cX6_loose 13 = .ok (.invokevirtual 72, 3) := by decide +kernel
theorem dX6_loose_16 : decode cX6_loose 16 = .ok (.ireturn, 1) := by decide +kernel
theorem dX6_loose_17 : decode cX6_loose 17 = .ok (.aload_n 0, 1) := by decide +kernel
theorem dX6_loose_18 : decode cX6_loose 18 = .ok (.getfield 10, 3) := by decide +kernel
theorem dX6_loose_21 : decode cX6_loose 21 = .ok (.getfield 93, 3) := by decide +kernel
theorem dX6_loose_24 : decode cX6_loose 24 = .ok (.getfield 187, 3) := by decide +kernel
theorem dX6_loose_27 : decode cX6_loose 27 = .ok (.iload_n 1, 1) := by decide +kernel
theorem dX6_loose_28 : decode cX6_loose 28 = .ok (.iadd, 1) := by decide +kernel
theorem dX6_loose_29 : decode cX6_loose 29 = .ok (.sipush 9999, 3) := by decide +kernel
theorem dX6_loose_32 : decode cX6_loose 32 = .ok (.if_icmp .le 9, 3) := by decide +kernel
theorem dX6_loose_35 : decode cX6_loose 35 = .ok (.aload_n 0, 1) := by decide +kernel
theorem dX6_loose_36 : decode cX6_loose 36 = .ok (.iconst 3, 1) := by decide +kernel
theorem dX6_loose_37 : decode cX6_loose 37 = .ok (.invokevirtual 72, 3) := by decide +kernel
theorem dX6_loose_40 : decode cX6_loose 40 = .ok (.ireturn, 1) := by decide +kernel
theorem dX6_loose_41 : decode cX6_loose 41 = .ok (.iconst 0, 1) := by decide +kernel
theorem dX6_loose_42 : decode cX6_loose 42 = .ok (.istore_n 2, 1) := by decide +kernel
theorem dX6_loose_43 : decode cX6_loose 43 = .ok (.iload_n 2, 1) := by decide +kernel
theorem dX6_loose_44 : decode cX6_loose 44 = .ok (.iload_n 1, 1) := by decide +kernel
theorem dX6_loose_45 : decode cX6_loose 45 = .ok (.if_icmp .ge 35, 3) := by decide +kernel
theorem dX6_loose_48 : decode cX6_loose 48 = .ok (.aload_n 0, 1) := by decide +kernel
theorem dX6_loose_49 : decode cX6_loose 49 = .ok (.getfield 10, 3) := by decide +kernel
theorem dX6_loose_52 : decode cX6_loose 52 = .ok (.invokevirtual 198, 3) := by decide +kernel
theorem dX6_loose_55 : decode cX6_loose 55 = .ok (.aload_n 0, 1) := by decide +kernel
theorem dX6_loose_56 : decode cX6_loose 56 = .ok (.aload_n 0, 1) := by decide +kernel
theorem dX6_loose_57 : decode cX6_loose 57 = .ok (.getfield 10, 3) := by decide +kernel
theorem dX6_loose_60 : decode cX6_loose 60 = .ok (.getfield 93, 3) := by decide +kernel
theorem dX6_loose_63 : decode cX6_loose 63 = .ok (.aload_n 0, 1) := by decide +kernel
theorem dX6_loose_64 : decode cX6_loose 64 = .ok (.getfield 10, 3) := by decide +kernel
theorem dX6_loose_67 : decode cX6_loose 67 = .ok (.getfield 76, 3) := by decide +kernel
theorem dX6_loose_70 : decode cX6_loose 70 = .ok (.invokevirtual 201, 3) := by decide +kernel
theorem dX6_loose_73 : decode cX6_loose 73 = .ok (.pop, 1) := by decide +kernel
theorem dX6_loose_74 : decode cX6_loose 74 = .ok (.iinc 2 1, 3) := by decide +kernel
theorem dX6_loose_77 : decode cX6_loose 77 = .ok (.goto (-34), 3) := by decide +kernel
theorem dX6_loose_80 : decode cX6_loose 80 = .ok (.aload_n 0, 1) := by decide +kernel
theorem dX6_loose_81 : decode cX6_loose 81 = .ok (.getfield 10, 3) := by decide +kernel
theorem dX6_loose_84 : decode cX6_loose 84 = .ok (.getfield 93, 3) := by decide +kernel
theorem dX6_loose_87 : decode cX6_loose 87 = .ok (.invokevirtual 194, 3) := by decide +kernel
theorem dX6_loose_90 : decode cX6_loose 90 = .ok (.ireturn, 1) := by decide +kernel
theorem dX6_day_0 : decode cX6_day 0 = .ok (.iload_n 1, 1) := by decide +kernel
theorem dX6_day_1 : decode cX6_day 1 = .ok (.ifCond .lt 10, 3) := by decide +kernel
theorem dX6_day_4 : decode cX6_day 4 = .ok (.iload_n 1, 1) := by decide +kernel
theorem dX6_day_5 : decode cX6_day 5 = .ok (.sipush 9999, 3) := by decide +kernel
theorem dX6_day_8 : decode cX6_day 8 = .ok (.if_icmp .le 9, 3) := by decide +kernel
theorem dX6_day_11 : decode cX6_day 11 = .ok (.aload_n 0, 1) := by decide +kernel
theorem dX6_day_12 : decode cX6_day 12 = .ok (.iconst 1, 1) := by decide +kernel
theorem dX6_day_13 : decode cX6_day 13 = .ok (.invokevirtual 72, 3) := by decide +kernel
theorem dX6_day_16 : decode cX6_day 16 = .ok (.ireturn, 1) := by decide +kernel
theorem dX6_day_17 : decode cX6_day 17 = .ok (.aload_n 0, 1) := by decide +kernel
theorem dX6_day_18 : decode cX6_day 18 = .ok (.getfield 10, 3) := by decide +kernel
theorem dX6_day_21 : decode cX6_day 21 = .ok (.getfield 93, 3) := by decide +kernel
theorem dX6_day_24 : decode cX6_day 24 = .ok (.getfield 187, 3) := by decide +kernel
theorem dX6_day_27 : decode cX6_day 27 = .ok (.istore_n 2, 1) := by decide +kernel
theorem dX6_day_28 : decode cX6_day 28 = .ok (.aload_n 0, 1) := by decide +kernel
theorem dX6_day_29 : decode cX6_day 29 = .ok (.getfield 10, 3) := by decide +kernel
theorem dX6_day_32 : decode cX6_day 32 = .ok (.getfield 93, 3) := by decide +kernel
theorem dX6_day_35 : decode cX6_day 35 = .ok (.iload_n 1, 1) := by decide +kernel
theorem dX6_day_36 : decode cX6_day 36 = .ok (.putfield 187, 3) := by decide +kernel
theorem dX6_day_39 : decode cX6_day 39 = .ok (.iload_n 2, 1) := by decide +kernel
theorem dX6_day_40 : decode cX6_day 40 = .ok (.ireturn, 1) := by decide +kernel
theorem dX6_seed_0 : decode cX6_seed 0 = .ok (.aload_n 0, 1) := by decide +kernel
theorem dX6_seed_1 : decode cX6_seed 1 = .ok (.getfield 10, 3) := by decide +kernel
theorem dX6_seed_4 : decode cX6_seed 4 = .ok (.getfield 205, 3) := by decide +kernel
theorem dX6_seed_7 : decode cX6_seed 7 = .ok (.istore_n 2, 1) := by decide +kernel
theorem dX6_seed_8 : decode cX6_seed 8 = .ok (.aload_n 0, 1) := by decide +kernel
theorem dX6_seed_9 : decode cX6_seed 9 = .ok (.getfield 10, 3) := by decide +kernel
theorem dX6_seed_12 : decode cX6_seed 12 = .ok (.iload_n 1, 1) := by decide +kernel
theorem dX6_seed_13 : decode cX6_seed 13 = .ok (.putfield 205, 3) := by decide +kernel
theorem dX6_seed_16 : decode cX6_seed 16 = .ok (.iload_n 2, 1) := by decide +kernel
theorem dX6_seed_17 : decode cX6_seed 17 = .ok (.ireturn, 1) := by decide +kernel
theorem dX6_then_0 : decode cX6_then 0 = .ok (.aload_n 0, 1) := by decide +kernel
theorem dX6_then_1 : decode cX6_then 1 = .ok (.iload_n 1, 1) := by decide +kernel
theorem dX6_then_2 : decode cX6_then 2 = .ok (.invokevirtual 116, 3) := by decide +kernel
theorem dX6_then_5 : decode cX6_then 5 = .ok (.ifCond .eq 13, 3) := by decide +kernel
theorem dX6_then_8 : decode cX6_then 8 = .ok (.iload_n 2, 1) := by decide +kernel
theorem dX6_then_9 : decode cX6_then 9 = .ok (.ifCond .lt 9, 3) := by decide +kernel
theorem dX6_then_12 : decode cX6_then 12 = .ok (.iload_n 2, 1) := by decide +kernel
theorem dX6_then_13 : decode cX6_then 13 = .ok (.bipush 60, 2) := by decide +kernel
theorem dX6_then_15 : decode cX6_then 15 = .ok (.if_icmp .le 9, 3) := by decide +kernel
theorem dX6_then_18 : decode cX6_then 18 = .ok (.aload_n 0, 1) := by decide +kernel
theorem dX6_then_19 : decode cX6_then 19 = .ok (.iconst 1, 1) := by decide +kernel
theorem dX6_then_20 : decode cX6_then 20 = .ok (.invokevirtual 72, 3) := by decide +kernel
theorem dX6_then_23 : decode cX6_then 23 = .ok (.ireturn, 1) := by decide +kernel
theorem dX6_then_24 : decode cX6_then 24 = .ok (.aload_n 0, 1) := by decide +kernel
theorem dX6_then_25 : decode cX6_then 25 = .ok (.iload_n 2, 1) := by decide +kernel
theorem dX6_then_26 : decode cX6_then 26 = .ok (.invokevirtual 208, 3) := by decide +kernel
theorem dX6_then_29 : decode cX6_then 29 = .ok (.aload_n 0, 1) := by decide +kernel
theorem dX6_then_30 : decode cX6_then 30 = .ok (.getfield 26, 3) := by decide +kernel
theorem dX6_then_33 : decode cX6_then 33 = .ok (.getfield 128, 3) := by decide +kernel
theorem dX6_then_36 : decode cX6_then 36 = .ok (.iload_n 1, 1) := by decide +kernel
theorem dX6_then_37 : decode cX6_then 37 = .ok (.iaload, 1) := by decide +kernel
theorem dX6_then_38 : decode cX6_then 38 = .ok (.ireturn, 1) := by decide +kernel
theorem dX6_soonest_0 : decode cX6_soonest 0 = .ok (.aload_n 0, 1) := by decide +kernel
theorem dX6_soonest_1 : decode cX6_soonest 1 = .ok (.iload_n 1, 1) := by decide +kernel
theorem dX6_soonest_2 : decode cX6_soonest 2 = .ok (.invokevirtual 116, 3) := by decide +kernel
theorem dX6_soonest_5 : decode cX6_soonest 5 = .ok (.ifCond .ne 9, 3) := by decide +kernel
theorem dX6_soonest_8 : decode cX6_soonest 8 = .ok (.aload_n 0, 1) := by decide +kernel
theorem dX6_soonest_9 : decode cX6_soonest 9 = .ok (.iconst 1, 1) := by decide +kernel
theorem dX6_soonest_10 : decode cX6_soonest 10 = .ok (.invokevirtual 72, 3) := by decide +kernel
theorem dX6_soonest_13 : decode cX6_soonest 13 = .ok (.ireturn, 1) := by decide +kernel
theorem dX6_soonest_14 : decode cX6_soonest 14 = .ok (.aload_n 0, 1) := by decide +kernel
theorem dX6_soonest_15 : decode cX6_soonest 15 = .ok (.getfield 26, 3) := by decide +kernel
theorem dX6_soonest_18 : decode cX6_soonest 18 = .ok (.aload_n 0, 1) := by decide +kernel
theorem dX6_soonest_19 : decode cX6_soonest 19 = .ok (.getfield 10, 3) := by decide +kernel
theorem dX6_soonest_22 : decode cX6_soonest 22 = .ok (.getfield 93, 3) := by decide +kernel
theorem dX6_soonest_25 : decode cX6_soonest 25 = .ok (.invokevirtual 212, 3) := by decide +kernel
theorem dX6_soonest_28 : decode cX6_soonest 28 = .ok (.iconst 0, 1) := by decide +kernel
theorem dX6_soonest_29 : decode cX6_soonest 29 = .ok (.istore_n 2, 1) := by decide +kernel
theorem dX6_soonest_30 : decode cX6_soonest 30 = .ok (.iload_n 2, 1) := by decide +kernel
theorem dX6_soonest_31 : decode cX6_soonest 31 = .ok (.bipush 60, 2) := by decide +kernel
theorem dX6_soonest_33 : decode cX6_soonest 33 = .ok (.if_icmp .gt 38, 3) := by decide +kernel
theorem dX6_soonest_36 : decode cX6_soonest 36 = .ok (.aload_n 0, 1) := by decide +kernel
theorem dX6_soonest_37 : decode cX6_soonest 37 = .ok (.getfield 26, 3) := by decide +kernel
theorem dX6_soonest_40 : decode cX6_soonest 40 = .ok (.iload_n 1, 1) := by decide +kernel
theorem dX6_soonest_41 : decode cX6_soonest 41 = .ok (.invokevirtual 216, 3) := by decide +kernel
theorem dX6_soonest_44 : decode cX6_soonest 44 = .ok (.ifCond .eq 5, 3) := by decide +kernel
theorem dX6_soonest_47 : decode cX6_soonest 47 = .ok (.iload_n 2, 1) := by decide +kernel
theorem dX6_soonest_48 : decode cX6_soonest 48 = .ok (.ireturn, 1) := by decide +kernel
theorem dX6_soonest_49 : decode cX6_soonest 49 = .ok (.aload_n 0, 1) := by decide +kernel
theorem dX6_soonest_50 : decode cX6_soonest 50 = .ok (.aload_n 0, 1) := by decide +kernel
theorem dX6_soonest_51 : decode cX6_soonest 51 = .ok (.getfield 26, 3) := by decide +kernel
theorem dX6_soonest_54 : decode cX6_soonest 54 = .ok (.aload_n 0, 1) := by decide +kernel
theorem dX6_soonest_55 : decode cX6_soonest 55 = .ok (.getfield 10, 3) := by decide +kernel
theorem dX6_soonest_58 : decode cX6_soonest 58 = .ok (.getfield 76, 3) := by decide +kernel
theorem dX6_soonest_61 : decode cX6_soonest 61 = .ok (.invokevirtual 201, 3) := by decide +kernel
theorem dX6_soonest_64 : decode cX6_soonest 64 = .ok (.pop, 1) := by decide +kernel
theorem dX6_soonest_65 : decode cX6_soonest 65 = .ok (.iinc 2 1, 3) := by decide +kernel
theorem dX6_soonest_68 : decode cX6_soonest 68 = .ok (.goto (-38), 3) := by decide +kernel
theorem dX6_soonest_71 : decode cX6_soonest 71 = .ok (.aload_n 0, 1) := by decide +kernel
theorem dX6_soonest_72 : decode cX6_soonest 72 = .ok (.iconst 2, 1) := by decide +kernel
theorem dX6_soonest_73 : decode cX6_soonest 73 = .ok (.invokevirtual 72, 3) := by decide +kernel
theorem dX6_soonest_76 : decode cX6_soonest 76 = .ok (.ireturn, 1) := by decide +kernel
theorem dX6_gets_0 : decode cX6_gets 0 = .ok (.iload_n 1, 1) := by decide +kernel
theorem dX6_gets_1 : decode cX6_gets 1 = .ok (.invokestatic 90, 3) := by decide +kernel
theorem dX6_gets_4 : decode cX6_gets 4 = .ok (.ifCond .eq 13, 3) := by decide +kernel
theorem dX6_gets_7 : decode cX6_gets 7 = .ok (.iload_n 2, 1) := by decide +kernel
theorem dX6_gets_8 : decode cX6_gets 8 = .ok (.ifCond .lt 9, 3) := by decide +kernel
theorem dX6_gets_11 : decode cX6_gets 11 = .ok (.iload_n 2, 1) := by decide +kernel
theorem dX6_gets_12 : decode cX6_gets 12 = .ok (.bipush 60, 2) := by decide +kernel
theorem dX6_gets_14 : decode cX6_gets 14 = .ok (.if_icmp .le 9, 3) := by decide +kernel
theorem dX6_gets_17 : decode cX6_gets 17 = .ok (.aload_n 0, 1) := by decide +kernel
theorem dX6_gets_18 : decode cX6_gets 18 = .ok (.iconst 1, 1) := by decide +kernel
theorem dX6_gets_19 : decode cX6_gets 19 = .ok (.invokevirtual 72, 3) := by decide +kernel
theorem dX6_gets_22 : decode cX6_gets 22 = .ok (.ireturn, 1) := by decide +kernel
theorem dX6_gets_23 : decode cX6_gets 23 = .ok (.aload_n 0, 1) := by decide +kernel
theorem dX6_gets_24 : decode cX6_gets 24 = .ok (.iload_n 2, 1) := by decide +kernel
theorem dX6_gets_25 : decode cX6_gets 25 = .ok (.invokevirtual 208, 3) := by decide +kernel
theorem dX6_gets_28 : decode cX6_gets 28 = .ok (.aload_n 0, 1) := by decide +kernel
theorem dX6_gets_29 : decode cX6_gets 29 = .ok (.aload_n 0, 1) := by decide +kernel
theorem dX6_gets_30 : decode cX6_gets 30 = .ok (.getfield 26, 3) := by decide +kernel
theorem dX6_gets_33 : decode cX6_gets 33 = .ok (.iload_n 1, 1) := by decide +kernel
theorem dX6_gets_34 : decode cX6_gets 34 = .ok (.invokevirtual 219, 3) := by decide +kernel
theorem dX6_gets_37 : decode cX6_gets 37 = .ok (.ireturn, 1) := by decide +kernel
theorem dX6_carry_0 : decode cX6_carry 0 = .ok (.iload_n 1, 1) := by decide +kernel
theorem dX6_carry_1 : decode cX6_carry 1 = .ok (.invokestatic 90, 3) := by decide +kernel
theorem dX6_carry_4 : decode cX6_carry 4 = .ok (.ifCond .eq 24, 3) := by decide +kernel
theorem dX6_carry_7 : decode cX6_carry 7 = .ok (.iload_n 2, 1) := by decide +kernel
theorem dX6_carry_8 : decode cX6_carry 8 = .ok (.ifCond .lt 20, 3) := by decide +kernel
theorem dX6_carry_11 : decode cX6_carry 11 = .ok (.iload_n 2, 1) := by decide +kernel
theorem dX6_carry_12 : decode cX6_carry 12 = .ok (.sipush 999, 3) := by decide +kernel
theorem dX6_carry_15 : decode cX6_carry 15 = .ok (.if_icmp .gt 13, 3) := by decide +kernel
theorem dX6_carry_18 : decode cX6_carry 18 = .ok (.iload_n 3, 1) := by decide +kernel
theorem dX6_carry_19 : decode cX6_carry 19 = .ok (.ifCond .lt 9, 3) := by decide +kernel
theorem dX6_carry_22 : decode cX6_carry 22 = .ok (.iload_n 3, 1) := by decide +kernel
theorem dX6_carry_23 : decode cX6_carry 23 = .ok (.bipush 30, 2) := by decide +kernel
theorem dX6_carry_25 : decode cX6_carry 25 = .ok (.if_icmp .le 9, 3) := by decide +kernel
theorem dX6_carry_28 : decode cX6_carry 28 = .ok (.aload_n 0, 1) := by decide +kernel
theorem dX6_carry_29 : decode cX6_carry 29 = .ok (.iconst 1, 1) := by decide +kernel
theorem dX6_carry_30 : decode cX6_carry 30 = .ok (.invokevirtual 72, 3) := by decide +kernel
theorem dX6_carry_33 : decode cX6_carry 33 = .ok (.ireturn, 1) := by decide +kernel
theorem dX6_carry_34 : decode cX6_carry 34 = .ok (.aload_n 0, 1) := by decide +kernel
theorem dX6_carry_35 : decode cX6_carry 35 = .ok (.getfield 10, 3) := by decide +kernel
theorem dX6_carry_38 : decode cX6_carry 38 = .ok (.getfield 93, 3) := by decide +kernel
theorem dX6_carry_41 : decode cX6_carry 41 = .ok (.iload_n 1, 1) := by decide +kernel
theorem dX6_carry_42 : decode cX6_carry 42 = .ok (.invokevirtual 222, 3) := by decide +kernel
theorem dX6_carry_45 : decode cX6_carry 45 = .ok (.istore 4, 2) := by decide +kernel
theorem dX6_carry_47 : decode cX6_carry 47 = .ok (.aload_n 0, 1) := by decide +kernel
theorem dX6_carry_48 : decode cX6_carry 48 = .ok (.iload_n 1, 1) := by decide +kernel
theorem dX6_carry_49 : decode cX6_carry 49 = .ok (.iload 4, 2) := by decide +kernel
theorem dX6_carry_51 : decode cX6_carry 51 = .ok (.iload_n 3, 1) := by decide +kernel
theorem dX6_carry_52 : decode cX6_carry 52 = .ok (.invokevirtual 225, 3) := by decide +kernel
theorem dX6_carry_55 : decode cX6_carry 55 = .ok (.iload_n 2, 1) := by decide +kernel
theorem dX6_carry_56 : decode cX6_carry 56 = .ok (.if_icmp .ge 9, 3) := by decide +kernel
theorem dX6_carry_59 : decode cX6_carry 59 = .ok (.aload_n 0, 1) := by decide +kernel
theorem dX6_carry_60 : decode cX6_carry 60 = .ok (.iconst 2, 1) := by decide +kernel
theorem dX6_carry_61 : decode cX6_carry 61 = .ok (.invokevirtual 72, 3) := by decide +kernel
theorem dX6_carry_64 : decode cX6_carry 64 = .ok (.ireturn, 1) := by decide +kernel
theorem dX6_carry_65 : decode cX6_carry 65 = .ok (.iconst 0, 1) := by decide +kernel
theorem dX6_carry_66 : decode cX6_carry 66 = .ok (.istore 5, 2) := by decide +kernel
theorem dX6_carry_68 : decode cX6_carry 68 = .ok (.iload 5, 2) := by decide +kernel
theorem dX6_carry_70 : decode cX6_carry 70 = .ok (.iload 4, 2) := by decide +kernel
theorem dX6_carry_72 : decode cX6_carry 72 = .ok (.invokestatic 228, 3) := by decide +kernel
theorem dX6_carry_75 : decode cX6_carry 75 = .ok (.if_icmp .ge 72, 3) := by decide +kernel
theorem dX6_carry_78 : decode cX6_carry 78 = .ok (.iconst 0, 1) := by decide +kernel
theorem dX6_carry_79 : decode cX6_carry 79 = .ok (.istore 6, 2) := by decide +kernel
theorem dX6_carry_81 : decode cX6_carry 81 = .ok (.iload 6, 2) := by decide +kernel
theorem dX6_carry_83 : decode cX6_carry 83 = .ok (.iload 4, 2) := by decide +kernel
theorem dX6_carry_85 : decode cX6_carry 85 = .ok (.if_icmp .ge 56, 3) := by decide +kernel
theorem dX6_carry_88 : decode cX6_carry 88 = .ok (.iload 6, 2) := by decide +kernel
theorem dX6_carry_90 : decode cX6_carry 90 = .ok (.iload 4, 2) := by decide +kernel
theorem dX6_carry_92 : decode cX6_carry 92 = .ok (.iconst (-1), 1) := by decide +kernel
theorem dX6_carry_93 : decode cX6_carry 93 = .ok (.ixor, 1) := by decide +kernel
theorem dX6_carry_94 : decode cX6_carry 94 = .ok (.iand, 1) := by decide +kernel
theorem dX6_carry_95 : decode cX6_carry 95 = .ok (.ifCond .ne 17, 3) := by decide +kernel
theorem dX6_carry_98 : decode cX6_carry 98 = .ok (.iload 6, 2) := by decide +kernel
theorem dX6_carry_100 : decode cX6_carry 100 = .ok (.invokestatic 228, 3) := by decide +kernel
theorem dX6_carry_103 : decode cX6_carry 103 = .ok (.iload 5, 2) := by decide +kernel
theorem dX6_carry_105 : decode cX6_carry 105 = .ok (.if_icmp .ne 7, 3) := by decide +kernel
theorem dX6_carry_108 : decode cX6_carry 108 = .ok (.iconst 1, 1) := by decide +kernel
theorem dX6_carry_109 : decode cX6_carry 109 = .ok (.goto 4, 3) := by decide +kernel
theorem dX6_carry_112 : decode cX6_carry 112 = .ok (.iconst 0, 1) := by decide +kernel
theorem dX6_carry_113 : decode cX6_carry 113 = .ok (.istore 7, 2) := by decide +kernel
theorem dX6_carry_115 : decode cX6_carry 115 = .ok (.iload 7, 2) := by decide +kernel
theorem dX6_carry_117 : decode cX6_carry 117 = .ok (.ifCond .eq 18, 3) := by decide +kernel
theorem dX6_carry_120 : decode cX6_carry 120 = .ok (.aload_n 0, 1) := by decide +kernel
theorem dX6_carry_121 : decode cX6_carry 121 = .ok (.iload_n 1, 1) := by decide +kernel
theorem dX6_carry_122 : decode cX6_carry 122 = .ok (.iload 6, 2) := by decide +kernel
theorem dX6_carry_124 : decode cX6_carry 124 = .ok (.iload_n 3, 1) := by decide +kernel
theorem dX6_carry_125 : decode cX6_carry 125 = .ok (.invokevirtual 225, 3) := by decide +kernel
theorem dX6_carry_128 : decode cX6_carry 128 = .ok (.iload_n 2, 1) := by decide +kernel
theorem dX6_carry_129 : decode cX6_carry 129 = .ok (.if_icmp .lt 6, 3) := by decide +kernel
theorem dX6_carry_132 : decode cX6_carry 132 = .ok (.iload 6, 2) := by decide +kernel
theorem dX6_carry_134 : decode cX6_carry 134 = .ok (.ireturn, 1) := by decide +kernel
theorem dX6_carry_135 : decode cX6_carry 135 = .ok (.iinc 6 1, 3) := by decide +kernel
theorem dX6_carry_138 : decode cX6_carry 138 = .ok (.goto (-57), 3) := by decide +kernel
theorem dX6_carry_141 : decode cX6_carry 141 = .ok (.iinc 5 1, 3) := by decide +kernel
theorem dX6_carry_144 : decode cX6_carry 144 = .ok (.goto (-76), 3) := by decide +kernel
theorem dX6_carry_147 : decode cX6_carry 147 = .ok (.iload 4, 2) := by decide +kernel
theorem dX6_carry_149 : decode cX6_carry 149 = .ok (.ireturn, 1) := by decide +kernel
theorem dX6_way_0 : decode cX6_way 0 = .ok (.iload_n 1, 1) := by decide +kernel
theorem dX6_way_1 : decode cX6_way 1 = .ok (.ifCond .lt 18, 3) := by decide +kernel
theorem dX6_way_4 : decode cX6_way 4 = .ok (.iload_n 1, 1) := by decide +kernel
theorem dX6_way_5 : decode cX6_way 5 = .ok (.bipush 30, 2) := by decide +kernel
theorem dX6_way_7 : decode cX6_way 7 = .ok (.if_icmp .gt 12, 3) := by decide +kernel
theorem dX6_way_10 : decode cX6_way 10 = .ok (.iload_n 2, 1) := by decide +kernel
theorem dX6_way_11 : decode cX6_way 11 = .ok (.ifCond .lt 8, 3) := by decide +kernel
theorem dX6_way_14 : decode cX6_way 14 = .ok (.iload_n 2, 1) := by decide +kernel
theorem dX6_way_15 : decode cX6_way 15 = .ok (.iconst 1, 1) := by decide +kernel
theorem dX6_way_16 : decode cX6_way 16 = .ok (.if_icmp .le 9, 3) := by decide +kernel
theorem dX6_way_19 : decode cX6_way 19 = .ok (.aload_n 0, 1) := by decide +kernel
theorem dX6_way_20 : decode cX6_way 20 = .ok (.iconst 1, 1) := by decide +kernel
theorem dX6_way_21 : decode cX6_way 21 = .ok (.invokevirtual 72, 3) := by decide +kernel
theorem dX6_way_24 : decode cX6_way 24 = .ok (.ireturn, 1) := by decide +kernel
theorem dX6_way_25 : decode cX6_way 25 = .ok (.iconst (-1), 1) := by decide +kernel
theorem dX6_way_26 : decode cX6_way 26 = .ok (.istore_n 3, 1) := by decide +kernel
theorem dX6_way_27 : decode cX6_way 27 = .ok (.iconst (-1), 1) := by decide +kernel
theorem dX6_way_28 : decode cX6_way 28 = .ok (.istore 4, 2) := by decide +kernel
theorem dX6_way_30 : decode cX6_way 30 = .ok (.iconst 0, 1) := by decide +kernel
theorem dX6_way_31 : decode cX6_way 31 = .ok (.istore 5, 2) := by decide +kernel
theorem dX6_way_33 : decode cX6_way 33 = .ok (.iload 5, 2) := by decide +kernel
theorem dX6_way_35 : decode cX6_way 35 = .ok (.bipush 10, 2) := by decide +kernel
theorem dX6_way_37 : decode cX6_way 37 = .ok (.if_icmp .ge 94, 3) := by decide +kernel
theorem dX6_way_40 : decode cX6_way 40 = .ok (.iload 5, 2) := by decide +kernel
theorem dX6_way_42 : decode cX6_way 42 = .ok (.iconst 1, 1) := by decide +kernel
theorem dX6_way_43 : decode cX6_way 43 = .ok (.iadd, 1) := by decide +kernel
theorem dX6_way_44 : decode cX6_way 44 = .ok (.istore 6, 2) := by decide +kernel
theorem dX6_way_46 : decode cX6_way 46 = .ok (.iload 6, 2) := by decide +kernel
theorem dX6_way_48 : decode cX6_way 48 = .ok (.bipush 10, 2) := by decide +kernel
theorem dX6_way_50 : decode cX6_way 50 = .ok (.if_icmp .ge 75, 3) := by decide +kernel
theorem dX6_way_53 : decode cX6_way 53 = .ok (.iload 4, 2) := by decide +kernel
theorem dX6_way_55 : decode cX6_way 55 = .ok (.aload_n 0, 1) := by decide +kernel
theorem dX6_way_56 : decode cX6_way 56 = .ok (.getfield 10, 3) := by decide +kernel
theorem dX6_way_59 : decode cX6_way 59 = .ok (.getfield 93, 3) := by decide +kernel
theorem dX6_way_62 : decode cX6_way 62 = .ok (.getfield 109, 3) := by decide +kernel
theorem dX6_way_65 : decode cX6_way 65 = .ok (.if_icmp .eq 54, 3) := by decide +kernel
theorem dX6_way_68 : decode cX6_way 68 = .ok (.aload_n 0, 1) := by decide +kernel
theorem dX6_way_69 : decode cX6_way 69 = .ok (.getfield 10, 3) := by decide +kernel
theorem dX6_way_72 : decode cX6_way 72 = .ok (.getfield 76, 3) := by decide +kernel
theorem dX6_way_75 : decode cX6_way 75 = .ok (.iload 5, 2) := by decide +kernel
theorem dX6_way_77 : decode cX6_way 77 = .ok (.iload 6, 2) := by decide +kernel
theorem dX6_way_79 : decode cX6_way 79 = .ok (.invokevirtual 79, 3) := by decide +kernel
theorem dX6_way_82 : decode cX6_way 82 = .ok (.ifCond .eq 6, 3) := by decide +kernel
theorem dX6_way_85 : decode cX6_way 85 = .ok (.goto 34, 3) := by decide +kernel
theorem dX6_way_88 : decode cX6_way 88 = .ok (.aload_n 0, 1) := by decide +kernel
theorem dX6_way_89 : decode cX6_way 89 = .ok (.iload 5, 2) := by decide +kernel
theorem dX6_way_91 : decode cX6_way 91 = .ok (.iload 6, 2) := by decide +kernel
theorem dX6_way_93 : decode cX6_way 93 = .ok (.iload_n 1, 1) := by decide +kernel
theorem dX6_way_94 : decode cX6_way 94 = .ok (.invokevirtual 233, 3) := by decide +kernel
theorem dX6_way_97 : decode cX6_way 97 = .ok (.istore 7, 2) := by decide +kernel
theorem dX6_way_99 : decode cX6_way 99 = .ok (.iload 7, 2) := by decide +kernel
theorem dX6_way_101 : decode cX6_way 101 = .ok (.iload 4, 2) := by decide +kernel
theorem dX6_way_103 : decode cX6_way 103 = .ok (.if_icmp .le 16, 3) := by decide +kernel
theorem dX6_way_106 : decode cX6_way 106 = .ok (.iload 7, 2) := by decide +kernel
theorem dX6_way_108 : decode cX6_way 108 = .ok (.istore 4, 2) := by decide +kernel
theorem dX6_way_110 : decode cX6_way 110 = .ok (.bipush 10, 2) := by decide +kernel
theorem dX6_way_112 : decode cX6_way 112 = .ok (.iload 5, 2) := by decide +kernel
theorem dX6_way_114 : decode cX6_way 114 = .ok (.imul, 1) := by decide +kernel
theorem dX6_way_115 : decode cX6_way 115 = .ok (.iload 6, 2) := by decide +kernel
theorem dX6_way_117 : decode cX6_way 117 = .ok (.iadd, 1) := by decide +kernel
theorem dX6_way_118 : decode cX6_way 118 = .ok (.istore_n 3, 1) := by decide +kernel
theorem dX6_way_119 : decode cX6_way 119 = .ok (.iinc 6 1, 3) := by decide +kernel
theorem dX6_way_122 : decode cX6_way 122 = .ok (.goto (-76), 3) := by decide +kernel
theorem dX6_way_125 : decode cX6_way 125 = .ok (.iinc 5 1, 3) := by decide +kernel
theorem dX6_way_128 : decode cX6_way 128 = .ok (.goto (-95), 3) := by decide +kernel
theorem dX6_way_131 : decode cX6_way 131 = .ok (.iload_n 3, 1) := by decide +kernel
theorem dX6_way_132 : decode cX6_way 132 = .ok (.ifCond .ge 9, 3) := by decide +kernel
theorem dX6_way_135 : decode cX6_way 135 = .ok (.aload_n 0, 1) := by decide +kernel
theorem dX6_way_136 : decode cX6_way 136 = .ok (.iconst 2, 1) := by decide +kernel
theorem dX6_way_137 : decode cX6_way 137 = .ok (.invokevirtual 72, 3) := by decide +kernel
theorem dX6_way_140 : decode cX6_way 140 = .ok (.ireturn, 1) := by decide +kernel
theorem dX6_way_141 : decode cX6_way 141 = .ok (.iload_n 2, 1) := by decide +kernel
theorem dX6_way_142 : decode cX6_way 142 = .ok (.ifCond .ne 7, 3) := by decide +kernel
theorem dX6_way_145 : decode cX6_way 145 = .ok (.iload_n 3, 1) := by decide +kernel
theorem dX6_way_146 : decode cX6_way 146 = .ok (.goto 5, 3) := by decide +kernel
theorem dX6_way_149 : decode cX6_way 149 = .ok (.iload 4, 2) := by decide +kernel
theorem dX6_way_151 : decode cX6_way 151 = .ok (.ireturn, 1) := by decide +kernel
theorem dX6_odds_0 : decode cX6_odds 0 = .ok (.iload_n 1, 1) := by decide +kernel
theorem dX6_odds_1 : decode cX6_odds 1 = .ok (.ifCond .lt 18, 3) := by decide +kernel
theorem dX6_odds_4 : decode cX6_odds 4 = .ok (.iload_n 1, 1) := by decide +kernel
theorem dX6_odds_5 : decode cX6_odds 5 = .ok (.bipush 60, 2) := by decide +kernel
theorem dX6_odds_7 : decode cX6_odds 7 = .ok (.if_icmp .gt 12, 3) := by decide +kernel
theorem dX6_odds_10 : decode cX6_odds 10 = .ok (.iload_n 2, 1) := by decide +kernel
theorem dX6_odds_11 : decode cX6_odds 11 = .ok (.ifCond .lt 8, 3) := by decide +kernel
theorem dX6_odds_14 : decode cX6_odds 14 = .ok (.iload_n 2, 1) := by decide +kernel
theorem dX6_odds_15 : decode cX6_odds 15 = .ok (.iconst 1, 1) := by decide +kernel
theorem dX6_odds_16 : decode cX6_odds 16 = .ok (.if_icmp .le 9, 3) := by decide +kernel
theorem dX6_odds_19 : decode cX6_odds 19 = .ok (.aload_n 0, 1) := by decide +kernel
theorem dX6_odds_20 : decode cX6_odds 20 = .ok (.iconst 1, 1) := by decide +kernel
theorem dX6_odds_21 : decode cX6_odds 21 = .ok (.invokevirtual 72, 3) := by decide +kernel
theorem dX6_odds_24 : decode cX6_odds 24 = .ok (.ireturn, 1) := by decide +kernel
theorem dX6_odds_25 : decode cX6_odds 25 = .ok (.aload_n 0, 1) := by decide +kernel
theorem dX6_odds_26 : decode cX6_odds 26 = .ok (.getfield 10, 3) := by decide +kernel
theorem dX6_odds_29 : decode cX6_odds 29 = .ok (.getfield 93, 3) := by decide +kernel
theorem dX6_odds_32 : decode cX6_odds 32 = .ok (.getfield 109, 3) := by decide +kernel
theorem dX6_odds_35 : decode cX6_odds 35 = .ok (.istore_n 3, 1) := by decide +kernel
theorem dX6_odds_36 : decode cX6_odds 36 = .ok (.iload_n 3, 1) := by decide +kernel
theorem dX6_odds_37 : decode cX6_odds 37 = .ok (.ifCond .ne 9, 3) := by decide +kernel
theorem dX6_odds_40 : decode cX6_odds 40 = .ok (.aload_n 0, 1) := by decide +kernel
theorem dX6_odds_41 : decode cX6_odds 41 = .ok (.iconst 3, 1) := by decide +kernel
theorem dX6_odds_42 : decode cX6_odds 42 = .ok (.invokevirtual 72, 3) := by decide +kernel
theorem dX6_odds_45 : decode cX6_odds 45 = .ok (.ireturn, 1) := by decide +kernel
theorem dX6_odds_46 : decode cX6_odds 46 = .ok (.aload_n 0, 1) := by decide +kernel
theorem dX6_odds_47 : decode cX6_odds 47 = .ok (.iload_n 1, 1) := by decide +kernel
theorem dX6_odds_48 : decode cX6_odds 48 = .ok (.invokevirtual 208, 3) := by decide +kernel
theorem dX6_odds_51 : decode cX6_odds 51 = .ok (.aload_n 0, 1) := by decide +kernel
theorem dX6_odds_52 : decode cX6_odds 52 = .ok (.getfield 26, 3) := by decide +kernel
theorem dX6_odds_55 : decode cX6_odds 55 = .ok (.invokevirtual 194, 3) := by decide +kernel
theorem dX6_odds_58 : decode cX6_odds 58 = .ok (.invokestatic 228, 3) := by decide +kernel
theorem dX6_odds_61 : decode cX6_odds 61 = .ok (.istore 4, 2) := by decide +kernel
theorem dX6_odds_63 : decode cX6_odds 63 = .ok (.iload 4, 2) := by decide +kernel
theorem dX6_odds_65 : decode cX6_odds 65 = .ok (.iload_n 3, 1) := by decide +kernel
theorem dX6_odds_66 : decode cX6_odds 66 = .ok (.invokestatic 236, 3) := by decide +kernel
theorem dX6_odds_69 : decode cX6_odds 69 = .ok (.istore 5, 2) := by decide +kernel
theorem dX6_odds_71 : decode cX6_odds 71 = .ok (.iload_n 2, 1) := by decide +kernel
theorem dX6_odds_72 : decode cX6_odds 72 = .ok (.ifCond .ne 8, 3) := by decide +kernel
theorem dX6_odds_75 : decode cX6_odds 75 = .ok (.iload 4, 2) := by decide +kernel
theorem dX6_odds_77 : decode cX6_odds 77 = .ok (.goto 4, 3) := by decide +kernel
theorem dX6_odds_80 : decode cX6_odds 80 = .ok (.iload_n 3, 1) := by decide +kernel
theorem dX6_odds_81 : decode cX6_odds 81 = .ok (.iload 5, 2) := by decide +kernel
theorem dX6_odds_83 : decode cX6_odds 83 = .ok (.idiv, 1) := by decide +kernel
theorem dX6_odds_84 : decode cX6_odds 84 = .ok (.ireturn, 1) := by decide +kernel
theorem dX6_whose_0 : decode cX6_whose 0 = .ok (.iload_n 1, 1) := by decide +kernel
theorem dX6_whose_1 : decode cX6_whose 1 = .ok (.invokestatic 239, 3) := by decide +kernel
theorem dX6_whose_4 : decode cX6_whose 4 = .ok (.ifCond .eq 20, 3) := by decide +kernel
theorem dX6_whose_7 : decode cX6_whose 7 = .ok (.aload_n 0, 1) := by decide +kernel
theorem dX6_whose_8 : decode cX6_whose 8 = .ok (.iload_n 2, 1) := by decide +kernel
theorem dX6_whose_9 : decode cX6_whose 9 = .ok (.invokevirtual 116, 3) := by decide +kernel
theorem dX6_whose_12 : decode cX6_whose 12 = .ok (.ifCond .eq 12, 3) := by decide +kernel
theorem dX6_whose_15 : decode cX6_whose 15 = .ok (.iload_n 3, 1) := by decide +kernel
theorem dX6_whose_16 : decode cX6_whose 16 = .ok (.ifCond .lt 8, 3) := by decide +kernel
theorem dX6_whose_19 : decode cX6_whose 19 = .ok (.iload_n 3, 1) := by decide +kernel
theorem dX6_whose_20 : decode cX6_whose 20 = .ok (.iconst 1, 1) := by decide +kernel
theorem dX6_whose_21 : decode cX6_whose 21 = .ok (.if_icmp .le 9, 3) := by decide +kernel
theorem dX6_whose_24 : decode cX6_whose 24 = .ok (.aload_n 0, 1) := by decide +kernel
theorem dX6_whose_25 : decode cX6_whose 25 = .ok (.iconst 1, 1) := by decide +kernel
theorem dX6_whose_26 : decode cX6_whose 26 = .ok (.invokevirtual 72, 3) := by decide +kernel
theorem dX6_whose_29 : decode cX6_whose 29 = .ok (.ireturn, 1) := by decide +kernel
theorem dX6_whose_30 : decode cX6_whose 30 = .ok (.aload_n 0, 1) := by decide +kernel
theorem dX6_whose_31 : decode cX6_whose 31 = .ok (.getfield 51, 3) := by decide +kernel
theorem dX6_whose_34 : decode cX6_whose 34 = .ok (.iload_n 1, 1) := by decide +kernel
theorem dX6_whose_35 : decode cX6_whose 35 = .ok (.invokevirtual 242, 3) := by decide +kernel
theorem dX6_whose_38 : decode cX6_whose 38 = .ok (.ifCond .eq 9, 3) := by decide +kernel
theorem dX6_whose_41 : decode cX6_whose 41 = .ok (.aload_n 0, 1) := by decide +kernel
theorem dX6_whose_42 : decode cX6_whose 42 = .ok (.iconst 2, 1) := by decide +kernel
theorem dX6_whose_43 : decode cX6_whose 43 = .ok (.invokevirtual 72, 3) := by decide +kernel
theorem dX6_whose_46 : decode cX6_whose 46 = .ok (.ireturn, 1) := by decide +kernel
theorem dX6_whose_47 : decode cX6_whose 47 = .ok (.iconst 0, 1) := by decide +kernel
theorem dX6_whose_48 : decode cX6_whose 48 = .ok (.istore 4, 2) := by decide +kernel
theorem dX6_whose_50 : decode cX6_whose 50 = .ok (.iconst 0, 1) := by decide +kernel
theorem dX6_whose_51 : decode cX6_whose 51 = .ok (.istore 5, 2) := by decide +kernel
theorem dX6_whose_53 : decode cX6_whose 53 = .ok (.iload 5, 2) := by decide +kernel
theorem dX6_whose_55 : decode cX6_whose 55 = .ok (.iconst 4, 1) := by decide +kernel
theorem dX6_whose_56 : decode cX6_whose 56 = .ok (.if_icmp .ge 29, 3) := by decide +kernel
theorem dX6_whose_59 : decode cX6_whose 59 = .ok (.aload_n 0, 1) := by decide +kernel
theorem dX6_whose_60 : decode cX6_whose 60 = .ok (.iload_n 1, 1) := by decide +kernel
theorem dX6_whose_61 : decode cX6_whose 61 = .ok (.iload_n 2, 1) := by decide +kernel
theorem dX6_whose_62 : decode cX6_whose 62 = .ok (.iload 5, 2) := by decide +kernel
theorem dX6_whose_64 : decode cX6_whose 64 = .ok (.invokevirtual 245, 3) := by decide +kernel
theorem dX6_whose_67 : decode cX6_whose 67 = .ok (.ifCond .eq 12, 3) := by decide +kernel
theorem dX6_whose_70 : decode cX6_whose 70 = .ok (.iload 4, 2) := by decide +kernel
theorem dX6_whose_72 : decode cX6_whose 72 = .ok (.iconst 1, 1) := by decide +kernel
theorem dX6_whose_73 : decode cX6_whose 73 = .ok (.iload 5, 2) := by decide +kernel
theorem dX6_whose_75 : decode cX6_whose 75 = .ok (.ishl, 1) := by decide +kernel
theorem dX6_whose_76 : decode cX6_whose 76 = .ok (.ior, 1) := by decide +kernel
theorem dX6_whose_77 : decode cX6_whose 77 = .ok (.istore 4, 2) := by decide +kernel
theorem dX6_whose_79 : decode cX6_whose 79 = .ok (.iinc 5 1, 3) := by decide +kernel
theorem dX6_whose_82 : decode cX6_whose 82 = .ok (.goto (-29), 3) := by decide +kernel
theorem dX6_whose_85 : decode cX6_whose 85 = .ok (.iload_n 3, 1) := by decide +kernel
theorem dX6_whose_86 : decode cX6_whose 86 = .ok (.ifCond .ne 8, 3) := by decide +kernel
theorem dX6_whose_89 : decode cX6_whose 89 = .ok (.iload 4, 2) := by decide +kernel
theorem dX6_whose_91 : decode cX6_whose 91 = .ok (.goto 8, 3) := by decide +kernel
theorem dX6_whose_94 : decode cX6_whose 94 = .ok (.iload 4, 2) := by decide +kernel
theorem dX6_whose_96 : decode cX6_whose 96 = .ok (.invokestatic 228, 3) := by decide +kernel
theorem dX6_whose_99 : decode cX6_whose 99 = .ok (.ireturn, 1) := by decide +kernel
theorem dX6_voice_0 : decode cX6_voice 0 = .ok (.aload_n 0, 1) := by decide +kernel
theorem dX6_voice_1 : decode cX6_voice 1 = .ok (.iload_n 1, 1) := by decide +kernel
theorem dX6_voice_2 : decode cX6_voice 2 = .ok (.invokevirtual 116, 3) := by decide +kernel
theorem dX6_voice_5 : decode cX6_voice 5 = .ok (.ifCond .eq 12, 3) := by decide +kernel
theorem dX6_voice_8 : decode cX6_voice 8 = .ok (.iload_n 2, 1) := by decide +kernel
theorem dX6_voice_9 : decode cX6_voice 9 = .ok (.ifCond .lt 8, 3) := by decide +kernel
theorem dX6_voice_12 : decode cX6_voice 12 = .ok (.iload_n 2, 1) := by decide +kernel
theorem dX6_voice_13 : decode cX6_voice 13 = .ok (.iconst 4, 1) := by decide +kernel
theorem dX6_voice_14 : decode cX6_voice 14 = .ok (.if_icmp .lt 9, 3) := by decide +kernel
theorem dX6_voice_17 : decode cX6_voice 17 = .ok (.aload_n 0, 1) := by decide +kernel
theorem dX6_voice_18 : decode cX6_voice 18 = .ok (.iconst 1, 1) := by decide +kernel
theorem dX6_voice_19 : decode cX6_voice 19 = .ok (.invokevirtual 72, 3) := by decide +kernel
theorem dX6_voice_22 : decode cX6_voice 22 = .ok (.ireturn, 1) := by decide +kernel
theorem dX6_voice_23 : decode cX6_voice 23 = .ok (.aload_n 0, 1) := by decide +kernel
theorem dX6_voice_24 : decode cX6_voice 24 = .ok (.iconst 0, 1) := by decide +kernel
theorem dX6_voice_25 : decode cX6_voice 25 = .ok (.putfield 61, 3) := by decide +kernel
theorem dX6_voice_28 : decode cX6_voice 28 = .ok (.aload_n 0, 1) := by decide +kernel
theorem dX6_voice_29 : decode cX6_voice 29 = .ok (.iconst 0, 1) := by decide +kernel
theorem dX6_voice_30 : decode cX6_voice 30 = .ok (.putfield 64, 3) := by decide +kernel
theorem dX6_voice_33 : decode cX6_voice 33 = .ok (.aload_n 0, 1) := by decide +kernel
theorem dX6_voice_34 : decode cX6_voice 34 = .ok (.iload_n 1, 1) := by decide +kernel
theorem dX6_voice_35 : decode cX6_voice 35 = .ok (.iload_n 2, 1) := by decide +kernel
theorem dX6_voice_36 : decode cX6_voice 36 = .ok (.aload_n 0, 1) := by decide +kernel
theorem dX6_voice_37 : decode cX6_voice 37 = .ok (.getfield 10, 3) := by decide +kernel
theorem dX6_voice_40 : decode cX6_voice 40 = .ok (.getfield 93, 3) := by decide +kernel
theorem dX6_voice_43 : decode cX6_voice 43 = .ok (.getfield 119, 3) := by decide +kernel
theorem dX6_voice_46 : decode cX6_voice 46 = .ok (.iload_n 1, 1) := by decide +kernel
theorem dX6_voice_47 : decode cX6_voice 47 = .ok (.iaload, 1) := by decide +kernel
theorem dX6_voice_48 : decode cX6_voice 48 = .ok (.iload_n 3, 1) := by decide +kernel
theorem dX6_voice_49 : decode cX6_voice 49 = .ok (.iconst 0, 1) := by decide +kernel
theorem dX6_voice_50 : decode cX6_voice 50 = .ok (.invokevirtual 249, 3) := by decide +kernel
theorem dX6_voice_53 : decode cX6_voice 53 = .ok (.istore 4, 2) := by decide +kernel
theorem dX6_voice_55 : decode cX6_voice 55 = .ok (.aload_n 0, 1) := by decide +kernel
theorem dX6_voice_56 : decode cX6_voice 56 = .ok (.getfield 64, 3) := by decide +kernel
theorem dX6_voice_59 : decode cX6_voice 59 = .ok (.ifCond .eq 12, 3) := by decide +kernel
theorem dX6_voice_62 : decode cX6_voice 62 = .ok (.aload_n 0, 1) := by decide +kernel
theorem dX6_voice_63 : decode cX6_voice 63 = .ok (.bipush 6, 2) := by decide +kernel
theorem dX6_voice_65 : decode cX6_voice 65 = .ok (.invokevirtual 72, 3) := by decide +kernel
theorem dX6_voice_68 : decode cX6_voice 68 = .ok (.goto 5, 3) := by decide +kernel
theorem dX6_voice_71 : decode cX6_voice 71 = .ok (.iload 4, 2) := by decide +kernel
theorem dX6_voice_73 : decode cX6_voice 73 = .ok (.ireturn, 1) := by decide +kernel
theorem dX6_body_0 : decode cX6_body 0 = .ok (.iload_n 1, 1) := by decide +kernel
theorem dX6_body_1 : decode cX6_body 1 = .ok (.ifCond .lt 11, 3) := by decide +kernel
theorem dX6_body_4 : decode cX6_body 4 = .ok (.iload_n 1, 1) := by decide +kernel
theorem dX6_body_5 : decode cX6_body 5 = .ok (.aload_n 0, 1) := by decide +kernel
theorem dX6_body_6 : decode cX6_body 6 = .ok (.getfield 61, 3) := by decide +kernel
theorem dX6_body_9 : decode cX6_body 9 = .ok (.if_icmp .lt 9, 3) := by decide +kernel
theorem dX6_body_12 : decode cX6_body 12 = .ok (.aload_n 0, 1) := by decide +kernel
theorem dX6_body_13 : decode cX6_body 13 = .ok (.iconst 2, 1) := by decide +kernel
theorem dX6_body_14 : decode cX6_body 14 = .ok (.invokevirtual 72, 3) := by decide +kernel
theorem dX6_body_17 : decode cX6_body 17 = .ok (.ireturn, 1) := by decide +kernel
theorem dX6_body_18 : decode cX6_body 18 = .ok (.aload_n 0, 1) := by decide +kernel
theorem dX6_body_19 : decode cX6_body 19 = .ok (.getfield 58, 3) := by decide +kernel
theorem dX6_body_22 : decode cX6_body 22 = .ok (.iload_n 1, 1) := by decide +kernel
theorem dX6_body_23 : decode cX6_body 23 = .ok (.iaload, 1) := by decide +kernel
theorem dX6_body_24 : decode cX6_body 24 = .ok (.ireturn, 1) := by decide +kernel
theorem dX6_sheet_0 : decode cX6_sheet 0 = .ok (.iload_n 2, 1) := by decide +kernel
theorem dX6_sheet_1 : decode cX6_sheet 1 = .ok (.ifCond .eq 21, 3) := by decide +kernel
theorem dX6_sheet_4 : decode cX6_sheet 4 = .ok (.iload_n 2, 1) := by decide +kernel
theorem dX6_sheet_5 : decode cX6_sheet 5 = .ok (.bipush 8, 2) := by decide +kernel
theorem dX6_sheet_7 : decode cX6_sheet 7 = .ok (.if_icmp .eq 15, 3) := by decide +kernel
theorem dX6_sheet_10 : decode cX6_sheet 10 = .ok (.iload_n 2, 1) := by decide +kernel
theorem dX6_sheet_11 : decode cX6_sheet 11 = .ok (.bipush 16, 2) := by decide +kernel
theorem dX6_sheet_13 : decode cX6_sheet 13 = .ok (.if_icmp .eq 9, 3) := by decide +kernel
theorem dX6_sheet_16 : decode cX6_sheet 16 = .ok (.iload_n 2, 1) := by decide +kernel
theorem dX6_sheet_17 : decode cX6_sheet 17 = .ok (.bipush 32, 2) := by decide +kernel
theorem dX6_sheet_19 : decode cX6_sheet 19 = .ok (.if_icmp .ne 7, 3) := by decide +kernel
theorem dX6_sheet_22 : decode cX6_sheet 22 = .ok (.iconst 1, 1) := by decide +kernel
theorem dX6_sheet_23 : decode cX6_sheet 23 = .ok (.goto 4, 3) := by decide +kernel
theorem dX6_sheet_26 : decode cX6_sheet 26 = .ok (.iconst 0, 1) := by decide +kernel
theorem dX6_sheet_27 : decode cX6_sheet 27 = .ok (.istore 4, 2) := by decide +kernel
theorem dX6_sheet_29 : decode cX6_sheet 29 = .ok (.iload_n 1, 1) := by decide +kernel
theorem dX6_sheet_30 : decode cX6_sheet 30 = .ok (.invokestatic 239, 3) := by decide +kernel
theorem dX6_sheet_33 : decode cX6_sheet 33 = .ok (.ifCond .eq 8, 3) := by decide +kernel
theorem dX6_sheet_36 : decode cX6_sheet 36 = .ok (.iload 4, 2) := by decide +kernel
theorem dX6_sheet_38 : decode cX6_sheet 38 = .ok (.ifCond .ne 9, 3) := by decide +kernel
theorem dX6_sheet_41 : decode cX6_sheet 41 = .ok (.aload_n 0, 1) := by decide +kernel
theorem dX6_sheet_42 : decode cX6_sheet 42 = .ok (.iconst 1, 1) := by decide +kernel
theorem dX6_sheet_43 : decode cX6_sheet 43 = .ok (.invokevirtual 72, 3) := by decide +kernel
theorem dX6_sheet_46 : decode cX6_sheet 46 = .ok (.ireturn, 1) := by decide +kernel
theorem dX6_sheet_47 : decode cX6_sheet 47 = .ok (.iload_n 2, 1) := by decide +kernel
theorem dX6_sheet_48 : decode cX6_sheet 48 = .ok (.ifCond .eq 13, 3) := by decide +kernel
theorem dX6_sheet_51 : decode cX6_sheet 51 = .ok (.iload_n 3, 1) := by decide +kernel
theorem dX6_sheet_52 : decode cX6_sheet 52 = .ok (.ifCond .ge 9, 3) := by decide +kernel
theorem dX6_sheet_55 : decode cX6_sheet 55 = .ok (.aload_n 0, 1) := by decide +kernel
theorem dX6_sheet_56 : decode cX6_sheet 56 = .ok (.iconst 3, 1) := by decide +kernel
theorem dX6_sheet_57 : decode cX6_sheet 57 = .ok (.invokevirtual 72, 3) := by decide +kernel
theorem dX6_sheet_60 : decode cX6_sheet 60 = .ok (.ireturn, 1) := by decide +kernel
theorem dX6_sheet_61 : decode cX6_sheet 61 = .ok (.iload_n 2, 1) := by decide +kernel
theorem dX6_sheet_62 : decode cX6_sheet 62 = .ok (.ifCond .eq 15, 3) := by decide +kernel
theorem dX6_sheet_65 : decode cX6_sheet 65 = .ok (.iload_n 3, 1) := by decide +kernel
theorem dX6_sheet_66 : decode cX6_sheet 66 = .ok (.bipush 24, 2) := by decide +kernel
theorem dX6_sheet_68 : decode cX6_sheet 68 = .ok (.if_icmp .le 9, 3) := by decide +kernel
theorem dX6_sheet_71 : decode cX6_sheet 71 = .ok (.aload_n 0, 1) := by decide +kernel
theorem dX6_sheet_72 : decode cX6_sheet 72 = .ok (.iconst 1, 1) := by decide +kernel
theorem dX6_sheet_73 : decode cX6_sheet 73 = .ok (.invokevirtual 72, 3) := by decide +kernel
theorem dX6_sheet_76 : decode cX6_sheet 76 = .ok (.ireturn, 1) := by decide +kernel
theorem dX6_sheet_77 : decode cX6_sheet 77 = .ok (.aload_n 0, 1) := by decide +kernel
theorem dX6_sheet_78 : decode cX6_sheet 78 = .ok (.getfield 51, 3) := by decide +kernel
theorem dX6_sheet_81 : decode cX6_sheet 81 = .ok (.iload_n 1, 1) := by decide +kernel
theorem dX6_sheet_82 : decode cX6_sheet 82 = .ok (.iload_n 2, 1) := by decide +kernel
theorem dX6_sheet_83 : decode cX6_sheet 83 = .ok (.iload_n 2, 1) := by decide +kernel
theorem dX6_sheet_84 : decode cX6_sheet 84 = .ok (.ifCond .ne 7, 3) := by decide +kernel
theorem dX6_sheet_87 : decode cX6_sheet 87 = .ok (.iconst 0, 1) := by decide +kernel
theorem dX6_sheet_88 : decode cX6_sheet 88 = .ok (.goto 4, 3) := by decide +kernel
theorem dX6_sheet_91 : decode cX6_sheet 91 = .ok (.iload_n 3, 1) := by decide +kernel
theorem dX6_sheet_92 : decode cX6_sheet 92 = .ok (.invokevirtual 253, 3) := by decide +kernel
theorem dX6_sheet_95 : decode cX6_sheet 95 = .ok (.iconst 1, 1) := by decide +kernel
theorem dX6_sheet_96 : decode cX6_sheet 96 = .ok (.ireturn, 1) := by decide +kernel
theorem dX6_put_0 : decode cX6_put 0 = .ok (.iload_n 1, 1) := by decide +kernel
theorem dX6_put_1 : decode cX6_put 1 = .ok (.invokestatic 239, 3) := by decide +kernel
theorem dX6_put_4 : decode cX6_put 4 = .ok (.ifCond .ne 9, 3) := by decide +kernel
theorem dX6_put_7 : decode cX6_put 7 = .ok (.aload_n 0, 1) := by decide +kernel
theorem dX6_put_8 : decode cX6_put 8 = .ok (.iconst 1, 1) := by decide +kernel
theorem dX6_put_9 : decode cX6_put 9 = .ok (.invokevirtual 72, 3) := by decide +kernel
theorem dX6_put_12 : decode cX6_put 12 = .ok (.ireturn, 1) := by decide +kernel
theorem dX6_put_13 : decode cX6_put 13 = .ok (.aload_n 0, 1) := by decide +kernel
theorem dX6_put_14 : decode cX6_put 14 = .ok (.getfield 51, 3) := by decide +kernel
theorem dX6_put_17 : decode cX6_put 17 = .ok (.iload_n 1, 1) := by decide +kernel
theorem dX6_put_18 : decode cX6_put 18 = .ok (.invokevirtual 242, 3) := by decide +kernel
theorem dX6_put_21 : decode cX6_put 21 = .ok (.ifCond .eq 9, 3) := by decide +kernel
theorem dX6_put_24 : decode cX6_put 24 = .ok (.aload_n 0, 1) := by decide +kernel
theorem dX6_put_25 : decode cX6_put 25 = .ok (.iconst 2, 1) := by decide +kernel
theorem dX6_put_26 : decode cX6_put 26 = .ok (.invokevirtual 72, 3) := by decide +kernel
theorem dX6_put_29 : decode cX6_put 29 = .ok (.ireturn, 1) := by decide +kernel
theorem dX6_put_30 : decode cX6_put 30 = .ok (.iload_n 2, 1) := by decide +kernel
theorem dX6_put_31 : decode cX6_put 31 = .ok (.ifCond .lt 16, 3) := by decide +kernel
theorem dX6_put_34 : decode cX6_put 34 = .ok (.iload_n 2, 1) := by decide +kernel
theorem dX6_put_35 : decode cX6_put 35 = .ok (.aload_n 0, 1) := by decide +kernel
theorem dX6_put_36 : decode cX6_put 36 = .ok (.getfield 51, 3) := by decide +kernel
theorem dX6_put_39 : decode cX6_put 39 = .ok (.getfield 257, 3) := by decide +kernel
theorem dX6_put_42 : decode cX6_put 42 = .ok (.iload_n 1, 1) := by decide +kernel
theorem dX6_put_43 : decode cX6_put 43 = .ok (.iaload, 1) := by decide +kernel
theorem dX6_put_44 : decode cX6_put 44 = .ok (.if_icmp .lt 9, 3) := by decide +kernel
theorem dX6_put_47 : decode cX6_put 47 = .ok (.aload_n 0, 1) := by decide +kernel
theorem dX6_put_48 : decode cX6_put 48 = .ok (.iconst 1, 1) := by decide +kernel
theorem dX6_put_49 : decode cX6_put 49 = .ok (.invokevirtual 72, 3) := by decide +kernel
theorem dX6_put_52 : decode cX6_put 52 = .ok (.ireturn, 1) := by decide +kernel
theorem dX6_put_53 : decode cX6_put 53 = .ok (.aload_n 0, 1) := by decide +kernel
theorem dX6_put_54 : decode cX6_put 54 = .ok (.getfield 51, 3) := by decide +kernel
theorem dX6_put_57 : decode cX6_put 57 = .ok (.iload_n 1, 1) := by decide +kernel
theorem dX6_put_58 : decode cX6_put 58 = .ok (.iload_n 2, 1) := by decide +kernel
theorem dX6_put_59 : decode cX6_put 59 = .ok (.iload_n 3, 1) := by decide +kernel
theorem dX6_put_60 : decode cX6_put 60 = .ok (.invokevirtual 259, 3) := by decide +kernel
theorem dX6_put_63 : decode cX6_put 63 = .ok (.iconst 1, 1) := by decide +kernel
theorem dX6_put_64 : decode cX6_put 64 = .ok (.ireturn, 1) := by decide +kernel
theorem dX6_move_0 : decode cX6_move 0 = .ok (.iload_n 1, 1) := by decide +kernel
theorem dX6_move_1 : decode cX6_move 1 = .ok (.invokestatic 239, 3) := by decide +kernel
theorem dX6_move_4 : decode cX6_move 4 = .ok (.ifCond .eq 10, 3) := by decide +kernel
theorem dX6_move_7 : decode cX6_move 7 = .ok (.iload_n 3, 1) := by decide +kernel
theorem dX6_move_8 : decode cX6_move 8 = .ok (.invokestatic 239, 3) := by decide +kernel
theorem dX6_move_11 : decode cX6_move 11 = .ok (.ifCond .ne 9, 3) := by decide +kernel
theorem dX6_move_14 : decode cX6_move 14 = .ok (.aload_n 0, 1) := by decide +kernel
theorem dX6_move_15 : decode cX6_move 15 = .ok (.iconst 1, 1) := by decide +kernel
theorem dX6_move_16 : decode cX6_move 16 = .ok (.invokevirtual 72, 3) := by decide +kernel
theorem dX6_move_19 : decode cX6_move 19 = .ok (.ireturn, 1) := by decide +kernel
theorem dX6_move_20 : decode cX6_move 20 = .ok (.aload_n 0, 1) := by decide +kernel
theorem dX6_move_21 : decode cX6_move 21 = .ok (.getfield 51, 3) := by decide +kernel
theorem dX6_move_24 : decode cX6_move 24 = .ok (.iload_n 1, 1) := by decide +kernel
theorem dX6_move_25 : decode cX6_move 25 = .ok (.invokevirtual 242, 3) := by decide +kernel
theorem dX6_move_28 : decode cX6_move 28 = .ok (.ifCond .ne 14, 3) := by decide +kernel
theorem dX6_move_31 : decode cX6_move 31 = .ok (.aload_n 0, 1) := by decide +kernel
theorem dX6_move_32 : decode cX6_move 32 = .ok (.getfield 51, 3) := by decide +kernel
theorem dX6_move_35 : decode cX6_move 35 = .ok (.iload_n 3, 1) := by decide +kernel
theorem dX6_move_36 : decode cX6_move 36 = .ok (.invokevirtual 242, 3) := by decide +kernel
theorem dX6_move_39 : decode cX6_move 39 = .ok (.ifCond .eq 9, 3) := by decide +kernel
theorem dX6_move_42 : decode cX6_move 42 = .ok (.aload_n 0, 1) := by decide +kernel
theorem dX6_move_43 : decode cX6_move 43 = .ok (.iconst 2, 1) := by decide +kernel
theorem dX6_move_44 : decode cX6_move 44 = .ok (.invokevirtual 72, 3) := by decide +kernel
theorem dX6_move_47 : decode cX6_move 47 = .ok (.ireturn, 1) := by decide +kernel
theorem dX6_move_48 : decode cX6_move 48 = .ok (.aload_n 0, 1) := by decide +kernel
theorem dX6_move_49 : decode cX6_move 49 = .ok (.getfield 51, 3) := by decide +kernel
theorem dX6_move_52 : decode cX6_move 52 = .ok (.getfield 262, 3) := by decide +kernel
theorem dX6_move_55 : decode cX6_move 55 = .ok (.iload_n 1, 1) := by decide +kernel
theorem dX6_move_56 : decode cX6_move 56 = .ok (.iaload, 1) := by decide +kernel
theorem dX6_move_57 : decode cX6_move 57 = .ok (.aload_n 0, 1) := by decide +kernel
theorem dX6_move_58 : decode cX6_move 58 = .ok (.getfield 51, 3) := by decide +kernel
theorem dX6_move_61 : decode cX6_move 61 = .ok (.getfield 262, 3) := by decide +kernel
theorem dX6_move_64 : decode cX6_move 64 = .ok (.iload_n 3, 1) := by decide +kernel
theorem dX6_move_65 : decode cX6_move 65 = .ok (.iaload, 1) := by decide +kernel
theorem dX6_move_66 : decode cX6_move 66 = .ok (.if_icmp .eq 9, 3) := by decide +kernel
theorem dX6_move_69 : decode cX6_move 69 = .ok (.aload_n 0, 1) := by decide +kernel
theorem dX6_move_70 : decode cX6_move 70 = .ok (.iconst 5, 1) := by decide +kernel
theorem dX6_move_71 : decode cX6_move 71 = .ok (.invokevirtual 72, 3) := by decide +kernel
theorem dX6_move_74 : decode cX6_move 74 = .ok (.ireturn, 1) := by decide +kernel
theorem dX6_move_75 : decode cX6_move 75 = .ok (.aload_n 0, 1) := by decide +kernel
theorem dX6_move_76 : decode cX6_move 76 = .ok (.getfield 51, 3) := by decide +kernel
theorem dX6_move_79 : decode cX6_move 79 = .ok (.iload_n 1, 1) := by decide +kernel
theorem dX6_move_80 : decode cX6_move 80 = .ok (.iload_n 2, 1) := by decide +kernel
theorem dX6_move_81 : decode cX6_move 81 = .ok (.iload 5, 2) := by decide +kernel
theorem dX6_move_83 : decode cX6_move 83 = .ok (.invokevirtual 265, 3) := by decide +kernel
theorem dX6_move_86 : decode cX6_move 86 = .ok (.ifCond .eq 18, 3) := by decide +kernel
theorem dX6_move_89 : decode cX6_move 89 = .ok (.aload_n 0, 1) := by decide +kernel
theorem dX6_move_90 : decode cX6_move 90 = .ok (.getfield 51, 3) := by decide +kernel
theorem dX6_move_93 : decode cX6_move 93 = .ok (.iload_n 3, 1) := by decide +kernel
theorem dX6_move_94 : decode cX6_move 94 = .ok (.iload 4, 2) := by decide +kernel
theorem dX6_move_96 : decode cX6_move 96 = .ok (.iload 5, 2) := by decide +kernel
theorem dX6_move_98 : decode cX6_move 98 = .ok (.invokevirtual 265, 3) := by decide +kernel
theorem dX6_move_101 : decode cX6_move 101 = .ok (.ifCond .ne 9, 3) := by decide +kernel
theorem dX6_move_104 : decode cX6_move 104 = .ok (.aload_n 0, 1) := by decide +kernel
theorem dX6_move_105 : decode cX6_move 105 = .ok (.iconst 1, 1) := by decide +kernel
theorem dX6_move_106 : decode cX6_move 106 = .ok (.invokevirtual 72, 3) := by decide +kernel
theorem dX6_move_109 : decode cX6_move 109 = .ok (.ireturn, 1) := by decide +kernel
theorem dX6_move_110 : decode cX6_move 110 = .ok (.aload_n 0, 1) := by decide +kernel
theorem dX6_move_111 : decode cX6_move 111 = .ok (.getfield 51, 3) := by decide +kernel
theorem dX6_move_114 : decode cX6_move 114 = .ok (.iload_n 1, 1) := by decide +kernel
theorem dX6_move_115 : decode cX6_move 115 = .ok (.iload_n 2, 1) := by decide +kernel
theorem dX6_move_116 : decode cX6_move 116 = .ok (.iload_n 3, 1) := by decide +kernel
theorem dX6_move_117 : decode cX6_move 117 = .ok (.iload 4, 2) := by decide +kernel
theorem dX6_move_119 : decode cX6_move 119 = .ok (.iload 5, 2) := by decide +kernel
theorem dX6_move_121 : decode cX6_move 121 = .ok (.invokevirtual 268, 3) := by decide +kernel
theorem dX6_move_124 : decode cX6_move 124 = .ok (.iload 5, 2) := by decide +kernel
theorem dX6_move_126 : decode cX6_move 126 = .ok (.ireturn, 1) := by decide +kernel
theorem dX6_lays_0 : decode cX6_lays 0 = .ok (.iload_n 1, 1) := by decide +kernel
theorem dX6_lays_1 : decode cX6_lays 1 = .ok (.invokestatic 239, 3) := by decide +kernel
theorem dX6_lays_4 : decode cX6_lays 4 = .ok (.ifCond .ne 9, 3) := by decide +kernel
theorem dX6_lays_7 : decode cX6_lays 7 = .ok (.aload_n 0, 1) := by decide +kernel
theorem dX6_lays_8 : decode cX6_lays 8 = .ok (.iconst 1, 1) := by decide +kernel
theorem dX6_lays_9 : decode cX6_lays 9 = .ok (.invokevirtual 72, 3) := by decide +kernel
theorem dX6_lays_12 : decode cX6_lays 12 = .ok (.ireturn, 1) := by decide +kernel
theorem dX6_lays_13 : decode cX6_lays 13 = .ok (.aload_n 0, 1) := by decide +kernel
theorem dX6_lays_14 : decode cX6_lays 14 = .ok (.getfield 51, 3) := by decide +kernel
theorem dX6_lays_17 : decode cX6_lays 17 = .ok (.iload_n 1, 1) := by decide +kernel
theorem dX6_lays_18 : decode cX6_lays 18 = .ok (.invokevirtual 242, 3) := by decide +kernel
theorem dX6_lays_21 : decode cX6_lays 21 = .ok (.ifCond .eq 9, 3) := by decide +kernel
theorem dX6_lays_24 : decode cX6_lays 24 = .ok (.aload_n 0, 1) := by decide +kernel
theorem dX6_lays_25 : decode cX6_lays 25 = .ok (.iconst 2, 1) := by decide +kernel
theorem dX6_lays_26 : decode cX6_lays 26 = .ok (.invokevirtual 72, 3) := by decide +kernel
theorem dX6_lays_29 : decode cX6_lays 29 = .ok (.ireturn, 1) := by decide +kernel
theorem dX6_lays_30 : decode cX6_lays 30 = .ok (.iconst 0, 1) := by decide +kernel
theorem dX6_lays_31 : decode cX6_lays 31 = .ok (.istore_n 2, 1) := by decide +kernel
theorem dX6_lays_32 : decode cX6_lays 32 = .ok (.iload_n 2, 1) := by decide +kernel
theorem dX6_lays_33 : decode cX6_lays 33 = .ok (.aload_n 0, 1) := by decide +kernel
theorem dX6_lays_34 : decode cX6_lays 34 = .ok (.getfield 51, 3) := by decide +kernel
theorem dX6_lays_37 : decode cX6_lays 37 = .ok (.getfield 257, 3) := by decide +kernel
theorem dX6_lays_40 : decode cX6_lays 40 = .ok (.iload_n 1, 1) := by decide +kernel
theorem dX6_lays_41 : decode cX6_lays 41 = .ok (.iaload, 1) := by decide +kernel
theorem dX6_lays_42 : decode cX6_lays 42 = .ok (.if_icmp .ge 53, 3) := by decide +kernel
theorem dX6_lays_45 : decode cX6_lays 45 = .ok (.aload_n 0, 1) := by decide +kernel
theorem dX6_lays_46 : decode cX6_lays 46 = .ok (.iload_n 2, 1) := by decide +kernel
theorem dX6_lays_47 : decode cX6_lays 47 = .ok (.invokevirtual 116, 3) := by decide +kernel
theorem dX6_lays_50 : decode cX6_lays 50 = .ok (.ifCond .eq 45, 3) := by decide +kernel
theorem dX6_lays_53 : decode cX6_lays 53 = .ok (.aload_n 0, 1) := by decide +kernel
theorem dX6_lays_54 : decode cX6_lays 54 = .ok (.getfield 51, 3) := by decide +kernel
theorem dX6_lays_57 : decode cX6_lays 57 = .ok (.iload_n 1, 1) := by decide +kernel
theorem dX6_lays_58 : decode cX6_lays 58 = .ok (.iload_n 2, 1) := by decide +kernel
theorem dX6_lays_59 : decode cX6_lays 59 = .ok (.invokevirtual 272, 3) := by decide +kernel
theorem dX6_lays_62 : decode cX6_lays 62 = .ok (.invokestatic 68, 3) := by decide +kernel
theorem dX6_lays_65 : decode cX6_lays 65 = .ok (.ifCond .eq 30, 3) := by decide +kernel
theorem dX6_lays_68 : decode cX6_lays 68 = .ok (.aload_n 0, 1) := by decide +kernel
theorem dX6_lays_69 : decode cX6_lays 69 = .ok (.getfield 10, 3) := by decide +kernel
theorem dX6_lays_72 : decode cX6_lays 72 = .ok (.getfield 93, 3) := by decide +kernel
theorem dX6_lays_75 : decode cX6_lays 75 = .ok (.getfield 128, 3) := by decide +kernel
theorem dX6_lays_78 : decode cX6_lays 78 = .ok (.iload_n 2, 1) := by decide +kernel
theorem dX6_lays_79 : decode cX6_lays 79 = .ok (.aload_n 0, 1) := by decide +kernel
theorem dX6_lays_80 : decode cX6_lays 80 = .ok (.getfield 51, 3) := by decide +kernel
theorem dX6_lays_83 : decode cX6_lays 83 = .ok (.iload_n 1, 1) := by decide +kernel
theorem dX6_lays_84 : decode cX6_lays 84 = .ok (.iload_n 2, 1) := by decide +kernel
theorem dX6_lays_85 : decode cX6_lays 85 = .ok (.invokevirtual 272, 3) := by decide +kernel
theorem dX6_lays_88 : decode cX6_lays 88 = .ok (.iastore, 1) := by decide +kernel
theorem dX6_lays_89 : decode cX6_lays 89 = .ok (.iinc 2 1, 3) := by decide +kernel
theorem dX6_lays_92 : decode cX6_lays 92 = .ok (.goto (-60), 3) := by decide +kernel
theorem dX6_lays_95 : decode cX6_lays 95 = .ok (.iload_n 2, 1) := by decide +kernel
theorem dX6_lays_96 : decode cX6_lays 96 = .ok (.ireturn, 1) := by decide +kernel
theorem dX6_judge_0 : decode cX6_judge 0 = .ok (.iload_n 1, 1) := by decide +kernel
theorem dX6_judge_1 : decode cX6_judge 1 = .ok (.invokestatic 239, 3) := by decide +kernel
theorem dX6_judge_4 : decode cX6_judge 4 = .ok (.ifCond .ne 9, 3) := by decide +kernel
theorem dX6_judge_7 : decode cX6_judge 7 = .ok (.aload_n 0, 1) := by decide +kernel
theorem dX6_judge_8 : decode cX6_judge 8 = .ok (.iconst 1, 1) := by decide +kernel
theorem dX6_judge_9 : decode cX6_judge 9 = .ok (.invokevirtual 72, 3) := by decide +kernel
theorem dX6_judge_12 : decode cX6_judge 12 = .ok (.ireturn, 1) := by decide +kernel
theorem dX6_judge_13 : decode cX6_judge 13 = .ok (.aload_n 0, 1) := by decide +kernel
theorem dX6_judge_14 : decode cX6_judge 14 = .ok (.getfield 51, 3) := by decide +kernel
theorem dX6_judge_17 : decode cX6_judge 17 = .ok (.iload_n 1, 1) := by decide +kernel
theorem dX6_judge_18 : decode cX6_judge 18 = .ok (.invokevirtual 242, 3) := by decide +kernel
theorem dX6_judge_21 : decode cX6_judge 21 = .ok (.ifCond .eq 9, 3) := by decide +kernel
theorem dX6_judge_24 : decode cX6_judge 24 = .ok (.aload_n 0, 1) := by decide +kernel
theorem dX6_judge_25 : decode cX6_judge 25 = .ok (.iconst 2, 1) := by decide +kernel
theorem dX6_judge_26 : decode cX6_judge 26 = .ok (.invokevirtual 72, 3) := by decide +kernel
theorem dX6_judge_29 : decode cX6_judge 29 = .ok (.ireturn, 1) := by decide +kernel
theorem dX6_judge_30 : decode cX6_judge 30 = .ok (.iconst 0, 1) := by decide +kernel
theorem dX6_judge_31 : decode cX6_judge 31 = .ok (.istore_n 2, 1) := by decide +kernel
theorem dX6_judge_32 : decode cX6_judge 32 = .ok (.iload_n 2, 1) := by decide +kernel
theorem dX6_judge_33 : decode cX6_judge 33 = .ok (.aload_n 0, 1) := by decide +kernel
theorem dX6_judge_34 : decode cX6_judge 34 = .ok (.getfield 51, 3) := by decide +kernel
theorem dX6_judge_37 : decode cX6_judge 37 = .ok (.getfield 257, 3) := by decide +kernel
theorem dX6_judge_40 : decode cX6_judge 40 = .ok (.iload_n 1, 1) := by decide +kernel
theorem dX6_judge_41 : decode cX6_judge 41 = .ok (.iaload, 1) := by decide +kernel
theorem dX6_judge_42 : decode cX6_judge 42 = .ok (.if_icmp .ge 47, 3) := by decide +kernel
theorem dX6_judge_45 : decode cX6_judge 45 = .ok (.aload_n 0, 1) := by decide +kernel
theorem dX6_judge_46 : decode cX6_judge 46 = .ok (.iload_n 2, 1) := by decide +kernel
theorem dX6_judge_47 : decode cX6_judge 47 = .ok (.invokevirtual 116, 3) := by decide +kernel
theorem dX6_judge_50 : decode cX6_judge 50 = .ok (.ifCond .eq 39, 3) := by decide +kernel
theorem dX6_judge_53 : decode cX6_judge 53 = .ok (.aload_n 0, 1) := by decide +kernel
theorem dX6_judge_54 : decode cX6_judge 54 = .ok (.getfield 51, 3) := by decide +kernel
theorem dX6_judge_57 : decode cX6_judge 57 = .ok (.iload_n 1, 1) := by decide +kernel
theorem dX6_judge_58 : decode cX6_judge 58 = .ok (.iload_n 2, 1) := by decide +kernel
theorem dX6_judge_59 : decode cX6_judge 59 = .ok (.invokevirtual 272, 3) := by decide +kernel
theorem dX6_judge_62 : decode cX6_judge 62 = .ok (.aload_n 0, 1) := by decide +kernel
theorem dX6_judge_63 : decode cX6_judge 63 = .ok (.getfield 10, 3) := by decide +kernel
theorem dX6_judge_66 : decode cX6_judge 66 = .ok (.getfield 93, 3) := by decide +kernel
theorem dX6_judge_69 : decode cX6_judge 69 = .ok (.aload_n 0, 1) := by decide +kernel
theorem dX6_judge_70 : decode cX6_judge 70 = .ok (.getfield 10, 3) := by decide +kernel
theorem dX6_judge_73 : decode cX6_judge 73 = .ok (.getfield 76, 3) := by decide +kernel
theorem dX6_judge_76 : decode cX6_judge 76 = .ok (.iload_n 2, 1) := by decide +kernel
theorem dX6_judge_77 : decode cX6_judge 77 = .ok (.invokestatic 142, 3) := by decide +kernel
theorem dX6_judge_80 : decode cX6_judge 80 = .ok (.if_icmp .ne 9, 3) := by decide +kernel
theorem dX6_judge_83 : decode cX6_judge 83 = .ok (.iinc 2 1, 3) := by decide +kernel
theorem dX6_judge_86 : decode cX6_judge 86 = .ok (.goto (-54), 3) := by decide +kernel
theorem dX6_judge_89 : decode cX6_judge 89 = .ok (.iload_n 2, 1) := by decide +kernel
theorem dX6_judge_90 : decode cX6_judge 90 = .ok (.ireturn, 1) := by decide +kernel
theorem dX6_image_0 : decode cX6_image 0 = .ok (.aload_n 0, 1) := by decide +kernel
theorem dX6_image_1 : decode cX6_image 1 = .ok (.getfield 16, 3) := by decide +kernel
theorem dX6_image_4 : decode cX6_image 4 = .ok (.aload_n 0, 1) := by decide +kernel
theorem dX6_image_5 : decode cX6_image 5 = .ok (.getfield 10, 3) := by decide +kernel
theorem dX6_image_8 : decode cX6_image 8 = .ok (.invokevirtual 275, 3) := by decide +kernel
theorem dX6_image_11 : decode cX6_image 11 = .ok (.aload_n 0, 1) := by decide +kernel
theorem dX6_image_12 : decode cX6_image 12 = .ok (.dup, 1) := by decide +kernel
theorem dX6_image_13 : decode cX6_image 13 = .ok (.getfield 19, 3) := by decide +kernel
theorem dX6_image_16 : decode cX6_image 16 = .ok (.iconst 1, 1) := by decide +kernel
theorem dX6_image_17 : decode cX6_image 17 = .ok (.iadd, 1) := by decide +kernel
theorem dX6_image_18 : decode cX6_image 18 = .ok (.putfield 19, 3) := by decide +kernel
theorem dX6_image_21 : decode cX6_image 21 = .ok (.aload_n 0, 1) := by decide +kernel
theorem dX6_image_22 : decode cX6_image 22 = .ok (.getfield 19, 3) := by decide +kernel
theorem dX6_image_25 : decode cX6_image 25 = .ok (.ireturn, 1) := by decide +kernel
theorem dX6_restore_0 : decode cX6_restore 0 = .ok (.aload_n 0, 1) := by decide +kernel
theorem dX6_restore_1 : decode cX6_restore 1 = .ok (.getfield 19, 3) := by decide +kernel
theorem dX6_restore_4 : decode cX6_restore 4 = .ok (.ifCond .ne 9, 3) := by decide +kernel
theorem dX6_restore_7 : decode cX6_restore 7 = .ok (.aload_n 0, 1) := by decide +kernel
theorem dX6_restore_8 : decode cX6_restore 8 = .ok (.iconst 2, 1) := by decide +kernel
theorem dX6_restore_9 : decode cX6_restore 9 = .ok (.invokevirtual 72, 3) := by decide +kernel
theorem dX6_restore_12 : decode cX6_restore 12 = .ok (.ireturn, 1) := by decide +kernel
theorem dX6_restore_13 : decode cX6_restore 13 = .ok (.aload_n 0, 1) := by decide +kernel
theorem dX6_restore_14 : decode cX6_restore 14 = .ok (.getfield 10, 3) := by decide +kernel
theorem dX6_restore_17 : decode cX6_restore 17 = .ok (.aload_n 0, 1) := by decide +kernel
theorem dX6_restore_18 : decode cX6_restore 18 = .ok (.getfield 16, 3) := by decide +kernel
theorem dX6_restore_21 : decode cX6_restore 21 = .ok (.invokevirtual 275, 3) := by decide +kernel
theorem dX6_restore_24 : decode cX6_restore 24 = .ok (.aload_n 0, 1) := by decide +kernel
theorem dX6_restore_25 : decode cX6_restore 25 = .ok (.getfield 10, 3) := by decide +kernel
theorem dX6_restore_28 : decode cX6_restore 28 = .ok (.getfield 93, 3) := by decide +kernel
theorem dX6_restore_31 : decode cX6_restore 31 = .ok (.getfield 187, 3) := by decide +kernel
theorem dX6_restore_34 : decode cX6_restore 34 = .ok (.ireturn, 1) := by decide +kernel
theorem dX6_tell_0 : decode cX6_tell 0 = .ok (.aload_n 0, 1) := by decide +kernel
theorem dX6_tell_1 : decode cX6_tell 1 = .ok (.getfield 10, 3) := by decide +kernel
theorem dX6_tell_4 : decode cX6_tell 4 = .ok (.getfield 278, 3) := by decide +kernel
theorem dX6_tell_7 : decode cX6_tell 7 = .ok (.bipush 24, 2) := by decide +kernel
theorem dX6_tell_9 : decode cX6_tell 9 = .ok (.if_icmp .lt 9, 3) := by decide +kernel
theorem dX6_tell_12 : decode cX6_tell 12 = .ok (.aload_n 0, 1) := by decide +kernel
theorem dX6_tell_13 : decode cX6_tell 13 = .ok (.iconst 4, 1) := by decide +kernel
theorem dX6_tell_14 : decode cX6_tell 14 = .ok (.invokevirtual 72, 3) := by decide +kernel
theorem dX6_tell_17 : decode cX6_tell 17 = .ok (.ireturn, 1) := by decide +kernel
theorem dX6_tell_18 : decode cX6_tell 18 = .ok (.aload_n 0, 1) := by decide +kernel
theorem dX6_tell_19 : decode cX6_tell 19 = .ok (.getfield 10, 3) := by decide +kernel
theorem dX6_tell_22 : decode cX6_tell 22 = .ok (.getfield 281, 3) := by decide +kernel
theorem dX6_tell_25 : decode cX6_tell 25 = .ok (.aload_n 0, 1) := by decide +kernel
theorem dX6_tell_26 : decode cX6_tell 26 = .ok (.getfield 10, 3) := by decide +kernel
theorem dX6_tell_29 : decode cX6_tell 29 = .ok (.getfield 278, 3) := by decide +kernel
theorem dX6_tell_32 : decode cX6_tell 32 = .ok (.iload_n 1, 1) := by decide +kernel
theorem dX6_tell_33 : decode cX6_tell 33 = .ok (.iastore, 1) := by decide +kernel
theorem dX6_tell_34 : decode cX6_tell 34 = .ok (.aload_n 0, 1) := by decide +kernel
theorem dX6_tell_35 : decode cX6_tell 35 = .ok (.getfield 10, 3) := by decide +kernel
theorem dX6_tell_38 : decode cX6_tell 38 = .ok (.dup, 1) := by decide +kernel
theorem dX6_tell_39 : decode cX6_tell 39 = .ok (.getfield 278, 3) := by decide +kernel
theorem dX6_tell_42 : decode cX6_tell 42 = .ok (.iconst 1, 1) := by decide +kernel
theorem dX6_tell_43 : decode cX6_tell 43 = .ok (.iadd, 1) := by decide +kernel
theorem dX6_tell_44 : decode cX6_tell 44 = .ok (.putfield 278, 3) := by decide +kernel
theorem dX6_tell_47 : decode cX6_tell 47 = .ok (.aload_n 0, 1) := by decide +kernel
theorem dX6_tell_48 : decode cX6_tell 48 = .ok (.getfield 10, 3) := by decide +kernel
theorem dX6_tell_51 : decode cX6_tell 51 = .ok (.getfield 278, 3) := by decide +kernel
theorem dX6_tell_54 : decode cX6_tell 54 = .ok (.ireturn, 1) := by decide +kernel
theorem dX6_check_0 : decode cX6_check 0 = .ok (.aload_n 0, 1) := by decide +kernel
theorem dX6_check_1 : decode cX6_check 1 = .ok (.getfield 10, 3) := by decide +kernel
theorem dX6_check_4 : decode cX6_check 4 = .ok (.getfield 278, 3) := by decide +kernel
theorem dX6_check_7 : decode cX6_check 7 = .ok (.istore_n 1, 1) := by decide +kernel
theorem dX6_check_8 : decode cX6_check 8 = .ok (.aload_n 0, 1) := by decide +kernel
theorem dX6_check_9 : decode cX6_check 9 = .ok (.getfield 10, 3) := by decide +kernel
theorem dX6_check_12 : decode cX6_check 12 = .ok (.iconst 0, 1) := by decide +kernel
theorem dX6_check_13 : decode cX6_check 13 = .ok (.putfield 278, 3) := by decide +kernel
theorem dX6_check_16 : decode cX6_check 16 = .ok (.iconst 0, 1) := by decide +kernel
theorem dX6_check_17 : decode cX6_check 17 = .ok (.istore_n 2, 1) := by decide +kernel
theorem dX6_check_18 : decode cX6_check 18 = .ok (.iload_n 2, 1) := by decide +kernel
theorem dX6_check_19 : decode cX6_check 19 = .ok (.iload_n 1, 1) := by decide +kernel
theorem dX6_check_20 : decode cX6_check 20 = .ok (.if_icmp .ge 45, 3) := by decide +kernel
theorem dX6_check_23 : decode cX6_check 23 = .ok (.aload_n 0, 1) := by decide +kernel
theorem dX6_check_24 : decode cX6_check 24 = .ok (.iload_n 2, 1) := by decide +kernel
theorem dX6_check_25 : decode cX6_check 25 = .ok (.invokevirtual 116, 3) := by decide +kernel
theorem dX6_check_28 : decode cX6_check 28 = .ok (.ifCond .eq 27, 3) := by decide +kernel
theorem dX6_check_31 : decode cX6_check 31 = .ok (.aload_n 0, 1) := by decide +kernel
theorem dX6_check_32 : decode cX6_check 32 = .ok (.getfield 10, 3) := by decide +kernel
theorem dX6_check_35 : decode cX6_check 35 = .ok (.getfield 93, 3) := by decide +kernel
theorem dX6_check_38 : decode cX6_check 38 = .ok (.getfield 128, 3) := by decide +kernel
theorem dX6_check_41 : decode cX6_check 41 = .ok (.iload_n 2, 1) := by decide +kernel
theorem dX6_check_42 : decode cX6_check 42 = .ok (.iaload, 1) := by decide +kernel
theorem dX6_check_43 : decode cX6_check 43 = .ok (.aload_n 0, 1) := by decide +kernel
theorem dX6_check_44 : decode cX6_check 44 = .ok (.getfield 10, 3) := by decide +kernel
theorem dX6_check_47 : decode cX6_check 47 = .ok (.getfield 281, 3) := by decide +kernel
theorem dX6_check_50 : decode cX6_check 50 = .ok (.iload_n 2, 1) := by decide +kernel
theorem dX6_check_51 : decode cX6_check 51 = .ok (.iaload, 1) := by decide +kernel
theorem dX6_check_52 : decode cX6_check 52 = .ok (.if_icmp .eq 7, 3) := by decide +kernel
theorem dX6_check_55 : decode cX6_check 55 = .ok (.iconst 1, 1) := by decide +kernel
theorem dX6_check_56 : decode cX6_check 56 = .ok (.iload_n 2, 1) := by decide +kernel
theorem dX6_check_57 : decode cX6_check 57 = .ok (.iadd, 1) := by decide +kernel
theorem dX6_check_58 : decode cX6_check 58 = .ok (.ireturn, 1) := by decide +kernel
theorem dX6_check_59 : decode cX6_check 59 = .ok (.iinc 2 1, 3) := by decide +kernel
theorem dX6_check_62 : decode cX6_check 62 = .ok (.goto (-44), 3) := by decide +kernel
theorem dX6_check_65 : decode cX6_check 65 = .ok (.iconst 0, 1) := by decide +kernel
theorem dX6_check_66 : decode cX6_check 66 = .ok (.ireturn, 1) := by decide +kernel
theorem dX6_count_0 : decode cX6_count 0 = .ok (.iload_n 1, 1) := by decide +kernel
theorem dX6_count_1 : decode cX6_count 1 = .ok (.tableswitch 105 0 6 #[43, 54, 65, 76, 84, 92, 97], 43) := by decide +kernel
theorem dX6_count_44 : decode cX6_count 44 = .ok (.aload_n 0, 1) := by decide +kernel
theorem dX6_count_45 : decode cX6_count 45 = .ok (.getfield 10, 3) := by decide +kernel
theorem dX6_count_48 : decode cX6_count 48 = .ok (.getfield 93, 3) := by decide +kernel
theorem dX6_count_51 : decode cX6_count 51 = .ok (.getfield 109, 3) := by decide +kernel
theorem dX6_count_54 : decode cX6_count 54 = .ok (.ireturn, 1) := by decide +kernel
theorem dX6_count_55 : decode cX6_count 55 = .ok (.aload_n 0, 1) := by decide +kernel
theorem dX6_count_56 : decode cX6_count 56 = .ok (.getfield 10, 3) := by decide +kernel
theorem dX6_count_59 : decode cX6_count 59 = .ok (.getfield 93, 3) := by decide +kernel
theorem dX6_count_62 : decode cX6_count 62 = .ok (.getfield 187, 3) := by decide +kernel
theorem dX6_count_65 : decode cX6_count 65 = .ok (.ireturn, 1) := by decide +kernel
theorem dX6_count_66 : decode cX6_count 66 = .ok (.aload_n 0, 1) := by decide +kernel
theorem dX6_count_67 : decode cX6_count 67 = .ok (.getfield 10, 3) := by decide +kernel
theorem dX6_count_70 : decode cX6_count 70 = .ok (.getfield 93, 3) := by decide +kernel
theorem dX6_count_73 : decode cX6_count 73 = .ok (.invokevirtual 194, 3) := by decide +kernel
theorem dX6_count_76 : decode cX6_count 76 = .ok (.ireturn, 1) := by decide +kernel
theorem dX6_count_77 : decode cX6_count 77 = .ok (.aload_n 0, 1) := by decide +kernel
theorem dX6_count_78 : decode cX6_count 78 = .ok (.getfield 10, 3) := by decide +kernel
theorem dX6_count_81 : decode cX6_count 81 = .ok (.getfield 148, 3) := by decide +kernel
theorem dX6_count_84 : decode cX6_count 84 = .ok (.ireturn, 1) := by decide +kernel
theorem dX6_count_85 : decode cX6_count 85 = .ok (.aload_n 0, 1) := by decide +kernel
theorem dX6_count_86 : decode cX6_count 86 = .ok (.getfield 10, 3) := by decide +kernel
theorem dX6_count_89 : decode cX6_count 89 = .ok (.getfield 278, 3) := by decide +kernel
theorem dX6_count_92 : decode cX6_count 92 = .ok (.ireturn, 1) := by decide +kernel
theorem dX6_count_93 : decode cX6_count 93 = .ok (.aload_n 0, 1) := by decide +kernel
theorem dX6_count_94 : decode cX6_count 94 = .ok (.getfield 61, 3) := by decide +kernel
theorem dX6_count_97 : decode cX6_count 97 = .ok (.ireturn, 1) := by decide +kernel
theorem dX6_count_98 : decode cX6_count 98 = .ok (.aload_n 0, 1) := by decide +kernel
theorem dX6_count_99 : decode cX6_count 99 = .ok (.getfield 10, 3) := by decide +kernel
theorem dX6_count_102 : decode cX6_count 102 = .ok (.getfield 205, 3) := by decide +kernel
theorem dX6_count_105 : decode cX6_count 105 = .ok (.ireturn, 1) := by decide +kernel
theorem dX6_count_106 : decode cX6_count 106 = .ok (.aload_n 0, 1) := by decide +kernel
theorem dX6_count_107 : decode cX6_count 107 = .ok (.iconst 1, 1) := by decide +kernel
theorem dX6_count_108 : decode cX6_count 108 = .ok (.invokevirtual 72, 3) := by decide +kernel
theorem dX6_count_111 : decode cX6_count 111 = .ok (.ireturn, 1) := by decide +kernel
theorem dX6_told_0 : decode cX6_told 0 = .ok (.iload_n 1, 1) := by decide +kernel
theorem dX6_told_1 : decode cX6_told 1 = .ok (.iconst 1, 1) := by decide +kernel
theorem dX6_told_2 : decode cX6_told 2 = .ok (.if_icmp .lt 9, 3) := by decide +kernel
theorem dX6_told_5 : decode cX6_told 5 = .ok (.iload_n 1, 1) := by decide +kernel
theorem dX6_told_6 : decode cX6_told 6 = .ok (.bipush 6, 2) := by decide +kernel
theorem dX6_told_8 : decode cX6_told 8 = .ok (.if_icmp .le 9, 3) := by decide +kernel
theorem dX6_told_11 : decode cX6_told 11 = .ok (.aload_n 0, 1) := by decide +kernel
theorem dX6_told_12 : decode cX6_told 12 = .ok (.iconst 1, 1) := by decide +kernel
theorem dX6_told_13 : decode cX6_told 13 = .ok (.invokevirtual 72, 3) := by decide +kernel
theorem dX6_told_16 : decode cX6_told 16 = .ok (.ireturn, 1) := by decide +kernel
theorem dX6_told_17 : decode cX6_told 17 = .ok (.aload_n 0, 1) := by decide +kernel
theorem dX6_told_18 : decode cX6_told 18 = .ok (.getfield 55, 3) := by decide +kernel
theorem dX6_told_21 : decode cX6_told 21 = .ok (.iload_n 1, 1) := by decide +kernel
theorem dX6_told_22 : decode cX6_told 22 = .ok (.iaload, 1) := by decide +kernel
theorem dX6_told_23 : decode cX6_told 23 = .ok (.ireturn, 1) := by decide +kernel
theorem dX6_error_0 : decode cX6_error 0 = .ok (.aload_n 0, 1) := by decide +kernel
theorem dX6_error_1 : decode cX6_error 1 = .ok (.getfield 55, 3) := by decide +kernel
theorem dX6_error_4 : decode cX6_error 4 = .ok (.iload_n 1, 1) := by decide +kernel
theorem dX6_error_5 : decode cX6_error 5 = .ok (.dup2, 1) := by decide +kernel
theorem dX6_error_6 : decode cX6_error 6 = .ok (.iaload, 1) := by decide +kernel
theorem dX6_error_7 : decode cX6_error 7 = .ok (.iconst 1, 1) := by decide +kernel
theorem dX6_error_8 : decode cX6_error 8 = .ok (.iadd, 1) := by decide +kernel
theorem dX6_error_9 : decode cX6_error 9 = .ok (.iastore, 1) := by decide +kernel
theorem dX6_error_10 : decode cX6_error 10 = .ok (.ldc_w 284, 3) := by decide +kernel
theorem dX6_error_13 : decode cX6_error 13 = .ok (.iload_n 1, 1) := by decide +kernel
theorem dX6_error_14 : decode cX6_error 14 = .ok (.isub, 1) := by decide +kernel
theorem dX6_error_15 : decode cX6_error 15 = .ok (.ireturn, 1) := by decide +kernel
theorem dX6_isPlace_0 : decode cX6_isPlace 0 = .ok (.iload_n 0, 1) := by decide +kernel
theorem dX6_isPlace_1 : decode cX6_isPlace 1 = .ok (.ifCond .lt 13, 3) := by decide +kernel
theorem dX6_isPlace_4 : decode cX6_isPlace 4 = .ok (.iload_n 0, 1) := by decide +kernel
theorem dX6_isPlace_5 : decode cX6_isPlace 5 = .ok (.bipush 10, 2) := by decide +kernel
theorem dX6_isPlace_7 : decode cX6_isPlace 7 = .ok (.if_icmp .ge 7, 3) := by decide +kernel
theorem dX6_isPlace_10 : decode cX6_isPlace 10 = .ok (.iconst 1, 1) := by decide +kernel
theorem dX6_isPlace_11 : decode cX6_isPlace 11 = .ok (.goto 4, 3) := by decide +kernel
theorem dX6_isPlace_14 : decode cX6_isPlace 14 = .ok (.iconst 0, 1) := by decide +kernel
theorem dX6_isPlace_15 : decode cX6_isPlace 15 = .ok (.ireturn, 1) := by decide +kernel
theorem dX6_isField_0 : decode cX6_isField 0 = .ok (.iload_n 0, 1) := by decide +kernel
theorem dX6_isField_1 : decode cX6_isField 1 = .ok (.ifCond .lt 12, 3) := by decide +kernel
theorem dX6_isField_4 : decode cX6_isField 4 = .ok (.iload_n 0, 1) := by decide +kernel
theorem dX6_isField_5 : decode cX6_isField 5 = .ok (.iconst 4, 1) := by decide +kernel
theorem dX6_isField_6 : decode cX6_isField 6 = .ok (.if_icmp .ge 7, 3) := by decide +kernel
theorem dX6_isField_9 : decode cX6_isField 9 = .ok (.iconst 1, 1) := by decide +kernel
theorem dX6_isField_10 : decode cX6_isField 10 = .ok (.goto 4, 3) := by decide +kernel
theorem dX6_isField_13 : decode cX6_isField 13 = .ok (.iconst 0, 1) := by decide +kernel
theorem dX6_isField_14 : decode cX6_isField 14 = .ok (.ireturn, 1) := by decide +kernel
theorem dX6_isBit_0 : decode cX6_isBit 0 = .ok (.iload_n 1, 1) := by decide +kernel
theorem dX6_isBit_1 : decode cX6_isBit 1 = .ok (.ifCond .lt 21, 3) := by decide +kernel
theorem dX6_isBit_4 : decode cX6_isBit 4 = .ok (.iload_n 1, 1) := by decide +kernel
theorem dX6_isBit_5 : decode cX6_isBit 5 = .ok (.aload_n 0, 1) := by decide +kernel
theorem dX6_isBit_6 : decode cX6_isBit 6 = .ok (.getfield 10, 3) := by decide +kernel
theorem dX6_isBit_9 : decode cX6_isBit 9 = .ok (.getfield 93, 3) := by decide +kernel
theorem dX6_isBit_12 : decode cX6_isBit 12 = .ok (.getfield 109, 3) := by decide +kernel
theorem dX6_isBit_15 : decode cX6_isBit 15 = .ok (.if_icmp .ge 7, 3) := by decide +kernel
theorem dX6_isBit_18 : decode cX6_isBit 18 = .ok (.iconst 1, 1) := by decide +kernel
theorem dX6_isBit_19 : decode cX6_isBit 19 = .ok (.goto 4, 3) := by decide +kernel
theorem dX6_isBit_22 : decode cX6_isBit 22 = .ok (.iconst 0, 1) := by decide +kernel
theorem dX6_isBit_23 : decode cX6_isBit 23 = .ok (.ireturn, 1) := by decide +kernel
theorem dX6_isKindAndM_0 : decode cX6_isKindAndM 0 = .ok (.iload_n 0, 1) := by decide +kernel
theorem dX6_isKindAndM_1 : decode cX6_isKindAndM 1 = .ok (.ifCond .lt 13, 3) := by decide +kernel
theorem dX6_isKindAndM_4 : decode cX6_isKindAndM 4 = .ok (.iload_n 0, 1) := by decide +kernel
theorem dX6_isKindAndM_5 : decode cX6_isKindAndM 5 = .ok (.bipush 70, 2) := by decide +kernel
theorem dX6_isKindAndM_7 : decode cX6_isKindAndM 7 = .ok (.if_icmp .ge 7, 3) := by decide +kernel
theorem dX6_isKindAndM_10 : decode cX6_isKindAndM 10 = .ok (.iconst 1, 1) := by decide +kernel
theorem dX6_isKindAndM_11 : decode cX6_isKindAndM 11 = .ok (.goto 4, 3) := by decide +kernel
theorem dX6_isKindAndM_14 : decode cX6_isKindAndM 14 = .ok (.iconst 0, 1) := by decide +kernel
theorem dX6_isKindAndM_15 : decode cX6_isKindAndM 15 = .ok (.ireturn, 1) := by decide +kernel
theorem dX6_isUse_0 : decode cX6_isUse 0 = .ok (.iload_n 0, 1) := by decide +kernel
theorem dX6_isUse_1 : decode cX6_isUse 1 = .ok (.ifCond .lt 12, 3) := by decide +kernel
theorem dX6_isUse_4 : decode cX6_isUse 4 = .ok (.iload_n 0, 1) := by decide +kernel
theorem dX6_isUse_5 : decode cX6_isUse 5 = .ok (.iconst 2, 1) := by decide +kernel
theorem dX6_isUse_6 : decode cX6_isUse 6 = .ok (.if_icmp .ge 7, 3) := by decide +kernel
theorem dX6_isUse_9 : decode cX6_isUse 9 = .ok (.iconst 1, 1) := by decide +kernel
theorem dX6_isUse_10 : decode cX6_isUse 10 = .ok (.goto 4, 3) := by decide +kernel
theorem dX6_isUse_13 : decode cX6_isUse 13 = .ok (.iconst 0, 1) := by decide +kernel
theorem dX6_isUse_14 : decode cX6_isUse 14 = .ok (.ireturn, 1) := by decide +kernel
theorem dX6_isSheet_0 : decode cX6_isSheet 0 = .ok (.iload_n 0, 1) := by decide +kernel
theorem dX6_isSheet_1 : decode cX6_isSheet 1 = .ok (.ifCond .lt 12, 3) := by decide +kernel
theorem dX6_isSheet_4 : decode cX6_isSheet 4 = .ok (.iload_n 0, 1) := by decide +kernel
theorem dX6_isSheet_5 : decode cX6_isSheet 5 = .ok (.iconst 4, 1) := by decide +kernel
theorem dX6_isSheet_6 : decode cX6_isSheet 6 = .ok (.if_icmp .ge 7, 3) := by decide +kernel
theorem dX6_isSheet_9 : decode cX6_isSheet 9 = .ok (.iconst 1, 1) := by decide +kernel
theorem dX6_isSheet_10 : decode cX6_isSheet 10 = .ok (.goto 4, 3) := by decide +kernel
theorem dX6_isSheet_13 : decode cX6_isSheet 13 = .ok (.iconst 0, 1) := by decide +kernel
theorem dX6_isSheet_14 : decode cX6_isSheet 14 = .ok (.ireturn, 1) := by decide +kernel
theorem dX6_isOrIsUnder_0 : decode cX6_isOrIsUnder 0 = .ok (.iload_n 0, 1) := by decide +kernel
theorem dX6_isOrIsUnder_1 : decode cX6_isOrIsUnder 1 = .ok (.istore_n 2, 1) := by decide +kernel
theorem dX6_isOrIsUnder_2 : decode cX6_isOrIsUnder 2 = .ok (.iconst 0, 1) := by decide +kernel
theorem dX6_isOrIsUnder_3 : decode cX6_isOrIsUnder 3 = .ok (.istore_n 3, 1) := by decide +kernel
theorem dX6_isOrIsUnder_4 : decode cX6_isOrIsUnder 4 = .ok (.iload_n 3, 1) := by decide +kernel
theorem dX6_isOrIsUnder_5 : decode cX6_isOrIsUnder 5 = .ok (.bipush 7, 2) := by decide +kernel
theorem dX6_isOrIsUnder_7 : decode cX6_isOrIsUnder 7 = .ok (.if_icmp .ge 26, 3) := by decide +kernel
theorem dX6_isOrIsUnder_10 : decode cX6_isOrIsUnder 10 = .ok (.iload_n 2, 1) := by decide +kernel
theorem dX6_isOrIsUnder_11 : decode cX6_isOrIsUnder 11 = .ok (.ifCond .lt 22, 3) := by decide +kernel
theorem dX6_isOrIsUnder_14 : decode cX6_isOrIsUnder 14 = .ok (.iload_n 2, 1) := by decide +kernel
theorem dX6_isOrIsUnder_15 : decode cX6_isOrIsUnder 15 = .ok (.iload_n 1, 1) := by decide +kernel
theorem dX6_isOrIsUnder_16 : decode cX6_isOrIsUnder 16 = .ok (.if_icmp .ne 5, 3) := by decide +kernel
theorem dX6_isOrIsUnder_19 : decode cX6_isOrIsUnder 19 = .ok (.iconst 1, 1) := by decide +kernel
theorem dX6_isOrIsUnder_20 : decode cX6_isOrIsUnder 20 = .ok (.ireturn, 1) := by decide +kernel
theorem dX6_isOrIsUnder_21 : decode cX6_isOrIsUnder 21 = .ok (.getstatic 285, 3) := by decide +kernel
theorem dX6_isOrIsUnder_24 : decode cX6_isOrIsUnder 24 = .ok (.iload_n 2, 1) := by decide +kernel
theorem dX6_isOrIsUnder_25 : decode cX6_isOrIsUnder 25 = .ok (.iaload, 1) := by decide +kernel
theorem dX6_isOrIsUnder_26 : decode cX6_isOrIsUnder 26 = .ok (.istore_n 2, 1) := by decide +kernel
theorem dX6_isOrIsUnder_27 : decode cX6_isOrIsUnder 27 = .ok (.iinc 3 1, 3) := by decide +kernel
theorem dX6_isOrIsUnder_30 : decode cX6_isOrIsUnder 30 = .ok (.goto (-26), 3) := by decide +kernel
theorem dX6_isOrIsUnder_33 : decode cX6_isOrIsUnder 33 = .ok (.iconst 0, 1) := by decide +kernel
theorem dX6_isOrIsUnder_34 : decode cX6_isOrIsUnder 34 = .ok (.ireturn, 1) := by decide +kernel
theorem dX6_greatestDivisor_0 : decode cX6_greatestDivisor 0 = .ok (.iload_n 0, 1) := by decide +kernel
theorem dX6_greatestDivisor_1 : decode cX6_greatestDivisor 1 = .ok (.iload_n 1, 1) := by decide +kernel
theorem dX6_greatestDivisor_2 : decode cX6_greatestDivisor 2 = .ok (.invokestatic 288, 3) := by decide +kernel
theorem dX6_greatestDivisor_5 : decode cX6_greatestDivisor 5 = .ok (.istore_n 2, 1) := by decide +kernel
theorem dX6_greatestDivisor_6 : decode cX6_greatestDivisor 6 = .ok (.iload_n 2, 1) := by decide +kernel
theorem dX6_greatestDivisor_7 : decode cX6_greatestDivisor 7 = .ok (.iconst 1, 1) := by decide +kernel
theorem dX6_greatestDivisor_8 : decode cX6_greatestDivisor 8 = .ok (.if_icmp .le 23, 3) := by decide +kernel
theorem dX6_greatestDivisor_11 : decode cX6_greatestDivisor 11 = .ok (.iload_n 0, 1) := by decide +kernel
theorem dX6_greatestDivisor_12 : decode cX6_greatestDivisor 12 = .ok (.iload_n 2, 1) := by decide +kernel
theorem dX6_greatestDivisor_13 : decode cX6_greatestDivisor 13 = .ok (.irem, 1) := by decide +kernel
theorem dX6_greatestDivisor_14 : decode cX6_greatestDivisor 14 = .ok (.ifCond .ne 11, 3) := by decide +kernel
theorem dX6_greatestDivisor_17 : decode cX6_greatestDivisor 17 = .ok (.iload_n 1, 1) := by decide +kernel
theorem dX6_greatestDivisor_18 : decode cX6_greatestDivisor 18 = .ok (.iload_n 2, 1) := by decide +kernel
theorem dX6_greatestDivisor_19 : decode cX6_greatestDivisor 19 = .ok (.irem, 1) := by decide +kernel
theorem dX6_greatestDivisor_20 : decode cX6_greatestDivisor 20 = .ok (.ifCond .ne 5, 3) := by decide +kernel
theorem dX6_greatestDivisor_23 : decode cX6_greatestDivisor 23 = .ok (.iload_n 2, 1) := by decide +kernel
theorem dX6_greatestDivisor_24 : decode cX6_greatestDivisor 24 = .ok (.ireturn, 1) := by decide +kernel
theorem dX6_greatestDivisor_25 : decode cX6_greatestDivisor 25 = .ok (.iinc 2 (-1), 3) := by decide +kernel
theorem dX6_greatestDivisor_28 : decode cX6_greatestDivisor 28 = .ok (.goto (-22), 3) := by decide +kernel
theorem dX6_greatestDivisor_31 : decode cX6_greatestDivisor 31 = .ok (.iconst 1, 1) := by decide +kernel
theorem dX6_greatestDivisor_32 : decode cX6_greatestDivisor 32 = .ok (.ireturn, 1) := by decide +kernel
theorem dX6_lawOf_0 : decode cX6_lawOf 0 = .ok (.iload_n 1, 1) := by decide +kernel
theorem dX6_lawOf_1 : decode cX6_lawOf 1 = .ok (.ifCond .ne 13, 3) := by decide +kernel
theorem dX6_lawOf_4 : decode cX6_lawOf 4 = .ok (.aload_n 0, 1) := by decide +kernel
theorem dX6_lawOf_5 : decode cX6_lawOf 5 = .ok (.getfield 10, 3) := by decide +kernel
theorem dX6_lawOf_8 : decode cX6_lawOf 8 = .ok (.getfield 293, 3) := by decide +kernel
theorem dX6_lawOf_11 : decode cX6_lawOf 11 = .ok (.goto 10, 3) := by decide +kernel
theorem dX6_lawOf_14 : decode cX6_lawOf 14 = .ok (.aload_n 0, 1) := by decide +kernel
theorem dX6_lawOf_15 : decode cX6_lawOf 15 = .ok (.getfield 10, 3) := by decide +kernel
theorem dX6_lawOf_18 : decode cX6_lawOf 18 = .ok (.getfield 297, 3) := by decide +kernel
theorem dX6_lawOf_21 : decode cX6_lawOf 21 = .ok (.areturn, 1) := by decide +kernel
theorem dX6_stepsOf_0 : decode cX6_stepsOf 0 = .ok (.aload_n 1, 1) := by decide +kernel
theorem dX6_stepsOf_1 : decode cX6_stepsOf 1 = .ok (.iload_n 3, 1) := by decide +kernel
theorem dX6_stepsOf_2 : decode cX6_stepsOf 2 = .ok (.invokevirtual 300, 3) := by decide +kernel
theorem dX6_stepsOf_5 : decode cX6_stepsOf 5 = .ok (.istore 4, 2) := by decide +kernel
theorem dX6_stepsOf_7 : decode cX6_stepsOf 7 = .ok (.aload_n 2, 1) := by decide +kernel
theorem dX6_stepsOf_8 : decode cX6_stepsOf 8 = .ok (.aload_n 1, 1) := by decide +kernel
theorem dX6_stepsOf_9 : decode cX6_stepsOf 9 = .ok (.getfield 128, 3) := by decide +kernel
theorem dX6_stepsOf_12 : decode cX6_stepsOf 12 = .ok (.iload_n 3, 1) := by decide +kernel
theorem dX6_stepsOf_13 : decode cX6_stepsOf 13 = .ok (.iaload, 1) := by decide +kernel
theorem dX6_stepsOf_14 : decode cX6_stepsOf 14 = .ok (.iload 4, 2) := by decide +kernel
theorem dX6_stepsOf_16 : decode cX6_stepsOf 16 = .ok (.invokevirtual 99, 3) := by decide +kernel
theorem dX6_stepsOf_19 : decode cX6_stepsOf 19 = .ok (.ifCond .eq 18, 3) := by decide +kernel
theorem dX6_stepsOf_22 : decode cX6_stepsOf 22 = .ok (.aload_n 2, 1) := by decide +kernel
theorem dX6_stepsOf_23 : decode cX6_stepsOf 23 = .ok (.aload_n 1, 1) := by decide +kernel
theorem dX6_stepsOf_24 : decode cX6_stepsOf 24 = .ok (.getfield 128, 3) := by decide +kernel
theorem dX6_stepsOf_27 : decode cX6_stepsOf 27 = .ok (.iload_n 3, 1) := by decide +kernel
theorem dX6_stepsOf_28 : decode cX6_stepsOf 28 = .ok (.iaload, 1) := by decide +kernel
theorem dX6_stepsOf_29 : decode cX6_stepsOf 29 = .ok (.iload 4, 2) := by decide +kernel
theorem dX6_stepsOf_31 : decode cX6_stepsOf 31 = .ok (.invokevirtual 102, 3) := by decide +kernel
theorem dX6_stepsOf_34 : decode cX6_stepsOf 34 = .ok (.goto 4, 3) := by decide +kernel
theorem dX6_stepsOf_37 : decode cX6_stepsOf 37 = .ok (.iconst 0, 1) := by decide +kernel
theorem dX6_stepsOf_38 : decode cX6_stepsOf 38 = .ok (.istore 5, 2) := by decide +kernel
theorem dX6_stepsOf_40 : decode cX6_stepsOf 40 = .ok (.aload_n 0, 1) := by decide +kernel
theorem dX6_stepsOf_41 : decode cX6_stepsOf 41 = .ok (.getfield 10, 3) := by decide +kernel
theorem dX6_stepsOf_44 : decode cX6_stepsOf 44 = .ok (.getfield 293, 3) := by decide +kernel
theorem dX6_stepsOf_47 : decode cX6_stepsOf 47 = .ok (.aload_n 1, 1) := by decide +kernel
theorem dX6_stepsOf_48 : decode cX6_stepsOf 48 = .ok (.iload_n 3, 1) := by decide +kernel
theorem dX6_stepsOf_49 : decode cX6_stepsOf 49 = .ok (.invokevirtual 303, 3) := by decide +kernel
theorem dX6_stepsOf_52 : decode cX6_stepsOf 52 = .ok (.aload_n 1, 1) := by decide +kernel
theorem dX6_stepsOf_53 : decode cX6_stepsOf 53 = .ok (.getfield 187, 3) := by decide +kernel
theorem dX6_stepsOf_56 : decode cX6_stepsOf 56 = .ok (.bipush 7, 2) := by decide +kernel
theorem dX6_stepsOf_58 : decode cX6_stepsOf 58 = .ok (.irem, 1) := by decide +kernel
theorem dX6_stepsOf_59 : decode cX6_stepsOf 59 = .ok (.iload 5, 2) := by decide +kernel
theorem dX6_stepsOf_61 : decode cX6_stepsOf 61 = .ok (.invokevirtual 184, 3) := by decide +kernel
theorem dX6_stepsOf_64 : decode cX6_stepsOf 64 = .ok (.ireturn, 1) := by decide +kernel
theorem dX6_worthOf_0 : decode cX6_worthOf 0 = .ok (.aload_n 0, 1) := by decide +kernel
theorem dX6_worthOf_1 : decode cX6_worthOf 1 = .ok (.getfield 10, 3) := by decide +kernel
theorem dX6_worthOf_4 : decode cX6_worthOf 4 = .ok (.getfield 297, 3) := by decide +kernel
theorem dX6_worthOf_7 : decode cX6_worthOf 7 = .ok (.aload_n 1, 1) := by decide +kernel
theorem dX6_worthOf_8 : decode cX6_worthOf 8 = .ok (.iload_n 2, 1) := by decide +kernel
theorem dX6_worthOf_9 : decode cX6_worthOf 9 = .ok (.invokevirtual 306, 3) := by decide +kernel
theorem dX6_worthOf_12 : decode cX6_worthOf 12 = .ok (.aload_n 1, 1) := by decide +kernel
theorem dX6_worthOf_13 : decode cX6_worthOf 13 = .ok (.getfield 131, 3) := by decide +kernel
theorem dX6_worthOf_16 : decode cX6_worthOf 16 = .ok (.iload_n 2, 1) := by decide +kernel
theorem dX6_worthOf_17 : decode cX6_worthOf 17 = .ok (.iaload, 1) := by decide +kernel
theorem dX6_worthOf_18 : decode cX6_worthOf 18 = .ok (.aload_n 1, 1) := by decide +kernel
theorem dX6_worthOf_19 : decode cX6_worthOf 19 = .ok (.getfield 187, 3) := by decide +kernel
theorem dX6_worthOf_22 : decode cX6_worthOf 22 = .ok (.bipush 10, 2) := by decide +kernel
theorem dX6_worthOf_24 : decode cX6_worthOf 24 = .ok (.irem, 1) := by decide +kernel
theorem dX6_worthOf_25 : decode cX6_worthOf 25 = .ok (.invokevirtual 184, 3) := by decide +kernel
theorem dX6_worthOf_28 : decode cX6_worthOf 28 = .ok (.ireturn, 1) := by decide +kernel
theorem dX6_warmthOf_0 : decode cX6_warmthOf 0 = .ok (.aload_n 0, 1) := by decide +kernel
theorem dX6_warmthOf_1 : decode cX6_warmthOf 1 = .ok (.iload_n 2, 1) := by decide +kernel
theorem dX6_warmthOf_2 : decode cX6_warmthOf 2 = .ok (.invokevirtual 300, 3) := by decide +kernel
theorem dX6_warmthOf_5 : decode cX6_warmthOf 5 = .ok (.istore_n 3, 1) := by decide +kernel
theorem dX6_warmthOf_6 : decode cX6_warmthOf 6 = .ok (.aload_n 1, 1) := by decide +kernel
theorem dX6_warmthOf_7 : decode cX6_warmthOf 7 = .ok (.aload_n 0, 1) := by decide +kernel
theorem dX6_warmthOf_8 : decode cX6_warmthOf 8 = .ok (.getfield 128, 3) := by decide +kernel
theorem dX6_warmthOf_11 : decode cX6_warmthOf 11 = .ok (.iload_n 2, 1) := by decide +kernel
theorem dX6_warmthOf_12 : decode cX6_warmthOf 12 = .ok (.iaload, 1) := by decide +kernel
theorem dX6_warmthOf_13 : decode cX6_warmthOf 13 = .ok (.iload_n 3, 1) := by decide +kernel
theorem dX6_warmthOf_14 : decode cX6_warmthOf 14 = .ok (.invokevirtual 99, 3) := by decide +kernel
theorem dX6_warmthOf_17 : decode cX6_warmthOf 17 = .ok (.ifCond .eq 20, 3) := by decide +kernel
theorem dX6_warmthOf_20 : decode cX6_warmthOf 20 = .ok (.bipush 9, 2) := by decide +kernel
theorem dX6_warmthOf_22 : decode cX6_warmthOf 22 = .ok (.aload_n 1, 1) := by decide +kernel
theorem dX6_warmthOf_23 : decode cX6_warmthOf 23 = .ok (.aload_n 0, 1) := by decide +kernel
theorem dX6_warmthOf_24 : decode cX6_warmthOf 24 = .ok (.getfield 128, 3) := by decide +kernel
theorem dX6_warmthOf_27 : decode cX6_warmthOf 27 = .ok (.iload_n 2, 1) := by decide +kernel
theorem dX6_warmthOf_28 : decode cX6_warmthOf 28 = .ok (.iaload, 1) := by decide +kernel
theorem dX6_warmthOf_29 : decode cX6_warmthOf 29 = .ok (.iload_n 3, 1) := by decide +kernel
theorem dX6_warmthOf_30 : decode cX6_warmthOf 30 = .ok (.invokevirtual 102, 3) := by decide +kernel
theorem dX6_warmthOf_33 : decode cX6_warmthOf 33 = .ok (.isub, 1) := by decide +kernel
theorem dX6_warmthOf_34 : decode cX6_warmthOf 34 = .ok (.goto 4, 3) := by decide +kernel
theorem dX6_warmthOf_37 : decode cX6_warmthOf 37 = .ok (.iconst 0, 1) := by decide +kernel
theorem dX6_warmthOf_38 : decode cX6_warmthOf 38 = .ok (.ireturn, 1) := by decide +kernel
theorem dX6_passDay_0 : decode cX6_passDay 0 = .ok (.iconst 0, 1) := by decide +kernel
theorem dX6_passDay_1 : decode cX6_passDay 1 = .ok (.istore_n 3, 1) := by decide +kernel
theorem dX6_passDay_2 : decode cX6_passDay 2 = .ok (.iconst 0, 1) := by decide +kernel
theorem dX6_passDay_3 : decode cX6_passDay 3 = .ok (.istore 4, 2) := by decide +kernel
theorem dX6_passDay_5 : decode cX6_passDay 5 = .ok (.iload 4, 2) := by decide +kernel
theorem dX6_passDay_7 : decode cX6_passDay 7 = .ok (.aload_n 1, 1) := by decide +kernel
theorem dX6_passDay_8 : decode cX6_passDay 8 = .ok (.getfield 109, 3) := by decide +kernel
theorem dX6_passDay_11 : decode cX6_passDay 11 = .ok (.if_icmp .ge 74, 3) := by decide +kernel
theorem dX6_passDay_14 : decode cX6_passDay 14 = .ok (.aload_n 1, 1) := by decide +kernel
theorem dX6_passDay_15 : decode cX6_passDay 15 = .ok (.iload 4, 2) := by decide +kernel
theorem dX6_passDay_17 : decode cX6_passDay 17 = .ok (.invokevirtual 216, 3) := by decide +kernel
theorem dX6_passDay_20 : decode cX6_passDay 20 = .ok (.ifCond .ne 27, 3) := by decide +kernel
theorem dX6_passDay_23 : decode cX6_passDay 23 = .ok (.aload_n 2, 1) := by decide +kernel
theorem dX6_passDay_24 : decode cX6_passDay 24 = .ok (.aload_n 1, 1) := by decide +kernel
theorem dX6_passDay_25 : decode cX6_passDay 25 = .ok (.getfield 128, 3) := by decide +kernel
theorem dX6_passDay_28 : decode cX6_passDay 28 = .ok (.iload 4, 2) := by decide +kernel
theorem dX6_passDay_30 : decode cX6_passDay 30 = .ok (.iaload, 1) := by decide +kernel
theorem dX6_passDay_31 : decode cX6_passDay 31 = .ok (.aload_n 1, 1) := by decide +kernel
theorem dX6_passDay_32 : decode cX6_passDay 32 = .ok (.iload 4, 2) := by decide +kernel
theorem dX6_passDay_34 : decode cX6_passDay 34 = .ok (.invokevirtual 300, 3) := by decide +kernel
theorem dX6_passDay_37 : decode cX6_passDay 37 = .ok (.invokevirtual 99, 3) := by decide +kernel
theorem dX6_passDay_40 : decode cX6_passDay 40 = .ok (.ifCond .eq 7, 3) := by decide +kernel
theorem dX6_passDay_43 : decode cX6_passDay 43 = .ok (.iconst 1, 1) := by decide +kernel
theorem dX6_passDay_44 : decode cX6_passDay 44 = .ok (.goto 4, 3) := by decide +kernel
theorem dX6_passDay_47 : decode cX6_passDay 47 = .ok (.iconst 0, 1) := by decide +kernel
theorem dX6_passDay_48 : decode cX6_passDay 48 = .ok (.istore 5, 2) := by decide +kernel
theorem dX6_passDay_50 : decode cX6_passDay 50 = .ok (.aload_n 0, 1) := by decide +kernel
theorem dX6_passDay_51 : decode cX6_passDay 51 = .ok (.getfield 37, 3) := by decide +kernel
theorem dX6_passDay_54 : decode cX6_passDay 54 = .ok (.iload 4, 2) := by decide +kernel
theorem dX6_passDay_56 : decode cX6_passDay 56 = .ok (.iload 5, 2) := by decide +kernel
theorem dX6_passDay_58 : decode cX6_passDay 58 = .ok (.ifCond .eq 14, 3) := by decide +kernel
theorem dX6_passDay_61 : decode cX6_passDay 61 = .ok (.aload_n 0, 1) := by decide +kernel
theorem dX6_passDay_62 : decode cX6_passDay 62 = .ok (.aload_n 1, 1) := by decide +kernel
theorem dX6_passDay_63 : decode cX6_passDay 63 = .ok (.aload_n 2, 1) := by decide +kernel
theorem dX6_passDay_64 : decode cX6_passDay 64 = .ok (.iload 4, 2) := by decide +kernel
theorem dX6_passDay_66 : decode cX6_passDay 66 = .ok (.invokevirtual 134, 3) := by decide +kernel
theorem dX6_passDay_69 : decode cX6_passDay 69 = .ok (.goto 4, 3) := by decide +kernel
theorem dX6_passDay_72 : decode cX6_passDay 72 = .ok (.iconst 0, 1) := by decide +kernel
theorem dX6_passDay_73 : decode cX6_passDay 73 = .ok (.iastore, 1) := by decide +kernel
theorem dX6_passDay_74 : decode cX6_passDay 74 = .ok (.iload_n 3, 1) := by decide +kernel
theorem dX6_passDay_75 : decode cX6_passDay 75 = .ok (.iload 5, 2) := by decide +kernel
theorem dX6_passDay_77 : decode cX6_passDay 77 = .ok (.ior, 1) := by decide +kernel
theorem dX6_passDay_78 : decode cX6_passDay 78 = .ok (.istore_n 3, 1) := by decide +kernel
theorem dX6_passDay_79 : decode cX6_passDay 79 = .ok (.iinc 4 1, 3) := by decide +kernel
theorem dX6_passDay_82 : decode cX6_passDay 82 = .ok (.goto (-77), 3) := by decide +kernel
theorem dX6_passDay_85 : decode cX6_passDay 85 = .ok (.iconst 0, 1) := by decide +kernel
theorem dX6_passDay_86 : decode cX6_passDay 86 = .ok (.istore 4, 2) := by decide +kernel
theorem dX6_passDay_88 : decode cX6_passDay 88 = .ok (.iload 4, 2) := by decide +kernel
theorem dX6_passDay_90 : decode cX6_passDay 90 = .ok (.aload_n 1, 1) := by decide +kernel
theorem dX6_passDay_91 : decode cX6_passDay 91 = .ok (.getfield 109, 3) := by decide +kernel
theorem dX6_passDay_94 : decode cX6_passDay 94 = .ok (.if_icmp .ge 40, 3) := by decide +kernel
theorem dX6_passDay_97 : decode cX6_passDay 97 = .ok (.aload_n 1, 1) := by decide +kernel
theorem dX6_passDay_98 : decode cX6_passDay 98 = .ok (.getfield 128, 3) := by decide +kernel
theorem dX6_passDay_101 : decode cX6_passDay 101 = .ok (.iload 4, 2) := by decide +kernel
theorem dX6_passDay_103 : decode cX6_passDay 103 = .ok (.aload_n 2, 1) := by decide +kernel
theorem dX6_passDay_104 : decode cX6_passDay 104 = .ok (.aload_n 1, 1) := by decide +kernel
theorem dX6_passDay_105 : decode cX6_passDay 105 = .ok (.getfield 128, 3) := by decide +kernel
theorem dX6_passDay_108 : decode cX6_passDay 108 = .ok (.iload 4, 2) := by decide +kernel
theorem dX6_passDay_110 : decode cX6_passDay 110 = .ok (.iaload, 1) := by decide +kernel
theorem dX6_passDay_111 : decode cX6_passDay 111 = .ok (.aload_n 1, 1) := by decide +kernel
theorem dX6_passDay_112 : decode cX6_passDay 112 = .ok (.iload 4, 2) := by decide +kernel
theorem dX6_passDay_114 : decode cX6_passDay 114 = .ok (.invokevirtual 300, 3) := by decide +kernel
theorem dX6_passDay_117 : decode cX6_passDay 117 = .ok (.aload_n 0, 1) := by decide +kernel
theorem dX6_passDay_118 : decode cX6_passDay 118 = .ok (.getfield 37, 3) := by decide +kernel
theorem dX6_passDay_121 : decode cX6_passDay 121 = .ok (.iload 4, 2) := by decide +kernel
theorem dX6_passDay_123 : decode cX6_passDay 123 = .ok (.iaload, 1) := by decide +kernel
theorem dX6_passDay_124 : decode cX6_passDay 124 = .ok (.invokevirtual 309, 3) := by decide +kernel
theorem dX6_passDay_127 : decode cX6_passDay 127 = .ok (.iastore, 1) := by decide +kernel
theorem dX6_passDay_128 : decode cX6_passDay 128 = .ok (.iinc 4 1, 3) := by decide +kernel
theorem dX6_passDay_131 : decode cX6_passDay 131 = .ok (.goto (-43), 3) := by decide +kernel
theorem dX6_passDay_134 : decode cX6_passDay 134 = .ok (.aload_n 1, 1) := by decide +kernel
theorem dX6_passDay_135 : decode cX6_passDay 135 = .ok (.dup, 1) := by decide +kernel
theorem dX6_passDay_136 : decode cX6_passDay 136 = .ok (.getfield 187, 3) := by decide +kernel
theorem dX6_passDay_139 : decode cX6_passDay 139 = .ok (.iconst 1, 1) := by decide +kernel
theorem dX6_passDay_140 : decode cX6_passDay 140 = .ok (.iadd, 1) := by decide +kernel
theorem dX6_passDay_141 : decode cX6_passDay 141 = .ok (.putfield 187, 3) := by decide +kernel
theorem dX6_passDay_144 : decode cX6_passDay 144 = .ok (.iload_n 3, 1) := by decide +kernel
theorem dX6_passDay_145 : decode cX6_passDay 145 = .ok (.ireturn, 1) := by decide +kernel
theorem dX6_passDays_0 : decode cX6_passDays 0 = .ok (.iconst 1, 1) := by decide +kernel
theorem dX6_passDays_1 : decode cX6_passDays 1 = .ok (.istore 4, 2) := by decide +kernel
theorem dX6_passDays_3 : decode cX6_passDays 3 = .ok (.iconst 0, 1) := by decide +kernel
theorem dX6_passDays_4 : decode cX6_passDays 4 = .ok (.istore 5, 2) := by decide +kernel
theorem dX6_passDays_6 : decode cX6_passDays 6 = .ok (.iload 5, 2) := by decide +kernel
theorem dX6_passDays_8 : decode cX6_passDays 8 = .ok (.iload_n 3, 1) := by decide +kernel
theorem dX6_passDays_9 : decode cX6_passDays 9 = .ok (.if_icmp .ge 22, 3) := by decide +kernel
theorem dX6_passDays_12 : decode cX6_passDays 12 = .ok (.iload 4, 2) := by decide +kernel
theorem dX6_passDays_14 : decode cX6_passDays 14 = .ok (.ifCond .eq 17, 3) := by decide +kernel
theorem dX6_passDays_17 : decode cX6_passDays 17 = .ok (.aload_n 0, 1) := by decide +kernel
theorem dX6_passDays_18 : decode cX6_passDays 18 = .ok (.aload_n 1, 1) := by decide +kernel
theorem dX6_passDays_19 : decode cX6_passDays 19 = .ok (.aload_n 2, 1) := by decide +kernel
theorem dX6_passDays_20 : decode cX6_passDays 20 = .ok (.invokevirtual 201, 3) := by decide +kernel
theorem dX6_passDays_23 : decode cX6_passDays 23 = .ok (.istore 4, 2) := by decide +kernel
theorem dX6_passDays_25 : decode cX6_passDays 25 = .ok (.iinc 5 1, 3) := by decide +kernel
theorem dX6_passDays_28 : decode cX6_passDays 28 = .ok (.goto (-22), 3) := by decide +kernel
theorem dX6_passDays_31 : decode cX6_passDays 31 = .ok (.aload_n 1, 1) := by decide +kernel
theorem dX6_passDays_32 : decode cX6_passDays 32 = .ok (.dup, 1) := by decide +kernel
theorem dX6_passDays_33 : decode cX6_passDays 33 = .ok (.getfield 187, 3) := by decide +kernel
theorem dX6_passDays_36 : decode cX6_passDays 36 = .ok (.iload_n 3, 1) := by decide +kernel
theorem dX6_passDays_37 : decode cX6_passDays 37 = .ok (.iload 5, 2) := by decide +kernel
theorem dX6_passDays_39 : decode cX6_passDays 39 = .ok (.isub, 1) := by decide +kernel
theorem dX6_passDays_40 : decode cX6_passDays 40 = .ok (.iadd, 1) := by decide +kernel
theorem dX6_passDays_41 : decode cX6_passDays 41 = .ok (.putfield 187, 3) := by decide +kernel
theorem dX6_passDays_44 : decode cX6_passDays 44 = .ok (.return_, 1) := by decide +kernel
theorem dX6_think_0 : decode cX6_think 0 = .ok (.aload_n 0, 1) := by decide +kernel
theorem dX6_think_1 : decode cX6_think 1 = .ok (.getfield 26, 3) := by decide +kernel
theorem dX6_think_4 : decode cX6_think 4 = .ok (.aload_n 0, 1) := by decide +kernel
theorem dX6_think_5 : decode cX6_think 5 = .ok (.getfield 10, 3) := by decide +kernel
theorem dX6_think_8 : decode cX6_think 8 = .ok (.getfield 93, 3) := by decide +kernel
theorem dX6_think_11 : decode cX6_think 11 = .ok (.invokevirtual 212, 3) := by decide +kernel
theorem dX6_think_14 : decode cX6_think 14 = .ok (.aload_n 0, 1) := by decide +kernel
theorem dX6_think_15 : decode cX6_think 15 = .ok (.aload_n 0, 1) := by decide +kernel
theorem dX6_think_16 : decode cX6_think 16 = .ok (.getfield 26, 3) := by decide +kernel
theorem dX6_think_19 : decode cX6_think 19 = .ok (.aload_n 0, 1) := by decide +kernel
theorem dX6_think_20 : decode cX6_think 20 = .ok (.getfield 10, 3) := by decide +kernel
theorem dX6_think_23 : decode cX6_think 23 = .ok (.getfield 76, 3) := by decide +kernel
theorem dX6_think_26 : decode cX6_think 26 = .ok (.iload_n 1, 1) := by decide +kernel
theorem dX6_think_27 : decode cX6_think 27 = .ok (.invokevirtual 190, 3) := by decide +kernel
theorem dX6_think_30 : decode cX6_think 30 = .ok (.return_, 1) := by decide +kernel
theorem dX6_worthAtHome_0 : decode cX6_worthAtHome 0 = .ok (.iconst 0, 1) := by decide +kernel
theorem dX6_worthAtHome_1 : decode cX6_worthAtHome 1 = .ok (.istore_n 3, 1) := by decide +kernel
theorem dX6_worthAtHome_2 : decode cX6_worthAtHome 2 = .ok (.iconst 0, 1) := by decide +kernel
theorem dX6_worthAtHome_3 : decode cX6_worthAtHome 3 = .ok (.istore 4, 2) := by decide +kernel
theorem dX6_worthAtHome_5 : decode cX6_worthAtHome 5 = .ok (.iload 4, 2) := by decide +kernel
theorem dX6_worthAtHome_7 : decode cX6_worthAtHome 7 = .ok (.aload_n 1, 1) := by decide +kernel
theorem dX6_worthAtHome_8 : decode cX6_worthAtHome 8 = .ok (.getfield 109, 3) := by decide +kernel
theorem dX6_worthAtHome_11 : decode cX6_worthAtHome 11 = .ok (.if_icmp .ge 39, 3) := by decide +kernel
theorem dX6_worthAtHome_14 : decode cX6_worthAtHome 14 = .ok (.aload_n 1, 1) := by decide +kernel
theorem dX6_worthAtHome_15 : decode cX6_worthAtHome 15 = .ok (.getfield 125, 3) := by decide +kernel
theorem dX6_worthAtHome_18 : decode cX6_worthAtHome 18 = .ok (.iload 4, 2) := by decide +kernel
theorem dX6_worthAtHome_20 : decode cX6_worthAtHome 20 = .ok (.iaload, 1) := by decide +kernel
theorem dX6_worthAtHome_21 : decode cX6_worthAtHome 21 = .ok (.iload_n 2, 1) := by decide +kernel
theorem dX6_worthAtHome_22 : decode cX6_worthAtHome 22 = .ok (.if_icmp .ne 22, 3) := by decide +kernel
theorem dX6_worthAtHome_25 : decode cX6_worthAtHome 25 = .ok (.aload_n 1, 1) := by decide +kernel
theorem dX6_worthAtHome_26 : decode cX6_worthAtHome 26 = .ok (.iload 4, 2) := by decide +kernel
theorem dX6_worthAtHome_28 : decode cX6_worthAtHome 28 = .ok (.invokevirtual 216, 3) := by decide +kernel
theorem dX6_worthAtHome_31 : decode cX6_worthAtHome 31 = .ok (.ifCond .eq 13, 3) := by decide +kernel
theorem dX6_worthAtHome_34 : decode cX6_worthAtHome 34 = .ok (.iload_n 3, 1) := by decide +kernel
theorem dX6_worthAtHome_35 : decode cX6_worthAtHome 35 = .ok (.aload_n 0, 1) := by decide +kernel
theorem dX6_worthAtHome_36 : decode cX6_worthAtHome 36 = .ok (.aload_n 1, 1) := by decide +kernel
theorem dX6_worthAtHome_37 : decode cX6_worthAtHome 37 = .ok (.iload 4, 2) := by decide +kernel
theorem dX6_worthAtHome_39 : decode cX6_worthAtHome 39 = .ok (.invokevirtual 138, 3) := by decide +kernel
theorem dX6_worthAtHome_42 : decode cX6_worthAtHome 42 = .ok (.iadd, 1) := by decide +kernel
theorem dX6_worthAtHome_43 : decode cX6_worthAtHome 43 = .ok (.istore_n 3, 1) := by decide +kernel
theorem dX6_worthAtHome_44 : decode cX6_worthAtHome 44 = .ok (.iinc 4 1, 3) := by decide +kernel
theorem dX6_worthAtHome_47 : decode cX6_worthAtHome 47 = .ok (.goto (-42), 3) := by decide +kernel
theorem dX6_worthAtHome_50 : decode cX6_worthAtHome 50 = .ok (.iload_n 3, 1) := by decide +kernel
theorem dX6_worthAtHome_51 : decode cX6_worthAtHome 51 = .ok (.ireturn, 1) := by decide +kernel
theorem dX6_getsWith_0 : decode cX6_getsWith 0 = .ok (.aload_n 0, 1) := by decide +kernel
theorem dX6_getsWith_1 : decode cX6_getsWith 1 = .ok (.getfield 26, 3) := by decide +kernel
theorem dX6_getsWith_4 : decode cX6_getsWith 4 = .ok (.aload_n 0, 1) := by decide +kernel
theorem dX6_getsWith_5 : decode cX6_getsWith 5 = .ok (.getfield 10, 3) := by decide +kernel
theorem dX6_getsWith_8 : decode cX6_getsWith 8 = .ok (.getfield 93, 3) := by decide +kernel
theorem dX6_getsWith_11 : decode cX6_getsWith 11 = .ok (.invokevirtual 212, 3) := by decide +kernel
theorem dX6_getsWith_14 : decode cX6_getsWith 14 = .ok (.iconst 0, 1) := by decide +kernel
theorem dX6_getsWith_15 : decode cX6_getsWith 15 = .ok (.istore 4, 2) := by decide +kernel
theorem dX6_getsWith_17 : decode cX6_getsWith 17 = .ok (.iload 4, 2) := by decide +kernel
theorem dX6_getsWith_19 : decode cX6_getsWith 19 = .ok (.aload_n 0, 1) := by decide +kernel
theorem dX6_getsWith_20 : decode cX6_getsWith 20 = .ok (.getfield 26, 3) := by decide +kernel
theorem dX6_getsWith_23 : decode cX6_getsWith 23 = .ok (.getfield 109, 3) := by decide +kernel
theorem dX6_getsWith_26 : decode cX6_getsWith 26 = .ok (.if_icmp .ge 38, 3) := by decide +kernel
theorem dX6_getsWith_29 : decode cX6_getsWith 29 = .ok (.iload_n 2, 1) := by decide +kernel
theorem dX6_getsWith_30 : decode cX6_getsWith 30 = .ok (.iload 4, 2) := by decide +kernel
theorem dX6_getsWith_32 : decode cX6_getsWith 32 = .ok (.ishr, 1) := by decide +kernel
theorem dX6_getsWith_33 : decode cX6_getsWith 33 = .ok (.iconst 1, 1) := by decide +kernel
theorem dX6_getsWith_34 : decode cX6_getsWith 34 = .ok (.iand, 1) := by decide +kernel
theorem dX6_getsWith_35 : decode cX6_getsWith 35 = .ok (.iconst 1, 1) := by decide +kernel
theorem dX6_getsWith_36 : decode cX6_getsWith 36 = .ok (.if_icmp .ne 22, 3) := by decide +kernel
theorem dX6_getsWith_39 : decode cX6_getsWith 39 = .ok (.aload_n 0, 1) := by decide +kernel
theorem dX6_getsWith_40 : decode cX6_getsWith 40 = .ok (.getfield 26, 3) := by decide +kernel
theorem dX6_getsWith_43 : decode cX6_getsWith 43 = .ok (.getfield 128, 3) := by decide +kernel
theorem dX6_getsWith_46 : decode cX6_getsWith 46 = .ok (.iload 4, 2) := by decide +kernel
theorem dX6_getsWith_48 : decode cX6_getsWith 48 = .ok (.aload_n 0, 1) := by decide +kernel
theorem dX6_getsWith_49 : decode cX6_getsWith 49 = .ok (.getfield 26, 3) := by decide +kernel
theorem dX6_getsWith_52 : decode cX6_getsWith 52 = .ok (.iload 4, 2) := by decide +kernel
theorem dX6_getsWith_54 : decode cX6_getsWith 54 = .ok (.invokevirtual 300, 3) := by decide +kernel
theorem dX6_getsWith_57 : decode cX6_getsWith 57 = .ok (.iastore, 1) := by decide +kernel
theorem dX6_getsWith_58 : decode cX6_getsWith 58 = .ok (.iinc 4 1, 3) := by decide +kernel
theorem dX6_getsWith_61 : decode cX6_getsWith 61 = .ok (.goto (-44), 3) := by decide +kernel
theorem dX6_getsWith_64 : decode cX6_getsWith 64 = .ok (.aload_n 0, 1) := by decide +kernel
theorem dX6_getsWith_65 : decode cX6_getsWith 65 = .ok (.aload_n 0, 1) := by decide +kernel
theorem dX6_getsWith_66 : decode cX6_getsWith 66 = .ok (.getfield 26, 3) := by decide +kernel
theorem dX6_getsWith_69 : decode cX6_getsWith 69 = .ok (.aload_n 0, 1) := by decide +kernel
theorem dX6_getsWith_70 : decode cX6_getsWith 70 = .ok (.getfield 10, 3) := by decide +kernel
theorem dX6_getsWith_73 : decode cX6_getsWith 73 = .ok (.getfield 76, 3) := by decide +kernel
theorem dX6_getsWith_76 : decode cX6_getsWith 76 = .ok (.iload_n 3, 1) := by decide +kernel
theorem dX6_getsWith_77 : decode cX6_getsWith 77 = .ok (.invokevirtual 190, 3) := by decide +kernel
theorem dX6_getsWith_80 : decode cX6_getsWith 80 = .ok (.aload_n 0, 1) := by decide +kernel
theorem dX6_getsWith_81 : decode cX6_getsWith 81 = .ok (.aload_n 0, 1) := by decide +kernel
theorem dX6_getsWith_82 : decode cX6_getsWith 82 = .ok (.getfield 26, 3) := by decide +kernel
theorem dX6_getsWith_85 : decode cX6_getsWith 85 = .ok (.iload_n 1, 1) := by decide +kernel
theorem dX6_getsWith_86 : decode cX6_getsWith 86 = .ok (.invokevirtual 219, 3) := by decide +kernel
theorem dX6_getsWith_89 : decode cX6_getsWith 89 = .ok (.ireturn, 1) := by decide +kernel
theorem dX6_homeWithWay_0 : decode cX6_homeWithWay 0 = .ok (.aload_n 0, 1) := by decide +kernel
theorem dX6_homeWithWay_1 : decode cX6_homeWithWay 1 = .ok (.getfield 33, 3) := by decide +kernel
theorem dX6_homeWithWay_4 : decode cX6_homeWithWay 4 = .ok (.aload_n 0, 1) := by decide +kernel
theorem dX6_homeWithWay_5 : decode cX6_homeWithWay 5 = .ok (.getfield 10, 3) := by decide +kernel
theorem dX6_homeWithWay_8 : decode cX6_homeWithWay 8 = .ok (.getfield 76, 3) := by decide +kernel
theorem dX6_homeWithWay_11 : decode cX6_homeWithWay 11 = .ok (.invokevirtual 312, 3) := by decide +kernel
theorem dX6_homeWithWay_14 : decode cX6_homeWithWay 14 = .ok (.aload_n 0, 1) := by decide +kernel
theorem dX6_homeWithWay_15 : decode cX6_homeWithWay 15 = .ok (.getfield 33, 3) := by decide +kernel
theorem dX6_homeWithWay_18 : decode cX6_homeWithWay 18 = .ok (.iload_n 1, 1) := by decide +kernel
theorem dX6_homeWithWay_19 : decode cX6_homeWithWay 19 = .ok (.iload_n 2, 1) := by decide +kernel
theorem dX6_homeWithWay_20 : decode cX6_homeWithWay 20 = .ok (.invokevirtual 83, 3) := by decide +kernel
theorem dX6_homeWithWay_23 : decode cX6_homeWithWay 23 = .ok (.aload_n 0, 1) := by decide +kernel
theorem dX6_homeWithWay_24 : decode cX6_homeWithWay 24 = .ok (.getfield 26, 3) := by decide +kernel
theorem dX6_homeWithWay_27 : decode cX6_homeWithWay 27 = .ok (.aload_n 0, 1) := by decide +kernel
theorem dX6_homeWithWay_28 : decode cX6_homeWithWay 28 = .ok (.getfield 10, 3) := by decide +kernel
theorem dX6_homeWithWay_31 : decode cX6_homeWithWay 31 = .ok (.getfield 93, 3) := by decide +kernel
theorem dX6_homeWithWay_34 : decode cX6_homeWithWay 34 = .ok (.invokevirtual 212, 3) := by decide +kernel
theorem dX6_homeWithWay_37 : decode cX6_homeWithWay 37 = .ok (.aload_n 0, 1) := by decide +kernel
theorem dX6_homeWithWay_38 : decode cX6_homeWithWay 38 = .ok (.aload_n 0, 1) := by decide +kernel
theorem dX6_homeWithWay_39 : decode cX6_homeWithWay 39 = .ok (.getfield 26, 3) := by decide +kernel
theorem dX6_homeWithWay_42 : decode cX6_homeWithWay 42 = .ok (.aload_n 0, 1) := by decide +kernel
theorem dX6_homeWithWay_43 : decode cX6_homeWithWay 43 = .ok (.getfield 33, 3) := by decide +kernel
theorem dX6_homeWithWay_46 : decode cX6_homeWithWay 46 = .ok (.iload_n 3, 1) := by decide +kernel
theorem dX6_homeWithWay_47 : decode cX6_homeWithWay 47 = .ok (.invokevirtual 190, 3) := by decide +kernel
theorem dX6_homeWithWay_50 : decode cX6_homeWithWay 50 = .ok (.aload_n 0, 1) := by decide +kernel
theorem dX6_homeWithWay_51 : decode cX6_homeWithWay 51 = .ok (.getfield 26, 3) := by decide +kernel
theorem dX6_homeWithWay_54 : decode cX6_homeWithWay 54 = .ok (.invokevirtual 194, 3) := by decide +kernel
theorem dX6_homeWithWay_57 : decode cX6_homeWithWay 57 = .ok (.invokestatic 228, 3) := by decide +kernel
theorem dX6_homeWithWay_60 : decode cX6_homeWithWay 60 = .ok (.ireturn, 1) := by decide +kernel
theorem dX6_wouldWarmSo_0 : decode cX6_wouldWarmSo 0 = .ok (.aload_n 0, 1) := by decide +kernel
theorem dX6_wouldWarmSo_1 : decode cX6_wouldWarmSo 1 = .ok (.getfield 26, 3) := by decide +kernel
theorem dX6_wouldWarmSo_4 : decode cX6_wouldWarmSo 4 = .ok (.aload_n 0, 1) := by decide +kernel
theorem dX6_wouldWarmSo_5 : decode cX6_wouldWarmSo 5 = .ok (.getfield 10, 3) := by decide +kernel
theorem dX6_wouldWarmSo_8 : decode cX6_wouldWarmSo 8 = .ok (.getfield 93, 3) := by decide +kernel
theorem dX6_wouldWarmSo_11 : decode cX6_wouldWarmSo 11 = .ok (.invokevirtual 212, 3) := by decide +kernel
theorem dX6_wouldWarmSo_14 : decode cX6_wouldWarmSo 14 = .ok (.aload_n 0, 1) := by decide +kernel
theorem dX6_wouldWarmSo_15 : decode cX6_wouldWarmSo 15 = .ok (.getfield 26, 3) := by decide +kernel
theorem dX6_wouldWarmSo_18 : decode cX6_wouldWarmSo 18 = .ok (.getfield 125, 3) := by decide +kernel
theorem dX6_wouldWarmSo_21 : decode cX6_wouldWarmSo 21 = .ok (.iload_n 2, 1) := by decide +kernel
theorem dX6_wouldWarmSo_22 : decode cX6_wouldWarmSo 22 = .ok (.iload_n 3, 1) := by decide +kernel
theorem dX6_wouldWarmSo_23 : decode cX6_wouldWarmSo 23 = .ok (.iastore, 1) := by decide +kernel
theorem dX6_wouldWarmSo_24 : decode cX6_wouldWarmSo 24 = .ok (.iconst 0, 1) := by decide +kernel
theorem dX6_wouldWarmSo_25 : decode cX6_wouldWarmSo 25 = .ok (.istore 4, 2) := by decide +kernel
theorem dX6_wouldWarmSo_27 : decode cX6_wouldWarmSo 27 = .ok (.iload 4, 2) := by decide +kernel
theorem dX6_wouldWarmSo_29 : decode cX6_wouldWarmSo 29 = .ok (.aload_n 0, 1) := by decide +kernel
theorem dX6_wouldWarmSo_30 : decode cX6_wouldWarmSo 30 = .ok (.getfield 51, 3) := by decide +kernel
theorem dX6_wouldWarmSo_33 : decode cX6_wouldWarmSo 33 = .ok (.getfield 257, 3) := by decide +kernel
theorem dX6_wouldWarmSo_36 : decode cX6_wouldWarmSo 36 = .ok (.iload_n 1, 1) := by decide +kernel
theorem dX6_wouldWarmSo_37 : decode cX6_wouldWarmSo 37 = .ok (.iaload, 1) := by decide +kernel
theorem dX6_wouldWarmSo_38 : decode cX6_wouldWarmSo 38 = .ok (.if_icmp .ge 55, 3) := by decide +kernel
theorem dX6_wouldWarmSo_41 : decode cX6_wouldWarmSo 41 = .ok (.aload_n 0, 1) := by decide +kernel
theorem dX6_wouldWarmSo_42 : decode cX6_wouldWarmSo 42 = .ok (.getfield 51, 3) := by decide +kernel
theorem dX6_wouldWarmSo_45 : decode cX6_wouldWarmSo 45 = .ok (.iload_n 1, 1) := by decide +kernel
theorem dX6_wouldWarmSo_46 : decode cX6_wouldWarmSo 46 = .ok (.iload 4, 2) := by decide +kernel
theorem dX6_wouldWarmSo_48 : decode cX6_wouldWarmSo 48 = .ok (.invokevirtual 272, 3) := by decide +kernel
theorem dX6_wouldWarmSo_51 : decode cX6_wouldWarmSo 51 = .ok (.aload_n 0, 1) := by decide +kernel
theorem dX6_wouldWarmSo_52 : decode cX6_wouldWarmSo 52 = .ok (.getfield 26, 3) := by decide +kernel
theorem dX6_wouldWarmSo_55 : decode cX6_wouldWarmSo 55 = .ok (.aload_n 0, 1) := by decide +kernel
theorem dX6_wouldWarmSo_56 : decode cX6_wouldWarmSo 56 = .ok (.getfield 10, 3) := by decide +kernel
theorem dX6_wouldWarmSo_59 : decode cX6_wouldWarmSo 59 = .ok (.getfield 76, 3) := by decide +kernel
theorem dX6_wouldWarmSo_62 : decode cX6_wouldWarmSo 62 = .ok (.iload_n 2, 1) := by decide +kernel
theorem dX6_wouldWarmSo_63 : decode cX6_wouldWarmSo 63 = .ok (.invokestatic 142, 3) := by decide +kernel
theorem dX6_wouldWarmSo_66 : decode cX6_wouldWarmSo 66 = .ok (.if_icmp .eq 5, 3) := by decide +kernel
theorem dX6_wouldWarmSo_69 : decode cX6_wouldWarmSo 69 = .ok (.iconst 0, 1) := by decide +kernel
theorem dX6_wouldWarmSo_70 : decode cX6_wouldWarmSo 70 = .ok (.ireturn, 1) := by decide +kernel
theorem dX6_wouldWarmSo_71 : decode cX6_wouldWarmSo 71 = .ok (.aload_n 0, 1) := by decide +kernel
theorem dX6_wouldWarmSo_72 : decode cX6_wouldWarmSo 72 = .ok (.aload_n 0, 1) := by decide +kernel
theorem dX6_wouldWarmSo_73 : decode cX6_wouldWarmSo 73 = .ok (.getfield 26, 3) := by decide +kernel
theorem dX6_wouldWarmSo_76 : decode cX6_wouldWarmSo 76 = .ok (.aload_n 0, 1) := by decide +kernel
theorem dX6_wouldWarmSo_77 : decode cX6_wouldWarmSo 77 = .ok (.getfield 10, 3) := by decide +kernel
theorem dX6_wouldWarmSo_80 : decode cX6_wouldWarmSo 80 = .ok (.getfield 76, 3) := by decide +kernel
theorem dX6_wouldWarmSo_83 : decode cX6_wouldWarmSo 83 = .ok (.invokevirtual 201, 3) := by decide +kernel
theorem dX6_wouldWarmSo_86 : decode cX6_wouldWarmSo 86 = .ok (.pop, 1) := by decide +kernel
theorem dX6_wouldWarmSo_87 : decode cX6_wouldWarmSo 87 = .ok (.iinc 4 1, 3) := by decide +kernel
theorem dX6_wouldWarmSo_90 : decode cX6_wouldWarmSo 90 = .ok (.goto (-63), 3) := by decide +kernel
theorem dX6_wouldWarmSo_93 : decode cX6_wouldWarmSo 93 = .ok (.iconst 1, 1) := by decide +kernel
theorem dX6_wouldWarmSo_94 : decode cX6_wouldWarmSo 94 = .ok (.ireturn, 1) := by decide +kernel
theorem dX6_say_0 : decode cX6_say 0 = .ok (.aload_n 0, 1) := by decide +kernel
theorem dX6_say_1 : decode cX6_say 1 = .ok (.getfield 64, 3) := by decide +kernel
theorem dX6_say_4 : decode cX6_say 4 = .ok (.ifCond .eq 5, 3) := by decide +kernel
theorem dX6_say_7 : decode cX6_say 7 = .ok (.iconst 0, 1) := by decide +kernel
theorem dX6_say_8 : decode cX6_say 8 = .ok (.ireturn, 1) := by decide +kernel
theorem dX6_say_9 : decode cX6_say 9 = .ok (.iload_n 3, 1) := by decide +kernel
theorem dX6_say_10 : decode cX6_say 10 = .ok (.istore 6, 2) := by decide +kernel
theorem dX6_say_12 : decode cX6_say 12 = .ok (.iconst 0, 1) := by decide +kernel
theorem dX6_say_13 : decode cX6_say 13 = .ok (.istore 7, 2) := by decide +kernel
theorem dX6_say_15 : decode cX6_say 15 = .ok (.iload 7, 2) := by decide +kernel
theorem dX6_say_17 : decode cX6_say 17 = .ok (.bipush 7, 2) := by decide +kernel
theorem dX6_say_19 : decode cX6_say 19 = .ok (.if_icmp .ge 35, 3) := by decide +kernel
theorem dX6_say_22 : decode cX6_say 22 = .ok (.iload 6, 2) := by decide +kernel
theorem dX6_say_24 : decode cX6_say 24 = .ok (.ifCond .lt 30, 3) := by decide +kernel
theorem dX6_say_27 : decode cX6_say 27 = .ok (.getstatic 315, 3) := by decide +kernel
theorem dX6_say_30 : decode cX6_say 30 = .ok (.iload 6, 2) := by decide +kernel
theorem dX6_say_32 : decode cX6_say 32 = .ok (.iconst 4, 1) := by decide +kernel
theorem dX6_say_33 : decode cX6_say 33 = .ok (.imul, 1) := by decide +kernel
theorem dX6_say_34 : decode cX6_say 34 = .ok (.iload_n 2, 1) := by decide +kernel
theorem dX6_say_35 : decode cX6_say 35 = .ok (.iadd, 1) := by decide +kernel
theorem dX6_say_36 : decode cX6_say 36 = .ok (.iaload, 1) := by decide +kernel
theorem dX6_say_37 : decode cX6_say 37 = .ok (.ifCond .ne 17, 3) := by decide +kernel
theorem dX6_say_40 : decode cX6_say 40 = .ok (.getstatic 285, 3) := by decide +kernel
theorem dX6_say_43 : decode cX6_say 43 = .ok (.iload 6, 2) := by decide +kernel
theorem dX6_say_45 : decode cX6_say 45 = .ok (.iaload, 1) := by decide +kernel
theorem dX6_say_46 : decode cX6_say 46 = .ok (.istore 6, 2) := by decide +kernel
theorem dX6_say_48 : decode cX6_say 48 = .ok (.iinc 7 1, 3) := by decide +kernel
theorem dX6_say_51 : decode cX6_say 51 = .ok (.goto (-36), 3) := by decide +kernel
theorem dX6_say_54 : decode cX6_say 54 = .ok (.iload 6, 2) := by decide +kernel
theorem dX6_say_56 : decode cX6_say 56 = .ok (.ifCond .lt 10, 3) := by decide +kernel
theorem dX6_say_59 : decode cX6_say 59 = .ok (.iload 5, 2) := by decide +kernel
theorem dX6_say_61 : decode cX6_say 61 = .ok (.bipush 20, 2) := by decide +kernel
theorem dX6_say_63 : decode cX6_say 63 = .ok (.if_icmp .le 5, 3) := by decide +kernel
theorem dX6_say_66 : decode cX6_say 66 = .ok (.iconst 0, 1) := by decide +kernel
theorem dX6_say_67 : decode cX6_say 67 = .ok (.ireturn, 1) := by decide +kernel
theorem dX6_say_68 : decode cX6_say 68 = .ok (.getstatic 315, 3) := by decide +kernel
theorem dX6_say_71 : decode cX6_say 71 = .ok (.iload 6, 2) := by decide +kernel
theorem dX6_say_73 : decode cX6_say 73 = .ok (.iconst 4, 1) := by decide +kernel
theorem dX6_say_74 : decode cX6_say 74 = .ok (.imul, 1) := by decide +kernel
theorem dX6_say_75 : decode cX6_say 75 = .ok (.iload_n 2, 1) := by decide +kernel
theorem dX6_say_76 : decode cX6_say 76 = .ok (.iadd, 1) := by decide +kernel
theorem dX6_say_77 : decode cX6_say 77 = .ok (.iaload, 1) := by decide +kernel
theorem dX6_say_78 : decode cX6_say 78 = .ok (.istore 7, 2) := by decide +kernel
theorem dX6_say_80 : decode cX6_say 80 = .ok (.aload_n 0, 1) := by decide +kernel
theorem dX6_say_81 : decode cX6_say 81 = .ok (.getfield 61, 3) := by decide +kernel
theorem dX6_say_84 : decode cX6_say 84 = .ok (.bipush 30, 2) := by decide +kernel
theorem dX6_say_86 : decode cX6_say 86 = .ok (.if_icmp .ge 21, 3) := by decide +kernel
theorem dX6_say_89 : decode cX6_say 89 = .ok (.aload_n 0, 1) := by decide +kernel
theorem dX6_say_90 : decode cX6_say 90 = .ok (.getfield 58, 3) := by decide +kernel
theorem dX6_say_93 : decode cX6_say 93 = .ok (.aload_n 0, 1) := by decide +kernel
theorem dX6_say_94 : decode cX6_say 94 = .ok (.dup, 1) := by decide +kernel
theorem dX6_say_95 : decode cX6_say 95 = .ok (.getfield 61, 3) := by decide +kernel
theorem dX6_say_98 : decode cX6_say 98 = .ok (.dup_x1, 1) := by decide +kernel
theorem dX6_say_99 : decode cX6_say 99 = .ok (.iconst 1, 1) := by decide +kernel
theorem dX6_say_100 : decode cX6_say 100 = .ok (.iadd, 1) := by decide +kernel
theorem dX6_say_101 : decode cX6_say 101 = .ok (.putfield 61, 3) := by decide +kernel
theorem dX6_say_104 : decode cX6_say 104 = .ok (.iload 7, 2) := by decide +kernel
theorem dX6_say_106 : decode cX6_say 106 = .ok (.iastore, 1) := by decide +kernel
theorem dX6_say_107 : decode cX6_say 107 = .ok (.aload_n 0, 1) := by decide +kernel
theorem dX6_say_108 : decode cX6_say 108 = .ok (.iload 7, 2) := by decide +kernel
theorem dX6_say_110 : decode cX6_say 110 = .ok (.iload_n 1, 1) := by decide +kernel
theorem dX6_say_111 : decode cX6_say 111 = .ok (.getstatic 285, 3) := by decide +kernel
theorem dX6_say_114 : decode cX6_say 114 = .ok (.iload 6, 2) := by decide +kernel
theorem dX6_say_116 : decode cX6_say 116 = .ok (.iaload, 1) := by decide +kernel
theorem dX6_say_117 : decode cX6_say 117 = .ok (.iload 4, 2) := by decide +kernel
theorem dX6_say_119 : decode cX6_say 119 = .ok (.iload 5, 2) := by decide +kernel
theorem dX6_say_121 : decode cX6_say 121 = .ok (.iconst 1, 1) := by decide +kernel
theorem dX6_say_122 : decode cX6_say 122 = .ok (.iadd, 1) := by decide +kernel
theorem dX6_say_123 : decode cX6_say 123 = .ok (.invokevirtual 318, 3) := by decide +kernel
theorem dX6_say_126 : decode cX6_say 126 = .ok (.ireturn, 1) := by decide +kernel
theorem dX6_sayBody_0 : decode cX6_sayBody 0 = .ok (.aload_n 0, 1) := by decide +kernel
theorem dX6_sayBody_1 : decode cX6_sayBody 1 = .ok (.getfield 10, 3) := by decide +kernel
theorem dX6_sayBody_4 : decode cX6_sayBody 4 = .ok (.getfield 93, 3) := by decide +kernel
theorem dX6_sayBody_7 : decode cX6_sayBody 7 = .ok (.getfield 119, 3) := by decide +kernel
theorem dX6_sayBody_10 : decode cX6_sayBody 10 = .ok (.iload_n 2, 1) := by decide +kernel
theorem dX6_sayBody_11 : decode cX6_sayBody 11 = .ok (.iaload, 1) := by decide +kernel
theorem dX6_sayBody_12 : decode cX6_sayBody 12 = .ok (.istore 6, 2) := by decide +kernel
theorem dX6_sayBody_14 : decode cX6_sayBody 14 = .ok (.aload_n 0, 1) := by decide +kernel
theorem dX6_sayBody_15 : decode cX6_sayBody 15 = .ok (.getfield 10, 3) := by decide +kernel
theorem dX6_sayBody_18 : decode cX6_sayBody 18 = .ok (.getfield 93, 3) := by decide +kernel
theorem dX6_sayBody_21 : decode cX6_sayBody 21 = .ok (.getfield 122, 3) := by decide +kernel
theorem dX6_sayBody_24 : decode cX6_sayBody 24 = .ok (.iload_n 2, 1) := by decide +kernel
theorem dX6_sayBody_25 : decode cX6_sayBody 25 = .ok (.iaload, 1) := by decide +kernel
theorem dX6_sayBody_26 : decode cX6_sayBody 26 = .ok (.istore 7, 2) := by decide +kernel
theorem dX6_sayBody_28 : decode cX6_sayBody 28 = .ok (.iload_n 1, 1) := by decide +kernel
theorem dX6_sayBody_29 : decode cX6_sayBody 29 = .ok (.lookupswitch 288 #[(10, 115), (11, 120), (12, 135), (13, 151), (20, 162), (21, 176), (30, 200), (40, 214), (50, 228), (51, 242), (60, 256), (70, 270), (71, 273)], 115) := by decide +kernel
theorem dX6_sayBody_144 : decode cX6_sayBody 144 = .ok (.iload 4, 2) := by decide +kernel
theorem dX6_sayBody_146 : decode cX6_sayBody 146 = .ok (.iload_n 2, 1) := by decide +kernel
theorem dX6_sayBody_147 : decode cX6_sayBody 147 = .ok (.iadd, 1) := by decide +kernel
theorem dX6_sayBody_148 : decode cX6_sayBody 148 = .ok (.ireturn, 1) := by decide +kernel
theorem dX6_sayBody_149 : decode cX6_sayBody 149 = .ok (.aload_n 0, 1) := by decide +kernel
theorem dX6_sayBody_150 : decode cX6_sayBody 150 = .ok (.iload_n 2, 1) := by decide +kernel
theorem dX6_sayBody_151 : decode cX6_sayBody 151 = .ok (.iconst 0, 1) := by decide +kernel
theorem dX6_sayBody_152 : decode cX6_sayBody 152 = .ok (.iload 6, 2) := by decide +kernel
theorem dX6_sayBody_154 : decode cX6_sayBody 154 = .ok (.iload 4, 2) := by decide +kernel
theorem dX6_sayBody_156 : decode cX6_sayBody 156 = .ok (.iload 5, 2) := by decide +kernel
theorem dX6_sayBody_158 : decode cX6_sayBody 158 = .ok (.invokevirtual 249, 3) := by decide +kernel
theorem dX6_sayBody_161 : decode cX6_sayBody 161 = .ok (.iconst 2, 1) := by decide +kernel
theorem dX6_sayBody_162 : decode cX6_sayBody 162 = .ok (.imul, 1) := by decide +kernel
theorem dX6_sayBody_163 : decode cX6_sayBody 163 = .ok (.ireturn, 1) := by decide +kernel
theorem dX6_sayBody_164 : decode cX6_sayBody 164 = .ok (.aload_n 0, 1) := by decide +kernel
theorem dX6_sayBody_165 : decode cX6_sayBody 165 = .ok (.iload_n 2, 1) := by decide +kernel
theorem dX6_sayBody_166 : decode cX6_sayBody 166 = .ok (.iconst 1, 1) := by decide +kernel
theorem dX6_sayBody_167 : decode cX6_sayBody 167 = .ok (.iload 6, 2) := by decide +kernel
theorem dX6_sayBody_169 : decode cX6_sayBody 169 = .ok (.iload 4, 2) := by decide +kernel
theorem dX6_sayBody_171 : decode cX6_sayBody 171 = .ok (.iload 5, 2) := by decide +kernel
theorem dX6_sayBody_173 : decode cX6_sayBody 173 = .ok (.invokevirtual 249, 3) := by decide +kernel
theorem dX6_sayBody_176 : decode cX6_sayBody 176 = .ok (.iload 7, 2) := by decide +kernel
theorem dX6_sayBody_178 : decode cX6_sayBody 178 = .ok (.isub, 1) := by decide +kernel
theorem dX6_sayBody_179 : decode cX6_sayBody 179 = .ok (.ireturn, 1) := by decide +kernel
theorem dX6_sayBody_180 : decode cX6_sayBody 180 = .ok (.aload_n 0, 1) := by decide +kernel
theorem dX6_sayBody_181 : decode cX6_sayBody 181 = .ok (.iload 4, 2) := by decide +kernel
theorem dX6_sayBody_183 : decode cX6_sayBody 183 = .ok (.iload 7, 2) := by decide +kernel
theorem dX6_sayBody_185 : decode cX6_sayBody 185 = .ok (.iload_n 2, 1) := by decide +kernel
theorem dX6_sayBody_186 : decode cX6_sayBody 186 = .ok (.isub, 1) := by decide +kernel
theorem dX6_sayBody_187 : decode cX6_sayBody 187 = .ok (.invokevirtual 321, 3) := by decide +kernel
theorem dX6_sayBody_190 : decode cX6_sayBody 190 = .ok (.ireturn, 1) := by decide +kernel
theorem dX6_sayBody_191 : decode cX6_sayBody 191 = .ok (.aload_n 0, 1) := by decide +kernel
theorem dX6_sayBody_192 : decode cX6_sayBody 192 = .ok (.iload_n 2, 1) := by decide +kernel
theorem dX6_sayBody_193 : decode cX6_sayBody 193 = .ok (.iconst 0, 1) := by decide +kernel
theorem dX6_sayBody_194 : decode cX6_sayBody 194 = .ok (.iload_n 3, 1) := by decide +kernel
theorem dX6_sayBody_195 : decode cX6_sayBody 195 = .ok (.iload 4, 2) := by decide +kernel
theorem dX6_sayBody_197 : decode cX6_sayBody 197 = .ok (.iload 5, 2) := by decide +kernel
theorem dX6_sayBody_199 : decode cX6_sayBody 199 = .ok (.invokevirtual 249, 3) := by decide +kernel
theorem dX6_sayBody_202 : decode cX6_sayBody 202 = .ok (.iconst 4, 1) := by decide +kernel
theorem dX6_sayBody_203 : decode cX6_sayBody 203 = .ok (.isub, 1) := by decide +kernel
theorem dX6_sayBody_204 : decode cX6_sayBody 204 = .ok (.ireturn, 1) := by decide +kernel
theorem dX6_sayBody_205 : decode cX6_sayBody 205 = .ok (.aload_n 0, 1) := by decide +kernel
theorem dX6_sayBody_206 : decode cX6_sayBody 206 = .ok (.iload_n 2, 1) := by decide +kernel
theorem dX6_sayBody_207 : decode cX6_sayBody 207 = .ok (.iconst 3, 1) := by decide +kernel
theorem dX6_sayBody_208 : decode cX6_sayBody 208 = .ok (.iload_n 3, 1) := by decide +kernel
theorem dX6_sayBody_209 : decode cX6_sayBody 209 = .ok (.iload 4, 2) := by decide +kernel
theorem dX6_sayBody_211 : decode cX6_sayBody 211 = .ok (.iload 5, 2) := by decide +kernel
theorem dX6_sayBody_213 : decode cX6_sayBody 213 = .ok (.invokevirtual 249, 3) := by decide +kernel
theorem dX6_sayBody_216 : decode cX6_sayBody 216 = .ok (.aload_n 0, 1) := by decide +kernel
theorem dX6_sayBody_217 : decode cX6_sayBody 217 = .ok (.iload_n 2, 1) := by decide +kernel
theorem dX6_sayBody_218 : decode cX6_sayBody 218 = .ok (.iconst 1, 1) := by decide +kernel
theorem dX6_sayBody_219 : decode cX6_sayBody 219 = .ok (.iload 6, 2) := by decide +kernel
theorem dX6_sayBody_221 : decode cX6_sayBody 221 = .ok (.iconst 1, 1) := by decide +kernel
theorem dX6_sayBody_222 : decode cX6_sayBody 222 = .ok (.iload 5, 2) := by decide +kernel
theorem dX6_sayBody_224 : decode cX6_sayBody 224 = .ok (.invokevirtual 249, 3) := by decide +kernel
theorem dX6_sayBody_227 : decode cX6_sayBody 227 = .ok (.iadd, 1) := by decide +kernel
theorem dX6_sayBody_228 : decode cX6_sayBody 228 = .ok (.ireturn, 1) := by decide +kernel
theorem dX6_sayBody_229 : decode cX6_sayBody 229 = .ok (.iconst 0, 1) := by decide +kernel
theorem dX6_sayBody_230 : decode cX6_sayBody 230 = .ok (.aload_n 0, 1) := by decide +kernel
theorem dX6_sayBody_231 : decode cX6_sayBody 231 = .ok (.iload_n 2, 1) := by decide +kernel
theorem dX6_sayBody_232 : decode cX6_sayBody 232 = .ok (.iconst 1, 1) := by decide +kernel
theorem dX6_sayBody_233 : decode cX6_sayBody 233 = .ok (.iload_n 3, 1) := by decide +kernel
theorem dX6_sayBody_234 : decode cX6_sayBody 234 = .ok (.iload 4, 2) := by decide +kernel
theorem dX6_sayBody_236 : decode cX6_sayBody 236 = .ok (.iload 5, 2) := by decide +kernel
theorem dX6_sayBody_238 : decode cX6_sayBody 238 = .ok (.invokevirtual 249, 3) := by decide +kernel
theorem dX6_sayBody_241 : decode cX6_sayBody 241 = .ok (.isub, 1) := by decide +kernel
theorem dX6_sayBody_242 : decode cX6_sayBody 242 = .ok (.ireturn, 1) := by decide +kernel
theorem dX6_sayBody_243 : decode cX6_sayBody 243 = .ok (.aload_n 0, 1) := by decide +kernel
theorem dX6_sayBody_244 : decode cX6_sayBody 244 = .ok (.iload_n 2, 1) := by decide +kernel
theorem dX6_sayBody_245 : decode cX6_sayBody 245 = .ok (.iconst 2, 1) := by decide +kernel
theorem dX6_sayBody_246 : decode cX6_sayBody 246 = .ok (.iload_n 3, 1) := by decide +kernel
theorem dX6_sayBody_247 : decode cX6_sayBody 247 = .ok (.iload 4, 2) := by decide +kernel
theorem dX6_sayBody_249 : decode cX6_sayBody 249 = .ok (.iconst 2, 1) := by decide +kernel
theorem dX6_sayBody_250 : decode cX6_sayBody 250 = .ok (.idiv, 1) := by decide +kernel
theorem dX6_sayBody_251 : decode cX6_sayBody 251 = .ok (.iload 5, 2) := by decide +kernel
theorem dX6_sayBody_253 : decode cX6_sayBody 253 = .ok (.invokevirtual 249, 3) := by decide +kernel
theorem dX6_sayBody_256 : decode cX6_sayBody 256 = .ok (.ireturn, 1) := by decide +kernel
theorem dX6_sayBody_257 : decode cX6_sayBody 257 = .ok (.aload_n 0, 1) := by decide +kernel
theorem dX6_sayBody_258 : decode cX6_sayBody 258 = .ok (.iload_n 2, 1) := by decide +kernel
theorem dX6_sayBody_259 : decode cX6_sayBody 259 = .ok (.iconst 0, 1) := by decide +kernel
theorem dX6_sayBody_260 : decode cX6_sayBody 260 = .ok (.iload_n 3, 1) := by decide +kernel
theorem dX6_sayBody_261 : decode cX6_sayBody 261 = .ok (.iload 4, 2) := by decide +kernel
theorem dX6_sayBody_263 : decode cX6_sayBody 263 = .ok (.iload 5, 2) := by decide +kernel
theorem dX6_sayBody_265 : decode cX6_sayBody 265 = .ok (.invokevirtual 249, 3) := by decide +kernel
theorem dX6_sayBody_268 : decode cX6_sayBody 268 = .ok (.iconst 3, 1) := by decide +kernel
theorem dX6_sayBody_269 : decode cX6_sayBody 269 = .ok (.imul, 1) := by decide +kernel
theorem dX6_sayBody_270 : decode cX6_sayBody 270 = .ok (.ireturn, 1) := by decide +kernel
theorem dX6_sayBody_271 : decode cX6_sayBody 271 = .ok (.aload_n 0, 1) := by decide +kernel
theorem dX6_sayBody_272 : decode cX6_sayBody 272 = .ok (.iload_n 2, 1) := by decide +kernel
theorem dX6_sayBody_273 : decode cX6_sayBody 273 = .ok (.iconst 2, 1) := by decide +kernel
theorem dX6_sayBody_274 : decode cX6_sayBody 274 = .ok (.iload_n 3, 1) := by decide +kernel
theorem dX6_sayBody_275 : decode cX6_sayBody 275 = .ok (.iload 4, 2) := by decide +kernel
theorem dX6_sayBody_277 : decode cX6_sayBody 277 = .ok (.iload 5, 2) := by decide +kernel
theorem dX6_sayBody_279 : decode cX6_sayBody 279 = .ok (.invokevirtual 249, 3) := by decide +kernel
theorem dX6_sayBody_282 : decode cX6_sayBody 282 = .ok (.iload_n 2, 1) := by decide +kernel
theorem dX6_sayBody_283 : decode cX6_sayBody 283 = .ok (.ixor, 1) := by decide +kernel
theorem dX6_sayBody_284 : decode cX6_sayBody 284 = .ok (.ireturn, 1) := by decide +kernel
theorem dX6_sayBody_285 : decode cX6_sayBody 285 = .ok (.aload_n 0, 1) := by decide +kernel
theorem dX6_sayBody_286 : decode cX6_sayBody 286 = .ok (.iload_n 2, 1) := by decide +kernel
theorem dX6_sayBody_287 : decode cX6_sayBody 287 = .ok (.iconst 1, 1) := by decide +kernel
theorem dX6_sayBody_288 : decode cX6_sayBody 288 = .ok (.iload_n 3, 1) := by decide +kernel
theorem dX6_sayBody_289 : decode cX6_sayBody 289 = .ok (.iload 4, 2) := by decide +kernel
theorem dX6_sayBody_291 : decode cX6_sayBody 291 = .ok (.iconst 1, 1) := by decide +kernel
theorem dX6_sayBody_292 : decode cX6_sayBody 292 = .ok (.iadd, 1) := by decide +kernel
theorem dX6_sayBody_293 : decode cX6_sayBody 293 = .ok (.iload 5, 2) := by decide +kernel
theorem dX6_sayBody_295 : decode cX6_sayBody 295 = .ok (.invokevirtual 249, 3) := by decide +kernel
theorem dX6_sayBody_298 : decode cX6_sayBody 298 = .ok (.ireturn, 1) := by decide +kernel
theorem dX6_sayBody_299 : decode cX6_sayBody 299 = .ok (.bipush 9, 2) := by decide +kernel
theorem dX6_sayBody_301 : decode cX6_sayBody 301 = .ok (.ireturn, 1) := by decide +kernel
theorem dX6_sayBody_302 : decode cX6_sayBody 302 = .ok (.aload_n 0, 1) := by decide +kernel
theorem dX6_sayBody_303 : decode cX6_sayBody 303 = .ok (.iload_n 2, 1) := by decide +kernel
theorem dX6_sayBody_304 : decode cX6_sayBody 304 = .ok (.iconst 1, 1) := by decide +kernel
theorem dX6_sayBody_305 : decode cX6_sayBody 305 = .ok (.iload_n 3, 1) := by decide +kernel
theorem dX6_sayBody_306 : decode cX6_sayBody 306 = .ok (.iload 4, 2) := by decide +kernel
theorem dX6_sayBody_308 : decode cX6_sayBody 308 = .ok (.iload 5, 2) := by decide +kernel
theorem dX6_sayBody_310 : decode cX6_sayBody 310 = .ok (.invokevirtual 249, 3) := by decide +kernel
theorem dX6_sayBody_313 : decode cX6_sayBody 313 = .ok (.iload 7, 2) := by decide +kernel
theorem dX6_sayBody_315 : decode cX6_sayBody 315 = .ok (.iadd, 1) := by decide +kernel
theorem dX6_sayBody_316 : decode cX6_sayBody 316 = .ok (.ireturn, 1) := by decide +kernel
theorem dX6_sayBody_317 : decode cX6_sayBody 317 = .ok (.iconst 0, 1) := by decide +kernel
theorem dX6_sayBody_318 : decode cX6_sayBody 318 = .ok (.ireturn, 1) := by decide +kernel
theorem dX6_partsOf_0 : decode cX6_partsOf 0 = .ok (.iload_n 2, 1) := by decide +kernel
theorem dX6_partsOf_1 : decode cX6_partsOf 1 = .ok (.ifCond .ne 10, 3) := by decide +kernel
theorem dX6_partsOf_4 : decode cX6_partsOf 4 = .ok (.aload_n 0, 1) := by decide +kernel
theorem dX6_partsOf_5 : decode cX6_partsOf 5 = .ok (.iconst 1, 1) := by decide +kernel
theorem dX6_partsOf_6 : decode cX6_partsOf 6 = .ok (.putfield 64, 3) := by decide +kernel
theorem dX6_partsOf_9 : decode cX6_partsOf 9 = .ok (.iconst 0, 1) := by decide +kernel
theorem dX6_partsOf_10 : decode cX6_partsOf 10 = .ok (.ireturn, 1) := by decide +kernel
theorem dX6_partsOf_11 : decode cX6_partsOf 11 = .ok (.iload_n 1, 1) := by decide +kernel
theorem dX6_partsOf_12 : decode cX6_partsOf 12 = .ok (.iload_n 2, 1) := by decide +kernel
theorem dX6_partsOf_13 : decode cX6_partsOf 13 = .ok (.idiv, 1) := by decide +kernel
theorem dX6_partsOf_14 : decode cX6_partsOf 14 = .ok (.ireturn, 1) := by decide +kernel
