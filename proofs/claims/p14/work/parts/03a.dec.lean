theorem dX4_init_0 : decode cX4_init 0 = .ok (.aload_n 0, 1) := by decide +kernel
theorem dX4_init_1 : decode cX4_init 1 = .ok (.invokespecial 3, 3) := by decide +kernel
theorem dX4_init_4 : decode cX4_init 4 = .ok (.aload_n 0, 1) := by decide +kernel
theorem dX4_init_5 : decode cX4_init 5 = .ok (.bipush 9, 2) := by decide +kernel
theorem dX4_init_7 : decode cX4_init 7 = .ok (.newarray .long, 2) := by decide +kernel
theorem dX4_init_9 : decode cX4_init 9 = .ok (.putfield 9, 3) := by decide +kernel
theorem dX4_init_12 : decode cX4_init 12 = .ok (.return_, 1) := by decide +kernel
theorem dX4_isTrue_0 : decode cX4_isTrue 0 = .ok (.iload_n 0, 1) := by decide +kernel
theorem dX4_isTrue_1 : decode cX4_isTrue 1 = .ok (.tableswitch 63 2 4 #[27, 39, 51], 27) := by decide +kernel
theorem dX4_isTrue_28 : decode cX4_isTrue 28 = .ok (.lload_n 1, 1) := by decide +kernel
theorem dX4_isTrue_29 : decode cX4_isTrue 29 = .ok (.lconst 0, 1) := by decide +kernel
theorem dX4_isTrue_30 : decode cX4_isTrue 30 = .ok (.lcmp, 1) := by decide +kernel
theorem dX4_isTrue_31 : decode cX4_isTrue 31 = .ok (.ifCond .ne 7, 3) := by decide +kernel
theorem dX4_isTrue_34 : decode cX4_isTrue 34 = .ok (.iconst 1, 1) := by decide +kernel
theorem dX4_isTrue_35 : decode cX4_isTrue 35 = .ok (.goto 4, 3) := by decide +kernel
theorem dX4_isTrue_38 : decode cX4_isTrue 38 = .ok (.iconst 0, 1) := by decide +kernel
theorem dX4_isTrue_39 : decode cX4_isTrue 39 = .ok (.ireturn, 1) := by decide +kernel
theorem dX4_isTrue_40 : decode cX4_isTrue 40 = .ok (.lload_n 1, 1) := by decide +kernel
theorem dX4_isTrue_41 : decode cX4_isTrue 41 = .ok (.lconst 0, 1) := by decide +kernel
theorem dX4_isTrue_42 : decode cX4_isTrue 42 = .ok (.lcmp, 1) := by decide +kernel
theorem dX4_isTrue_43 : decode cX4_isTrue 43 = .ok (.ifCond .eq 7, 3) := by decide +kernel
theorem dX4_isTrue_46 : decode cX4_isTrue 46 = .ok (.iconst 1, 1) := by decide +kernel
theorem dX4_isTrue_47 : decode cX4_isTrue 47 = .ok (.goto 4, 3) := by decide +kernel
theorem dX4_isTrue_50 : decode cX4_isTrue 50 = .ok (.iconst 0, 1) := by decide +kernel
theorem dX4_isTrue_51 : decode cX4_isTrue 51 = .ok (.ireturn, 1) := by decide +kernel
theorem dX4_isTrue_52 : decode cX4_isTrue 52 = .ok (.lload_n 1, 1) := by decide +kernel
theorem dX4_isTrue_53 : decode cX4_isTrue 53 = .ok (.lconst 0, 1) := by decide +kernel
theorem dX4_isTrue_54 : decode cX4_isTrue 54 = .ok (.lcmp, 1) := by decide +kernel
theorem dX4_isTrue_55 : decode cX4_isTrue 55 = .ok (.ifCond .ge 7, 3) := by decide +kernel
theorem dX4_isTrue_58 : decode cX4_isTrue 58 = .ok (.iconst 1, 1) := by decide +kernel
theorem dX4_isTrue_59 : decode cX4_isTrue 59 = .ok (.goto 4, 3) := by decide +kernel
theorem dX4_isTrue_62 : decode cX4_isTrue 62 = .ok (.iconst 0, 1) := by decide +kernel
theorem dX4_isTrue_63 : decode cX4_isTrue 63 = .ok (.ireturn, 1) := by decide +kernel
theorem dX4_isTrue_64 : decode cX4_isTrue 64 = .ok (.lload_n 1, 1) := by decide +kernel
theorem dX4_isTrue_65 : decode cX4_isTrue 65 = .ok (.lconst 0, 1) := by decide +kernel
theorem dX4_isTrue_66 : decode cX4_isTrue 66 = .ok (.lcmp, 1) := by decide +kernel
theorem dX4_isTrue_67 : decode cX4_isTrue 67 = .ok (.ifCond .gt 7, 3) := by decide +kernel
theorem dX4_isTrue_70 : decode cX4_isTrue 70 = .ok (.iconst 1, 1) := by decide +kernel
theorem dX4_isTrue_71 : decode cX4_isTrue 71 = .ok (.goto 4, 3) := by decide +kernel
theorem dX4_isTrue_74 : decode cX4_isTrue 74 = .ok (.iconst 0, 1) := by decide +kernel
theorem dX4_isTrue_75 : decode cX4_isTrue 75 = .ok (.ireturn, 1) := by decide +kernel
theorem dX4_empty_0 : decode cX4_empty 0 = .ok (.aload_n 0, 1) := by decide +kernel
theorem dX4_empty_1 : decode cX4_empty 1 = .ok (.getfield 9, 3) := by decide +kernel
theorem dX4_empty_4 : decode cX4_empty 4 = .ok (.lconst 0, 1) := by decide +kernel
theorem dX4_empty_5 : decode cX4_empty 5 = .ok (.invokestatic 15, 3) := by decide +kernel
theorem dX4_empty_8 : decode cX4_empty 8 = .ok (.return_, 1) := by decide +kernel
theorem dX4_add_0 : decode cX4_add 0 = .ok (.iload_n 1, 1) := by decide +kernel
theorem dX4_add_1 : decode cX4_add 1 = .ok (.ifCond .lt 19, 3) := by decide +kernel
theorem dX4_add_4 : decode cX4_add 4 = .ok (.iload_n 1, 1) := by decide +kernel
theorem dX4_add_5 : decode cX4_add 5 = .ok (.bipush 9, 2) := by decide +kernel
theorem dX4_add_7 : decode cX4_add 7 = .ok (.if_icmp .ge 13, 3) := by decide +kernel
theorem dX4_add_10 : decode cX4_add 10 = .ok (.aload_n 0, 1) := by decide +kernel
theorem dX4_add_11 : decode cX4_add 11 = .ok (.getfield 9, 3) := by decide +kernel
theorem dX4_add_14 : decode cX4_add 14 = .ok (.iload_n 1, 1) := by decide +kernel
theorem dX4_add_15 : decode cX4_add 15 = .ok (.dup2, 1) := by decide +kernel
theorem dX4_add_16 : decode cX4_add 16 = .ok (.laload, 1) := by decide +kernel
theorem dX4_add_17 : decode cX4_add 17 = .ok (.lload_n 2, 1) := by decide +kernel
theorem dX4_add_18 : decode cX4_add 18 = .ok (.ladd, 1) := by decide +kernel
theorem dX4_add_19 : decode cX4_add 19 = .ok (.lastore, 1) := by decide +kernel
theorem dX4_add_20 : decode cX4_add 20 = .ok (.return_, 1) := by decide +kernel
theorem dX4_turn_0 : decode cX4_turn 0 = .ok (.iconst 0, 1) := by decide +kernel
theorem dX4_turn_1 : decode cX4_turn 1 = .ok (.istore_n 1, 1) := by decide +kernel
theorem dX4_turn_2 : decode cX4_turn 2 = .ok (.iload_n 1, 1) := by decide +kernel
theorem dX4_turn_3 : decode cX4_turn 3 = .ok (.bipush 9, 2) := by decide +kernel
theorem dX4_turn_5 : decode cX4_turn 5 = .ok (.if_icmp .ge 22, 3) := by decide +kernel
theorem dX4_turn_8 : decode cX4_turn 8 = .ok (.aload_n 0, 1) := by decide +kernel
theorem dX4_turn_9 : decode cX4_turn 9 = .ok (.getfield 9, 3) := by decide +kernel
theorem dX4_turn_12 : decode cX4_turn 12 = .ok (.iload_n 1, 1) := by decide +kernel
theorem dX4_turn_13 : decode cX4_turn 13 = .ok (.aload_n 0, 1) := by decide +kernel
theorem dX4_turn_14 : decode cX4_turn 14 = .ok (.getfield 9, 3) := by decide +kernel
theorem dX4_turn_17 : decode cX4_turn 17 = .ok (.iload_n 1, 1) := by decide +kernel
theorem dX4_turn_18 : decode cX4_turn 18 = .ok (.laload, 1) := by decide +kernel
theorem dX4_turn_19 : decode cX4_turn 19 = .ok (.lneg, 1) := by decide +kernel
theorem dX4_turn_20 : decode cX4_turn 20 = .ok (.lastore, 1) := by decide +kernel
theorem dX4_turn_21 : decode cX4_turn 21 = .ok (.iinc 1 1, 3) := by decide +kernel
theorem dX4_turn_24 : decode cX4_turn 24 = .ok (.goto (-22), 3) := by decide +kernel
theorem dX4_turn_27 : decode cX4_turn 27 = .ok (.return_, 1) := by decide +kernel
theorem dX4_bits_0 : decode cX4_bits 0 = .ok (.iconst 0, 1) := by decide +kernel
theorem dX4_bits_1 : decode cX4_bits 1 = .ok (.istore_n 1, 1) := by decide +kernel
theorem dX4_bits_2 : decode cX4_bits 2 = .ok (.iconst 0, 1) := by decide +kernel
theorem dX4_bits_3 : decode cX4_bits 3 = .ok (.istore_n 2, 1) := by decide +kernel
theorem dX4_bits_4 : decode cX4_bits 4 = .ok (.iload_n 2, 1) := by decide +kernel
theorem dX4_bits_5 : decode cX4_bits 5 = .ok (.bipush 8, 2) := by decide +kernel
theorem dX4_bits_7 : decode cX4_bits 7 = .ok (.if_icmp .ge 26, 3) := by decide +kernel
theorem dX4_bits_10 : decode cX4_bits 10 = .ok (.aload_n 0, 1) := by decide +kernel
theorem dX4_bits_11 : decode cX4_bits 11 = .ok (.getfield 9, 3) := by decide +kernel
theorem dX4_bits_14 : decode cX4_bits 14 = .ok (.iload_n 2, 1) := by decide +kernel
theorem dX4_bits_15 : decode cX4_bits 15 = .ok (.laload, 1) := by decide +kernel
theorem dX4_bits_16 : decode cX4_bits 16 = .ok (.lconst 0, 1) := by decide +kernel
theorem dX4_bits_17 : decode cX4_bits 17 = .ok (.lcmp, 1) := by decide +kernel
theorem dX4_bits_18 : decode cX4_bits 18 = .ok (.ifCond .eq 9, 3) := by decide +kernel
theorem dX4_bits_21 : decode cX4_bits 21 = .ok (.iload_n 1, 1) := by decide +kernel
theorem dX4_bits_22 : decode cX4_bits 22 = .ok (.iconst 1, 1) := by decide +kernel
theorem dX4_bits_23 : decode cX4_bits 23 = .ok (.iload_n 2, 1) := by decide +kernel
theorem dX4_bits_24 : decode cX4_bits 24 = .ok (.ishl, 1) := by decide +kernel
theorem dX4_bits_25 : decode cX4_bits 25 = .ok (.ior, 1) := by decide +kernel
theorem dX4_bits_26 : decode cX4_bits 26 = .ok (.istore_n 1, 1) := by decide +kernel
theorem dX4_bits_27 : decode cX4_bits 27 = .ok (.iinc 2 1, 3) := by decide +kernel
theorem dX4_bits_30 : decode cX4_bits 30 = .ok (.goto (-26), 3) := by decide +kernel
theorem dX4_bits_33 : decode cX4_bits 33 = .ok (.iload_n 1, 1) := by decide +kernel
theorem dX4_bits_34 : decode cX4_bits 34 = .ok (.ireturn, 1) := by decide +kernel
theorem dX4_settle_0 : decode cX4_settle 0 = .ok (.iconst 0, 1) := by decide +kernel
theorem dX4_settle_1 : decode cX4_settle 1 = .ok (.istore_n 2, 1) := by decide +kernel
theorem dX4_settle_2 : decode cX4_settle 2 = .ok (.iload_n 2, 1) := by decide +kernel
theorem dX4_settle_3 : decode cX4_settle 3 = .ok (.bipush 8, 2) := by decide +kernel
theorem dX4_settle_5 : decode cX4_settle 5 = .ok (.if_icmp .ge 20, 3) := by decide +kernel
theorem dX4_settle_8 : decode cX4_settle 8 = .ok (.aload_n 0, 1) := by decide +kernel
theorem dX4_settle_9 : decode cX4_settle 9 = .ok (.getfield 9, 3) := by decide +kernel
theorem dX4_settle_12 : decode cX4_settle 12 = .ok (.iload_n 2, 1) := by decide +kernel
theorem dX4_settle_13 : decode cX4_settle 13 = .ok (.laload, 1) := by decide +kernel
theorem dX4_settle_14 : decode cX4_settle 14 = .ok (.lconst 0, 1) := by decide +kernel
theorem dX4_settle_15 : decode cX4_settle 15 = .ok (.lcmp, 1) := by decide +kernel
theorem dX4_settle_16 : decode cX4_settle 16 = .ok (.ifCond .ne 9, 3) := by decide +kernel
theorem dX4_settle_19 : decode cX4_settle 19 = .ok (.iinc 2 1, 3) := by decide +kernel
theorem dX4_settle_22 : decode cX4_settle 22 = .ok (.goto (-20), 3) := by decide +kernel
theorem dX4_settle_25 : decode cX4_settle 25 = .ok (.iload_n 2, 1) := by decide +kernel
theorem dX4_settle_26 : decode cX4_settle 26 = .ok (.bipush 8, 2) := by decide +kernel
theorem dX4_settle_28 : decode cX4_settle 28 = .ok (.if_icmp .ne 23, 3) := by decide +kernel
theorem dX4_settle_31 : decode cX4_settle 31 = .ok (.iload_n 1, 1) := by decide +kernel
theorem dX4_settle_32 : decode cX4_settle 32 = .ok (.aload_n 0, 1) := by decide +kernel
theorem dX4_settle_33 : decode cX4_settle 33 = .ok (.getfield 9, 3) := by decide +kernel
theorem dX4_settle_36 : decode cX4_settle 36 = .ok (.bipush 8, 2) := by decide +kernel
theorem dX4_settle_38 : decode cX4_settle 38 = .ok (.laload, 1) := by decide +kernel
theorem dX4_settle_39 : decode cX4_settle 39 = .ok (.invokestatic 21, 3) := by decide +kernel
theorem dX4_settle_42 : decode cX4_settle 42 = .ok (.ifCond .eq 7, 3) := by decide +kernel
theorem dX4_settle_45 : decode cX4_settle 45 = .ok (.iconst 0, 1) := by decide +kernel
theorem dX4_settle_46 : decode cX4_settle 46 = .ok (.goto 4, 3) := by decide +kernel
theorem dX4_settle_49 : decode cX4_settle 49 = .ok (.iconst 1, 1) := by decide +kernel
theorem dX4_settle_50 : decode cX4_settle 50 = .ok (.ireturn, 1) := by decide +kernel
theorem dX4_settle_51 : decode cX4_settle 51 = .ok (.aload_n 0, 1) := by decide +kernel
theorem dX4_settle_52 : decode cX4_settle 52 = .ok (.invokevirtual 25, 3) := by decide +kernel
theorem dX4_settle_55 : decode cX4_settle 55 = .ok (.lstore_n 3, 1) := by decide +kernel
theorem dX4_settle_56 : decode cX4_settle 56 = .ok (.lload_n 3, 1) := by decide +kernel
theorem dX4_settle_57 : decode cX4_settle 57 = .ok (.lconst 1, 1) := by decide +kernel
theorem dX4_settle_58 : decode cX4_settle 58 = .ok (.lcmp, 1) := by decide +kernel
theorem dX4_settle_59 : decode cX4_settle 59 = .ok (.ifCond .le 30, 3) := by decide +kernel
theorem dX4_settle_62 : decode cX4_settle 62 = .ok (.iconst 0, 1) := by decide +kernel
theorem dX4_settle_63 : decode cX4_settle 63 = .ok (.istore 5, 2) := by decide +kernel
theorem dX4_settle_65 : decode cX4_settle 65 = .ok (.iload 5, 2) := by decide +kernel
theorem dX4_settle_67 : decode cX4_settle 67 = .ok (.bipush 9, 2) := by decide +kernel
theorem dX4_settle_69 : decode cX4_settle 69 = .ok (.if_icmp .ge 20, 3) := by decide +kernel
theorem dX4_settle_72 : decode cX4_settle 72 = .ok (.aload_n 0, 1) := by decide +kernel
theorem dX4_settle_73 : decode cX4_settle 73 = .ok (.getfield 9, 3) := by decide +kernel
theorem dX4_settle_76 : decode cX4_settle 76 = .ok (.iload 5, 2) := by decide +kernel
theorem dX4_settle_78 : decode cX4_settle 78 = .ok (.dup2, 1) := by decide +kernel
theorem dX4_settle_79 : decode cX4_settle 79 = .ok (.laload, 1) := by decide +kernel
theorem dX4_settle_80 : decode cX4_settle 80 = .ok (.lload_n 3, 1) := by decide +kernel
theorem dX4_settle_81 : decode cX4_settle 81 = .ok (.ldiv, 1) := by decide +kernel
theorem dX4_settle_82 : decode cX4_settle 82 = .ok (.lastore, 1) := by decide +kernel
theorem dX4_settle_83 : decode cX4_settle 83 = .ok (.iinc 5 1, 3) := by decide +kernel
theorem dX4_settle_86 : decode cX4_settle 86 = .ok (.goto (-21), 3) := by decide +kernel
theorem dX4_settle_89 : decode cX4_settle 89 = .ok (.iconst 0, 1) := by decide +kernel
theorem dX4_settle_90 : decode cX4_settle 90 = .ok (.istore 5, 2) := by decide +kernel
theorem dX4_settle_92 : decode cX4_settle 92 = .ok (.iload 5, 2) := by decide +kernel
theorem dX4_settle_94 : decode cX4_settle 94 = .ok (.bipush 9, 2) := by decide +kernel
theorem dX4_settle_96 : decode cX4_settle 96 = .ok (.if_icmp .ge 29, 3) := by decide +kernel
theorem dX4_settle_99 : decode cX4_settle 99 = .ok (.aload_n 0, 1) := by decide +kernel
theorem dX4_settle_100 : decode cX4_settle 100 = .ok (.getfield 9, 3) := by decide +kernel
theorem dX4_settle_103 : decode cX4_settle 103 = .ok (.iload 5, 2) := by decide +kernel
theorem dX4_settle_105 : decode cX4_settle 105 = .ok (.laload, 1) := by decide +kernel
theorem dX4_settle_106 : decode cX4_settle 106 = .ok (.invokestatic 29, 3) := by decide +kernel
theorem dX4_settle_109 : decode cX4_settle 109 = .ok (.ldc2_w 35, 3) := by decide +kernel
theorem dX4_settle_112 : decode cX4_settle 112 = .ok (.lcmp, 1) := by decide +kernel
theorem dX4_settle_113 : decode cX4_settle 113 = .ok (.ifCond .le 6, 3) := by decide +kernel
theorem dX4_settle_116 : decode cX4_settle 116 = .ok (.bipush (-2), 2) := by decide +kernel
theorem dX4_settle_118 : decode cX4_settle 118 = .ok (.ireturn, 1) := by decide +kernel
theorem dX4_settle_119 : decode cX4_settle 119 = .ok (.iinc 5 1, 3) := by decide +kernel
theorem dX4_settle_122 : decode cX4_settle 122 = .ok (.goto (-30), 3) := by decide +kernel
theorem dX4_settle_125 : decode cX4_settle 125 = .ok (.iload_n 1, 1) := by decide +kernel
theorem dX4_settle_126 : decode cX4_settle 126 = .ok (.iconst 2, 1) := by decide +kernel
theorem dX4_settle_127 : decode cX4_settle 127 = .ok (.if_icmp .eq 8, 3) := by decide +kernel
theorem dX4_settle_130 : decode cX4_settle 130 = .ok (.iload_n 1, 1) := by decide +kernel
theorem dX4_settle_131 : decode cX4_settle 131 = .ok (.iconst 3, 1) := by decide +kernel
theorem dX4_settle_132 : decode cX4_settle 132 = .ok (.if_icmp .ne 18, 3) := by decide +kernel
theorem dX4_settle_135 : decode cX4_settle 135 = .ok (.aload_n 0, 1) := by decide +kernel
theorem dX4_settle_136 : decode cX4_settle 136 = .ok (.getfield 9, 3) := by decide +kernel
theorem dX4_settle_139 : decode cX4_settle 139 = .ok (.iload_n 2, 1) := by decide +kernel
theorem dX4_settle_140 : decode cX4_settle 140 = .ok (.laload, 1) := by decide +kernel
theorem dX4_settle_141 : decode cX4_settle 141 = .ok (.lconst 0, 1) := by decide +kernel
theorem dX4_settle_142 : decode cX4_settle 142 = .ok (.lcmp, 1) := by decide +kernel
theorem dX4_settle_143 : decode cX4_settle 143 = .ok (.ifCond .ge 7, 3) := by decide +kernel
theorem dX4_settle_146 : decode cX4_settle 146 = .ok (.aload_n 0, 1) := by decide +kernel
theorem dX4_settle_147 : decode cX4_settle 147 = .ok (.invokevirtual 37, 3) := by decide +kernel
theorem dX4_settle_150 : decode cX4_settle 150 = .ok (.iload_n 1, 1) := by decide +kernel
theorem dX4_settle_151 : decode cX4_settle 151 = .ok (.ireturn, 1) := by decide +kernel
theorem dX4_commonDivisor_0 : decode cX4_commonDivisor 0 = .ok (.lconst 0, 1) := by decide +kernel
theorem dX4_commonDivisor_1 : decode cX4_commonDivisor 1 = .ok (.lstore_n 1, 1) := by decide +kernel
theorem dX4_commonDivisor_2 : decode cX4_commonDivisor 2 = .ok (.iconst 0, 1) := by decide +kernel
theorem dX4_commonDivisor_3 : decode cX4_commonDivisor 3 = .ok (.istore_n 3, 1) := by decide +kernel
theorem dX4_commonDivisor_4 : decode cX4_commonDivisor 4 = .ok (.iload_n 3, 1) := by decide +kernel
theorem dX4_commonDivisor_5 : decode cX4_commonDivisor 5 = .ok (.bipush 9, 2) := by decide +kernel
theorem dX4_commonDivisor_7 : decode cX4_commonDivisor 7 = .ok (.if_icmp .ge 63, 3) := by decide +kernel
theorem dX4_commonDivisor_10 : decode cX4_commonDivisor 10 = .ok (.lload_n 1, 1) := by decide +kernel
theorem dX4_commonDivisor_11 : decode cX4_commonDivisor 11 = .ok (.lconst 1, 1) := by decide +kernel
theorem dX4_commonDivisor_12 : decode cX4_commonDivisor 12 = .ok (.lcmp, 1) := by decide +kernel
theorem dX4_commonDivisor_13 : decode cX4_commonDivisor 13 = .ok (.ifCond .eq 57, 3) := by decide +kernel
theorem dX4_commonDivisor_16 : decode cX4_commonDivisor 16 = .ok (.aload_n 0, 1) := by decide +kernel
theorem dX4_commonDivisor_17 : decode cX4_commonDivisor 17 = .ok (.getfield 9, 3) := by decide +kernel
theorem dX4_commonDivisor_20 : decode cX4_commonDivisor 20 = .ok (.iload_n 3, 1) := by decide +kernel
theorem dX4_commonDivisor_21 : decode cX4_commonDivisor 21 = .ok (.laload, 1) := by decide +kernel
theorem dX4_commonDivisor_22 : decode cX4_commonDivisor 22 = .ok (.invokestatic 29, 3) := by decide +kernel
theorem dX4_commonDivisor_25 : decode cX4_commonDivisor 25 = .ok (.lstore 4, 2) := by decide +kernel
theorem dX4_commonDivisor_27 : decode cX4_commonDivisor 27 = .ok (.iconst 0, 1) := by decide +kernel
theorem dX4_commonDivisor_28 : decode cX4_commonDivisor 28 = .ok (.istore 6, 2) := by decide +kernel
theorem dX4_commonDivisor_30 : decode cX4_commonDivisor 30 = .ok (.iload 6, 2) := by decide +kernel
theorem dX4_commonDivisor_32 : decode cX4_commonDivisor 32 = .ok (.sipush 200, 3) := by decide +kernel
theorem dX4_commonDivisor_35 : decode cX4_commonDivisor 35 = .ok (.if_icmp .ge 29, 3) := by decide +kernel
theorem dX4_commonDivisor_38 : decode cX4_commonDivisor 38 = .ok (.lload 4, 2) := by decide +kernel
theorem dX4_commonDivisor_40 : decode cX4_commonDivisor 40 = .ok (.lconst 0, 1) := by decide +kernel
theorem dX4_commonDivisor_41 : decode cX4_commonDivisor 41 = .ok (.lcmp, 1) := by decide +kernel
theorem dX4_commonDivisor_42 : decode cX4_commonDivisor 42 = .ok (.ifCond .eq 22, 3) := by decide +kernel
theorem dX4_commonDivisor_45 : decode cX4_commonDivisor 45 = .ok (.lload_n 1, 1) := by decide +kernel
theorem dX4_commonDivisor_46 : decode cX4_commonDivisor 46 = .ok (.lload 4, 2) := by decide +kernel
theorem dX4_commonDivisor_48 : decode cX4_commonDivisor 48 = .ok (.lrem, 1) := by decide +kernel
theorem dX4_commonDivisor_49 : decode cX4_commonDivisor 49 = .ok (.lstore 7, 2) := by decide +kernel
theorem dX4_commonDivisor_51 : decode cX4_commonDivisor 51 = .ok (.lload 4, 2) := by decide +kernel
theorem dX4_commonDivisor_53 : decode cX4_commonDivisor 53 = .ok (.lstore_n 1, 1) := by decide +kernel
theorem dX4_commonDivisor_54 : decode cX4_commonDivisor 54 = .ok (.lload 7, 2) := by decide +kernel
theorem dX4_commonDivisor_56 : decode cX4_commonDivisor 56 = .ok (.lstore 4, 2) := by decide +kernel
theorem dX4_commonDivisor_58 : decode cX4_commonDivisor 58 = .ok (.iinc 6 1, 3) := by decide +kernel
theorem dX4_commonDivisor_61 : decode cX4_commonDivisor 61 = .ok (.goto (-31), 3) := by decide +kernel
theorem dX4_commonDivisor_64 : decode cX4_commonDivisor 64 = .ok (.iinc 3 1, 3) := by decide +kernel
theorem dX4_commonDivisor_67 : decode cX4_commonDivisor 67 = .ok (.goto (-63), 3) := by decide +kernel
theorem dX4_commonDivisor_70 : decode cX4_commonDivisor 70 = .ok (.lload_n 1, 1) := by decide +kernel
theorem dX4_commonDivisor_71 : decode cX4_commonDivisor 71 = .ok (.lreturn, 1) := by decide +kernel
theorem dX5_init_0 : decode cX5_init 0 = .ok (.aload_n 0, 1) := by decide +kernel
theorem dX5_init_1 : decode cX5_init 1 = .ok (.invokespecial 3, 3) := by decide +kernel
theorem dX5_init_4 : decode cX5_init 4 = .ok (.aload_n 0, 1) := by decide +kernel
theorem dX5_init_5 : decode cX5_init 5 = .ok (.iload_n 1, 1) := by decide +kernel
theorem dX5_init_6 : decode cX5_init 6 = .ok (.iconst 1, 1) := by decide +kernel
theorem dX5_init_7 : decode cX5_init 7 = .ok (.invokestatic 9, 3) := by decide +kernel
theorem dX5_init_10 : decode cX5_init 10 = .ok (.bipush 10, 2) := by decide +kernel
theorem dX5_init_12 : decode cX5_init 12 = .ok (.imul, 1) := by decide +kernel
theorem dX5_init_13 : decode cX5_init 13 = .ok (.newarray .int, 2) := by decide +kernel
theorem dX5_init_15 : decode cX5_init 15 = .ok (.putfield 15, 3) := by decide +kernel
theorem dX5_init_18 : decode cX5_init 18 = .ok (.return_, 1) := by decide +kernel
theorem dX5_kind_0 : decode cX5_kind 0 = .ok (.iload_n 1, 1) := by decide +kernel
theorem dX5_kind_1 : decode cX5_kind 1 = .ok (.ifCond .lt 23, 3) := by decide +kernel
theorem dX5_kind_4 : decode cX5_kind 4 = .ok (.iload_n 1, 1) := by decide +kernel
theorem dX5_kind_5 : decode cX5_kind 5 = .ok (.aload_n 0, 1) := by decide +kernel
theorem dX5_kind_6 : decode cX5_kind 6 = .ok (.getfield 21, 3) := by decide +kernel
theorem dX5_kind_9 : decode cX5_kind 9 = .ok (.if_icmp .ge 15, 3) := by decide +kernel
theorem dX5_kind_12 : decode cX5_kind 12 = .ok (.aload_n 0, 1) := by decide +kernel
theorem dX5_kind_13 : decode cX5_kind 13 = .ok (.getfield 15, 3) := by decide +kernel
theorem dX5_kind_16 : decode cX5_kind 16 = .ok (.iload_n 1, 1) := by decide +kernel
theorem dX5_kind_17 : decode cX5_kind 17 = .ok (.bipush 10, 2) := by decide +kernel
theorem dX5_kind_19 : decode cX5_kind 19 = .ok (.imul, 1) := by decide +kernel
theorem dX5_kind_20 : decode cX5_kind 20 = .ok (.iaload, 1) := by decide +kernel
theorem dX5_kind_21 : decode cX5_kind 21 = .ok (.goto 4, 3) := by decide +kernel
theorem dX5_kind_24 : decode cX5_kind 24 = .ok (.iconst 1, 1) := by decide +kernel
theorem dX5_kind_25 : decode cX5_kind 25 = .ok (.ireturn, 1) := by decide +kernel
theorem dX5_number_0 : decode cX5_number 0 = .ok (.iload_n 1, 1) := by decide +kernel
theorem dX5_number_1 : decode cX5_number 1 = .ok (.ifCond .lt 37, 3) := by decide +kernel
theorem dX5_number_4 : decode cX5_number 4 = .ok (.iload_n 1, 1) := by decide +kernel
theorem dX5_number_5 : decode cX5_number 5 = .ok (.aload_n 0, 1) := by decide +kernel
theorem dX5_number_6 : decode cX5_number 6 = .ok (.getfield 21, 3) := by decide +kernel
theorem dX5_number_9 : decode cX5_number 9 = .ok (.if_icmp .ge 29, 3) := by decide +kernel
theorem dX5_number_12 : decode cX5_number 12 = .ok (.iload_n 2, 1) := by decide +kernel
theorem dX5_number_13 : decode cX5_number 13 = .ok (.ifCond .lt 25, 3) := by decide +kernel
theorem dX5_number_16 : decode cX5_number 16 = .ok (.iload_n 2, 1) := by decide +kernel
theorem dX5_number_17 : decode cX5_number 17 = .ok (.bipush 9, 2) := by decide +kernel
theorem dX5_number_19 : decode cX5_number 19 = .ok (.if_icmp .ge 19, 3) := by decide +kernel
theorem dX5_number_22 : decode cX5_number 22 = .ok (.aload_n 0, 1) := by decide +kernel
theorem dX5_number_23 : decode cX5_number 23 = .ok (.getfield 15, 3) := by decide +kernel
theorem dX5_number_26 : decode cX5_number 26 = .ok (.iload_n 1, 1) := by decide +kernel
theorem dX5_number_27 : decode cX5_number 27 = .ok (.bipush 10, 2) := by decide +kernel
theorem dX5_number_29 : decode cX5_number 29 = .ok (.imul, 1) := by decide +kernel
theorem dX5_number_30 : decode cX5_number 30 = .ok (.iconst 1, 1) := by decide +kernel
theorem dX5_number_31 : decode cX5_number 31 = .ok (.iadd, 1) := by decide +kernel
theorem dX5_number_32 : decode cX5_number 32 = .ok (.iload_n 2, 1) := by decide +kernel
theorem dX5_number_33 : decode cX5_number 33 = .ok (.iadd, 1) := by decide +kernel
theorem dX5_number_34 : decode cX5_number 34 = .ok (.iaload, 1) := by decide +kernel
theorem dX5_number_35 : decode cX5_number 35 = .ok (.goto 4, 3) := by decide +kernel
theorem dX5_number_38 : decode cX5_number 38 = .ok (.iconst 0, 1) := by decide +kernel
theorem dX5_number_39 : decode cX5_number 39 = .ok (.ireturn, 1) := by decide +kernel
theorem dX5_setNumber_0 : decode cX5_setNumber 0 = .ok (.iload_n 1, 1) := by decide +kernel
theorem dX5_setNumber_1 : decode cX5_setNumber 1 = .ok (.ifCond .lt 35, 3) := by decide +kernel
theorem dX5_setNumber_4 : decode cX5_setNumber 4 = .ok (.iload_n 1, 1) := by decide +kernel
theorem dX5_setNumber_5 : decode cX5_setNumber 5 = .ok (.aload_n 0, 1) := by decide +kernel
theorem dX5_setNumber_6 : decode cX5_setNumber 6 = .ok (.getfield 21, 3) := by decide +kernel
theorem dX5_setNumber_9 : decode cX5_setNumber 9 = .ok (.if_icmp .ge 27, 3) := by decide +kernel
theorem dX5_setNumber_12 : decode cX5_setNumber 12 = .ok (.iload_n 2, 1) := by decide +kernel
theorem dX5_setNumber_13 : decode cX5_setNumber 13 = .ok (.ifCond .lt 23, 3) := by decide +kernel
theorem dX5_setNumber_16 : decode cX5_setNumber 16 = .ok (.iload_n 2, 1) := by decide +kernel
theorem dX5_setNumber_17 : decode cX5_setNumber 17 = .ok (.bipush 9, 2) := by decide +kernel
theorem dX5_setNumber_19 : decode cX5_setNumber 19 = .ok (.if_icmp .ge 17, 3) := by decide +kernel
theorem dX5_setNumber_22 : decode cX5_setNumber 22 = .ok (.aload_n 0, 1) := by decide +kernel
theorem dX5_setNumber_23 : decode cX5_setNumber 23 = .ok (.getfield 15, 3) := by decide +kernel
theorem dX5_setNumber_26 : decode cX5_setNumber 26 = .ok (.iload_n 1, 1) := by decide +kernel
theorem dX5_setNumber_27 : decode cX5_setNumber 27 = .ok (.bipush 10, 2) := by decide +kernel
theorem dX5_setNumber_29 : decode cX5_setNumber 29 = .ok (.imul, 1) := by decide +kernel
theorem dX5_setNumber_30 : decode cX5_setNumber 30 = .ok (.iconst 1, 1) := by decide +kernel
theorem dX5_setNumber_31 : decode cX5_setNumber 31 = .ok (.iadd, 1) := by decide +kernel
theorem dX5_setNumber_32 : decode cX5_setNumber 32 = .ok (.iload_n 2, 1) := by decide +kernel
theorem dX5_setNumber_33 : decode cX5_setNumber 33 = .ok (.iadd, 1) := by decide +kernel
theorem dX5_setNumber_34 : decode cX5_setNumber 34 = .ok (.iload_n 3, 1) := by decide +kernel
theorem dX5_setNumber_35 : decode cX5_setNumber 35 = .ok (.iastore, 1) := by decide +kernel
theorem dX5_setNumber_36 : decode cX5_setNumber 36 = .ok (.return_, 1) := by decide +kernel
theorem dX5_reserve_0 : decode cX5_reserve 0 = .ok (.aload_n 0, 1) := by decide +kernel
theorem dX5_reserve_1 : decode cX5_reserve 1 = .ok (.getfield 21, 3) := by decide +kernel
theorem dX5_reserve_4 : decode cX5_reserve 4 = .ok (.iload_n 1, 1) := by decide +kernel
theorem dX5_reserve_5 : decode cX5_reserve 5 = .ok (.iadd, 1) := by decide +kernel
theorem dX5_reserve_6 : decode cX5_reserve 6 = .ok (.istore_n 2, 1) := by decide +kernel
theorem dX5_reserve_7 : decode cX5_reserve 7 = .ok (.iload_n 2, 1) := by decide +kernel
theorem dX5_reserve_8 : decode cX5_reserve 8 = .ok (.sipush 10000, 3) := by decide +kernel
theorem dX5_reserve_11 : decode cX5_reserve 11 = .ok (.if_icmp .le 5, 3) := by decide +kernel
theorem dX5_reserve_14 : decode cX5_reserve 14 = .ok (.iconst 0, 1) := by decide +kernel
theorem dX5_reserve_15 : decode cX5_reserve 15 = .ok (.ireturn, 1) := by decide +kernel
theorem dX5_reserve_16 : decode cX5_reserve 16 = .ok (.iload_n 2, 1) := by decide +kernel
theorem dX5_reserve_17 : decode cX5_reserve 17 = .ok (.bipush 10, 2) := by decide +kernel
theorem dX5_reserve_19 : decode cX5_reserve 19 = .ok (.imul, 1) := by decide +kernel
theorem dX5_reserve_20 : decode cX5_reserve 20 = .ok (.aload_n 0, 1) := by decide +kernel
theorem dX5_reserve_21 : decode cX5_reserve 21 = .ok (.getfield 15, 3) := by decide +kernel
theorem dX5_reserve_24 : decode cX5_reserve 24 = .ok (.arraylength, 1) := by decide +kernel
theorem dX5_reserve_25 : decode cX5_reserve 25 = .ok (.if_icmp .le 26, 3) := by decide +kernel
theorem dX5_reserve_28 : decode cX5_reserve 28 = .ok (.aload_n 0, 1) := by decide +kernel
theorem dX5_reserve_29 : decode cX5_reserve 29 = .ok (.aload_n 0, 1) := by decide +kernel
theorem dX5_reserve_30 : decode cX5_reserve 30 = .ok (.getfield 15, 3) := by decide +kernel
theorem dX5_reserve_33 : decode cX5_reserve 33 = .ok (.iconst 2, 1) := by decide +kernel
theorem dX5_reserve_34 : decode cX5_reserve 34 = .ok (.iload_n 2, 1) := by decide +kernel
theorem dX5_reserve_35 : decode cX5_reserve 35 = .ok (.imul, 1) := by decide +kernel
theorem dX5_reserve_36 : decode cX5_reserve 36 = .ok (.sipush 10000, 3) := by decide +kernel
theorem dX5_reserve_39 : decode cX5_reserve 39 = .ok (.invokestatic 25, 3) := by decide +kernel
theorem dX5_reserve_42 : decode cX5_reserve 42 = .ok (.bipush 10, 2) := by decide +kernel
theorem dX5_reserve_44 : decode cX5_reserve 44 = .ok (.imul, 1) := by decide +kernel
theorem dX5_reserve_45 : decode cX5_reserve 45 = .ok (.invokestatic 28, 3) := by decide +kernel
theorem dX5_reserve_48 : decode cX5_reserve 48 = .ok (.putfield 15, 3) := by decide +kernel
theorem dX5_reserve_51 : decode cX5_reserve 51 = .ok (.iconst 1, 1) := by decide +kernel
theorem dX5_reserve_52 : decode cX5_reserve 52 = .ok (.ireturn, 1) := by decide +kernel
theorem dX5_add_0 : decode cX5_add 0 = .ok (.aload_n 0, 1) := by decide +kernel
theorem dX5_add_1 : decode cX5_add 1 = .ok (.getfield 21, 3) := by decide +kernel
theorem dX5_add_4 : decode cX5_add 4 = .ok (.bipush 10, 2) := by decide +kernel
theorem dX5_add_6 : decode cX5_add 6 = .ok (.imul, 1) := by decide +kernel
theorem dX5_add_7 : decode cX5_add 7 = .ok (.istore_n 2, 1) := by decide +kernel
theorem dX5_add_8 : decode cX5_add 8 = .ok (.iload_n 2, 1) := by decide +kernel
theorem dX5_add_9 : decode cX5_add 9 = .ok (.bipush 10, 2) := by decide +kernel
theorem dX5_add_11 : decode cX5_add 11 = .ok (.iadd, 1) := by decide +kernel
theorem dX5_add_12 : decode cX5_add 12 = .ok (.aload_n 0, 1) := by decide +kernel
theorem dX5_add_13 : decode cX5_add 13 = .ok (.getfield 15, 3) := by decide +kernel
theorem dX5_add_16 : decode cX5_add 16 = .ok (.arraylength, 1) := by decide +kernel
theorem dX5_add_17 : decode cX5_add 17 = .ok (.if_icmp .gt 33, 3) := by decide +kernel
theorem dX5_add_20 : decode cX5_add 20 = .ok (.aload_n 0, 1) := by decide +kernel
theorem dX5_add_21 : decode cX5_add 21 = .ok (.getfield 15, 3) := by decide +kernel
theorem dX5_add_24 : decode cX5_add 24 = .ok (.iload_n 2, 1) := by decide +kernel
theorem dX5_add_25 : decode cX5_add 25 = .ok (.iload_n 2, 1) := by decide +kernel
theorem dX5_add_26 : decode cX5_add 26 = .ok (.bipush 10, 2) := by decide +kernel
theorem dX5_add_28 : decode cX5_add 28 = .ok (.iadd, 1) := by decide +kernel
theorem dX5_add_29 : decode cX5_add 29 = .ok (.iconst 0, 1) := by decide +kernel
theorem dX5_add_30 : decode cX5_add 30 = .ok (.invokestatic 34, 3) := by decide +kernel
theorem dX5_add_33 : decode cX5_add 33 = .ok (.aload_n 0, 1) := by decide +kernel
theorem dX5_add_34 : decode cX5_add 34 = .ok (.getfield 15, 3) := by decide +kernel
theorem dX5_add_37 : decode cX5_add 37 = .ok (.iload_n 2, 1) := by decide +kernel
theorem dX5_add_38 : decode cX5_add 38 = .ok (.iload_n 1, 1) := by decide +kernel
theorem dX5_add_39 : decode cX5_add 39 = .ok (.iastore, 1) := by decide +kernel
theorem dX5_add_40 : decode cX5_add 40 = .ok (.aload_n 0, 1) := by decide +kernel
theorem dX5_add_41 : decode cX5_add 41 = .ok (.dup, 1) := by decide +kernel
theorem dX5_add_42 : decode cX5_add 42 = .ok (.getfield 21, 3) := by decide +kernel
theorem dX5_add_45 : decode cX5_add 45 = .ok (.iconst 1, 1) := by decide +kernel
theorem dX5_add_46 : decode cX5_add 46 = .ok (.iadd, 1) := by decide +kernel
theorem dX5_add_47 : decode cX5_add 47 = .ok (.putfield 21, 3) := by decide +kernel
theorem dX5_add_50 : decode cX5_add 50 = .ok (.return_, 1) := by decide +kernel
theorem dX5_append_0 : decode cX5_append 0 = .ok (.iload_n 3, 1) := by decide +kernel
theorem dX5_append_1 : decode cX5_append 1 = .ok (.iload_n 2, 1) := by decide +kernel
theorem dX5_append_2 : decode cX5_append 2 = .ok (.isub, 1) := by decide +kernel
theorem dX5_append_3 : decode cX5_append 3 = .ok (.istore 4, 2) := by decide +kernel
theorem dX5_append_5 : decode cX5_append 5 = .ok (.iload_n 2, 1) := by decide +kernel
theorem dX5_append_6 : decode cX5_append 6 = .ok (.ifCond .lt 72, 3) := by decide +kernel
theorem dX5_append_9 : decode cX5_append 9 = .ok (.iload 4, 2) := by decide +kernel
theorem dX5_append_11 : decode cX5_append 11 = .ok (.ifCond .lt 67, 3) := by decide +kernel
theorem dX5_append_14 : decode cX5_append 14 = .ok (.iload_n 3, 1) := by decide +kernel
theorem dX5_append_15 : decode cX5_append 15 = .ok (.aload_n 1, 1) := by decide +kernel
theorem dX5_append_16 : decode cX5_append 16 = .ok (.getfield 21, 3) := by decide +kernel
theorem dX5_append_19 : decode cX5_append 19 = .ok (.if_icmp .gt 59, 3) := by decide +kernel
theorem dX5_append_22 : decode cX5_append 22 = .ok (.aload_n 0, 1) := by decide +kernel
theorem dX5_append_23 : decode cX5_append 23 = .ok (.getfield 21, 3) := by decide +kernel
theorem dX5_append_26 : decode cX5_append 26 = .ok (.iload 4, 2) := by decide +kernel
theorem dX5_append_28 : decode cX5_append 28 = .ok (.iadd, 1) := by decide +kernel
theorem dX5_append_29 : decode cX5_append 29 = .ok (.bipush 10, 2) := by decide +kernel
theorem dX5_append_31 : decode cX5_append 31 = .ok (.imul, 1) := by decide +kernel
theorem dX5_append_32 : decode cX5_append 32 = .ok (.aload_n 0, 1) := by decide +kernel
theorem dX5_append_33 : decode cX5_append 33 = .ok (.getfield 15, 3) := by decide +kernel
theorem dX5_append_36 : decode cX5_append 36 = .ok (.arraylength, 1) := by decide +kernel
theorem dX5_append_37 : decode cX5_append 37 = .ok (.if_icmp .gt 41, 3) := by decide +kernel
theorem dX5_append_40 : decode cX5_append 40 = .ok (.aload_n 1, 1) := by decide +kernel
theorem dX5_append_41 : decode cX5_append 41 = .ok (.getfield 15, 3) := by decide +kernel
theorem dX5_append_44 : decode cX5_append 44 = .ok (.iload_n 2, 1) := by decide +kernel
theorem dX5_append_45 : decode cX5_append 45 = .ok (.bipush 10, 2) := by decide +kernel
theorem dX5_append_47 : decode cX5_append 47 = .ok (.imul, 1) := by decide +kernel
theorem dX5_append_48 : decode cX5_append 48 = .ok (.aload_n 0, 1) := by decide +kernel
theorem dX5_append_49 : decode cX5_append 49 = .ok (.getfield 15, 3) := by decide +kernel
theorem dX5_append_52 : decode cX5_append 52 = .ok (.aload_n 0, 1) := by decide +kernel
theorem dX5_append_53 : decode cX5_append 53 = .ok (.getfield 21, 3) := by decide +kernel
theorem dX5_append_56 : decode cX5_append 56 = .ok (.bipush 10, 2) := by decide +kernel
theorem dX5_append_58 : decode cX5_append 58 = .ok (.imul, 1) := by decide +kernel
theorem dX5_append_59 : decode cX5_append 59 = .ok (.iload 4, 2) := by decide +kernel
theorem dX5_append_61 : decode cX5_append 61 = .ok (.bipush 10, 2) := by decide +kernel
theorem dX5_append_63 : decode cX5_append 63 = .ok (.imul, 1) := by decide +kernel
theorem dX5_append_64 : decode cX5_append 64 = .ok (.invokestatic 38, 3) := by decide +kernel
theorem dX5_append_67 : decode cX5_append 67 = .ok (.aload_n 0, 1) := by decide +kernel
theorem dX5_append_68 : decode cX5_append 68 = .ok (.dup, 1) := by decide +kernel
theorem dX5_append_69 : decode cX5_append 69 = .ok (.getfield 21, 3) := by decide +kernel
theorem dX5_append_72 : decode cX5_append 72 = .ok (.iload 4, 2) := by decide +kernel
theorem dX5_append_74 : decode cX5_append 74 = .ok (.iadd, 1) := by decide +kernel
theorem dX5_append_75 : decode cX5_append 75 = .ok (.putfield 21, 3) := by decide +kernel
theorem dX5_append_78 : decode cX5_append 78 = .ok (.return_, 1) := by decide +kernel
theorem dX5_become_0 : decode cX5_become 0 = .ok (.aload_n 0, 1) := by decide +kernel
theorem dX5_become_1 : decode cX5_become 1 = .ok (.iconst 0, 1) := by decide +kernel
theorem dX5_become_2 : decode cX5_become 2 = .ok (.putfield 21, 3) := by decide +kernel
theorem dX5_become_5 : decode cX5_become 5 = .ok (.aload_n 0, 1) := by decide +kernel
theorem dX5_become_6 : decode cX5_become 6 = .ok (.aload_n 1, 1) := by decide +kernel
theorem dX5_become_7 : decode cX5_become 7 = .ok (.iload_n 2, 1) := by decide +kernel
theorem dX5_become_8 : decode cX5_become 8 = .ok (.iload_n 3, 1) := by decide +kernel
theorem dX5_become_9 : decode cX5_become 9 = .ok (.invokevirtual 44, 3) := by decide +kernel
theorem dX5_become_12 : decode cX5_become 12 = .ok (.return_, 1) := by decide +kernel
theorem dX5_cut_0 : decode cX5_cut 0 = .ok (.iload_n 1, 1) := by decide +kernel
theorem dX5_cut_1 : decode cX5_cut 1 = .ok (.ifCond .lt 16, 3) := by decide +kernel
theorem dX5_cut_4 : decode cX5_cut 4 = .ok (.iload_n 1, 1) := by decide +kernel
theorem dX5_cut_5 : decode cX5_cut 5 = .ok (.aload_n 0, 1) := by decide +kernel
theorem dX5_cut_6 : decode cX5_cut 6 = .ok (.getfield 21, 3) := by decide +kernel
theorem dX5_cut_9 : decode cX5_cut 9 = .ok (.if_icmp .ge 8, 3) := by decide +kernel
theorem dX5_cut_12 : decode cX5_cut 12 = .ok (.aload_n 0, 1) := by decide +kernel
theorem dX5_cut_13 : decode cX5_cut 13 = .ok (.iload_n 1, 1) := by decide +kernel
theorem dX5_cut_14 : decode cX5_cut 14 = .ok (.putfield 21, 3) := by decide +kernel
theorem dX5_cut_17 : decode cX5_cut 17 = .ok (.return_, 1) := by decide +kernel
theorem dX5_slide_0 : decode cX5_slide 0 = .ok (.iload_n 2, 1) := by decide +kernel
theorem dX5_slide_1 : decode cX5_slide 1 = .ok (.ifCond .lt 16, 3) := by decide +kernel
theorem dX5_slide_4 : decode cX5_slide 4 = .ok (.iload_n 2, 1) := by decide +kernel
theorem dX5_slide_5 : decode cX5_slide 5 = .ok (.iload_n 1, 1) := by decide +kernel
theorem dX5_slide_6 : decode cX5_slide 6 = .ok (.if_icmp .gt 11, 3) := by decide +kernel
theorem dX5_slide_9 : decode cX5_slide 9 = .ok (.iload_n 1, 1) := by decide +kernel
theorem dX5_slide_10 : decode cX5_slide 10 = .ok (.aload_n 0, 1) := by decide +kernel
theorem dX5_slide_11 : decode cX5_slide 11 = .ok (.getfield 21, 3) := by decide +kernel
theorem dX5_slide_14 : decode cX5_slide 14 = .ok (.if_icmp .le 4, 3) := by decide +kernel
theorem dX5_slide_17 : decode cX5_slide 17 = .ok (.return_, 1) := by decide +kernel
theorem dX5_slide_18 : decode cX5_slide 18 = .ok (.aload_n 0, 1) := by decide +kernel
theorem dX5_slide_19 : decode cX5_slide 19 = .ok (.getfield 15, 3) := by decide +kernel
theorem dX5_slide_22 : decode cX5_slide 22 = .ok (.iload_n 1, 1) := by decide +kernel
theorem dX5_slide_23 : decode cX5_slide 23 = .ok (.bipush 10, 2) := by decide +kernel
theorem dX5_slide_25 : decode cX5_slide 25 = .ok (.imul, 1) := by decide +kernel
theorem dX5_slide_26 : decode cX5_slide 26 = .ok (.aload_n 0, 1) := by decide +kernel
theorem dX5_slide_27 : decode cX5_slide 27 = .ok (.getfield 15, 3) := by decide +kernel
theorem dX5_slide_30 : decode cX5_slide 30 = .ok (.iload_n 2, 1) := by decide +kernel
theorem dX5_slide_31 : decode cX5_slide 31 = .ok (.bipush 10, 2) := by decide +kernel
theorem dX5_slide_33 : decode cX5_slide 33 = .ok (.imul, 1) := by decide +kernel
theorem dX5_slide_34 : decode cX5_slide 34 = .ok (.aload_n 0, 1) := by decide +kernel
theorem dX5_slide_35 : decode cX5_slide 35 = .ok (.getfield 21, 3) := by decide +kernel
theorem dX5_slide_38 : decode cX5_slide 38 = .ok (.iload_n 1, 1) := by decide +kernel
theorem dX5_slide_39 : decode cX5_slide 39 = .ok (.isub, 1) := by decide +kernel
theorem dX5_slide_40 : decode cX5_slide 40 = .ok (.bipush 10, 2) := by decide +kernel
theorem dX5_slide_42 : decode cX5_slide 42 = .ok (.imul, 1) := by decide +kernel
theorem dX5_slide_43 : decode cX5_slide 43 = .ok (.invokestatic 38, 3) := by decide +kernel
theorem dX5_slide_46 : decode cX5_slide 46 = .ok (.aload_n 0, 1) := by decide +kernel
theorem dX5_slide_47 : decode cX5_slide 47 = .ok (.dup, 1) := by decide +kernel
theorem dX5_slide_48 : decode cX5_slide 48 = .ok (.getfield 21, 3) := by decide +kernel
theorem dX5_slide_51 : decode cX5_slide 51 = .ok (.iload_n 1, 1) := by decide +kernel
theorem dX5_slide_52 : decode cX5_slide 52 = .ok (.iload_n 2, 1) := by decide +kernel
theorem dX5_slide_53 : decode cX5_slide 53 = .ok (.isub, 1) := by decide +kernel
theorem dX5_slide_54 : decode cX5_slide 54 = .ok (.isub, 1) := by decide +kernel
theorem dX5_slide_55 : decode cX5_slide 55 = .ok (.putfield 21, 3) := by decide +kernel
theorem dX5_slide_58 : decode cX5_slide 58 = .ok (.return_, 1) := by decide +kernel
theorem dX5_negate_0 : decode cX5_negate 0 = .ok (.iload_n 2, 1) := by decide +kernel
theorem dX5_negate_1 : decode cX5_negate 1 = .ok (.aload_n 0, 1) := by decide +kernel
theorem dX5_negate_2 : decode cX5_negate 2 = .ok (.getfield 21, 3) := by decide +kernel
theorem dX5_negate_5 : decode cX5_negate 5 = .ok (.invokestatic 25, 3) := by decide +kernel
theorem dX5_negate_8 : decode cX5_negate 8 = .ok (.istore_n 3, 1) := by decide +kernel
theorem dX5_negate_9 : decode cX5_negate 9 = .ok (.iload_n 1, 1) := by decide +kernel
theorem dX5_negate_10 : decode cX5_negate 10 = .ok (.iconst 0, 1) := by decide +kernel
theorem dX5_negate_11 : decode cX5_negate 11 = .ok (.invokestatic 9, 3) := by decide +kernel
theorem dX5_negate_14 : decode cX5_negate 14 = .ok (.istore 4, 2) := by decide +kernel
theorem dX5_negate_16 : decode cX5_negate 16 = .ok (.iload 4, 2) := by decide +kernel
theorem dX5_negate_18 : decode cX5_negate 18 = .ok (.iload_n 3, 1) := by decide +kernel
theorem dX5_negate_19 : decode cX5_negate 19 = .ok (.if_icmp .ge 85, 3) := by decide +kernel
theorem dX5_negate_22 : decode cX5_negate 22 = .ok (.iload 4, 2) := by decide +kernel
theorem dX5_negate_24 : decode cX5_negate 24 = .ok (.bipush 10, 2) := by decide +kernel
theorem dX5_negate_26 : decode cX5_negate 26 = .ok (.imul, 1) := by decide +kernel
theorem dX5_negate_27 : decode cX5_negate 27 = .ok (.istore 5, 2) := by decide +kernel
theorem dX5_negate_29 : decode cX5_negate 29 = .ok (.aload_n 0, 1) := by decide +kernel
theorem dX5_negate_30 : decode cX5_negate 30 = .ok (.getfield 15, 3) := by decide +kernel
theorem dX5_negate_33 : decode cX5_negate 33 = .ok (.iload 5, 2) := by decide +kernel
theorem dX5_negate_35 : decode cX5_negate 35 = .ok (.iaload, 1) := by decide +kernel
theorem dX5_negate_36 : decode cX5_negate 36 = .ok (.istore 6, 2) := by decide +kernel
theorem dX5_negate_38 : decode cX5_negate 38 = .ok (.aload_n 0, 1) := by decide +kernel
theorem dX5_negate_39 : decode cX5_negate 39 = .ok (.getfield 15, 3) := by decide +kernel
theorem dX5_negate_42 : decode cX5_negate 42 = .ok (.iload 5, 2) := by decide +kernel
theorem dX5_negate_44 : decode cX5_negate 44 = .ok (.iload 6, 2) := by decide +kernel
theorem dX5_negate_46 : decode cX5_negate 46 = .ok (.iconst 1, 1) := by decide +kernel
theorem dX5_negate_47 : decode cX5_negate 47 = .ok (.ixor, 1) := by decide +kernel
theorem dX5_negate_48 : decode cX5_negate 48 = .ok (.iastore, 1) := by decide +kernel
theorem dX5_negate_49 : decode cX5_negate 49 = .ok (.iload 6, 2) := by decide +kernel
theorem dX5_negate_51 : decode cX5_negate 51 = .ok (.iconst 4, 1) := by decide +kernel
theorem dX5_negate_52 : decode cX5_negate 52 = .ok (.if_icmp .eq 9, 3) := by decide +kernel
theorem dX5_negate_55 : decode cX5_negate 55 = .ok (.iload 6, 2) := by decide +kernel
theorem dX5_negate_57 : decode cX5_negate 57 = .ok (.iconst 5, 1) := by decide +kernel
theorem dX5_negate_58 : decode cX5_negate 58 = .ok (.if_icmp .ne 40, 3) := by decide +kernel
theorem dX5_negate_61 : decode cX5_negate 61 = .ok (.iload 5, 2) := by decide +kernel
theorem dX5_negate_63 : decode cX5_negate 63 = .ok (.iconst 1, 1) := by decide +kernel
theorem dX5_negate_64 : decode cX5_negate 64 = .ok (.iadd, 1) := by decide +kernel
theorem dX5_negate_65 : decode cX5_negate 65 = .ok (.istore 7, 2) := by decide +kernel
theorem dX5_negate_67 : decode cX5_negate 67 = .ok (.iload 7, 2) := by decide +kernel
theorem dX5_negate_69 : decode cX5_negate 69 = .ok (.iload 5, 2) := by decide +kernel
theorem dX5_negate_71 : decode cX5_negate 71 = .ok (.bipush 10, 2) := by decide +kernel
theorem dX5_negate_73 : decode cX5_negate 73 = .ok (.iadd, 1) := by decide +kernel
theorem dX5_negate_74 : decode cX5_negate 74 = .ok (.if_icmp .ge 24, 3) := by decide +kernel
theorem dX5_negate_77 : decode cX5_negate 77 = .ok (.aload_n 0, 1) := by decide +kernel
theorem dX5_negate_78 : decode cX5_negate 78 = .ok (.getfield 15, 3) := by decide +kernel
theorem dX5_negate_81 : decode cX5_negate 81 = .ok (.iload 7, 2) := by decide +kernel
theorem dX5_negate_83 : decode cX5_negate 83 = .ok (.aload_n 0, 1) := by decide +kernel
theorem dX5_negate_84 : decode cX5_negate 84 = .ok (.getfield 15, 3) := by decide +kernel
theorem dX5_negate_87 : decode cX5_negate 87 = .ok (.iload 7, 2) := by decide +kernel
theorem dX5_negate_89 : decode cX5_negate 89 = .ok (.iaload, 1) := by decide +kernel
theorem dX5_negate_90 : decode cX5_negate 90 = .ok (.ineg, 1) := by decide +kernel
theorem dX5_negate_91 : decode cX5_negate 91 = .ok (.iastore, 1) := by decide +kernel
theorem dX5_negate_92 : decode cX5_negate 92 = .ok (.iinc 7 1, 3) := by decide +kernel
theorem dX5_negate_95 : decode cX5_negate 95 = .ok (.goto (-28), 3) := by decide +kernel
theorem dX5_negate_98 : decode cX5_negate 98 = .ok (.iinc 4 1, 3) := by decide +kernel
theorem dX5_negate_101 : decode cX5_negate 101 = .ok (.goto (-85), 3) := by decide +kernel
theorem dX5_negate_104 : decode cX5_negate 104 = .ok (.return_, 1) := by decide +kernel
theorem dX5_repeats_0 : decode cX5_repeats 0 = .ok (.iload_n 1, 1) := by decide +kernel
theorem dX5_repeats_1 : decode cX5_repeats 1 = .ok (.ifCond .lt 15, 3) := by decide +kernel
theorem dX5_repeats_4 : decode cX5_repeats 4 = .ok (.iload_n 2, 1) := by decide +kernel
theorem dX5_repeats_5 : decode cX5_repeats 5 = .ok (.iload_n 1, 1) := by decide +kernel
theorem dX5_repeats_6 : decode cX5_repeats 6 = .ok (.isub, 1) := by decide +kernel
theorem dX5_repeats_7 : decode cX5_repeats 7 = .ok (.aload_n 0, 1) := by decide +kernel
theorem dX5_repeats_8 : decode cX5_repeats 8 = .ok (.getfield 21, 3) := by decide +kernel
theorem dX5_repeats_11 : decode cX5_repeats 11 = .ok (.iload_n 2, 1) := by decide +kernel
theorem dX5_repeats_12 : decode cX5_repeats 12 = .ok (.isub, 1) := by decide +kernel
theorem dX5_repeats_13 : decode cX5_repeats 13 = .ok (.if_icmp .eq 5, 3) := by decide +kernel
theorem dX5_repeats_16 : decode cX5_repeats 16 = .ok (.iconst 0, 1) := by decide +kernel
theorem dX5_repeats_17 : decode cX5_repeats 17 = .ok (.ireturn, 1) := by decide +kernel
theorem dX5_repeats_18 : decode cX5_repeats 18 = .ok (.iload_n 2, 1) := by decide +kernel
theorem dX5_repeats_19 : decode cX5_repeats 19 = .ok (.iload_n 1, 1) := by decide +kernel
theorem dX5_repeats_20 : decode cX5_repeats 20 = .ok (.isub, 1) := by decide +kernel
theorem dX5_repeats_21 : decode cX5_repeats 21 = .ok (.bipush 10, 2) := by decide +kernel
theorem dX5_repeats_23 : decode cX5_repeats 23 = .ok (.imul, 1) := by decide +kernel
theorem dX5_repeats_24 : decode cX5_repeats 24 = .ok (.istore_n 3, 1) := by decide +kernel
theorem dX5_repeats_25 : decode cX5_repeats 25 = .ok (.iload_n 2, 1) := by decide +kernel
theorem dX5_repeats_26 : decode cX5_repeats 26 = .ok (.bipush 10, 2) := by decide +kernel
theorem dX5_repeats_28 : decode cX5_repeats 28 = .ok (.imul, 1) := by decide +kernel
theorem dX5_repeats_29 : decode cX5_repeats 29 = .ok (.istore 4, 2) := by decide +kernel
theorem dX5_repeats_31 : decode cX5_repeats 31 = .ok (.iload 4, 2) := by decide +kernel
theorem dX5_repeats_33 : decode cX5_repeats 33 = .ok (.aload_n 0, 1) := by decide +kernel
theorem dX5_repeats_34 : decode cX5_repeats 34 = .ok (.getfield 21, 3) := by decide +kernel
theorem dX5_repeats_37 : decode cX5_repeats 37 = .ok (.bipush 10, 2) := by decide +kernel
theorem dX5_repeats_39 : decode cX5_repeats 39 = .ok (.imul, 1) := by decide +kernel
theorem dX5_repeats_40 : decode cX5_repeats 40 = .ok (.if_icmp .ge 30, 3) := by decide +kernel
theorem dX5_repeats_43 : decode cX5_repeats 43 = .ok (.aload_n 0, 1) := by decide +kernel
theorem dX5_repeats_44 : decode cX5_repeats 44 = .ok (.getfield 15, 3) := by decide +kernel
theorem dX5_repeats_47 : decode cX5_repeats 47 = .ok (.iload 4, 2) := by decide +kernel
theorem dX5_repeats_49 : decode cX5_repeats 49 = .ok (.iaload, 1) := by decide +kernel
theorem dX5_repeats_50 : decode cX5_repeats 50 = .ok (.aload_n 0, 1) := by decide +kernel
theorem dX5_repeats_51 : decode cX5_repeats 51 = .ok (.getfield 15, 3) := by decide +kernel
theorem dX5_repeats_54 : decode cX5_repeats 54 = .ok (.iload 4, 2) := by decide +kernel
theorem dX5_repeats_56 : decode cX5_repeats 56 = .ok (.iload_n 3, 1) := by decide +kernel
theorem dX5_repeats_57 : decode cX5_repeats 57 = .ok (.isub, 1) := by decide +kernel
theorem dX5_repeats_58 : decode cX5_repeats 58 = .ok (.iaload, 1) := by decide +kernel
theorem dX5_repeats_59 : decode cX5_repeats 59 = .ok (.if_icmp .eq 5, 3) := by decide +kernel
theorem dX5_repeats_62 : decode cX5_repeats 62 = .ok (.iconst 0, 1) := by decide +kernel
theorem dX5_repeats_63 : decode cX5_repeats 63 = .ok (.ireturn, 1) := by decide +kernel
theorem dX5_repeats_64 : decode cX5_repeats 64 = .ok (.iinc 4 1, 3) := by decide +kernel
theorem dX5_repeats_67 : decode cX5_repeats 67 = .ok (.goto (-36), 3) := by decide +kernel
theorem dX5_repeats_70 : decode cX5_repeats 70 = .ok (.iconst 1, 1) := by decide +kernel
theorem dX5_repeats_71 : decode cX5_repeats 71 = .ok (.ireturn, 1) := by decide +kernel
theorem dX5_howMany_0 : decode cX5_howMany 0 = .ok (.iconst 0, 1) := by decide +kernel
theorem dX5_howMany_1 : decode cX5_howMany 1 = .ok (.istore_n 3, 1) := by decide +kernel
theorem dX5_howMany_2 : decode cX5_howMany 2 = .ok (.iconst 0, 1) := by decide +kernel
theorem dX5_howMany_3 : decode cX5_howMany 3 = .ok (.istore 4, 2) := by decide +kernel
theorem dX5_howMany_5 : decode cX5_howMany 5 = .ok (.iload 4, 2) := by decide +kernel
theorem dX5_howMany_7 : decode cX5_howMany 7 = .ok (.aload_n 0, 1) := by decide +kernel
theorem dX5_howMany_8 : decode cX5_howMany 8 = .ok (.getfield 21, 3) := by decide +kernel
theorem dX5_howMany_11 : decode cX5_howMany 11 = .ok (.if_icmp .ge 36, 3) := by decide +kernel
theorem dX5_howMany_14 : decode cX5_howMany 14 = .ok (.aload_n 0, 1) := by decide +kernel
theorem dX5_howMany_15 : decode cX5_howMany 15 = .ok (.getfield 15, 3) := by decide +kernel
theorem dX5_howMany_18 : decode cX5_howMany 18 = .ok (.iload 4, 2) := by decide +kernel
theorem dX5_howMany_20 : decode cX5_howMany 20 = .ok (.bipush 10, 2) := by decide +kernel
theorem dX5_howMany_22 : decode cX5_howMany 22 = .ok (.imul, 1) := by decide +kernel
theorem dX5_howMany_23 : decode cX5_howMany 23 = .ok (.iaload, 1) := by decide +kernel
theorem dX5_howMany_24 : decode cX5_howMany 24 = .ok (.istore 5, 2) := by decide +kernel
theorem dX5_howMany_26 : decode cX5_howMany 26 = .ok (.iload 5, 2) := by decide +kernel
theorem dX5_howMany_28 : decode cX5_howMany 28 = .ok (.iload_n 1, 1) := by decide +kernel
theorem dX5_howMany_29 : decode cX5_howMany 29 = .ok (.if_icmp .lt 12, 3) := by decide +kernel
theorem dX5_howMany_32 : decode cX5_howMany 32 = .ok (.iload 5, 2) := by decide +kernel
theorem dX5_howMany_34 : decode cX5_howMany 34 = .ok (.iload_n 2, 1) := by decide +kernel
theorem dX5_howMany_35 : decode cX5_howMany 35 = .ok (.if_icmp .gt 6, 3) := by decide +kernel
theorem dX5_howMany_38 : decode cX5_howMany 38 = .ok (.iinc 3 1, 3) := by decide +kernel
theorem dX5_howMany_41 : decode cX5_howMany 41 = .ok (.iinc 4 1, 3) := by decide +kernel
theorem dX5_howMany_44 : decode cX5_howMany 44 = .ok (.goto (-39), 3) := by decide +kernel
theorem dX5_howMany_47 : decode cX5_howMany 47 = .ok (.iload_n 3, 1) := by decide +kernel
theorem dX5_howMany_48 : decode cX5_howMany 48 = .ok (.ireturn, 1) := by decide +kernel
theorem dX5_measure_0 : decode cX5_measure 0 = .ok (.aload_n 0, 1) := by decide +kernel
theorem dX5_measure_1 : decode cX5_measure 1 = .ok (.getfield 21, 3) := by decide +kernel
theorem dX5_measure_4 : decode cX5_measure 4 = .ok (.aload_n 1, 1) := by decide +kernel
theorem dX5_measure_5 : decode cX5_measure 5 = .ok (.arraylength, 1) := by decide +kernel
theorem dX5_measure_6 : decode cX5_measure 6 = .ok (.invokestatic 25, 3) := by decide +kernel
theorem dX5_measure_9 : decode cX5_measure 9 = .ok (.istore_n 2, 1) := by decide +kernel
theorem dX5_measure_10 : decode cX5_measure 10 = .ok (.iconst 0, 1) := by decide +kernel
theorem dX5_measure_11 : decode cX5_measure 11 = .ok (.istore_n 3, 1) := by decide +kernel
theorem dX5_measure_12 : decode cX5_measure 12 = .ok (.iload_n 3, 1) := by decide +kernel
theorem dX5_measure_13 : decode cX5_measure 13 = .ok (.iload_n 2, 1) := by decide +kernel
theorem dX5_measure_14 : decode cX5_measure 14 = .ok (.if_icmp .ge 85, 3) := by decide +kernel
theorem dX5_measure_17 : decode cX5_measure 17 = .ok (.aload_n 0, 1) := by decide +kernel
theorem dX5_measure_18 : decode cX5_measure 18 = .ok (.getfield 15, 3) := by decide +kernel
theorem dX5_measure_21 : decode cX5_measure 21 = .ok (.iload_n 3, 1) := by decide +kernel
theorem dX5_measure_22 : decode cX5_measure 22 = .ok (.bipush 10, 2) := by decide +kernel
theorem dX5_measure_24 : decode cX5_measure 24 = .ok (.imul, 1) := by decide +kernel
theorem dX5_measure_25 : decode cX5_measure 25 = .ok (.iaload, 1) := by decide +kernel
theorem dX5_measure_26 : decode cX5_measure 26 = .ok (.istore 4, 2) := by decide +kernel
theorem dX5_measure_28 : decode cX5_measure 28 = .ok (.iload_n 3, 1) := by decide +kernel
theorem dX5_measure_29 : decode cX5_measure 29 = .ok (.iconst 1, 1) := by decide +kernel
theorem dX5_measure_30 : decode cX5_measure 30 = .ok (.isub, 1) := by decide +kernel
theorem dX5_measure_31 : decode cX5_measure 31 = .ok (.istore 5, 2) := by decide +kernel
theorem dX5_measure_33 : decode cX5_measure 33 = .ok (.iload 4, 2) := by decide +kernel
theorem dX5_measure_35 : decode cX5_measure 35 = .ok (.bipush 6, 2) := by decide +kernel
theorem dX5_measure_37 : decode cX5_measure 37 = .ok (.if_icmp .lt 8, 3) := by decide +kernel
theorem dX5_measure_40 : decode cX5_measure 40 = .ok (.iload 5, 2) := by decide +kernel
theorem dX5_measure_42 : decode cX5_measure 42 = .ok (.ifCond .ge 10, 3) := by decide +kernel
theorem dX5_measure_45 : decode cX5_measure 45 = .ok (.aload_n 1, 1) := by decide +kernel
theorem dX5_measure_46 : decode cX5_measure 46 = .ok (.iload_n 3, 1) := by decide +kernel
theorem dX5_measure_47 : decode cX5_measure 47 = .ok (.iload_n 3, 1) := by decide +kernel
theorem dX5_measure_48 : decode cX5_measure 48 = .ok (.iastore, 1) := by decide +kernel
theorem dX5_measure_49 : decode cX5_measure 49 = .ok (.goto 44, 3) := by decide +kernel
theorem dX5_measure_52 : decode cX5_measure 52 = .ok (.iload 4, 2) := by decide +kernel
theorem dX5_measure_54 : decode cX5_measure 54 = .ok (.bipush 8, 2) := by decide +kernel
theorem dX5_measure_56 : decode cX5_measure 56 = .ok (.if_icmp .lt 13, 3) := by decide +kernel
theorem dX5_measure_59 : decode cX5_measure 59 = .ok (.aload_n 1, 1) := by decide +kernel
theorem dX5_measure_60 : decode cX5_measure 60 = .ok (.iload_n 3, 1) := by decide +kernel
theorem dX5_measure_61 : decode cX5_measure 61 = .ok (.aload_n 1, 1) := by decide +kernel
theorem dX5_measure_62 : decode cX5_measure 62 = .ok (.iload 5, 2) := by decide +kernel
theorem dX5_measure_64 : decode cX5_measure 64 = .ok (.iaload, 1) := by decide +kernel
theorem dX5_measure_65 : decode cX5_measure 65 = .ok (.iastore, 1) := by decide +kernel
theorem dX5_measure_66 : decode cX5_measure 66 = .ok (.goto 27, 3) := by decide +kernel
theorem dX5_measure_69 : decode cX5_measure 69 = .ok (.aload_n 1, 1) := by decide +kernel
theorem dX5_measure_70 : decode cX5_measure 70 = .ok (.iload 5, 2) := by decide +kernel
theorem dX5_measure_72 : decode cX5_measure 72 = .ok (.iaload, 1) := by decide +kernel
theorem dX5_measure_73 : decode cX5_measure 73 = .ok (.iconst 1, 1) := by decide +kernel
theorem dX5_measure_74 : decode cX5_measure 74 = .ok (.isub, 1) := by decide +kernel
theorem dX5_measure_75 : decode cX5_measure 75 = .ok (.istore 6, 2) := by decide +kernel
theorem dX5_measure_77 : decode cX5_measure 77 = .ok (.aload_n 1, 1) := by decide +kernel
theorem dX5_measure_78 : decode cX5_measure 78 = .ok (.iload_n 3, 1) := by decide +kernel
theorem dX5_measure_79 : decode cX5_measure 79 = .ok (.iload 6, 2) := by decide +kernel
theorem dX5_measure_81 : decode cX5_measure 81 = .ok (.ifCond .lt 10, 3) := by decide +kernel
theorem dX5_measure_84 : decode cX5_measure 84 = .ok (.aload_n 1, 1) := by decide +kernel
theorem dX5_measure_85 : decode cX5_measure 85 = .ok (.iload 6, 2) := by decide +kernel
theorem dX5_measure_87 : decode cX5_measure 87 = .ok (.iaload, 1) := by decide +kernel
theorem dX5_measure_88 : decode cX5_measure 88 = .ok (.goto 4, 3) := by decide +kernel
theorem dX5_measure_91 : decode cX5_measure 91 = .ok (.iconst 0, 1) := by decide +kernel
theorem dX5_measure_92 : decode cX5_measure 92 = .ok (.iastore, 1) := by decide +kernel
theorem dX5_measure_93 : decode cX5_measure 93 = .ok (.iinc 3 1, 3) := by decide +kernel
theorem dX5_measure_96 : decode cX5_measure 96 = .ok (.goto (-84), 3) := by decide +kernel
theorem dX5_measure_99 : decode cX5_measure 99 = .ok (.return_, 1) := by decide +kernel
theorem dX0_init_0 : decode cX0_init 0 = .ok (.aload_n 0, 1) := by decide +kernel
theorem dX0_init_1 : decode cX0_init 1 = .ok (.invokespecial 3, 3) := by decide +kernel
theorem dX0_init_4 : decode cX0_init 4 = .ok (.aload_n 0, 1) := by decide +kernel
theorem dX0_init_5 : decode cX0_init 5 = .ok (.sipush 402, 3) := by decide +kernel
theorem dX0_init_8 : decode cX0_init 8 = .ok (.newarray .int, 2) := by decide +kernel
theorem dX0_init_10 : decode cX0_init 10 = .ok (.putfield 11, 3) := by decide +kernel
theorem dX0_init_13 : decode cX0_init 13 = .ok (.aload_n 0, 1) := by decide +kernel
theorem dX0_init_14 : decode cX0_init 14 = .ok (.sipush 402, 3) := by decide +kernel
theorem dX0_init_17 : decode cX0_init 17 = .ok (.newarray .int, 2) := by decide +kernel
theorem dX0_init_19 : decode cX0_init 19 = .ok (.putfield 15, 3) := by decide +kernel
theorem dX0_init_22 : decode cX0_init 22 = .ok (.aload_n 0, 1) := by decide +kernel
theorem dX0_init_23 : decode cX0_init 23 = .ok (.new 18, 3) := by decide +kernel
theorem dX0_init_26 : decode cX0_init 26 = .ok (.dup, 1) := by decide +kernel
theorem dX0_init_27 : decode cX0_init 27 = .ok (.iload_n 1, 1) := by decide +kernel
theorem dX0_init_28 : decode cX0_init 28 = .ok (.invokespecial 20, 3) := by decide +kernel
theorem dX0_init_31 : decode cX0_init 31 = .ok (.putfield 23, 3) := by decide +kernel
theorem dX0_init_34 : decode cX0_init 34 = .ok (.return_, 1) := by decide +kernel
theorem dX0_begin_0 : decode cX0_begin 0 = .ok (.aload_n 0, 1) := by decide +kernel
theorem dX0_begin_1 : decode cX0_begin 1 = .ok (.getfield 23, 3) := by decide +kernel
theorem dX0_begin_4 : decode cX0_begin 4 = .ok (.iconst 0, 1) := by decide +kernel
theorem dX0_begin_5 : decode cX0_begin 5 = .ok (.invokevirtual 27, 3) := by decide +kernel
theorem dX0_begin_8 : decode cX0_begin 8 = .ok (.aload_n 0, 1) := by decide +kernel
theorem dX0_begin_9 : decode cX0_begin 9 = .ok (.iconst 0, 1) := by decide +kernel
theorem dX0_begin_10 : decode cX0_begin 10 = .ok (.putfield 30, 3) := by decide +kernel
theorem dX0_begin_13 : decode cX0_begin 13 = .ok (.return_, 1) := by decide +kernel
theorem dX0_push_0 : decode cX0_push 0 = .ok (.aload_n 0, 1) := by decide +kernel
theorem dX0_push_1 : decode cX0_push 1 = .ok (.iconst 0, 1) := by decide +kernel
theorem dX0_push_2 : decode cX0_push 2 = .ok (.invokevirtual 34, 3) := by decide +kernel
theorem dX0_push_5 : decode cX0_push 5 = .ok (.aload_n 0, 1) := by decide +kernel
theorem dX0_push_6 : decode cX0_push 6 = .ok (.getfield 23, 3) := by decide +kernel
theorem dX0_push_9 : decode cX0_push 9 = .ok (.iload_n 1, 1) := by decide +kernel
theorem dX0_push_10 : decode cX0_push 10 = .ok (.invokevirtual 37, 3) := by decide +kernel
theorem dX0_push_13 : decode cX0_push 13 = .ok (.return_, 1) := by decide +kernel
theorem dX0_pushRow_0 : decode cX0_pushRow 0 = .ok (.iconst 0, 1) := by decide +kernel
theorem dX0_pushRow_1 : decode cX0_pushRow 1 = .ok (.istore_n 3, 1) := by decide +kernel
theorem dX0_pushRow_2 : decode cX0_pushRow 2 = .ok (.iconst 0, 1) := by decide +kernel
theorem dX0_pushRow_3 : decode cX0_pushRow 3 = .ok (.istore 4, 2) := by decide +kernel
theorem dX0_pushRow_5 : decode cX0_pushRow 5 = .ok (.iload 4, 2) := by decide +kernel
theorem dX0_pushRow_7 : decode cX0_pushRow 7 = .ok (.bipush 8, 2) := by decide +kernel
theorem dX0_pushRow_9 : decode cX0_pushRow 9 = .ok (.if_icmp .ge 26, 3) := by decide +kernel
theorem dX0_pushRow_12 : decode cX0_pushRow 12 = .ok (.aload_n 1, 1) := by decide +kernel
theorem dX0_pushRow_13 : decode cX0_pushRow 13 = .ok (.iload_n 2, 1) := by decide +kernel
theorem dX0_pushRow_14 : decode cX0_pushRow 14 = .ok (.iload 4, 2) := by decide +kernel
theorem dX0_pushRow_16 : decode cX0_pushRow 16 = .ok (.invokevirtual 40, 3) := by decide +kernel
theorem dX0_pushRow_19 : decode cX0_pushRow 19 = .ok (.ifCond .eq 10, 3) := by decide +kernel
theorem dX0_pushRow_22 : decode cX0_pushRow 22 = .ok (.iload_n 3, 1) := by decide +kernel
theorem dX0_pushRow_23 : decode cX0_pushRow 23 = .ok (.iconst 1, 1) := by decide +kernel
theorem dX0_pushRow_24 : decode cX0_pushRow 24 = .ok (.iload 4, 2) := by decide +kernel
theorem dX0_pushRow_26 : decode cX0_pushRow 26 = .ok (.ishl, 1) := by decide +kernel
theorem dX0_pushRow_27 : decode cX0_pushRow 27 = .ok (.ior, 1) := by decide +kernel
theorem dX0_pushRow_28 : decode cX0_pushRow 28 = .ok (.istore_n 3, 1) := by decide +kernel
theorem dX0_pushRow_29 : decode cX0_pushRow 29 = .ok (.iinc 4 1, 3) := by decide +kernel
theorem dX0_pushRow_32 : decode cX0_pushRow 32 = .ok (.goto (-27), 3) := by decide +kernel
theorem dX0_pushRow_35 : decode cX0_pushRow 35 = .ok (.aload_n 0, 1) := by decide +kernel
theorem dX0_pushRow_36 : decode cX0_pushRow 36 = .ok (.iload_n 3, 1) := by decide +kernel
theorem dX0_pushRow_37 : decode cX0_pushRow 37 = .ok (.invokevirtual 34, 3) := by decide +kernel
theorem dX0_pushRow_40 : decode cX0_pushRow 40 = .ok (.aload_n 0, 1) := by decide +kernel
theorem dX0_pushRow_41 : decode cX0_pushRow 41 = .ok (.getfield 23, 3) := by decide +kernel
theorem dX0_pushRow_44 : decode cX0_pushRow 44 = .ok (.aload_n 1, 1) := by decide +kernel
theorem dX0_pushRow_45 : decode cX0_pushRow 45 = .ok (.iload_n 2, 1) := by decide +kernel
theorem dX0_pushRow_46 : decode cX0_pushRow 46 = .ok (.iload_n 2, 1) := by decide +kernel
theorem dX0_pushRow_47 : decode cX0_pushRow 47 = .ok (.iconst 1, 1) := by decide +kernel
theorem dX0_pushRow_48 : decode cX0_pushRow 48 = .ok (.iadd, 1) := by decide +kernel
theorem dX0_pushRow_49 : decode cX0_pushRow 49 = .ok (.invokevirtual 44, 3) := by decide +kernel
theorem dX0_pushRow_52 : decode cX0_pushRow 52 = .ok (.return_, 1) := by decide +kernel
theorem dX0_pushSettled_0 : decode cX0_pushSettled 0 = .ok (.iload_n 2, 1) := by decide +kernel
theorem dX0_pushSettled_1 : decode cX0_pushSettled 1 = .ok (.iconst 2, 1) := by decide +kernel
theorem dX0_pushSettled_2 : decode cX0_pushSettled 2 = .ok (.if_icmp .lt 7, 3) := by decide +kernel
theorem dX0_pushSettled_5 : decode cX0_pushSettled 5 = .ok (.iconst 1, 1) := by decide +kernel
theorem dX0_pushSettled_6 : decode cX0_pushSettled 6 = .ok (.goto 4, 3) := by decide +kernel
theorem dX0_pushSettled_9 : decode cX0_pushSettled 9 = .ok (.iconst 0, 1) := by decide +kernel
theorem dX0_pushSettled_10 : decode cX0_pushSettled 10 = .ok (.istore_n 3, 1) := by decide +kernel
theorem dX0_pushSettled_11 : decode cX0_pushSettled 11 = .ok (.aload_n 0, 1) := by decide +kernel
theorem dX0_pushSettled_12 : decode cX0_pushSettled 12 = .ok (.iload_n 3, 1) := by decide +kernel
theorem dX0_pushSettled_13 : decode cX0_pushSettled 13 = .ok (.ifCond .eq 10, 3) := by decide +kernel
theorem dX0_pushSettled_16 : decode cX0_pushSettled 16 = .ok (.aload_n 1, 1) := by decide +kernel
theorem dX0_pushSettled_17 : decode cX0_pushSettled 17 = .ok (.invokevirtual 48, 3) := by decide +kernel
theorem dX0_pushSettled_20 : decode cX0_pushSettled 20 = .ok (.goto 4, 3) := by decide +kernel
theorem dX0_pushSettled_23 : decode cX0_pushSettled 23 = .ok (.iconst 0, 1) := by decide +kernel
theorem dX0_pushSettled_24 : decode cX0_pushSettled 24 = .ok (.invokevirtual 34, 3) := by decide +kernel
theorem dX0_pushSettled_27 : decode cX0_pushSettled 27 = .ok (.aload_n 0, 1) := by decide +kernel
theorem dX0_pushSettled_28 : decode cX0_pushSettled 28 = .ok (.getfield 23, 3) := by decide +kernel
theorem dX0_pushSettled_31 : decode cX0_pushSettled 31 = .ok (.iload_n 2, 1) := by decide +kernel
theorem dX0_pushSettled_32 : decode cX0_pushSettled 32 = .ok (.invokevirtual 37, 3) := by decide +kernel
theorem dX0_pushSettled_35 : decode cX0_pushSettled 35 = .ok (.iconst 0, 1) := by decide +kernel
theorem dX0_pushSettled_36 : decode cX0_pushSettled 36 = .ok (.istore 4, 2) := by decide +kernel
theorem dX0_pushSettled_38 : decode cX0_pushSettled 38 = .ok (.iload_n 3, 1) := by decide +kernel
theorem dX0_pushSettled_39 : decode cX0_pushSettled 39 = .ok (.ifCond .eq 42, 3) := by decide +kernel
theorem dX0_pushSettled_42 : decode cX0_pushSettled 42 = .ok (.iload 4, 2) := by decide +kernel
theorem dX0_pushSettled_44 : decode cX0_pushSettled 44 = .ok (.bipush 9, 2) := by decide +kernel
theorem dX0_pushSettled_46 : decode cX0_pushSettled 46 = .ok (.if_icmp .ge 35, 3) := by decide +kernel
theorem dX0_pushSettled_49 : decode cX0_pushSettled 49 = .ok (.aload_n 0, 1) := by decide +kernel
theorem dX0_pushSettled_50 : decode cX0_pushSettled 50 = .ok (.getfield 23, 3) := by decide +kernel
theorem dX0_pushSettled_53 : decode cX0_pushSettled 53 = .ok (.aload_n 0, 1) := by decide +kernel
theorem dX0_pushSettled_54 : decode cX0_pushSettled 54 = .ok (.getfield 23, 3) := by decide +kernel
theorem dX0_pushSettled_57 : decode cX0_pushSettled 57 = .ok (.getfield 54, 3) := by decide +kernel
theorem dX0_pushSettled_60 : decode cX0_pushSettled 60 = .ok (.iconst 1, 1) := by decide +kernel
theorem dX0_pushSettled_61 : decode cX0_pushSettled 61 = .ok (.isub, 1) := by decide +kernel
theorem dX0_pushSettled_62 : decode cX0_pushSettled 62 = .ok (.iload 4, 2) := by decide +kernel
theorem dX0_pushSettled_64 : decode cX0_pushSettled 64 = .ok (.aload_n 1, 1) := by decide +kernel
theorem dX0_pushSettled_65 : decode cX0_pushSettled 65 = .ok (.getfield 57, 3) := by decide +kernel
theorem dX0_pushSettled_68 : decode cX0_pushSettled 68 = .ok (.iload 4, 2) := by decide +kernel
theorem dX0_pushSettled_70 : decode cX0_pushSettled 70 = .ok (.laload, 1) := by decide +kernel
theorem dX0_pushSettled_71 : decode cX0_pushSettled 71 = .ok (.l2i, 1) := by decide +kernel
theorem dX0_pushSettled_72 : decode cX0_pushSettled 72 = .ok (.invokevirtual 61, 3) := by decide +kernel
theorem dX0_pushSettled_75 : decode cX0_pushSettled 75 = .ok (.iinc 4 1, 3) := by decide +kernel
theorem dX0_pushSettled_78 : decode cX0_pushSettled 78 = .ok (.goto (-40), 3) := by decide +kernel
theorem dX0_pushSettled_81 : decode cX0_pushSettled 81 = .ok (.return_, 1) := by decide +kernel
theorem dX0_join_0 : decode cX0_join 0 = .ok (.aload_n 0, 1) := by decide +kernel
theorem dX0_join_1 : decode cX0_join 1 = .ok (.getfield 30, 3) := by decide +kernel
theorem dX0_join_4 : decode cX0_join 4 = .ok (.iconst 2, 1) := by decide +kernel
theorem dX0_join_5 : decode cX0_join 5 = .ok (.if_icmp .ge 4, 3) := by decide +kernel
theorem dX0_join_8 : decode cX0_join 8 = .ok (.return_, 1) := by decide +kernel
theorem dX0_join_9 : decode cX0_join 9 = .ok (.iload_n 1, 1) := by decide +kernel
theorem dX0_join_10 : decode cX0_join 10 = .ok (.bipush 6, 2) := by decide +kernel
theorem dX0_join_12 : decode cX0_join 12 = .ok (.if_icmp .ne 7, 3) := by decide +kernel
theorem dX0_join_15 : decode cX0_join 15 = .ok (.iconst 1, 1) := by decide +kernel
theorem dX0_join_16 : decode cX0_join 16 = .ok (.goto 4, 3) := by decide +kernel
theorem dX0_join_19 : decode cX0_join 19 = .ok (.iconst 0, 1) := by decide +kernel
theorem dX0_join_20 : decode cX0_join 20 = .ok (.istore_n 2, 1) := by decide +kernel
theorem dX0_join_21 : decode cX0_join 21 = .ok (.iload_n 1, 1) := by decide +kernel
theorem dX0_join_22 : decode cX0_join 22 = .ok (.bipush 6, 2) := by decide +kernel
theorem dX0_join_24 : decode cX0_join 24 = .ok (.if_icmp .ne 7, 3) := by decide +kernel
theorem dX0_join_27 : decode cX0_join 27 = .ok (.iconst 0, 1) := by decide +kernel
theorem dX0_join_28 : decode cX0_join 28 = .ok (.goto 4, 3) := by decide +kernel
theorem dX0_join_31 : decode cX0_join 31 = .ok (.iconst 1, 1) := by decide +kernel
theorem dX0_join_32 : decode cX0_join 32 = .ok (.istore_n 3, 1) := by decide +kernel
theorem dX0_join_33 : decode cX0_join 33 = .ok (.aload_n 0, 1) := by decide +kernel
theorem dX0_join_34 : decode cX0_join 34 = .ok (.getfield 11, 3) := by decide +kernel
theorem dX0_join_37 : decode cX0_join 37 = .ok (.aload_n 0, 1) := by decide +kernel
theorem dX0_join_38 : decode cX0_join 38 = .ok (.getfield 30, 3) := by decide +kernel
theorem dX0_join_41 : decode cX0_join 41 = .ok (.iconst 2, 1) := by decide +kernel
theorem dX0_join_42 : decode cX0_join 42 = .ok (.isub, 1) := by decide +kernel
theorem dX0_join_43 : decode cX0_join 43 = .ok (.iaload, 1) := by decide +kernel
theorem dX0_join_44 : decode cX0_join 44 = .ok (.istore 4, 2) := by decide +kernel
theorem dX0_join_46 : decode cX0_join 46 = .ok (.aload_n 0, 1) := by decide +kernel
theorem dX0_join_47 : decode cX0_join 47 = .ok (.getfield 11, 3) := by decide +kernel
theorem dX0_join_50 : decode cX0_join 50 = .ok (.aload_n 0, 1) := by decide +kernel
theorem dX0_join_51 : decode cX0_join 51 = .ok (.getfield 30, 3) := by decide +kernel
theorem dX0_join_54 : decode cX0_join 54 = .ok (.iconst 1, 1) := by decide +kernel
theorem dX0_join_55 : decode cX0_join 55 = .ok (.isub, 1) := by decide +kernel
theorem dX0_join_56 : decode cX0_join 56 = .ok (.iaload, 1) := by decide +kernel
theorem dX0_join_57 : decode cX0_join 57 = .ok (.istore 5, 2) := by decide +kernel
theorem dX0_join_59 : decode cX0_join 59 = .ok (.aload_n 0, 1) := by decide +kernel
theorem dX0_join_60 : decode cX0_join 60 = .ok (.getfield 23, 3) := by decide +kernel
theorem dX0_join_63 : decode cX0_join 63 = .ok (.iload 5, 2) := by decide +kernel
theorem dX0_join_65 : decode cX0_join 65 = .ok (.iconst 1, 1) := by decide +kernel
theorem dX0_join_66 : decode cX0_join 66 = .ok (.isub, 1) := by decide +kernel
theorem dX0_join_67 : decode cX0_join 67 = .ok (.invokevirtual 65, 3) := by decide +kernel
theorem dX0_join_70 : decode cX0_join 70 = .ok (.istore 6, 2) := by decide +kernel
theorem dX0_join_72 : decode cX0_join 72 = .ok (.aload_n 0, 1) := by decide +kernel
theorem dX0_join_73 : decode cX0_join 73 = .ok (.invokevirtual 69, 3) := by decide +kernel
theorem dX0_join_76 : decode cX0_join 76 = .ok (.istore 7, 2) := by decide +kernel
theorem dX0_join_78 : decode cX0_join 78 = .ok (.aload_n 0, 1) := by decide +kernel
theorem dX0_join_79 : decode cX0_join 79 = .ok (.dup, 1) := by decide +kernel
theorem dX0_join_80 : decode cX0_join 80 = .ok (.getfield 30, 3) := by decide +kernel
theorem dX0_join_83 : decode cX0_join 83 = .ok (.iconst 1, 1) := by decide +kernel
theorem dX0_join_84 : decode cX0_join 84 = .ok (.isub, 1) := by decide +kernel
theorem dX0_join_85 : decode cX0_join 85 = .ok (.putfield 30, 3) := by decide +kernel
theorem dX0_join_88 : decode cX0_join 88 = .ok (.iload 6, 2) := by decide +kernel
theorem dX0_join_90 : decode cX0_join 90 = .ok (.iload_n 2, 1) := by decide +kernel
theorem dX0_join_91 : decode cX0_join 91 = .ok (.if_icmp .eq 23, 3) := by decide +kernel
theorem dX0_join_94 : decode cX0_join 94 = .ok (.iload 7, 2) := by decide +kernel
theorem dX0_join_96 : decode cX0_join 96 = .ok (.iload_n 3, 1) := by decide +kernel
theorem dX0_join_97 : decode cX0_join 97 = .ok (.if_icmp .eq 17, 3) := by decide +kernel
theorem dX0_join_100 : decode cX0_join 100 = .ok (.aload_n 0, 1) := by decide +kernel
theorem dX0_join_101 : decode cX0_join 101 = .ok (.getfield 23, 3) := by decide +kernel
theorem dX0_join_104 : decode cX0_join 104 = .ok (.iload 4, 2) := by decide +kernel
theorem dX0_join_106 : decode cX0_join 106 = .ok (.iload 5, 2) := by decide +kernel
theorem dX0_join_108 : decode cX0_join 108 = .ok (.invokevirtual 72, 3) := by decide +kernel
theorem dX0_join_111 : decode cX0_join 111 = .ok (.ifCond .eq 15, 3) := by decide +kernel
theorem dX0_join_114 : decode cX0_join 114 = .ok (.aload_n 0, 1) := by decide +kernel
theorem dX0_join_115 : decode cX0_join 115 = .ok (.getfield 23, 3) := by decide +kernel
theorem dX0_join_118 : decode cX0_join 118 = .ok (.iload 5, 2) := by decide +kernel
theorem dX0_join_120 : decode cX0_join 120 = .ok (.invokevirtual 27, 3) := by decide +kernel
theorem dX0_join_123 : decode cX0_join 123 = .ok (.goto 80, 3) := by decide +kernel
theorem dX0_join_126 : decode cX0_join 126 = .ok (.iload 7, 2) := by decide +kernel
theorem dX0_join_128 : decode cX0_join 128 = .ok (.iload_n 2, 1) := by decide +kernel
theorem dX0_join_129 : decode cX0_join 129 = .ok (.if_icmp .eq 9, 3) := by decide +kernel
theorem dX0_join_132 : decode cX0_join 132 = .ok (.iload 6, 2) := by decide +kernel
theorem dX0_join_134 : decode cX0_join 134 = .ok (.iload_n 3, 1) := by decide +kernel
theorem dX0_join_135 : decode cX0_join 135 = .ok (.if_icmp .ne 37, 3) := by decide +kernel
theorem dX0_join_138 : decode cX0_join 138 = .ok (.aload_n 0, 1) := by decide +kernel
theorem dX0_join_139 : decode cX0_join 139 = .ok (.getfield 23, 3) := by decide +kernel
theorem dX0_join_142 : decode cX0_join 142 = .ok (.iload 5, 2) := by decide +kernel
theorem dX0_join_144 : decode cX0_join 144 = .ok (.iload 4, 2) := by decide +kernel
theorem dX0_join_146 : decode cX0_join 146 = .ok (.invokevirtual 76, 3) := by decide +kernel
theorem dX0_join_149 : decode cX0_join 149 = .ok (.aload_n 0, 1) := by decide +kernel
theorem dX0_join_150 : decode cX0_join 150 = .ok (.getfield 15, 3) := by decide +kernel
theorem dX0_join_153 : decode cX0_join 153 = .ok (.aload_n 0, 1) := by decide +kernel
theorem dX0_join_154 : decode cX0_join 154 = .ok (.getfield 30, 3) := by decide +kernel
theorem dX0_join_157 : decode cX0_join 157 = .ok (.iconst 1, 1) := by decide +kernel
theorem dX0_join_158 : decode cX0_join 158 = .ok (.isub, 1) := by decide +kernel
theorem dX0_join_159 : decode cX0_join 159 = .ok (.aload_n 0, 1) := by decide +kernel
theorem dX0_join_160 : decode cX0_join 160 = .ok (.getfield 15, 3) := by decide +kernel
theorem dX0_join_163 : decode cX0_join 163 = .ok (.aload_n 0, 1) := by decide +kernel
theorem dX0_join_164 : decode cX0_join 164 = .ok (.getfield 30, 3) := by decide +kernel
theorem dX0_join_167 : decode cX0_join 167 = .ok (.iaload, 1) := by decide +kernel
theorem dX0_join_168 : decode cX0_join 168 = .ok (.iastore, 1) := by decide +kernel
theorem dX0_join_169 : decode cX0_join 169 = .ok (.goto 34, 3) := by decide +kernel
theorem dX0_join_172 : decode cX0_join 172 = .ok (.aload_n 0, 1) := by decide +kernel
theorem dX0_join_173 : decode cX0_join 173 = .ok (.getfield 15, 3) := by decide +kernel
theorem dX0_join_176 : decode cX0_join 176 = .ok (.aload_n 0, 1) := by decide +kernel
theorem dX0_join_177 : decode cX0_join 177 = .ok (.getfield 30, 3) := by decide +kernel
theorem dX0_join_180 : decode cX0_join 180 = .ok (.iconst 1, 1) := by decide +kernel
theorem dX0_join_181 : decode cX0_join 181 = .ok (.isub, 1) := by decide +kernel
theorem dX0_join_182 : decode cX0_join 182 = .ok (.dup2, 1) := by decide +kernel
theorem dX0_join_183 : decode cX0_join 183 = .ok (.iaload, 1) := by decide +kernel
theorem dX0_join_184 : decode cX0_join 184 = .ok (.aload_n 0, 1) := by decide +kernel
theorem dX0_join_185 : decode cX0_join 185 = .ok (.getfield 15, 3) := by decide +kernel
theorem dX0_join_188 : decode cX0_join 188 = .ok (.aload_n 0, 1) := by decide +kernel
theorem dX0_join_189 : decode cX0_join 189 = .ok (.getfield 30, 3) := by decide +kernel
theorem dX0_join_192 : decode cX0_join 192 = .ok (.iaload, 1) := by decide +kernel
theorem dX0_join_193 : decode cX0_join 193 = .ok (.ior, 1) := by decide +kernel
theorem dX0_join_194 : decode cX0_join 194 = .ok (.iastore, 1) := by decide +kernel
theorem dX0_join_195 : decode cX0_join 195 = .ok (.aload_n 0, 1) := by decide +kernel
theorem dX0_join_196 : decode cX0_join 196 = .ok (.getfield 23, 3) := by decide +kernel
theorem dX0_join_199 : decode cX0_join 199 = .ok (.iload_n 1, 1) := by decide +kernel
theorem dX0_join_200 : decode cX0_join 200 = .ok (.invokevirtual 37, 3) := by decide +kernel
theorem dX0_join_203 : decode cX0_join 203 = .ok (.return_, 1) := by decide +kernel
theorem dX0_bind_0 : decode cX0_bind 0 = .ok (.aload_n 0, 1) := by decide +kernel
theorem dX0_bind_1 : decode cX0_bind 1 = .ok (.getfield 30, 3) := by decide +kernel
theorem dX0_bind_4 : decode cX0_bind 4 = .ok (.iconst 1, 1) := by decide +kernel
theorem dX0_bind_5 : decode cX0_bind 5 = .ok (.if_icmp .lt 21, 3) := by decide +kernel
theorem dX0_bind_8 : decode cX0_bind 8 = .ok (.aload_n 0, 1) := by decide +kernel
theorem dX0_bind_9 : decode cX0_bind 9 = .ok (.getfield 15, 3) := by decide +kernel
theorem dX0_bind_12 : decode cX0_bind 12 = .ok (.aload_n 0, 1) := by decide +kernel
theorem dX0_bind_13 : decode cX0_bind 13 = .ok (.getfield 30, 3) := by decide +kernel
theorem dX0_bind_16 : decode cX0_bind 16 = .ok (.iconst 1, 1) := by decide +kernel
theorem dX0_bind_17 : decode cX0_bind 17 = .ok (.isub, 1) := by decide +kernel
theorem dX0_bind_18 : decode cX0_bind 18 = .ok (.iaload, 1) := by decide +kernel
theorem dX0_bind_19 : decode cX0_bind 19 = .ok (.iload_n 2, 1) := by decide +kernel
theorem dX0_bind_20 : decode cX0_bind 20 = .ok (.ishr, 1) := by decide +kernel
theorem dX0_bind_21 : decode cX0_bind 21 = .ok (.iconst 1, 1) := by decide +kernel
theorem dX0_bind_22 : decode cX0_bind 22 = .ok (.iand, 1) := by decide +kernel
theorem dX0_bind_23 : decode cX0_bind 23 = .ok (.ifCond .ne 4, 3) := by decide +kernel
theorem dX0_bind_26 : decode cX0_bind 26 = .ok (.return_, 1) := by decide +kernel
theorem dX0_bind_27 : decode cX0_bind 27 = .ok (.aload_n 0, 1) := by decide +kernel
theorem dX0_bind_28 : decode cX0_bind 28 = .ok (.getfield 23, 3) := by decide +kernel
theorem dX0_bind_31 : decode cX0_bind 31 = .ok (.iload_n 1, 1) := by decide +kernel
theorem dX0_bind_32 : decode cX0_bind 32 = .ok (.invokevirtual 37, 3) := by decide +kernel
theorem dX0_bind_35 : decode cX0_bind 35 = .ok (.aload_n 0, 1) := by decide +kernel
theorem dX0_bind_36 : decode cX0_bind 36 = .ok (.getfield 23, 3) := by decide +kernel
theorem dX0_bind_39 : decode cX0_bind 39 = .ok (.aload_n 0, 1) := by decide +kernel
theorem dX0_bind_40 : decode cX0_bind 40 = .ok (.getfield 23, 3) := by decide +kernel
theorem dX0_bind_43 : decode cX0_bind 43 = .ok (.getfield 54, 3) := by decide +kernel
theorem dX0_bind_46 : decode cX0_bind 46 = .ok (.iconst 1, 1) := by decide +kernel
theorem dX0_bind_47 : decode cX0_bind 47 = .ok (.isub, 1) := by decide +kernel
theorem dX0_bind_48 : decode cX0_bind 48 = .ok (.iconst 0, 1) := by decide +kernel
theorem dX0_bind_49 : decode cX0_bind 49 = .ok (.iload_n 2, 1) := by decide +kernel
theorem dX0_bind_50 : decode cX0_bind 50 = .ok (.invokevirtual 61, 3) := by decide +kernel
theorem dX0_bind_53 : decode cX0_bind 53 = .ok (.aload_n 0, 1) := by decide +kernel
theorem dX0_bind_54 : decode cX0_bind 54 = .ok (.getfield 15, 3) := by decide +kernel
theorem dX0_bind_57 : decode cX0_bind 57 = .ok (.aload_n 0, 1) := by decide +kernel
theorem dX0_bind_58 : decode cX0_bind 58 = .ok (.getfield 30, 3) := by decide +kernel
theorem dX0_bind_61 : decode cX0_bind 61 = .ok (.iconst 1, 1) := by decide +kernel
theorem dX0_bind_62 : decode cX0_bind 62 = .ok (.isub, 1) := by decide +kernel
theorem dX0_bind_63 : decode cX0_bind 63 = .ok (.dup2, 1) := by decide +kernel
theorem dX0_bind_64 : decode cX0_bind 64 = .ok (.iaload, 1) := by decide +kernel
theorem dX0_bind_65 : decode cX0_bind 65 = .ok (.iconst 1, 1) := by decide +kernel
theorem dX0_bind_66 : decode cX0_bind 66 = .ok (.iload_n 2, 1) := by decide +kernel
theorem dX0_bind_67 : decode cX0_bind 67 = .ok (.ishl, 1) := by decide +kernel
theorem dX0_bind_68 : decode cX0_bind 68 = .ok (.iconst (-1), 1) := by decide +kernel
theorem dX0_bind_69 : decode cX0_bind 69 = .ok (.ixor, 1) := by decide +kernel
theorem dX0_bind_70 : decode cX0_bind 70 = .ok (.iand, 1) := by decide +kernel
theorem dX0_bind_71 : decode cX0_bind 71 = .ok (.iastore, 1) := by decide +kernel
theorem dX0_bind_72 : decode cX0_bind 72 = .ok (.return_, 1) := by decide +kernel
theorem dX0_negateLast_0 : decode cX0_negateLast 0 = .ok (.aload_n 0, 1) := by decide +kernel
theorem dX0_negateLast_1 : decode cX0_negateLast 1 = .ok (.getfield 30, 3) := by decide +kernel
theorem dX0_negateLast_4 : decode cX0_negateLast 4 = .ok (.ifCond .le 28, 3) := by decide +kernel
theorem dX0_negateLast_7 : decode cX0_negateLast 7 = .ok (.aload_n 0, 1) := by decide +kernel
theorem dX0_negateLast_8 : decode cX0_negateLast 8 = .ok (.getfield 23, 3) := by decide +kernel
theorem dX0_negateLast_11 : decode cX0_negateLast 11 = .ok (.aload_n 0, 1) := by decide +kernel
theorem dX0_negateLast_12 : decode cX0_negateLast 12 = .ok (.getfield 11, 3) := by decide +kernel
theorem dX0_negateLast_15 : decode cX0_negateLast 15 = .ok (.aload_n 0, 1) := by decide +kernel
theorem dX0_negateLast_16 : decode cX0_negateLast 16 = .ok (.getfield 30, 3) := by decide +kernel
theorem dX0_negateLast_19 : decode cX0_negateLast 19 = .ok (.iconst 1, 1) := by decide +kernel
theorem dX0_negateLast_20 : decode cX0_negateLast 20 = .ok (.isub, 1) := by decide +kernel
theorem dX0_negateLast_21 : decode cX0_negateLast 21 = .ok (.iaload, 1) := by decide +kernel
theorem dX0_negateLast_22 : decode cX0_negateLast 22 = .ok (.aload_n 0, 1) := by decide +kernel
theorem dX0_negateLast_23 : decode cX0_negateLast 23 = .ok (.getfield 23, 3) := by decide +kernel
theorem dX0_negateLast_26 : decode cX0_negateLast 26 = .ok (.getfield 54, 3) := by decide +kernel
theorem dX0_negateLast_29 : decode cX0_negateLast 29 = .ok (.invokevirtual 80, 3) := by decide +kernel
theorem dX0_negateLast_32 : decode cX0_negateLast 32 = .ok (.return_, 1) := by decide +kernel
theorem dX0_negateLastButOne_0 : decode cX0_negateLastButOne 0 = .ok (.aload_n 0, 1) := by decide +kernel
theorem dX0_negateLastButOne_1 : decode cX0_negateLastButOne 1 = .ok (.getfield 30, 3) := by decide +kernel
theorem dX0_negateLastButOne_4 : decode cX0_negateLastButOne 4 = .ok (.iconst 1, 1) := by decide +kernel
theorem dX0_negateLastButOne_5 : decode cX0_negateLastButOne 5 = .ok (.if_icmp .le 32, 3) := by decide +kernel
theorem dX0_negateLastButOne_8 : decode cX0_negateLastButOne 8 = .ok (.aload_n 0, 1) := by decide +kernel
theorem dX0_negateLastButOne_9 : decode cX0_negateLastButOne 9 = .ok (.getfield 23, 3) := by decide +kernel
theorem dX0_negateLastButOne_12 : decode cX0_negateLastButOne 12 = .ok (.aload_n 0, 1) := by decide +kernel
theorem dX0_negateLastButOne_13 : decode cX0_negateLastButOne 13 = .ok (.getfield 11, 3) := by decide +kernel
theorem dX0_negateLastButOne_16 : decode cX0_negateLastButOne 16 = .ok (.aload_n 0, 1) := by decide +kernel
theorem dX0_negateLastButOne_17 : decode cX0_negateLastButOne 17 = .ok (.getfield 30, 3) := by decide +kernel
theorem dX0_negateLastButOne_20 : decode cX0_negateLastButOne 20 = .ok (.iconst 2, 1) := by decide +kernel
theorem dX0_negateLastButOne_21 : decode cX0_negateLastButOne 21 = .ok (.isub, 1) := by decide +kernel
theorem dX0_negateLastButOne_22 : decode cX0_negateLastButOne 22 = .ok (.iaload, 1) := by decide +kernel
theorem dX0_negateLastButOne_23 : decode cX0_negateLastButOne 23 = .ok (.aload_n 0, 1) := by decide +kernel
theorem dX0_negateLastButOne_24 : decode cX0_negateLastButOne 24 = .ok (.getfield 11, 3) := by decide +kernel
theorem dX0_negateLastButOne_27 : decode cX0_negateLastButOne 27 = .ok (.aload_n 0, 1) := by decide +kernel
theorem dX0_negateLastButOne_28 : decode cX0_negateLastButOne 28 = .ok (.getfield 30, 3) := by decide +kernel
theorem dX0_negateLastButOne_31 : decode cX0_negateLastButOne 31 = .ok (.iconst 1, 1) := by decide +kernel
theorem dX0_negateLastButOne_32 : decode cX0_negateLastButOne 32 = .ok (.isub, 1) := by decide +kernel
theorem dX0_negateLastButOne_33 : decode cX0_negateLastButOne 33 = .ok (.iaload, 1) := by decide +kernel
theorem dX0_negateLastButOne_34 : decode cX0_negateLastButOne 34 = .ok (.invokevirtual 80, 3) := by decide +kernel
theorem dX0_negateLastButOne_37 : decode cX0_negateLastButOne 37 = .ok (.return_, 1) := by decide +kernel
theorem dX0_moveLast_0 : decode cX0_moveLast 0 = .ok (.aload_n 0, 1) := by decide +kernel
theorem dX0_moveLast_1 : decode cX0_moveLast 1 = .ok (.getfield 30, 3) := by decide +kernel
theorem dX0_moveLast_4 : decode cX0_moveLast 4 = .ok (.ifCond .le 53, 3) := by decide +kernel
theorem dX0_moveLast_7 : decode cX0_moveLast 7 = .ok (.aload_n 0, 1) := by decide +kernel
theorem dX0_moveLast_8 : decode cX0_moveLast 8 = .ok (.dup, 1) := by decide +kernel
theorem dX0_moveLast_9 : decode cX0_moveLast 9 = .ok (.getfield 30, 3) := by decide +kernel
theorem dX0_moveLast_12 : decode cX0_moveLast 12 = .ok (.iconst 1, 1) := by decide +kernel
theorem dX0_moveLast_13 : decode cX0_moveLast 13 = .ok (.isub, 1) := by decide +kernel
theorem dX0_moveLast_14 : decode cX0_moveLast 14 = .ok (.putfield 30, 3) := by decide +kernel
theorem dX0_moveLast_17 : decode cX0_moveLast 17 = .ok (.aload_n 1, 1) := by decide +kernel
theorem dX0_moveLast_18 : decode cX0_moveLast 18 = .ok (.aload_n 0, 1) := by decide +kernel
theorem dX0_moveLast_19 : decode cX0_moveLast 19 = .ok (.getfield 23, 3) := by decide +kernel
theorem dX0_moveLast_22 : decode cX0_moveLast 22 = .ok (.aload_n 0, 1) := by decide +kernel
theorem dX0_moveLast_23 : decode cX0_moveLast 23 = .ok (.getfield 11, 3) := by decide +kernel
theorem dX0_moveLast_26 : decode cX0_moveLast 26 = .ok (.aload_n 0, 1) := by decide +kernel
theorem dX0_moveLast_27 : decode cX0_moveLast 27 = .ok (.getfield 30, 3) := by decide +kernel
theorem dX0_moveLast_30 : decode cX0_moveLast 30 = .ok (.iaload, 1) := by decide +kernel
theorem dX0_moveLast_31 : decode cX0_moveLast 31 = .ok (.aload_n 0, 1) := by decide +kernel
theorem dX0_moveLast_32 : decode cX0_moveLast 32 = .ok (.getfield 23, 3) := by decide +kernel
theorem dX0_moveLast_35 : decode cX0_moveLast 35 = .ok (.getfield 54, 3) := by decide +kernel
theorem dX0_moveLast_38 : decode cX0_moveLast 38 = .ok (.invokevirtual 83, 3) := by decide +kernel
theorem dX0_moveLast_41 : decode cX0_moveLast 41 = .ok (.aload_n 0, 1) := by decide +kernel
theorem dX0_moveLast_42 : decode cX0_moveLast 42 = .ok (.getfield 23, 3) := by decide +kernel
theorem dX0_moveLast_45 : decode cX0_moveLast 45 = .ok (.aload_n 0, 1) := by decide +kernel
theorem dX0_moveLast_46 : decode cX0_moveLast 46 = .ok (.getfield 11, 3) := by decide +kernel
theorem dX0_moveLast_49 : decode cX0_moveLast 49 = .ok (.aload_n 0, 1) := by decide +kernel
theorem dX0_moveLast_50 : decode cX0_moveLast 50 = .ok (.getfield 30, 3) := by decide +kernel
theorem dX0_moveLast_53 : decode cX0_moveLast 53 = .ok (.iaload, 1) := by decide +kernel
theorem dX0_moveLast_54 : decode cX0_moveLast 54 = .ok (.invokevirtual 27, 3) := by decide +kernel
theorem dX0_moveLast_57 : decode cX0_moveLast 57 = .ok (.return_, 1) := by decide +kernel
theorem dX0_lastKind_0 : decode cX0_lastKind 0 = .ok (.aload_n 0, 1) := by decide +kernel
theorem dX0_lastKind_1 : decode cX0_lastKind 1 = .ok (.getfield 23, 3) := by decide +kernel
theorem dX0_lastKind_4 : decode cX0_lastKind 4 = .ok (.aload_n 0, 1) := by decide +kernel
theorem dX0_lastKind_5 : decode cX0_lastKind 5 = .ok (.getfield 23, 3) := by decide +kernel
theorem dX0_lastKind_8 : decode cX0_lastKind 8 = .ok (.getfield 54, 3) := by decide +kernel
theorem dX0_lastKind_11 : decode cX0_lastKind 11 = .ok (.iconst 1, 1) := by decide +kernel
theorem dX0_lastKind_12 : decode cX0_lastKind 12 = .ok (.isub, 1) := by decide +kernel
theorem dX0_lastKind_13 : decode cX0_lastKind 13 = .ok (.invokevirtual 65, 3) := by decide +kernel
theorem dX0_lastKind_16 : decode cX0_lastKind 16 = .ok (.ireturn, 1) := by decide +kernel
theorem dX0_lastLoose_0 : decode cX0_lastLoose 0 = .ok (.aload_n 0, 1) := by decide +kernel
theorem dX0_lastLoose_1 : decode cX0_lastLoose 1 = .ok (.getfield 30, 3) := by decide +kernel
theorem dX0_lastLoose_4 : decode cX0_lastLoose 4 = .ok (.ifCond .le 17, 3) := by decide +kernel
theorem dX0_lastLoose_7 : decode cX0_lastLoose 7 = .ok (.aload_n 0, 1) := by decide +kernel
theorem dX0_lastLoose_8 : decode cX0_lastLoose 8 = .ok (.getfield 15, 3) := by decide +kernel
theorem dX0_lastLoose_11 : decode cX0_lastLoose 11 = .ok (.aload_n 0, 1) := by decide +kernel
theorem dX0_lastLoose_12 : decode cX0_lastLoose 12 = .ok (.getfield 30, 3) := by decide +kernel
theorem dX0_lastLoose_15 : decode cX0_lastLoose 15 = .ok (.iconst 1, 1) := by decide +kernel
theorem dX0_lastLoose_16 : decode cX0_lastLoose 16 = .ok (.isub, 1) := by decide +kernel
theorem dX0_lastLoose_17 : decode cX0_lastLoose 17 = .ok (.iaload, 1) := by decide +kernel
theorem dX0_lastLoose_18 : decode cX0_lastLoose 18 = .ok (.goto 4, 3) := by decide +kernel
theorem dX0_lastLoose_21 : decode cX0_lastLoose 21 = .ok (.iconst 0, 1) := by decide +kernel
theorem dX0_lastLoose_22 : decode cX0_lastLoose 22 = .ok (.ireturn, 1) := by decide +kernel
theorem dX0_lastNodes_0 : decode cX0_lastNodes 0 = .ok (.aload_n 0, 1) := by decide +kernel
theorem dX0_lastNodes_1 : decode cX0_lastNodes 1 = .ok (.getfield 30, 3) := by decide +kernel
theorem dX0_lastNodes_4 : decode cX0_lastNodes 4 = .ok (.ifCond .le 25, 3) := by decide +kernel
theorem dX0_lastNodes_7 : decode cX0_lastNodes 7 = .ok (.aload_n 0, 1) := by decide +kernel
theorem dX0_lastNodes_8 : decode cX0_lastNodes 8 = .ok (.getfield 23, 3) := by decide +kernel
theorem dX0_lastNodes_11 : decode cX0_lastNodes 11 = .ok (.getfield 54, 3) := by decide +kernel
theorem dX0_lastNodes_14 : decode cX0_lastNodes 14 = .ok (.aload_n 0, 1) := by decide +kernel
theorem dX0_lastNodes_15 : decode cX0_lastNodes 15 = .ok (.getfield 11, 3) := by decide +kernel
theorem dX0_lastNodes_18 : decode cX0_lastNodes 18 = .ok (.aload_n 0, 1) := by decide +kernel
theorem dX0_lastNodes_19 : decode cX0_lastNodes 19 = .ok (.getfield 30, 3) := by decide +kernel
theorem dX0_lastNodes_22 : decode cX0_lastNodes 22 = .ok (.iconst 1, 1) := by decide +kernel
theorem dX0_lastNodes_23 : decode cX0_lastNodes 23 = .ok (.isub, 1) := by decide +kernel
theorem dX0_lastNodes_24 : decode cX0_lastNodes 24 = .ok (.iaload, 1) := by decide +kernel
theorem dX0_lastNodes_25 : decode cX0_lastNodes 25 = .ok (.isub, 1) := by decide +kernel
theorem dX0_lastNodes_26 : decode cX0_lastNodes 26 = .ok (.goto 4, 3) := by decide +kernel
theorem dX0_lastNodes_29 : decode cX0_lastNodes 29 = .ok (.iconst 0, 1) := by decide +kernel
theorem dX0_lastNodes_30 : decode cX0_lastNodes 30 = .ok (.ireturn, 1) := by decide +kernel
theorem dX0_open_0 : decode cX0_open 0 = .ok (.aload_n 0, 1) := by decide +kernel
theorem dX0_open_1 : decode cX0_open 1 = .ok (.getfield 30, 3) := by decide +kernel
theorem dX0_open_4 : decode cX0_open 4 = .ok (.sipush 402, 3) := by decide +kernel
theorem dX0_open_7 : decode cX0_open 7 = .ok (.if_icmp .ge 39, 3) := by decide +kernel
theorem dX0_open_10 : decode cX0_open 10 = .ok (.aload_n 0, 1) := by decide +kernel
theorem dX0_open_11 : decode cX0_open 11 = .ok (.getfield 11, 3) := by decide +kernel
theorem dX0_open_14 : decode cX0_open 14 = .ok (.aload_n 0, 1) := by decide +kernel
theorem dX0_open_15 : decode cX0_open 15 = .ok (.getfield 30, 3) := by decide +kernel
theorem dX0_open_18 : decode cX0_open 18 = .ok (.aload_n 0, 1) := by decide +kernel
theorem dX0_open_19 : decode cX0_open 19 = .ok (.getfield 23, 3) := by decide +kernel
theorem dX0_open_22 : decode cX0_open 22 = .ok (.getfield 54, 3) := by decide +kernel
theorem dX0_open_25 : decode cX0_open 25 = .ok (.iastore, 1) := by decide +kernel
theorem dX0_open_26 : decode cX0_open 26 = .ok (.aload_n 0, 1) := by decide +kernel
theorem dX0_open_27 : decode cX0_open 27 = .ok (.getfield 15, 3) := by decide +kernel
theorem dX0_open_30 : decode cX0_open 30 = .ok (.aload_n 0, 1) := by decide +kernel
theorem dX0_open_31 : decode cX0_open 31 = .ok (.getfield 30, 3) := by decide +kernel
theorem dX0_open_34 : decode cX0_open 34 = .ok (.iload_n 1, 1) := by decide +kernel
theorem dX0_open_35 : decode cX0_open 35 = .ok (.iastore, 1) := by decide +kernel
theorem dX0_open_36 : decode cX0_open 36 = .ok (.aload_n 0, 1) := by decide +kernel
theorem dX0_open_37 : decode cX0_open 37 = .ok (.dup, 1) := by decide +kernel
theorem dX0_open_38 : decode cX0_open 38 = .ok (.getfield 30, 3) := by decide +kernel
theorem dX0_open_41 : decode cX0_open 41 = .ok (.iconst 1, 1) := by decide +kernel
theorem dX0_open_42 : decode cX0_open 42 = .ok (.iadd, 1) := by decide +kernel
theorem dX0_open_43 : decode cX0_open 43 = .ok (.putfield 30, 3) := by decide +kernel
theorem dX0_open_46 : decode cX0_open 46 = .ok (.return_, 1) := by decide +kernel
theorem dX3_init_0 : decode cX3_init 0 = .ok (.aload_n 0, 1) := by decide +kernel
theorem dX3_init_1 : decode cX3_init 1 = .ok (.invokespecial 3, 3) := by decide +kernel
theorem dX3_init_4 : decode cX3_init 4 = .ok (.aload_n 0, 1) := by decide +kernel
theorem dX3_init_5 : decode cX3_init 5 = .ok (.sipush 12000, 3) := by decide +kernel
theorem dX3_init_8 : decode cX3_init 8 = .ok (.newarray .byte, 2) := by decide +kernel
theorem dX3_init_10 : decode cX3_init 10 = .ok (.putfield 9, 3) := by decide +kernel
theorem dX3_init_13 : decode cX3_init 13 = .ok (.aload_n 0, 1) := by decide +kernel
theorem dX3_init_14 : decode cX3_init 14 = .ok (.sipush 400, 3) := by decide +kernel
theorem dX3_init_17 : decode cX3_init 17 = .ok (.newarray .int, 2) := by decide +kernel
theorem dX3_init_19 : decode cX3_init 19 = .ok (.putfield 15, 3) := by decide +kernel
theorem dX3_init_22 : decode cX3_init 22 = .ok (.aload_n 0, 1) := by decide +kernel
theorem dX3_init_23 : decode cX3_init 23 = .ok (.sipush 1600, 3) := by decide +kernel
theorem dX3_init_26 : decode cX3_init 26 = .ok (.newarray .int, 2) := by decide +kernel
theorem dX3_init_28 : decode cX3_init 28 = .ok (.putfield 19, 3) := by decide +kernel
theorem dX3_init_31 : decode cX3_init 31 = .ok (.return_, 1) := by decide +kernel
theorem dX3_letterAt_0 : decode cX3_letterAt 0 = .ok (.lload_n 1, 1) := by decide +kernel
theorem dX3_letterAt_1 : decode cX3_letterAt 1 = .ok (.lconst 0, 1) := by decide +kernel
theorem dX3_letterAt_2 : decode cX3_letterAt 2 = .ok (.lcmp, 1) := by decide +kernel
theorem dX3_letterAt_3 : decode cX3_letterAt 3 = .ok (.ifCond .lt 35, 3) := by decide +kernel
theorem dX3_letterAt_6 : decode cX3_letterAt 6 = .ok (.lload_n 1, 1) := by decide +kernel
theorem dX3_letterAt_7 : decode cX3_letterAt 7 = .ok (.aload_n 0, 1) := by decide +kernel
theorem dX3_letterAt_8 : decode cX3_letterAt 8 = .ok (.getfield 22, 3) := by decide +kernel
theorem dX3_letterAt_11 : decode cX3_letterAt 11 = .ok (.i2l, 1) := by decide +kernel
theorem dX3_letterAt_12 : decode cX3_letterAt 12 = .ok (.lcmp, 1) := by decide +kernel
theorem dX3_letterAt_13 : decode cX3_letterAt 13 = .ok (.ifCond .ge 25, 3) := by decide +kernel
theorem dX3_letterAt_16 : decode cX3_letterAt 16 = .ok (.lload_n 1, 1) := by decide +kernel
theorem dX3_letterAt_17 : decode cX3_letterAt 17 = .ok (.ldc2_w 26, 3) := by decide +kernel
theorem dX3_letterAt_20 : decode cX3_letterAt 20 = .ok (.lcmp, 1) := by decide +kernel
theorem dX3_letterAt_21 : decode cX3_letterAt 21 = .ok (.ifCond .ge 17, 3) := by decide +kernel
theorem dX3_letterAt_24 : decode cX3_letterAt 24 = .ok (.aload_n 0, 1) := by decide +kernel
theorem dX3_letterAt_25 : decode cX3_letterAt 25 = .ok (.getfield 9, 3) := by decide +kernel
theorem dX3_letterAt_28 : decode cX3_letterAt 28 = .ok (.lload_n 1, 1) := by decide +kernel
theorem dX3_letterAt_29 : decode cX3_letterAt 29 = .ok (.l2i, 1) := by decide +kernel
theorem dX3_letterAt_30 : decode cX3_letterAt 30 = .ok (.baload, 1) := by decide +kernel
theorem dX3_letterAt_31 : decode cX3_letterAt 31 = .ok (.sipush 255, 3) := by decide +kernel
theorem dX3_letterAt_34 : decode cX3_letterAt 34 = .ok (.iand, 1) := by decide +kernel
theorem dX3_letterAt_35 : decode cX3_letterAt 35 = .ok (.goto 4, 3) := by decide +kernel
theorem dX3_letterAt_38 : decode cX3_letterAt 38 = .ok (.iconst 0, 1) := by decide +kernel
theorem dX3_letterAt_39 : decode cX3_letterAt 39 = .ok (.ireturn, 1) := by decide +kernel
theorem dX3_put_0 : decode cX3_put 0 = .ok (.aload_n 0, 1) := by decide +kernel
theorem dX3_put_1 : decode cX3_put 1 = .ok (.iconst 0, 1) := by decide +kernel
theorem dX3_put_2 : decode cX3_put 2 = .ok (.putfield 22, 3) := by decide +kernel
theorem dX3_put_5 : decode cX3_put 5 = .ok (.aload_n 0, 1) := by decide +kernel
theorem dX3_put_6 : decode cX3_put 6 = .ok (.iconst 0, 1) := by decide +kernel
theorem dX3_put_7 : decode cX3_put 7 = .ok (.putfield 28, 3) := by decide +kernel
theorem dX3_put_10 : decode cX3_put 10 = .ok (.aload_n 1, 1) := by decide +kernel
theorem dX3_put_11 : decode cX3_put 11 = .ok (.aload_n 0, 1) := by decide +kernel
theorem dX3_put_12 : decode cX3_put 12 = .ok (.getfield 15, 3) := by decide +kernel
theorem dX3_put_15 : decode cX3_put 15 = .ok (.invokevirtual 31, 3) := by decide +kernel
theorem dX3_put_18 : decode cX3_put 18 = .ok (.aload_n 0, 1) := by decide +kernel
theorem dX3_put_19 : decode cX3_put 19 = .ok (.aload_n 1, 1) := by decide +kernel
theorem dX3_put_20 : decode cX3_put 20 = .ok (.getfield 37, 3) := by decide +kernel
theorem dX3_put_23 : decode cX3_put 23 = .ok (.iconst 1, 1) := by decide +kernel
theorem dX3_put_24 : decode cX3_put 24 = .ok (.isub, 1) := by decide +kernel
theorem dX3_put_25 : decode cX3_put 25 = .ok (.invokevirtual 40, 3) := by decide +kernel
theorem dX3_put_28 : decode cX3_put 28 = .ok (.iconst 0, 1) := by decide +kernel
theorem dX3_put_29 : decode cX3_put 29 = .ok (.istore_n 2, 1) := by decide +kernel
theorem dX3_put_30 : decode cX3_put 30 = .ok (.iload_n 2, 1) := by decide +kernel
theorem dX3_put_31 : decode cX3_put 31 = .ok (.sipush 1600, 3) := by decide +kernel
theorem dX3_put_34 : decode cX3_put 34 = .ok (.if_icmp .ge 55, 3) := by decide +kernel
theorem dX3_put_37 : decode cX3_put 37 = .ok (.aload_n 0, 1) := by decide +kernel
theorem dX3_put_38 : decode cX3_put 38 = .ok (.getfield 28, 3) := by decide +kernel
theorem dX3_put_41 : decode cX3_put 41 = .ok (.ifCond .le 48, 3) := by decide +kernel
theorem dX3_put_44 : decode cX3_put 44 = .ok (.aload_n 0, 1) := by decide +kernel
theorem dX3_put_45 : decode cX3_put 45 = .ok (.dup, 1) := by decide +kernel
theorem dX3_put_46 : decode cX3_put 46 = .ok (.getfield 28, 3) := by decide +kernel
theorem dX3_put_49 : decode cX3_put 49 = .ok (.iconst 1, 1) := by decide +kernel
theorem dX3_put_50 : decode cX3_put 50 = .ok (.isub, 1) := by decide +kernel
theorem dX3_put_51 : decode cX3_put 51 = .ok (.putfield 28, 3) := by decide +kernel
theorem dX3_put_54 : decode cX3_put 54 = .ok (.aload_n 0, 1) := by decide +kernel
theorem dX3_put_55 : decode cX3_put 55 = .ok (.getfield 19, 3) := by decide +kernel
theorem dX3_put_58 : decode cX3_put 58 = .ok (.aload_n 0, 1) := by decide +kernel
theorem dX3_put_59 : decode cX3_put 59 = .ok (.getfield 28, 3) := by decide +kernel
theorem dX3_put_62 : decode cX3_put 62 = .ok (.iaload, 1) := by decide +kernel
theorem dX3_put_63 : decode cX3_put 63 = .ok (.istore_n 3, 1) := by decide +kernel
theorem dX3_put_64 : decode cX3_put 64 = .ok (.iload_n 3, 1) := by decide +kernel
theorem dX3_put_65 : decode cX3_put 65 = .ok (.ifCond .ge 12, 3) := by decide +kernel
theorem dX3_put_68 : decode cX3_put 68 = .ok (.aload_n 0, 1) := by decide +kernel
theorem dX3_put_69 : decode cX3_put 69 = .ok (.iload_n 3, 1) := by decide +kernel
theorem dX3_put_70 : decode cX3_put 70 = .ok (.ineg, 1) := by decide +kernel
theorem dX3_put_71 : decode cX3_put 71 = .ok (.invokevirtual 44, 3) := by decide +kernel
theorem dX3_put_74 : decode cX3_put 74 = .ok (.goto 9, 3) := by decide +kernel
theorem dX3_put_77 : decode cX3_put 77 = .ok (.aload_n 0, 1) := by decide +kernel
theorem dX3_put_78 : decode cX3_put 78 = .ok (.aload_n 1, 1) := by decide +kernel
theorem dX3_put_79 : decode cX3_put 79 = .ok (.iload_n 3, 1) := by decide +kernel
theorem dX3_put_80 : decode cX3_put 80 = .ok (.invokevirtual 47, 3) := by decide +kernel
theorem dX3_put_83 : decode cX3_put 83 = .ok (.iinc 2 1, 3) := by decide +kernel
theorem dX3_put_86 : decode cX3_put 86 = .ok (.goto (-56), 3) := by decide +kernel
theorem dX3_put_89 : decode cX3_put 89 = .ok (.return_, 1) := by decide +kernel
theorem dX3_later_0 : decode cX3_later 0 = .ok (.aload_n 0, 1) := by decide +kernel
theorem dX3_later_1 : decode cX3_later 1 = .ok (.getfield 28, 3) := by decide +kernel
theorem dX3_later_4 : decode cX3_later 4 = .ok (.sipush 1600, 3) := by decide +kernel
theorem dX3_later_7 : decode cX3_later 7 = .ok (.if_icmp .ge 23, 3) := by decide +kernel
theorem dX3_later_10 : decode cX3_later 10 = .ok (.aload_n 0, 1) := by decide +kernel
theorem dX3_later_11 : decode cX3_later 11 = .ok (.getfield 19, 3) := by decide +kernel
theorem dX3_later_14 : decode cX3_later 14 = .ok (.aload_n 0, 1) := by decide +kernel
theorem dX3_later_15 : decode cX3_later 15 = .ok (.getfield 28, 3) := by decide +kernel
theorem dX3_later_18 : decode cX3_later 18 = .ok (.iload_n 1, 1) := by decide +kernel
theorem dX3_later_19 : decode cX3_later 19 = .ok (.iastore, 1) := by decide +kernel
theorem dX3_later_20 : decode cX3_later 20 = .ok (.aload_n 0, 1) := by decide +kernel
theorem dX3_later_21 : decode cX3_later 21 = .ok (.dup, 1) := by decide +kernel
theorem dX3_later_22 : decode cX3_later 22 = .ok (.getfield 28, 3) := by decide +kernel
theorem dX3_later_25 : decode cX3_later 25 = .ok (.iconst 1, 1) := by decide +kernel
theorem dX3_later_26 : decode cX3_later 26 = .ok (.iadd, 1) := by decide +kernel
theorem dX3_later_27 : decode cX3_later 27 = .ok (.putfield 28, 3) := by decide +kernel
theorem dX3_later_30 : decode cX3_later 30 = .ok (.return_, 1) := by decide +kernel
theorem dX3_node_0 : decode cX3_node 0 = .ok (.aload_n 1, 1) := by decide +kernel
theorem dX3_node_1 : decode cX3_node 1 = .ok (.iload_n 2, 1) := by decide +kernel
theorem dX3_node_2 : decode cX3_node 2 = .ok (.invokevirtual 51, 3) := by decide +kernel
theorem dX3_node_5 : decode cX3_node 5 = .ok (.istore_n 3, 1) := by decide +kernel
theorem dX3_node_6 : decode cX3_node 6 = .ok (.iload_n 3, 1) := by decide +kernel
theorem dX3_node_7 : decode cX3_node 7 = .ok (.ifCond .eq 8, 3) := by decide +kernel
theorem dX3_node_10 : decode cX3_node 10 = .ok (.iload_n 3, 1) := by decide +kernel
theorem dX3_node_11 : decode cX3_node 11 = .ok (.iconst 1, 1) := by decide +kernel
theorem dX3_node_12 : decode cX3_node 12 = .ok (.if_icmp .ne 21, 3) := by decide +kernel
theorem dX3_node_15 : decode cX3_node 15 = .ok (.aload_n 0, 1) := by decide +kernel
theorem dX3_node_16 : decode cX3_node 16 = .ok (.iload_n 3, 1) := by decide +kernel
theorem dX3_node_17 : decode cX3_node 17 = .ok (.ifCond .ne 8, 3) := by decide +kernel
theorem dX3_node_20 : decode cX3_node 20 = .ok (.bipush 84, 2) := by decide +kernel
theorem dX3_node_22 : decode cX3_node 22 = .ok (.goto 5, 3) := by decide +kernel
theorem dX3_node_25 : decode cX3_node 25 = .ok (.bipush 70, 2) := by decide +kernel
theorem dX3_node_27 : decode cX3_node 27 = .ok (.invokevirtual 44, 3) := by decide +kernel
theorem dX3_node_30 : decode cX3_node 30 = .ok (.goto 131, 3) := by decide +kernel
theorem dX3_node_33 : decode cX3_node 33 = .ok (.iload_n 3, 1) := by decide +kernel
theorem dX3_node_34 : decode cX3_node 34 = .ok (.iconst 5, 1) := by decide +kernel
theorem dX3_node_35 : decode cX3_node 35 = .ok (.if_icmp .gt 12, 3) := by decide +kernel
theorem dX3_node_38 : decode cX3_node 38 = .ok (.aload_n 0, 1) := by decide +kernel
theorem dX3_node_39 : decode cX3_node 39 = .ok (.aload_n 1, 1) := by decide +kernel
theorem dX3_node_40 : decode cX3_node 40 = .ok (.iload_n 2, 1) := by decide +kernel
theorem dX3_node_41 : decode cX3_node 41 = .ok (.invokevirtual 55, 3) := by decide +kernel
theorem dX3_node_44 : decode cX3_node 44 = .ok (.goto 117, 3) := by decide +kernel
theorem dX3_node_47 : decode cX3_node 47 = .ok (.iload_n 3, 1) := by decide +kernel
theorem dX3_node_48 : decode cX3_node 48 = .ok (.bipush 8, 2) := by decide +kernel
theorem dX3_node_50 : decode cX3_node 50 = .ok (.if_icmp .lt 49, 3) := by decide +kernel
theorem dX3_node_53 : decode cX3_node 53 = .ok (.aload_n 0, 1) := by decide +kernel
theorem dX3_node_54 : decode cX3_node 54 = .ok (.iload_n 3, 1) := by decide +kernel
theorem dX3_node_55 : decode cX3_node 55 = .ok (.bipush 8, 2) := by decide +kernel
theorem dX3_node_57 : decode cX3_node 57 = .ok (.if_icmp .ne 8, 3) := by decide +kernel
theorem dX3_node_60 : decode cX3_node 60 = .ok (.bipush 69, 2) := by decide +kernel
theorem dX3_node_62 : decode cX3_node 62 = .ok (.goto 5, 3) := by decide +kernel
theorem dX3_node_65 : decode cX3_node 65 = .ok (.bipush 65, 2) := by decide +kernel
theorem dX3_node_67 : decode cX3_node 67 = .ok (.invokevirtual 44, 3) := by decide +kernel
theorem dX3_node_70 : decode cX3_node 70 = .ok (.aload_n 0, 1) := by decide +kernel
theorem dX3_node_71 : decode cX3_node 71 = .ok (.bipush 97, 2) := by decide +kernel
theorem dX3_node_73 : decode cX3_node 73 = .ok (.aload_n 1, 1) := by decide +kernel
theorem dX3_node_74 : decode cX3_node 74 = .ok (.iload_n 2, 1) := by decide +kernel
theorem dX3_node_75 : decode cX3_node 75 = .ok (.iconst 0, 1) := by decide +kernel
theorem dX3_node_76 : decode cX3_node 76 = .ok (.invokevirtual 58, 3) := by decide +kernel
theorem dX3_node_79 : decode cX3_node 79 = .ok (.iadd, 1) := by decide +kernel
theorem dX3_node_80 : decode cX3_node 80 = .ok (.invokevirtual 44, 3) := by decide +kernel
theorem dX3_node_83 : decode cX3_node 83 = .ok (.aload_n 0, 1) := by decide +kernel
theorem dX3_node_84 : decode cX3_node 84 = .ok (.bipush 46, 2) := by decide +kernel
theorem dX3_node_86 : decode cX3_node 86 = .ok (.invokevirtual 44, 3) := by decide +kernel
theorem dX3_node_89 : decode cX3_node 89 = .ok (.aload_n 0, 1) := by decide +kernel
theorem dX3_node_90 : decode cX3_node 90 = .ok (.iload_n 2, 1) := by decide +kernel
theorem dX3_node_91 : decode cX3_node 91 = .ok (.iconst 1, 1) := by decide +kernel
theorem dX3_node_92 : decode cX3_node 92 = .ok (.isub, 1) := by decide +kernel
theorem dX3_node_93 : decode cX3_node 93 = .ok (.invokevirtual 40, 3) := by decide +kernel
theorem dX3_node_96 : decode cX3_node 96 = .ok (.goto 65, 3) := by decide +kernel
theorem dX3_node_99 : decode cX3_node 99 = .ok (.iload_n 2, 1) := by decide +kernel
theorem dX3_node_100 : decode cX3_node 100 = .ok (.iconst 1, 1) := by decide +kernel
theorem dX3_node_101 : decode cX3_node 101 = .ok (.if_icmp .lt 60, 3) := by decide +kernel
theorem dX3_node_104 : decode cX3_node 104 = .ok (.iload_n 2, 1) := by decide +kernel
theorem dX3_node_105 : decode cX3_node 105 = .ok (.sipush 400, 3) := by decide +kernel
theorem dX3_node_108 : decode cX3_node 108 = .ok (.if_icmp .gt 53, 3) := by decide +kernel
theorem dX3_node_111 : decode cX3_node 111 = .ok (.aload_n 0, 1) := by decide +kernel
theorem dX3_node_112 : decode cX3_node 112 = .ok (.bipush 40, 2) := by decide +kernel
theorem dX3_node_114 : decode cX3_node 114 = .ok (.invokevirtual 44, 3) := by decide +kernel
theorem dX3_node_117 : decode cX3_node 117 = .ok (.aload_n 0, 1) := by decide +kernel
theorem dX3_node_118 : decode cX3_node 118 = .ok (.bipush (-41), 2) := by decide +kernel
theorem dX3_node_120 : decode cX3_node 120 = .ok (.invokevirtual 40, 3) := by decide +kernel
theorem dX3_node_123 : decode cX3_node 123 = .ok (.aload_n 0, 1) := by decide +kernel
theorem dX3_node_124 : decode cX3_node 124 = .ok (.iload_n 2, 1) := by decide +kernel
theorem dX3_node_125 : decode cX3_node 125 = .ok (.iconst 1, 1) := by decide +kernel
theorem dX3_node_126 : decode cX3_node 126 = .ok (.isub, 1) := by decide +kernel
theorem dX3_node_127 : decode cX3_node 127 = .ok (.invokevirtual 40, 3) := by decide +kernel
theorem dX3_node_130 : decode cX3_node 130 = .ok (.aload_n 0, 1) := by decide +kernel
theorem dX3_node_131 : decode cX3_node 131 = .ok (.iload_n 3, 1) := by decide +kernel
theorem dX3_node_132 : decode cX3_node 132 = .ok (.bipush 6, 2) := by decide +kernel
theorem dX3_node_134 : decode cX3_node 134 = .ok (.if_icmp .ne 8, 3) := by decide +kernel
theorem dX3_node_137 : decode cX3_node 137 = .ok (.bipush (-38), 2) := by decide +kernel
theorem dX3_node_139 : decode cX3_node 139 = .ok (.goto 5, 3) := by decide +kernel
theorem dX3_node_142 : decode cX3_node 142 = .ok (.bipush (-124), 2) := by decide +kernel
theorem dX3_node_144 : decode cX3_node 144 = .ok (.invokevirtual 40, 3) := by decide +kernel
theorem dX3_node_147 : decode cX3_node 147 = .ok (.aload_n 0, 1) := by decide +kernel
theorem dX3_node_148 : decode cX3_node 148 = .ok (.aload_n 0, 1) := by decide +kernel
theorem dX3_node_149 : decode cX3_node 149 = .ok (.getfield 15, 3) := by decide +kernel
theorem dX3_node_152 : decode cX3_node 152 = .ok (.iload_n 2, 1) := by decide +kernel
theorem dX3_node_153 : decode cX3_node 153 = .ok (.iconst 1, 1) := by decide +kernel
theorem dX3_node_154 : decode cX3_node 154 = .ok (.isub, 1) := by decide +kernel
theorem dX3_node_155 : decode cX3_node 155 = .ok (.iaload, 1) := by decide +kernel
theorem dX3_node_156 : decode cX3_node 156 = .ok (.iconst 1, 1) := by decide +kernel
theorem dX3_node_157 : decode cX3_node 157 = .ok (.isub, 1) := by decide +kernel
theorem dX3_node_158 : decode cX3_node 158 = .ok (.invokevirtual 40, 3) := by decide +kernel
theorem dX3_node_161 : decode cX3_node 161 = .ok (.return_, 1) := by decide +kernel
theorem dX3_atom_0 : decode cX3_atom 0 = .ok (.aload_n 0, 1) := by decide +kernel
theorem dX3_atom_1 : decode cX3_atom 1 = .ok (.getfield 22, 3) := by decide +kernel
theorem dX3_atom_4 : decode cX3_atom 4 = .ok (.istore_n 3, 1) := by decide +kernel
theorem dX3_atom_5 : decode cX3_atom 5 = .ok (.iconst 0, 1) := by decide +kernel
theorem dX3_atom_6 : decode cX3_atom 6 = .ok (.istore 4, 2) := by decide +kernel
theorem dX3_atom_8 : decode cX3_atom 8 = .ok (.iload 4, 2) := by decide +kernel
theorem dX3_atom_10 : decode cX3_atom 10 = .ok (.bipush 9, 2) := by decide +kernel
theorem dX3_atom_12 : decode cX3_atom 12 = .ok (.if_icmp .ge 93, 3) := by decide +kernel
theorem dX3_atom_15 : decode cX3_atom 15 = .ok (.aload_n 1, 1) := by decide +kernel
theorem dX3_atom_16 : decode cX3_atom 16 = .ok (.iload_n 2, 1) := by decide +kernel
theorem dX3_atom_17 : decode cX3_atom 17 = .ok (.iload 4, 2) := by decide +kernel
theorem dX3_atom_19 : decode cX3_atom 19 = .ok (.invokevirtual 58, 3) := by decide +kernel
theorem dX3_atom_22 : decode cX3_atom 22 = .ok (.istore 5, 2) := by decide +kernel
theorem dX3_atom_24 : decode cX3_atom 24 = .ok (.iload 5, 2) := by decide +kernel
theorem dX3_atom_26 : decode cX3_atom 26 = .ok (.ifCond .eq 73, 3) := by decide +kernel
theorem dX3_atom_29 : decode cX3_atom 29 = .ok (.iload 5, 2) := by decide +kernel
theorem dX3_atom_31 : decode cX3_atom 31 = .ok (.ifCond .ge 12, 3) := by decide +kernel
theorem dX3_atom_34 : decode cX3_atom 34 = .ok (.aload_n 0, 1) := by decide +kernel
theorem dX3_atom_35 : decode cX3_atom 35 = .ok (.bipush 45, 2) := by decide +kernel
theorem dX3_atom_37 : decode cX3_atom 37 = .ok (.invokevirtual 44, 3) := by decide +kernel
theorem dX3_atom_40 : decode cX3_atom 40 = .ok (.goto 17, 3) := by decide +kernel
theorem dX3_atom_43 : decode cX3_atom 43 = .ok (.aload_n 0, 1) := by decide +kernel
theorem dX3_atom_44 : decode cX3_atom 44 = .ok (.getfield 22, 3) := by decide +kernel
theorem dX3_atom_47 : decode cX3_atom 47 = .ok (.iload_n 3, 1) := by decide +kernel
theorem dX3_atom_48 : decode cX3_atom 48 = .ok (.if_icmp .le 9, 3) := by decide +kernel
theorem dX3_atom_51 : decode cX3_atom 51 = .ok (.aload_n 0, 1) := by decide +kernel
theorem dX3_atom_52 : decode cX3_atom 52 = .ok (.bipush 43, 2) := by decide +kernel
theorem dX3_atom_54 : decode cX3_atom 54 = .ok (.invokevirtual 44, 3) := by decide +kernel
theorem dX3_atom_57 : decode cX3_atom 57 = .ok (.iload 5, 2) := by decide +kernel
theorem dX3_atom_59 : decode cX3_atom 59 = .ok (.invokestatic 62, 3) := by decide +kernel
theorem dX3_atom_62 : decode cX3_atom 62 = .ok (.istore 6, 2) := by decide +kernel
theorem dX3_atom_64 : decode cX3_atom 64 = .ok (.iload 6, 2) := by decide +kernel
theorem dX3_atom_66 : decode cX3_atom 66 = .ok (.iconst 1, 1) := by decide +kernel
theorem dX3_atom_67 : decode cX3_atom 67 = .ok (.if_icmp .ne 10, 3) := by decide +kernel
theorem dX3_atom_70 : decode cX3_atom 70 = .ok (.iload 4, 2) := by decide +kernel
theorem dX3_atom_72 : decode cX3_atom 72 = .ok (.bipush 8, 2) := by decide +kernel
theorem dX3_atom_74 : decode cX3_atom 74 = .ok (.if_icmp .ne 9, 3) := by decide +kernel
theorem dX3_atom_77 : decode cX3_atom 77 = .ok (.aload_n 0, 1) := by decide +kernel
theorem dX3_atom_78 : decode cX3_atom 78 = .ok (.iload 6, 2) := by decide +kernel
theorem dX3_atom_80 : decode cX3_atom 80 = .ok (.invokevirtual 67, 3) := by decide +kernel
theorem dX3_atom_83 : decode cX3_atom 83 = .ok (.iload 4, 2) := by decide +kernel
theorem dX3_atom_85 : decode cX3_atom 85 = .ok (.bipush 8, 2) := by decide +kernel
theorem dX3_atom_87 : decode cX3_atom 87 = .ok (.if_icmp .ge 12, 3) := by decide +kernel
theorem dX3_atom_90 : decode cX3_atom 90 = .ok (.aload_n 0, 1) := by decide +kernel
theorem dX3_atom_91 : decode cX3_atom 91 = .ok (.bipush 97, 2) := by decide +kernel
theorem dX3_atom_93 : decode cX3_atom 93 = .ok (.iload 4, 2) := by decide +kernel
theorem dX3_atom_95 : decode cX3_atom 95 = .ok (.iadd, 1) := by decide +kernel
theorem dX3_atom_96 : decode cX3_atom 96 = .ok (.invokevirtual 44, 3) := by decide +kernel
theorem dX3_atom_99 : decode cX3_atom 99 = .ok (.iinc 4 1, 3) := by decide +kernel
theorem dX3_atom_102 : decode cX3_atom 102 = .ok (.goto (-94), 3) := by decide +kernel
theorem dX3_atom_105 : decode cX3_atom 105 = .ok (.aload_n 0, 1) := by decide +kernel
theorem dX3_atom_106 : decode cX3_atom 106 = .ok (.aload_n 1, 1) := by decide +kernel
theorem dX3_atom_107 : decode cX3_atom 107 = .ok (.iload_n 2, 1) := by decide +kernel
theorem dX3_atom_108 : decode cX3_atom 108 = .ok (.invokevirtual 51, 3) := by decide +kernel
theorem dX3_atom_111 : decode cX3_atom 111 = .ok (.invokevirtual 70, 3) := by decide +kernel
theorem dX3_atom_114 : decode cX3_atom 114 = .ok (.aload_n 0, 1) := by decide +kernel
theorem dX3_atom_115 : decode cX3_atom 115 = .ok (.bipush 48, 2) := by decide +kernel
theorem dX3_atom_117 : decode cX3_atom 117 = .ok (.invokevirtual 44, 3) := by decide +kernel
theorem dX3_atom_120 : decode cX3_atom 120 = .ok (.return_, 1) := by decide +kernel
theorem dX3_relation_0 : decode cX3_relation 0 = .ok (.iload_n 1, 1) := by decide +kernel
theorem dX3_relation_1 : decode cX3_relation 1 = .ok (.iconst 3, 1) := by decide +kernel
theorem dX3_relation_2 : decode cX3_relation 2 = .ok (.if_icmp .ne 12, 3) := by decide +kernel
theorem dX3_relation_5 : decode cX3_relation 5 = .ok (.aload_n 0, 1) := by decide +kernel
theorem dX3_relation_6 : decode cX3_relation 6 = .ok (.bipush 33, 2) := by decide +kernel
theorem dX3_relation_8 : decode cX3_relation 8 = .ok (.invokevirtual 44, 3) := by decide +kernel
theorem dX3_relation_11 : decode cX3_relation 11 = .ok (.goto 14, 3) := by decide +kernel
theorem dX3_relation_14 : decode cX3_relation 14 = .ok (.iload_n 1, 1) := by decide +kernel
theorem dX3_relation_15 : decode cX3_relation 15 = .ok (.iconst 2, 1) := by decide +kernel
theorem dX3_relation_16 : decode cX3_relation 16 = .ok (.if_icmp .eq 9, 3) := by decide +kernel
theorem dX3_relation_19 : decode cX3_relation 19 = .ok (.aload_n 0, 1) := by decide +kernel
theorem dX3_relation_20 : decode cX3_relation 20 = .ok (.bipush 60, 2) := by decide +kernel
theorem dX3_relation_22 : decode cX3_relation 22 = .ok (.invokevirtual 44, 3) := by decide +kernel
theorem dX3_relation_25 : decode cX3_relation 25 = .ok (.iload_n 1, 1) := by decide +kernel
theorem dX3_relation_26 : decode cX3_relation 26 = .ok (.iconst 4, 1) := by decide +kernel
theorem dX3_relation_27 : decode cX3_relation 27 = .ok (.if_icmp .eq 9, 3) := by decide +kernel
theorem dX3_relation_30 : decode cX3_relation 30 = .ok (.aload_n 0, 1) := by decide +kernel
theorem dX3_relation_31 : decode cX3_relation 31 = .ok (.bipush 61, 2) := by decide +kernel
theorem dX3_relation_33 : decode cX3_relation 33 = .ok (.invokevirtual 44, 3) := by decide +kernel
theorem dX3_relation_36 : decode cX3_relation 36 = .ok (.return_, 1) := by decide +kernel
theorem dX3_digits_0 : decode cX3_digits 0 = .ok (.iconst 0, 1) := by decide +kernel
theorem dX3_digits_1 : decode cX3_digits 1 = .ok (.istore_n 2, 1) := by decide +kernel
theorem dX3_digits_2 : decode cX3_digits 2 = .ok (.ldc 73, 2) := by decide +kernel
theorem dX3_digits_4 : decode cX3_digits 4 = .ok (.istore_n 3, 1) := by decide +kernel
theorem dX3_digits_5 : decode cX3_digits 5 = .ok (.iload_n 3, 1) := by decide +kernel
theorem dX3_digits_6 : decode cX3_digits 6 = .ok (.ifCond .le 45, 3) := by decide +kernel
theorem dX3_digits_9 : decode cX3_digits 9 = .ok (.iload_n 1, 1) := by decide +kernel
theorem dX3_digits_10 : decode cX3_digits 10 = .ok (.iload_n 3, 1) := by decide +kernel
theorem dX3_digits_11 : decode cX3_digits 11 = .ok (.idiv, 1) := by decide +kernel
theorem dX3_digits_12 : decode cX3_digits 12 = .ok (.bipush 10, 2) := by decide +kernel
theorem dX3_digits_14 : decode cX3_digits 14 = .ok (.irem, 1) := by decide +kernel
theorem dX3_digits_15 : decode cX3_digits 15 = .ok (.istore 4, 2) := by decide +kernel
theorem dX3_digits_17 : decode cX3_digits 17 = .ok (.iload_n 2, 1) := by decide +kernel
theorem dX3_digits_18 : decode cX3_digits 18 = .ok (.iload 4, 2) := by decide +kernel
theorem dX3_digits_20 : decode cX3_digits 20 = .ok (.ifCond .eq 7, 3) := by decide +kernel
theorem dX3_digits_23 : decode cX3_digits 23 = .ok (.iconst 1, 1) := by decide +kernel
theorem dX3_digits_24 : decode cX3_digits 24 = .ok (.goto 4, 3) := by decide +kernel
theorem dX3_digits_27 : decode cX3_digits 27 = .ok (.iconst 0, 1) := by decide +kernel
theorem dX3_digits_28 : decode cX3_digits 28 = .ok (.ior, 1) := by decide +kernel
theorem dX3_digits_29 : decode cX3_digits 29 = .ok (.istore_n 2, 1) := by decide +kernel
theorem dX3_digits_30 : decode cX3_digits 30 = .ok (.iload_n 2, 1) := by decide +kernel
theorem dX3_digits_31 : decode cX3_digits 31 = .ok (.ifCond .eq 12, 3) := by decide +kernel
theorem dX3_digits_34 : decode cX3_digits 34 = .ok (.aload_n 0, 1) := by decide +kernel
theorem dX3_digits_35 : decode cX3_digits 35 = .ok (.bipush 48, 2) := by decide +kernel
theorem dX3_digits_37 : decode cX3_digits 37 = .ok (.iload 4, 2) := by decide +kernel
theorem dX3_digits_39 : decode cX3_digits 39 = .ok (.iadd, 1) := by decide +kernel
theorem dX3_digits_40 : decode cX3_digits 40 = .ok (.invokevirtual 44, 3) := by decide +kernel
theorem dX3_digits_43 : decode cX3_digits 43 = .ok (.iload_n 3, 1) := by decide +kernel
theorem dX3_digits_44 : decode cX3_digits 44 = .ok (.bipush 10, 2) := by decide +kernel
theorem dX3_digits_46 : decode cX3_digits 46 = .ok (.idiv, 1) := by decide +kernel
theorem dX3_digits_47 : decode cX3_digits 47 = .ok (.istore_n 3, 1) := by decide +kernel
theorem dX3_digits_48 : decode cX3_digits 48 = .ok (.goto (-43), 3) := by decide +kernel
theorem dX3_digits_51 : decode cX3_digits 51 = .ok (.return_, 1) := by decide +kernel
theorem dX3_letter_0 : decode cX3_letter 0 = .ok (.aload_n 0, 1) := by decide +kernel
theorem dX3_letter_1 : decode cX3_letter 1 = .ok (.getfield 22, 3) := by decide +kernel
theorem dX3_letter_4 : decode cX3_letter 4 = .ok (.sipush 12000, 3) := by decide +kernel
theorem dX3_letter_7 : decode cX3_letter 7 = .ok (.if_icmp .ge 14, 3) := by decide +kernel
theorem dX3_letter_10 : decode cX3_letter 10 = .ok (.aload_n 0, 1) := by decide +kernel
theorem dX3_letter_11 : decode cX3_letter 11 = .ok (.getfield 9, 3) := by decide +kernel
theorem dX3_letter_14 : decode cX3_letter 14 = .ok (.aload_n 0, 1) := by decide +kernel
theorem dX3_letter_15 : decode cX3_letter 15 = .ok (.getfield 22, 3) := by decide +kernel
theorem dX3_letter_18 : decode cX3_letter 18 = .ok (.iload_n 1, 1) := by decide +kernel
theorem dX3_letter_19 : decode cX3_letter 19 = .ok (.i2b, 1) := by decide +kernel
theorem dX3_letter_20 : decode cX3_letter 20 = .ok (.bastore, 1) := by decide +kernel
theorem dX3_letter_21 : decode cX3_letter 21 = .ok (.aload_n 0, 1) := by decide +kernel
theorem dX3_letter_22 : decode cX3_letter 22 = .ok (.dup, 1) := by decide +kernel
theorem dX3_letter_23 : decode cX3_letter 23 = .ok (.getfield 22, 3) := by decide +kernel
theorem dX3_letter_26 : decode cX3_letter 26 = .ok (.iconst 1, 1) := by decide +kernel
theorem dX3_letter_27 : decode cX3_letter 27 = .ok (.iadd, 1) := by decide +kernel
theorem dX3_letter_28 : decode cX3_letter 28 = .ok (.putfield 22, 3) := by decide +kernel
theorem dX3_letter_31 : decode cX3_letter 31 = .ok (.return_, 1) := by decide +kernel
theorem dJ7_rangeCheck_23922_0 : decode cJ7_rangeCheck_23922 0 = .ok (.iload_n 1, 1) := by decide +kernel
theorem dJ7_rangeCheck_23922_1 : decode cJ7_rangeCheck_23922 1 = .ok (.iload_n 2, 1) := by decide +kernel
theorem dJ7_rangeCheck_23922_2 : decode cJ7_rangeCheck_23922 2 = .ok (.if_icmp .le 44, 3) := by decide +kernel
theorem dJ7_rangeCheck_23922_5 : decode cJ7_rangeCheck_23922 5 = .ok (.new 43, 3) := by decide +kernel
theorem dJ7_rangeCheck_23922_8 : decode cJ7_rangeCheck_23922 8 = .ok (.dup, 1) := by decide +kernel
theorem dJ7_rangeCheck_23922_9 : decode cJ7_rangeCheck_23922 9 = .ok (.new 45, 3) := by decide +kernel
theorem dJ7_rangeCheck_23922_12 : decode cJ7_rangeCheck_23922 12 = .ok (.dup, 1) := by decide +kernel
theorem dJ7_rangeCheck_23922_13 : decode cJ7_rangeCheck_23922 13 = .ok (.invokespecial 47, 3) := by decide +kernel
theorem dJ7_rangeCheck_23922_16 : decode cJ7_rangeCheck_23922 16 = .ok (.ldc 48, 2) := by decide +kernel
theorem dJ7_rangeCheck_23922_18 : decode cJ7_rangeCheck_23922 18 = .ok (.invokevirtual 50, 3) := by decide +kernel
theorem dJ7_rangeCheck_23922_21 : decode cJ7_rangeCheck_23922 21 = .ok (.iload_n 1, 1) := by decide +kernel
theorem dJ7_rangeCheck_23922_22 : decode cJ7_rangeCheck_23922 22 = .ok (.invokevirtual 54, 3) := by decide +kernel
theorem dJ7_rangeCheck_23922_25 : decode cJ7_rangeCheck_23922 25 = .ok (.ldc 57, 2) := by decide +kernel
theorem dJ7_rangeCheck_23922_27 : decode cJ7_rangeCheck_23922 27 = .ok (.invokevirtual 50, 3) := by decide +kernel
theorem dJ7_rangeCheck_23922_30 : decode cJ7_rangeCheck_23922 30 = .ok (.iload_n 2, 1) := by decide +kernel
theorem dJ7_rangeCheck_23922_31 : decode cJ7_rangeCheck_23922 31 = .ok (.invokevirtual 54, 3) := by decide +kernel
theorem dJ7_rangeCheck_23922_34 : decode cJ7_rangeCheck_23922 34 = .ok (.ldc 59, 2) := by decide +kernel
theorem dJ7_rangeCheck_23922_36 : decode cJ7_rangeCheck_23922 36 = .ok (.invokevirtual 50, 3) := by decide +kernel
theorem dJ7_rangeCheck_23922_39 : decode cJ7_rangeCheck_23922 39 = .ok (.invokevirtual 61, 3) := by decide +kernel
theorem dJ7_rangeCheck_23922_42 : decode cJ7_rangeCheck_23922 42 = .ok (.invokespecial 65, 3) := by decide +kernel
theorem dJ7_rangeCheck_23922_45 : decode cJ7_rangeCheck_23922 45 = .ok (.athrow, 1) := by decide +kernel
theorem dJ7_rangeCheck_23922_46 : decode cJ7_rangeCheck_23922 46 = .ok (.iload_n 1, 1) := by decide +kernel
theorem dJ7_rangeCheck_23922_47 : decode cJ7_rangeCheck_23922 47 = .ok (.ifCond .ge 12, 3) := by decide +kernel
theorem dJ7_rangeCheck_23922_50 : decode cJ7_rangeCheck_23922 50 = .ok (.new 68, 3) := by decide +kernel
theorem dJ7_rangeCheck_23922_53 : decode cJ7_rangeCheck_23922 53 = .ok (.dup, 1) := by decide +kernel
theorem dJ7_rangeCheck_23922_54 : decode cJ7_rangeCheck_23922 54 = .ok (.iload_n 1, 1) := by decide +kernel
theorem dJ7_rangeCheck_23922_55 : decode cJ7_rangeCheck_23922 55 = .ok (.invokespecial 70, 3) := by decide +kernel
theorem dJ7_rangeCheck_23922_58 : decode cJ7_rangeCheck_23922 58 = .ok (.athrow, 1) := by decide +kernel
theorem dJ7_rangeCheck_23922_59 : decode cJ7_rangeCheck_23922 59 = .ok (.iload_n 2, 1) := by decide +kernel
theorem dJ7_rangeCheck_23922_60 : decode cJ7_rangeCheck_23922 60 = .ok (.iload_n 0, 1) := by decide +kernel
theorem dJ7_rangeCheck_23922_61 : decode cJ7_rangeCheck_23922 61 = .ok (.if_icmp .le 12, 3) := by decide +kernel
theorem dJ7_rangeCheck_23922_64 : decode cJ7_rangeCheck_23922 64 = .ok (.new 68, 3) := by decide +kernel
theorem dJ7_rangeCheck_23922_67 : decode cJ7_rangeCheck_23922 67 = .ok (.dup, 1) := by decide +kernel
theorem dJ7_rangeCheck_23922_68 : decode cJ7_rangeCheck_23922 68 = .ok (.iload_n 2, 1) := by decide +kernel
theorem dJ7_rangeCheck_23922_69 : decode cJ7_rangeCheck_23922 69 = .ok (.invokespecial 70, 3) := by decide +kernel
theorem dJ7_rangeCheck_23922_72 : decode cJ7_rangeCheck_23922 72 = .ok (.athrow, 1) := by decide +kernel
theorem dJ7_rangeCheck_23922_73 : decode cJ7_rangeCheck_23922 73 = .ok (.return_, 1) := by decide +kernel
theorem dJ7_fill_d0a16_0 : decode cJ7_fill_d0a16 0 = .ok (.iconst 0, 1) := by decide +kernel
theorem dJ7_fill_d0a16_1 : decode cJ7_fill_d0a16 1 = .ok (.istore_n 3, 1) := by decide +kernel
theorem dJ7_fill_d0a16_2 : decode cJ7_fill_d0a16 2 = .ok (.aload_n 0, 1) := by decide +kernel
theorem dJ7_fill_d0a16_3 : decode cJ7_fill_d0a16 3 = .ok (.arraylength, 1) := by decide +kernel
theorem dJ7_fill_d0a16_4 : decode cJ7_fill_d0a16 4 = .ok (.istore 4, 2) := by decide +kernel
theorem dJ7_fill_d0a16_6 : decode cJ7_fill_d0a16 6 = .ok (.iload_n 3, 1) := by decide +kernel
theorem dJ7_fill_d0a16_7 : decode cJ7_fill_d0a16 7 = .ok (.iload 4, 2) := by decide +kernel
theorem dJ7_fill_d0a16_9 : decode cJ7_fill_d0a16 9 = .ok (.if_icmp .ge 13, 3) := by decide +kernel
theorem dJ7_fill_d0a16_12 : decode cJ7_fill_d0a16 12 = .ok (.aload_n 0, 1) := by decide +kernel
theorem dJ7_fill_d0a16_13 : decode cJ7_fill_d0a16 13 = .ok (.iload_n 3, 1) := by decide +kernel
theorem dJ7_fill_d0a16_14 : decode cJ7_fill_d0a16 14 = .ok (.lload_n 1, 1) := by decide +kernel
theorem dJ7_fill_d0a16_15 : decode cJ7_fill_d0a16 15 = .ok (.lastore, 1) := by decide +kernel
theorem dJ7_fill_d0a16_16 : decode cJ7_fill_d0a16 16 = .ok (.iinc 3 1, 3) := by decide +kernel
theorem dJ7_fill_d0a16_19 : decode cJ7_fill_d0a16 19 = .ok (.goto (-13), 3) := by decide +kernel
theorem dJ7_fill_d0a16_22 : decode cJ7_fill_d0a16 22 = .ok (.return_, 1) := by decide +kernel
theorem dJ7_fill_53178_0 : decode cJ7_fill_53178 0 = .ok (.iconst 0, 1) := by decide +kernel
theorem dJ7_fill_53178_1 : decode cJ7_fill_53178 1 = .ok (.istore_n 2, 1) := by decide +kernel
theorem dJ7_fill_53178_2 : decode cJ7_fill_53178 2 = .ok (.aload_n 0, 1) := by decide +kernel
theorem dJ7_fill_53178_3 : decode cJ7_fill_53178 3 = .ok (.arraylength, 1) := by decide +kernel
theorem dJ7_fill_53178_4 : decode cJ7_fill_53178 4 = .ok (.istore_n 3, 1) := by decide +kernel
theorem dJ7_fill_53178_5 : decode cJ7_fill_53178 5 = .ok (.iload_n 2, 1) := by decide +kernel
theorem dJ7_fill_53178_6 : decode cJ7_fill_53178 6 = .ok (.iload_n 3, 1) := by decide +kernel
theorem dJ7_fill_53178_7 : decode cJ7_fill_53178 7 = .ok (.if_icmp .ge 13, 3) := by decide +kernel
theorem dJ7_fill_53178_10 : decode cJ7_fill_53178 10 = .ok (.aload_n 0, 1) := by decide +kernel
theorem dJ7_fill_53178_11 : decode cJ7_fill_53178 11 = .ok (.iload_n 2, 1) := by decide +kernel
theorem dJ7_fill_53178_12 : decode cJ7_fill_53178 12 = .ok (.iload_n 1, 1) := by decide +kernel
theorem dJ7_fill_53178_13 : decode cJ7_fill_53178 13 = .ok (.iastore, 1) := by decide +kernel
theorem dJ7_fill_53178_14 : decode cJ7_fill_53178 14 = .ok (.iinc 2 1, 3) := by decide +kernel
theorem dJ7_fill_53178_17 : decode cJ7_fill_53178 17 = .ok (.goto (-12), 3) := by decide +kernel
theorem dJ7_fill_53178_20 : decode cJ7_fill_53178 20 = .ok (.return_, 1) := by decide +kernel
theorem dJ7_fill_fda19_0 : decode cJ7_fill_fda19 0 = .ok (.aload_n 0, 1) := by decide +kernel
theorem dJ7_fill_fda19_1 : decode cJ7_fill_fda19 1 = .ok (.arraylength, 1) := by decide +kernel
theorem dJ7_fill_fda19_2 : decode cJ7_fill_fda19 2 = .ok (.iload_n 1, 1) := by decide +kernel
theorem dJ7_fill_fda19_3 : decode cJ7_fill_fda19 3 = .ok (.iload_n 2, 1) := by decide +kernel
theorem dJ7_fill_fda19_4 : decode cJ7_fill_fda19 4 = .ok (.invokestatic 13, 3) := by decide +kernel
theorem dJ7_fill_fda19_7 : decode cJ7_fill_fda19 7 = .ok (.iload_n 1, 1) := by decide +kernel
theorem dJ7_fill_fda19_8 : decode cJ7_fill_fda19 8 = .ok (.istore 4, 2) := by decide +kernel
theorem dJ7_fill_fda19_10 : decode cJ7_fill_fda19 10 = .ok (.iload 4, 2) := by decide +kernel
theorem dJ7_fill_fda19_12 : decode cJ7_fill_fda19 12 = .ok (.iload_n 2, 1) := by decide +kernel
theorem dJ7_fill_fda19_13 : decode cJ7_fill_fda19 13 = .ok (.if_icmp .ge 14, 3) := by decide +kernel
theorem dJ7_fill_fda19_16 : decode cJ7_fill_fda19 16 = .ok (.aload_n 0, 1) := by decide +kernel
theorem dJ7_fill_fda19_17 : decode cJ7_fill_fda19 17 = .ok (.iload 4, 2) := by decide +kernel
theorem dJ7_fill_fda19_19 : decode cJ7_fill_fda19 19 = .ok (.iload_n 3, 1) := by decide +kernel
theorem dJ7_fill_fda19_20 : decode cJ7_fill_fda19 20 = .ok (.iastore, 1) := by decide +kernel
theorem dJ7_fill_fda19_21 : decode cJ7_fill_fda19 21 = .ok (.iinc 4 1, 3) := by decide +kernel
theorem dJ7_fill_fda19_24 : decode cJ7_fill_fda19 24 = .ok (.goto (-14), 3) := by decide +kernel
theorem dJ7_fill_fda19_27 : decode cJ7_fill_fda19 27 = .ok (.return_, 1) := by decide +kernel
theorem dJ7_copyOf_9075b_0 : decode cJ7_copyOf_9075b 0 = .ok (.iload_n 1, 1) := by decide +kernel
theorem dJ7_copyOf_9075b_1 : decode cJ7_copyOf_9075b 1 = .ok (.aload_n 0, 1) := by decide +kernel
theorem dJ7_copyOf_9075b_2 : decode cJ7_copyOf_9075b 2 = .ok (.arraylength, 1) := by decide +kernel
theorem dJ7_copyOf_9075b_3 : decode cJ7_copyOf_9075b 3 = .ok (.if_icmp .ne 11, 3) := by decide +kernel
theorem dJ7_copyOf_9075b_6 : decode cJ7_copyOf_9075b 6 = .ok (.aload_n 0, 1) := by decide +kernel
theorem dJ7_copyOf_9075b_7 : decode cJ7_copyOf_9075b 7 = .ok (.invokevirtual 310, 3) := by decide +kernel
theorem dJ7_copyOf_9075b_10 : decode cJ7_copyOf_9075b 10 = .ok (.checkcast 311, 3) := by decide +kernel
theorem dJ7_copyOf_9075b_13 : decode cJ7_copyOf_9075b 13 = .ok (.areturn, 1) := by decide +kernel
theorem dJ7_copyOf_9075b_14 : decode cJ7_copyOf_9075b 14 = .ok (.iload_n 1, 1) := by decide +kernel
theorem dJ7_copyOf_9075b_15 : decode cJ7_copyOf_9075b 15 = .ok (.newarray .byte, 2) := by decide +kernel
theorem dJ7_copyOf_9075b_17 : decode cJ7_copyOf_9075b 17 = .ok (.astore_n 2, 1) := by decide +kernel
theorem dJ7_copyOf_9075b_18 : decode cJ7_copyOf_9075b 18 = .ok (.aload_n 0, 1) := by decide +kernel
theorem dJ7_copyOf_9075b_19 : decode cJ7_copyOf_9075b 19 = .ok (.iconst 0, 1) := by decide +kernel
theorem dJ7_copyOf_9075b_20 : decode cJ7_copyOf_9075b 20 = .ok (.aload_n 2, 1) := by decide +kernel
theorem dJ7_copyOf_9075b_21 : decode cJ7_copyOf_9075b 21 = .ok (.iconst 0, 1) := by decide +kernel
theorem dJ7_copyOf_9075b_22 : decode cJ7_copyOf_9075b 22 = .ok (.aload_n 0, 1) := by decide +kernel
theorem dJ7_copyOf_9075b_23 : decode cJ7_copyOf_9075b 23 = .ok (.arraylength, 1) := by decide +kernel
theorem dJ7_copyOf_9075b_24 : decode cJ7_copyOf_9075b 24 = .ok (.iload_n 1, 1) := by decide +kernel
theorem dJ7_copyOf_9075b_25 : decode cJ7_copyOf_9075b 25 = .ok (.invokestatic 304, 3) := by decide +kernel
theorem dJ7_copyOf_9075b_28 : decode cJ7_copyOf_9075b 28 = .ok (.invokestatic 150, 3) := by decide +kernel
theorem dJ7_copyOf_9075b_31 : decode cJ7_copyOf_9075b 31 = .ok (.aload_n 2, 1) := by decide +kernel
theorem dJ7_copyOf_9075b_32 : decode cJ7_copyOf_9075b 32 = .ok (.areturn, 1) := by decide +kernel
theorem dJ7_copyOf_59c91_0 : decode cJ7_copyOf_59c91 0 = .ok (.iload_n 1, 1) := by decide +kernel
theorem dJ7_copyOf_59c91_1 : decode cJ7_copyOf_59c91 1 = .ok (.aload_n 0, 1) := by decide +kernel
theorem dJ7_copyOf_59c91_2 : decode cJ7_copyOf_59c91 2 = .ok (.arraylength, 1) := by decide +kernel
theorem dJ7_copyOf_59c91_3 : decode cJ7_copyOf_59c91 3 = .ok (.if_icmp .ne 11, 3) := by decide +kernel
theorem dJ7_copyOf_59c91_6 : decode cJ7_copyOf_59c91 6 = .ok (.aload_n 0, 1) := by decide +kernel
theorem dJ7_copyOf_59c91_7 : decode cJ7_copyOf_59c91 7 = .ok (.invokevirtual 316, 3) := by decide +kernel
theorem dJ7_copyOf_59c91_10 : decode cJ7_copyOf_59c91 10 = .ok (.checkcast 317, 3) := by decide +kernel
theorem dJ7_copyOf_59c91_13 : decode cJ7_copyOf_59c91 13 = .ok (.areturn, 1) := by decide +kernel
theorem dJ7_copyOf_59c91_14 : decode cJ7_copyOf_59c91 14 = .ok (.iload_n 1, 1) := by decide +kernel
theorem dJ7_copyOf_59c91_15 : decode cJ7_copyOf_59c91 15 = .ok (.newarray .int, 2) := by decide +kernel
theorem dJ7_copyOf_59c91_17 : decode cJ7_copyOf_59c91 17 = .ok (.astore_n 2, 1) := by decide +kernel
theorem dJ7_copyOf_59c91_18 : decode cJ7_copyOf_59c91 18 = .ok (.aload_n 0, 1) := by decide +kernel
theorem dJ7_copyOf_59c91_19 : decode cJ7_copyOf_59c91 19 = .ok (.iconst 0, 1) := by decide +kernel
theorem dJ7_copyOf_59c91_20 : decode cJ7_copyOf_59c91 20 = .ok (.aload_n 2, 1) := by decide +kernel
theorem dJ7_copyOf_59c91_21 : decode cJ7_copyOf_59c91 21 = .ok (.iconst 0, 1) := by decide +kernel
theorem dJ7_copyOf_59c91_22 : decode cJ7_copyOf_59c91 22 = .ok (.aload_n 0, 1) := by decide +kernel
theorem dJ7_copyOf_59c91_23 : decode cJ7_copyOf_59c91 23 = .ok (.arraylength, 1) := by decide +kernel
theorem dJ7_copyOf_59c91_24 : decode cJ7_copyOf_59c91 24 = .ok (.iload_n 1, 1) := by decide +kernel
theorem dJ7_copyOf_59c91_25 : decode cJ7_copyOf_59c91 25 = .ok (.invokestatic 304, 3) := by decide +kernel
theorem dJ7_copyOf_59c91_28 : decode cJ7_copyOf_59c91 28 = .ok (.invokestatic 150, 3) := by decide +kernel
theorem dJ7_copyOf_59c91_31 : decode cJ7_copyOf_59c91 31 = .ok (.aload_n 2, 1) := by decide +kernel
theorem dJ7_copyOf_59c91_32 : decode cJ7_copyOf_59c91 32 = .ok (.areturn, 1) := by decide +kernel
theorem dJ7_checkLength_df160_0 : decode cJ7_checkLength_df160 0 = .ok (.iload_n 1, 1) := by decide +kernel
theorem dJ7_checkLength_df160_1 : decode cJ7_checkLength_df160 1 = .ok (.iload_n 0, 1) := by decide +kernel
theorem dJ7_checkLength_df160_2 : decode cJ7_checkLength_df160 2 = .ok (.if_icmp .ge 35, 3) := by decide +kernel
theorem dJ7_checkLength_df160_5 : decode cJ7_checkLength_df160 5 = .ok (.new 43, 3) := by decide +kernel
theorem dJ7_checkLength_df160_8 : decode cJ7_checkLength_df160 8 = .ok (.dup, 1) := by decide +kernel
theorem dJ7_checkLength_df160_9 : decode cJ7_checkLength_df160 9 = .ok (.new 45, 3) := by decide +kernel
theorem dJ7_checkLength_df160_12 : decode cJ7_checkLength_df160 12 = .ok (.dup, 1) := by decide +kernel
theorem dJ7_checkLength_df160_13 : decode cJ7_checkLength_df160 13 = .ok (.invokespecial 47, 3) := by decide +kernel
theorem dJ7_checkLength_df160_16 : decode cJ7_checkLength_df160 16 = .ok (.iload_n 0, 1) := by decide +kernel
theorem dJ7_checkLength_df160_17 : decode cJ7_checkLength_df160 17 = .ok (.invokevirtual 54, 3) := by decide +kernel
theorem dJ7_checkLength_df160_20 : decode cJ7_checkLength_df160 20 = .ok (.ldc_w 337, 3) := by decide +kernel
theorem dJ7_checkLength_df160_23 : decode cJ7_checkLength_df160 23 = .ok (.invokevirtual 50, 3) := by decide +kernel
theorem dJ7_checkLength_df160_26 : decode cJ7_checkLength_df160 26 = .ok (.iload_n 1, 1) := by decide +kernel
theorem dJ7_checkLength_df160_27 : decode cJ7_checkLength_df160 27 = .ok (.invokevirtual 54, 3) := by decide +kernel
theorem dJ7_checkLength_df160_30 : decode cJ7_checkLength_df160 30 = .ok (.invokevirtual 61, 3) := by decide +kernel
theorem dJ7_checkLength_df160_33 : decode cJ7_checkLength_df160 33 = .ok (.invokespecial 65, 3) := by decide +kernel
theorem dJ7_checkLength_df160_36 : decode cJ7_checkLength_df160 36 = .ok (.athrow, 1) := by decide +kernel
theorem dJ7_checkLength_df160_37 : decode cJ7_checkLength_df160 37 = .ok (.return_, 1) := by decide +kernel
theorem dJ7_copyOfRange_39247_0 : decode cJ7_copyOfRange_39247 0 = .ok (.iload_n 1, 1) := by decide +kernel
theorem dJ7_copyOfRange_39247_1 : decode cJ7_copyOfRange_39247 1 = .ok (.ifCond .ne 9, 3) := by decide +kernel
theorem dJ7_copyOfRange_39247_4 : decode cJ7_copyOfRange_39247 4 = .ok (.iload_n 2, 1) := by decide +kernel
theorem dJ7_copyOfRange_39247_5 : decode cJ7_copyOfRange_39247 5 = .ok (.aload_n 0, 1) := by decide +kernel
theorem dJ7_copyOfRange_39247_6 : decode cJ7_copyOfRange_39247 6 = .ok (.arraylength, 1) := by decide +kernel
theorem dJ7_copyOfRange_39247_7 : decode cJ7_copyOfRange_39247 7 = .ok (.if_icmp .eq 10, 3) := by decide +kernel
theorem dJ7_copyOfRange_39247_10 : decode cJ7_copyOfRange_39247 10 = .ok (.aload_n 0, 1) := by decide +kernel
theorem dJ7_copyOfRange_39247_11 : decode cJ7_copyOfRange_39247 11 = .ok (.iload_n 1, 1) := by decide +kernel
theorem dJ7_copyOfRange_39247_12 : decode cJ7_copyOfRange_39247 12 = .ok (.iload_n 2, 1) := by decide +kernel
theorem dJ7_copyOfRange_39247_13 : decode cJ7_copyOfRange_39247 13 = .ok (.invokestatic 339, 3) := by decide +kernel
theorem dJ7_copyOfRange_39247_16 : decode cJ7_copyOfRange_39247 16 = .ok (.areturn, 1) := by decide +kernel
theorem dJ7_copyOfRange_39247_17 : decode cJ7_copyOfRange_39247 17 = .ok (.aload_n 0, 1) := by decide +kernel
theorem dJ7_copyOfRange_39247_18 : decode cJ7_copyOfRange_39247 18 = .ok (.invokevirtual 310, 3) := by decide +kernel
theorem dJ7_copyOfRange_39247_21 : decode cJ7_copyOfRange_39247 21 = .ok (.checkcast 311, 3) := by decide +kernel
theorem dJ7_copyOfRange_39247_24 : decode cJ7_copyOfRange_39247 24 = .ok (.areturn, 1) := by decide +kernel
theorem dJ7_copyOfRangeByte_39247_0 : decode cJ7_copyOfRangeByte_39247 0 = .ok (.iload_n 1, 1) := by decide +kernel
theorem dJ7_copyOfRangeByte_39247_1 : decode cJ7_copyOfRangeByte_39247 1 = .ok (.iload_n 2, 1) := by decide +kernel
theorem dJ7_copyOfRangeByte_39247_2 : decode cJ7_copyOfRangeByte_39247 2 = .ok (.invokestatic 343, 3) := by decide +kernel
theorem dJ7_copyOfRangeByte_39247_5 : decode cJ7_copyOfRangeByte_39247 5 = .ok (.iload_n 2, 1) := by decide +kernel
theorem dJ7_copyOfRangeByte_39247_6 : decode cJ7_copyOfRangeByte_39247 6 = .ok (.iload_n 1, 1) := by decide +kernel
theorem dJ7_copyOfRangeByte_39247_7 : decode cJ7_copyOfRangeByte_39247 7 = .ok (.isub, 1) := by decide +kernel
theorem dJ7_copyOfRangeByte_39247_8 : decode cJ7_copyOfRangeByte_39247 8 = .ok (.istore_n 3, 1) := by decide +kernel
theorem dJ7_copyOfRangeByte_39247_9 : decode cJ7_copyOfRangeByte_39247 9 = .ok (.iload_n 3, 1) := by decide +kernel
theorem dJ7_copyOfRangeByte_39247_10 : decode cJ7_copyOfRangeByte_39247 10 = .ok (.newarray .byte, 2) := by decide +kernel
theorem dJ7_copyOfRangeByte_39247_12 : decode cJ7_copyOfRangeByte_39247 12 = .ok (.astore 4, 2) := by decide +kernel
theorem dJ7_copyOfRangeByte_39247_14 : decode cJ7_copyOfRangeByte_39247 14 = .ok (.aload_n 0, 1) := by decide +kernel
theorem dJ7_copyOfRangeByte_39247_15 : decode cJ7_copyOfRangeByte_39247 15 = .ok (.iload_n 1, 1) := by decide +kernel
theorem dJ7_copyOfRangeByte_39247_16 : decode cJ7_copyOfRangeByte_39247 16 = .ok (.aload 4, 2) := by decide +kernel
theorem dJ7_copyOfRangeByte_39247_18 : decode cJ7_copyOfRangeByte_39247 18 = .ok (.iconst 0, 1) := by decide +kernel
theorem dJ7_copyOfRangeByte_39247_19 : decode cJ7_copyOfRangeByte_39247 19 = .ok (.aload_n 0, 1) := by decide +kernel
theorem dJ7_copyOfRangeByte_39247_20 : decode cJ7_copyOfRangeByte_39247 20 = .ok (.arraylength, 1) := by decide +kernel
theorem dJ7_copyOfRangeByte_39247_21 : decode cJ7_copyOfRangeByte_39247 21 = .ok (.iload_n 1, 1) := by decide +kernel
theorem dJ7_copyOfRangeByte_39247_22 : decode cJ7_copyOfRangeByte_39247 22 = .ok (.isub, 1) := by decide +kernel
theorem dJ7_copyOfRangeByte_39247_23 : decode cJ7_copyOfRangeByte_39247 23 = .ok (.iload_n 3, 1) := by decide +kernel
theorem dJ7_copyOfRangeByte_39247_24 : decode cJ7_copyOfRangeByte_39247 24 = .ok (.invokestatic 304, 3) := by decide +kernel
theorem dJ7_copyOfRangeByte_39247_27 : decode cJ7_copyOfRangeByte_39247 27 = .ok (.invokestatic 150, 3) := by decide +kernel
theorem dJ7_copyOfRangeByte_39247_30 : decode cJ7_copyOfRangeByte_39247 30 = .ok (.aload 4, 2) := by decide +kernel
theorem dJ7_copyOfRangeByte_39247_32 : decode cJ7_copyOfRangeByte_39247 32 = .ok (.areturn, 1) := by decide +kernel
theorem dL_type_0 : decode cL_type 0 = .ok (.aload 4, 2) := by decide +kernel
theorem dL_type_2 : decode cL_type 2 = .ok (.iconst 0, 1) := by decide +kernel
theorem dL_type_3 : decode cL_type 3 = .ok (.aload_n 0, 1) := by decide +kernel
theorem dL_type_4 : decode cL_type 4 = .ok (.lload_n 1, 1) := by decide +kernel
theorem dL_type_5 : decode cL_type 5 = .ok (.iload_n 3, 1) := by decide +kernel
theorem dL_type_6 : decode cL_type 6 = .ok (.invokevirtual 7, 3) := by decide +kernel
theorem dL_type_9 : decode cL_type 9 = .ok (.i2l, 1) := by decide +kernel
theorem dL_type_10 : decode cL_type 10 = .ok (.lastore, 1) := by decide +kernel
theorem dL_type_11 : decode cL_type 11 = .ok (.goto 11, 3) := by decide +kernel
theorem dL_type_14 : decode cL_type 14 = .ok (.astore 5, 2) := by decide +kernel
theorem dL_type_16 : decode cL_type 16 = .ok (.iconst 1, 1) := by decide +kernel
theorem dL_type_17 : decode cL_type 17 = .ok (.ireturn, 1) := by decide +kernel
theorem dL_type_18 : decode cL_type 18 = .ok (.astore 5, 2) := by decide +kernel
theorem dL_type_20 : decode cL_type 20 = .ok (.iconst 2, 1) := by decide +kernel
theorem dL_type_21 : decode cL_type 21 = .ok (.ireturn, 1) := by decide +kernel
theorem dL_type_22 : decode cL_type 22 = .ok (.iconst 0, 1) := by decide +kernel
theorem dL_type_23 : decode cL_type 23 = .ok (.ireturn, 1) := by decide +kernel
theorem dL_value_0 : decode cL_value 0 = .ok (.aload_n 0, 1) := by decide +kernel
theorem dL_value_1 : decode cL_value 1 = .ok (.iload_n 1, 1) := by decide +kernel
theorem dL_value_2 : decode cL_value 2 = .ok (.iload_n 2, 1) := by decide +kernel
theorem dL_value_3 : decode cL_value 3 = .ok (.iload_n 3, 1) := by decide +kernel
theorem dL_value_4 : decode cL_value 4 = .ok (.invokevirtual 17, 3) := by decide +kernel
theorem dL_value_7 : decode cL_value 7 = .ok (.goto 7, 3) := by decide +kernel
theorem dL_value_10 : decode cL_value 10 = .ok (.astore 4, 2) := by decide +kernel
theorem dL_value_12 : decode cL_value 12 = .ok (.iconst 1, 1) := by decide +kernel
theorem dL_value_13 : decode cL_value 13 = .ok (.ireturn, 1) := by decide +kernel
theorem dL_value_14 : decode cL_value 14 = .ok (.iconst 0, 1) := by decide +kernel
theorem dL_value_15 : decode cL_value 15 = .ok (.ireturn, 1) := by decide +kernel
theorem dL_holds_0 : decode cL_holds 0 = .ok (.aload_n 1, 1) := by decide +kernel
theorem dL_holds_1 : decode cL_holds 1 = .ok (.iconst 0, 1) := by decide +kernel
theorem dL_holds_2 : decode cL_holds 2 = .ok (.aload_n 0, 1) := by decide +kernel
theorem dL_holds_3 : decode cL_holds 3 = .ok (.invokevirtual 21, 3) := by decide +kernel
theorem dL_holds_6 : decode cL_holds 6 = .ok (.i2l, 1) := by decide +kernel
theorem dL_holds_7 : decode cL_holds 7 = .ok (.lastore, 1) := by decide +kernel
theorem dL_holds_8 : decode cL_holds 8 = .ok (.goto 6, 3) := by decide +kernel
theorem dL_holds_11 : decode cL_holds 11 = .ok (.astore_n 2, 1) := by decide +kernel
theorem dL_holds_12 : decode cL_holds 12 = .ok (.iconst 1, 1) := by decide +kernel
theorem dL_holds_13 : decode cL_holds 13 = .ok (.ireturn, 1) := by decide +kernel
theorem dL_holds_14 : decode cL_holds 14 = .ok (.iconst 0, 1) := by decide +kernel
theorem dL_holds_15 : decode cL_holds 15 = .ok (.ireturn, 1) := by decide +kernel
theorem dL_told_0 : decode cL_told 0 = .ok (.aload_n 2, 1) := by decide +kernel
theorem dL_told_1 : decode cL_told 1 = .ok (.iconst 0, 1) := by decide +kernel
theorem dL_told_2 : decode cL_told 2 = .ok (.aload_n 0, 1) := by decide +kernel
theorem dL_told_3 : decode cL_told 3 = .ok (.iload_n 1, 1) := by decide +kernel
theorem dL_told_4 : decode cL_told 4 = .ok (.invokevirtual 27, 3) := by decide +kernel
theorem dL_told_7 : decode cL_told 7 = .ok (.i2l, 1) := by decide +kernel
theorem dL_told_8 : decode cL_told 8 = .ok (.lastore, 1) := by decide +kernel
theorem dL_told_9 : decode cL_told 9 = .ok (.goto 6, 3) := by decide +kernel
theorem dL_told_12 : decode cL_told 12 = .ok (.astore_n 3, 1) := by decide +kernel
theorem dL_told_13 : decode cL_told 13 = .ok (.iconst 1, 1) := by decide +kernel
theorem dL_told_14 : decode cL_told 14 = .ok (.ireturn, 1) := by decide +kernel
theorem dL_told_15 : decode cL_told 15 = .ok (.iconst 0, 1) := by decide +kernel
theorem dL_told_16 : decode cL_told 16 = .ok (.ireturn, 1) := by decide +kernel
theorem dL_law_0 : decode cL_law 0 = .ok (.new 8, 3) := by decide +kernel
theorem dL_law_3 : decode cL_law 3 = .ok (.dup, 1) := by decide +kernel
theorem dL_law_4 : decode cL_law 4 = .ok (.invokespecial 31, 3) := by decide +kernel
theorem dL_law_7 : decode cL_law 7 = .ok (.astore_n 1, 1) := by decide +kernel
theorem dL_law_8 : decode cL_law 8 = .ok (.new 32, 3) := by decide +kernel
theorem dL_law_11 : decode cL_law 11 = .ok (.dup, 1) := by decide +kernel
theorem dL_law_12 : decode cL_law 12 = .ok (.invokespecial 34, 3) := by decide +kernel
theorem dL_law_15 : decode cL_law 15 = .ok (.astore_n 2, 1) := by decide +kernel
theorem dL_law_16 : decode cL_law 16 = .ok (.iconst 1, 1) := by decide +kernel
theorem dL_law_17 : decode cL_law 17 = .ok (.newarray .long, 2) := by decide +kernel
theorem dL_law_19 : decode cL_law 19 = .ok (.astore_n 3, 1) := by decide +kernel
theorem dL_law_20 : decode cL_law 20 = .ok (.iconst 0, 1) := by decide +kernel
theorem dL_law_21 : decode cL_law 21 = .ok (.istore 4, 2) := by decide +kernel
theorem dL_law_23 : decode cL_law 23 = .ok (.iload 4, 2) := by decide +kernel
theorem dL_law_25 : decode cL_law 25 = .ok (.aload_n 0, 1) := by decide +kernel
theorem dL_law_26 : decode cL_law 26 = .ok (.arraylength, 1) := by decide +kernel
theorem dL_law_27 : decode cL_law 27 = .ok (.iconst 4, 1) := by decide +kernel
theorem dL_law_28 : decode cL_law 28 = .ok (.isub, 1) := by decide +kernel
theorem dL_law_29 : decode cL_law 29 = .ok (.if_icmp .gt 375, 3) := by decide +kernel
theorem dL_law_32 : decode cL_law 32 = .ok (.aload_n 0, 1) := by decide +kernel
theorem dL_law_33 : decode cL_law 33 = .ok (.iload 4, 2) := by decide +kernel
theorem dL_law_35 : decode cL_law 35 = .ok (.iaload, 1) := by decide +kernel
theorem dL_law_36 : decode cL_law 36 = .ok (.bipush 15, 2) := by decide +kernel
theorem dL_law_38 : decode cL_law 38 = .ok (.iand, 1) := by decide +kernel
theorem dL_law_39 : decode cL_law 39 = .ok (.tableswitch 359 0 12 #[65, 137, 150, 163, 176, 189, 238, 254, 267, 280, 308, 321, 346], 65) := by decide +kernel
theorem dL_law_104 : decode cL_law 104 = .ok (.aload_n 1, 1) := by decide +kernel
theorem dL_law_105 : decode cL_law 105 = .ok (.aload_n 0, 1) := by decide +kernel
theorem dL_law_106 : decode cL_law 106 = .ok (.iload 4, 2) := by decide +kernel
theorem dL_law_108 : decode cL_law 108 = .ok (.iconst 1, 1) := by decide +kernel
theorem dL_law_109 : decode cL_law 109 = .ok (.iadd, 1) := by decide +kernel
theorem dL_law_110 : decode cL_law 110 = .ok (.iaload, 1) := by decide +kernel
theorem dL_law_111 : decode cL_law 111 = .ok (.i2l, 1) := by decide +kernel
theorem dL_law_112 : decode cL_law 112 = .ok (.bipush 32, 2) := by decide +kernel
theorem dL_law_114 : decode cL_law 114 = .ok (.lshl, 1) := by decide +kernel
theorem dL_law_115 : decode cL_law 115 = .ok (.aload_n 0, 1) := by decide +kernel
theorem dL_law_116 : decode cL_law 116 = .ok (.iload 4, 2) := by decide +kernel
theorem dL_law_118 : decode cL_law 118 = .ok (.iconst 2, 1) := by decide +kernel
theorem dL_law_119 : decode cL_law 119 = .ok (.iadd, 1) := by decide +kernel
theorem dL_law_120 : decode cL_law 120 = .ok (.iaload, 1) := by decide +kernel
theorem dL_law_121 : decode cL_law 121 = .ok (.i2l, 1) := by decide +kernel
theorem dL_law_122 : decode cL_law 122 = .ok (.ldc2_w 35, 3) := by decide +kernel
theorem dL_law_125 : decode cL_law 125 = .ok (.land, 1) := by decide +kernel
theorem dL_law_126 : decode cL_law 126 = .ok (.lor, 1) := by decide +kernel
theorem dL_law_127 : decode cL_law 127 = .ok (.aload_n 0, 1) := by decide +kernel
theorem dL_law_128 : decode cL_law 128 = .ok (.iload 4, 2) := by decide +kernel
theorem dL_law_130 : decode cL_law 130 = .ok (.iconst 3, 1) := by decide +kernel
theorem dL_law_131 : decode cL_law 131 = .ok (.iadd, 1) := by decide +kernel
theorem dL_law_132 : decode cL_law 132 = .ok (.iaload, 1) := by decide +kernel
theorem dL_law_133 : decode cL_law 133 = .ok (.aload_n 3, 1) := by decide +kernel
theorem dL_law_134 : decode cL_law 134 = .ok (.invokestatic 37, 3) := by decide +kernel
theorem dL_law_137 : decode cL_law 137 = .ok (.istore 5, 2) := by decide +kernel
theorem dL_law_139 : decode cL_law 139 = .ok (.aload_n 2, 1) := by decide +kernel
theorem dL_law_140 : decode cL_law 140 = .ok (.aload_n 0, 1) := by decide +kernel
theorem dL_law_141 : decode cL_law 141 = .ok (.iload 4, 2) := by decide +kernel
theorem dL_law_143 : decode cL_law 143 = .ok (.iconst 1, 1) := by decide +kernel
theorem dL_law_144 : decode cL_law 144 = .ok (.iadd, 1) := by decide +kernel
theorem dL_law_145 : decode cL_law 145 = .ok (.iaload, 1) := by decide +kernel
theorem dL_law_146 : decode cL_law 146 = .ok (.i2l, 1) := by decide +kernel
theorem dL_law_147 : decode cL_law 147 = .ok (.bipush 32, 2) := by decide +kernel
theorem dL_law_149 : decode cL_law 149 = .ok (.lshl, 1) := by decide +kernel
theorem dL_law_150 : decode cL_law 150 = .ok (.aload_n 0, 1) := by decide +kernel
theorem dL_law_151 : decode cL_law 151 = .ok (.iload 4, 2) := by decide +kernel
theorem dL_law_153 : decode cL_law 153 = .ok (.iconst 2, 1) := by decide +kernel
theorem dL_law_154 : decode cL_law 154 = .ok (.iadd, 1) := by decide +kernel
theorem dL_law_155 : decode cL_law 155 = .ok (.iaload, 1) := by decide +kernel
theorem dL_law_156 : decode cL_law 156 = .ok (.i2l, 1) := by decide +kernel
theorem dL_law_157 : decode cL_law 157 = .ok (.ldc2_w 35, 3) := by decide +kernel
theorem dL_law_160 : decode cL_law 160 = .ok (.land, 1) := by decide +kernel
theorem dL_law_161 : decode cL_law 161 = .ok (.lor, 1) := by decide +kernel
theorem dL_law_162 : decode cL_law 162 = .ok (.aload_n 0, 1) := by decide +kernel
theorem dL_law_163 : decode cL_law 163 = .ok (.iload 4, 2) := by decide +kernel
theorem dL_law_165 : decode cL_law 165 = .ok (.iconst 3, 1) := by decide +kernel
theorem dL_law_166 : decode cL_law 166 = .ok (.iadd, 1) := by decide +kernel
theorem dL_law_167 : decode cL_law 167 = .ok (.iaload, 1) := by decide +kernel
theorem dL_law_168 : decode cL_law 168 = .ok (.invokevirtual 42, 3) := by decide +kernel
theorem dL_law_171 : decode cL_law 171 = .ok (.istore 6, 2) := by decide +kernel
theorem dL_law_173 : decode cL_law 173 = .ok (.goto 225, 3) := by decide +kernel
theorem dL_law_176 : decode cL_law 176 = .ok (.aload_n 1, 1) := by decide +kernel
theorem dL_law_177 : decode cL_law 177 = .ok (.invokevirtual 43, 3) := by decide +kernel
theorem dL_law_180 : decode cL_law 180 = .ok (.pop, 1) := by decide +kernel
theorem dL_law_181 : decode cL_law 181 = .ok (.aload_n 2, 1) := by decide +kernel
theorem dL_law_182 : decode cL_law 182 = .ok (.invokevirtual 46, 3) := by decide +kernel
theorem dL_law_185 : decode cL_law 185 = .ok (.pop, 1) := by decide +kernel
theorem dL_law_186 : decode cL_law 186 = .ok (.goto 212, 3) := by decide +kernel
theorem dL_law_189 : decode cL_law 189 = .ok (.aload_n 1, 1) := by decide +kernel
theorem dL_law_190 : decode cL_law 190 = .ok (.invokevirtual 47, 3) := by decide +kernel
theorem dL_law_193 : decode cL_law 193 = .ok (.pop, 1) := by decide +kernel
theorem dL_law_194 : decode cL_law 194 = .ok (.aload_n 2, 1) := by decide +kernel
theorem dL_law_195 : decode cL_law 195 = .ok (.invokevirtual 50, 3) := by decide +kernel
theorem dL_law_198 : decode cL_law 198 = .ok (.pop, 1) := by decide +kernel
theorem dL_law_199 : decode cL_law 199 = .ok (.goto 199, 3) := by decide +kernel
theorem dL_law_202 : decode cL_law 202 = .ok (.aload_n 1, 1) := by decide +kernel
theorem dL_law_203 : decode cL_law 203 = .ok (.invokevirtual 51, 3) := by decide +kernel
theorem dL_law_206 : decode cL_law 206 = .ok (.pop, 1) := by decide +kernel
theorem dL_law_207 : decode cL_law 207 = .ok (.aload_n 2, 1) := by decide +kernel
theorem dL_law_208 : decode cL_law 208 = .ok (.invokevirtual 54, 3) := by decide +kernel
theorem dL_law_211 : decode cL_law 211 = .ok (.pop, 1) := by decide +kernel
theorem dL_law_212 : decode cL_law 212 = .ok (.goto 186, 3) := by decide +kernel
theorem dL_law_215 : decode cL_law 215 = .ok (.aload_n 1, 1) := by decide +kernel
theorem dL_law_216 : decode cL_law 216 = .ok (.invokevirtual 55, 3) := by decide +kernel
theorem dL_law_219 : decode cL_law 219 = .ok (.pop, 1) := by decide +kernel
theorem dL_law_220 : decode cL_law 220 = .ok (.aload_n 2, 1) := by decide +kernel
theorem dL_law_221 : decode cL_law 221 = .ok (.invokevirtual 58, 3) := by decide +kernel
theorem dL_law_224 : decode cL_law 224 = .ok (.pop, 1) := by decide +kernel
theorem dL_law_225 : decode cL_law 225 = .ok (.goto 173, 3) := by decide +kernel
theorem dL_law_228 : decode cL_law 228 = .ok (.aload_n 1, 1) := by decide +kernel
theorem dL_law_229 : decode cL_law 229 = .ok (.aload_n 0, 1) := by decide +kernel
theorem dL_law_230 : decode cL_law 230 = .ok (.iload 4, 2) := by decide +kernel
theorem dL_law_232 : decode cL_law 232 = .ok (.iconst 1, 1) := by decide +kernel
theorem dL_law_233 : decode cL_law 233 = .ok (.iadd, 1) := by decide +kernel
theorem dL_law_234 : decode cL_law 234 = .ok (.iaload, 1) := by decide +kernel
theorem dL_law_235 : decode cL_law 235 = .ok (.aload_n 0, 1) := by decide +kernel
theorem dL_law_236 : decode cL_law 236 = .ok (.iload 4, 2) := by decide +kernel
theorem dL_law_238 : decode cL_law 238 = .ok (.iconst 2, 1) := by decide +kernel
theorem dL_law_239 : decode cL_law 239 = .ok (.iadd, 1) := by decide +kernel
theorem dL_law_240 : decode cL_law 240 = .ok (.iaload, 1) := by decide +kernel
theorem dL_law_241 : decode cL_law 241 = .ok (.aload_n 0, 1) := by decide +kernel
theorem dL_law_242 : decode cL_law 242 = .ok (.iload 4, 2) := by decide +kernel
theorem dL_law_244 : decode cL_law 244 = .ok (.iconst 3, 1) := by decide +kernel
theorem dL_law_245 : decode cL_law 245 = .ok (.iadd, 1) := by decide +kernel
theorem dL_law_246 : decode cL_law 246 = .ok (.iaload, 1) := by decide +kernel
theorem dL_law_247 : decode cL_law 247 = .ok (.invokestatic 59, 3) := by decide +kernel
theorem dL_law_250 : decode cL_law 250 = .ok (.istore 5, 2) := by decide +kernel
theorem dL_law_252 : decode cL_law 252 = .ok (.aload_n 2, 1) := by decide +kernel
theorem dL_law_253 : decode cL_law 253 = .ok (.aload_n 0, 1) := by decide +kernel
theorem dL_law_254 : decode cL_law 254 = .ok (.iload 4, 2) := by decide +kernel
theorem dL_law_256 : decode cL_law 256 = .ok (.iconst 1, 1) := by decide +kernel
theorem dL_law_257 : decode cL_law 257 = .ok (.iadd, 1) := by decide +kernel
theorem dL_law_258 : decode cL_law 258 = .ok (.iaload, 1) := by decide +kernel
theorem dL_law_259 : decode cL_law 259 = .ok (.aload_n 0, 1) := by decide +kernel
theorem dL_law_260 : decode cL_law 260 = .ok (.iload 4, 2) := by decide +kernel
theorem dL_law_262 : decode cL_law 262 = .ok (.iconst 2, 1) := by decide +kernel
theorem dL_law_263 : decode cL_law 263 = .ok (.iadd, 1) := by decide +kernel
theorem dL_law_264 : decode cL_law 264 = .ok (.iaload, 1) := by decide +kernel
theorem dL_law_265 : decode cL_law 265 = .ok (.aload_n 0, 1) := by decide +kernel
theorem dL_law_266 : decode cL_law 266 = .ok (.iload 4, 2) := by decide +kernel
theorem dL_law_268 : decode cL_law 268 = .ok (.iconst 3, 1) := by decide +kernel
theorem dL_law_269 : decode cL_law 269 = .ok (.iadd, 1) := by decide +kernel
theorem dL_law_270 : decode cL_law 270 = .ok (.iaload, 1) := by decide +kernel
theorem dL_law_271 : decode cL_law 271 = .ok (.invokevirtual 62, 3) := by decide +kernel
theorem dL_law_274 : decode cL_law 274 = .ok (.goto 124, 3) := by decide +kernel
theorem dL_law_277 : decode cL_law 277 = .ok (.aload_n 1, 1) := by decide +kernel
theorem dL_law_278 : decode cL_law 278 = .ok (.aload_n 3, 1) := by decide +kernel
theorem dL_law_279 : decode cL_law 279 = .ok (.invokestatic 63, 3) := by decide +kernel
theorem dL_law_282 : decode cL_law 282 = .ok (.istore 5, 2) := by decide +kernel
theorem dL_law_284 : decode cL_law 284 = .ok (.aload_n 2, 1) := by decide +kernel
theorem dL_law_285 : decode cL_law 285 = .ok (.invokevirtual 66, 3) := by decide +kernel
theorem dL_law_288 : decode cL_law 288 = .ok (.istore 6, 2) := by decide +kernel
theorem dL_law_290 : decode cL_law 290 = .ok (.goto 108, 3) := by decide +kernel
theorem dL_law_293 : decode cL_law 293 = .ok (.aload_n 1, 1) := by decide +kernel
theorem dL_law_294 : decode cL_law 294 = .ok (.invokevirtual 67, 3) := by decide +kernel
theorem dL_law_297 : decode cL_law 297 = .ok (.pop, 1) := by decide +kernel
theorem dL_law_298 : decode cL_law 298 = .ok (.aload_n 2, 1) := by decide +kernel
theorem dL_law_299 : decode cL_law 299 = .ok (.invokevirtual 70, 3) := by decide +kernel
theorem dL_law_302 : decode cL_law 302 = .ok (.pop, 1) := by decide +kernel
theorem dL_law_303 : decode cL_law 303 = .ok (.goto 95, 3) := by decide +kernel
theorem dL_law_306 : decode cL_law 306 = .ok (.aload_n 1, 1) := by decide +kernel
theorem dL_law_307 : decode cL_law 307 = .ok (.invokevirtual 71, 3) := by decide +kernel
theorem dL_law_310 : decode cL_law 310 = .ok (.pop, 1) := by decide +kernel
theorem dL_law_311 : decode cL_law 311 = .ok (.aload_n 2, 1) := by decide +kernel
theorem dL_law_312 : decode cL_law 312 = .ok (.invokevirtual 74, 3) := by decide +kernel
theorem dL_law_315 : decode cL_law 315 = .ok (.pop, 1) := by decide +kernel
theorem dL_law_316 : decode cL_law 316 = .ok (.goto 82, 3) := by decide +kernel
theorem dL_law_319 : decode cL_law 319 = .ok (.aload_n 1, 1) := by decide +kernel
theorem dL_law_320 : decode cL_law 320 = .ok (.aload_n 0, 1) := by decide +kernel
theorem dL_law_321 : decode cL_law 321 = .ok (.iload 4, 2) := by decide +kernel
theorem dL_law_323 : decode cL_law 323 = .ok (.iconst 1, 1) := by decide +kernel
theorem dL_law_324 : decode cL_law 324 = .ok (.iadd, 1) := by decide +kernel
theorem dL_law_325 : decode cL_law 325 = .ok (.iaload, 1) := by decide +kernel
theorem dL_law_326 : decode cL_law 326 = .ok (.aload_n 3, 1) := by decide +kernel
theorem dL_law_327 : decode cL_law 327 = .ok (.invokestatic 75, 3) := by decide +kernel
theorem dL_law_330 : decode cL_law 330 = .ok (.istore 5, 2) := by decide +kernel
theorem dL_law_332 : decode cL_law 332 = .ok (.aload_n 2, 1) := by decide +kernel
theorem dL_law_333 : decode cL_law 333 = .ok (.aload_n 0, 1) := by decide +kernel
theorem dL_law_334 : decode cL_law 334 = .ok (.iload 4, 2) := by decide +kernel
theorem dL_law_336 : decode cL_law 336 = .ok (.iconst 1, 1) := by decide +kernel
theorem dL_law_337 : decode cL_law 337 = .ok (.iadd, 1) := by decide +kernel
theorem dL_law_338 : decode cL_law 338 = .ok (.iaload, 1) := by decide +kernel
theorem dL_law_339 : decode cL_law 339 = .ok (.invokevirtual 78, 3) := by decide +kernel
theorem dL_law_342 : decode cL_law 342 = .ok (.istore 6, 2) := by decide +kernel
theorem dL_law_344 : decode cL_law 344 = .ok (.goto 54, 3) := by decide +kernel
theorem dL_law_347 : decode cL_law 347 = .ok (.aload_n 1, 1) := by decide +kernel
theorem dL_law_348 : decode cL_law 348 = .ok (.invokevirtual 79, 3) := by decide +kernel
theorem dL_law_351 : decode cL_law 351 = .ok (.pop, 1) := by decide +kernel
theorem dL_law_352 : decode cL_law 352 = .ok (.aload_n 2, 1) := by decide +kernel
theorem dL_law_353 : decode cL_law 353 = .ok (.invokevirtual 82, 3) := by decide +kernel
theorem dL_law_356 : decode cL_law 356 = .ok (.pop, 1) := by decide +kernel
theorem dL_law_357 : decode cL_law 357 = .ok (.goto 41, 3) := by decide +kernel
theorem dL_law_360 : decode cL_law 360 = .ok (.aload_n 1, 1) := by decide +kernel
theorem dL_law_361 : decode cL_law 361 = .ok (.aload_n 0, 1) := by decide +kernel
theorem dL_law_362 : decode cL_law 362 = .ok (.iload 4, 2) := by decide +kernel
theorem dL_law_364 : decode cL_law 364 = .ok (.iconst 1, 1) := by decide +kernel
theorem dL_law_365 : decode cL_law 365 = .ok (.iadd, 1) := by decide +kernel
theorem dL_law_366 : decode cL_law 366 = .ok (.iaload, 1) := by decide +kernel
theorem dL_law_367 : decode cL_law 367 = .ok (.invokevirtual 83, 3) := by decide +kernel
theorem dL_law_370 : decode cL_law 370 = .ok (.pop2, 1) := by decide +kernel
theorem dL_law_371 : decode cL_law 371 = .ok (.aload_n 2, 1) := by decide +kernel
theorem dL_law_372 : decode cL_law 372 = .ok (.aload_n 0, 1) := by decide +kernel
theorem dL_law_373 : decode cL_law 373 = .ok (.iload 4, 2) := by decide +kernel
theorem dL_law_375 : decode cL_law 375 = .ok (.iconst 1, 1) := by decide +kernel
theorem dL_law_376 : decode cL_law 376 = .ok (.iadd, 1) := by decide +kernel
theorem dL_law_377 : decode cL_law 377 = .ok (.iaload, 1) := by decide +kernel
theorem dL_law_378 : decode cL_law 378 = .ok (.invokevirtual 87, 3) := by decide +kernel
theorem dL_law_381 : decode cL_law 381 = .ok (.pop2, 1) := by decide +kernel
theorem dL_law_382 : decode cL_law 382 = .ok (.goto 16, 3) := by decide +kernel
theorem dL_law_385 : decode cL_law 385 = .ok (.aload_n 1, 1) := by decide +kernel
theorem dL_law_386 : decode cL_law 386 = .ok (.invokevirtual 88, 3) := by decide +kernel
theorem dL_law_389 : decode cL_law 389 = .ok (.aload_n 2, 1) := by decide +kernel
theorem dL_law_390 : decode cL_law 390 = .ok (.invokevirtual 91, 3) := by decide +kernel
theorem dL_law_393 : decode cL_law 393 = .ok (.if_icmp .eq 5, 3) := by decide +kernel
theorem dL_law_396 : decode cL_law 396 = .ok (.iconst 0, 1) := by decide +kernel
theorem dL_law_397 : decode cL_law 397 = .ok (.ireturn, 1) := by decide +kernel
theorem dL_law_398 : decode cL_law 398 = .ok (.iinc 4 4, 3) := by decide +kernel
theorem dL_law_401 : decode cL_law 401 = .ok (.goto (-378), 3) := by decide +kernel
theorem dL_law_404 : decode cL_law 404 = .ok (.iconst 1, 1) := by decide +kernel
theorem dL_law_405 : decode cL_law 405 = .ok (.ireturn, 1) := by decide +kernel
