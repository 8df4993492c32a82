theorem dX7_init_0 : decode cX7_init 0 = .ok (.aload_n 0, 1) := by decide +kernel
theorem dX7_init_1 : decode cX7_init 1 = .ok (.invokespecial 1, 3) := by decide +kernel
theorem dX7_init_4 : decode cX7_init 4 = .ok (.aload_n 0, 1) := by decide +kernel
theorem dX7_init_5 : decode cX7_init 5 = .ok (.sipush 24000, 3) := by decide +kernel
theorem dX7_init_8 : decode cX7_init 8 = .ok (.newarray .int, 2) := by decide +kernel
theorem dX7_init_10 : decode cX7_init 10 = .ok (.putfield 7, 3) := by decide +kernel
theorem dX7_init_13 : decode cX7_init 13 = .ok (.aload_n 0, 1) := by decide +kernel
theorem dX7_init_14 : decode cX7_init 14 = .ok (.sipush 24000, 3) := by decide +kernel
theorem dX7_init_17 : decode cX7_init 17 = .ok (.newarray .int, 2) := by decide +kernel
theorem dX7_init_19 : decode cX7_init 19 = .ok (.putfield 13, 3) := by decide +kernel
theorem dX7_init_22 : decode cX7_init 22 = .ok (.aload_n 0, 1) := by decide +kernel
theorem dX7_init_23 : decode cX7_init 23 = .ok (.sipush 24000, 3) := by decide +kernel
theorem dX7_init_26 : decode cX7_init 26 = .ok (.newarray .int, 2) := by decide +kernel
theorem dX7_init_28 : decode cX7_init 28 = .ok (.putfield 16, 3) := by decide +kernel
theorem dX7_init_31 : decode cX7_init 31 = .ok (.aload_n 0, 1) := by decide +kernel
theorem dX7_init_32 : decode cX7_init 32 = .ok (.sipush 24000, 3) := by decide +kernel
theorem dX7_init_35 : decode cX7_init 35 = .ok (.newarray .int, 2) := by decide +kernel
theorem dX7_init_37 : decode cX7_init 37 = .ok (.putfield 19, 3) := by decide +kernel
theorem dX7_init_40 : decode cX7_init 40 = .ok (.aload_n 0, 1) := by decide +kernel
theorem dX7_init_41 : decode cX7_init 41 = .ok (.sipush 24000, 3) := by decide +kernel
theorem dX7_init_44 : decode cX7_init 44 = .ok (.newarray .int, 2) := by decide +kernel
theorem dX7_init_46 : decode cX7_init 46 = .ok (.putfield 22, 3) := by decide +kernel
theorem dX7_init_49 : decode cX7_init 49 = .ok (.aload_n 0, 1) := by decide +kernel
theorem dX7_init_50 : decode cX7_init 50 = .ok (.ldc 25, 2) := by decide +kernel
theorem dX7_init_52 : decode cX7_init 52 = .ok (.newarray .int, 2) := by decide +kernel
theorem dX7_init_54 : decode cX7_init 54 = .ok (.putfield 26, 3) := by decide +kernel
theorem dX7_init_57 : decode cX7_init 57 = .ok (.aload_n 0, 1) := by decide +kernel
theorem dX7_init_58 : decode cX7_init 58 = .ok (.ldc 29, 2) := by decide +kernel
theorem dX7_init_60 : decode cX7_init 60 = .ok (.newarray .int, 2) := by decide +kernel
theorem dX7_init_62 : decode cX7_init 62 = .ok (.putfield 30, 3) := by decide +kernel
theorem dX7_init_65 : decode cX7_init 65 = .ok (.aload_n 0, 1) := by decide +kernel
theorem dX7_init_66 : decode cX7_init 66 = .ok (.sipush 2000, 3) := by decide +kernel
theorem dX7_init_69 : decode cX7_init 69 = .ok (.newarray .int, 2) := by decide +kernel
theorem dX7_init_71 : decode cX7_init 71 = .ok (.putfield 33, 3) := by decide +kernel
theorem dX7_init_74 : decode cX7_init 74 = .ok (.aload_n 0, 1) := by decide +kernel
theorem dX7_init_75 : decode cX7_init 75 = .ok (.sipush 24000, 3) := by decide +kernel
theorem dX7_init_78 : decode cX7_init 78 = .ok (.newarray .int, 2) := by decide +kernel
theorem dX7_init_80 : decode cX7_init 80 = .ok (.putfield 36, 3) := by decide +kernel
theorem dX7_init_83 : decode cX7_init 83 = .ok (.aload_n 0, 1) := by decide +kernel
theorem dX7_init_84 : decode cX7_init 84 = .ok (.sipush 240, 3) := by decide +kernel
theorem dX7_init_87 : decode cX7_init 87 = .ok (.newarray .byte, 2) := by decide +kernel
theorem dX7_init_89 : decode cX7_init 89 = .ok (.putfield 39, 3) := by decide +kernel
theorem dX7_init_92 : decode cX7_init 92 = .ok (.aload_n 0, 1) := by decide +kernel
theorem dX7_init_93 : decode cX7_init 93 = .ok (.sipush 12000, 3) := by decide +kernel
theorem dX7_init_96 : decode cX7_init 96 = .ok (.newarray .byte, 2) := by decide +kernel
theorem dX7_init_98 : decode cX7_init 98 = .ok (.putfield 43, 3) := by decide +kernel
theorem dX7_init_101 : decode cX7_init 101 = .ok (.aload_n 0, 1) := by decide +kernel
theorem dX7_init_102 : decode cX7_init 102 = .ok (.bipush 8, 2) := by decide +kernel
theorem dX7_init_104 : decode cX7_init 104 = .ok (.newarray .int, 2) := by decide +kernel
theorem dX7_init_106 : decode cX7_init 106 = .ok (.putfield 46, 3) := by decide +kernel
theorem dX7_init_109 : decode cX7_init 109 = .ok (.aload_n 0, 1) := by decide +kernel
theorem dX7_init_110 : decode cX7_init 110 = .ok (.bipush 8, 2) := by decide +kernel
theorem dX7_init_112 : decode cX7_init 112 = .ok (.newarray .int, 2) := by decide +kernel
theorem dX7_init_114 : decode cX7_init 114 = .ok (.putfield 49, 3) := by decide +kernel
theorem dX7_init_117 : decode cX7_init 117 = .ok (.aload_n 0, 1) := by decide +kernel
theorem dX7_init_118 : decode cX7_init 118 = .ok (.bipush 9, 2) := by decide +kernel
theorem dX7_init_120 : decode cX7_init 120 = .ok (.newarray .long, 2) := by decide +kernel
theorem dX7_init_122 : decode cX7_init 122 = .ok (.putfield 52, 3) := by decide +kernel
theorem dX7_init_125 : decode cX7_init 125 = .ok (.aload_n 0, 1) := by decide +kernel
theorem dX7_init_126 : decode cX7_init 126 = .ok (.bipush 9, 2) := by decide +kernel
theorem dX7_init_128 : decode cX7_init 128 = .ok (.newarray .long, 2) := by decide +kernel
theorem dX7_init_130 : decode cX7_init 130 = .ok (.putfield 56, 3) := by decide +kernel
theorem dX7_init_133 : decode cX7_init 133 = .ok (.aload_n 0, 1) := by decide +kernel
theorem dX7_init_134 : decode cX7_init 134 = .ok (.bipush 9, 2) := by decide +kernel
theorem dX7_init_136 : decode cX7_init 136 = .ok (.newarray .long, 2) := by decide +kernel
theorem dX7_init_138 : decode cX7_init 138 = .ok (.putfield 59, 3) := by decide +kernel
theorem dX7_init_141 : decode cX7_init 141 = .ok (.aload_n 0, 1) := by decide +kernel
theorem dX7_init_142 : decode cX7_init 142 = .ok (.sipush 14000, 3) := by decide +kernel
theorem dX7_init_145 : decode cX7_init 145 = .ok (.newarray .int, 2) := by decide +kernel
theorem dX7_init_147 : decode cX7_init 147 = .ok (.putfield 62, 3) := by decide +kernel
theorem dX7_init_150 : decode cX7_init 150 = .ok (.aload_n 0, 1) := by decide +kernel
theorem dX7_init_151 : decode cX7_init 151 = .ok (.sipush 1400, 3) := by decide +kernel
theorem dX7_init_154 : decode cX7_init 154 = .ok (.newarray .int, 2) := by decide +kernel
theorem dX7_init_156 : decode cX7_init 156 = .ok (.putfield 65, 3) := by decide +kernel
theorem dX7_init_159 : decode cX7_init 159 = .ok (.iconst 0, 1) := by decide +kernel
theorem dX7_init_160 : decode cX7_init 160 = .ok (.istore_n 1, 1) := by decide +kernel
theorem dX7_init_161 : decode cX7_init 161 = .ok (.iload_n 1, 1) := by decide +kernel
theorem dX7_init_162 : decode cX7_init 162 = .ok (.bipush 8, 2) := by decide +kernel
theorem dX7_init_164 : decode cX7_init 164 = .ok (.if_icmp .ge 16, 3) := by decide +kernel
theorem dX7_init_167 : decode cX7_init 167 = .ok (.aload_n 0, 1) := by decide +kernel
theorem dX7_init_168 : decode cX7_init 168 = .ok (.getfield 49, 3) := by decide +kernel
theorem dX7_init_171 : decode cX7_init 171 = .ok (.iload_n 1, 1) := by decide +kernel
theorem dX7_init_172 : decode cX7_init 172 = .ok (.iconst 1, 1) := by decide +kernel
theorem dX7_init_173 : decode cX7_init 173 = .ok (.iastore, 1) := by decide +kernel
theorem dX7_init_174 : decode cX7_init 174 = .ok (.iinc 1 1, 3) := by decide +kernel
theorem dX7_init_177 : decode cX7_init 177 = .ok (.goto (-16), 3) := by decide +kernel
theorem dX7_init_180 : decode cX7_init 180 = .ok (.aload_n 0, 1) := by decide +kernel
theorem dX7_init_181 : decode cX7_init 181 = .ok (.iconst 0, 1) := by decide +kernel
theorem dX7_init_182 : decode cX7_init 182 = .ok (.iconst 0, 1) := by decide +kernel
theorem dX7_init_183 : decode cX7_init 183 = .ok (.iconst 0, 1) := by decide +kernel
theorem dX7_init_184 : decode cX7_init 184 = .ok (.invokevirtual 68, 3) := by decide +kernel
theorem dX7_init_187 : decode cX7_init 187 = .ok (.istore_n 1, 1) := by decide +kernel
theorem dX7_init_188 : decode cX7_init 188 = .ok (.aload_n 0, 1) := by decide +kernel
theorem dX7_init_189 : decode cX7_init 189 = .ok (.iconst 1, 1) := by decide +kernel
theorem dX7_init_190 : decode cX7_init 190 = .ok (.iconst 0, 1) := by decide +kernel
theorem dX7_init_191 : decode cX7_init 191 = .ok (.iconst 0, 1) := by decide +kernel
theorem dX7_init_192 : decode cX7_init 192 = .ok (.invokevirtual 68, 3) := by decide +kernel
theorem dX7_init_195 : decode cX7_init 195 = .ok (.istore_n 2, 1) := by decide +kernel
theorem dX7_init_196 : decode cX7_init 196 = .ok (.aload_n 0, 1) := by decide +kernel
theorem dX7_init_197 : decode cX7_init 197 = .ok (.getfield 33, 3) := by decide +kernel
theorem dX7_init_200 : decode cX7_init 200 = .ok (.iconst 0, 1) := by decide +kernel
theorem dX7_init_201 : decode cX7_init 201 = .ok (.iload_n 1, 1) := by decide +kernel
theorem dX7_init_202 : decode cX7_init 202 = .ok (.iastore, 1) := by decide +kernel
theorem dX7_init_203 : decode cX7_init 203 = .ok (.aload_n 0, 1) := by decide +kernel
theorem dX7_init_204 : decode cX7_init 204 = .ok (.iconst 1, 1) := by decide +kernel
theorem dX7_init_205 : decode cX7_init 205 = .ok (.putfield 72, 3) := by decide +kernel
theorem dX7_init_208 : decode cX7_init 208 = .ok (.return_, 1) := by decide +kernel
theorem dX7_hashOf_0 : decode cX7_hashOf 0 = .ok (.iload_n 1, 1) := by decide +kernel
theorem dX7_hashOf_1 : decode cX7_hashOf 1 = .ok (.bipush 31, 2) := by decide +kernel
theorem dX7_hashOf_3 : decode cX7_hashOf 3 = .ok (.imul, 1) := by decide +kernel
theorem dX7_hashOf_4 : decode cX7_hashOf 4 = .ok (.iload_n 2, 1) := by decide +kernel
theorem dX7_hashOf_5 : decode cX7_hashOf 5 = .ok (.iadd, 1) := by decide +kernel
theorem dX7_hashOf_6 : decode cX7_hashOf 6 = .ok (.istore 6, 2) := by decide +kernel
theorem dX7_hashOf_8 : decode cX7_hashOf 8 = .ok (.iload 6, 2) := by decide +kernel
theorem dX7_hashOf_10 : decode cX7_hashOf 10 = .ok (.ldc 79, 2) := by decide +kernel
theorem dX7_hashOf_12 : decode cX7_hashOf 12 = .ok (.imul, 1) := by decide +kernel
theorem dX7_hashOf_13 : decode cX7_hashOf 13 = .ok (.iload_n 3, 1) := by decide +kernel
theorem dX7_hashOf_14 : decode cX7_hashOf 14 = .ok (.iadd, 1) := by decide +kernel
theorem dX7_hashOf_15 : decode cX7_hashOf 15 = .ok (.istore 6, 2) := by decide +kernel
theorem dX7_hashOf_17 : decode cX7_hashOf 17 = .ok (.iconst 0, 1) := by decide +kernel
theorem dX7_hashOf_18 : decode cX7_hashOf 18 = .ok (.istore 7, 2) := by decide +kernel
theorem dX7_hashOf_20 : decode cX7_hashOf 20 = .ok (.iload 7, 2) := by decide +kernel
theorem dX7_hashOf_22 : decode cX7_hashOf 22 = .ok (.bipush 9, 2) := by decide +kernel
theorem dX7_hashOf_24 : decode cX7_hashOf 24 = .ok (.if_icmp .ge 51, 3) := by decide +kernel
theorem dX7_hashOf_27 : decode cX7_hashOf 27 = .ok (.iload 4, 2) := by decide +kernel
theorem dX7_hashOf_29 : decode cX7_hashOf 29 = .ok (.ifCond .eq 46, 3) := by decide +kernel
theorem dX7_hashOf_32 : decode cX7_hashOf 32 = .ok (.iload 6, 2) := by decide +kernel
theorem dX7_hashOf_34 : decode cX7_hashOf 34 = .ok (.ldc 79, 2) := by decide +kernel
theorem dX7_hashOf_36 : decode cX7_hashOf 36 = .ok (.imul, 1) := by decide +kernel
theorem dX7_hashOf_37 : decode cX7_hashOf 37 = .ok (.iload 5, 2) := by decide +kernel
theorem dX7_hashOf_39 : decode cX7_hashOf 39 = .ok (.ifCond .ge 14, 3) := by decide +kernel
theorem dX7_hashOf_42 : decode cX7_hashOf 42 = .ok (.aload_n 0, 1) := by decide +kernel
theorem dX7_hashOf_43 : decode cX7_hashOf 43 = .ok (.getfield 52, 3) := by decide +kernel
theorem dX7_hashOf_46 : decode cX7_hashOf 46 = .ok (.iload 7, 2) := by decide +kernel
theorem dX7_hashOf_48 : decode cX7_hashOf 48 = .ok (.laload, 1) := by decide +kernel
theorem dX7_hashOf_49 : decode cX7_hashOf 49 = .ok (.l2i, 1) := by decide +kernel
theorem dX7_hashOf_50 : decode cX7_hashOf 50 = .ok (.goto 16, 3) := by decide +kernel
theorem dX7_hashOf_53 : decode cX7_hashOf 53 = .ok (.aload_n 0, 1) := by decide +kernel
theorem dX7_hashOf_54 : decode cX7_hashOf 54 = .ok (.getfield 26, 3) := by decide +kernel
theorem dX7_hashOf_57 : decode cX7_hashOf 57 = .ok (.bipush 9, 2) := by decide +kernel
theorem dX7_hashOf_59 : decode cX7_hashOf 59 = .ok (.iload 5, 2) := by decide +kernel
theorem dX7_hashOf_61 : decode cX7_hashOf 61 = .ok (.imul, 1) := by decide +kernel
theorem dX7_hashOf_62 : decode cX7_hashOf 62 = .ok (.iload 7, 2) := by decide +kernel
theorem dX7_hashOf_64 : decode cX7_hashOf 64 = .ok (.iadd, 1) := by decide +kernel
theorem dX7_hashOf_65 : decode cX7_hashOf 65 = .ok (.iaload, 1) := by decide +kernel
theorem dX7_hashOf_66 : decode cX7_hashOf 66 = .ok (.iadd, 1) := by decide +kernel
theorem dX7_hashOf_67 : decode cX7_hashOf 67 = .ok (.istore 6, 2) := by decide +kernel
theorem dX7_hashOf_69 : decode cX7_hashOf 69 = .ok (.iinc 7 1, 3) := by decide +kernel
theorem dX7_hashOf_72 : decode cX7_hashOf 72 = .ok (.goto (-52), 3) := by decide +kernel
theorem dX7_hashOf_75 : decode cX7_hashOf 75 = .ok (.iload 6, 2) := by decide +kernel
theorem dX7_hashOf_77 : decode cX7_hashOf 77 = .ok (.iload 6, 2) := by decide +kernel
theorem dX7_hashOf_79 : decode cX7_hashOf 79 = .ok (.bipush 15, 2) := by decide +kernel
theorem dX7_hashOf_81 : decode cX7_hashOf 81 = .ok (.iushr, 1) := by decide +kernel
theorem dX7_hashOf_82 : decode cX7_hashOf 82 = .ok (.ixor, 1) := by decide +kernel
theorem dX7_hashOf_83 : decode cX7_hashOf 83 = .ok (.istore 6, 2) := by decide +kernel
theorem dX7_hashOf_85 : decode cX7_hashOf 85 = .ok (.iload 6, 2) := by decide +kernel
theorem dX7_hashOf_87 : decode cX7_hashOf 87 = .ok (.ldc 80, 2) := by decide +kernel
theorem dX7_hashOf_89 : decode cX7_hashOf 89 = .ok (.iand, 1) := by decide +kernel
theorem dX7_hashOf_90 : decode cX7_hashOf 90 = .ok (.ireturn, 1) := by decide +kernel
theorem dX7_place_0 : decode cX7_place 0 = .ok (.iload_n 1, 1) := by decide +kernel
theorem dX7_place_1 : decode cX7_place 1 = .ok (.iconst 2, 1) := by decide +kernel
theorem dX7_place_2 : decode cX7_place 2 = .ok (.if_icmp .ne 7, 3) := by decide +kernel
theorem dX7_place_5 : decode cX7_place 5 = .ok (.iconst 1, 1) := by decide +kernel
theorem dX7_place_6 : decode cX7_place 6 = .ok (.goto 4, 3) := by decide +kernel
theorem dX7_place_9 : decode cX7_place 9 = .ok (.iconst 0, 1) := by decide +kernel
theorem dX7_place_10 : decode cX7_place 10 = .ok (.istore 4, 2) := by decide +kernel
theorem dX7_place_12 : decode cX7_place 12 = .ok (.aload_n 0, 1) := by decide +kernel
theorem dX7_place_13 : decode cX7_place 13 = .ok (.iload_n 1, 1) := by decide +kernel
theorem dX7_place_14 : decode cX7_place 14 = .ok (.iload_n 2, 1) := by decide +kernel
theorem dX7_place_15 : decode cX7_place 15 = .ok (.iload_n 3, 1) := by decide +kernel
theorem dX7_place_16 : decode cX7_place 16 = .ok (.iload 4, 2) := by decide +kernel
theorem dX7_place_18 : decode cX7_place 18 = .ok (.iconst (-1), 1) := by decide +kernel
theorem dX7_place_19 : decode cX7_place 19 = .ok (.invokevirtual 81, 3) := by decide +kernel
theorem dX7_place_22 : decode cX7_place 22 = .ok (.istore 5, 2) := by decide +kernel
theorem dX7_place_24 : decode cX7_place 24 = .ok (.aload_n 0, 1) := by decide +kernel
theorem dX7_place_25 : decode cX7_place 25 = .ok (.getfield 30, 3) := by decide +kernel
theorem dX7_place_28 : decode cX7_place 28 = .ok (.iload 5, 2) := by decide +kernel
theorem dX7_place_30 : decode cX7_place 30 = .ok (.iaload, 1) := by decide +kernel
theorem dX7_place_31 : decode cX7_place 31 = .ok (.ifCond .le 132, 3) := by decide +kernel
theorem dX7_place_34 : decode cX7_place 34 = .ok (.aload_n 0, 1) := by decide +kernel
theorem dX7_place_35 : decode cX7_place 35 = .ok (.getfield 30, 3) := by decide +kernel
theorem dX7_place_38 : decode cX7_place 38 = .ok (.iload 5, 2) := by decide +kernel
theorem dX7_place_40 : decode cX7_place 40 = .ok (.iaload, 1) := by decide +kernel
theorem dX7_place_41 : decode cX7_place 41 = .ok (.iconst 1, 1) := by decide +kernel
theorem dX7_place_42 : decode cX7_place 42 = .ok (.isub, 1) := by decide +kernel
theorem dX7_place_43 : decode cX7_place 43 = .ok (.istore 6, 2) := by decide +kernel
theorem dX7_place_45 : decode cX7_place 45 = .ok (.aload_n 0, 1) := by decide +kernel
theorem dX7_place_46 : decode cX7_place 46 = .ok (.getfield 7, 3) := by decide +kernel
theorem dX7_place_49 : decode cX7_place 49 = .ok (.iload 6, 2) := by decide +kernel
theorem dX7_place_51 : decode cX7_place 51 = .ok (.iaload, 1) := by decide +kernel
theorem dX7_place_52 : decode cX7_place 52 = .ok (.iload_n 1, 1) := by decide +kernel
theorem dX7_place_53 : decode cX7_place 53 = .ok (.if_icmp .ne 29, 3) := by decide +kernel
theorem dX7_place_56 : decode cX7_place 56 = .ok (.aload_n 0, 1) := by decide +kernel
theorem dX7_place_57 : decode cX7_place 57 = .ok (.getfield 13, 3) := by decide +kernel
theorem dX7_place_60 : decode cX7_place 60 = .ok (.iload 6, 2) := by decide +kernel
theorem dX7_place_62 : decode cX7_place 62 = .ok (.iaload, 1) := by decide +kernel
theorem dX7_place_63 : decode cX7_place 63 = .ok (.iload_n 2, 1) := by decide +kernel
theorem dX7_place_64 : decode cX7_place 64 = .ok (.if_icmp .ne 18, 3) := by decide +kernel
theorem dX7_place_67 : decode cX7_place 67 = .ok (.aload_n 0, 1) := by decide +kernel
theorem dX7_place_68 : decode cX7_place 68 = .ok (.getfield 16, 3) := by decide +kernel
theorem dX7_place_71 : decode cX7_place 71 = .ok (.iload 6, 2) := by decide +kernel
theorem dX7_place_73 : decode cX7_place 73 = .ok (.iaload, 1) := by decide +kernel
theorem dX7_place_74 : decode cX7_place 74 = .ok (.iload_n 3, 1) := by decide +kernel
theorem dX7_place_75 : decode cX7_place 75 = .ok (.if_icmp .ne 7, 3) := by decide +kernel
theorem dX7_place_78 : decode cX7_place 78 = .ok (.iconst 1, 1) := by decide +kernel
theorem dX7_place_79 : decode cX7_place 79 = .ok (.goto 4, 3) := by decide +kernel
theorem dX7_place_82 : decode cX7_place 82 = .ok (.iconst 0, 1) := by decide +kernel
theorem dX7_place_83 : decode cX7_place 83 = .ok (.istore 7, 2) := by decide +kernel
theorem dX7_place_85 : decode cX7_place 85 = .ok (.iconst 0, 1) := by decide +kernel
theorem dX7_place_86 : decode cX7_place 86 = .ok (.istore 8, 2) := by decide +kernel
theorem dX7_place_88 : decode cX7_place 88 = .ok (.iload 8, 2) := by decide +kernel
theorem dX7_place_90 : decode cX7_place 90 = .ok (.bipush 9, 2) := by decide +kernel
theorem dX7_place_92 : decode cX7_place 92 = .ok (.if_icmp .ge 51, 3) := by decide +kernel
theorem dX7_place_95 : decode cX7_place 95 = .ok (.iload 4, 2) := by decide +kernel
theorem dX7_place_97 : decode cX7_place 97 = .ok (.ifCond .eq 46, 3) := by decide +kernel
theorem dX7_place_100 : decode cX7_place 100 = .ok (.iload 7, 2) := by decide +kernel
theorem dX7_place_102 : decode cX7_place 102 = .ok (.ifCond .eq 41, 3) := by decide +kernel
theorem dX7_place_105 : decode cX7_place 105 = .ok (.aload_n 0, 1) := by decide +kernel
theorem dX7_place_106 : decode cX7_place 106 = .ok (.getfield 26, 3) := by decide +kernel
theorem dX7_place_109 : decode cX7_place 109 = .ok (.bipush 9, 2) := by decide +kernel
theorem dX7_place_111 : decode cX7_place 111 = .ok (.iload 6, 2) := by decide +kernel
theorem dX7_place_113 : decode cX7_place 113 = .ok (.imul, 1) := by decide +kernel
theorem dX7_place_114 : decode cX7_place 114 = .ok (.iload 8, 2) := by decide +kernel
theorem dX7_place_116 : decode cX7_place 116 = .ok (.iadd, 1) := by decide +kernel
theorem dX7_place_117 : decode cX7_place 117 = .ok (.iaload, 1) := by decide +kernel
theorem dX7_place_118 : decode cX7_place 118 = .ok (.i2l, 1) := by decide +kernel
theorem dX7_place_119 : decode cX7_place 119 = .ok (.aload_n 0, 1) := by decide +kernel
theorem dX7_place_120 : decode cX7_place 120 = .ok (.getfield 52, 3) := by decide +kernel
theorem dX7_place_123 : decode cX7_place 123 = .ok (.iload 8, 2) := by decide +kernel
theorem dX7_place_125 : decode cX7_place 125 = .ok (.laload, 1) := by decide +kernel
theorem dX7_place_126 : decode cX7_place 126 = .ok (.lcmp, 1) := by decide +kernel
theorem dX7_place_127 : decode cX7_place 127 = .ok (.ifCond .ne 7, 3) := by decide +kernel
theorem dX7_place_130 : decode cX7_place 130 = .ok (.iconst 1, 1) := by decide +kernel
theorem dX7_place_131 : decode cX7_place 131 = .ok (.goto 4, 3) := by decide +kernel
theorem dX7_place_134 : decode cX7_place 134 = .ok (.iconst 0, 1) := by decide +kernel
theorem dX7_place_135 : decode cX7_place 135 = .ok (.istore 7, 2) := by decide +kernel
theorem dX7_place_137 : decode cX7_place 137 = .ok (.iinc 8 1, 3) := by decide +kernel
theorem dX7_place_140 : decode cX7_place 140 = .ok (.goto (-52), 3) := by decide +kernel
theorem dX7_place_143 : decode cX7_place 143 = .ok (.iload 7, 2) := by decide +kernel
theorem dX7_place_145 : decode cX7_place 145 = .ok (.ifCond .eq 6, 3) := by decide +kernel
theorem dX7_place_148 : decode cX7_place 148 = .ok (.iload 6, 2) := by decide +kernel
theorem dX7_place_150 : decode cX7_place 150 = .ok (.ireturn, 1) := by decide +kernel
theorem dX7_place_151 : decode cX7_place 151 = .ok (.iload 5, 2) := by decide +kernel
theorem dX7_place_153 : decode cX7_place 153 = .ok (.iconst 1, 1) := by decide +kernel
theorem dX7_place_154 : decode cX7_place 154 = .ok (.iadd, 1) := by decide +kernel
theorem dX7_place_155 : decode cX7_place 155 = .ok (.ldc 80, 2) := by decide +kernel
theorem dX7_place_157 : decode cX7_place 157 = .ok (.iand, 1) := by decide +kernel
theorem dX7_place_158 : decode cX7_place 158 = .ok (.istore 5, 2) := by decide +kernel
theorem dX7_place_160 : decode cX7_place 160 = .ok (.goto (-136), 3) := by decide +kernel
theorem dX7_place_163 : decode cX7_place 163 = .ok (.aload_n 0, 1) := by decide +kernel
theorem dX7_place_164 : decode cX7_place 164 = .ok (.getfield 85, 3) := by decide +kernel
theorem dX7_place_167 : decode cX7_place 167 = .ok (.istore 6, 2) := by decide +kernel
theorem dX7_place_169 : decode cX7_place 169 = .ok (.aload_n 0, 1) := by decide +kernel
theorem dX7_place_170 : decode cX7_place 170 = .ok (.dup, 1) := by decide +kernel
theorem dX7_place_171 : decode cX7_place 171 = .ok (.getfield 85, 3) := by decide +kernel
theorem dX7_place_174 : decode cX7_place 174 = .ok (.iconst 1, 1) := by decide +kernel
theorem dX7_place_175 : decode cX7_place 175 = .ok (.iadd, 1) := by decide +kernel
theorem dX7_place_176 : decode cX7_place 176 = .ok (.putfield 85, 3) := by decide +kernel
theorem dX7_place_179 : decode cX7_place 179 = .ok (.aload_n 0, 1) := by decide +kernel
theorem dX7_place_180 : decode cX7_place 180 = .ok (.getfield 30, 3) := by decide +kernel
theorem dX7_place_183 : decode cX7_place 183 = .ok (.iload 5, 2) := by decide +kernel
theorem dX7_place_185 : decode cX7_place 185 = .ok (.iload 6, 2) := by decide +kernel
theorem dX7_place_187 : decode cX7_place 187 = .ok (.iconst 1, 1) := by decide +kernel
theorem dX7_place_188 : decode cX7_place 188 = .ok (.iadd, 1) := by decide +kernel
theorem dX7_place_189 : decode cX7_place 189 = .ok (.iastore, 1) := by decide +kernel
theorem dX7_place_190 : decode cX7_place 190 = .ok (.aload_n 0, 1) := by decide +kernel
theorem dX7_place_191 : decode cX7_place 191 = .ok (.getfield 7, 3) := by decide +kernel
theorem dX7_place_194 : decode cX7_place 194 = .ok (.iload 6, 2) := by decide +kernel
theorem dX7_place_196 : decode cX7_place 196 = .ok (.iload_n 1, 1) := by decide +kernel
theorem dX7_place_197 : decode cX7_place 197 = .ok (.iastore, 1) := by decide +kernel
theorem dX7_place_198 : decode cX7_place 198 = .ok (.aload_n 0, 1) := by decide +kernel
theorem dX7_place_199 : decode cX7_place 199 = .ok (.getfield 13, 3) := by decide +kernel
theorem dX7_place_202 : decode cX7_place 202 = .ok (.iload 6, 2) := by decide +kernel
theorem dX7_place_204 : decode cX7_place 204 = .ok (.iload_n 2, 1) := by decide +kernel
theorem dX7_place_205 : decode cX7_place 205 = .ok (.iastore, 1) := by decide +kernel
theorem dX7_place_206 : decode cX7_place 206 = .ok (.aload_n 0, 1) := by decide +kernel
theorem dX7_place_207 : decode cX7_place 207 = .ok (.getfield 16, 3) := by decide +kernel
theorem dX7_place_210 : decode cX7_place 210 = .ok (.iload 6, 2) := by decide +kernel
theorem dX7_place_212 : decode cX7_place 212 = .ok (.iload_n 3, 1) := by decide +kernel
theorem dX7_place_213 : decode cX7_place 213 = .ok (.iastore, 1) := by decide +kernel
theorem dX7_place_214 : decode cX7_place 214 = .ok (.aload_n 0, 1) := by decide +kernel
theorem dX7_place_215 : decode cX7_place 215 = .ok (.getfield 19, 3) := by decide +kernel
theorem dX7_place_218 : decode cX7_place 218 = .ok (.iload 6, 2) := by decide +kernel
theorem dX7_place_220 : decode cX7_place 220 = .ok (.iconst 1, 1) := by decide +kernel
theorem dX7_place_221 : decode cX7_place 221 = .ok (.iload_n 1, 1) := by decide +kernel
theorem dX7_place_222 : decode cX7_place 222 = .ok (.iconst 3, 1) := by decide +kernel
theorem dX7_place_223 : decode cX7_place 223 = .ok (.if_icmp .eq 8, 3) := by decide +kernel
theorem dX7_place_226 : decode cX7_place 226 = .ok (.iload_n 1, 1) := by decide +kernel
theorem dX7_place_227 : decode cX7_place 227 = .ok (.iconst 4, 1) := by decide +kernel
theorem dX7_place_228 : decode cX7_place 228 = .ok (.if_icmp .ne 19, 3) := by decide +kernel
theorem dX7_place_231 : decode cX7_place 231 = .ok (.aload_n 0, 1) := by decide +kernel
theorem dX7_place_232 : decode cX7_place 232 = .ok (.getfield 19, 3) := by decide +kernel
theorem dX7_place_235 : decode cX7_place 235 = .ok (.iload_n 2, 1) := by decide +kernel
theorem dX7_place_236 : decode cX7_place 236 = .ok (.iaload, 1) := by decide +kernel
theorem dX7_place_237 : decode cX7_place 237 = .ok (.aload_n 0, 1) := by decide +kernel
theorem dX7_place_238 : decode cX7_place 238 = .ok (.getfield 19, 3) := by decide +kernel
theorem dX7_place_241 : decode cX7_place 241 = .ok (.iload_n 3, 1) := by decide +kernel
theorem dX7_place_242 : decode cX7_place 242 = .ok (.iaload, 1) := by decide +kernel
theorem dX7_place_243 : decode cX7_place 243 = .ok (.iadd, 1) := by decide +kernel
theorem dX7_place_244 : decode cX7_place 244 = .ok (.goto 18, 3) := by decide +kernel
theorem dX7_place_247 : decode cX7_place 247 = .ok (.iload_n 1, 1) := by decide +kernel
theorem dX7_place_248 : decode cX7_place 248 = .ok (.iconst 5, 1) := by decide +kernel
theorem dX7_place_249 : decode cX7_place 249 = .ok (.if_icmp .lt 12, 3) := by decide +kernel
theorem dX7_place_252 : decode cX7_place 252 = .ok (.aload_n 0, 1) := by decide +kernel
theorem dX7_place_253 : decode cX7_place 253 = .ok (.getfield 19, 3) := by decide +kernel
theorem dX7_place_256 : decode cX7_place 256 = .ok (.iload_n 3, 1) := by decide +kernel
theorem dX7_place_257 : decode cX7_place 257 = .ok (.iaload, 1) := by decide +kernel
theorem dX7_place_258 : decode cX7_place 258 = .ok (.goto 4, 3) := by decide +kernel
theorem dX7_place_261 : decode cX7_place 261 = .ok (.iconst 0, 1) := by decide +kernel
theorem dX7_place_262 : decode cX7_place 262 = .ok (.iadd, 1) := by decide +kernel
theorem dX7_place_263 : decode cX7_place 263 = .ok (.iastore, 1) := by decide +kernel
theorem dX7_place_264 : decode cX7_place 264 = .ok (.aload_n 0, 1) := by decide +kernel
theorem dX7_place_265 : decode cX7_place 265 = .ok (.getfield 22, 3) := by decide +kernel
theorem dX7_place_268 : decode cX7_place 268 = .ok (.iload 6, 2) := by decide +kernel
theorem dX7_place_270 : decode cX7_place 270 = .ok (.iload_n 1, 1) := by decide +kernel
theorem dX7_place_271 : decode cX7_place 271 = .ok (.iconst 3, 1) := by decide +kernel
theorem dX7_place_272 : decode cX7_place 272 = .ok (.if_icmp .eq 8, 3) := by decide +kernel
theorem dX7_place_275 : decode cX7_place 275 = .ok (.iload_n 1, 1) := by decide +kernel
theorem dX7_place_276 : decode cX7_place 276 = .ok (.iconst 4, 1) := by decide +kernel
theorem dX7_place_277 : decode cX7_place 277 = .ok (.if_icmp .ne 19, 3) := by decide +kernel
theorem dX7_place_280 : decode cX7_place 280 = .ok (.aload_n 0, 1) := by decide +kernel
theorem dX7_place_281 : decode cX7_place 281 = .ok (.getfield 22, 3) := by decide +kernel
theorem dX7_place_284 : decode cX7_place 284 = .ok (.iload_n 2, 1) := by decide +kernel
theorem dX7_place_285 : decode cX7_place 285 = .ok (.iaload, 1) := by decide +kernel
theorem dX7_place_286 : decode cX7_place 286 = .ok (.aload_n 0, 1) := by decide +kernel
theorem dX7_place_287 : decode cX7_place 287 = .ok (.getfield 22, 3) := by decide +kernel
theorem dX7_place_290 : decode cX7_place 290 = .ok (.iload_n 3, 1) := by decide +kernel
theorem dX7_place_291 : decode cX7_place 291 = .ok (.iaload, 1) := by decide +kernel
theorem dX7_place_292 : decode cX7_place 292 = .ok (.ior, 1) := by decide +kernel
theorem dX7_place_293 : decode cX7_place 293 = .ok (.goto 24, 3) := by decide +kernel
theorem dX7_place_296 : decode cX7_place 296 = .ok (.iload_n 1, 1) := by decide +kernel
theorem dX7_place_297 : decode cX7_place 297 = .ok (.iconst 5, 1) := by decide +kernel
theorem dX7_place_298 : decode cX7_place 298 = .ok (.if_icmp .lt 18, 3) := by decide +kernel
theorem dX7_place_301 : decode cX7_place 301 = .ok (.aload_n 0, 1) := by decide +kernel
theorem dX7_place_302 : decode cX7_place 302 = .ok (.getfield 22, 3) := by decide +kernel
theorem dX7_place_305 : decode cX7_place 305 = .ok (.iload_n 3, 1) := by decide +kernel
theorem dX7_place_306 : decode cX7_place 306 = .ok (.iaload, 1) := by decide +kernel
theorem dX7_place_307 : decode cX7_place 307 = .ok (.iconst 1, 1) := by decide +kernel
theorem dX7_place_308 : decode cX7_place 308 = .ok (.iload_n 2, 1) := by decide +kernel
theorem dX7_place_309 : decode cX7_place 309 = .ok (.ishl, 1) := by decide +kernel
theorem dX7_place_310 : decode cX7_place 310 = .ok (.iconst (-1), 1) := by decide +kernel
theorem dX7_place_311 : decode cX7_place 311 = .ok (.ixor, 1) := by decide +kernel
theorem dX7_place_312 : decode cX7_place 312 = .ok (.iand, 1) := by decide +kernel
theorem dX7_place_313 : decode cX7_place 313 = .ok (.goto 4, 3) := by decide +kernel
theorem dX7_place_316 : decode cX7_place 316 = .ok (.iconst 0, 1) := by decide +kernel
theorem dX7_place_317 : decode cX7_place 317 = .ok (.iastore, 1) := by decide +kernel
theorem dX7_place_318 : decode cX7_place 318 = .ok (.iconst 0, 1) := by decide +kernel
theorem dX7_place_319 : decode cX7_place 319 = .ok (.istore 7, 2) := by decide +kernel
theorem dX7_place_321 : decode cX7_place 321 = .ok (.iload 7, 2) := by decide +kernel
theorem dX7_place_323 : decode cX7_place 323 = .ok (.bipush 9, 2) := by decide +kernel
theorem dX7_place_325 : decode cX7_place 325 = .ok (.if_icmp .ge 72, 3) := by decide +kernel
theorem dX7_place_328 : decode cX7_place 328 = .ok (.iload 4, 2) := by decide +kernel
theorem dX7_place_330 : decode cX7_place 330 = .ok (.ifCond .eq 67, 3) := by decide +kernel
theorem dX7_place_333 : decode cX7_place 333 = .ok (.aload_n 0, 1) := by decide +kernel
theorem dX7_place_334 : decode cX7_place 334 = .ok (.getfield 26, 3) := by decide +kernel
theorem dX7_place_337 : decode cX7_place 337 = .ok (.bipush 9, 2) := by decide +kernel
theorem dX7_place_339 : decode cX7_place 339 = .ok (.iload 6, 2) := by decide +kernel
theorem dX7_place_341 : decode cX7_place 341 = .ok (.imul, 1) := by decide +kernel
theorem dX7_place_342 : decode cX7_place 342 = .ok (.iload 7, 2) := by decide +kernel
theorem dX7_place_344 : decode cX7_place 344 = .ok (.iadd, 1) := by decide +kernel
theorem dX7_place_345 : decode cX7_place 345 = .ok (.aload_n 0, 1) := by decide +kernel
theorem dX7_place_346 : decode cX7_place 346 = .ok (.getfield 52, 3) := by decide +kernel
theorem dX7_place_349 : decode cX7_place 349 = .ok (.iload 7, 2) := by decide +kernel
theorem dX7_place_351 : decode cX7_place 351 = .ok (.laload, 1) := by decide +kernel
theorem dX7_place_352 : decode cX7_place 352 = .ok (.l2i, 1) := by decide +kernel
theorem dX7_place_353 : decode cX7_place 353 = .ok (.iastore, 1) := by decide +kernel
theorem dX7_place_354 : decode cX7_place 354 = .ok (.aload_n 0, 1) := by decide +kernel
theorem dX7_place_355 : decode cX7_place 355 = .ok (.getfield 22, 3) := by decide +kernel
theorem dX7_place_358 : decode cX7_place 358 = .ok (.iload 6, 2) := by decide +kernel
theorem dX7_place_360 : decode cX7_place 360 = .ok (.dup2, 1) := by decide +kernel
theorem dX7_place_361 : decode cX7_place 361 = .ok (.iaload, 1) := by decide +kernel
theorem dX7_place_362 : decode cX7_place 362 = .ok (.iload 7, 2) := by decide +kernel
theorem dX7_place_364 : decode cX7_place 364 = .ok (.bipush 8, 2) := by decide +kernel
theorem dX7_place_366 : decode cX7_place 366 = .ok (.if_icmp .ge 22, 3) := by decide +kernel
theorem dX7_place_369 : decode cX7_place 369 = .ok (.aload_n 0, 1) := by decide +kernel
theorem dX7_place_370 : decode cX7_place 370 = .ok (.getfield 52, 3) := by decide +kernel
theorem dX7_place_373 : decode cX7_place 373 = .ok (.iload 7, 2) := by decide +kernel
theorem dX7_place_375 : decode cX7_place 375 = .ok (.laload, 1) := by decide +kernel
theorem dX7_place_376 : decode cX7_place 376 = .ok (.lconst 0, 1) := by decide +kernel
theorem dX7_place_377 : decode cX7_place 377 = .ok (.lcmp, 1) := by decide +kernel
theorem dX7_place_378 : decode cX7_place 378 = .ok (.ifCond .eq 10, 3) := by decide +kernel
theorem dX7_place_381 : decode cX7_place 381 = .ok (.iconst 1, 1) := by decide +kernel
theorem dX7_place_382 : decode cX7_place 382 = .ok (.iload 7, 2) := by decide +kernel
theorem dX7_place_384 : decode cX7_place 384 = .ok (.ishl, 1) := by decide +kernel
theorem dX7_place_385 : decode cX7_place 385 = .ok (.goto 4, 3) := by decide +kernel
theorem dX7_place_388 : decode cX7_place 388 = .ok (.iconst 0, 1) := by decide +kernel
theorem dX7_place_389 : decode cX7_place 389 = .ok (.ior, 1) := by decide +kernel
theorem dX7_place_390 : decode cX7_place 390 = .ok (.iastore, 1) := by decide +kernel
theorem dX7_place_391 : decode cX7_place 391 = .ok (.iinc 7 1, 3) := by decide +kernel
theorem dX7_place_394 : decode cX7_place 394 = .ok (.goto (-73), 3) := by decide +kernel
theorem dX7_place_397 : decode cX7_place 397 = .ok (.iload 6, 2) := by decide +kernel
theorem dX7_place_399 : decode cX7_place 399 = .ok (.ireturn, 1) := by decide +kernel
theorem dX7_sweep_0 : decode cX7_sweep 0 = .ok (.iconst 0, 1) := by decide +kernel
theorem dX7_sweep_1 : decode cX7_sweep 1 = .ok (.istore_n 1, 1) := by decide +kernel
theorem dX7_sweep_2 : decode cX7_sweep 2 = .ok (.iload_n 1, 1) := by decide +kernel
theorem dX7_sweep_3 : decode cX7_sweep 3 = .ok (.aload_n 0, 1) := by decide +kernel
theorem dX7_sweep_4 : decode cX7_sweep 4 = .ok (.getfield 85, 3) := by decide +kernel
theorem dX7_sweep_7 : decode cX7_sweep 7 = .ok (.if_icmp .ge 25, 3) := by decide +kernel
theorem dX7_sweep_10 : decode cX7_sweep 10 = .ok (.aload_n 0, 1) := by decide +kernel
theorem dX7_sweep_11 : decode cX7_sweep 11 = .ok (.getfield 36, 3) := by decide +kernel
theorem dX7_sweep_14 : decode cX7_sweep 14 = .ok (.iload_n 1, 1) := by decide +kernel
theorem dX7_sweep_15 : decode cX7_sweep 15 = .ok (.iload_n 1, 1) := by decide +kernel
theorem dX7_sweep_16 : decode cX7_sweep 16 = .ok (.iconst 2, 1) := by decide +kernel
theorem dX7_sweep_17 : decode cX7_sweep 17 = .ok (.if_icmp .ge 7, 3) := by decide +kernel
theorem dX7_sweep_20 : decode cX7_sweep 20 = .ok (.iconst 1, 1) := by decide +kernel
theorem dX7_sweep_21 : decode cX7_sweep 21 = .ok (.goto 4, 3) := by decide +kernel
theorem dX7_sweep_24 : decode cX7_sweep 24 = .ok (.iconst 0, 1) := by decide +kernel
theorem dX7_sweep_25 : decode cX7_sweep 25 = .ok (.iastore, 1) := by decide +kernel
theorem dX7_sweep_26 : decode cX7_sweep 26 = .ok (.iinc 1 1, 3) := by decide +kernel
theorem dX7_sweep_29 : decode cX7_sweep 29 = .ok (.goto (-27), 3) := by decide +kernel
theorem dX7_sweep_32 : decode cX7_sweep 32 = .ok (.iconst 0, 1) := by decide +kernel
theorem dX7_sweep_33 : decode cX7_sweep 33 = .ok (.istore_n 1, 1) := by decide +kernel
theorem dX7_sweep_34 : decode cX7_sweep 34 = .ok (.iload_n 1, 1) := by decide +kernel
theorem dX7_sweep_35 : decode cX7_sweep 35 = .ok (.aload_n 0, 1) := by decide +kernel
theorem dX7_sweep_36 : decode cX7_sweep 36 = .ok (.getfield 72, 3) := by decide +kernel
theorem dX7_sweep_39 : decode cX7_sweep 39 = .ok (.if_icmp .ge 21, 3) := by decide +kernel
theorem dX7_sweep_42 : decode cX7_sweep 42 = .ok (.aload_n 0, 1) := by decide +kernel
theorem dX7_sweep_43 : decode cX7_sweep 43 = .ok (.getfield 36, 3) := by decide +kernel
theorem dX7_sweep_46 : decode cX7_sweep 46 = .ok (.aload_n 0, 1) := by decide +kernel
theorem dX7_sweep_47 : decode cX7_sweep 47 = .ok (.getfield 33, 3) := by decide +kernel
theorem dX7_sweep_50 : decode cX7_sweep 50 = .ok (.iload_n 1, 1) := by decide +kernel
theorem dX7_sweep_51 : decode cX7_sweep 51 = .ok (.iaload, 1) := by decide +kernel
theorem dX7_sweep_52 : decode cX7_sweep 52 = .ok (.iconst 1, 1) := by decide +kernel
theorem dX7_sweep_53 : decode cX7_sweep 53 = .ok (.iastore, 1) := by decide +kernel
theorem dX7_sweep_54 : decode cX7_sweep 54 = .ok (.iinc 1 1, 3) := by decide +kernel
theorem dX7_sweep_57 : decode cX7_sweep 57 = .ok (.goto (-23), 3) := by decide +kernel
theorem dX7_sweep_60 : decode cX7_sweep 60 = .ok (.aload_n 0, 1) := by decide +kernel
theorem dX7_sweep_61 : decode cX7_sweep 61 = .ok (.getfield 85, 3) := by decide +kernel
theorem dX7_sweep_64 : decode cX7_sweep 64 = .ok (.iconst 1, 1) := by decide +kernel
theorem dX7_sweep_65 : decode cX7_sweep 65 = .ok (.isub, 1) := by decide +kernel
theorem dX7_sweep_66 : decode cX7_sweep 66 = .ok (.istore_n 1, 1) := by decide +kernel
theorem dX7_sweep_67 : decode cX7_sweep 67 = .ok (.iload_n 1, 1) := by decide +kernel
theorem dX7_sweep_68 : decode cX7_sweep 68 = .ok (.ifCond .lt 63, 3) := by decide +kernel
theorem dX7_sweep_71 : decode cX7_sweep 71 = .ok (.aload_n 0, 1) := by decide +kernel
theorem dX7_sweep_72 : decode cX7_sweep 72 = .ok (.getfield 36, 3) := by decide +kernel
theorem dX7_sweep_75 : decode cX7_sweep 75 = .ok (.iload_n 1, 1) := by decide +kernel
theorem dX7_sweep_76 : decode cX7_sweep 76 = .ok (.iaload, 1) := by decide +kernel
theorem dX7_sweep_77 : decode cX7_sweep 77 = .ok (.iconst 1, 1) := by decide +kernel
theorem dX7_sweep_78 : decode cX7_sweep 78 = .ok (.if_icmp .ne 47, 3) := by decide +kernel
theorem dX7_sweep_81 : decode cX7_sweep 81 = .ok (.aload_n 0, 1) := by decide +kernel
theorem dX7_sweep_82 : decode cX7_sweep 82 = .ok (.getfield 7, 3) := by decide +kernel
theorem dX7_sweep_85 : decode cX7_sweep 85 = .ok (.iload_n 1, 1) := by decide +kernel
theorem dX7_sweep_86 : decode cX7_sweep 86 = .ok (.iaload, 1) := by decide +kernel
theorem dX7_sweep_87 : decode cX7_sweep 87 = .ok (.iconst 3, 1) := by decide +kernel
theorem dX7_sweep_88 : decode cX7_sweep 88 = .ok (.if_icmp .lt 37, 3) := by decide +kernel
theorem dX7_sweep_91 : decode cX7_sweep 91 = .ok (.aload_n 0, 1) := by decide +kernel
theorem dX7_sweep_92 : decode cX7_sweep 92 = .ok (.getfield 36, 3) := by decide +kernel
theorem dX7_sweep_95 : decode cX7_sweep 95 = .ok (.aload_n 0, 1) := by decide +kernel
theorem dX7_sweep_96 : decode cX7_sweep 96 = .ok (.getfield 16, 3) := by decide +kernel
theorem dX7_sweep_99 : decode cX7_sweep 99 = .ok (.iload_n 1, 1) := by decide +kernel
theorem dX7_sweep_100 : decode cX7_sweep 100 = .ok (.iaload, 1) := by decide +kernel
theorem dX7_sweep_101 : decode cX7_sweep 101 = .ok (.iconst 1, 1) := by decide +kernel
theorem dX7_sweep_102 : decode cX7_sweep 102 = .ok (.iastore, 1) := by decide +kernel
theorem dX7_sweep_103 : decode cX7_sweep 103 = .ok (.aload_n 0, 1) := by decide +kernel
theorem dX7_sweep_104 : decode cX7_sweep 104 = .ok (.getfield 7, 3) := by decide +kernel
theorem dX7_sweep_107 : decode cX7_sweep 107 = .ok (.iload_n 1, 1) := by decide +kernel
theorem dX7_sweep_108 : decode cX7_sweep 108 = .ok (.iaload, 1) := by decide +kernel
theorem dX7_sweep_109 : decode cX7_sweep 109 = .ok (.iconst 5, 1) := by decide +kernel
theorem dX7_sweep_110 : decode cX7_sweep 110 = .ok (.if_icmp .ge 15, 3) := by decide +kernel
theorem dX7_sweep_113 : decode cX7_sweep 113 = .ok (.aload_n 0, 1) := by decide +kernel
theorem dX7_sweep_114 : decode cX7_sweep 114 = .ok (.getfield 36, 3) := by decide +kernel
theorem dX7_sweep_117 : decode cX7_sweep 117 = .ok (.aload_n 0, 1) := by decide +kernel
theorem dX7_sweep_118 : decode cX7_sweep 118 = .ok (.getfield 13, 3) := by decide +kernel
theorem dX7_sweep_121 : decode cX7_sweep 121 = .ok (.iload_n 1, 1) := by decide +kernel
theorem dX7_sweep_122 : decode cX7_sweep 122 = .ok (.iaload, 1) := by decide +kernel
theorem dX7_sweep_123 : decode cX7_sweep 123 = .ok (.iconst 1, 1) := by decide +kernel
theorem dX7_sweep_124 : decode cX7_sweep 124 = .ok (.iastore, 1) := by decide +kernel
theorem dX7_sweep_125 : decode cX7_sweep 125 = .ok (.iinc 1 (-1), 3) := by decide +kernel
theorem dX7_sweep_128 : decode cX7_sweep 128 = .ok (.goto (-61), 3) := by decide +kernel
theorem dX7_sweep_131 : decode cX7_sweep 131 = .ok (.iconst 0, 1) := by decide +kernel
theorem dX7_sweep_132 : decode cX7_sweep 132 = .ok (.istore_n 1, 1) := by decide +kernel
theorem dX7_sweep_133 : decode cX7_sweep 133 = .ok (.iconst 0, 1) := by decide +kernel
theorem dX7_sweep_134 : decode cX7_sweep 134 = .ok (.istore_n 2, 1) := by decide +kernel
theorem dX7_sweep_135 : decode cX7_sweep 135 = .ok (.iload_n 2, 1) := by decide +kernel
theorem dX7_sweep_136 : decode cX7_sweep 136 = .ok (.aload_n 0, 1) := by decide +kernel
theorem dX7_sweep_137 : decode cX7_sweep 137 = .ok (.getfield 85, 3) := by decide +kernel
theorem dX7_sweep_140 : decode cX7_sweep 140 = .ok (.if_icmp .ge 183, 3) := by decide +kernel
theorem dX7_sweep_143 : decode cX7_sweep 143 = .ok (.aload_n 0, 1) := by decide +kernel
theorem dX7_sweep_144 : decode cX7_sweep 144 = .ok (.getfield 36, 3) := by decide +kernel
theorem dX7_sweep_147 : decode cX7_sweep 147 = .ok (.iload_n 2, 1) := by decide +kernel
theorem dX7_sweep_148 : decode cX7_sweep 148 = .ok (.iaload, 1) := by decide +kernel
theorem dX7_sweep_149 : decode cX7_sweep 149 = .ok (.iconst 1, 1) := by decide +kernel
theorem dX7_sweep_150 : decode cX7_sweep 150 = .ok (.if_icmp .ne 167, 3) := by decide +kernel
theorem dX7_sweep_153 : decode cX7_sweep 153 = .ok (.aload_n 0, 1) := by decide +kernel
theorem dX7_sweep_154 : decode cX7_sweep 154 = .ok (.getfield 7, 3) := by decide +kernel
theorem dX7_sweep_157 : decode cX7_sweep 157 = .ok (.iload_n 1, 1) := by decide +kernel
theorem dX7_sweep_158 : decode cX7_sweep 158 = .ok (.aload_n 0, 1) := by decide +kernel
theorem dX7_sweep_159 : decode cX7_sweep 159 = .ok (.getfield 7, 3) := by decide +kernel
theorem dX7_sweep_162 : decode cX7_sweep 162 = .ok (.iload_n 2, 1) := by decide +kernel
theorem dX7_sweep_163 : decode cX7_sweep 163 = .ok (.iaload, 1) := by decide +kernel
theorem dX7_sweep_164 : decode cX7_sweep 164 = .ok (.iastore, 1) := by decide +kernel
theorem dX7_sweep_165 : decode cX7_sweep 165 = .ok (.aload_n 0, 1) := by decide +kernel
theorem dX7_sweep_166 : decode cX7_sweep 166 = .ok (.getfield 13, 3) := by decide +kernel
theorem dX7_sweep_169 : decode cX7_sweep 169 = .ok (.iload_n 1, 1) := by decide +kernel
theorem dX7_sweep_170 : decode cX7_sweep 170 = .ok (.aload_n 0, 1) := by decide +kernel
theorem dX7_sweep_171 : decode cX7_sweep 171 = .ok (.getfield 7, 3) := by decide +kernel
theorem dX7_sweep_174 : decode cX7_sweep 174 = .ok (.iload_n 2, 1) := by decide +kernel
theorem dX7_sweep_175 : decode cX7_sweep 175 = .ok (.iaload, 1) := by decide +kernel
theorem dX7_sweep_176 : decode cX7_sweep 176 = .ok (.iconst 3, 1) := by decide +kernel
theorem dX7_sweep_177 : decode cX7_sweep 177 = .ok (.if_icmp .eq 13, 3) := by decide +kernel
theorem dX7_sweep_180 : decode cX7_sweep 180 = .ok (.aload_n 0, 1) := by decide +kernel
theorem dX7_sweep_181 : decode cX7_sweep 181 = .ok (.getfield 7, 3) := by decide +kernel
theorem dX7_sweep_184 : decode cX7_sweep 184 = .ok (.iload_n 2, 1) := by decide +kernel
theorem dX7_sweep_185 : decode cX7_sweep 185 = .ok (.iaload, 1) := by decide +kernel
theorem dX7_sweep_186 : decode cX7_sweep 186 = .ok (.iconst 4, 1) := by decide +kernel
theorem dX7_sweep_187 : decode cX7_sweep 187 = .ok (.if_icmp .ne 17, 3) := by decide +kernel
theorem dX7_sweep_190 : decode cX7_sweep 190 = .ok (.aload_n 0, 1) := by decide +kernel
theorem dX7_sweep_191 : decode cX7_sweep 191 = .ok (.getfield 36, 3) := by decide +kernel
theorem dX7_sweep_194 : decode cX7_sweep 194 = .ok (.aload_n 0, 1) := by decide +kernel
theorem dX7_sweep_195 : decode cX7_sweep 195 = .ok (.getfield 13, 3) := by decide +kernel
theorem dX7_sweep_198 : decode cX7_sweep 198 = .ok (.iload_n 2, 1) := by decide +kernel
theorem dX7_sweep_199 : decode cX7_sweep 199 = .ok (.iaload, 1) := by decide +kernel
theorem dX7_sweep_200 : decode cX7_sweep 200 = .ok (.iaload, 1) := by decide +kernel
theorem dX7_sweep_201 : decode cX7_sweep 201 = .ok (.goto 9, 3) := by decide +kernel
theorem dX7_sweep_204 : decode cX7_sweep 204 = .ok (.aload_n 0, 1) := by decide +kernel
theorem dX7_sweep_205 : decode cX7_sweep 205 = .ok (.getfield 13, 3) := by decide +kernel
theorem dX7_sweep_208 : decode cX7_sweep 208 = .ok (.iload_n 2, 1) := by decide +kernel
theorem dX7_sweep_209 : decode cX7_sweep 209 = .ok (.iaload, 1) := by decide +kernel
theorem dX7_sweep_210 : decode cX7_sweep 210 = .ok (.iastore, 1) := by decide +kernel
theorem dX7_sweep_211 : decode cX7_sweep 211 = .ok (.aload_n 0, 1) := by decide +kernel
theorem dX7_sweep_212 : decode cX7_sweep 212 = .ok (.getfield 16, 3) := by decide +kernel
theorem dX7_sweep_215 : decode cX7_sweep 215 = .ok (.iload_n 1, 1) := by decide +kernel
theorem dX7_sweep_216 : decode cX7_sweep 216 = .ok (.aload_n 0, 1) := by decide +kernel
theorem dX7_sweep_217 : decode cX7_sweep 217 = .ok (.getfield 7, 3) := by decide +kernel
theorem dX7_sweep_220 : decode cX7_sweep 220 = .ok (.iload_n 2, 1) := by decide +kernel
theorem dX7_sweep_221 : decode cX7_sweep 221 = .ok (.iaload, 1) := by decide +kernel
theorem dX7_sweep_222 : decode cX7_sweep 222 = .ok (.iconst 3, 1) := by decide +kernel
theorem dX7_sweep_223 : decode cX7_sweep 223 = .ok (.if_icmp .lt 17, 3) := by decide +kernel
theorem dX7_sweep_226 : decode cX7_sweep 226 = .ok (.aload_n 0, 1) := by decide +kernel
theorem dX7_sweep_227 : decode cX7_sweep 227 = .ok (.getfield 36, 3) := by decide +kernel
theorem dX7_sweep_230 : decode cX7_sweep 230 = .ok (.aload_n 0, 1) := by decide +kernel
theorem dX7_sweep_231 : decode cX7_sweep 231 = .ok (.getfield 16, 3) := by decide +kernel
theorem dX7_sweep_234 : decode cX7_sweep 234 = .ok (.iload_n 2, 1) := by decide +kernel
theorem dX7_sweep_235 : decode cX7_sweep 235 = .ok (.iaload, 1) := by decide +kernel
theorem dX7_sweep_236 : decode cX7_sweep 236 = .ok (.iaload, 1) := by decide +kernel
theorem dX7_sweep_237 : decode cX7_sweep 237 = .ok (.goto 9, 3) := by decide +kernel
theorem dX7_sweep_240 : decode cX7_sweep 240 = .ok (.aload_n 0, 1) := by decide +kernel
theorem dX7_sweep_241 : decode cX7_sweep 241 = .ok (.getfield 16, 3) := by decide +kernel
theorem dX7_sweep_244 : decode cX7_sweep 244 = .ok (.iload_n 2, 1) := by decide +kernel
theorem dX7_sweep_245 : decode cX7_sweep 245 = .ok (.iaload, 1) := by decide +kernel
theorem dX7_sweep_246 : decode cX7_sweep 246 = .ok (.iastore, 1) := by decide +kernel
theorem dX7_sweep_247 : decode cX7_sweep 247 = .ok (.aload_n 0, 1) := by decide +kernel
theorem dX7_sweep_248 : decode cX7_sweep 248 = .ok (.getfield 19, 3) := by decide +kernel
theorem dX7_sweep_251 : decode cX7_sweep 251 = .ok (.iload_n 1, 1) := by decide +kernel
theorem dX7_sweep_252 : decode cX7_sweep 252 = .ok (.aload_n 0, 1) := by decide +kernel
theorem dX7_sweep_253 : decode cX7_sweep 253 = .ok (.getfield 19, 3) := by decide +kernel
theorem dX7_sweep_256 : decode cX7_sweep 256 = .ok (.iload_n 2, 1) := by decide +kernel
theorem dX7_sweep_257 : decode cX7_sweep 257 = .ok (.iaload, 1) := by decide +kernel
theorem dX7_sweep_258 : decode cX7_sweep 258 = .ok (.iastore, 1) := by decide +kernel
theorem dX7_sweep_259 : decode cX7_sweep 259 = .ok (.aload_n 0, 1) := by decide +kernel
theorem dX7_sweep_260 : decode cX7_sweep 260 = .ok (.getfield 22, 3) := by decide +kernel
theorem dX7_sweep_263 : decode cX7_sweep 263 = .ok (.iload_n 1, 1) := by decide +kernel
theorem dX7_sweep_264 : decode cX7_sweep 264 = .ok (.aload_n 0, 1) := by decide +kernel
theorem dX7_sweep_265 : decode cX7_sweep 265 = .ok (.getfield 22, 3) := by decide +kernel
theorem dX7_sweep_268 : decode cX7_sweep 268 = .ok (.iload_n 2, 1) := by decide +kernel
theorem dX7_sweep_269 : decode cX7_sweep 269 = .ok (.iaload, 1) := by decide +kernel
theorem dX7_sweep_270 : decode cX7_sweep 270 = .ok (.iastore, 1) := by decide +kernel
theorem dX7_sweep_271 : decode cX7_sweep 271 = .ok (.iconst 0, 1) := by decide +kernel
theorem dX7_sweep_272 : decode cX7_sweep 272 = .ok (.istore_n 3, 1) := by decide +kernel
theorem dX7_sweep_273 : decode cX7_sweep 273 = .ok (.iload_n 3, 1) := by decide +kernel
theorem dX7_sweep_274 : decode cX7_sweep 274 = .ok (.bipush 9, 2) := by decide +kernel
theorem dX7_sweep_276 : decode cX7_sweep 276 = .ok (.if_icmp .ge 31, 3) := by decide +kernel
theorem dX7_sweep_279 : decode cX7_sweep 279 = .ok (.aload_n 0, 1) := by decide +kernel
theorem dX7_sweep_280 : decode cX7_sweep 280 = .ok (.getfield 26, 3) := by decide +kernel
theorem dX7_sweep_283 : decode cX7_sweep 283 = .ok (.bipush 9, 2) := by decide +kernel
theorem dX7_sweep_285 : decode cX7_sweep 285 = .ok (.iload_n 1, 1) := by decide +kernel
theorem dX7_sweep_286 : decode cX7_sweep 286 = .ok (.imul, 1) := by decide +kernel
theorem dX7_sweep_287 : decode cX7_sweep 287 = .ok (.iload_n 3, 1) := by decide +kernel
theorem dX7_sweep_288 : decode cX7_sweep 288 = .ok (.iadd, 1) := by decide +kernel
theorem dX7_sweep_289 : decode cX7_sweep 289 = .ok (.aload_n 0, 1) := by decide +kernel
theorem dX7_sweep_290 : decode cX7_sweep 290 = .ok (.getfield 26, 3) := by decide +kernel
theorem dX7_sweep_293 : decode cX7_sweep 293 = .ok (.bipush 9, 2) := by decide +kernel
theorem dX7_sweep_295 : decode cX7_sweep 295 = .ok (.iload_n 2, 1) := by decide +kernel
theorem dX7_sweep_296 : decode cX7_sweep 296 = .ok (.imul, 1) := by decide +kernel
theorem dX7_sweep_297 : decode cX7_sweep 297 = .ok (.iload_n 3, 1) := by decide +kernel
theorem dX7_sweep_298 : decode cX7_sweep 298 = .ok (.iadd, 1) := by decide +kernel
theorem dX7_sweep_299 : decode cX7_sweep 299 = .ok (.iaload, 1) := by decide +kernel
theorem dX7_sweep_300 : decode cX7_sweep 300 = .ok (.iastore, 1) := by decide +kernel
theorem dX7_sweep_301 : decode cX7_sweep 301 = .ok (.iinc 3 1, 3) := by decide +kernel
theorem dX7_sweep_304 : decode cX7_sweep 304 = .ok (.goto (-31), 3) := by decide +kernel
theorem dX7_sweep_307 : decode cX7_sweep 307 = .ok (.aload_n 0, 1) := by decide +kernel
theorem dX7_sweep_308 : decode cX7_sweep 308 = .ok (.getfield 36, 3) := by decide +kernel
theorem dX7_sweep_311 : decode cX7_sweep 311 = .ok (.iload_n 2, 1) := by decide +kernel
theorem dX7_sweep_312 : decode cX7_sweep 312 = .ok (.iload_n 1, 1) := by decide +kernel
theorem dX7_sweep_313 : decode cX7_sweep 313 = .ok (.iastore, 1) := by decide +kernel
theorem dX7_sweep_314 : decode cX7_sweep 314 = .ok (.iinc 1 1, 3) := by decide +kernel
theorem dX7_sweep_317 : decode cX7_sweep 317 = .ok (.iinc 2 1, 3) := by decide +kernel
theorem dX7_sweep_320 : decode cX7_sweep 320 = .ok (.goto (-185), 3) := by decide +kernel
theorem dX7_sweep_323 : decode cX7_sweep 323 = .ok (.aload_n 0, 1) := by decide +kernel
theorem dX7_sweep_324 : decode cX7_sweep 324 = .ok (.iload_n 1, 1) := by decide +kernel
theorem dX7_sweep_325 : decode cX7_sweep 325 = .ok (.putfield 85, 3) := by decide +kernel
theorem dX7_sweep_328 : decode cX7_sweep 328 = .ok (.iconst 0, 1) := by decide +kernel
theorem dX7_sweep_329 : decode cX7_sweep 329 = .ok (.istore_n 2, 1) := by decide +kernel
theorem dX7_sweep_330 : decode cX7_sweep 330 = .ok (.iload_n 2, 1) := by decide +kernel
theorem dX7_sweep_331 : decode cX7_sweep 331 = .ok (.aload_n 0, 1) := by decide +kernel
theorem dX7_sweep_332 : decode cX7_sweep 332 = .ok (.getfield 72, 3) := by decide +kernel
theorem dX7_sweep_335 : decode cX7_sweep 335 = .ok (.if_icmp .ge 26, 3) := by decide +kernel
theorem dX7_sweep_338 : decode cX7_sweep 338 = .ok (.aload_n 0, 1) := by decide +kernel
theorem dX7_sweep_339 : decode cX7_sweep 339 = .ok (.getfield 33, 3) := by decide +kernel
theorem dX7_sweep_342 : decode cX7_sweep 342 = .ok (.iload_n 2, 1) := by decide +kernel
theorem dX7_sweep_343 : decode cX7_sweep 343 = .ok (.aload_n 0, 1) := by decide +kernel
theorem dX7_sweep_344 : decode cX7_sweep 344 = .ok (.getfield 36, 3) := by decide +kernel
theorem dX7_sweep_347 : decode cX7_sweep 347 = .ok (.aload_n 0, 1) := by decide +kernel
theorem dX7_sweep_348 : decode cX7_sweep 348 = .ok (.getfield 33, 3) := by decide +kernel
theorem dX7_sweep_351 : decode cX7_sweep 351 = .ok (.iload_n 2, 1) := by decide +kernel
theorem dX7_sweep_352 : decode cX7_sweep 352 = .ok (.iaload, 1) := by decide +kernel
theorem dX7_sweep_353 : decode cX7_sweep 353 = .ok (.iaload, 1) := by decide +kernel
theorem dX7_sweep_354 : decode cX7_sweep 354 = .ok (.iastore, 1) := by decide +kernel
theorem dX7_sweep_355 : decode cX7_sweep 355 = .ok (.iinc 2 1, 3) := by decide +kernel
theorem dX7_sweep_358 : decode cX7_sweep 358 = .ok (.goto (-28), 3) := by decide +kernel
theorem dX7_sweep_361 : decode cX7_sweep 361 = .ok (.iconst 0, 1) := by decide +kernel
theorem dX7_sweep_362 : decode cX7_sweep 362 = .ok (.istore_n 2, 1) := by decide +kernel
theorem dX7_sweep_363 : decode cX7_sweep 363 = .ok (.iload_n 2, 1) := by decide +kernel
theorem dX7_sweep_364 : decode cX7_sweep 364 = .ok (.ldc 29, 2) := by decide +kernel
theorem dX7_sweep_366 : decode cX7_sweep 366 = .ok (.if_icmp .ge 16, 3) := by decide +kernel
theorem dX7_sweep_369 : decode cX7_sweep 369 = .ok (.aload_n 0, 1) := by decide +kernel
theorem dX7_sweep_370 : decode cX7_sweep 370 = .ok (.getfield 30, 3) := by decide +kernel
theorem dX7_sweep_373 : decode cX7_sweep 373 = .ok (.iload_n 2, 1) := by decide +kernel
theorem dX7_sweep_374 : decode cX7_sweep 374 = .ok (.iconst 0, 1) := by decide +kernel
theorem dX7_sweep_375 : decode cX7_sweep 375 = .ok (.iastore, 1) := by decide +kernel
theorem dX7_sweep_376 : decode cX7_sweep 376 = .ok (.iinc 2 1, 3) := by decide +kernel
theorem dX7_sweep_379 : decode cX7_sweep 379 = .ok (.goto (-16), 3) := by decide +kernel
theorem dX7_sweep_382 : decode cX7_sweep 382 = .ok (.iconst 0, 1) := by decide +kernel
theorem dX7_sweep_383 : decode cX7_sweep 383 = .ok (.istore_n 2, 1) := by decide +kernel
theorem dX7_sweep_384 : decode cX7_sweep 384 = .ok (.iload_n 2, 1) := by decide +kernel
theorem dX7_sweep_385 : decode cX7_sweep 385 = .ok (.aload_n 0, 1) := by decide +kernel
theorem dX7_sweep_386 : decode cX7_sweep 386 = .ok (.getfield 85, 3) := by decide +kernel
theorem dX7_sweep_389 : decode cX7_sweep 389 = .ok (.if_icmp .ge 76, 3) := by decide +kernel
theorem dX7_sweep_392 : decode cX7_sweep 392 = .ok (.aload_n 0, 1) := by decide +kernel
theorem dX7_sweep_393 : decode cX7_sweep 393 = .ok (.aload_n 0, 1) := by decide +kernel
theorem dX7_sweep_394 : decode cX7_sweep 394 = .ok (.getfield 7, 3) := by decide +kernel
theorem dX7_sweep_397 : decode cX7_sweep 397 = .ok (.iload_n 2, 1) := by decide +kernel
theorem dX7_sweep_398 : decode cX7_sweep 398 = .ok (.iaload, 1) := by decide +kernel
theorem dX7_sweep_399 : decode cX7_sweep 399 = .ok (.aload_n 0, 1) := by decide +kernel
theorem dX7_sweep_400 : decode cX7_sweep 400 = .ok (.getfield 13, 3) := by decide +kernel
theorem dX7_sweep_403 : decode cX7_sweep 403 = .ok (.iload_n 2, 1) := by decide +kernel
theorem dX7_sweep_404 : decode cX7_sweep 404 = .ok (.iaload, 1) := by decide +kernel
theorem dX7_sweep_405 : decode cX7_sweep 405 = .ok (.aload_n 0, 1) := by decide +kernel
theorem dX7_sweep_406 : decode cX7_sweep 406 = .ok (.getfield 16, 3) := by decide +kernel
theorem dX7_sweep_409 : decode cX7_sweep 409 = .ok (.iload_n 2, 1) := by decide +kernel
theorem dX7_sweep_410 : decode cX7_sweep 410 = .ok (.iaload, 1) := by decide +kernel
theorem dX7_sweep_411 : decode cX7_sweep 411 = .ok (.aload_n 0, 1) := by decide +kernel
theorem dX7_sweep_412 : decode cX7_sweep 412 = .ok (.getfield 7, 3) := by decide +kernel
theorem dX7_sweep_415 : decode cX7_sweep 415 = .ok (.iload_n 2, 1) := by decide +kernel
theorem dX7_sweep_416 : decode cX7_sweep 416 = .ok (.iaload, 1) := by decide +kernel
theorem dX7_sweep_417 : decode cX7_sweep 417 = .ok (.iconst 2, 1) := by decide +kernel
theorem dX7_sweep_418 : decode cX7_sweep 418 = .ok (.if_icmp .ne 7, 3) := by decide +kernel
theorem dX7_sweep_421 : decode cX7_sweep 421 = .ok (.iconst 1, 1) := by decide +kernel
theorem dX7_sweep_422 : decode cX7_sweep 422 = .ok (.goto 4, 3) := by decide +kernel
theorem dX7_sweep_425 : decode cX7_sweep 425 = .ok (.iconst 0, 1) := by decide +kernel
theorem dX7_sweep_426 : decode cX7_sweep 426 = .ok (.iload_n 2, 1) := by decide +kernel
theorem dX7_sweep_427 : decode cX7_sweep 427 = .ok (.invokevirtual 81, 3) := by decide +kernel
theorem dX7_sweep_430 : decode cX7_sweep 430 = .ok (.istore_n 3, 1) := by decide +kernel
theorem dX7_sweep_431 : decode cX7_sweep 431 = .ok (.aload_n 0, 1) := by decide +kernel
theorem dX7_sweep_432 : decode cX7_sweep 432 = .ok (.getfield 30, 3) := by decide +kernel
theorem dX7_sweep_435 : decode cX7_sweep 435 = .ok (.iload_n 3, 1) := by decide +kernel
theorem dX7_sweep_436 : decode cX7_sweep 436 = .ok (.iaload, 1) := by decide +kernel
theorem dX7_sweep_437 : decode cX7_sweep 437 = .ok (.ifCond .le 13, 3) := by decide +kernel
theorem dX7_sweep_440 : decode cX7_sweep 440 = .ok (.iload_n 3, 1) := by decide +kernel
theorem dX7_sweep_441 : decode cX7_sweep 441 = .ok (.iconst 1, 1) := by decide +kernel
theorem dX7_sweep_442 : decode cX7_sweep 442 = .ok (.iadd, 1) := by decide +kernel
theorem dX7_sweep_443 : decode cX7_sweep 443 = .ok (.ldc 80, 2) := by decide +kernel
theorem dX7_sweep_445 : decode cX7_sweep 445 = .ok (.iand, 1) := by decide +kernel
theorem dX7_sweep_446 : decode cX7_sweep 446 = .ok (.istore_n 3, 1) := by decide +kernel
theorem dX7_sweep_447 : decode cX7_sweep 447 = .ok (.goto (-16), 3) := by decide +kernel
theorem dX7_sweep_450 : decode cX7_sweep 450 = .ok (.aload_n 0, 1) := by decide +kernel
theorem dX7_sweep_451 : decode cX7_sweep 451 = .ok (.getfield 30, 3) := by decide +kernel
theorem dX7_sweep_454 : decode cX7_sweep 454 = .ok (.iload_n 3, 1) := by decide +kernel
theorem dX7_sweep_455 : decode cX7_sweep 455 = .ok (.iload_n 2, 1) := by decide +kernel
theorem dX7_sweep_456 : decode cX7_sweep 456 = .ok (.iconst 1, 1) := by decide +kernel
theorem dX7_sweep_457 : decode cX7_sweep 457 = .ok (.iadd, 1) := by decide +kernel
theorem dX7_sweep_458 : decode cX7_sweep 458 = .ok (.iastore, 1) := by decide +kernel
theorem dX7_sweep_459 : decode cX7_sweep 459 = .ok (.iinc 2 1, 3) := by decide +kernel
theorem dX7_sweep_462 : decode cX7_sweep 462 = .ok (.goto (-78), 3) := by decide +kernel
theorem dX7_sweep_465 : decode cX7_sweep 465 = .ok (.return_, 1) := by decide +kernel
theorem dX7_sweepIfFull_0 : decode cX7_sweepIfFull 0 = .ok (.aload_n 0, 1) := by decide +kernel
theorem dX7_sweepIfFull_1 : decode cX7_sweepIfFull 1 = .ok (.getfield 85, 3) := by decide +kernel
theorem dX7_sweepIfFull_4 : decode cX7_sweepIfFull 4 = .ok (.sipush 20000, 3) := by decide +kernel
theorem dX7_sweepIfFull_7 : decode cX7_sweepIfFull 7 = .ok (.if_icmp .le 7, 3) := by decide +kernel
theorem dX7_sweepIfFull_10 : decode cX7_sweepIfFull 10 = .ok (.aload_n 0, 1) := by decide +kernel
theorem dX7_sweepIfFull_11 : decode cX7_sweepIfFull 11 = .ok (.invokevirtual 88, 3) := by decide +kernel
theorem dX7_sweepIfFull_14 : decode cX7_sweepIfFull 14 = .ok (.return_, 1) := by decide +kernel
theorem dX7_root_0 : decode cX7_root 0 = .ok (.aload_n 0, 1) := by decide +kernel
theorem dX7_root_1 : decode cX7_root 1 = .ok (.getfield 33, 3) := by decide +kernel
theorem dX7_root_4 : decode cX7_root 4 = .ok (.aload_n 0, 1) := by decide +kernel
theorem dX7_root_5 : decode cX7_root 5 = .ok (.getfield 72, 3) := by decide +kernel
theorem dX7_root_8 : decode cX7_root 8 = .ok (.iload_n 1, 1) := by decide +kernel
theorem dX7_root_9 : decode cX7_root 9 = .ok (.iastore, 1) := by decide +kernel
theorem dX7_root_10 : decode cX7_root 10 = .ok (.aload_n 0, 1) := by decide +kernel
theorem dX7_root_11 : decode cX7_root 11 = .ok (.dup, 1) := by decide +kernel
theorem dX7_root_12 : decode cX7_root 12 = .ok (.getfield 72, 3) := by decide +kernel
theorem dX7_root_15 : decode cX7_root 15 = .ok (.iconst 1, 1) := by decide +kernel
theorem dX7_root_16 : decode cX7_root 16 = .ok (.iadd, 1) := by decide +kernel
theorem dX7_root_17 : decode cX7_root 17 = .ok (.putfield 72, 3) := by decide +kernel
theorem dX7_root_20 : decode cX7_root 20 = .ok (.aload_n 0, 1) := by decide +kernel
theorem dX7_root_21 : decode cX7_root 21 = .ok (.getfield 72, 3) := by decide +kernel
theorem dX7_root_24 : decode cX7_root 24 = .ok (.iconst 1, 1) := by decide +kernel
theorem dX7_root_25 : decode cX7_root 25 = .ok (.isub, 1) := by decide +kernel
theorem dX7_root_26 : decode cX7_root 26 = .ok (.ireturn, 1) := by decide +kernel
theorem dX7_truth_0 : decode cX7_truth 0 = .ok (.iload_n 1, 1) := by decide +kernel
theorem dX7_truth_1 : decode cX7_truth 1 = .ok (.ifCond .eq 7, 3) := by decide +kernel
theorem dX7_truth_4 : decode cX7_truth 4 = .ok (.iconst 0, 1) := by decide +kernel
theorem dX7_truth_5 : decode cX7_truth 5 = .ok (.goto 4, 3) := by decide +kernel
theorem dX7_truth_8 : decode cX7_truth 8 = .ok (.iconst 1, 1) := by decide +kernel
theorem dX7_truth_9 : decode cX7_truth 9 = .ok (.ireturn, 1) := by decide +kernel
theorem dX7_both_0 : decode cX7_both 0 = .ok (.iload_n 1, 1) := by decide +kernel
theorem dX7_both_1 : decode cX7_both 1 = .ok (.ifCond .eq 7, 3) := by decide +kernel
theorem dX7_both_4 : decode cX7_both 4 = .ok (.iconst 1, 1) := by decide +kernel
theorem dX7_both_5 : decode cX7_both 5 = .ok (.goto 4, 3) := by decide +kernel
theorem dX7_both_8 : decode cX7_both 8 = .ok (.iconst 0, 1) := by decide +kernel
theorem dX7_both_9 : decode cX7_both 9 = .ok (.istore 4, 2) := by decide +kernel
theorem dX7_both_11 : decode cX7_both 11 = .ok (.iload_n 2, 1) := by decide +kernel
theorem dX7_both_12 : decode cX7_both 12 = .ok (.iload 4, 2) := by decide +kernel
theorem dX7_both_14 : decode cX7_both 14 = .ok (.if_icmp .eq 9, 3) := by decide +kernel
theorem dX7_both_17 : decode cX7_both 17 = .ok (.iload_n 3, 1) := by decide +kernel
theorem dX7_both_18 : decode cX7_both 18 = .ok (.iload 4, 2) := by decide +kernel
theorem dX7_both_20 : decode cX7_both 20 = .ok (.if_icmp .ne 6, 3) := by decide +kernel
theorem dX7_both_23 : decode cX7_both 23 = .ok (.iload 4, 2) := by decide +kernel
theorem dX7_both_25 : decode cX7_both 25 = .ok (.ireturn, 1) := by decide +kernel
theorem dX7_both_26 : decode cX7_both 26 = .ok (.iload_n 2, 1) := by decide +kernel
theorem dX7_both_27 : decode cX7_both 27 = .ok (.iconst 1, 1) := by decide +kernel
theorem dX7_both_28 : decode cX7_both 28 = .ok (.iload 4, 2) := by decide +kernel
theorem dX7_both_30 : decode cX7_both 30 = .ok (.isub, 1) := by decide +kernel
theorem dX7_both_31 : decode cX7_both 31 = .ok (.if_icmp .eq 8, 3) := by decide +kernel
theorem dX7_both_34 : decode cX7_both 34 = .ok (.iload_n 2, 1) := by decide +kernel
theorem dX7_both_35 : decode cX7_both 35 = .ok (.iload_n 3, 1) := by decide +kernel
theorem dX7_both_36 : decode cX7_both 36 = .ok (.if_icmp .ne 5, 3) := by decide +kernel
theorem dX7_both_39 : decode cX7_both 39 = .ok (.iload_n 3, 1) := by decide +kernel
theorem dX7_both_40 : decode cX7_both 40 = .ok (.ireturn, 1) := by decide +kernel
theorem dX7_both_41 : decode cX7_both 41 = .ok (.iload_n 3, 1) := by decide +kernel
theorem dX7_both_42 : decode cX7_both 42 = .ok (.iconst 1, 1) := by decide +kernel
theorem dX7_both_43 : decode cX7_both 43 = .ok (.iload 4, 2) := by decide +kernel
theorem dX7_both_45 : decode cX7_both 45 = .ok (.isub, 1) := by decide +kernel
theorem dX7_both_46 : decode cX7_both 46 = .ok (.if_icmp .ne 7, 3) := by decide +kernel
theorem dX7_both_49 : decode cX7_both 49 = .ok (.iload_n 2, 1) := by decide +kernel
theorem dX7_both_50 : decode cX7_both 50 = .ok (.goto 18, 3) := by decide +kernel
theorem dX7_both_53 : decode cX7_both 53 = .ok (.aload_n 0, 1) := by decide +kernel
theorem dX7_both_54 : decode cX7_both 54 = .ok (.iload_n 1, 1) := by decide +kernel
theorem dX7_both_55 : decode cX7_both 55 = .ok (.ifCond .eq 7, 3) := by decide +kernel
theorem dX7_both_58 : decode cX7_both 58 = .ok (.iconst 3, 1) := by decide +kernel
theorem dX7_both_59 : decode cX7_both 59 = .ok (.goto 4, 3) := by decide +kernel
theorem dX7_both_62 : decode cX7_both 62 = .ok (.iconst 4, 1) := by decide +kernel
theorem dX7_both_63 : decode cX7_both 63 = .ok (.iload_n 2, 1) := by decide +kernel
theorem dX7_both_64 : decode cX7_both 64 = .ok (.iload_n 3, 1) := by decide +kernel
theorem dX7_both_65 : decode cX7_both 65 = .ok (.invokevirtual 68, 3) := by decide +kernel
theorem dX7_both_68 : decode cX7_both 68 = .ok (.ireturn, 1) := by decide +kernel
theorem dX7_quantified_0 : decode cX7_quantified 0 = .ok (.aload_n 0, 1) := by decide +kernel
theorem dX7_quantified_1 : decode cX7_quantified 1 = .ok (.getfield 22, 3) := by decide +kernel
theorem dX7_quantified_4 : decode cX7_quantified 4 = .ok (.iload_n 3, 1) := by decide +kernel
theorem dX7_quantified_5 : decode cX7_quantified 5 = .ok (.iaload, 1) := by decide +kernel
theorem dX7_quantified_6 : decode cX7_quantified 6 = .ok (.iload_n 2, 1) := by decide +kernel
theorem dX7_quantified_7 : decode cX7_quantified 7 = .ok (.ishr, 1) := by decide +kernel
theorem dX7_quantified_8 : decode cX7_quantified 8 = .ok (.iconst 1, 1) := by decide +kernel
theorem dX7_quantified_9 : decode cX7_quantified 9 = .ok (.iand, 1) := by decide +kernel
theorem dX7_quantified_10 : decode cX7_quantified 10 = .ok (.ifCond .ne 7, 3) := by decide +kernel
theorem dX7_quantified_13 : decode cX7_quantified 13 = .ok (.iload_n 3, 1) := by decide +kernel
theorem dX7_quantified_14 : decode cX7_quantified 14 = .ok (.goto 19, 3) := by decide +kernel
theorem dX7_quantified_17 : decode cX7_quantified 17 = .ok (.aload_n 0, 1) := by decide +kernel
theorem dX7_quantified_18 : decode cX7_quantified 18 = .ok (.iload_n 1, 1) := by decide +kernel
theorem dX7_quantified_19 : decode cX7_quantified 19 = .ok (.ifCond .eq 7, 3) := by decide +kernel
theorem dX7_quantified_22 : decode cX7_quantified 22 = .ok (.iconst 5, 1) := by decide +kernel
theorem dX7_quantified_23 : decode cX7_quantified 23 = .ok (.goto 5, 3) := by decide +kernel
theorem dX7_quantified_26 : decode cX7_quantified 26 = .ok (.bipush 6, 2) := by decide +kernel
theorem dX7_quantified_28 : decode cX7_quantified 28 = .ok (.iload_n 2, 1) := by decide +kernel
theorem dX7_quantified_29 : decode cX7_quantified 29 = .ok (.iload_n 3, 1) := by decide +kernel
theorem dX7_quantified_30 : decode cX7_quantified 30 = .ok (.invokevirtual 68, 3) := by decide +kernel
theorem dX7_quantified_33 : decode cX7_quantified 33 = .ok (.ireturn, 1) := by decide +kernel
theorem dX7_divisor_0 : decode cX7_divisor 0 = .ok (.lload_n 0, 1) := by decide +kernel
theorem dX7_divisor_1 : decode cX7_divisor 1 = .ok (.lconst 0, 1) := by decide +kernel
theorem dX7_divisor_2 : decode cX7_divisor 2 = .ok (.lcmp, 1) := by decide +kernel
theorem dX7_divisor_3 : decode cX7_divisor 3 = .ok (.ifCond .ge 8, 3) := by decide +kernel
theorem dX7_divisor_6 : decode cX7_divisor 6 = .ok (.lload_n 0, 1) := by decide +kernel
theorem dX7_divisor_7 : decode cX7_divisor 7 = .ok (.lneg, 1) := by decide +kernel
theorem dX7_divisor_8 : decode cX7_divisor 8 = .ok (.goto 4, 3) := by decide +kernel
theorem dX7_divisor_11 : decode cX7_divisor 11 = .ok (.lload_n 0, 1) := by decide +kernel
theorem dX7_divisor_12 : decode cX7_divisor 12 = .ok (.lstore 4, 2) := by decide +kernel
theorem dX7_divisor_14 : decode cX7_divisor 14 = .ok (.lload_n 2, 1) := by decide +kernel
theorem dX7_divisor_15 : decode cX7_divisor 15 = .ok (.lconst 0, 1) := by decide +kernel
theorem dX7_divisor_16 : decode cX7_divisor 16 = .ok (.lcmp, 1) := by decide +kernel
theorem dX7_divisor_17 : decode cX7_divisor 17 = .ok (.ifCond .ge 8, 3) := by decide +kernel
theorem dX7_divisor_20 : decode cX7_divisor 20 = .ok (.lload_n 2, 1) := by decide +kernel
theorem dX7_divisor_21 : decode cX7_divisor 21 = .ok (.lneg, 1) := by decide +kernel
theorem dX7_divisor_22 : decode cX7_divisor 22 = .ok (.goto 4, 3) := by decide +kernel
theorem dX7_divisor_25 : decode cX7_divisor 25 = .ok (.lload_n 2, 1) := by decide +kernel
theorem dX7_divisor_26 : decode cX7_divisor 26 = .ok (.lstore 6, 2) := by decide +kernel
theorem dX7_divisor_28 : decode cX7_divisor 28 = .ok (.lload 6, 2) := by decide +kernel
theorem dX7_divisor_30 : decode cX7_divisor 30 = .ok (.lconst 0, 1) := by decide +kernel
theorem dX7_divisor_31 : decode cX7_divisor 31 = .ok (.lcmp, 1) := by decide +kernel
theorem dX7_divisor_32 : decode cX7_divisor 32 = .ok (.ifCond .eq 21, 3) := by decide +kernel
theorem dX7_divisor_35 : decode cX7_divisor 35 = .ok (.lload 4, 2) := by decide +kernel
theorem dX7_divisor_37 : decode cX7_divisor 37 = .ok (.lload 6, 2) := by decide +kernel
theorem dX7_divisor_39 : decode cX7_divisor 39 = .ok (.lrem, 1) := by decide +kernel
theorem dX7_divisor_40 : decode cX7_divisor 40 = .ok (.lstore 8, 2) := by decide +kernel
theorem dX7_divisor_42 : decode cX7_divisor 42 = .ok (.lload 6, 2) := by decide +kernel
theorem dX7_divisor_44 : decode cX7_divisor 44 = .ok (.lstore 4, 2) := by decide +kernel
theorem dX7_divisor_46 : decode cX7_divisor 46 = .ok (.lload 8, 2) := by decide +kernel
theorem dX7_divisor_48 : decode cX7_divisor 48 = .ok (.lstore 6, 2) := by decide +kernel
theorem dX7_divisor_50 : decode cX7_divisor 50 = .ok (.goto (-22), 3) := by decide +kernel
theorem dX7_divisor_53 : decode cX7_divisor 53 = .ok (.lload 4, 2) := by decide +kernel
theorem dX7_divisor_55 : decode cX7_divisor 55 = .ok (.lreturn, 1) := by decide +kernel
theorem dX7_atom_0 : decode cX7_atom 0 = .ok (.lconst 0, 1) := by decide +kernel
theorem dX7_atom_1 : decode cX7_atom 1 = .ok (.lstore_n 2, 1) := by decide +kernel
theorem dX7_atom_2 : decode cX7_atom 2 = .ok (.iconst (-1), 1) := by decide +kernel
theorem dX7_atom_3 : decode cX7_atom 3 = .ok (.istore 4, 2) := by decide +kernel
theorem dX7_atom_5 : decode cX7_atom 5 = .ok (.iconst 0, 1) := by decide +kernel
theorem dX7_atom_6 : decode cX7_atom 6 = .ok (.istore 5, 2) := by decide +kernel
theorem dX7_atom_8 : decode cX7_atom 8 = .ok (.iload 5, 2) := by decide +kernel
theorem dX7_atom_10 : decode cX7_atom 10 = .ok (.bipush 9, 2) := by decide +kernel
theorem dX7_atom_12 : decode cX7_atom 12 = .ok (.if_icmp .ge 54, 3) := by decide +kernel
theorem dX7_atom_15 : decode cX7_atom 15 = .ok (.lload_n 2, 1) := by decide +kernel
theorem dX7_atom_16 : decode cX7_atom 16 = .ok (.aload_n 0, 1) := by decide +kernel
theorem dX7_atom_17 : decode cX7_atom 17 = .ok (.getfield 52, 3) := by decide +kernel
theorem dX7_atom_20 : decode cX7_atom 20 = .ok (.iload 5, 2) := by decide +kernel
theorem dX7_atom_22 : decode cX7_atom 22 = .ok (.laload, 1) := by decide +kernel
theorem dX7_atom_23 : decode cX7_atom 23 = .ok (.invokestatic 91, 3) := by decide +kernel
theorem dX7_atom_26 : decode cX7_atom 26 = .ok (.lstore_n 2, 1) := by decide +kernel
theorem dX7_atom_27 : decode cX7_atom 27 = .ok (.iload 4, 2) := by decide +kernel
theorem dX7_atom_29 : decode cX7_atom 29 = .ok (.ifCond .ge 27, 3) := by decide +kernel
theorem dX7_atom_32 : decode cX7_atom 32 = .ok (.iload 5, 2) := by decide +kernel
theorem dX7_atom_34 : decode cX7_atom 34 = .ok (.bipush 8, 2) := by decide +kernel
theorem dX7_atom_36 : decode cX7_atom 36 = .ok (.if_icmp .ge 20, 3) := by decide +kernel
theorem dX7_atom_39 : decode cX7_atom 39 = .ok (.aload_n 0, 1) := by decide +kernel
theorem dX7_atom_40 : decode cX7_atom 40 = .ok (.getfield 52, 3) := by decide +kernel
theorem dX7_atom_43 : decode cX7_atom 43 = .ok (.iload 5, 2) := by decide +kernel
theorem dX7_atom_45 : decode cX7_atom 45 = .ok (.laload, 1) := by decide +kernel
theorem dX7_atom_46 : decode cX7_atom 46 = .ok (.lconst 0, 1) := by decide +kernel
theorem dX7_atom_47 : decode cX7_atom 47 = .ok (.lcmp, 1) := by decide +kernel
theorem dX7_atom_48 : decode cX7_atom 48 = .ok (.ifCond .eq 8, 3) := by decide +kernel
theorem dX7_atom_51 : decode cX7_atom 51 = .ok (.iload 5, 2) := by decide +kernel
theorem dX7_atom_53 : decode cX7_atom 53 = .ok (.goto 5, 3) := by decide +kernel
theorem dX7_atom_56 : decode cX7_atom 56 = .ok (.iload 4, 2) := by decide +kernel
theorem dX7_atom_58 : decode cX7_atom 58 = .ok (.istore 4, 2) := by decide +kernel
theorem dX7_atom_60 : decode cX7_atom 60 = .ok (.iinc 5 1, 3) := by decide +kernel
theorem dX7_atom_63 : decode cX7_atom 63 = .ok (.goto (-55), 3) := by decide +kernel
theorem dX7_atom_66 : decode cX7_atom 66 = .ok (.iload 4, 2) := by decide +kernel
theorem dX7_atom_68 : decode cX7_atom 68 = .ok (.ifCond .ge 88, 3) := by decide +kernel
theorem dX7_atom_71 : decode cX7_atom 71 = .ok (.aload_n 0, 1) := by decide +kernel
theorem dX7_atom_72 : decode cX7_atom 72 = .ok (.getfield 52, 3) := by decide +kernel
theorem dX7_atom_75 : decode cX7_atom 75 = .ok (.bipush 8, 2) := by decide +kernel
theorem dX7_atom_77 : decode cX7_atom 77 = .ok (.laload, 1) := by decide +kernel
theorem dX7_atom_78 : decode cX7_atom 78 = .ok (.lstore 5, 2) := by decide +kernel
theorem dX7_atom_80 : decode cX7_atom 80 = .ok (.aload_n 0, 1) := by decide +kernel
theorem dX7_atom_81 : decode cX7_atom 81 = .ok (.iload_n 1, 1) := by decide +kernel
theorem dX7_atom_82 : decode cX7_atom 82 = .ok (.ifCond .ne 18, 3) := by decide +kernel
theorem dX7_atom_85 : decode cX7_atom 85 = .ok (.lload 5, 2) := by decide +kernel
theorem dX7_atom_87 : decode cX7_atom 87 = .ok (.lconst 0, 1) := by decide +kernel
theorem dX7_atom_88 : decode cX7_atom 88 = .ok (.lcmp, 1) := by decide +kernel
theorem dX7_atom_89 : decode cX7_atom 89 = .ok (.ifCond .ne 7, 3) := by decide +kernel
theorem dX7_atom_92 : decode cX7_atom 92 = .ok (.iconst 1, 1) := by decide +kernel
theorem dX7_atom_93 : decode cX7_atom 93 = .ok (.goto 59, 3) := by decide +kernel
theorem dX7_atom_96 : decode cX7_atom 96 = .ok (.iconst 0, 1) := by decide +kernel
theorem dX7_atom_97 : decode cX7_atom 97 = .ok (.goto 55, 3) := by decide +kernel
theorem dX7_atom_100 : decode cX7_atom 100 = .ok (.iload_n 1, 1) := by decide +kernel
theorem dX7_atom_101 : decode cX7_atom 101 = .ok (.iconst 1, 1) := by decide +kernel
theorem dX7_atom_102 : decode cX7_atom 102 = .ok (.if_icmp .ne 18, 3) := by decide +kernel
theorem dX7_atom_105 : decode cX7_atom 105 = .ok (.lload 5, 2) := by decide +kernel
theorem dX7_atom_107 : decode cX7_atom 107 = .ok (.lconst 0, 1) := by decide +kernel
theorem dX7_atom_108 : decode cX7_atom 108 = .ok (.lcmp, 1) := by decide +kernel
theorem dX7_atom_109 : decode cX7_atom 109 = .ok (.ifCond .eq 7, 3) := by decide +kernel
theorem dX7_atom_112 : decode cX7_atom 112 = .ok (.iconst 1, 1) := by decide +kernel
theorem dX7_atom_113 : decode cX7_atom 113 = .ok (.goto 39, 3) := by decide +kernel
theorem dX7_atom_116 : decode cX7_atom 116 = .ok (.iconst 0, 1) := by decide +kernel
theorem dX7_atom_117 : decode cX7_atom 117 = .ok (.goto 35, 3) := by decide +kernel
theorem dX7_atom_120 : decode cX7_atom 120 = .ok (.iload_n 1, 1) := by decide +kernel
theorem dX7_atom_121 : decode cX7_atom 121 = .ok (.iconst 2, 1) := by decide +kernel
theorem dX7_atom_122 : decode cX7_atom 122 = .ok (.if_icmp .ne 18, 3) := by decide +kernel
theorem dX7_atom_125 : decode cX7_atom 125 = .ok (.lload 5, 2) := by decide +kernel
theorem dX7_atom_127 : decode cX7_atom 127 = .ok (.lconst 0, 1) := by decide +kernel
theorem dX7_atom_128 : decode cX7_atom 128 = .ok (.lcmp, 1) := by decide +kernel
theorem dX7_atom_129 : decode cX7_atom 129 = .ok (.ifCond .ge 7, 3) := by decide +kernel
theorem dX7_atom_132 : decode cX7_atom 132 = .ok (.iconst 1, 1) := by decide +kernel
theorem dX7_atom_133 : decode cX7_atom 133 = .ok (.goto 19, 3) := by decide +kernel
theorem dX7_atom_136 : decode cX7_atom 136 = .ok (.iconst 0, 1) := by decide +kernel
theorem dX7_atom_137 : decode cX7_atom 137 = .ok (.goto 15, 3) := by decide +kernel
theorem dX7_atom_140 : decode cX7_atom 140 = .ok (.lload 5, 2) := by decide +kernel
theorem dX7_atom_142 : decode cX7_atom 142 = .ok (.lconst 0, 1) := by decide +kernel
theorem dX7_atom_143 : decode cX7_atom 143 = .ok (.lcmp, 1) := by decide +kernel
theorem dX7_atom_144 : decode cX7_atom 144 = .ok (.ifCond .gt 7, 3) := by decide +kernel
theorem dX7_atom_147 : decode cX7_atom 147 = .ok (.iconst 1, 1) := by decide +kernel
theorem dX7_atom_148 : decode cX7_atom 148 = .ok (.goto 4, 3) := by decide +kernel
theorem dX7_atom_151 : decode cX7_atom 151 = .ok (.iconst 0, 1) := by decide +kernel
theorem dX7_atom_152 : decode cX7_atom 152 = .ok (.invokevirtual 95, 3) := by decide +kernel
theorem dX7_atom_155 : decode cX7_atom 155 = .ok (.ireturn, 1) := by decide +kernel
theorem dX7_atom_156 : decode cX7_atom 156 = .ok (.iload_n 1, 1) := by decide +kernel
theorem dX7_atom_157 : decode cX7_atom 157 = .ok (.iconst 2, 1) := by decide +kernel
theorem dX7_atom_158 : decode cX7_atom 158 = .ok (.if_icmp .ge 18, 3) := by decide +kernel
theorem dX7_atom_161 : decode cX7_atom 161 = .ok (.aload_n 0, 1) := by decide +kernel
theorem dX7_atom_162 : decode cX7_atom 162 = .ok (.getfield 52, 3) := by decide +kernel
theorem dX7_atom_165 : decode cX7_atom 165 = .ok (.iload 4, 2) := by decide +kernel
theorem dX7_atom_167 : decode cX7_atom 167 = .ok (.laload, 1) := by decide +kernel
theorem dX7_atom_168 : decode cX7_atom 168 = .ok (.lconst 0, 1) := by decide +kernel
theorem dX7_atom_169 : decode cX7_atom 169 = .ok (.lcmp, 1) := by decide +kernel
theorem dX7_atom_170 : decode cX7_atom 170 = .ok (.ifCond .ge 6, 3) := by decide +kernel
theorem dX7_atom_173 : decode cX7_atom 173 = .ok (.lload_n 2, 1) := by decide +kernel
theorem dX7_atom_174 : decode cX7_atom 174 = .ok (.lneg, 1) := by decide +kernel
theorem dX7_atom_175 : decode cX7_atom 175 = .ok (.lstore_n 2, 1) := by decide +kernel
theorem dX7_atom_176 : decode cX7_atom 176 = .ok (.iconst 0, 1) := by decide +kernel
theorem dX7_atom_177 : decode cX7_atom 177 = .ok (.istore 5, 2) := by decide +kernel
theorem dX7_atom_179 : decode cX7_atom 179 = .ok (.iload 5, 2) := by decide +kernel
theorem dX7_atom_181 : decode cX7_atom 181 = .ok (.bipush 9, 2) := by decide +kernel
theorem dX7_atom_183 : decode cX7_atom 183 = .ok (.if_icmp .ge 64, 3) := by decide +kernel
theorem dX7_atom_186 : decode cX7_atom 186 = .ok (.aload_n 0, 1) := by decide +kernel
theorem dX7_atom_187 : decode cX7_atom 187 = .ok (.getfield 52, 3) := by decide +kernel
theorem dX7_atom_190 : decode cX7_atom 190 = .ok (.iload 5, 2) := by decide +kernel
theorem dX7_atom_192 : decode cX7_atom 192 = .ok (.dup2, 1) := by decide +kernel
theorem dX7_atom_193 : decode cX7_atom 193 = .ok (.laload, 1) := by decide +kernel
theorem dX7_atom_194 : decode cX7_atom 194 = .ok (.lload_n 2, 1) := by decide +kernel
theorem dX7_atom_195 : decode cX7_atom 195 = .ok (.ldiv, 1) := by decide +kernel
theorem dX7_atom_196 : decode cX7_atom 196 = .ok (.lastore, 1) := by decide +kernel
theorem dX7_atom_197 : decode cX7_atom 197 = .ok (.aload_n 0, 1) := by decide +kernel
theorem dX7_atom_198 : decode cX7_atom 198 = .ok (.aload_n 0, 1) := by decide +kernel
theorem dX7_atom_199 : decode cX7_atom 199 = .ok (.getfield 99, 3) := by decide +kernel
theorem dX7_atom_202 : decode cX7_atom 202 = .ok (.ifCond .ne 31, 3) := by decide +kernel
theorem dX7_atom_205 : decode cX7_atom 205 = .ok (.aload_n 0, 1) := by decide +kernel
theorem dX7_atom_206 : decode cX7_atom 206 = .ok (.getfield 52, 3) := by decide +kernel
theorem dX7_atom_209 : decode cX7_atom 209 = .ok (.iload 5, 2) := by decide +kernel
theorem dX7_atom_211 : decode cX7_atom 211 = .ok (.laload, 1) := by decide +kernel
theorem dX7_atom_212 : decode cX7_atom 212 = .ok (.ldc2_w 103, 3) := by decide +kernel
theorem dX7_atom_215 : decode cX7_atom 215 = .ok (.lcmp, 1) := by decide +kernel
theorem dX7_atom_216 : decode cX7_atom 216 = .ok (.ifCond .gt 17, 3) := by decide +kernel
theorem dX7_atom_219 : decode cX7_atom 219 = .ok (.aload_n 0, 1) := by decide +kernel
theorem dX7_atom_220 : decode cX7_atom 220 = .ok (.getfield 52, 3) := by decide +kernel
theorem dX7_atom_223 : decode cX7_atom 223 = .ok (.iload 5, 2) := by decide +kernel
theorem dX7_atom_225 : decode cX7_atom 225 = .ok (.laload, 1) := by decide +kernel
theorem dX7_atom_226 : decode cX7_atom 226 = .ok (.ldc2_w 105, 3) := by decide +kernel
theorem dX7_atom_229 : decode cX7_atom 229 = .ok (.lcmp, 1) := by decide +kernel
theorem dX7_atom_230 : decode cX7_atom 230 = .ok (.ifCond .ge 7, 3) := by decide +kernel
theorem dX7_atom_233 : decode cX7_atom 233 = .ok (.iconst 1, 1) := by decide +kernel
theorem dX7_atom_234 : decode cX7_atom 234 = .ok (.goto 4, 3) := by decide +kernel
theorem dX7_atom_237 : decode cX7_atom 237 = .ok (.iconst 0, 1) := by decide +kernel
theorem dX7_atom_238 : decode cX7_atom 238 = .ok (.putfield 99, 3) := by decide +kernel
theorem dX7_atom_241 : decode cX7_atom 241 = .ok (.iinc 5 1, 3) := by decide +kernel
theorem dX7_atom_244 : decode cX7_atom 244 = .ok (.goto (-65), 3) := by decide +kernel
theorem dX7_atom_247 : decode cX7_atom 247 = .ok (.aload_n 0, 1) := by decide +kernel
theorem dX7_atom_248 : decode cX7_atom 248 = .ok (.getfield 99, 3) := by decide +kernel
theorem dX7_atom_251 : decode cX7_atom 251 = .ok (.ifCond .eq 7, 3) := by decide +kernel
theorem dX7_atom_254 : decode cX7_atom 254 = .ok (.iconst 0, 1) := by decide +kernel
theorem dX7_atom_255 : decode cX7_atom 255 = .ok (.goto 10, 3) := by decide +kernel
theorem dX7_atom_258 : decode cX7_atom 258 = .ok (.aload_n 0, 1) := by decide +kernel
theorem dX7_atom_259 : decode cX7_atom 259 = .ok (.iconst 2, 1) := by decide +kernel
theorem dX7_atom_260 : decode cX7_atom 260 = .ok (.iload_n 1, 1) := by decide +kernel
theorem dX7_atom_261 : decode cX7_atom 261 = .ok (.iconst 0, 1) := by decide +kernel
theorem dX7_atom_262 : decode cX7_atom 262 = .ok (.invokevirtual 68, 3) := by decide +kernel
theorem dX7_atom_265 : decode cX7_atom 265 = .ok (.ireturn, 1) := by decide +kernel
theorem dX7_turned_0 : decode cX7_turned 0 = .ok (.iload_n 1, 1) := by decide +kernel
theorem dX7_turned_1 : decode cX7_turned 1 = .ok (.iconst 2, 1) := by decide +kernel
theorem dX7_turned_2 : decode cX7_turned 2 = .ok (.if_icmp .ge 7, 3) := by decide +kernel
theorem dX7_turned_5 : decode cX7_turned 5 = .ok (.iconst 1, 1) := by decide +kernel
theorem dX7_turned_6 : decode cX7_turned 6 = .ok (.iload_n 1, 1) := by decide +kernel
theorem dX7_turned_7 : decode cX7_turned 7 = .ok (.isub, 1) := by decide +kernel
theorem dX7_turned_8 : decode cX7_turned 8 = .ok (.ireturn, 1) := by decide +kernel
theorem dX7_turned_9 : decode cX7_turned 9 = .ok (.aload_n 0, 1) := by decide +kernel
theorem dX7_turned_10 : decode cX7_turned 10 = .ok (.getfield 7, 3) := by decide +kernel
theorem dX7_turned_13 : decode cX7_turned 13 = .ok (.iload_n 1, 1) := by decide +kernel
theorem dX7_turned_14 : decode cX7_turned 14 = .ok (.iaload, 1) := by decide +kernel
theorem dX7_turned_15 : decode cX7_turned 15 = .ok (.iconst 2, 1) := by decide +kernel
theorem dX7_turned_16 : decode cX7_turned 16 = .ok (.if_icmp .ne 84, 3) := by decide +kernel
theorem dX7_turned_19 : decode cX7_turned 19 = .ok (.aload_n 0, 1) := by decide +kernel
theorem dX7_turned_20 : decode cX7_turned 20 = .ok (.getfield 13, 3) := by decide +kernel
theorem dX7_turned_23 : decode cX7_turned 23 = .ok (.iload_n 1, 1) := by decide +kernel
theorem dX7_turned_24 : decode cX7_turned 24 = .ok (.iaload, 1) := by decide +kernel
theorem dX7_turned_25 : decode cX7_turned 25 = .ok (.istore_n 2, 1) := by decide +kernel
theorem dX7_turned_26 : decode cX7_turned 26 = .ok (.iconst 0, 1) := by decide +kernel
theorem dX7_turned_27 : decode cX7_turned 27 = .ok (.istore_n 3, 1) := by decide +kernel
theorem dX7_turned_28 : decode cX7_turned 28 = .ok (.iload_n 3, 1) := by decide +kernel
theorem dX7_turned_29 : decode cX7_turned 29 = .ok (.bipush 9, 2) := by decide +kernel
theorem dX7_turned_31 : decode cX7_turned 31 = .ok (.if_icmp .ge 48, 3) := by decide +kernel
theorem dX7_turned_34 : decode cX7_turned 34 = .ok (.aload_n 0, 1) := by decide +kernel
theorem dX7_turned_35 : decode cX7_turned 35 = .ok (.getfield 52, 3) := by decide +kernel
theorem dX7_turned_38 : decode cX7_turned 38 = .ok (.iload_n 3, 1) := by decide +kernel
theorem dX7_turned_39 : decode cX7_turned 39 = .ok (.iload_n 2, 1) := by decide +kernel
theorem dX7_turned_40 : decode cX7_turned 40 = .ok (.iconst 2, 1) := by decide +kernel
theorem dX7_turned_41 : decode cX7_turned 41 = .ok (.if_icmp .ge 18, 3) := by decide +kernel
theorem dX7_turned_44 : decode cX7_turned 44 = .ok (.aload_n 0, 1) := by decide +kernel
theorem dX7_turned_45 : decode cX7_turned 45 = .ok (.getfield 26, 3) := by decide +kernel
theorem dX7_turned_48 : decode cX7_turned 48 = .ok (.bipush 9, 2) := by decide +kernel
theorem dX7_turned_50 : decode cX7_turned 50 = .ok (.iload_n 1, 1) := by decide +kernel
theorem dX7_turned_51 : decode cX7_turned 51 = .ok (.imul, 1) := by decide +kernel
theorem dX7_turned_52 : decode cX7_turned 52 = .ok (.iload_n 3, 1) := by decide +kernel
theorem dX7_turned_53 : decode cX7_turned 53 = .ok (.iadd, 1) := by decide +kernel
theorem dX7_turned_54 : decode cX7_turned 54 = .ok (.iaload, 1) := by decide +kernel
theorem dX7_turned_55 : decode cX7_turned 55 = .ok (.i2l, 1) := by decide +kernel
theorem dX7_turned_56 : decode cX7_turned 56 = .ok (.goto 16, 3) := by decide +kernel
theorem dX7_turned_59 : decode cX7_turned 59 = .ok (.aload_n 0, 1) := by decide +kernel
theorem dX7_turned_60 : decode cX7_turned 60 = .ok (.getfield 26, 3) := by decide +kernel
theorem dX7_turned_63 : decode cX7_turned 63 = .ok (.bipush 9, 2) := by decide +kernel
theorem dX7_turned_65 : decode cX7_turned 65 = .ok (.iload_n 1, 1) := by decide +kernel
theorem dX7_turned_66 : decode cX7_turned 66 = .ok (.imul, 1) := by decide +kernel
theorem dX7_turned_67 : decode cX7_turned 67 = .ok (.iload_n 3, 1) := by decide +kernel
theorem dX7_turned_68 : decode cX7_turned 68 = .ok (.iadd, 1) := by decide +kernel
theorem dX7_turned_69 : decode cX7_turned 69 = .ok (.iaload, 1) := by decide +kernel
theorem dX7_turned_70 : decode cX7_turned 70 = .ok (.ineg, 1) := by decide +kernel
theorem dX7_turned_71 : decode cX7_turned 71 = .ok (.i2l, 1) := by decide +kernel
theorem dX7_turned_72 : decode cX7_turned 72 = .ok (.lastore, 1) := by decide +kernel
theorem dX7_turned_73 : decode cX7_turned 73 = .ok (.iinc 3 1, 3) := by decide +kernel
theorem dX7_turned_76 : decode cX7_turned 76 = .ok (.goto (-48), 3) := by decide +kernel
theorem dX7_turned_79 : decode cX7_turned 79 = .ok (.aload_n 0, 1) := by decide +kernel
theorem dX7_turned_80 : decode cX7_turned 80 = .ok (.iconst 2, 1) := by decide +kernel
theorem dX7_turned_81 : decode cX7_turned 81 = .ok (.iload_n 2, 1) := by decide +kernel
theorem dX7_turned_82 : decode cX7_turned 82 = .ok (.iconst 2, 1) := by decide +kernel
theorem dX7_turned_83 : decode cX7_turned 83 = .ok (.if_icmp .ge 9, 3) := by decide +kernel
theorem dX7_turned_86 : decode cX7_turned 86 = .ok (.iconst 1, 1) := by decide +kernel
theorem dX7_turned_87 : decode cX7_turned 87 = .ok (.iload_n 2, 1) := by decide +kernel
theorem dX7_turned_88 : decode cX7_turned 88 = .ok (.isub, 1) := by decide +kernel
theorem dX7_turned_89 : decode cX7_turned 89 = .ok (.goto 6, 3) := by decide +kernel
theorem dX7_turned_92 : decode cX7_turned 92 = .ok (.iconst 5, 1) := by decide +kernel
theorem dX7_turned_93 : decode cX7_turned 93 = .ok (.iload_n 2, 1) := by decide +kernel
theorem dX7_turned_94 : decode cX7_turned 94 = .ok (.isub, 1) := by decide +kernel
theorem dX7_turned_95 : decode cX7_turned 95 = .ok (.iconst 0, 1) := by decide +kernel
theorem dX7_turned_96 : decode cX7_turned 96 = .ok (.invokevirtual 68, 3) := by decide +kernel
theorem dX7_turned_99 : decode cX7_turned 99 = .ok (.ireturn, 1) := by decide +kernel
theorem dX7_turned_100 : decode cX7_turned 100 = .ok (.aload_n 0, 1) := by decide +kernel
theorem dX7_turned_101 : decode cX7_turned 101 = .ok (.getfield 7, 3) := by decide +kernel
theorem dX7_turned_104 : decode cX7_turned 104 = .ok (.iload_n 1, 1) := by decide +kernel
theorem dX7_turned_105 : decode cX7_turned 105 = .ok (.iaload, 1) := by decide +kernel
theorem dX7_turned_106 : decode cX7_turned 106 = .ok (.iconst 5, 1) := by decide +kernel
theorem dX7_turned_107 : decode cX7_turned 107 = .ok (.if_icmp .lt 33, 3) := by decide +kernel
theorem dX7_turned_110 : decode cX7_turned 110 = .ok (.aload_n 0, 1) := by decide +kernel
theorem dX7_turned_111 : decode cX7_turned 111 = .ok (.bipush 11, 2) := by decide +kernel
theorem dX7_turned_113 : decode cX7_turned 113 = .ok (.aload_n 0, 1) := by decide +kernel
theorem dX7_turned_114 : decode cX7_turned 114 = .ok (.getfield 7, 3) := by decide +kernel
theorem dX7_turned_117 : decode cX7_turned 117 = .ok (.iload_n 1, 1) := by decide +kernel
theorem dX7_turned_118 : decode cX7_turned 118 = .ok (.iaload, 1) := by decide +kernel
theorem dX7_turned_119 : decode cX7_turned 119 = .ok (.isub, 1) := by decide +kernel
theorem dX7_turned_120 : decode cX7_turned 120 = .ok (.aload_n 0, 1) := by decide +kernel
theorem dX7_turned_121 : decode cX7_turned 121 = .ok (.getfield 13, 3) := by decide +kernel
theorem dX7_turned_124 : decode cX7_turned 124 = .ok (.iload_n 1, 1) := by decide +kernel
theorem dX7_turned_125 : decode cX7_turned 125 = .ok (.iaload, 1) := by decide +kernel
theorem dX7_turned_126 : decode cX7_turned 126 = .ok (.aload_n 0, 1) := by decide +kernel
theorem dX7_turned_127 : decode cX7_turned 127 = .ok (.aload_n 0, 1) := by decide +kernel
theorem dX7_turned_128 : decode cX7_turned 128 = .ok (.getfield 16, 3) := by decide +kernel
theorem dX7_turned_131 : decode cX7_turned 131 = .ok (.iload_n 1, 1) := by decide +kernel
theorem dX7_turned_132 : decode cX7_turned 132 = .ok (.iaload, 1) := by decide +kernel
theorem dX7_turned_133 : decode cX7_turned 133 = .ok (.invokevirtual 107, 3) := by decide +kernel
theorem dX7_turned_136 : decode cX7_turned 136 = .ok (.invokevirtual 68, 3) := by decide +kernel
theorem dX7_turned_139 : decode cX7_turned 139 = .ok (.ireturn, 1) := by decide +kernel
theorem dX7_turned_140 : decode cX7_turned 140 = .ok (.aload_n 0, 1) := by decide +kernel
theorem dX7_turned_141 : decode cX7_turned 141 = .ok (.aload_n 0, 1) := by decide +kernel
theorem dX7_turned_142 : decode cX7_turned 142 = .ok (.getfield 13, 3) := by decide +kernel
theorem dX7_turned_145 : decode cX7_turned 145 = .ok (.iload_n 1, 1) := by decide +kernel
theorem dX7_turned_146 : decode cX7_turned 146 = .ok (.iaload, 1) := by decide +kernel
theorem dX7_turned_147 : decode cX7_turned 147 = .ok (.invokevirtual 107, 3) := by decide +kernel
theorem dX7_turned_150 : decode cX7_turned 150 = .ok (.istore_n 2, 1) := by decide +kernel
theorem dX7_turned_151 : decode cX7_turned 151 = .ok (.aload_n 0, 1) := by decide +kernel
theorem dX7_turned_152 : decode cX7_turned 152 = .ok (.aload_n 0, 1) := by decide +kernel
theorem dX7_turned_153 : decode cX7_turned 153 = .ok (.getfield 16, 3) := by decide +kernel
theorem dX7_turned_156 : decode cX7_turned 156 = .ok (.iload_n 1, 1) := by decide +kernel
theorem dX7_turned_157 : decode cX7_turned 157 = .ok (.iaload, 1) := by decide +kernel
theorem dX7_turned_158 : decode cX7_turned 158 = .ok (.invokevirtual 107, 3) := by decide +kernel
theorem dX7_turned_161 : decode cX7_turned 161 = .ok (.istore_n 3, 1) := by decide +kernel
theorem dX7_turned_162 : decode cX7_turned 162 = .ok (.aload_n 0, 1) := by decide +kernel
theorem dX7_turned_163 : decode cX7_turned 163 = .ok (.aload_n 0, 1) := by decide +kernel
theorem dX7_turned_164 : decode cX7_turned 164 = .ok (.getfield 7, 3) := by decide +kernel
theorem dX7_turned_167 : decode cX7_turned 167 = .ok (.iload_n 1, 1) := by decide +kernel
theorem dX7_turned_168 : decode cX7_turned 168 = .ok (.iaload, 1) := by decide +kernel
theorem dX7_turned_169 : decode cX7_turned 169 = .ok (.iconst 4, 1) := by decide +kernel
theorem dX7_turned_170 : decode cX7_turned 170 = .ok (.if_icmp .ne 7, 3) := by decide +kernel
theorem dX7_turned_173 : decode cX7_turned 173 = .ok (.iconst 1, 1) := by decide +kernel
theorem dX7_turned_174 : decode cX7_turned 174 = .ok (.goto 4, 3) := by decide +kernel
theorem dX7_turned_177 : decode cX7_turned 177 = .ok (.iconst 0, 1) := by decide +kernel
theorem dX7_turned_178 : decode cX7_turned 178 = .ok (.iload_n 2, 1) := by decide +kernel
theorem dX7_turned_179 : decode cX7_turned 179 = .ok (.iload_n 3, 1) := by decide +kernel
theorem dX7_turned_180 : decode cX7_turned 180 = .ok (.invokevirtual 111, 3) := by decide +kernel
theorem dX7_turned_183 : decode cX7_turned 183 = .ok (.ireturn, 1) := by decide +kernel
theorem dX7_peek_0 : decode cX7_peek 0 = .ok (.aload_n 0, 1) := by decide +kernel
theorem dX7_peek_1 : decode cX7_peek 1 = .ok (.getfield 115, 3) := by decide +kernel
theorem dX7_peek_4 : decode cX7_peek 4 = .ok (.aload_n 0, 1) := by decide +kernel
theorem dX7_peek_5 : decode cX7_peek 5 = .ok (.getfield 118, 3) := by decide +kernel
theorem dX7_peek_8 : decode cX7_peek 8 = .ok (.if_icmp .ge 19, 3) := by decide +kernel
theorem dX7_peek_11 : decode cX7_peek 11 = .ok (.aload_n 0, 1) := by decide +kernel
theorem dX7_peek_12 : decode cX7_peek 12 = .ok (.getfield 39, 3) := by decide +kernel
theorem dX7_peek_15 : decode cX7_peek 15 = .ok (.aload_n 0, 1) := by decide +kernel
theorem dX7_peek_16 : decode cX7_peek 16 = .ok (.getfield 115, 3) := by decide +kernel
theorem dX7_peek_19 : decode cX7_peek 19 = .ok (.baload, 1) := by decide +kernel
theorem dX7_peek_20 : decode cX7_peek 20 = .ok (.sipush 255, 3) := by decide +kernel
theorem dX7_peek_23 : decode cX7_peek 23 = .ok (.iand, 1) := by decide +kernel
theorem dX7_peek_24 : decode cX7_peek 24 = .ok (.goto 4, 3) := by decide +kernel
theorem dX7_peek_27 : decode cX7_peek 27 = .ok (.iconst (-1), 1) := by decide +kernel
theorem dX7_peek_28 : decode cX7_peek 28 = .ok (.ireturn, 1) := by decide +kernel
theorem dX7_blanks_0 : decode cX7_blanks 0 = .ok (.aload_n 0, 1) := by decide +kernel
theorem dX7_blanks_1 : decode cX7_blanks 1 = .ok (.invokevirtual 121, 3) := by decide +kernel
theorem dX7_blanks_4 : decode cX7_blanks 4 = .ok (.bipush 32, 2) := by decide +kernel
theorem dX7_blanks_6 : decode cX7_blanks 6 = .ok (.if_icmp .ne 16, 3) := by decide +kernel
theorem dX7_blanks_9 : decode cX7_blanks 9 = .ok (.aload_n 0, 1) := by decide +kernel
theorem dX7_blanks_10 : decode cX7_blanks 10 = .ok (.dup, 1) := by decide +kernel
theorem dX7_blanks_11 : decode cX7_blanks 11 = .ok (.getfield 115, 3) := by decide +kernel
theorem dX7_blanks_14 : decode cX7_blanks 14 = .ok (.iconst 1, 1) := by decide +kernel
theorem dX7_blanks_15 : decode cX7_blanks 15 = .ok (.iadd, 1) := by decide +kernel
theorem dX7_blanks_16 : decode cX7_blanks 16 = .ok (.putfield 115, 3) := by decide +kernel
theorem dX7_blanks_19 : decode cX7_blanks 19 = .ok (.goto (-19), 3) := by decide +kernel
theorem dX7_blanks_22 : decode cX7_blanks 22 = .ok (.return_, 1) := by decide +kernel
theorem dX7_fail_0 : decode cX7_fail 0 = .ok (.aload_n 0, 1) := by decide +kernel
theorem dX7_fail_1 : decode cX7_fail 1 = .ok (.getfield 125, 3) := by decide +kernel
theorem dX7_fail_4 : decode cX7_fail 4 = .ok (.ifCond .ne 11, 3) := by decide +kernel
theorem dX7_fail_7 : decode cX7_fail 7 = .ok (.aload_n 0, 1) := by decide +kernel
theorem dX7_fail_8 : decode cX7_fail 8 = .ok (.aload_n 0, 1) := by decide +kernel
theorem dX7_fail_9 : decode cX7_fail 9 = .ok (.getfield 115, 3) := by decide +kernel
theorem dX7_fail_12 : decode cX7_fail 12 = .ok (.putfield 128, 3) := by decide +kernel
theorem dX7_fail_15 : decode cX7_fail 15 = .ok (.aload_n 0, 1) := by decide +kernel
theorem dX7_fail_16 : decode cX7_fail 16 = .ok (.iconst 1, 1) := by decide +kernel
theorem dX7_fail_17 : decode cX7_fail 17 = .ok (.putfield 125, 3) := by decide +kernel
theorem dX7_fail_20 : decode cX7_fail 20 = .ok (.iconst 0, 1) := by decide +kernel
theorem dX7_fail_21 : decode cX7_fail 21 = .ok (.ireturn, 1) := by decide +kernel
theorem dX7_isVariable_0 : decode cX7_isVariable 0 = .ok (.iload_n 0, 1) := by decide +kernel
theorem dX7_isVariable_1 : decode cX7_isVariable 1 = .ok (.bipush 97, 2) := by decide +kernel
theorem dX7_isVariable_3 : decode cX7_isVariable 3 = .ok (.if_icmp .lt 13, 3) := by decide +kernel
theorem dX7_isVariable_6 : decode cX7_isVariable 6 = .ok (.iload_n 0, 1) := by decide +kernel
theorem dX7_isVariable_7 : decode cX7_isVariable 7 = .ok (.bipush 104, 2) := by decide +kernel
theorem dX7_isVariable_9 : decode cX7_isVariable 9 = .ok (.if_icmp .gt 7, 3) := by decide +kernel
theorem dX7_isVariable_12 : decode cX7_isVariable 12 = .ok (.iconst 1, 1) := by decide +kernel
theorem dX7_isVariable_13 : decode cX7_isVariable 13 = .ok (.goto 4, 3) := by decide +kernel
theorem dX7_isVariable_16 : decode cX7_isVariable 16 = .ok (.iconst 0, 1) := by decide +kernel
theorem dX7_isVariable_17 : decode cX7_isVariable 17 = .ok (.ireturn, 1) := by decide +kernel
theorem dX7_isDigit_0 : decode cX7_isDigit 0 = .ok (.iload_n 0, 1) := by decide +kernel
theorem dX7_isDigit_1 : decode cX7_isDigit 1 = .ok (.bipush 48, 2) := by decide +kernel
theorem dX7_isDigit_3 : decode cX7_isDigit 3 = .ok (.if_icmp .lt 13, 3) := by decide +kernel
theorem dX7_isDigit_6 : decode cX7_isDigit 6 = .ok (.iload_n 0, 1) := by decide +kernel
theorem dX7_isDigit_7 : decode cX7_isDigit 7 = .ok (.bipush 57, 2) := by decide +kernel
theorem dX7_isDigit_9 : decode cX7_isDigit 9 = .ok (.if_icmp .gt 7, 3) := by decide +kernel
theorem dX7_isDigit_12 : decode cX7_isDigit 12 = .ok (.iconst 1, 1) := by decide +kernel
theorem dX7_isDigit_13 : decode cX7_isDigit 13 = .ok (.goto 4, 3) := by decide +kernel
theorem dX7_isDigit_16 : decode cX7_isDigit 16 = .ok (.iconst 0, 1) := by decide +kernel
theorem dX7_isDigit_17 : decode cX7_isDigit 17 = .ok (.ireturn, 1) := by decide +kernel
theorem dX7_formula_0 : decode cX7_formula 0 = .ok (.aload_n 0, 1) := by decide +kernel
theorem dX7_formula_1 : decode cX7_formula 1 = .ok (.invokevirtual 131, 3) := by decide +kernel
theorem dX7_formula_4 : decode cX7_formula 4 = .ok (.istore_n 1, 1) := by decide +kernel
theorem dX7_formula_5 : decode cX7_formula 5 = .ok (.aload_n 0, 1) := by decide +kernel
theorem dX7_formula_6 : decode cX7_formula 6 = .ok (.invokevirtual 134, 3) := by decide +kernel
theorem dX7_formula_9 : decode cX7_formula 9 = .ok (.aload_n 0, 1) := by decide +kernel
theorem dX7_formula_10 : decode cX7_formula 10 = .ok (.getfield 125, 3) := by decide +kernel
theorem dX7_formula_13 : decode cX7_formula 13 = .ok (.ifCond .ne 12, 3) := by decide +kernel
theorem dX7_formula_16 : decode cX7_formula 16 = .ok (.aload_n 0, 1) := by decide +kernel
theorem dX7_formula_17 : decode cX7_formula 17 = .ok (.invokevirtual 121, 3) := by decide +kernel
theorem dX7_formula_20 : decode cX7_formula 20 = .ok (.bipush 45, 2) := by decide +kernel
theorem dX7_formula_22 : decode cX7_formula 22 = .ok (.if_icmp .eq 5, 3) := by decide +kernel
theorem dX7_formula_25 : decode cX7_formula 25 = .ok (.iload_n 1, 1) := by decide +kernel
theorem dX7_formula_26 : decode cX7_formula 26 = .ok (.ireturn, 1) := by decide +kernel
theorem dX7_formula_27 : decode cX7_formula 27 = .ok (.aload_n 0, 1) := by decide +kernel
theorem dX7_formula_28 : decode cX7_formula 28 = .ok (.dup, 1) := by decide +kernel
theorem dX7_formula_29 : decode cX7_formula 29 = .ok (.getfield 115, 3) := by decide +kernel
theorem dX7_formula_32 : decode cX7_formula 32 = .ok (.iconst 1, 1) := by decide +kernel
theorem dX7_formula_33 : decode cX7_formula 33 = .ok (.iadd, 1) := by decide +kernel
theorem dX7_formula_34 : decode cX7_formula 34 = .ok (.putfield 115, 3) := by decide +kernel
theorem dX7_formula_37 : decode cX7_formula 37 = .ok (.aload_n 0, 1) := by decide +kernel
theorem dX7_formula_38 : decode cX7_formula 38 = .ok (.invokevirtual 121, 3) := by decide +kernel
theorem dX7_formula_41 : decode cX7_formula 41 = .ok (.bipush 62, 2) := by decide +kernel
theorem dX7_formula_43 : decode cX7_formula 43 = .ok (.if_icmp .eq 8, 3) := by decide +kernel
theorem dX7_formula_46 : decode cX7_formula 46 = .ok (.aload_n 0, 1) := by decide +kernel
theorem dX7_formula_47 : decode cX7_formula 47 = .ok (.invokevirtual 137, 3) := by decide +kernel
theorem dX7_formula_50 : decode cX7_formula 50 = .ok (.ireturn, 1) := by decide +kernel
theorem dX7_formula_51 : decode cX7_formula 51 = .ok (.aload_n 0, 1) := by decide +kernel
theorem dX7_formula_52 : decode cX7_formula 52 = .ok (.dup, 1) := by decide +kernel
theorem dX7_formula_53 : decode cX7_formula 53 = .ok (.getfield 115, 3) := by decide +kernel
theorem dX7_formula_56 : decode cX7_formula 56 = .ok (.iconst 1, 1) := by decide +kernel
theorem dX7_formula_57 : decode cX7_formula 57 = .ok (.iadd, 1) := by decide +kernel
theorem dX7_formula_58 : decode cX7_formula 58 = .ok (.putfield 115, 3) := by decide +kernel
theorem dX7_formula_61 : decode cX7_formula 61 = .ok (.aload_n 0, 1) := by decide +kernel
theorem dX7_formula_62 : decode cX7_formula 62 = .ok (.invokevirtual 140, 3) := by decide +kernel
theorem dX7_formula_65 : decode cX7_formula 65 = .ok (.istore_n 2, 1) := by decide +kernel
theorem dX7_formula_66 : decode cX7_formula 66 = .ok (.aload_n 0, 1) := by decide +kernel
theorem dX7_formula_67 : decode cX7_formula 67 = .ok (.getfield 125, 3) := by decide +kernel
theorem dX7_formula_70 : decode cX7_formula 70 = .ok (.ifCond .eq 7, 3) := by decide +kernel
theorem dX7_formula_73 : decode cX7_formula 73 = .ok (.iconst 0, 1) := by decide +kernel
theorem dX7_formula_74 : decode cX7_formula 74 = .ok (.goto 14, 3) := by decide +kernel
theorem dX7_formula_77 : decode cX7_formula 77 = .ok (.aload_n 0, 1) := by decide +kernel
theorem dX7_formula_78 : decode cX7_formula 78 = .ok (.iconst 0, 1) := by decide +kernel
theorem dX7_formula_79 : decode cX7_formula 79 = .ok (.aload_n 0, 1) := by decide +kernel
theorem dX7_formula_80 : decode cX7_formula 80 = .ok (.iload_n 1, 1) := by decide +kernel
theorem dX7_formula_81 : decode cX7_formula 81 = .ok (.invokevirtual 107, 3) := by decide +kernel
theorem dX7_formula_84 : decode cX7_formula 84 = .ok (.iload_n 2, 1) := by decide +kernel
theorem dX7_formula_85 : decode cX7_formula 85 = .ok (.invokevirtual 111, 3) := by decide +kernel
theorem dX7_formula_88 : decode cX7_formula 88 = .ok (.ireturn, 1) := by decide +kernel
theorem dX7_alternatives_0 : decode cX7_alternatives 0 = .ok (.aload_n 0, 1) := by decide +kernel
theorem dX7_alternatives_1 : decode cX7_alternatives 1 = .ok (.invokevirtual 143, 3) := by decide +kernel
theorem dX7_alternatives_4 : decode cX7_alternatives 4 = .ok (.istore_n 1, 1) := by decide +kernel
theorem dX7_alternatives_5 : decode cX7_alternatives 5 = .ok (.aload_n 0, 1) := by decide +kernel
theorem dX7_alternatives_6 : decode cX7_alternatives 6 = .ok (.invokevirtual 134, 3) := by decide +kernel
theorem dX7_alternatives_9 : decode cX7_alternatives 9 = .ok (.aload_n 0, 1) := by decide +kernel
theorem dX7_alternatives_10 : decode cX7_alternatives 10 = .ok (.getfield 125, 3) := by decide +kernel
theorem dX7_alternatives_13 : decode cX7_alternatives 13 = .ok (.ifCond .ne 53, 3) := by decide +kernel
theorem dX7_alternatives_16 : decode cX7_alternatives 16 = .ok (.aload_n 0, 1) := by decide +kernel
theorem dX7_alternatives_17 : decode cX7_alternatives 17 = .ok (.invokevirtual 121, 3) := by decide +kernel
theorem dX7_alternatives_20 : decode cX7_alternatives 20 = .ok (.bipush 124, 2) := by decide +kernel
theorem dX7_alternatives_22 : decode cX7_alternatives 22 = .ok (.if_icmp .ne 44, 3) := by decide +kernel
theorem dX7_alternatives_25 : decode cX7_alternatives 25 = .ok (.aload_n 0, 1) := by decide +kernel
theorem dX7_alternatives_26 : decode cX7_alternatives 26 = .ok (.dup, 1) := by decide +kernel
theorem dX7_alternatives_27 : decode cX7_alternatives 27 = .ok (.getfield 115, 3) := by decide +kernel
theorem dX7_alternatives_30 : decode cX7_alternatives 30 = .ok (.iconst 1, 1) := by decide +kernel
theorem dX7_alternatives_31 : decode cX7_alternatives 31 = .ok (.iadd, 1) := by decide +kernel
theorem dX7_alternatives_32 : decode cX7_alternatives 32 = .ok (.putfield 115, 3) := by decide +kernel
theorem dX7_alternatives_35 : decode cX7_alternatives 35 = .ok (.aload_n 0, 1) := by decide +kernel
theorem dX7_alternatives_36 : decode cX7_alternatives 36 = .ok (.invokevirtual 143, 3) := by decide +kernel
theorem dX7_alternatives_39 : decode cX7_alternatives 39 = .ok (.istore_n 2, 1) := by decide +kernel
theorem dX7_alternatives_40 : decode cX7_alternatives 40 = .ok (.aload_n 0, 1) := by decide +kernel
theorem dX7_alternatives_41 : decode cX7_alternatives 41 = .ok (.getfield 125, 3) := by decide +kernel
theorem dX7_alternatives_44 : decode cX7_alternatives 44 = .ok (.ifCond .eq 7, 3) := by decide +kernel
theorem dX7_alternatives_47 : decode cX7_alternatives 47 = .ok (.iconst 0, 1) := by decide +kernel
theorem dX7_alternatives_48 : decode cX7_alternatives 48 = .ok (.goto 10, 3) := by decide +kernel
theorem dX7_alternatives_51 : decode cX7_alternatives 51 = .ok (.aload_n 0, 1) := by decide +kernel
theorem dX7_alternatives_52 : decode cX7_alternatives 52 = .ok (.iconst 0, 1) := by decide +kernel
theorem dX7_alternatives_53 : decode cX7_alternatives 53 = .ok (.iload_n 1, 1) := by decide +kernel
theorem dX7_alternatives_54 : decode cX7_alternatives 54 = .ok (.iload_n 2, 1) := by decide +kernel
theorem dX7_alternatives_55 : decode cX7_alternatives 55 = .ok (.invokevirtual 111, 3) := by decide +kernel
theorem dX7_alternatives_58 : decode cX7_alternatives 58 = .ok (.istore_n 1, 1) := by decide +kernel
theorem dX7_alternatives_59 : decode cX7_alternatives 59 = .ok (.aload_n 0, 1) := by decide +kernel
theorem dX7_alternatives_60 : decode cX7_alternatives 60 = .ok (.invokevirtual 134, 3) := by decide +kernel
theorem dX7_alternatives_63 : decode cX7_alternatives 63 = .ok (.goto (-54), 3) := by decide +kernel
theorem dX7_alternatives_66 : decode cX7_alternatives 66 = .ok (.iload_n 1, 1) := by decide +kernel
theorem dX7_alternatives_67 : decode cX7_alternatives 67 = .ok (.ireturn, 1) := by decide +kernel
theorem dX7_conditions_0 : decode cX7_conditions 0 = .ok (.aload_n 0, 1) := by decide +kernel
theorem dX7_conditions_1 : decode cX7_conditions 1 = .ok (.invokevirtual 146, 3) := by decide +kernel
theorem dX7_conditions_4 : decode cX7_conditions 4 = .ok (.istore_n 1, 1) := by decide +kernel
theorem dX7_conditions_5 : decode cX7_conditions 5 = .ok (.aload_n 0, 1) := by decide +kernel
theorem dX7_conditions_6 : decode cX7_conditions 6 = .ok (.invokevirtual 134, 3) := by decide +kernel
theorem dX7_conditions_9 : decode cX7_conditions 9 = .ok (.aload_n 0, 1) := by decide +kernel
theorem dX7_conditions_10 : decode cX7_conditions 10 = .ok (.getfield 125, 3) := by decide +kernel
theorem dX7_conditions_13 : decode cX7_conditions 13 = .ok (.ifCond .ne 53, 3) := by decide +kernel
theorem dX7_conditions_16 : decode cX7_conditions 16 = .ok (.aload_n 0, 1) := by decide +kernel
theorem dX7_conditions_17 : decode cX7_conditions 17 = .ok (.invokevirtual 121, 3) := by decide +kernel
theorem dX7_conditions_20 : decode cX7_conditions 20 = .ok (.bipush 38, 2) := by decide +kernel
theorem dX7_conditions_22 : decode cX7_conditions 22 = .ok (.if_icmp .ne 44, 3) := by decide +kernel
theorem dX7_conditions_25 : decode cX7_conditions 25 = .ok (.aload_n 0, 1) := by decide +kernel
theorem dX7_conditions_26 : decode cX7_conditions 26 = .ok (.dup, 1) := by decide +kernel
theorem dX7_conditions_27 : decode cX7_conditions 27 = .ok (.getfield 115, 3) := by decide +kernel
theorem dX7_conditions_30 : decode cX7_conditions 30 = .ok (.iconst 1, 1) := by decide +kernel
theorem dX7_conditions_31 : decode cX7_conditions 31 = .ok (.iadd, 1) := by decide +kernel
theorem dX7_conditions_32 : decode cX7_conditions 32 = .ok (.putfield 115, 3) := by decide +kernel
theorem dX7_conditions_35 : decode cX7_conditions 35 = .ok (.aload_n 0, 1) := by decide +kernel
theorem dX7_conditions_36 : decode cX7_conditions 36 = .ok (.invokevirtual 146, 3) := by decide +kernel
theorem dX7_conditions_39 : decode cX7_conditions 39 = .ok (.istore_n 2, 1) := by decide +kernel
theorem dX7_conditions_40 : decode cX7_conditions 40 = .ok (.aload_n 0, 1) := by decide +kernel
theorem dX7_conditions_41 : decode cX7_conditions 41 = .ok (.getfield 125, 3) := by decide +kernel
theorem dX7_conditions_44 : decode cX7_conditions 44 = .ok (.ifCond .eq 7, 3) := by decide +kernel
theorem dX7_conditions_47 : decode cX7_conditions 47 = .ok (.iconst 0, 1) := by decide +kernel
theorem dX7_conditions_48 : decode cX7_conditions 48 = .ok (.goto 10, 3) := by decide +kernel
theorem dX7_conditions_51 : decode cX7_conditions 51 = .ok (.aload_n 0, 1) := by decide +kernel
theorem dX7_conditions_52 : decode cX7_conditions 52 = .ok (.iconst 1, 1) := by decide +kernel
theorem dX7_conditions_53 : decode cX7_conditions 53 = .ok (.iload_n 1, 1) := by decide +kernel
theorem dX7_conditions_54 : decode cX7_conditions 54 = .ok (.iload_n 2, 1) := by decide +kernel
theorem dX7_conditions_55 : decode cX7_conditions 55 = .ok (.invokevirtual 111, 3) := by decide +kernel
theorem dX7_conditions_58 : decode cX7_conditions 58 = .ok (.istore_n 1, 1) := by decide +kernel
theorem dX7_conditions_59 : decode cX7_conditions 59 = .ok (.aload_n 0, 1) := by decide +kernel
theorem dX7_conditions_60 : decode cX7_conditions 60 = .ok (.invokevirtual 134, 3) := by decide +kernel
theorem dX7_conditions_63 : decode cX7_conditions 63 = .ok (.goto (-54), 3) := by decide +kernel
theorem dX7_conditions_66 : decode cX7_conditions 66 = .ok (.iload_n 1, 1) := by decide +kernel
theorem dX7_conditions_67 : decode cX7_conditions 67 = .ok (.ireturn, 1) := by decide +kernel
theorem dX7_unit_0 : decode cX7_unit 0 = .ok (.aload_n 0, 1) := by decide +kernel
theorem dX7_unit_1 : decode cX7_unit 1 = .ok (.invokevirtual 134, 3) := by decide +kernel
theorem dX7_unit_4 : decode cX7_unit 4 = .ok (.aload_n 0, 1) := by decide +kernel
theorem dX7_unit_5 : decode cX7_unit 5 = .ok (.invokevirtual 121, 3) := by decide +kernel
theorem dX7_unit_8 : decode cX7_unit 8 = .ok (.istore_n 1, 1) := by decide +kernel
theorem dX7_unit_9 : decode cX7_unit 9 = .ok (.iload_n 1, 1) := by decide +kernel
theorem dX7_unit_10 : decode cX7_unit 10 = .ok (.bipush 84, 2) := by decide +kernel
theorem dX7_unit_12 : decode cX7_unit 12 = .ok (.if_icmp .eq 9, 3) := by decide +kernel
theorem dX7_unit_15 : decode cX7_unit 15 = .ok (.iload_n 1, 1) := by decide +kernel
theorem dX7_unit_16 : decode cX7_unit 16 = .ok (.bipush 70, 2) := by decide +kernel
theorem dX7_unit_18 : decode cX7_unit 18 = .ok (.if_icmp .ne 29, 3) := by decide +kernel
theorem dX7_unit_21 : decode cX7_unit 21 = .ok (.aload_n 0, 1) := by decide +kernel
theorem dX7_unit_22 : decode cX7_unit 22 = .ok (.dup, 1) := by decide +kernel
theorem dX7_unit_23 : decode cX7_unit 23 = .ok (.getfield 115, 3) := by decide +kernel
theorem dX7_unit_26 : decode cX7_unit 26 = .ok (.iconst 1, 1) := by decide +kernel
theorem dX7_unit_27 : decode cX7_unit 27 = .ok (.iadd, 1) := by decide +kernel
theorem dX7_unit_28 : decode cX7_unit 28 = .ok (.putfield 115, 3) := by decide +kernel
theorem dX7_unit_31 : decode cX7_unit 31 = .ok (.aload_n 0, 1) := by decide +kernel
theorem dX7_unit_32 : decode cX7_unit 32 = .ok (.iload_n 1, 1) := by decide +kernel
theorem dX7_unit_33 : decode cX7_unit 33 = .ok (.bipush 84, 2) := by decide +kernel
theorem dX7_unit_35 : decode cX7_unit 35 = .ok (.if_icmp .ne 7, 3) := by decide +kernel
theorem dX7_unit_38 : decode cX7_unit 38 = .ok (.iconst 1, 1) := by decide +kernel
theorem dX7_unit_39 : decode cX7_unit 39 = .ok (.goto 4, 3) := by decide +kernel
theorem dX7_unit_42 : decode cX7_unit 42 = .ok (.iconst 0, 1) := by decide +kernel
theorem dX7_unit_43 : decode cX7_unit 43 = .ok (.invokevirtual 95, 3) := by decide +kernel
theorem dX7_unit_46 : decode cX7_unit 46 = .ok (.ireturn, 1) := by decide +kernel
theorem dX7_unit_47 : decode cX7_unit 47 = .ok (.iload_n 1, 1) := by decide +kernel
theorem dX7_unit_48 : decode cX7_unit 48 = .ok (.bipush 33, 2) := by decide +kernel
theorem dX7_unit_50 : decode cX7_unit 50 = .ok (.if_icmp .eq 26, 3) := by decide +kernel
theorem dX7_unit_53 : decode cX7_unit 53 = .ok (.iload_n 1, 1) := by decide +kernel
theorem dX7_unit_54 : decode cX7_unit 54 = .ok (.bipush 69, 2) := by decide +kernel
theorem dX7_unit_56 : decode cX7_unit 56 = .ok (.if_icmp .eq 20, 3) := by decide +kernel
theorem dX7_unit_59 : decode cX7_unit 59 = .ok (.iload_n 1, 1) := by decide +kernel
theorem dX7_unit_60 : decode cX7_unit 60 = .ok (.bipush 65, 2) := by decide +kernel
theorem dX7_unit_62 : decode cX7_unit 62 = .ok (.if_icmp .eq 14, 3) := by decide +kernel
theorem dX7_unit_65 : decode cX7_unit 65 = .ok (.iload_n 1, 1) := by decide +kernel
theorem dX7_unit_66 : decode cX7_unit 66 = .ok (.bipush 40, 2) := by decide +kernel
theorem dX7_unit_68 : decode cX7_unit 68 = .ok (.if_icmp .eq 8, 3) := by decide +kernel
theorem dX7_unit_71 : decode cX7_unit 71 = .ok (.aload_n 0, 1) := by decide +kernel
theorem dX7_unit_72 : decode cX7_unit 72 = .ok (.invokevirtual 149, 3) := by decide +kernel
theorem dX7_unit_75 : decode cX7_unit 75 = .ok (.ireturn, 1) := by decide +kernel
theorem dX7_unit_76 : decode cX7_unit 76 = .ok (.aload_n 0, 1) := by decide +kernel
theorem dX7_unit_77 : decode cX7_unit 77 = .ok (.getfield 152, 3) := by decide +kernel
theorem dX7_unit_80 : decode cX7_unit 80 = .ok (.bipush 20, 2) := by decide +kernel
theorem dX7_unit_82 : decode cX7_unit 82 = .ok (.if_icmp .ne 8, 3) := by decide +kernel
theorem dX7_unit_85 : decode cX7_unit 85 = .ok (.aload_n 0, 1) := by decide +kernel
theorem dX7_unit_86 : decode cX7_unit 86 = .ok (.invokevirtual 137, 3) := by decide +kernel
theorem dX7_unit_89 : decode cX7_unit 89 = .ok (.ireturn, 1) := by decide +kernel
theorem dX7_unit_90 : decode cX7_unit 90 = .ok (.aload_n 0, 1) := by decide +kernel
theorem dX7_unit_91 : decode cX7_unit 91 = .ok (.dup, 1) := by decide +kernel
theorem dX7_unit_92 : decode cX7_unit 92 = .ok (.getfield 152, 3) := by decide +kernel
theorem dX7_unit_95 : decode cX7_unit 95 = .ok (.iconst 1, 1) := by decide +kernel
theorem dX7_unit_96 : decode cX7_unit 96 = .ok (.iadd, 1) := by decide +kernel
theorem dX7_unit_97 : decode cX7_unit 97 = .ok (.putfield 152, 3) := by decide +kernel
theorem dX7_unit_100 : decode cX7_unit 100 = .ok (.aload_n 0, 1) := by decide +kernel
theorem dX7_unit_101 : decode cX7_unit 101 = .ok (.dup, 1) := by decide +kernel
theorem dX7_unit_102 : decode cX7_unit 102 = .ok (.getfield 115, 3) := by decide +kernel
theorem dX7_unit_105 : decode cX7_unit 105 = .ok (.iconst 1, 1) := by decide +kernel
theorem dX7_unit_106 : decode cX7_unit 106 = .ok (.iadd, 1) := by decide +kernel
theorem dX7_unit_107 : decode cX7_unit 107 = .ok (.putfield 115, 3) := by decide +kernel
theorem dX7_unit_110 : decode cX7_unit 110 = .ok (.iload_n 1, 1) := by decide +kernel
theorem dX7_unit_111 : decode cX7_unit 111 = .ok (.bipush 33, 2) := by decide +kernel
theorem dX7_unit_113 : decode cX7_unit 113 = .ok (.if_icmp .ne 28, 3) := by decide +kernel
theorem dX7_unit_116 : decode cX7_unit 116 = .ok (.aload_n 0, 1) := by decide +kernel
theorem dX7_unit_117 : decode cX7_unit 117 = .ok (.invokevirtual 146, 3) := by decide +kernel
theorem dX7_unit_120 : decode cX7_unit 120 = .ok (.istore_n 2, 1) := by decide +kernel
theorem dX7_unit_121 : decode cX7_unit 121 = .ok (.aload_n 0, 1) := by decide +kernel
theorem dX7_unit_122 : decode cX7_unit 122 = .ok (.getfield 125, 3) := by decide +kernel
theorem dX7_unit_125 : decode cX7_unit 125 = .ok (.ifCond .eq 7, 3) := by decide +kernel
theorem dX7_unit_128 : decode cX7_unit 128 = .ok (.iconst 0, 1) := by decide +kernel
theorem dX7_unit_129 : decode cX7_unit 129 = .ok (.goto 8, 3) := by decide +kernel
theorem dX7_unit_132 : decode cX7_unit 132 = .ok (.aload_n 0, 1) := by decide +kernel
theorem dX7_unit_133 : decode cX7_unit 133 = .ok (.iload_n 2, 1) := by decide +kernel
theorem dX7_unit_134 : decode cX7_unit 134 = .ok (.invokevirtual 107, 3) := by decide +kernel
theorem dX7_unit_137 : decode cX7_unit 137 = .ok (.istore_n 2, 1) := by decide +kernel
theorem dX7_unit_138 : decode cX7_unit 138 = .ok (.goto 151, 3) := by decide +kernel
theorem dX7_unit_141 : decode cX7_unit 141 = .ok (.iload_n 1, 1) := by decide +kernel
theorem dX7_unit_142 : decode cX7_unit 142 = .ok (.bipush 40, 2) := by decide +kernel
theorem dX7_unit_144 : decode cX7_unit 144 = .ok (.if_icmp .ne 46, 3) := by decide +kernel
theorem dX7_unit_147 : decode cX7_unit 147 = .ok (.aload_n 0, 1) := by decide +kernel
theorem dX7_unit_148 : decode cX7_unit 148 = .ok (.invokevirtual 140, 3) := by decide +kernel
theorem dX7_unit_151 : decode cX7_unit 151 = .ok (.istore_n 2, 1) := by decide +kernel
theorem dX7_unit_152 : decode cX7_unit 152 = .ok (.aload_n 0, 1) := by decide +kernel
theorem dX7_unit_153 : decode cX7_unit 153 = .ok (.invokevirtual 134, 3) := by decide +kernel
theorem dX7_unit_156 : decode cX7_unit 156 = .ok (.aload_n 0, 1) := by decide +kernel
theorem dX7_unit_157 : decode cX7_unit 157 = .ok (.getfield 125, 3) := by decide +kernel
theorem dX7_unit_160 : decode cX7_unit 160 = .ok (.ifCond .ne 17, 3) := by decide +kernel
theorem dX7_unit_163 : decode cX7_unit 163 = .ok (.aload_n 0, 1) := by decide +kernel
theorem dX7_unit_164 : decode cX7_unit 164 = .ok (.invokevirtual 121, 3) := by decide +kernel
theorem dX7_unit_167 : decode cX7_unit 167 = .ok (.bipush 41, 2) := by decide +kernel
theorem dX7_unit_169 : decode cX7_unit 169 = .ok (.if_icmp .eq 8, 3) := by decide +kernel
theorem dX7_unit_172 : decode cX7_unit 172 = .ok (.aload_n 0, 1) := by decide +kernel
theorem dX7_unit_173 : decode cX7_unit 173 = .ok (.invokevirtual 137, 3) := by decide +kernel
theorem dX7_unit_176 : decode cX7_unit 176 = .ok (.ireturn, 1) := by decide +kernel
theorem dX7_unit_177 : decode cX7_unit 177 = .ok (.aload_n 0, 1) := by decide +kernel
theorem dX7_unit_178 : decode cX7_unit 178 = .ok (.dup, 1) := by decide +kernel
theorem dX7_unit_179 : decode cX7_unit 179 = .ok (.getfield 115, 3) := by decide +kernel
theorem dX7_unit_182 : decode cX7_unit 182 = .ok (.iconst 1, 1) := by decide +kernel
theorem dX7_unit_183 : decode cX7_unit 183 = .ok (.iadd, 1) := by decide +kernel
theorem dX7_unit_184 : decode cX7_unit 184 = .ok (.putfield 115, 3) := by decide +kernel
theorem dX7_unit_187 : decode cX7_unit 187 = .ok (.goto 102, 3) := by decide +kernel
theorem dX7_unit_190 : decode cX7_unit 190 = .ok (.aload_n 0, 1) := by decide +kernel
theorem dX7_unit_191 : decode cX7_unit 191 = .ok (.invokevirtual 134, 3) := by decide +kernel
theorem dX7_unit_194 : decode cX7_unit 194 = .ok (.aload_n 0, 1) := by decide +kernel
theorem dX7_unit_195 : decode cX7_unit 195 = .ok (.invokevirtual 121, 3) := by decide +kernel
theorem dX7_unit_198 : decode cX7_unit 198 = .ok (.bipush 97, 2) := by decide +kernel
theorem dX7_unit_200 : decode cX7_unit 200 = .ok (.isub, 1) := by decide +kernel
theorem dX7_unit_201 : decode cX7_unit 201 = .ok (.istore_n 3, 1) := by decide +kernel
theorem dX7_unit_202 : decode cX7_unit 202 = .ok (.aload_n 0, 1) := by decide +kernel
theorem dX7_unit_203 : decode cX7_unit 203 = .ok (.invokevirtual 121, 3) := by decide +kernel
theorem dX7_unit_206 : decode cX7_unit 206 = .ok (.invokestatic 155, 3) := by decide +kernel
theorem dX7_unit_209 : decode cX7_unit 209 = .ok (.ifCond .ne 8, 3) := by decide +kernel
theorem dX7_unit_212 : decode cX7_unit 212 = .ok (.aload_n 0, 1) := by decide +kernel
theorem dX7_unit_213 : decode cX7_unit 213 = .ok (.invokevirtual 137, 3) := by decide +kernel
theorem dX7_unit_216 : decode cX7_unit 216 = .ok (.ireturn, 1) := by decide +kernel
theorem dX7_unit_217 : decode cX7_unit 217 = .ok (.aload_n 0, 1) := by decide +kernel
theorem dX7_unit_218 : decode cX7_unit 218 = .ok (.dup, 1) := by decide +kernel
theorem dX7_unit_219 : decode cX7_unit 219 = .ok (.getfield 115, 3) := by decide +kernel
theorem dX7_unit_222 : decode cX7_unit 222 = .ok (.iconst 1, 1) := by decide +kernel
theorem dX7_unit_223 : decode cX7_unit 223 = .ok (.iadd, 1) := by decide +kernel
theorem dX7_unit_224 : decode cX7_unit 224 = .ok (.putfield 115, 3) := by decide +kernel
theorem dX7_unit_227 : decode cX7_unit 227 = .ok (.aload_n 0, 1) := by decide +kernel
theorem dX7_unit_228 : decode cX7_unit 228 = .ok (.invokevirtual 134, 3) := by decide +kernel
theorem dX7_unit_231 : decode cX7_unit 231 = .ok (.aload_n 0, 1) := by decide +kernel
theorem dX7_unit_232 : decode cX7_unit 232 = .ok (.invokevirtual 121, 3) := by decide +kernel
theorem dX7_unit_235 : decode cX7_unit 235 = .ok (.bipush 46, 2) := by decide +kernel
theorem dX7_unit_237 : decode cX7_unit 237 = .ok (.if_icmp .eq 8, 3) := by decide +kernel
theorem dX7_unit_240 : decode cX7_unit 240 = .ok (.aload_n 0, 1) := by decide +kernel
theorem dX7_unit_241 : decode cX7_unit 241 = .ok (.invokevirtual 137, 3) := by decide +kernel
theorem dX7_unit_244 : decode cX7_unit 244 = .ok (.ireturn, 1) := by decide +kernel
theorem dX7_unit_245 : decode cX7_unit 245 = .ok (.aload_n 0, 1) := by decide +kernel
theorem dX7_unit_246 : decode cX7_unit 246 = .ok (.dup, 1) := by decide +kernel
theorem dX7_unit_247 : decode cX7_unit 247 = .ok (.getfield 115, 3) := by decide +kernel
theorem dX7_unit_250 : decode cX7_unit 250 = .ok (.iconst 1, 1) := by decide +kernel
theorem dX7_unit_251 : decode cX7_unit 251 = .ok (.iadd, 1) := by decide +kernel
theorem dX7_unit_252 : decode cX7_unit 252 = .ok (.putfield 115, 3) := by decide +kernel
theorem dX7_unit_255 : decode cX7_unit 255 = .ok (.aload_n 0, 1) := by decide +kernel
theorem dX7_unit_256 : decode cX7_unit 256 = .ok (.invokevirtual 146, 3) := by decide +kernel
theorem dX7_unit_259 : decode cX7_unit 259 = .ok (.istore_n 2, 1) := by decide +kernel
theorem dX7_unit_260 : decode cX7_unit 260 = .ok (.aload_n 0, 1) := by decide +kernel
theorem dX7_unit_261 : decode cX7_unit 261 = .ok (.getfield 125, 3) := by decide +kernel
theorem dX7_unit_264 : decode cX7_unit 264 = .ok (.ifCond .eq 7, 3) := by decide +kernel
theorem dX7_unit_267 : decode cX7_unit 267 = .ok (.iconst 0, 1) := by decide +kernel
theorem dX7_unit_268 : decode cX7_unit 268 = .ok (.goto 20, 3) := by decide +kernel
theorem dX7_unit_271 : decode cX7_unit 271 = .ok (.aload_n 0, 1) := by decide +kernel
theorem dX7_unit_272 : decode cX7_unit 272 = .ok (.iload_n 1, 1) := by decide +kernel
theorem dX7_unit_273 : decode cX7_unit 273 = .ok (.bipush 69, 2) := by decide +kernel
theorem dX7_unit_275 : decode cX7_unit 275 = .ok (.if_icmp .ne 7, 3) := by decide +kernel
theorem dX7_unit_278 : decode cX7_unit 278 = .ok (.iconst 1, 1) := by decide +kernel
theorem dX7_unit_279 : decode cX7_unit 279 = .ok (.goto 4, 3) := by decide +kernel
theorem dX7_unit_282 : decode cX7_unit 282 = .ok (.iconst 0, 1) := by decide +kernel
theorem dX7_unit_283 : decode cX7_unit 283 = .ok (.iload_n 3, 1) := by decide +kernel
theorem dX7_unit_284 : decode cX7_unit 284 = .ok (.iload_n 2, 1) := by decide +kernel
theorem dX7_unit_285 : decode cX7_unit 285 = .ok (.invokevirtual 159, 3) := by decide +kernel
theorem dX7_unit_288 : decode cX7_unit 288 = .ok (.istore_n 2, 1) := by decide +kernel
theorem dX7_unit_289 : decode cX7_unit 289 = .ok (.aload_n 0, 1) := by decide +kernel
theorem dX7_unit_290 : decode cX7_unit 290 = .ok (.dup, 1) := by decide +kernel
theorem dX7_unit_291 : decode cX7_unit 291 = .ok (.getfield 152, 3) := by decide +kernel
theorem dX7_unit_294 : decode cX7_unit 294 = .ok (.iconst 1, 1) := by decide +kernel
theorem dX7_unit_295 : decode cX7_unit 295 = .ok (.isub, 1) := by decide +kernel
theorem dX7_unit_296 : decode cX7_unit 296 = .ok (.putfield 152, 3) := by decide +kernel
theorem dX7_unit_299 : decode cX7_unit 299 = .ok (.iload_n 2, 1) := by decide +kernel
theorem dX7_unit_300 : decode cX7_unit 300 = .ok (.ireturn, 1) := by decide +kernel
theorem dX7_relation_0 : decode cX7_relation 0 = .ok (.iconst 0, 1) := by decide +kernel
theorem dX7_relation_1 : decode cX7_relation 1 = .ok (.istore_n 1, 1) := by decide +kernel
theorem dX7_relation_2 : decode cX7_relation 2 = .ok (.iload_n 1, 1) := by decide +kernel
theorem dX7_relation_3 : decode cX7_relation 3 = .ok (.bipush 9, 2) := by decide +kernel
theorem dX7_relation_5 : decode cX7_relation 5 = .ok (.if_icmp .ge 16, 3) := by decide +kernel
theorem dX7_relation_8 : decode cX7_relation 8 = .ok (.aload_n 0, 1) := by decide +kernel
theorem dX7_relation_9 : decode cX7_relation 9 = .ok (.getfield 56, 3) := by decide +kernel
theorem dX7_relation_12 : decode cX7_relation 12 = .ok (.iload_n 1, 1) := by decide +kernel
theorem dX7_relation_13 : decode cX7_relation 13 = .ok (.lconst 0, 1) := by decide +kernel
theorem dX7_relation_14 : decode cX7_relation 14 = .ok (.lastore, 1) := by decide +kernel
theorem dX7_relation_15 : decode cX7_relation 15 = .ok (.iinc 1 1, 3) := by decide +kernel
theorem dX7_relation_18 : decode cX7_relation 18 = .ok (.goto (-16), 3) := by decide +kernel
theorem dX7_relation_21 : decode cX7_relation 21 = .ok (.aload_n 0, 1) := by decide +kernel
theorem dX7_relation_22 : decode cX7_relation 22 = .ok (.lconst 1, 1) := by decide +kernel
theorem dX7_relation_23 : decode cX7_relation 23 = .ok (.iconst 0, 1) := by decide +kernel
theorem dX7_relation_24 : decode cX7_relation 24 = .ok (.invokevirtual 162, 3) := by decide +kernel
theorem dX7_relation_27 : decode cX7_relation 27 = .ok (.aload_n 0, 1) := by decide +kernel
theorem dX7_relation_28 : decode cX7_relation 28 = .ok (.getfield 125, 3) := by decide +kernel
theorem dX7_relation_31 : decode cX7_relation 31 = .ok (.ifCond .eq 5, 3) := by decide +kernel
theorem dX7_relation_34 : decode cX7_relation 34 = .ok (.iconst 0, 1) := by decide +kernel
theorem dX7_relation_35 : decode cX7_relation 35 = .ok (.ireturn, 1) := by decide +kernel
theorem dX7_relation_36 : decode cX7_relation 36 = .ok (.aload_n 0, 1) := by decide +kernel
theorem dX7_relation_37 : decode cX7_relation 37 = .ok (.invokevirtual 134, 3) := by decide +kernel
theorem dX7_relation_40 : decode cX7_relation 40 = .ok (.aload_n 0, 1) := by decide +kernel
theorem dX7_relation_41 : decode cX7_relation 41 = .ok (.invokevirtual 121, 3) := by decide +kernel
theorem dX7_relation_44 : decode cX7_relation 44 = .ok (.istore_n 1, 1) := by decide +kernel
theorem dX7_relation_45 : decode cX7_relation 45 = .ok (.iload_n 1, 1) := by decide +kernel
theorem dX7_relation_46 : decode cX7_relation 46 = .ok (.bipush 60, 2) := by decide +kernel
theorem dX7_relation_48 : decode cX7_relation 48 = .ok (.if_icmp .eq 26, 3) := by decide +kernel
theorem dX7_relation_51 : decode cX7_relation 51 = .ok (.iload_n 1, 1) := by decide +kernel
theorem dX7_relation_52 : decode cX7_relation 52 = .ok (.bipush 61, 2) := by decide +kernel
theorem dX7_relation_54 : decode cX7_relation 54 = .ok (.if_icmp .eq 20, 3) := by decide +kernel
theorem dX7_relation_57 : decode cX7_relation 57 = .ok (.iload_n 1, 1) := by decide +kernel
theorem dX7_relation_58 : decode cX7_relation 58 = .ok (.bipush 33, 2) := by decide +kernel
theorem dX7_relation_60 : decode cX7_relation 60 = .ok (.if_icmp .eq 14, 3) := by decide +kernel
theorem dX7_relation_63 : decode cX7_relation 63 = .ok (.iload_n 1, 1) := by decide +kernel
theorem dX7_relation_64 : decode cX7_relation 64 = .ok (.bipush 62, 2) := by decide +kernel
theorem dX7_relation_66 : decode cX7_relation 66 = .ok (.if_icmp .eq 8, 3) := by decide +kernel
theorem dX7_relation_69 : decode cX7_relation 69 = .ok (.aload_n 0, 1) := by decide +kernel
theorem dX7_relation_70 : decode cX7_relation 70 = .ok (.invokevirtual 137, 3) := by decide +kernel
theorem dX7_relation_73 : decode cX7_relation 73 = .ok (.ireturn, 1) := by decide +kernel
theorem dX7_relation_74 : decode cX7_relation 74 = .ok (.aload_n 0, 1) := by decide +kernel
theorem dX7_relation_75 : decode cX7_relation 75 = .ok (.dup, 1) := by decide +kernel
theorem dX7_relation_76 : decode cX7_relation 76 = .ok (.getfield 115, 3) := by decide +kernel
theorem dX7_relation_79 : decode cX7_relation 79 = .ok (.iconst 1, 1) := by decide +kernel
theorem dX7_relation_80 : decode cX7_relation 80 = .ok (.iadd, 1) := by decide +kernel
theorem dX7_relation_81 : decode cX7_relation 81 = .ok (.putfield 115, 3) := by decide +kernel
theorem dX7_relation_84 : decode cX7_relation 84 = .ok (.aload_n 0, 1) := by decide +kernel
theorem dX7_relation_85 : decode cX7_relation 85 = .ok (.invokevirtual 121, 3) := by decide +kernel
theorem dX7_relation_88 : decode cX7_relation 88 = .ok (.bipush 61, 2) := by decide +kernel
theorem dX7_relation_90 : decode cX7_relation 90 = .ok (.if_icmp .ne 13, 3) := by decide +kernel
theorem dX7_relation_93 : decode cX7_relation 93 = .ok (.iload_n 1, 1) := by decide +kernel
theorem dX7_relation_94 : decode cX7_relation 94 = .ok (.bipush 61, 2) := by decide +kernel
theorem dX7_relation_96 : decode cX7_relation 96 = .ok (.if_icmp .eq 7, 3) := by decide +kernel
theorem dX7_relation_99 : decode cX7_relation 99 = .ok (.iconst 1, 1) := by decide +kernel
theorem dX7_relation_100 : decode cX7_relation 100 = .ok (.goto 4, 3) := by decide +kernel
theorem dX7_relation_103 : decode cX7_relation 103 = .ok (.iconst 0, 1) := by decide +kernel
theorem dX7_relation_104 : decode cX7_relation 104 = .ok (.istore_n 2, 1) := by decide +kernel
theorem dX7_relation_105 : decode cX7_relation 105 = .ok (.iload_n 1, 1) := by decide +kernel
theorem dX7_relation_106 : decode cX7_relation 106 = .ok (.bipush 33, 2) := by decide +kernel
theorem dX7_relation_108 : decode cX7_relation 108 = .ok (.if_icmp .ne 12, 3) := by decide +kernel
theorem dX7_relation_111 : decode cX7_relation 111 = .ok (.iload_n 2, 1) := by decide +kernel
theorem dX7_relation_112 : decode cX7_relation 112 = .ok (.ifCond .ne 8, 3) := by decide +kernel
theorem dX7_relation_115 : decode cX7_relation 115 = .ok (.aload_n 0, 1) := by decide +kernel
theorem dX7_relation_116 : decode cX7_relation 116 = .ok (.invokevirtual 137, 3) := by decide +kernel
theorem dX7_relation_119 : decode cX7_relation 119 = .ok (.ireturn, 1) := by decide +kernel
theorem dX7_relation_120 : decode cX7_relation 120 = .ok (.aload_n 0, 1) := by decide +kernel
theorem dX7_relation_121 : decode cX7_relation 121 = .ok (.dup, 1) := by decide +kernel
theorem dX7_relation_122 : decode cX7_relation 122 = .ok (.getfield 115, 3) := by decide +kernel
theorem dX7_relation_125 : decode cX7_relation 125 = .ok (.iload_n 2, 1) := by decide +kernel
theorem dX7_relation_126 : decode cX7_relation 126 = .ok (.ifCond .eq 7, 3) := by decide +kernel
theorem dX7_relation_129 : decode cX7_relation 129 = .ok (.iconst 1, 1) := by decide +kernel
theorem dX7_relation_130 : decode cX7_relation 130 = .ok (.goto 4, 3) := by decide +kernel
theorem dX7_relation_133 : decode cX7_relation 133 = .ok (.iconst 0, 1) := by decide +kernel
theorem dX7_relation_134 : decode cX7_relation 134 = .ok (.iadd, 1) := by decide +kernel
theorem dX7_relation_135 : decode cX7_relation 135 = .ok (.putfield 115, 3) := by decide +kernel
theorem dX7_relation_138 : decode cX7_relation 138 = .ok (.aload_n 0, 1) := by decide +kernel
theorem dX7_relation_139 : decode cX7_relation 139 = .ok (.ldc2_w 166, 3) := by decide +kernel
theorem dX7_relation_142 : decode cX7_relation 142 = .ok (.iconst 1, 1) := by decide +kernel
theorem dX7_relation_143 : decode cX7_relation 143 = .ok (.invokevirtual 162, 3) := by decide +kernel
theorem dX7_relation_146 : decode cX7_relation 146 = .ok (.aload_n 0, 1) := by decide +kernel
theorem dX7_relation_147 : decode cX7_relation 147 = .ok (.getfield 125, 3) := by decide +kernel
theorem dX7_relation_150 : decode cX7_relation 150 = .ok (.ifCond .eq 5, 3) := by decide +kernel
theorem dX7_relation_153 : decode cX7_relation 153 = .ok (.iconst 0, 1) := by decide +kernel
theorem dX7_relation_154 : decode cX7_relation 154 = .ok (.ireturn, 1) := by decide +kernel
theorem dX7_relation_155 : decode cX7_relation 155 = .ok (.iconst 0, 1) := by decide +kernel
theorem dX7_relation_156 : decode cX7_relation 156 = .ok (.istore_n 3, 1) := by decide +kernel
theorem dX7_relation_157 : decode cX7_relation 157 = .ok (.iload_n 3, 1) := by decide +kernel
theorem dX7_relation_158 : decode cX7_relation 158 = .ok (.bipush 9, 2) := by decide +kernel
theorem dX7_relation_160 : decode cX7_relation 160 = .ok (.if_icmp .ge 37, 3) := by decide +kernel
theorem dX7_relation_163 : decode cX7_relation 163 = .ok (.aload_n 0, 1) := by decide +kernel
theorem dX7_relation_164 : decode cX7_relation 164 = .ok (.getfield 52, 3) := by decide +kernel
theorem dX7_relation_167 : decode cX7_relation 167 = .ok (.iload_n 3, 1) := by decide +kernel
theorem dX7_relation_168 : decode cX7_relation 168 = .ok (.iload_n 1, 1) := by decide +kernel
theorem dX7_relation_169 : decode cX7_relation 169 = .ok (.bipush 62, 2) := by decide +kernel
theorem dX7_relation_171 : decode cX7_relation 171 = .ok (.if_icmp .ne 13, 3) := by decide +kernel
theorem dX7_relation_174 : decode cX7_relation 174 = .ok (.aload_n 0, 1) := by decide +kernel
theorem dX7_relation_175 : decode cX7_relation 175 = .ok (.getfield 56, 3) := by decide +kernel
theorem dX7_relation_178 : decode cX7_relation 178 = .ok (.iload_n 3, 1) := by decide +kernel
theorem dX7_relation_179 : decode cX7_relation 179 = .ok (.laload, 1) := by decide +kernel
theorem dX7_relation_180 : decode cX7_relation 180 = .ok (.lneg, 1) := by decide +kernel
theorem dX7_relation_181 : decode cX7_relation 181 = .ok (.goto 9, 3) := by decide +kernel
theorem dX7_relation_184 : decode cX7_relation 184 = .ok (.aload_n 0, 1) := by decide +kernel
theorem dX7_relation_185 : decode cX7_relation 185 = .ok (.getfield 56, 3) := by decide +kernel
theorem dX7_relation_188 : decode cX7_relation 188 = .ok (.iload_n 3, 1) := by decide +kernel
theorem dX7_relation_189 : decode cX7_relation 189 = .ok (.laload, 1) := by decide +kernel
theorem dX7_relation_190 : decode cX7_relation 190 = .ok (.lastore, 1) := by decide +kernel
theorem dX7_relation_191 : decode cX7_relation 191 = .ok (.iinc 3 1, 3) := by decide +kernel
theorem dX7_relation_194 : decode cX7_relation 194 = .ok (.goto (-37), 3) := by decide +kernel
theorem dX7_relation_197 : decode cX7_relation 197 = .ok (.aload_n 0, 1) := by decide +kernel
theorem dX7_relation_198 : decode cX7_relation 198 = .ok (.iload_n 1, 1) := by decide +kernel
theorem dX7_relation_199 : decode cX7_relation 199 = .ok (.bipush 61, 2) := by decide +kernel
theorem dX7_relation_201 : decode cX7_relation 201 = .ok (.if_icmp .ne 7, 3) := by decide +kernel
theorem dX7_relation_204 : decode cX7_relation 204 = .ok (.iconst 0, 1) := by decide +kernel
theorem dX7_relation_205 : decode cX7_relation 205 = .ok (.goto 22, 3) := by decide +kernel
theorem dX7_relation_208 : decode cX7_relation 208 = .ok (.iload_n 1, 1) := by decide +kernel
theorem dX7_relation_209 : decode cX7_relation 209 = .ok (.bipush 33, 2) := by decide +kernel
theorem dX7_relation_211 : decode cX7_relation 211 = .ok (.if_icmp .ne 7, 3) := by decide +kernel
theorem dX7_relation_214 : decode cX7_relation 214 = .ok (.iconst 1, 1) := by decide +kernel
theorem dX7_relation_215 : decode cX7_relation 215 = .ok (.goto 12, 3) := by decide +kernel
theorem dX7_relation_218 : decode cX7_relation 218 = .ok (.iload_n 2, 1) := by decide +kernel
theorem dX7_relation_219 : decode cX7_relation 219 = .ok (.ifCond .eq 7, 3) := by decide +kernel
theorem dX7_relation_222 : decode cX7_relation 222 = .ok (.iconst 3, 1) := by decide +kernel
theorem dX7_relation_223 : decode cX7_relation 223 = .ok (.goto 4, 3) := by decide +kernel
theorem dX7_relation_226 : decode cX7_relation 226 = .ok (.iconst 2, 1) := by decide +kernel
theorem dX7_relation_227 : decode cX7_relation 227 = .ok (.invokevirtual 168, 3) := by decide +kernel
theorem dX7_relation_230 : decode cX7_relation 230 = .ok (.ireturn, 1) := by decide +kernel
theorem dX7_side_0 : decode cX7_side 0 = .ok (.aload_n 0, 1) := by decide +kernel
theorem dX7_side_1 : decode cX7_side 1 = .ok (.invokevirtual 134, 3) := by decide +kernel
theorem dX7_side_4 : decode cX7_side 4 = .ok (.aload_n 0, 1) := by decide +kernel
theorem dX7_side_5 : decode cX7_side 5 = .ok (.invokevirtual 121, 3) := by decide +kernel
theorem dX7_side_8 : decode cX7_side 8 = .ok (.bipush 45, 2) := by decide +kernel
theorem dX7_side_10 : decode cX7_side 10 = .ok (.if_icmp .ne 7, 3) := by decide +kernel
theorem dX7_side_13 : decode cX7_side 13 = .ok (.iconst 1, 1) := by decide +kernel
theorem dX7_side_14 : decode cX7_side 14 = .ok (.goto 4, 3) := by decide +kernel
theorem dX7_side_17 : decode cX7_side 17 = .ok (.iconst 0, 1) := by decide +kernel
theorem dX7_side_18 : decode cX7_side 18 = .ok (.istore 4, 2) := by decide +kernel
theorem dX7_side_20 : decode cX7_side 20 = .ok (.aload_n 0, 1) := by decide +kernel
theorem dX7_side_21 : decode cX7_side 21 = .ok (.dup, 1) := by decide +kernel
theorem dX7_side_22 : decode cX7_side 22 = .ok (.getfield 115, 3) := by decide +kernel
theorem dX7_side_25 : decode cX7_side 25 = .ok (.iload 4, 2) := by decide +kernel
theorem dX7_side_27 : decode cX7_side 27 = .ok (.ifCond .eq 7, 3) := by decide +kernel
theorem dX7_side_30 : decode cX7_side 30 = .ok (.iconst 1, 1) := by decide +kernel
theorem dX7_side_31 : decode cX7_side 31 = .ok (.goto 4, 3) := by decide +kernel
theorem dX7_side_34 : decode cX7_side 34 = .ok (.iconst 0, 1) := by decide +kernel
theorem dX7_side_35 : decode cX7_side 35 = .ok (.iadd, 1) := by decide +kernel
theorem dX7_side_36 : decode cX7_side 36 = .ok (.putfield 115, 3) := by decide +kernel
theorem dX7_side_39 : decode cX7_side 39 = .ok (.aload_n 0, 1) := by decide +kernel
theorem dX7_side_40 : decode cX7_side 40 = .ok (.iload 4, 2) := by decide +kernel
theorem dX7_side_42 : decode cX7_side 42 = .ok (.ifCond .eq 8, 3) := by decide +kernel
theorem dX7_side_45 : decode cX7_side 45 = .ok (.lload_n 1, 1) := by decide +kernel
theorem dX7_side_46 : decode cX7_side 46 = .ok (.lneg, 1) := by decide +kernel
theorem dX7_side_47 : decode cX7_side 47 = .ok (.goto 4, 3) := by decide +kernel
theorem dX7_side_50 : decode cX7_side 50 = .ok (.lload_n 1, 1) := by decide +kernel
theorem dX7_side_51 : decode cX7_side 51 = .ok (.invokevirtual 171, 3) := by decide +kernel
theorem dX7_side_54 : decode cX7_side 54 = .ok (.aload_n 0, 1) := by decide +kernel
theorem dX7_side_55 : decode cX7_side 55 = .ok (.invokevirtual 134, 3) := by decide +kernel
theorem dX7_side_58 : decode cX7_side 58 = .ok (.aload_n 0, 1) := by decide +kernel
theorem dX7_side_59 : decode cX7_side 59 = .ok (.getfield 125, 3) := by decide +kernel
theorem dX7_side_62 : decode cX7_side 62 = .ok (.ifCond .ne 102, 3) := by decide +kernel
theorem dX7_side_65 : decode cX7_side 65 = .ok (.aload_n 0, 1) := by decide +kernel
theorem dX7_side_66 : decode cX7_side 66 = .ok (.invokevirtual 121, 3) := by decide +kernel
theorem dX7_side_69 : decode cX7_side 69 = .ok (.bipush 43, 2) := by decide +kernel
theorem dX7_side_71 : decode cX7_side 71 = .ok (.if_icmp .eq 45, 3) := by decide +kernel
theorem dX7_side_74 : decode cX7_side 74 = .ok (.aload_n 0, 1) := by decide +kernel
theorem dX7_side_75 : decode cX7_side 75 = .ok (.invokevirtual 121, 3) := by decide +kernel
theorem dX7_side_78 : decode cX7_side 78 = .ok (.bipush 45, 2) := by decide +kernel
theorem dX7_side_80 : decode cX7_side 80 = .ok (.if_icmp .ne 84, 3) := by decide +kernel
theorem dX7_side_83 : decode cX7_side 83 = .ok (.iload_n 3, 1) := by decide +kernel
theorem dX7_side_84 : decode cX7_side 84 = .ok (.ifCond .eq 32, 3) := by decide +kernel
theorem dX7_side_87 : decode cX7_side 87 = .ok (.aload_n 0, 1) := by decide +kernel
theorem dX7_side_88 : decode cX7_side 88 = .ok (.getfield 115, 3) := by decide +kernel
theorem dX7_side_91 : decode cX7_side 91 = .ok (.iconst 1, 1) := by decide +kernel
theorem dX7_side_92 : decode cX7_side 92 = .ok (.iadd, 1) := by decide +kernel
theorem dX7_side_93 : decode cX7_side 93 = .ok (.aload_n 0, 1) := by decide +kernel
theorem dX7_side_94 : decode cX7_side 94 = .ok (.getfield 118, 3) := by decide +kernel
theorem dX7_side_97 : decode cX7_side 97 = .ok (.if_icmp .ge 19, 3) := by decide +kernel
theorem dX7_side_100 : decode cX7_side 100 = .ok (.aload_n 0, 1) := by decide +kernel
theorem dX7_side_101 : decode cX7_side 101 = .ok (.getfield 39, 3) := by decide +kernel
theorem dX7_side_104 : decode cX7_side 104 = .ok (.aload_n 0, 1) := by decide +kernel
theorem dX7_side_105 : decode cX7_side 105 = .ok (.getfield 115, 3) := by decide +kernel
theorem dX7_side_108 : decode cX7_side 108 = .ok (.iconst 1, 1) := by decide +kernel
theorem dX7_side_109 : decode cX7_side 109 = .ok (.iadd, 1) := by decide +kernel
theorem dX7_side_110 : decode cX7_side 110 = .ok (.baload, 1) := by decide +kernel
theorem dX7_side_111 : decode cX7_side 111 = .ok (.bipush 62, 2) := by decide +kernel
theorem dX7_side_113 : decode cX7_side 113 = .ok (.if_icmp .eq 51, 3) := by decide +kernel
theorem dX7_side_116 : decode cX7_side 116 = .ok (.aload_n 0, 1) := by decide +kernel
theorem dX7_side_117 : decode cX7_side 117 = .ok (.invokevirtual 121, 3) := by decide +kernel
theorem dX7_side_120 : decode cX7_side 120 = .ok (.bipush 45, 2) := by decide +kernel
theorem dX7_side_122 : decode cX7_side 122 = .ok (.if_icmp .ne 7, 3) := by decide +kernel
theorem dX7_side_125 : decode cX7_side 125 = .ok (.iconst 1, 1) := by decide +kernel
theorem dX7_side_126 : decode cX7_side 126 = .ok (.goto 4, 3) := by decide +kernel
theorem dX7_side_129 : decode cX7_side 129 = .ok (.iconst 0, 1) := by decide +kernel
theorem dX7_side_130 : decode cX7_side 130 = .ok (.istore 4, 2) := by decide +kernel
theorem dX7_side_132 : decode cX7_side 132 = .ok (.aload_n 0, 1) := by decide +kernel
theorem dX7_side_133 : decode cX7_side 133 = .ok (.dup, 1) := by decide +kernel
theorem dX7_side_134 : decode cX7_side 134 = .ok (.getfield 115, 3) := by decide +kernel
theorem dX7_side_137 : decode cX7_side 137 = .ok (.iconst 1, 1) := by decide +kernel
theorem dX7_side_138 : decode cX7_side 138 = .ok (.iadd, 1) := by decide +kernel
theorem dX7_side_139 : decode cX7_side 139 = .ok (.putfield 115, 3) := by decide +kernel
theorem dX7_side_142 : decode cX7_side 142 = .ok (.aload_n 0, 1) := by decide +kernel
theorem dX7_side_143 : decode cX7_side 143 = .ok (.iload 4, 2) := by decide +kernel
theorem dX7_side_145 : decode cX7_side 145 = .ok (.ifCond .eq 8, 3) := by decide +kernel
theorem dX7_side_148 : decode cX7_side 148 = .ok (.lload_n 1, 1) := by decide +kernel
theorem dX7_side_149 : decode cX7_side 149 = .ok (.lneg, 1) := by decide +kernel
theorem dX7_side_150 : decode cX7_side 150 = .ok (.goto 4, 3) := by decide +kernel
theorem dX7_side_153 : decode cX7_side 153 = .ok (.lload_n 1, 1) := by decide +kernel
theorem dX7_side_154 : decode cX7_side 154 = .ok (.invokevirtual 171, 3) := by decide +kernel
theorem dX7_side_157 : decode cX7_side 157 = .ok (.aload_n 0, 1) := by decide +kernel
theorem dX7_side_158 : decode cX7_side 158 = .ok (.invokevirtual 134, 3) := by decide +kernel
theorem dX7_side_161 : decode cX7_side 161 = .ok (.goto (-103), 3) := by decide +kernel
theorem dX7_side_164 : decode cX7_side 164 = .ok (.return_, 1) := by decide +kernel
theorem dX7_item_0 : decode cX7_item 0 = .ok (.aload_n 0, 1) := by decide +kernel
theorem dX7_item_1 : decode cX7_item 1 = .ok (.invokevirtual 134, 3) := by decide +kernel
theorem dX7_item_4 : decode cX7_item 4 = .ok (.aload_n 0, 1) := by decide +kernel
theorem dX7_item_5 : decode cX7_item 5 = .ok (.invokevirtual 121, 3) := by decide +kernel
theorem dX7_item_8 : decode cX7_item 8 = .ok (.istore_n 3, 1) := by decide +kernel
theorem dX7_item_9 : decode cX7_item 9 = .ok (.iload_n 3, 1) := by decide +kernel
theorem dX7_item_10 : decode cX7_item 10 = .ok (.invokestatic 155, 3) := by decide +kernel
theorem dX7_item_13 : decode cX7_item 13 = .ok (.ifCond .eq 31, 3) := by decide +kernel
theorem dX7_item_16 : decode cX7_item 16 = .ok (.aload_n 0, 1) := by decide +kernel
theorem dX7_item_17 : decode cX7_item 17 = .ok (.getfield 56, 3) := by decide +kernel
theorem dX7_item_20 : decode cX7_item 20 = .ok (.iload_n 3, 1) := by decide +kernel
theorem dX7_item_21 : decode cX7_item 21 = .ok (.bipush 97, 2) := by decide +kernel
theorem dX7_item_23 : decode cX7_item 23 = .ok (.isub, 1) := by decide +kernel
theorem dX7_item_24 : decode cX7_item 24 = .ok (.dup2, 1) := by decide +kernel
theorem dX7_item_25 : decode cX7_item 25 = .ok (.laload, 1) := by decide +kernel
theorem dX7_item_26 : decode cX7_item 26 = .ok (.ldc2_w 175, 3) := by decide +kernel
theorem dX7_item_29 : decode cX7_item 29 = .ok (.lload_n 1, 1) := by decide +kernel
theorem dX7_item_30 : decode cX7_item 30 = .ok (.lmul, 1) := by decide +kernel
theorem dX7_item_31 : decode cX7_item 31 = .ok (.ladd, 1) := by decide +kernel
theorem dX7_item_32 : decode cX7_item 32 = .ok (.lastore, 1) := by decide +kernel
theorem dX7_item_33 : decode cX7_item 33 = .ok (.aload_n 0, 1) := by decide +kernel
theorem dX7_item_34 : decode cX7_item 34 = .ok (.dup, 1) := by decide +kernel
theorem dX7_item_35 : decode cX7_item 35 = .ok (.getfield 115, 3) := by decide +kernel
theorem dX7_item_38 : decode cX7_item 38 = .ok (.iconst 1, 1) := by decide +kernel
theorem dX7_item_39 : decode cX7_item 39 = .ok (.iadd, 1) := by decide +kernel
theorem dX7_item_40 : decode cX7_item 40 = .ok (.putfield 115, 3) := by decide +kernel
theorem dX7_item_43 : decode cX7_item 43 = .ok (.return_, 1) := by decide +kernel
theorem dX7_item_44 : decode cX7_item 44 = .ok (.iload_n 3, 1) := by decide +kernel
theorem dX7_item_45 : decode cX7_item 45 = .ok (.invokestatic 177, 3) := by decide +kernel
theorem dX7_item_48 : decode cX7_item 48 = .ok (.ifCond .ne 10, 3) := by decide +kernel
theorem dX7_item_51 : decode cX7_item 51 = .ok (.aload_n 0, 1) := by decide +kernel
theorem dX7_item_52 : decode cX7_item 52 = .ok (.invokevirtual 137, 3) := by decide +kernel
theorem dX7_item_55 : decode cX7_item 55 = .ok (.istore 4, 2) := by decide +kernel
theorem dX7_item_57 : decode cX7_item 57 = .ok (.return_, 1) := by decide +kernel
theorem dX7_item_58 : decode cX7_item 58 = .ok (.lconst 0, 1) := by decide +kernel
theorem dX7_item_59 : decode cX7_item 59 = .ok (.lstore 4, 2) := by decide +kernel
theorem dX7_item_61 : decode cX7_item 61 = .ok (.iconst 0, 1) := by decide +kernel
theorem dX7_item_62 : decode cX7_item 62 = .ok (.istore 6, 2) := by decide +kernel
theorem dX7_item_64 : decode cX7_item 64 = .ok (.aload_n 0, 1) := by decide +kernel
theorem dX7_item_65 : decode cX7_item 65 = .ok (.invokevirtual 121, 3) := by decide +kernel
theorem dX7_item_68 : decode cX7_item 68 = .ok (.invokestatic 177, 3) := by decide +kernel
theorem dX7_item_71 : decode cX7_item 71 = .ok (.ifCond .eq 43, 3) := by decide +kernel
theorem dX7_item_74 : decode cX7_item 74 = .ok (.iload 6, 2) := by decide +kernel
theorem dX7_item_76 : decode cX7_item 76 = .ok (.iconst 4, 1) := by decide +kernel
theorem dX7_item_77 : decode cX7_item 77 = .ok (.if_icmp .ge 37, 3) := by decide +kernel
theorem dX7_item_80 : decode cX7_item 80 = .ok (.ldc2_w 180, 3) := by decide +kernel
theorem dX7_item_83 : decode cX7_item 83 = .ok (.lload 4, 2) := by decide +kernel
theorem dX7_item_85 : decode cX7_item 85 = .ok (.lmul, 1) := by decide +kernel
theorem dX7_item_86 : decode cX7_item 86 = .ok (.aload_n 0, 1) := by decide +kernel
theorem dX7_item_87 : decode cX7_item 87 = .ok (.invokevirtual 121, 3) := by decide +kernel
theorem dX7_item_90 : decode cX7_item 90 = .ok (.i2l, 1) := by decide +kernel
theorem dX7_item_91 : decode cX7_item 91 = .ok (.ladd, 1) := by decide +kernel
theorem dX7_item_92 : decode cX7_item 92 = .ok (.ldc2_w 182, 3) := by decide +kernel
theorem dX7_item_95 : decode cX7_item 95 = .ok (.lsub, 1) := by decide +kernel
theorem dX7_item_96 : decode cX7_item 96 = .ok (.lstore 4, 2) := by decide +kernel
theorem dX7_item_98 : decode cX7_item 98 = .ok (.iinc 6 1, 3) := by decide +kernel
theorem dX7_item_101 : decode cX7_item 101 = .ok (.aload_n 0, 1) := by decide +kernel
theorem dX7_item_102 : decode cX7_item 102 = .ok (.dup, 1) := by decide +kernel
theorem dX7_item_103 : decode cX7_item 103 = .ok (.getfield 115, 3) := by decide +kernel
theorem dX7_item_106 : decode cX7_item 106 = .ok (.iconst 1, 1) := by decide +kernel
theorem dX7_item_107 : decode cX7_item 107 = .ok (.iadd, 1) := by decide +kernel
theorem dX7_item_108 : decode cX7_item 108 = .ok (.putfield 115, 3) := by decide +kernel
theorem dX7_item_111 : decode cX7_item 111 = .ok (.goto (-47), 3) := by decide +kernel
theorem dX7_item_114 : decode cX7_item 114 = .ok (.lconst 1, 1) := by decide +kernel
theorem dX7_item_115 : decode cX7_item 115 = .ok (.lstore 7, 2) := by decide +kernel
theorem dX7_item_117 : decode cX7_item 117 = .ok (.aload_n 0, 1) := by decide +kernel
theorem dX7_item_118 : decode cX7_item 118 = .ok (.invokevirtual 121, 3) := by decide +kernel
theorem dX7_item_121 : decode cX7_item 121 = .ok (.bipush 47, 2) := by decide +kernel
theorem dX7_item_123 : decode cX7_item 123 = .ok (.if_icmp .ne 118, 3) := by decide +kernel
theorem dX7_item_126 : decode cX7_item 126 = .ok (.aload_n 0, 1) := by decide +kernel
theorem dX7_item_127 : decode cX7_item 127 = .ok (.dup, 1) := by decide +kernel
theorem dX7_item_128 : decode cX7_item 128 = .ok (.getfield 115, 3) := by decide +kernel
theorem dX7_item_131 : decode cX7_item 131 = .ok (.iconst 1, 1) := by decide +kernel
theorem dX7_item_132 : decode cX7_item 132 = .ok (.iadd, 1) := by decide +kernel
theorem dX7_item_133 : decode cX7_item 133 = .ok (.putfield 115, 3) := by decide +kernel
theorem dX7_item_136 : decode cX7_item 136 = .ok (.aload_n 0, 1) := by decide +kernel
theorem dX7_item_137 : decode cX7_item 137 = .ok (.invokevirtual 121, 3) := by decide +kernel
theorem dX7_item_140 : decode cX7_item 140 = .ok (.invokestatic 177, 3) := by decide +kernel
theorem dX7_item_143 : decode cX7_item 143 = .ok (.ifCond .eq 12, 3) := by decide +kernel
theorem dX7_item_146 : decode cX7_item 146 = .ok (.aload_n 0, 1) := by decide +kernel
theorem dX7_item_147 : decode cX7_item 147 = .ok (.invokevirtual 121, 3) := by decide +kernel
theorem dX7_item_150 : decode cX7_item 150 = .ok (.bipush 48, 2) := by decide +kernel
theorem dX7_item_152 : decode cX7_item 152 = .ok (.if_icmp .ne 10, 3) := by decide +kernel
theorem dX7_item_155 : decode cX7_item 155 = .ok (.aload_n 0, 1) := by decide +kernel
theorem dX7_item_156 : decode cX7_item 156 = .ok (.invokevirtual 137, 3) := by decide +kernel
theorem dX7_item_159 : decode cX7_item 159 = .ok (.istore 9, 2) := by decide +kernel
theorem dX7_item_161 : decode cX7_item 161 = .ok (.return_, 1) := by decide +kernel
theorem dX7_item_162 : decode cX7_item 162 = .ok (.aload_n 0, 1) := by decide +kernel
theorem dX7_item_163 : decode cX7_item 163 = .ok (.invokevirtual 121, 3) := by decide +kernel
theorem dX7_item_166 : decode cX7_item 166 = .ok (.bipush 48, 2) := by decide +kernel
theorem dX7_item_168 : decode cX7_item 168 = .ok (.isub, 1) := by decide +kernel
theorem dX7_item_169 : decode cX7_item 169 = .ok (.i2l, 1) := by decide +kernel
theorem dX7_item_170 : decode cX7_item 170 = .ok (.lstore 7, 2) := by decide +kernel
theorem dX7_item_172 : decode cX7_item 172 = .ok (.aload_n 0, 1) := by decide +kernel
theorem dX7_item_173 : decode cX7_item 173 = .ok (.dup, 1) := by decide +kernel
theorem dX7_item_174 : decode cX7_item 174 = .ok (.getfield 115, 3) := by decide +kernel
theorem dX7_item_177 : decode cX7_item 177 = .ok (.iconst 1, 1) := by decide +kernel
theorem dX7_item_178 : decode cX7_item 178 = .ok (.iadd, 1) := by decide +kernel
theorem dX7_item_179 : decode cX7_item 179 = .ok (.putfield 115, 3) := by decide +kernel
theorem dX7_item_182 : decode cX7_item 182 = .ok (.lload 7, 2) := by decide +kernel
theorem dX7_item_184 : decode cX7_item 184 = .ok (.lconst 1, 1) := by decide +kernel
theorem dX7_item_185 : decode cX7_item 185 = .ok (.lcmp, 1) := by decide +kernel
theorem dX7_item_186 : decode cX7_item 186 = .ok (.ifCond .ne 55, 3) := by decide +kernel
theorem dX7_item_189 : decode cX7_item 189 = .ok (.aload_n 0, 1) := by decide +kernel
theorem dX7_item_190 : decode cX7_item 190 = .ok (.invokevirtual 121, 3) := by decide +kernel
theorem dX7_item_193 : decode cX7_item 193 = .ok (.bipush 48, 2) := by decide +kernel
theorem dX7_item_195 : decode cX7_item 195 = .ok (.if_icmp .eq 21, 3) := by decide +kernel
theorem dX7_item_198 : decode cX7_item 198 = .ok (.aload_n 0, 1) := by decide +kernel
theorem dX7_item_199 : decode cX7_item 199 = .ok (.invokevirtual 121, 3) := by decide +kernel
theorem dX7_item_202 : decode cX7_item 202 = .ok (.bipush 49, 2) := by decide +kernel
theorem dX7_item_204 : decode cX7_item 204 = .ok (.if_icmp .eq 12, 3) := by decide +kernel
theorem dX7_item_207 : decode cX7_item 207 = .ok (.aload_n 0, 1) := by decide +kernel
theorem dX7_item_208 : decode cX7_item 208 = .ok (.invokevirtual 121, 3) := by decide +kernel
theorem dX7_item_211 : decode cX7_item 211 = .ok (.bipush 50, 2) := by decide +kernel
theorem dX7_item_213 : decode cX7_item 213 = .ok (.if_icmp .ne 28, 3) := by decide +kernel
theorem dX7_item_216 : decode cX7_item 216 = .ok (.ldc2_w 180, 3) := by decide +kernel
theorem dX7_item_219 : decode cX7_item 219 = .ok (.aload_n 0, 1) := by decide +kernel
theorem dX7_item_220 : decode cX7_item 220 = .ok (.invokevirtual 121, 3) := by decide +kernel
theorem dX7_item_223 : decode cX7_item 223 = .ok (.i2l, 1) := by decide +kernel
theorem dX7_item_224 : decode cX7_item 224 = .ok (.ladd, 1) := by decide +kernel
theorem dX7_item_225 : decode cX7_item 225 = .ok (.ldc2_w 182, 3) := by decide +kernel
theorem dX7_item_228 : decode cX7_item 228 = .ok (.lsub, 1) := by decide +kernel
theorem dX7_item_229 : decode cX7_item 229 = .ok (.lstore 7, 2) := by decide +kernel
theorem dX7_item_231 : decode cX7_item 231 = .ok (.aload_n 0, 1) := by decide +kernel
theorem dX7_item_232 : decode cX7_item 232 = .ok (.dup, 1) := by decide +kernel
theorem dX7_item_233 : decode cX7_item 233 = .ok (.getfield 115, 3) := by decide +kernel
theorem dX7_item_236 : decode cX7_item 236 = .ok (.iconst 1, 1) := by decide +kernel
theorem dX7_item_237 : decode cX7_item 237 = .ok (.iadd, 1) := by decide +kernel
theorem dX7_item_238 : decode cX7_item 238 = .ok (.putfield 115, 3) := by decide +kernel
theorem dX7_item_241 : decode cX7_item 241 = .ok (.aload_n 0, 1) := by decide +kernel
theorem dX7_item_242 : decode cX7_item 242 = .ok (.invokevirtual 121, 3) := by decide +kernel
theorem dX7_item_245 : decode cX7_item 245 = .ok (.invokestatic 177, 3) := by decide +kernel
theorem dX7_item_248 : decode cX7_item 248 = .ok (.ifCond .eq 10, 3) := by decide +kernel
theorem dX7_item_251 : decode cX7_item 251 = .ok (.aload_n 0, 1) := by decide +kernel
theorem dX7_item_252 : decode cX7_item 252 = .ok (.invokevirtual 137, 3) := by decide +kernel
theorem dX7_item_255 : decode cX7_item 255 = .ok (.istore 9, 2) := by decide +kernel
theorem dX7_item_257 : decode cX7_item 257 = .ok (.return_, 1) := by decide +kernel
theorem dX7_item_258 : decode cX7_item 258 = .ok (.lload 4, 2) := by decide +kernel
theorem dX7_item_260 : decode cX7_item 260 = .ok (.ldc2_w 175, 3) := by decide +kernel
theorem dX7_item_263 : decode cX7_item 263 = .ok (.lload 7, 2) := by decide +kernel
theorem dX7_item_265 : decode cX7_item 265 = .ok (.ldiv, 1) := by decide +kernel
theorem dX7_item_266 : decode cX7_item 266 = .ok (.lmul, 1) := by decide +kernel
theorem dX7_item_267 : decode cX7_item 267 = .ok (.lload_n 1, 1) := by decide +kernel
theorem dX7_item_268 : decode cX7_item 268 = .ok (.lmul, 1) := by decide +kernel
theorem dX7_item_269 : decode cX7_item 269 = .ok (.lstore 9, 2) := by decide +kernel
theorem dX7_item_271 : decode cX7_item 271 = .ok (.aload_n 0, 1) := by decide +kernel
theorem dX7_item_272 : decode cX7_item 272 = .ok (.invokevirtual 134, 3) := by decide +kernel
theorem dX7_item_275 : decode cX7_item 275 = .ok (.aload_n 0, 1) := by decide +kernel
theorem dX7_item_276 : decode cX7_item 276 = .ok (.invokevirtual 121, 3) := by decide +kernel
theorem dX7_item_279 : decode cX7_item 279 = .ok (.invokestatic 155, 3) := by decide +kernel
theorem dX7_item_282 : decode cX7_item 282 = .ok (.ifCond .eq 33, 3) := by decide +kernel
theorem dX7_item_285 : decode cX7_item 285 = .ok (.aload_n 0, 1) := by decide +kernel
theorem dX7_item_286 : decode cX7_item 286 = .ok (.getfield 56, 3) := by decide +kernel
theorem dX7_item_289 : decode cX7_item 289 = .ok (.aload_n 0, 1) := by decide +kernel
theorem dX7_item_290 : decode cX7_item 290 = .ok (.invokevirtual 121, 3) := by decide +kernel
theorem dX7_item_293 : decode cX7_item 293 = .ok (.bipush 97, 2) := by decide +kernel
theorem dX7_item_295 : decode cX7_item 295 = .ok (.isub, 1) := by decide +kernel
theorem dX7_item_296 : decode cX7_item 296 = .ok (.dup2, 1) := by decide +kernel
theorem dX7_item_297 : decode cX7_item 297 = .ok (.laload, 1) := by decide +kernel
theorem dX7_item_298 : decode cX7_item 298 = .ok (.lload 9, 2) := by decide +kernel
theorem dX7_item_300 : decode cX7_item 300 = .ok (.ladd, 1) := by decide +kernel
theorem dX7_item_301 : decode cX7_item 301 = .ok (.lastore, 1) := by decide +kernel
theorem dX7_item_302 : decode cX7_item 302 = .ok (.aload_n 0, 1) := by decide +kernel
theorem dX7_item_303 : decode cX7_item 303 = .ok (.dup, 1) := by decide +kernel
theorem dX7_item_304 : decode cX7_item 304 = .ok (.getfield 115, 3) := by decide +kernel
theorem dX7_item_307 : decode cX7_item 307 = .ok (.iconst 1, 1) := by decide +kernel
theorem dX7_item_308 : decode cX7_item 308 = .ok (.iadd, 1) := by decide +kernel
theorem dX7_item_309 : decode cX7_item 309 = .ok (.putfield 115, 3) := by decide +kernel
theorem dX7_item_312 : decode cX7_item 312 = .ok (.goto 15, 3) := by decide +kernel
theorem dX7_item_315 : decode cX7_item 315 = .ok (.aload_n 0, 1) := by decide +kernel
theorem dX7_item_316 : decode cX7_item 316 = .ok (.getfield 56, 3) := by decide +kernel
theorem dX7_item_319 : decode cX7_item 319 = .ok (.bipush 8, 2) := by decide +kernel
theorem dX7_item_321 : decode cX7_item 321 = .ok (.dup2, 1) := by decide +kernel
theorem dX7_item_322 : decode cX7_item 322 = .ok (.laload, 1) := by decide +kernel
theorem dX7_item_323 : decode cX7_item 323 = .ok (.lload 9, 2) := by decide +kernel
theorem dX7_item_325 : decode cX7_item 325 = .ok (.ladd, 1) := by decide +kernel
theorem dX7_item_326 : decode cX7_item 326 = .ok (.lastore, 1) := by decide +kernel
theorem dX7_item_327 : decode cX7_item 327 = .ok (.return_, 1) := by decide +kernel
theorem dX7_read_0 : decode cX7_read 0 = .ok (.aload_n 0, 1) := by decide +kernel
theorem dX7_read_1 : decode cX7_read 1 = .ok (.iconst 0, 1) := by decide +kernel
theorem dX7_read_2 : decode cX7_read 2 = .ok (.putfield 76, 3) := by decide +kernel
theorem dX7_read_5 : decode cX7_read 5 = .ok (.aload_n 0, 1) := by decide +kernel
theorem dX7_read_6 : decode cX7_read 6 = .ok (.invokevirtual 88, 3) := by decide +kernel
theorem dX7_read_9 : decode cX7_read 9 = .ok (.aload_n 0, 1) := by decide +kernel
theorem dX7_read_10 : decode cX7_read 10 = .ok (.iconst 0, 1) := by decide +kernel
theorem dX7_read_11 : decode cX7_read 11 = .ok (.putfield 115, 3) := by decide +kernel
theorem dX7_read_14 : decode cX7_read 14 = .ok (.aload_n 0, 1) := by decide +kernel
theorem dX7_read_15 : decode cX7_read 15 = .ok (.iconst 0, 1) := by decide +kernel
theorem dX7_read_16 : decode cX7_read 16 = .ok (.putfield 152, 3) := by decide +kernel
theorem dX7_read_19 : decode cX7_read 19 = .ok (.aload_n 0, 1) := by decide +kernel
theorem dX7_read_20 : decode cX7_read 20 = .ok (.iconst 0, 1) := by decide +kernel
theorem dX7_read_21 : decode cX7_read 21 = .ok (.putfield 125, 3) := by decide +kernel
theorem dX7_read_24 : decode cX7_read 24 = .ok (.aload_n 0, 1) := by decide +kernel
theorem dX7_read_25 : decode cX7_read 25 = .ok (.iconst 0, 1) := by decide +kernel
theorem dX7_read_26 : decode cX7_read 26 = .ok (.putfield 99, 3) := by decide +kernel
theorem dX7_read_29 : decode cX7_read 29 = .ok (.aload_n 0, 1) := by decide +kernel
theorem dX7_read_30 : decode cX7_read 30 = .ok (.invokevirtual 140, 3) := by decide +kernel
theorem dX7_read_33 : decode cX7_read 33 = .ok (.istore_n 1, 1) := by decide +kernel
theorem dX7_read_34 : decode cX7_read 34 = .ok (.aload_n 0, 1) := by decide +kernel
theorem dX7_read_35 : decode cX7_read 35 = .ok (.invokevirtual 134, 3) := by decide +kernel
theorem dX7_read_38 : decode cX7_read 38 = .ok (.aload_n 0, 1) := by decide +kernel
theorem dX7_read_39 : decode cX7_read 39 = .ok (.getfield 125, 3) := by decide +kernel
theorem dX7_read_42 : decode cX7_read 42 = .ok (.ifCond .ne 19, 3) := by decide +kernel
theorem dX7_read_45 : decode cX7_read 45 = .ok (.aload_n 0, 1) := by decide +kernel
theorem dX7_read_46 : decode cX7_read 46 = .ok (.getfield 115, 3) := by decide +kernel
theorem dX7_read_49 : decode cX7_read 49 = .ok (.aload_n 0, 1) := by decide +kernel
theorem dX7_read_50 : decode cX7_read 50 = .ok (.getfield 118, 3) := by decide +kernel
theorem dX7_read_53 : decode cX7_read 53 = .ok (.if_icmp .ge 8, 3) := by decide +kernel
theorem dX7_read_56 : decode cX7_read 56 = .ok (.aload_n 0, 1) := by decide +kernel
theorem dX7_read_57 : decode cX7_read 57 = .ok (.invokevirtual 137, 3) := by decide +kernel
theorem dX7_read_60 : decode cX7_read 60 = .ok (.istore_n 2, 1) := by decide +kernel
theorem dX7_read_61 : decode cX7_read 61 = .ok (.aload_n 0, 1) := by decide +kernel
theorem dX7_read_62 : decode cX7_read 62 = .ok (.getfield 125, 3) := by decide +kernel
theorem dX7_read_65 : decode cX7_read 65 = .ok (.ifCond .eq 8, 3) := by decide +kernel
theorem dX7_read_68 : decode cX7_read 68 = .ok (.aload_n 0, 1) := by decide +kernel
theorem dX7_read_69 : decode cX7_read 69 = .ok (.getfield 128, 3) := by decide +kernel
theorem dX7_read_72 : decode cX7_read 72 = .ok (.ireturn, 1) := by decide +kernel
theorem dX7_read_73 : decode cX7_read 73 = .ok (.aload_n 0, 1) := by decide +kernel
theorem dX7_read_74 : decode cX7_read 74 = .ok (.getfield 99, 3) := by decide +kernel
theorem dX7_read_77 : decode cX7_read 77 = .ok (.ifCond .eq 6, 3) := by decide +kernel
theorem dX7_read_80 : decode cX7_read 80 = .ok (.bipush (-2), 2) := by decide +kernel
theorem dX7_read_82 : decode cX7_read 82 = .ok (.ireturn, 1) := by decide +kernel
theorem dX7_read_83 : decode cX7_read 83 = .ok (.aload_n 0, 1) := by decide +kernel
theorem dX7_read_84 : decode cX7_read 84 = .ok (.getfield 33, 3) := by decide +kernel
theorem dX7_read_87 : decode cX7_read 87 = .ok (.iconst 0, 1) := by decide +kernel
theorem dX7_read_88 : decode cX7_read 88 = .ok (.iload_n 1, 1) := by decide +kernel
theorem dX7_read_89 : decode cX7_read 89 = .ok (.iastore, 1) := by decide +kernel
theorem dX7_read_90 : decode cX7_read 90 = .ok (.iconst (-1), 1) := by decide +kernel
theorem dX7_read_91 : decode cX7_read 91 = .ok (.ireturn, 1) := by decide +kernel
theorem dX7_type_0 : decode cX7_type 0 = .ok (.aload_n 0, 1) := by decide +kernel
theorem dX7_type_1 : decode cX7_type 1 = .ok (.iload_n 3, 1) := by decide +kernel
theorem dX7_type_2 : decode cX7_type 2 = .ok (.ifCond .lt 9, 3) := by decide +kernel
theorem dX7_type_5 : decode cX7_type 5 = .ok (.iload_n 3, 1) := by decide +kernel
theorem dX7_type_6 : decode cX7_type 6 = .ok (.bipush 8, 2) := by decide +kernel
theorem dX7_type_8 : decode cX7_type 8 = .ok (.if_icmp .le 7, 3) := by decide +kernel
theorem dX7_type_11 : decode cX7_type 11 = .ok (.iconst 1, 1) := by decide +kernel
theorem dX7_type_12 : decode cX7_type 12 = .ok (.goto 20, 3) := by decide +kernel
theorem dX7_type_15 : decode cX7_type 15 = .ok (.aload_n 0, 1) := by decide +kernel
theorem dX7_type_16 : decode cX7_type 16 = .ok (.getfield 118, 3) := by decide +kernel
theorem dX7_type_19 : decode cX7_type 19 = .ok (.iload_n 3, 1) := by decide +kernel
theorem dX7_type_20 : decode cX7_type 20 = .ok (.iadd, 1) := by decide +kernel
theorem dX7_type_21 : decode cX7_type 21 = .ok (.sipush 240, 3) := by decide +kernel
theorem dX7_type_24 : decode cX7_type 24 = .ok (.if_icmp .le 7, 3) := by decide +kernel
theorem dX7_type_27 : decode cX7_type 27 = .ok (.iconst 2, 1) := by decide +kernel
theorem dX7_type_28 : decode cX7_type 28 = .ok (.goto 4, 3) := by decide +kernel
theorem dX7_type_31 : decode cX7_type 31 = .ok (.iconst 0, 1) := by decide +kernel
theorem dX7_type_32 : decode cX7_type 32 = .ok (.putfield 76, 3) := by decide +kernel
theorem dX7_type_35 : decode cX7_type 35 = .ok (.aload_n 0, 1) := by decide +kernel
theorem dX7_type_36 : decode cX7_type 36 = .ok (.getfield 76, 3) := by decide +kernel
theorem dX7_type_39 : decode cX7_type 39 = .ok (.ifCond .le 5, 3) := by decide +kernel
theorem dX7_type_42 : decode cX7_type 42 = .ok (.iconst 0, 1) := by decide +kernel
theorem dX7_type_43 : decode cX7_type 43 = .ok (.ireturn, 1) := by decide +kernel
theorem dX7_type_44 : decode cX7_type 44 = .ok (.iconst 0, 1) := by decide +kernel
theorem dX7_type_45 : decode cX7_type 45 = .ok (.istore 4, 2) := by decide +kernel
theorem dX7_type_47 : decode cX7_type 47 = .ok (.iload 4, 2) := by decide +kernel
theorem dX7_type_49 : decode cX7_type 49 = .ok (.iload_n 3, 1) := by decide +kernel
theorem dX7_type_50 : decode cX7_type 50 = .ok (.if_icmp .ge 37, 3) := by decide +kernel
theorem dX7_type_53 : decode cX7_type 53 = .ok (.aload_n 0, 1) := by decide +kernel
theorem dX7_type_54 : decode cX7_type 54 = .ok (.getfield 39, 3) := by decide +kernel
theorem dX7_type_57 : decode cX7_type 57 = .ok (.aload_n 0, 1) := by decide +kernel
theorem dX7_type_58 : decode cX7_type 58 = .ok (.getfield 118, 3) := by decide +kernel
theorem dX7_type_61 : decode cX7_type 61 = .ok (.lload_n 1, 1) := by decide +kernel
theorem dX7_type_62 : decode cX7_type 62 = .ok (.bipush 8, 2) := by decide +kernel
theorem dX7_type_64 : decode cX7_type 64 = .ok (.iload 4, 2) := by decide +kernel
theorem dX7_type_66 : decode cX7_type 66 = .ok (.imul, 1) := by decide +kernel
theorem dX7_type_67 : decode cX7_type 67 = .ok (.lshr, 1) := by decide +kernel
theorem dX7_type_68 : decode cX7_type 68 = .ok (.l2i, 1) := by decide +kernel
theorem dX7_type_69 : decode cX7_type 69 = .ok (.i2b, 1) := by decide +kernel
theorem dX7_type_70 : decode cX7_type 70 = .ok (.bastore, 1) := by decide +kernel
theorem dX7_type_71 : decode cX7_type 71 = .ok (.aload_n 0, 1) := by decide +kernel
theorem dX7_type_72 : decode cX7_type 72 = .ok (.dup, 1) := by decide +kernel
theorem dX7_type_73 : decode cX7_type 73 = .ok (.getfield 118, 3) := by decide +kernel
theorem dX7_type_76 : decode cX7_type 76 = .ok (.iconst 1, 1) := by decide +kernel
theorem dX7_type_77 : decode cX7_type 77 = .ok (.iadd, 1) := by decide +kernel
theorem dX7_type_78 : decode cX7_type 78 = .ok (.putfield 118, 3) := by decide +kernel
theorem dX7_type_81 : decode cX7_type 81 = .ok (.iinc 4 1, 3) := by decide +kernel
theorem dX7_type_84 : decode cX7_type 84 = .ok (.goto (-37), 3) := by decide +kernel
theorem dX7_type_87 : decode cX7_type 87 = .ok (.aload_n 0, 1) := by decide +kernel
theorem dX7_type_88 : decode cX7_type 88 = .ok (.getfield 118, 3) := by decide +kernel
theorem dX7_type_91 : decode cX7_type 91 = .ok (.ireturn, 1) := by decide +kernel
theorem dX7_clear_0 : decode cX7_clear 0 = .ok (.aload_n 0, 1) := by decide +kernel
theorem dX7_clear_1 : decode cX7_clear 1 = .ok (.iconst 0, 1) := by decide +kernel
theorem dX7_clear_2 : decode cX7_clear 2 = .ok (.putfield 76, 3) := by decide +kernel
theorem dX7_clear_5 : decode cX7_clear 5 = .ok (.aload_n 0, 1) := by decide +kernel
theorem dX7_clear_6 : decode cX7_clear 6 = .ok (.getfield 118, 3) := by decide +kernel
theorem dX7_clear_9 : decode cX7_clear 9 = .ok (.istore_n 1, 1) := by decide +kernel
theorem dX7_clear_10 : decode cX7_clear 10 = .ok (.aload_n 0, 1) := by decide +kernel
theorem dX7_clear_11 : decode cX7_clear 11 = .ok (.iconst 0, 1) := by decide +kernel
theorem dX7_clear_12 : decode cX7_clear 12 = .ok (.putfield 118, 3) := by decide +kernel
theorem dX7_clear_15 : decode cX7_clear 15 = .ok (.iload_n 1, 1) := by decide +kernel
theorem dX7_clear_16 : decode cX7_clear 16 = .ok (.ireturn, 1) := by decide +kernel
theorem dX7_free_0 : decode cX7_free 0 = .ok (.aload_n 0, 1) := by decide +kernel
theorem dX7_free_1 : decode cX7_free 1 = .ok (.iconst 0, 1) := by decide +kernel
theorem dX7_free_2 : decode cX7_free 2 = .ok (.putfield 76, 3) := by decide +kernel
theorem dX7_free_5 : decode cX7_free 5 = .ok (.aload_n 0, 1) := by decide +kernel
theorem dX7_free_6 : decode cX7_free 6 = .ok (.getfield 22, 3) := by decide +kernel
theorem dX7_free_9 : decode cX7_free 9 = .ok (.aload_n 0, 1) := by decide +kernel
theorem dX7_free_10 : decode cX7_free 10 = .ok (.getfield 33, 3) := by decide +kernel
theorem dX7_free_13 : decode cX7_free 13 = .ok (.iconst 0, 1) := by decide +kernel
theorem dX7_free_14 : decode cX7_free 14 = .ok (.iaload, 1) := by decide +kernel
theorem dX7_free_15 : decode cX7_free 15 = .ok (.iaload, 1) := by decide +kernel
theorem dX7_free_16 : decode cX7_free 16 = .ok (.ireturn, 1) := by decide +kernel
theorem dX7_put_0 : decode cX7_put 0 = .ok (.aload_n 0, 1) := by decide +kernel
theorem dX7_put_1 : decode cX7_put 1 = .ok (.getfield 26, 3) := by decide +kernel
theorem dX7_put_4 : decode cX7_put 4 = .ok (.bipush 9, 2) := by decide +kernel
theorem dX7_put_6 : decode cX7_put 6 = .ok (.iload_n 1, 1) := by decide +kernel
theorem dX7_put_7 : decode cX7_put 7 = .ok (.imul, 1) := by decide +kernel
theorem dX7_put_8 : decode cX7_put 8 = .ok (.aload_n 0, 1) := by decide +kernel
theorem dX7_put_9 : decode cX7_put 9 = .ok (.getfield 184, 3) := by decide +kernel
theorem dX7_put_12 : decode cX7_put 12 = .ok (.iadd, 1) := by decide +kernel
theorem dX7_put_13 : decode cX7_put 13 = .ok (.iaload, 1) := by decide +kernel
theorem dX7_put_14 : decode cX7_put 14 = .ok (.istore_n 2, 1) := by decide +kernel
theorem dX7_put_15 : decode cX7_put 15 = .ok (.aload_n 0, 1) := by decide +kernel
theorem dX7_put_16 : decode cX7_put 16 = .ok (.getfield 13, 3) := by decide +kernel
theorem dX7_put_19 : decode cX7_put 19 = .ok (.iload_n 1, 1) := by decide +kernel
theorem dX7_put_20 : decode cX7_put 20 = .ok (.iaload, 1) := by decide +kernel
theorem dX7_put_21 : decode cX7_put 21 = .ok (.istore_n 3, 1) := by decide +kernel
theorem dX7_put_22 : decode cX7_put 22 = .ok (.aload_n 0, 1) := by decide +kernel
theorem dX7_put_23 : decode cX7_put 23 = .ok (.getfield 187, 3) := by decide +kernel
theorem dX7_put_26 : decode cX7_put 26 = .ok (.iconst 1, 1) := by decide +kernel
theorem dX7_put_27 : decode cX7_put 27 = .ok (.if_icmp .eq 23, 3) := by decide +kernel
theorem dX7_put_30 : decode cX7_put 30 = .ok (.iload_n 3, 1) := by decide +kernel
theorem dX7_put_31 : decode cX7_put 31 = .ok (.iconst 2, 1) := by decide +kernel
theorem dX7_put_32 : decode cX7_put 32 = .ok (.if_icmp .ge 18, 3) := by decide +kernel
theorem dX7_put_35 : decode cX7_put 35 = .ok (.aload_n 0, 1) := by decide +kernel
theorem dX7_put_36 : decode cX7_put 36 = .ok (.iload_n 3, 1) := by decide +kernel
theorem dX7_put_37 : decode cX7_put 37 = .ok (.iconst 1, 1) := by decide +kernel
theorem dX7_put_38 : decode cX7_put 38 = .ok (.if_icmp .ne 7, 3) := by decide +kernel
theorem dX7_put_41 : decode cX7_put 41 = .ok (.iconst 1, 1) := by decide +kernel
theorem dX7_put_42 : decode cX7_put 42 = .ok (.goto 4, 3) := by decide +kernel
theorem dX7_put_45 : decode cX7_put 45 = .ok (.iconst 0, 1) := by decide +kernel
theorem dX7_put_46 : decode cX7_put 46 = .ok (.invokevirtual 95, 3) := by decide +kernel
theorem dX7_put_49 : decode cX7_put 49 = .ok (.ireturn, 1) := by decide +kernel
theorem dX7_put_50 : decode cX7_put 50 = .ok (.aload_n 0, 1) := by decide +kernel
theorem dX7_put_51 : decode cX7_put 51 = .ok (.getfield 187, 3) := by decide +kernel
theorem dX7_put_54 : decode cX7_put 54 = .ok (.ifCond .ne 17, 3) := by decide +kernel
theorem dX7_put_57 : decode cX7_put 57 = .ok (.aload_n 0, 1) := by decide +kernel
theorem dX7_put_58 : decode cX7_put 58 = .ok (.iload_n 2, 1) := by decide +kernel
theorem dX7_put_59 : decode cX7_put 59 = .ok (.ifCond .le 7, 3) := by decide +kernel
theorem dX7_put_62 : decode cX7_put 62 = .ok (.iconst 1, 1) := by decide +kernel
theorem dX7_put_63 : decode cX7_put 63 = .ok (.goto 4, 3) := by decide +kernel
theorem dX7_put_66 : decode cX7_put 66 = .ok (.iconst 0, 1) := by decide +kernel
theorem dX7_put_67 : decode cX7_put 67 = .ok (.invokevirtual 95, 3) := by decide +kernel
theorem dX7_put_70 : decode cX7_put 70 = .ok (.ireturn, 1) := by decide +kernel
theorem dX7_put_71 : decode cX7_put 71 = .ok (.iconst 0, 1) := by decide +kernel
theorem dX7_put_72 : decode cX7_put 72 = .ok (.istore 4, 2) := by decide +kernel
theorem dX7_put_74 : decode cX7_put 74 = .ok (.iload 4, 2) := by decide +kernel
theorem dX7_put_76 : decode cX7_put 76 = .ok (.bipush 9, 2) := by decide +kernel
theorem dX7_put_78 : decode cX7_put 78 = .ok (.if_icmp .ge 58, 3) := by decide +kernel
theorem dX7_put_81 : decode cX7_put 81 = .ok (.aload_n 0, 1) := by decide +kernel
theorem dX7_put_82 : decode cX7_put 82 = .ok (.getfield 52, 3) := by decide +kernel
theorem dX7_put_85 : decode cX7_put 85 = .ok (.iload 4, 2) := by decide +kernel
theorem dX7_put_87 : decode cX7_put 87 = .ok (.iload 4, 2) := by decide +kernel
theorem dX7_put_89 : decode cX7_put 89 = .ok (.aload_n 0, 1) := by decide +kernel
theorem dX7_put_90 : decode cX7_put 90 = .ok (.getfield 184, 3) := by decide +kernel
theorem dX7_put_93 : decode cX7_put 93 = .ok (.if_icmp .ne 7, 3) := by decide +kernel
theorem dX7_put_96 : decode cX7_put 96 = .ok (.lconst 0, 1) := by decide +kernel
theorem dX7_put_97 : decode cX7_put 97 = .ok (.goto 32, 3) := by decide +kernel
theorem dX7_put_100 : decode cX7_put 100 = .ok (.aload_n 0, 1) := by decide +kernel
theorem dX7_put_101 : decode cX7_put 101 = .ok (.getfield 190, 3) := by decide +kernel
theorem dX7_put_104 : decode cX7_put 104 = .ok (.aload_n 0, 1) := by decide +kernel
theorem dX7_put_105 : decode cX7_put 105 = .ok (.getfield 26, 3) := by decide +kernel
theorem dX7_put_108 : decode cX7_put 108 = .ok (.bipush 9, 2) := by decide +kernel
theorem dX7_put_110 : decode cX7_put 110 = .ok (.iload_n 1, 1) := by decide +kernel
theorem dX7_put_111 : decode cX7_put 111 = .ok (.imul, 1) := by decide +kernel
theorem dX7_put_112 : decode cX7_put 112 = .ok (.iload 4, 2) := by decide +kernel
theorem dX7_put_114 : decode cX7_put 114 = .ok (.iadd, 1) := by decide +kernel
theorem dX7_put_115 : decode cX7_put 115 = .ok (.iaload, 1) := by decide +kernel
theorem dX7_put_116 : decode cX7_put 116 = .ok (.i2l, 1) := by decide +kernel
theorem dX7_put_117 : decode cX7_put 117 = .ok (.lmul, 1) := by decide +kernel
theorem dX7_put_118 : decode cX7_put 118 = .ok (.iload_n 2, 1) := by decide +kernel
theorem dX7_put_119 : decode cX7_put 119 = .ok (.i2l, 1) := by decide +kernel
theorem dX7_put_120 : decode cX7_put 120 = .ok (.aload_n 0, 1) := by decide +kernel
theorem dX7_put_121 : decode cX7_put 121 = .ok (.getfield 59, 3) := by decide +kernel
theorem dX7_put_124 : decode cX7_put 124 = .ok (.iload 4, 2) := by decide +kernel
theorem dX7_put_126 : decode cX7_put 126 = .ok (.laload, 1) := by decide +kernel
theorem dX7_put_127 : decode cX7_put 127 = .ok (.lmul, 1) := by decide +kernel
theorem dX7_put_128 : decode cX7_put 128 = .ok (.lsub, 1) := by decide +kernel
theorem dX7_put_129 : decode cX7_put 129 = .ok (.lastore, 1) := by decide +kernel
theorem dX7_put_130 : decode cX7_put 130 = .ok (.iinc 4 1, 3) := by decide +kernel
theorem dX7_put_133 : decode cX7_put 133 = .ok (.goto (-59), 3) := by decide +kernel
theorem dX7_put_136 : decode cX7_put 136 = .ok (.aload_n 0, 1) := by decide +kernel
theorem dX7_put_137 : decode cX7_put 137 = .ok (.aload_n 0, 1) := by decide +kernel
theorem dX7_put_138 : decode cX7_put 138 = .ok (.getfield 187, 3) := by decide +kernel
theorem dX7_put_141 : decode cX7_put 141 = .ok (.iconst 1, 1) := by decide +kernel
theorem dX7_put_142 : decode cX7_put 142 = .ok (.if_icmp .ne 7, 3) := by decide +kernel
theorem dX7_put_145 : decode cX7_put 145 = .ok (.iload_n 3, 1) := by decide +kernel
theorem dX7_put_146 : decode cX7_put 146 = .ok (.goto 12, 3) := by decide +kernel
theorem dX7_put_149 : decode cX7_put 149 = .ok (.iload_n 2, 1) := by decide +kernel
theorem dX7_put_150 : decode cX7_put 150 = .ok (.ifCond .le 7, 3) := by decide +kernel
theorem dX7_put_153 : decode cX7_put 153 = .ok (.iconst 2, 1) := by decide +kernel
theorem dX7_put_154 : decode cX7_put 154 = .ok (.goto 4, 3) := by decide +kernel
theorem dX7_put_157 : decode cX7_put 157 = .ok (.iconst 3, 1) := by decide +kernel
theorem dX7_put_158 : decode cX7_put 158 = .ok (.invokevirtual 168, 3) := by decide +kernel
theorem dX7_put_161 : decode cX7_put 161 = .ok (.ireturn, 1) := by decide +kernel
theorem dX7_putAll_0 : decode cX7_putAll 0 = .ok (.aload_n 0, 1) := by decide +kernel
theorem dX7_putAll_1 : decode cX7_putAll 1 = .ok (.getfield 22, 3) := by decide +kernel
theorem dX7_putAll_4 : decode cX7_putAll 4 = .ok (.iload_n 1, 1) := by decide +kernel
theorem dX7_putAll_5 : decode cX7_putAll 5 = .ok (.iaload, 1) := by decide +kernel
theorem dX7_putAll_6 : decode cX7_putAll 6 = .ok (.aload_n 0, 1) := by decide +kernel
theorem dX7_putAll_7 : decode cX7_putAll 7 = .ok (.getfield 184, 3) := by decide +kernel
theorem dX7_putAll_10 : decode cX7_putAll 10 = .ok (.ishr, 1) := by decide +kernel
theorem dX7_putAll_11 : decode cX7_putAll 11 = .ok (.iconst 1, 1) := by decide +kernel
theorem dX7_putAll_12 : decode cX7_putAll 12 = .ok (.iand, 1) := by decide +kernel
theorem dX7_putAll_13 : decode cX7_putAll 13 = .ok (.ifCond .eq 10, 3) := by decide +kernel
theorem dX7_putAll_16 : decode cX7_putAll 16 = .ok (.aload_n 0, 1) := by decide +kernel
theorem dX7_putAll_17 : decode cX7_putAll 17 = .ok (.getfield 99, 3) := by decide +kernel
theorem dX7_putAll_20 : decode cX7_putAll 20 = .ok (.ifCond .eq 5, 3) := by decide +kernel
theorem dX7_putAll_23 : decode cX7_putAll 23 = .ok (.iload_n 1, 1) := by decide +kernel
theorem dX7_putAll_24 : decode cX7_putAll 24 = .ok (.ireturn, 1) := by decide +kernel
theorem dX7_putAll_25 : decode cX7_putAll 25 = .ok (.aload_n 0, 1) := by decide +kernel
theorem dX7_putAll_26 : decode cX7_putAll 26 = .ok (.getfield 7, 3) := by decide +kernel
theorem dX7_putAll_29 : decode cX7_putAll 29 = .ok (.iload_n 1, 1) := by decide +kernel
theorem dX7_putAll_30 : decode cX7_putAll 30 = .ok (.iaload, 1) := by decide +kernel
theorem dX7_putAll_31 : decode cX7_putAll 31 = .ok (.iconst 2, 1) := by decide +kernel
theorem dX7_putAll_32 : decode cX7_putAll 32 = .ok (.if_icmp .ne 9, 3) := by decide +kernel
theorem dX7_putAll_35 : decode cX7_putAll 35 = .ok (.aload_n 0, 1) := by decide +kernel
theorem dX7_putAll_36 : decode cX7_putAll 36 = .ok (.iload_n 1, 1) := by decide +kernel
theorem dX7_putAll_37 : decode cX7_putAll 37 = .ok (.invokevirtual 194, 3) := by decide +kernel
theorem dX7_putAll_40 : decode cX7_putAll 40 = .ok (.ireturn, 1) := by decide +kernel
theorem dX7_putAll_41 : decode cX7_putAll 41 = .ok (.aload_n 0, 1) := by decide +kernel
theorem dX7_putAll_42 : decode cX7_putAll 42 = .ok (.aload_n 0, 1) := by decide +kernel
theorem dX7_putAll_43 : decode cX7_putAll 43 = .ok (.getfield 13, 3) := by decide +kernel
theorem dX7_putAll_46 : decode cX7_putAll 46 = .ok (.iload_n 1, 1) := by decide +kernel
theorem dX7_putAll_47 : decode cX7_putAll 47 = .ok (.iaload, 1) := by decide +kernel
theorem dX7_putAll_48 : decode cX7_putAll 48 = .ok (.invokevirtual 197, 3) := by decide +kernel
theorem dX7_putAll_51 : decode cX7_putAll 51 = .ok (.istore_n 2, 1) := by decide +kernel
theorem dX7_putAll_52 : decode cX7_putAll 52 = .ok (.aload_n 0, 1) := by decide +kernel
theorem dX7_putAll_53 : decode cX7_putAll 53 = .ok (.aload_n 0, 1) := by decide +kernel
theorem dX7_putAll_54 : decode cX7_putAll 54 = .ok (.getfield 16, 3) := by decide +kernel
theorem dX7_putAll_57 : decode cX7_putAll 57 = .ok (.iload_n 1, 1) := by decide +kernel
theorem dX7_putAll_58 : decode cX7_putAll 58 = .ok (.iaload, 1) := by decide +kernel
theorem dX7_putAll_59 : decode cX7_putAll 59 = .ok (.invokevirtual 197, 3) := by decide +kernel
theorem dX7_putAll_62 : decode cX7_putAll 62 = .ok (.istore_n 3, 1) := by decide +kernel
theorem dX7_putAll_63 : decode cX7_putAll 63 = .ok (.aload_n 0, 1) := by decide +kernel
theorem dX7_putAll_64 : decode cX7_putAll 64 = .ok (.getfield 99, 3) := by decide +kernel
theorem dX7_putAll_67 : decode cX7_putAll 67 = .ok (.ifCond .eq 7, 3) := by decide +kernel
theorem dX7_putAll_70 : decode cX7_putAll 70 = .ok (.iconst 0, 1) := by decide +kernel
theorem dX7_putAll_71 : decode cX7_putAll 71 = .ok (.goto 24, 3) := by decide +kernel
theorem dX7_putAll_74 : decode cX7_putAll 74 = .ok (.aload_n 0, 1) := by decide +kernel
theorem dX7_putAll_75 : decode cX7_putAll 75 = .ok (.aload_n 0, 1) := by decide +kernel
theorem dX7_putAll_76 : decode cX7_putAll 76 = .ok (.getfield 7, 3) := by decide +kernel
theorem dX7_putAll_79 : decode cX7_putAll 79 = .ok (.iload_n 1, 1) := by decide +kernel
theorem dX7_putAll_80 : decode cX7_putAll 80 = .ok (.iaload, 1) := by decide +kernel
theorem dX7_putAll_81 : decode cX7_putAll 81 = .ok (.iconst 3, 1) := by decide +kernel
theorem dX7_putAll_82 : decode cX7_putAll 82 = .ok (.if_icmp .ne 7, 3) := by decide +kernel
theorem dX7_putAll_85 : decode cX7_putAll 85 = .ok (.iconst 1, 1) := by decide +kernel
theorem dX7_putAll_86 : decode cX7_putAll 86 = .ok (.goto 4, 3) := by decide +kernel
theorem dX7_putAll_89 : decode cX7_putAll 89 = .ok (.iconst 0, 1) := by decide +kernel
theorem dX7_putAll_90 : decode cX7_putAll 90 = .ok (.iload_n 2, 1) := by decide +kernel
theorem dX7_putAll_91 : decode cX7_putAll 91 = .ok (.iload_n 3, 1) := by decide +kernel
theorem dX7_putAll_92 : decode cX7_putAll 92 = .ok (.invokevirtual 111, 3) := by decide +kernel
theorem dX7_putAll_95 : decode cX7_putAll 95 = .ok (.ireturn, 1) := by decide +kernel
theorem dX7_collect_0 : decode cX7_collect 0 = .ok (.aload_n 0, 1) := by decide +kernel
theorem dX7_collect_1 : decode cX7_collect 1 = .ok (.getfield 22, 3) := by decide +kernel
theorem dX7_collect_4 : decode cX7_collect 4 = .ok (.iload_n 1, 1) := by decide +kernel
theorem dX7_collect_5 : decode cX7_collect 5 = .ok (.iaload, 1) := by decide +kernel
theorem dX7_collect_6 : decode cX7_collect 6 = .ok (.aload_n 0, 1) := by decide +kernel
theorem dX7_collect_7 : decode cX7_collect 7 = .ok (.getfield 184, 3) := by decide +kernel
theorem dX7_collect_10 : decode cX7_collect 10 = .ok (.ishr, 1) := by decide +kernel
theorem dX7_collect_11 : decode cX7_collect 11 = .ok (.iconst 1, 1) := by decide +kernel
theorem dX7_collect_12 : decode cX7_collect 12 = .ok (.iand, 1) := by decide +kernel
theorem dX7_collect_13 : decode cX7_collect 13 = .ok (.ifCond .ne 4, 3) := by decide +kernel
theorem dX7_collect_16 : decode cX7_collect 16 = .ok (.return_, 1) := by decide +kernel
theorem dX7_collect_17 : decode cX7_collect 17 = .ok (.aload_n 0, 1) := by decide +kernel
theorem dX7_collect_18 : decode cX7_collect 18 = .ok (.getfield 7, 3) := by decide +kernel
theorem dX7_collect_21 : decode cX7_collect 21 = .ok (.iload_n 1, 1) := by decide +kernel
theorem dX7_collect_22 : decode cX7_collect 22 = .ok (.iaload, 1) := by decide +kernel
theorem dX7_collect_23 : decode cX7_collect 23 = .ok (.iconst 2, 1) := by decide +kernel
theorem dX7_collect_24 : decode cX7_collect 24 = .ok (.if_icmp .eq 26, 3) := by decide +kernel
theorem dX7_collect_27 : decode cX7_collect 27 = .ok (.aload_n 0, 1) := by decide +kernel
theorem dX7_collect_28 : decode cX7_collect 28 = .ok (.aload_n 0, 1) := by decide +kernel
theorem dX7_collect_29 : decode cX7_collect 29 = .ok (.getfield 13, 3) := by decide +kernel
theorem dX7_collect_32 : decode cX7_collect 32 = .ok (.iload_n 1, 1) := by decide +kernel
theorem dX7_collect_33 : decode cX7_collect 33 = .ok (.iaload, 1) := by decide +kernel
theorem dX7_collect_34 : decode cX7_collect 34 = .ok (.iload_n 2, 1) := by decide +kernel
theorem dX7_collect_35 : decode cX7_collect 35 = .ok (.invokevirtual 200, 3) := by decide +kernel
theorem dX7_collect_38 : decode cX7_collect 38 = .ok (.aload_n 0, 1) := by decide +kernel
theorem dX7_collect_39 : decode cX7_collect 39 = .ok (.aload_n 0, 1) := by decide +kernel
theorem dX7_collect_40 : decode cX7_collect 40 = .ok (.getfield 16, 3) := by decide +kernel
theorem dX7_collect_43 : decode cX7_collect 43 = .ok (.iload_n 1, 1) := by decide +kernel
theorem dX7_collect_44 : decode cX7_collect 44 = .ok (.iaload, 1) := by decide +kernel
theorem dX7_collect_45 : decode cX7_collect 45 = .ok (.iload_n 2, 1) := by decide +kernel
theorem dX7_collect_46 : decode cX7_collect 46 = .ok (.invokevirtual 200, 3) := by decide +kernel
theorem dX7_collect_49 : decode cX7_collect 49 = .ok (.return_, 1) := by decide +kernel
theorem dX7_collect_50 : decode cX7_collect 50 = .ok (.aload_n 0, 1) := by decide +kernel
theorem dX7_collect_51 : decode cX7_collect 51 = .ok (.getfield 26, 3) := by decide +kernel
theorem dX7_collect_54 : decode cX7_collect 54 = .ok (.bipush 9, 2) := by decide +kernel
theorem dX7_collect_56 : decode cX7_collect 56 = .ok (.iload_n 1, 1) := by decide +kernel
theorem dX7_collect_57 : decode cX7_collect 57 = .ok (.imul, 1) := by decide +kernel
theorem dX7_collect_58 : decode cX7_collect 58 = .ok (.aload_n 0, 1) := by decide +kernel
theorem dX7_collect_59 : decode cX7_collect 59 = .ok (.getfield 184, 3) := by decide +kernel
theorem dX7_collect_62 : decode cX7_collect 62 = .ok (.iadd, 1) := by decide +kernel
theorem dX7_collect_63 : decode cX7_collect 63 = .ok (.iaload, 1) := by decide +kernel
theorem dX7_collect_64 : decode cX7_collect 64 = .ok (.istore_n 3, 1) := by decide +kernel
theorem dX7_collect_65 : decode cX7_collect 65 = .ok (.aload_n 0, 1) := by decide +kernel
theorem dX7_collect_66 : decode cX7_collect 66 = .ok (.getfield 13, 3) := by decide +kernel
theorem dX7_collect_69 : decode cX7_collect 69 = .ok (.iload_n 1, 1) := by decide +kernel
theorem dX7_collect_70 : decode cX7_collect 70 = .ok (.iaload, 1) := by decide +kernel
theorem dX7_collect_71 : decode cX7_collect 71 = .ok (.istore 4, 2) := by decide +kernel
theorem dX7_collect_73 : decode cX7_collect 73 = .ok (.iload 4, 2) := by decide +kernel
theorem dX7_collect_75 : decode cX7_collect 75 = .ok (.iconst 2, 1) := by decide +kernel
theorem dX7_collect_76 : decode cX7_collect 76 = .ok (.if_icmp .lt 8, 3) := by decide +kernel
theorem dX7_collect_79 : decode cX7_collect 79 = .ok (.iload_n 3, 1) := by decide +kernel
theorem dX7_collect_80 : decode cX7_collect 80 = .ok (.ifCond .le 4, 3) := by decide +kernel
theorem dX7_collect_83 : decode cX7_collect 83 = .ok (.return_, 1) := by decide +kernel
theorem dX7_collect_84 : decode cX7_collect 84 = .ok (.iload 4, 2) := by decide +kernel
theorem dX7_collect_86 : decode cX7_collect 86 = .ok (.ifCond .eq 9, 3) := by decide +kernel
theorem dX7_collect_89 : decode cX7_collect 89 = .ok (.iload 4, 2) := by decide +kernel
theorem dX7_collect_91 : decode cX7_collect 91 = .ok (.iconst 3, 1) := by decide +kernel
theorem dX7_collect_92 : decode cX7_collect 92 = .ok (.if_icmp .ne 7, 3) := by decide +kernel
theorem dX7_collect_95 : decode cX7_collect 95 = .ok (.iconst 1, 1) := by decide +kernel
theorem dX7_collect_96 : decode cX7_collect 96 = .ok (.goto 4, 3) := by decide +kernel
theorem dX7_collect_99 : decode cX7_collect 99 = .ok (.iconst 2, 1) := by decide +kernel
theorem dX7_collect_100 : decode cX7_collect 100 = .ok (.istore 5, 2) := by decide +kernel
theorem dX7_collect_102 : decode cX7_collect 102 = .ok (.bipush 10, 2) := by decide +kernel
theorem dX7_collect_104 : decode cX7_collect 104 = .ok (.aload_n 0, 1) := by decide +kernel
theorem dX7_collect_105 : decode cX7_collect 105 = .ok (.getfield 204, 3) := by decide +kernel
theorem dX7_collect_108 : decode cX7_collect 108 = .ok (.imul, 1) := by decide +kernel
theorem dX7_collect_109 : decode cX7_collect 109 = .ok (.istore 6, 2) := by decide +kernel
theorem dX7_collect_111 : decode cX7_collect 111 = .ok (.iconst 0, 1) := by decide +kernel
theorem dX7_collect_112 : decode cX7_collect 112 = .ok (.istore 7, 2) := by decide +kernel
theorem dX7_collect_114 : decode cX7_collect 114 = .ok (.iload 7, 2) := by decide +kernel
theorem dX7_collect_116 : decode cX7_collect 116 = .ok (.bipush 9, 2) := by decide +kernel
theorem dX7_collect_118 : decode cX7_collect 118 = .ok (.if_icmp .ge 58, 3) := by decide +kernel
theorem dX7_collect_121 : decode cX7_collect 121 = .ok (.iload 7, 2) := by decide +kernel
theorem dX7_collect_123 : decode cX7_collect 123 = .ok (.aload_n 0, 1) := by decide +kernel
theorem dX7_collect_124 : decode cX7_collect 124 = .ok (.getfield 184, 3) := by decide +kernel
theorem dX7_collect_127 : decode cX7_collect 127 = .ok (.if_icmp .ne 7, 3) := by decide +kernel
theorem dX7_collect_130 : decode cX7_collect 130 = .ok (.iconst 0, 1) := by decide +kernel
theorem dX7_collect_131 : decode cX7_collect 131 = .ok (.goto 15, 3) := by decide +kernel
theorem dX7_collect_134 : decode cX7_collect 134 = .ok (.aload_n 0, 1) := by decide +kernel
theorem dX7_collect_135 : decode cX7_collect 135 = .ok (.getfield 26, 3) := by decide +kernel
theorem dX7_collect_138 : decode cX7_collect 138 = .ok (.bipush 9, 2) := by decide +kernel
theorem dX7_collect_140 : decode cX7_collect 140 = .ok (.iload_n 1, 1) := by decide +kernel
theorem dX7_collect_141 : decode cX7_collect 141 = .ok (.imul, 1) := by decide +kernel
theorem dX7_collect_142 : decode cX7_collect 142 = .ok (.iload 7, 2) := by decide +kernel
theorem dX7_collect_144 : decode cX7_collect 144 = .ok (.iadd, 1) := by decide +kernel
theorem dX7_collect_145 : decode cX7_collect 145 = .ok (.iaload, 1) := by decide +kernel
theorem dX7_collect_146 : decode cX7_collect 146 = .ok (.istore 8, 2) := by decide +kernel
theorem dX7_collect_148 : decode cX7_collect 148 = .ok (.aload_n 0, 1) := by decide +kernel
theorem dX7_collect_149 : decode cX7_collect 149 = .ok (.getfield 62, 3) := by decide +kernel
theorem dX7_collect_152 : decode cX7_collect 152 = .ok (.iload 6, 2) := by decide +kernel
theorem dX7_collect_154 : decode cX7_collect 154 = .ok (.iload 7, 2) := by decide +kernel
theorem dX7_collect_156 : decode cX7_collect 156 = .ok (.iadd, 1) := by decide +kernel
theorem dX7_collect_157 : decode cX7_collect 157 = .ok (.iload_n 3, 1) := by decide +kernel
theorem dX7_collect_158 : decode cX7_collect 158 = .ok (.ifCond .ge 9, 3) := by decide +kernel
theorem dX7_collect_161 : decode cX7_collect 161 = .ok (.iload 8, 2) := by decide +kernel
theorem dX7_collect_163 : decode cX7_collect 163 = .ok (.ineg, 1) := by decide +kernel
theorem dX7_collect_164 : decode cX7_collect 164 = .ok (.goto 5, 3) := by decide +kernel
theorem dX7_collect_167 : decode cX7_collect 167 = .ok (.iload 8, 2) := by decide +kernel
theorem dX7_collect_169 : decode cX7_collect 169 = .ok (.iastore, 1) := by decide +kernel
theorem dX7_collect_170 : decode cX7_collect 170 = .ok (.iinc 7 1, 3) := by decide +kernel
theorem dX7_collect_173 : decode cX7_collect 173 = .ok (.goto (-59), 3) := by decide +kernel
theorem dX7_collect_176 : decode cX7_collect 176 = .ok (.aload_n 0, 1) := by decide +kernel
theorem dX7_collect_177 : decode cX7_collect 177 = .ok (.getfield 62, 3) := by decide +kernel
theorem dX7_collect_180 : decode cX7_collect 180 = .ok (.iload 6, 2) := by decide +kernel
theorem dX7_collect_182 : decode cX7_collect 182 = .ok (.bipush 9, 2) := by decide +kernel
theorem dX7_collect_184 : decode cX7_collect 184 = .ok (.iadd, 1) := by decide +kernel
theorem dX7_collect_185 : decode cX7_collect 185 = .ok (.iload_n 3, 1) := by decide +kernel
theorem dX7_collect_186 : decode cX7_collect 186 = .ok (.ifCond .ge 8, 3) := by decide +kernel
theorem dX7_collect_189 : decode cX7_collect 189 = .ok (.iload_n 3, 1) := by decide +kernel
theorem dX7_collect_190 : decode cX7_collect 190 = .ok (.ineg, 1) := by decide +kernel
theorem dX7_collect_191 : decode cX7_collect 191 = .ok (.goto 4, 3) := by decide +kernel
theorem dX7_collect_194 : decode cX7_collect 194 = .ok (.iload_n 3, 1) := by decide +kernel
theorem dX7_collect_195 : decode cX7_collect 195 = .ok (.iastore, 1) := by decide +kernel
theorem dX7_collect_196 : decode cX7_collect 196 = .ok (.iload_n 2, 1) := by decide +kernel
theorem dX7_collect_197 : decode cX7_collect 197 = .ok (.istore 7, 2) := by decide +kernel
theorem dX7_collect_199 : decode cX7_collect 199 = .ok (.iload 7, 2) := by decide +kernel
theorem dX7_collect_201 : decode cX7_collect 201 = .ok (.aload_n 0, 1) := by decide +kernel
theorem dX7_collect_202 : decode cX7_collect 202 = .ok (.getfield 204, 3) := by decide +kernel
theorem dX7_collect_205 : decode cX7_collect 205 = .ok (.if_icmp .ge 88, 3) := by decide +kernel
theorem dX7_collect_208 : decode cX7_collect 208 = .ok (.aload_n 0, 1) := by decide +kernel
theorem dX7_collect_209 : decode cX7_collect 209 = .ok (.getfield 65, 3) := by decide +kernel
theorem dX7_collect_212 : decode cX7_collect 212 = .ok (.iload 7, 2) := by decide +kernel
theorem dX7_collect_214 : decode cX7_collect 214 = .ok (.iaload, 1) := by decide +kernel
theorem dX7_collect_215 : decode cX7_collect 215 = .ok (.iload 5, 2) := by decide +kernel
theorem dX7_collect_217 : decode cX7_collect 217 = .ok (.if_icmp .ne 7, 3) := by decide +kernel
theorem dX7_collect_220 : decode cX7_collect 220 = .ok (.iconst 1, 1) := by decide +kernel
theorem dX7_collect_221 : decode cX7_collect 221 = .ok (.goto 4, 3) := by decide +kernel
theorem dX7_collect_224 : decode cX7_collect 224 = .ok (.iconst 0, 1) := by decide +kernel
theorem dX7_collect_225 : decode cX7_collect 225 = .ok (.istore 8, 2) := by decide +kernel
theorem dX7_collect_227 : decode cX7_collect 227 = .ok (.iconst 0, 1) := by decide +kernel
theorem dX7_collect_228 : decode cX7_collect 228 = .ok (.istore 9, 2) := by decide +kernel
theorem dX7_collect_230 : decode cX7_collect 230 = .ok (.iload 9, 2) := by decide +kernel
theorem dX7_collect_232 : decode cX7_collect 232 = .ok (.bipush 10, 2) := by decide +kernel
theorem dX7_collect_234 : decode cX7_collect 234 = .ok (.if_icmp .ge 47, 3) := by decide +kernel
theorem dX7_collect_237 : decode cX7_collect 237 = .ok (.iload 8, 2) := by decide +kernel
theorem dX7_collect_239 : decode cX7_collect 239 = .ok (.ifCond .eq 42, 3) := by decide +kernel
theorem dX7_collect_242 : decode cX7_collect 242 = .ok (.aload_n 0, 1) := by decide +kernel
theorem dX7_collect_243 : decode cX7_collect 243 = .ok (.getfield 62, 3) := by decide +kernel
theorem dX7_collect_246 : decode cX7_collect 246 = .ok (.bipush 10, 2) := by decide +kernel
theorem dX7_collect_248 : decode cX7_collect 248 = .ok (.iload 7, 2) := by decide +kernel
theorem dX7_collect_250 : decode cX7_collect 250 = .ok (.imul, 1) := by decide +kernel
theorem dX7_collect_251 : decode cX7_collect 251 = .ok (.iload 9, 2) := by decide +kernel
theorem dX7_collect_253 : decode cX7_collect 253 = .ok (.iadd, 1) := by decide +kernel
theorem dX7_collect_254 : decode cX7_collect 254 = .ok (.iaload, 1) := by decide +kernel
theorem dX7_collect_255 : decode cX7_collect 255 = .ok (.aload_n 0, 1) := by decide +kernel
theorem dX7_collect_256 : decode cX7_collect 256 = .ok (.getfield 62, 3) := by decide +kernel
theorem dX7_collect_259 : decode cX7_collect 259 = .ok (.iload 6, 2) := by decide +kernel
theorem dX7_collect_261 : decode cX7_collect 261 = .ok (.iload 9, 2) := by decide +kernel
theorem dX7_collect_263 : decode cX7_collect 263 = .ok (.iadd, 1) := by decide +kernel
theorem dX7_collect_264 : decode cX7_collect 264 = .ok (.iaload, 1) := by decide +kernel
theorem dX7_collect_265 : decode cX7_collect 265 = .ok (.if_icmp .ne 7, 3) := by decide +kernel
theorem dX7_collect_268 : decode cX7_collect 268 = .ok (.iconst 1, 1) := by decide +kernel
theorem dX7_collect_269 : decode cX7_collect 269 = .ok (.goto 4, 3) := by decide +kernel
theorem dX7_collect_272 : decode cX7_collect 272 = .ok (.iconst 0, 1) := by decide +kernel
theorem dX7_collect_273 : decode cX7_collect 273 = .ok (.istore 8, 2) := by decide +kernel
theorem dX7_collect_275 : decode cX7_collect 275 = .ok (.iinc 9 1, 3) := by decide +kernel
theorem dX7_collect_278 : decode cX7_collect 278 = .ok (.goto (-48), 3) := by decide +kernel
theorem dX7_collect_281 : decode cX7_collect 281 = .ok (.iload 8, 2) := by decide +kernel
theorem dX7_collect_283 : decode cX7_collect 283 = .ok (.ifCond .eq 4, 3) := by decide +kernel
theorem dX7_collect_286 : decode cX7_collect 286 = .ok (.return_, 1) := by decide +kernel
theorem dX7_collect_287 : decode cX7_collect 287 = .ok (.iinc 7 1, 3) := by decide +kernel
theorem dX7_collect_290 : decode cX7_collect 290 = .ok (.goto (-91), 3) := by decide +kernel
theorem dX7_collect_293 : decode cX7_collect 293 = .ok (.aload_n 0, 1) := by decide +kernel
theorem dX7_collect_294 : decode cX7_collect 294 = .ok (.getfield 65, 3) := by decide +kernel
theorem dX7_collect_297 : decode cX7_collect 297 = .ok (.aload_n 0, 1) := by decide +kernel
theorem dX7_collect_298 : decode cX7_collect 298 = .ok (.getfield 204, 3) := by decide +kernel
theorem dX7_collect_301 : decode cX7_collect 301 = .ok (.iload 5, 2) := by decide +kernel
theorem dX7_collect_303 : decode cX7_collect 303 = .ok (.iastore, 1) := by decide +kernel
theorem dX7_collect_304 : decode cX7_collect 304 = .ok (.aload_n 0, 1) := by decide +kernel
theorem dX7_collect_305 : decode cX7_collect 305 = .ok (.dup, 1) := by decide +kernel
theorem dX7_collect_306 : decode cX7_collect 306 = .ok (.getfield 204, 3) := by decide +kernel
theorem dX7_collect_309 : decode cX7_collect 309 = .ok (.iconst 1, 1) := by decide +kernel
theorem dX7_collect_310 : decode cX7_collect 310 = .ok (.iadd, 1) := by decide +kernel
theorem dX7_collect_311 : decode cX7_collect 311 = .ok (.putfield 204, 3) := by decide +kernel
theorem dX7_collect_314 : decode cX7_collect 314 = .ok (.return_, 1) := by decide +kernel
theorem dX7_takeOut_0 : decode cX7_takeOut 0 = .ok (.aload_n 0, 1) := by decide +kernel
theorem dX7_takeOut_1 : decode cX7_takeOut 1 = .ok (.getfield 22, 3) := by decide +kernel
theorem dX7_takeOut_4 : decode cX7_takeOut 4 = .ok (.aload_n 0, 1) := by decide +kernel
theorem dX7_takeOut_5 : decode cX7_takeOut 5 = .ok (.getfield 33, 3) := by decide +kernel
theorem dX7_takeOut_8 : decode cX7_takeOut 8 = .ok (.iload_n 1, 1) := by decide +kernel
theorem dX7_takeOut_9 : decode cX7_takeOut 9 = .ok (.iaload, 1) := by decide +kernel
theorem dX7_takeOut_10 : decode cX7_takeOut 10 = .ok (.iaload, 1) := by decide +kernel
theorem dX7_takeOut_11 : decode cX7_takeOut 11 = .ok (.iload_n 2, 1) := by decide +kernel
theorem dX7_takeOut_12 : decode cX7_takeOut 12 = .ok (.ishr, 1) := by decide +kernel
theorem dX7_takeOut_13 : decode cX7_takeOut 13 = .ok (.iconst 1, 1) := by decide +kernel
theorem dX7_takeOut_14 : decode cX7_takeOut 14 = .ok (.iand, 1) := by decide +kernel
theorem dX7_takeOut_15 : decode cX7_takeOut 15 = .ok (.ifCond .ne 4, 3) := by decide +kernel
theorem dX7_takeOut_18 : decode cX7_takeOut 18 = .ok (.return_, 1) := by decide +kernel
theorem dX7_takeOut_19 : decode cX7_takeOut 19 = .ok (.aload_n 0, 1) := by decide +kernel
theorem dX7_takeOut_20 : decode cX7_takeOut 20 = .ok (.dup, 1) := by decide +kernel
theorem dX7_takeOut_21 : decode cX7_takeOut 21 = .ok (.getfield 207, 3) := by decide +kernel
theorem dX7_takeOut_24 : decode cX7_takeOut 24 = .ok (.iconst 1, 1) := by decide +kernel
theorem dX7_takeOut_25 : decode cX7_takeOut 25 = .ok (.iadd, 1) := by decide +kernel
theorem dX7_takeOut_26 : decode cX7_takeOut 26 = .ok (.putfield 207, 3) := by decide +kernel
theorem dX7_takeOut_29 : decode cX7_takeOut 29 = .ok (.aload_n 0, 1) := by decide +kernel
theorem dX7_takeOut_30 : decode cX7_takeOut 30 = .ok (.iload_n 2, 1) := by decide +kernel
theorem dX7_takeOut_31 : decode cX7_takeOut 31 = .ok (.putfield 184, 3) := by decide +kernel
theorem dX7_takeOut_34 : decode cX7_takeOut 34 = .ok (.aload_n 0, 1) := by decide +kernel
theorem dX7_takeOut_35 : decode cX7_takeOut 35 = .ok (.getfield 204, 3) := by decide +kernel
theorem dX7_takeOut_38 : decode cX7_takeOut 38 = .ok (.istore_n 3, 1) := by decide +kernel
theorem dX7_takeOut_39 : decode cX7_takeOut 39 = .ok (.aload_n 0, 1) := by decide +kernel
theorem dX7_takeOut_40 : decode cX7_takeOut 40 = .ok (.aload_n 0, 1) := by decide +kernel
theorem dX7_takeOut_41 : decode cX7_takeOut 41 = .ok (.getfield 33, 3) := by decide +kernel
theorem dX7_takeOut_44 : decode cX7_takeOut 44 = .ok (.iload_n 1, 1) := by decide +kernel
theorem dX7_takeOut_45 : decode cX7_takeOut 45 = .ok (.iaload, 1) := by decide +kernel
theorem dX7_takeOut_46 : decode cX7_takeOut 46 = .ok (.iload_n 3, 1) := by decide +kernel
theorem dX7_takeOut_47 : decode cX7_takeOut 47 = .ok (.invokevirtual 200, 3) := by decide +kernel
theorem dX7_takeOut_50 : decode cX7_takeOut 50 = .ok (.aload_n 0, 1) := by decide +kernel
theorem dX7_takeOut_51 : decode cX7_takeOut 51 = .ok (.getfield 204, 3) := by decide +kernel
theorem dX7_takeOut_54 : decode cX7_takeOut 54 = .ok (.istore 4, 2) := by decide +kernel
theorem dX7_takeOut_56 : decode cX7_takeOut 56 = .ok (.aload_n 0, 1) := by decide +kernel
theorem dX7_takeOut_57 : decode cX7_takeOut 57 = .ok (.iconst 1, 1) := by decide +kernel
theorem dX7_takeOut_58 : decode cX7_takeOut 58 = .ok (.invokevirtual 210, 3) := by decide +kernel
theorem dX7_takeOut_61 : decode cX7_takeOut 61 = .ok (.istore 5, 2) := by decide +kernel
theorem dX7_takeOut_63 : decode cX7_takeOut 63 = .ok (.iload_n 3, 1) := by decide +kernel
theorem dX7_takeOut_64 : decode cX7_takeOut 64 = .ok (.iconst 1, 1) := by decide +kernel
theorem dX7_takeOut_65 : decode cX7_takeOut 65 = .ok (.isub, 1) := by decide +kernel
theorem dX7_takeOut_66 : decode cX7_takeOut 66 = .ok (.istore 6, 2) := by decide +kernel
theorem dX7_takeOut_68 : decode cX7_takeOut 68 = .ok (.iload 6, 2) := by decide +kernel
theorem dX7_takeOut_70 : decode cX7_takeOut 70 = .ok (.iload 4, 2) := by decide +kernel
theorem dX7_takeOut_72 : decode cX7_takeOut 72 = .ok (.if_icmp .ge 199, 3) := by decide +kernel
theorem dX7_takeOut_75 : decode cX7_takeOut 75 = .ok (.aload_n 0, 1) := by decide +kernel
theorem dX7_takeOut_76 : decode cX7_takeOut 76 = .ok (.getfield 33, 3) := by decide +kernel
theorem dX7_takeOut_79 : decode cX7_takeOut 79 = .ok (.iload 5, 2) := by decide +kernel
theorem dX7_takeOut_81 : decode cX7_takeOut 81 = .ok (.iaload, 1) := by decide +kernel
theorem dX7_takeOut_82 : decode cX7_takeOut 82 = .ok (.ifCond .eq 189, 3) := by decide +kernel
theorem dX7_takeOut_85 : decode cX7_takeOut 85 = .ok (.aload_n 0, 1) := by decide +kernel
theorem dX7_takeOut_86 : decode cX7_takeOut 86 = .ok (.getfield 99, 3) := by decide +kernel
theorem dX7_takeOut_89 : decode cX7_takeOut 89 = .ok (.ifCond .ne 182, 3) := by decide +kernel
theorem dX7_takeOut_92 : decode cX7_takeOut 92 = .ok (.aload_n 0, 1) := by decide +kernel
theorem dX7_takeOut_93 : decode cX7_takeOut 93 = .ok (.iload 6, 2) := by decide +kernel
theorem dX7_takeOut_95 : decode cX7_takeOut 95 = .ok (.iload_n 3, 1) := by decide +kernel
theorem dX7_takeOut_96 : decode cX7_takeOut 96 = .ok (.if_icmp .ge 7, 3) := by decide +kernel
theorem dX7_takeOut_99 : decode cX7_takeOut 99 = .ok (.iconst 0, 1) := by decide +kernel
theorem dX7_takeOut_100 : decode cX7_takeOut 100 = .ok (.goto 10, 3) := by decide +kernel
theorem dX7_takeOut_103 : decode cX7_takeOut 103 = .ok (.aload_n 0, 1) := by decide +kernel
theorem dX7_takeOut_104 : decode cX7_takeOut 104 = .ok (.getfield 65, 3) := by decide +kernel
theorem dX7_takeOut_107 : decode cX7_takeOut 107 = .ok (.iload 6, 2) := by decide +kernel
theorem dX7_takeOut_109 : decode cX7_takeOut 109 = .ok (.iaload, 1) := by decide +kernel
theorem dX7_takeOut_110 : decode cX7_takeOut 110 = .ok (.putfield 187, 3) := by decide +kernel
theorem dX7_takeOut_113 : decode cX7_takeOut 113 = .ok (.iconst 0, 1) := by decide +kernel
theorem dX7_takeOut_114 : decode cX7_takeOut 114 = .ok (.istore 7, 2) := by decide +kernel
theorem dX7_takeOut_116 : decode cX7_takeOut 116 = .ok (.iload 7, 2) := by decide +kernel
theorem dX7_takeOut_118 : decode cX7_takeOut 118 = .ok (.bipush 9, 2) := by decide +kernel
theorem dX7_takeOut_120 : decode cX7_takeOut 120 = .ok (.if_icmp .ge 36, 3) := by decide +kernel
theorem dX7_takeOut_123 : decode cX7_takeOut 123 = .ok (.iload 6, 2) := by decide +kernel
theorem dX7_takeOut_125 : decode cX7_takeOut 125 = .ok (.iload_n 3, 1) := by decide +kernel
theorem dX7_takeOut_126 : decode cX7_takeOut 126 = .ok (.if_icmp .lt 30, 3) := by decide +kernel
theorem dX7_takeOut_129 : decode cX7_takeOut 129 = .ok (.aload_n 0, 1) := by decide +kernel
theorem dX7_takeOut_130 : decode cX7_takeOut 130 = .ok (.getfield 59, 3) := by decide +kernel
theorem dX7_takeOut_133 : decode cX7_takeOut 133 = .ok (.iload 7, 2) := by decide +kernel
theorem dX7_takeOut_135 : decode cX7_takeOut 135 = .ok (.aload_n 0, 1) := by decide +kernel
theorem dX7_takeOut_136 : decode cX7_takeOut 136 = .ok (.getfield 62, 3) := by decide +kernel
theorem dX7_takeOut_139 : decode cX7_takeOut 139 = .ok (.bipush 10, 2) := by decide +kernel
theorem dX7_takeOut_141 : decode cX7_takeOut 141 = .ok (.iload 6, 2) := by decide +kernel
theorem dX7_takeOut_143 : decode cX7_takeOut 143 = .ok (.imul, 1) := by decide +kernel
theorem dX7_takeOut_144 : decode cX7_takeOut 144 = .ok (.iload 7, 2) := by decide +kernel
theorem dX7_takeOut_146 : decode cX7_takeOut 146 = .ok (.iadd, 1) := by decide +kernel
theorem dX7_takeOut_147 : decode cX7_takeOut 147 = .ok (.iaload, 1) := by decide +kernel
theorem dX7_takeOut_148 : decode cX7_takeOut 148 = .ok (.i2l, 1) := by decide +kernel
theorem dX7_takeOut_149 : decode cX7_takeOut 149 = .ok (.lastore, 1) := by decide +kernel
theorem dX7_takeOut_150 : decode cX7_takeOut 150 = .ok (.iinc 7 1, 3) := by decide +kernel
theorem dX7_takeOut_153 : decode cX7_takeOut 153 = .ok (.goto (-37), 3) := by decide +kernel
theorem dX7_takeOut_156 : decode cX7_takeOut 156 = .ok (.aload_n 0, 1) := by decide +kernel
theorem dX7_takeOut_157 : decode cX7_takeOut 157 = .ok (.iload 6, 2) := by decide +kernel
theorem dX7_takeOut_159 : decode cX7_takeOut 159 = .ok (.iload_n 3, 1) := by decide +kernel
theorem dX7_takeOut_160 : decode cX7_takeOut 160 = .ok (.if_icmp .ge 7, 3) := by decide +kernel
theorem dX7_takeOut_163 : decode cX7_takeOut 163 = .ok (.lconst 1, 1) := by decide +kernel
theorem dX7_takeOut_164 : decode cX7_takeOut 164 = .ok (.goto 17, 3) := by decide +kernel
theorem dX7_takeOut_167 : decode cX7_takeOut 167 = .ok (.aload_n 0, 1) := by decide +kernel
theorem dX7_takeOut_168 : decode cX7_takeOut 168 = .ok (.getfield 62, 3) := by decide +kernel
theorem dX7_takeOut_171 : decode cX7_takeOut 171 = .ok (.bipush 10, 2) := by decide +kernel
theorem dX7_takeOut_173 : decode cX7_takeOut 173 = .ok (.iload 6, 2) := by decide +kernel
theorem dX7_takeOut_175 : decode cX7_takeOut 175 = .ok (.imul, 1) := by decide +kernel
theorem dX7_takeOut_176 : decode cX7_takeOut 176 = .ok (.bipush 9, 2) := by decide +kernel
theorem dX7_takeOut_178 : decode cX7_takeOut 178 = .ok (.iadd, 1) := by decide +kernel
theorem dX7_takeOut_179 : decode cX7_takeOut 179 = .ok (.iaload, 1) := by decide +kernel
theorem dX7_takeOut_180 : decode cX7_takeOut 180 = .ok (.i2l, 1) := by decide +kernel
theorem dX7_takeOut_181 : decode cX7_takeOut 181 = .ok (.putfield 190, 3) := by decide +kernel
theorem dX7_takeOut_184 : decode cX7_takeOut 184 = .ok (.aload_n 0, 1) := by decide +kernel
theorem dX7_takeOut_185 : decode cX7_takeOut 185 = .ok (.dup, 1) := by decide +kernel
theorem dX7_takeOut_186 : decode cX7_takeOut 186 = .ok (.getfield 213, 3) := by decide +kernel
theorem dX7_takeOut_189 : decode cX7_takeOut 189 = .ok (.iconst 1, 1) := by decide +kernel
theorem dX7_takeOut_190 : decode cX7_takeOut 190 = .ok (.iadd, 1) := by decide +kernel
theorem dX7_takeOut_191 : decode cX7_takeOut 191 = .ok (.putfield 213, 3) := by decide +kernel
theorem dX7_takeOut_194 : decode cX7_takeOut 194 = .ok (.aload_n 0, 1) := by decide +kernel
theorem dX7_takeOut_195 : decode cX7_takeOut 195 = .ok (.aload_n 0, 1) := by decide +kernel
theorem dX7_takeOut_196 : decode cX7_takeOut 196 = .ok (.getfield 33, 3) := by decide +kernel
theorem dX7_takeOut_199 : decode cX7_takeOut 199 = .ok (.iload_n 1, 1) := by decide +kernel
theorem dX7_takeOut_200 : decode cX7_takeOut 200 = .ok (.iaload, 1) := by decide +kernel
theorem dX7_takeOut_201 : decode cX7_takeOut 201 = .ok (.invokevirtual 197, 3) := by decide +kernel
theorem dX7_takeOut_204 : decode cX7_takeOut 204 = .ok (.istore 7, 2) := by decide +kernel
theorem dX7_takeOut_206 : decode cX7_takeOut 206 = .ok (.aload_n 0, 1) := by decide +kernel
theorem dX7_takeOut_207 : decode cX7_takeOut 207 = .ok (.getfield 99, 3) := by decide +kernel
theorem dX7_takeOut_210 : decode cX7_takeOut 210 = .ok (.ifCond .ne 55, 3) := by decide +kernel
theorem dX7_takeOut_213 : decode cX7_takeOut 213 = .ok (.aload_n 0, 1) := by decide +kernel
theorem dX7_takeOut_214 : decode cX7_takeOut 214 = .ok (.getfield 33, 3) := by decide +kernel
theorem dX7_takeOut_217 : decode cX7_takeOut 217 = .ok (.iload 5, 2) := by decide +kernel
theorem dX7_takeOut_219 : decode cX7_takeOut 219 = .ok (.aload_n 0, 1) := by decide +kernel
theorem dX7_takeOut_220 : decode cX7_takeOut 220 = .ok (.iconst 0, 1) := by decide +kernel
theorem dX7_takeOut_221 : decode cX7_takeOut 221 = .ok (.aload_n 0, 1) := by decide +kernel
theorem dX7_takeOut_222 : decode cX7_takeOut 222 = .ok (.getfield 33, 3) := by decide +kernel
theorem dX7_takeOut_225 : decode cX7_takeOut 225 = .ok (.iload 5, 2) := by decide +kernel
theorem dX7_takeOut_227 : decode cX7_takeOut 227 = .ok (.iaload, 1) := by decide +kernel
theorem dX7_takeOut_228 : decode cX7_takeOut 228 = .ok (.iload 7, 2) := by decide +kernel
theorem dX7_takeOut_230 : decode cX7_takeOut 230 = .ok (.invokevirtual 111, 3) := by decide +kernel
theorem dX7_takeOut_233 : decode cX7_takeOut 233 = .ok (.iastore, 1) := by decide +kernel
theorem dX7_takeOut_234 : decode cX7_takeOut 234 = .ok (.aload_n 0, 1) := by decide +kernel
theorem dX7_takeOut_235 : decode cX7_takeOut 235 = .ok (.aload_n 0, 1) := by decide +kernel
theorem dX7_takeOut_236 : decode cX7_takeOut 236 = .ok (.getfield 19, 3) := by decide +kernel
theorem dX7_takeOut_239 : decode cX7_takeOut 239 = .ok (.aload_n 0, 1) := by decide +kernel
theorem dX7_takeOut_240 : decode cX7_takeOut 240 = .ok (.getfield 33, 3) := by decide +kernel
theorem dX7_takeOut_243 : decode cX7_takeOut 243 = .ok (.iload 5, 2) := by decide +kernel
theorem dX7_takeOut_245 : decode cX7_takeOut 245 = .ok (.iaload, 1) := by decide +kernel
theorem dX7_takeOut_246 : decode cX7_takeOut 246 = .ok (.iaload, 1) := by decide +kernel
theorem dX7_takeOut_247 : decode cX7_takeOut 247 = .ok (.sipush 400, 3) := by decide +kernel
theorem dX7_takeOut_250 : decode cX7_takeOut 250 = .ok (.if_icmp .le 7, 3) := by decide +kernel
theorem dX7_takeOut_253 : decode cX7_takeOut 253 = .ok (.iconst 1, 1) := by decide +kernel
theorem dX7_takeOut_254 : decode cX7_takeOut 254 = .ok (.goto 4, 3) := by decide +kernel
theorem dX7_takeOut_257 : decode cX7_takeOut 257 = .ok (.iconst 0, 1) := by decide +kernel
theorem dX7_takeOut_258 : decode cX7_takeOut 258 = .ok (.putfield 99, 3) := by decide +kernel
theorem dX7_takeOut_261 : decode cX7_takeOut 261 = .ok (.aload_n 0, 1) := by decide +kernel
theorem dX7_takeOut_262 : decode cX7_takeOut 262 = .ok (.invokevirtual 216, 3) := by decide +kernel
theorem dX7_takeOut_265 : decode cX7_takeOut 265 = .ok (.iinc 6 1, 3) := by decide +kernel
theorem dX7_takeOut_268 : decode cX7_takeOut 268 = .ok (.goto (-200), 3) := by decide +kernel
theorem dX7_takeOut_271 : decode cX7_takeOut 271 = .ok (.aload_n 0, 1) := by decide +kernel
theorem dX7_takeOut_272 : decode cX7_takeOut 272 = .ok (.iload_n 3, 1) := by decide +kernel
theorem dX7_takeOut_273 : decode cX7_takeOut 273 = .ok (.putfield 204, 3) := by decide +kernel
theorem dX7_takeOut_276 : decode cX7_takeOut 276 = .ok (.aload_n 0, 1) := by decide +kernel
theorem dX7_takeOut_277 : decode cX7_takeOut 277 = .ok (.getfield 33, 3) := by decide +kernel
theorem dX7_takeOut_280 : decode cX7_takeOut 280 = .ok (.iload_n 1, 1) := by decide +kernel
theorem dX7_takeOut_281 : decode cX7_takeOut 281 = .ok (.aload_n 0, 1) := by decide +kernel
theorem dX7_takeOut_282 : decode cX7_takeOut 282 = .ok (.getfield 33, 3) := by decide +kernel
theorem dX7_takeOut_285 : decode cX7_takeOut 285 = .ok (.iload 5, 2) := by decide +kernel
theorem dX7_takeOut_287 : decode cX7_takeOut 287 = .ok (.iaload, 1) := by decide +kernel
theorem dX7_takeOut_288 : decode cX7_takeOut 288 = .ok (.iastore, 1) := by decide +kernel
theorem dX7_takeOut_289 : decode cX7_takeOut 289 = .ok (.aload_n 0, 1) := by decide +kernel
theorem dX7_takeOut_290 : decode cX7_takeOut 290 = .ok (.dup, 1) := by decide +kernel
theorem dX7_takeOut_291 : decode cX7_takeOut 291 = .ok (.getfield 72, 3) := by decide +kernel
theorem dX7_takeOut_294 : decode cX7_takeOut 294 = .ok (.iconst 1, 1) := by decide +kernel
theorem dX7_takeOut_295 : decode cX7_takeOut 295 = .ok (.isub, 1) := by decide +kernel
theorem dX7_takeOut_296 : decode cX7_takeOut 296 = .ok (.putfield 72, 3) := by decide +kernel
theorem dX7_takeOut_299 : decode cX7_takeOut 299 = .ok (.return_, 1) := by decide +kernel
theorem dX7_freed_0 : decode cX7_freed 0 = .ok (.aload_n 0, 1) := by decide +kernel
theorem dX7_freed_1 : decode cX7_freed 1 = .ok (.getfield 33, 3) := by decide +kernel
theorem dX7_freed_4 : decode cX7_freed 4 = .ok (.iload_n 1, 1) := by decide +kernel
theorem dX7_freed_5 : decode cX7_freed 5 = .ok (.iaload, 1) := by decide +kernel
theorem dX7_freed_6 : decode cX7_freed 6 = .ok (.istore_n 2, 1) := by decide +kernel
theorem dX7_freed_7 : decode cX7_freed 7 = .ok (.aload_n 0, 1) := by decide +kernel
theorem dX7_freed_8 : decode cX7_freed 8 = .ok (.getfield 7, 3) := by decide +kernel
theorem dX7_freed_11 : decode cX7_freed 11 = .ok (.iload_n 2, 1) := by decide +kernel
theorem dX7_freed_12 : decode cX7_freed 12 = .ok (.iaload, 1) := by decide +kernel
theorem dX7_freed_13 : decode cX7_freed 13 = .ok (.iconst 3, 1) := by decide +kernel
theorem dX7_freed_14 : decode cX7_freed 14 = .ok (.if_icmp .lt 10, 3) := by decide +kernel
theorem dX7_freed_17 : decode cX7_freed 17 = .ok (.aload_n 0, 1) := by decide +kernel
theorem dX7_freed_18 : decode cX7_freed 18 = .ok (.getfield 99, 3) := by decide +kernel
theorem dX7_freed_21 : decode cX7_freed 21 = .ok (.ifCond .eq 4, 3) := by decide +kernel
theorem dX7_freed_24 : decode cX7_freed 24 = .ok (.return_, 1) := by decide +kernel
theorem dX7_freed_25 : decode cX7_freed 25 = .ok (.aload_n 0, 1) := by decide +kernel
theorem dX7_freed_26 : decode cX7_freed 26 = .ok (.getfield 7, 3) := by decide +kernel
theorem dX7_freed_29 : decode cX7_freed 29 = .ok (.iload_n 2, 1) := by decide +kernel
theorem dX7_freed_30 : decode cX7_freed 30 = .ok (.iaload, 1) := by decide +kernel
theorem dX7_freed_31 : decode cX7_freed 31 = .ok (.iconst 5, 1) := by decide +kernel
theorem dX7_freed_32 : decode cX7_freed 32 = .ok (.if_icmp .lt 111, 3) := by decide +kernel
theorem dX7_freed_35 : decode cX7_freed 35 = .ok (.aload_n 0, 1) := by decide +kernel
theorem dX7_freed_36 : decode cX7_freed 36 = .ok (.getfield 7, 3) := by decide +kernel
theorem dX7_freed_39 : decode cX7_freed 39 = .ok (.iload_n 2, 1) := by decide +kernel
theorem dX7_freed_40 : decode cX7_freed 40 = .ok (.iaload, 1) := by decide +kernel
theorem dX7_freed_41 : decode cX7_freed 41 = .ok (.iconst 5, 1) := by decide +kernel
theorem dX7_freed_42 : decode cX7_freed 42 = .ok (.if_icmp .ne 7, 3) := by decide +kernel
theorem dX7_freed_45 : decode cX7_freed 45 = .ok (.iconst 1, 1) := by decide +kernel
theorem dX7_freed_46 : decode cX7_freed 46 = .ok (.goto 4, 3) := by decide +kernel
theorem dX7_freed_49 : decode cX7_freed 49 = .ok (.iconst 0, 1) := by decide +kernel
theorem dX7_freed_50 : decode cX7_freed 50 = .ok (.istore_n 3, 1) := by decide +kernel
theorem dX7_freed_51 : decode cX7_freed 51 = .ok (.aload_n 0, 1) := by decide +kernel
theorem dX7_freed_52 : decode cX7_freed 52 = .ok (.getfield 13, 3) := by decide +kernel
theorem dX7_freed_55 : decode cX7_freed 55 = .ok (.iload_n 2, 1) := by decide +kernel
theorem dX7_freed_56 : decode cX7_freed 56 = .ok (.iaload, 1) := by decide +kernel
theorem dX7_freed_57 : decode cX7_freed 57 = .ok (.istore 4, 2) := by decide +kernel
theorem dX7_freed_59 : decode cX7_freed 59 = .ok (.aload_n 0, 1) := by decide +kernel
theorem dX7_freed_60 : decode cX7_freed 60 = .ok (.getfield 33, 3) := by decide +kernel
theorem dX7_freed_63 : decode cX7_freed 63 = .ok (.iload_n 1, 1) := by decide +kernel
theorem dX7_freed_64 : decode cX7_freed 64 = .ok (.aload_n 0, 1) := by decide +kernel
theorem dX7_freed_65 : decode cX7_freed 65 = .ok (.getfield 16, 3) := by decide +kernel
theorem dX7_freed_68 : decode cX7_freed 68 = .ok (.iload_n 2, 1) := by decide +kernel
theorem dX7_freed_69 : decode cX7_freed 69 = .ok (.iaload, 1) := by decide +kernel
theorem dX7_freed_70 : decode cX7_freed 70 = .ok (.iastore, 1) := by decide +kernel
theorem dX7_freed_71 : decode cX7_freed 71 = .ok (.aload_n 0, 1) := by decide +kernel
theorem dX7_freed_72 : decode cX7_freed 72 = .ok (.iload_n 1, 1) := by decide +kernel
theorem dX7_freed_73 : decode cX7_freed 73 = .ok (.invokevirtual 219, 3) := by decide +kernel
theorem dX7_freed_76 : decode cX7_freed 76 = .ok (.aload_n 0, 1) := by decide +kernel
theorem dX7_freed_77 : decode cX7_freed 77 = .ok (.getfield 99, 3) := by decide +kernel
theorem dX7_freed_80 : decode cX7_freed 80 = .ok (.ifCond .eq 4, 3) := by decide +kernel
theorem dX7_freed_83 : decode cX7_freed 83 = .ok (.return_, 1) := by decide +kernel
theorem dX7_freed_84 : decode cX7_freed 84 = .ok (.aload_n 0, 1) := by decide +kernel
theorem dX7_freed_85 : decode cX7_freed 85 = .ok (.invokevirtual 216, 3) := by decide +kernel
theorem dX7_freed_88 : decode cX7_freed 88 = .ok (.iload_n 3, 1) := by decide +kernel
theorem dX7_freed_89 : decode cX7_freed 89 = .ok (.ifCond .ne 19, 3) := by decide +kernel
theorem dX7_freed_92 : decode cX7_freed 92 = .ok (.aload_n 0, 1) := by decide +kernel
theorem dX7_freed_93 : decode cX7_freed 93 = .ok (.getfield 33, 3) := by decide +kernel
theorem dX7_freed_96 : decode cX7_freed 96 = .ok (.iload_n 1, 1) := by decide +kernel
theorem dX7_freed_97 : decode cX7_freed 97 = .ok (.aload_n 0, 1) := by decide +kernel
theorem dX7_freed_98 : decode cX7_freed 98 = .ok (.aload_n 0, 1) := by decide +kernel
theorem dX7_freed_99 : decode cX7_freed 99 = .ok (.getfield 33, 3) := by decide +kernel
theorem dX7_freed_102 : decode cX7_freed 102 = .ok (.iload_n 1, 1) := by decide +kernel
theorem dX7_freed_103 : decode cX7_freed 103 = .ok (.iaload, 1) := by decide +kernel
theorem dX7_freed_104 : decode cX7_freed 104 = .ok (.invokevirtual 107, 3) := by decide +kernel
theorem dX7_freed_107 : decode cX7_freed 107 = .ok (.iastore, 1) := by decide +kernel
theorem dX7_freed_108 : decode cX7_freed 108 = .ok (.aload_n 0, 1) := by decide +kernel
theorem dX7_freed_109 : decode cX7_freed 109 = .ok (.iload_n 1, 1) := by decide +kernel
theorem dX7_freed_110 : decode cX7_freed 110 = .ok (.iload 4, 2) := by decide +kernel
theorem dX7_freed_112 : decode cX7_freed 112 = .ok (.invokevirtual 223, 3) := by decide +kernel
theorem dX7_freed_115 : decode cX7_freed 115 = .ok (.iload_n 3, 1) := by decide +kernel
theorem dX7_freed_116 : decode cX7_freed 116 = .ok (.ifCond .ne 26, 3) := by decide +kernel
theorem dX7_freed_119 : decode cX7_freed 119 = .ok (.aload_n 0, 1) := by decide +kernel
theorem dX7_freed_120 : decode cX7_freed 120 = .ok (.getfield 99, 3) := by decide +kernel
theorem dX7_freed_123 : decode cX7_freed 123 = .ok (.ifCond .ne 19, 3) := by decide +kernel
theorem dX7_freed_126 : decode cX7_freed 126 = .ok (.aload_n 0, 1) := by decide +kernel
theorem dX7_freed_127 : decode cX7_freed 127 = .ok (.getfield 33, 3) := by decide +kernel
theorem dX7_freed_130 : decode cX7_freed 130 = .ok (.iload_n 1, 1) := by decide +kernel
theorem dX7_freed_131 : decode cX7_freed 131 = .ok (.aload_n 0, 1) := by decide +kernel
theorem dX7_freed_132 : decode cX7_freed 132 = .ok (.aload_n 0, 1) := by decide +kernel
theorem dX7_freed_133 : decode cX7_freed 133 = .ok (.getfield 33, 3) := by decide +kernel
theorem dX7_freed_136 : decode cX7_freed 136 = .ok (.iload_n 1, 1) := by decide +kernel
theorem dX7_freed_137 : decode cX7_freed 137 = .ok (.iaload, 1) := by decide +kernel
theorem dX7_freed_138 : decode cX7_freed 138 = .ok (.invokevirtual 107, 3) := by decide +kernel
theorem dX7_freed_141 : decode cX7_freed 141 = .ok (.iastore, 1) := by decide +kernel
theorem dX7_freed_142 : decode cX7_freed 142 = .ok (.return_, 1) := by decide +kernel
theorem dX7_freed_143 : decode cX7_freed 143 = .ok (.aload_n 0, 1) := by decide +kernel
theorem dX7_freed_144 : decode cX7_freed 144 = .ok (.getfield 7, 3) := by decide +kernel
theorem dX7_freed_147 : decode cX7_freed 147 = .ok (.iload_n 2, 1) := by decide +kernel
theorem dX7_freed_148 : decode cX7_freed 148 = .ok (.iaload, 1) := by decide +kernel
theorem dX7_freed_149 : decode cX7_freed 149 = .ok (.iconst 3, 1) := by decide +kernel
theorem dX7_freed_150 : decode cX7_freed 150 = .ok (.if_icmp .ne 7, 3) := by decide +kernel
theorem dX7_freed_153 : decode cX7_freed 153 = .ok (.iconst 1, 1) := by decide +kernel
theorem dX7_freed_154 : decode cX7_freed 154 = .ok (.goto 4, 3) := by decide +kernel
theorem dX7_freed_157 : decode cX7_freed 157 = .ok (.iconst 0, 1) := by decide +kernel
theorem dX7_freed_158 : decode cX7_freed 158 = .ok (.istore_n 3, 1) := by decide +kernel
theorem dX7_freed_159 : decode cX7_freed 159 = .ok (.aload_n 0, 1) := by decide +kernel
theorem dX7_freed_160 : decode cX7_freed 160 = .ok (.aload_n 0, 1) := by decide +kernel
theorem dX7_freed_161 : decode cX7_freed 161 = .ok (.getfield 13, 3) := by decide +kernel
theorem dX7_freed_164 : decode cX7_freed 164 = .ok (.iload_n 2, 1) := by decide +kernel
theorem dX7_freed_165 : decode cX7_freed 165 = .ok (.iaload, 1) := by decide +kernel
theorem dX7_freed_166 : decode cX7_freed 166 = .ok (.invokevirtual 210, 3) := by decide +kernel
theorem dX7_freed_169 : decode cX7_freed 169 = .ok (.istore 4, 2) := by decide +kernel
theorem dX7_freed_171 : decode cX7_freed 171 = .ok (.aload_n 0, 1) := by decide +kernel
theorem dX7_freed_172 : decode cX7_freed 172 = .ok (.aload_n 0, 1) := by decide +kernel
theorem dX7_freed_173 : decode cX7_freed 173 = .ok (.getfield 16, 3) := by decide +kernel
theorem dX7_freed_176 : decode cX7_freed 176 = .ok (.iload_n 2, 1) := by decide +kernel
theorem dX7_freed_177 : decode cX7_freed 177 = .ok (.iaload, 1) := by decide +kernel
theorem dX7_freed_178 : decode cX7_freed 178 = .ok (.invokevirtual 210, 3) := by decide +kernel
theorem dX7_freed_181 : decode cX7_freed 181 = .ok (.istore 5, 2) := by decide +kernel
theorem dX7_freed_183 : decode cX7_freed 183 = .ok (.aload_n 0, 1) := by decide +kernel
theorem dX7_freed_184 : decode cX7_freed 184 = .ok (.iload 4, 2) := by decide +kernel
theorem dX7_freed_186 : decode cX7_freed 186 = .ok (.invokevirtual 219, 3) := by decide +kernel
theorem dX7_freed_189 : decode cX7_freed 189 = .ok (.aload_n 0, 1) := by decide +kernel
theorem dX7_freed_190 : decode cX7_freed 190 = .ok (.iload 5, 2) := by decide +kernel
theorem dX7_freed_192 : decode cX7_freed 192 = .ok (.invokevirtual 219, 3) := by decide +kernel
theorem dX7_freed_195 : decode cX7_freed 195 = .ok (.aload_n 0, 1) := by decide +kernel
theorem dX7_freed_196 : decode cX7_freed 196 = .ok (.getfield 99, 3) := by decide +kernel
theorem dX7_freed_199 : decode cX7_freed 199 = .ok (.ifCond .ne 58, 3) := by decide +kernel
theorem dX7_freed_202 : decode cX7_freed 202 = .ok (.aload_n 0, 1) := by decide +kernel
theorem dX7_freed_203 : decode cX7_freed 203 = .ok (.getfield 33, 3) := by decide +kernel
theorem dX7_freed_206 : decode cX7_freed 206 = .ok (.iload_n 1, 1) := by decide +kernel
theorem dX7_freed_207 : decode cX7_freed 207 = .ok (.aload_n 0, 1) := by decide +kernel
theorem dX7_freed_208 : decode cX7_freed 208 = .ok (.iload_n 3, 1) := by decide +kernel
theorem dX7_freed_209 : decode cX7_freed 209 = .ok (.aload_n 0, 1) := by decide +kernel
theorem dX7_freed_210 : decode cX7_freed 210 = .ok (.getfield 33, 3) := by decide +kernel
theorem dX7_freed_213 : decode cX7_freed 213 = .ok (.iload 4, 2) := by decide +kernel
theorem dX7_freed_215 : decode cX7_freed 215 = .ok (.iaload, 1) := by decide +kernel
theorem dX7_freed_216 : decode cX7_freed 216 = .ok (.aload_n 0, 1) := by decide +kernel
theorem dX7_freed_217 : decode cX7_freed 217 = .ok (.getfield 33, 3) := by decide +kernel
theorem dX7_freed_220 : decode cX7_freed 220 = .ok (.iload 5, 2) := by decide +kernel
theorem dX7_freed_222 : decode cX7_freed 222 = .ok (.iaload, 1) := by decide +kernel
theorem dX7_freed_223 : decode cX7_freed 223 = .ok (.invokevirtual 111, 3) := by decide +kernel
theorem dX7_freed_226 : decode cX7_freed 226 = .ok (.iastore, 1) := by decide +kernel
theorem dX7_freed_227 : decode cX7_freed 227 = .ok (.aload_n 0, 1) := by decide +kernel
theorem dX7_freed_228 : decode cX7_freed 228 = .ok (.aload_n 0, 1) := by decide +kernel
theorem dX7_freed_229 : decode cX7_freed 229 = .ok (.getfield 19, 3) := by decide +kernel
theorem dX7_freed_232 : decode cX7_freed 232 = .ok (.aload_n 0, 1) := by decide +kernel
theorem dX7_freed_233 : decode cX7_freed 233 = .ok (.getfield 33, 3) := by decide +kernel
theorem dX7_freed_236 : decode cX7_freed 236 = .ok (.iload_n 1, 1) := by decide +kernel
theorem dX7_freed_237 : decode cX7_freed 237 = .ok (.iaload, 1) := by decide +kernel
theorem dX7_freed_238 : decode cX7_freed 238 = .ok (.iaload, 1) := by decide +kernel
theorem dX7_freed_239 : decode cX7_freed 239 = .ok (.sipush 400, 3) := by decide +kernel
theorem dX7_freed_242 : decode cX7_freed 242 = .ok (.if_icmp .le 7, 3) := by decide +kernel
theorem dX7_freed_245 : decode cX7_freed 245 = .ok (.iconst 1, 1) := by decide +kernel
theorem dX7_freed_246 : decode cX7_freed 246 = .ok (.goto 4, 3) := by decide +kernel
theorem dX7_freed_249 : decode cX7_freed 249 = .ok (.iconst 0, 1) := by decide +kernel
theorem dX7_freed_250 : decode cX7_freed 250 = .ok (.putfield 99, 3) := by decide +kernel
theorem dX7_freed_253 : decode cX7_freed 253 = .ok (.aload_n 0, 1) := by decide +kernel
theorem dX7_freed_254 : decode cX7_freed 254 = .ok (.invokevirtual 216, 3) := by decide +kernel
theorem dX7_freed_257 : decode cX7_freed 257 = .ok (.aload_n 0, 1) := by decide +kernel
theorem dX7_freed_258 : decode cX7_freed 258 = .ok (.dup, 1) := by decide +kernel
theorem dX7_freed_259 : decode cX7_freed 259 = .ok (.getfield 72, 3) := by decide +kernel
theorem dX7_freed_262 : decode cX7_freed 262 = .ok (.iconst 2, 1) := by decide +kernel
theorem dX7_freed_263 : decode cX7_freed 263 = .ok (.isub, 1) := by decide +kernel
theorem dX7_freed_264 : decode cX7_freed 264 = .ok (.putfield 72, 3) := by decide +kernel
theorem dX7_freed_267 : decode cX7_freed 267 = .ok (.return_, 1) := by decide +kernel
theorem dX7_beginFreed_0 : decode cX7_beginFreed 0 = .ok (.aload_n 0, 1) := by decide +kernel
theorem dX7_beginFreed_1 : decode cX7_beginFreed 1 = .ok (.iconst 0, 1) := by decide +kernel
theorem dX7_beginFreed_2 : decode cX7_beginFreed 2 = .ok (.putfield 99, 3) := by decide +kernel
theorem dX7_beginFreed_5 : decode cX7_beginFreed 5 = .ok (.aload_n 0, 1) := by decide +kernel
theorem dX7_beginFreed_6 : decode cX7_beginFreed 6 = .ok (.iconst 0, 1) := by decide +kernel
theorem dX7_beginFreed_7 : decode cX7_beginFreed 7 = .ok (.putfield 213, 3) := by decide +kernel
theorem dX7_beginFreed_10 : decode cX7_beginFreed 10 = .ok (.aload_n 0, 1) := by decide +kernel
theorem dX7_beginFreed_11 : decode cX7_beginFreed 11 = .ok (.iconst 0, 1) := by decide +kernel
theorem dX7_beginFreed_12 : decode cX7_beginFreed 12 = .ok (.putfield 207, 3) := by decide +kernel
theorem dX7_beginFreed_15 : decode cX7_beginFreed 15 = .ok (.aload_n 0, 1) := by decide +kernel
theorem dX7_beginFreed_16 : decode cX7_beginFreed 16 = .ok (.iconst 0, 1) := by decide +kernel
theorem dX7_beginFreed_17 : decode cX7_beginFreed 17 = .ok (.putfield 204, 3) := by decide +kernel
theorem dX7_beginFreed_20 : decode cX7_beginFreed 20 = .ok (.return_, 1) := by decide +kernel
theorem dX7_frees_0 : decode cX7_frees 0 = .ok (.aload_n 0, 1) := by decide +kernel
theorem dX7_frees_1 : decode cX7_frees 1 = .ok (.iconst 0, 1) := by decide +kernel
theorem dX7_frees_2 : decode cX7_frees 2 = .ok (.putfield 76, 3) := by decide +kernel
theorem dX7_frees_5 : decode cX7_frees 5 = .ok (.aload_n 0, 1) := by decide +kernel
theorem dX7_frees_6 : decode cX7_frees 6 = .ok (.invokevirtual 88, 3) := by decide +kernel
theorem dX7_frees_9 : decode cX7_frees 9 = .ok (.aload_n 0, 1) := by decide +kernel
theorem dX7_frees_10 : decode cX7_frees 10 = .ok (.invokevirtual 226, 3) := by decide +kernel
theorem dX7_frees_13 : decode cX7_frees 13 = .ok (.aload_n 0, 1) := by decide +kernel
theorem dX7_frees_14 : decode cX7_frees 14 = .ok (.aload_n 0, 1) := by decide +kernel
theorem dX7_frees_15 : decode cX7_frees 15 = .ok (.getfield 33, 3) := by decide +kernel
theorem dX7_frees_18 : decode cX7_frees 18 = .ok (.iconst 0, 1) := by decide +kernel
theorem dX7_frees_19 : decode cX7_frees 19 = .ok (.iaload, 1) := by decide +kernel
theorem dX7_frees_20 : decode cX7_frees 20 = .ok (.invokevirtual 210, 3) := by decide +kernel
theorem dX7_frees_23 : decode cX7_frees 23 = .ok (.istore_n 1, 1) := by decide +kernel
theorem dX7_frees_24 : decode cX7_frees 24 = .ok (.aload_n 0, 1) := by decide +kernel
theorem dX7_frees_25 : decode cX7_frees 25 = .ok (.iload_n 1, 1) := by decide +kernel
theorem dX7_frees_26 : decode cX7_frees 26 = .ok (.invokevirtual 219, 3) := by decide +kernel
theorem dX7_frees_29 : decode cX7_frees 29 = .ok (.aload_n 0, 1) := by decide +kernel
theorem dX7_frees_30 : decode cX7_frees 30 = .ok (.getfield 33, 3) := by decide +kernel
theorem dX7_frees_33 : decode cX7_frees 33 = .ok (.iload_n 1, 1) := by decide +kernel
theorem dX7_frees_34 : decode cX7_frees 34 = .ok (.iaload, 1) := by decide +kernel
theorem dX7_frees_35 : decode cX7_frees 35 = .ok (.istore_n 2, 1) := by decide +kernel
theorem dX7_frees_36 : decode cX7_frees 36 = .ok (.aload_n 0, 1) := by decide +kernel
theorem dX7_frees_37 : decode cX7_frees 37 = .ok (.iconst 1, 1) := by decide +kernel
theorem dX7_frees_38 : decode cX7_frees 38 = .ok (.putfield 72, 3) := by decide +kernel
theorem dX7_frees_41 : decode cX7_frees 41 = .ok (.aload_n 0, 1) := by decide +kernel
theorem dX7_frees_42 : decode cX7_frees 42 = .ok (.getfield 99, 3) := by decide +kernel
theorem dX7_frees_45 : decode cX7_frees 45 = .ok (.ifCond .eq 6, 3) := by decide +kernel
theorem dX7_frees_48 : decode cX7_frees 48 = .ok (.bipush (-2), 2) := by decide +kernel
theorem dX7_frees_50 : decode cX7_frees 50 = .ok (.ireturn, 1) := by decide +kernel
theorem dX7_frees_51 : decode cX7_frees 51 = .ok (.aload_n 0, 1) := by decide +kernel
theorem dX7_frees_52 : decode cX7_frees 52 = .ok (.getfield 33, 3) := by decide +kernel
theorem dX7_frees_55 : decode cX7_frees 55 = .ok (.iconst 0, 1) := by decide +kernel
theorem dX7_frees_56 : decode cX7_frees 56 = .ok (.iload_n 2, 1) := by decide +kernel
theorem dX7_frees_57 : decode cX7_frees 57 = .ok (.iastore, 1) := by decide +kernel
theorem dX7_frees_58 : decode cX7_frees 58 = .ok (.aload_n 0, 1) := by decide +kernel
theorem dX7_frees_59 : decode cX7_frees 59 = .ok (.getfield 19, 3) := by decide +kernel
theorem dX7_frees_62 : decode cX7_frees 62 = .ok (.iload_n 2, 1) := by decide +kernel
theorem dX7_frees_63 : decode cX7_frees 63 = .ok (.iaload, 1) := by decide +kernel
theorem dX7_frees_64 : decode cX7_frees 64 = .ok (.ireturn, 1) := by decide +kernel
theorem dX7_value_0 : decode cX7_value 0 = .ok (.aload_n 0, 1) := by decide +kernel
theorem dX7_value_1 : decode cX7_value 1 = .ok (.iload_n 1, 1) := by decide +kernel
theorem dX7_value_2 : decode cX7_value 2 = .ok (.ifCond .lt 32, 3) := by decide +kernel
theorem dX7_value_5 : decode cX7_value 5 = .ok (.iload_n 1, 1) := by decide +kernel
theorem dX7_value_6 : decode cX7_value 6 = .ok (.bipush 7, 2) := by decide +kernel
theorem dX7_value_8 : decode cX7_value 8 = .ok (.if_icmp .gt 26, 3) := by decide +kernel
theorem dX7_value_11 : decode cX7_value 11 = .ok (.iload_n 2, 1) := by decide +kernel
theorem dX7_value_12 : decode cX7_value 12 = .ok (.bipush (-99), 2) := by decide +kernel
theorem dX7_value_14 : decode cX7_value 14 = .ok (.if_icmp .lt 20, 3) := by decide +kernel
theorem dX7_value_17 : decode cX7_value 17 = .ok (.iload_n 2, 1) := by decide +kernel
theorem dX7_value_18 : decode cX7_value 18 = .ok (.bipush 99, 2) := by decide +kernel
theorem dX7_value_20 : decode cX7_value 20 = .ok (.if_icmp .gt 14, 3) := by decide +kernel
theorem dX7_value_23 : decode cX7_value 23 = .ok (.iload_n 3, 1) := by decide +kernel
theorem dX7_value_24 : decode cX7_value 24 = .ok (.iconst 1, 1) := by decide +kernel
theorem dX7_value_25 : decode cX7_value 25 = .ok (.if_icmp .lt 9, 3) := by decide +kernel
theorem dX7_value_28 : decode cX7_value 28 = .ok (.iload_n 3, 1) := by decide +kernel
theorem dX7_value_29 : decode cX7_value 29 = .ok (.bipush 9, 2) := by decide +kernel
theorem dX7_value_31 : decode cX7_value 31 = .ok (.if_icmp .le 7, 3) := by decide +kernel
theorem dX7_value_34 : decode cX7_value 34 = .ok (.iconst 1, 1) := by decide +kernel
theorem dX7_value_35 : decode cX7_value 35 = .ok (.goto 4, 3) := by decide +kernel
theorem dX7_value_38 : decode cX7_value 38 = .ok (.iconst 0, 1) := by decide +kernel
theorem dX7_value_39 : decode cX7_value 39 = .ok (.putfield 76, 3) := by decide +kernel
theorem dX7_value_42 : decode cX7_value 42 = .ok (.aload_n 0, 1) := by decide +kernel
theorem dX7_value_43 : decode cX7_value 43 = .ok (.getfield 76, 3) := by decide +kernel
theorem dX7_value_46 : decode cX7_value 46 = .ok (.ifCond .ne 17, 3) := by decide +kernel
theorem dX7_value_49 : decode cX7_value 49 = .ok (.aload_n 0, 1) := by decide +kernel
theorem dX7_value_50 : decode cX7_value 50 = .ok (.getfield 46, 3) := by decide +kernel
theorem dX7_value_53 : decode cX7_value 53 = .ok (.iload_n 1, 1) := by decide +kernel
theorem dX7_value_54 : decode cX7_value 54 = .ok (.iload_n 2, 1) := by decide +kernel
theorem dX7_value_55 : decode cX7_value 55 = .ok (.iastore, 1) := by decide +kernel
theorem dX7_value_56 : decode cX7_value 56 = .ok (.aload_n 0, 1) := by decide +kernel
theorem dX7_value_57 : decode cX7_value 57 = .ok (.getfield 49, 3) := by decide +kernel
theorem dX7_value_60 : decode cX7_value 60 = .ok (.iload_n 1, 1) := by decide +kernel
theorem dX7_value_61 : decode cX7_value 61 = .ok (.iload_n 3, 1) := by decide +kernel
theorem dX7_value_62 : decode cX7_value 62 = .ok (.iastore, 1) := by decide +kernel
theorem dX7_value_63 : decode cX7_value 63 = .ok (.return_, 1) := by decide +kernel
theorem dX7_isTrue_0 : decode cX7_isTrue 0 = .ok (.aload_n 0, 1) := by decide +kernel
theorem dX7_isTrue_1 : decode cX7_isTrue 1 = .ok (.getfield 7, 3) := by decide +kernel
theorem dX7_isTrue_4 : decode cX7_isTrue 4 = .ok (.iload_n 1, 1) := by decide +kernel
theorem dX7_isTrue_5 : decode cX7_isTrue 5 = .ok (.iaload, 1) := by decide +kernel
theorem dX7_isTrue_6 : decode cX7_isTrue 6 = .ok (.iconst 2, 1) := by decide +kernel
theorem dX7_isTrue_7 : decode cX7_isTrue 7 = .ok (.if_icmp .ge 18, 3) := by decide +kernel
theorem dX7_isTrue_10 : decode cX7_isTrue 10 = .ok (.aload_n 0, 1) := by decide +kernel
theorem dX7_isTrue_11 : decode cX7_isTrue 11 = .ok (.getfield 7, 3) := by decide +kernel
theorem dX7_isTrue_14 : decode cX7_isTrue 14 = .ok (.iload_n 1, 1) := by decide +kernel
theorem dX7_isTrue_15 : decode cX7_isTrue 15 = .ok (.iaload, 1) := by decide +kernel
theorem dX7_isTrue_16 : decode cX7_isTrue 16 = .ok (.ifCond .ne 7, 3) := by decide +kernel
theorem dX7_isTrue_19 : decode cX7_isTrue 19 = .ok (.iconst 1, 1) := by decide +kernel
theorem dX7_isTrue_20 : decode cX7_isTrue 20 = .ok (.goto 4, 3) := by decide +kernel
theorem dX7_isTrue_23 : decode cX7_isTrue 23 = .ok (.iconst 0, 1) := by decide +kernel
theorem dX7_isTrue_24 : decode cX7_isTrue 24 = .ok (.ireturn, 1) := by decide +kernel
theorem dX7_isTrue_25 : decode cX7_isTrue 25 = .ok (.aload_n 0, 1) := by decide +kernel
theorem dX7_isTrue_26 : decode cX7_isTrue 26 = .ok (.getfield 7, 3) := by decide +kernel
theorem dX7_isTrue_29 : decode cX7_isTrue 29 = .ok (.iload_n 1, 1) := by decide +kernel
theorem dX7_isTrue_30 : decode cX7_isTrue 30 = .ok (.iaload, 1) := by decide +kernel
theorem dX7_isTrue_31 : decode cX7_isTrue 31 = .ok (.iconst 2, 1) := by decide +kernel
theorem dX7_isTrue_32 : decode cX7_isTrue 32 = .ok (.if_icmp .ne 154, 3) := by decide +kernel
theorem dX7_isTrue_35 : decode cX7_isTrue 35 = .ok (.ldc2_w 229, 3) := by decide +kernel
theorem dX7_isTrue_38 : decode cX7_isTrue 38 = .ok (.aload_n 0, 1) := by decide +kernel
theorem dX7_isTrue_39 : decode cX7_isTrue 39 = .ok (.getfield 26, 3) := by decide +kernel
theorem dX7_isTrue_42 : decode cX7_isTrue 42 = .ok (.bipush 9, 2) := by decide +kernel
theorem dX7_isTrue_44 : decode cX7_isTrue 44 = .ok (.iload_n 1, 1) := by decide +kernel
theorem dX7_isTrue_45 : decode cX7_isTrue 45 = .ok (.imul, 1) := by decide +kernel
theorem dX7_isTrue_46 : decode cX7_isTrue 46 = .ok (.bipush 8, 2) := by decide +kernel
theorem dX7_isTrue_48 : decode cX7_isTrue 48 = .ok (.iadd, 1) := by decide +kernel
theorem dX7_isTrue_49 : decode cX7_isTrue 49 = .ok (.iaload, 1) := by decide +kernel
theorem dX7_isTrue_50 : decode cX7_isTrue 50 = .ok (.i2l, 1) := by decide +kernel
theorem dX7_isTrue_51 : decode cX7_isTrue 51 = .ok (.lmul, 1) := by decide +kernel
theorem dX7_isTrue_52 : decode cX7_isTrue 52 = .ok (.lstore_n 2, 1) := by decide +kernel
theorem dX7_isTrue_53 : decode cX7_isTrue 53 = .ok (.iconst 0, 1) := by decide +kernel
theorem dX7_isTrue_54 : decode cX7_isTrue 54 = .ok (.istore 4, 2) := by decide +kernel
theorem dX7_isTrue_56 : decode cX7_isTrue 56 = .ok (.iload 4, 2) := by decide +kernel
theorem dX7_isTrue_58 : decode cX7_isTrue 58 = .ok (.bipush 8, 2) := by decide +kernel
theorem dX7_isTrue_60 : decode cX7_isTrue 60 = .ok (.if_icmp .ge 47, 3) := by decide +kernel
theorem dX7_isTrue_63 : decode cX7_isTrue 63 = .ok (.lload_n 2, 1) := by decide +kernel
theorem dX7_isTrue_64 : decode cX7_isTrue 64 = .ok (.aload_n 0, 1) := by decide +kernel
theorem dX7_isTrue_65 : decode cX7_isTrue 65 = .ok (.getfield 26, 3) := by decide +kernel
theorem dX7_isTrue_68 : decode cX7_isTrue 68 = .ok (.bipush 9, 2) := by decide +kernel
theorem dX7_isTrue_70 : decode cX7_isTrue 70 = .ok (.iload_n 1, 1) := by decide +kernel
theorem dX7_isTrue_71 : decode cX7_isTrue 71 = .ok (.imul, 1) := by decide +kernel
theorem dX7_isTrue_72 : decode cX7_isTrue 72 = .ok (.iload 4, 2) := by decide +kernel
theorem dX7_isTrue_74 : decode cX7_isTrue 74 = .ok (.iadd, 1) := by decide +kernel
theorem dX7_isTrue_75 : decode cX7_isTrue 75 = .ok (.iaload, 1) := by decide +kernel
theorem dX7_isTrue_76 : decode cX7_isTrue 76 = .ok (.i2l, 1) := by decide +kernel
theorem dX7_isTrue_77 : decode cX7_isTrue 77 = .ok (.aload_n 0, 1) := by decide +kernel
theorem dX7_isTrue_78 : decode cX7_isTrue 78 = .ok (.getfield 46, 3) := by decide +kernel
theorem dX7_isTrue_81 : decode cX7_isTrue 81 = .ok (.iload 4, 2) := by decide +kernel
theorem dX7_isTrue_83 : decode cX7_isTrue 83 = .ok (.iaload, 1) := by decide +kernel
theorem dX7_isTrue_84 : decode cX7_isTrue 84 = .ok (.i2l, 1) := by decide +kernel
theorem dX7_isTrue_85 : decode cX7_isTrue 85 = .ok (.lmul, 1) := by decide +kernel
theorem dX7_isTrue_86 : decode cX7_isTrue 86 = .ok (.ldc2_w 229, 3) := by decide +kernel
theorem dX7_isTrue_89 : decode cX7_isTrue 89 = .ok (.aload_n 0, 1) := by decide +kernel
theorem dX7_isTrue_90 : decode cX7_isTrue 90 = .ok (.getfield 49, 3) := by decide +kernel
theorem dX7_isTrue_93 : decode cX7_isTrue 93 = .ok (.iload 4, 2) := by decide +kernel
theorem dX7_isTrue_95 : decode cX7_isTrue 95 = .ok (.iaload, 1) := by decide +kernel
theorem dX7_isTrue_96 : decode cX7_isTrue 96 = .ok (.i2l, 1) := by decide +kernel
theorem dX7_isTrue_97 : decode cX7_isTrue 97 = .ok (.ldiv, 1) := by decide +kernel
theorem dX7_isTrue_98 : decode cX7_isTrue 98 = .ok (.lmul, 1) := by decide +kernel
theorem dX7_isTrue_99 : decode cX7_isTrue 99 = .ok (.ladd, 1) := by decide +kernel
theorem dX7_isTrue_100 : decode cX7_isTrue 100 = .ok (.lstore_n 2, 1) := by decide +kernel
theorem dX7_isTrue_101 : decode cX7_isTrue 101 = .ok (.iinc 4 1, 3) := by decide +kernel
theorem dX7_isTrue_104 : decode cX7_isTrue 104 = .ok (.goto (-48), 3) := by decide +kernel
theorem dX7_isTrue_107 : decode cX7_isTrue 107 = .ok (.aload_n 0, 1) := by decide +kernel
theorem dX7_isTrue_108 : decode cX7_isTrue 108 = .ok (.getfield 13, 3) := by decide +kernel
theorem dX7_isTrue_111 : decode cX7_isTrue 111 = .ok (.iload_n 1, 1) := by decide +kernel
theorem dX7_isTrue_112 : decode cX7_isTrue 112 = .ok (.iaload, 1) := by decide +kernel
theorem dX7_isTrue_113 : decode cX7_isTrue 113 = .ok (.istore 4, 2) := by decide +kernel
theorem dX7_isTrue_115 : decode cX7_isTrue 115 = .ok (.iload 4, 2) := by decide +kernel
theorem dX7_isTrue_117 : decode cX7_isTrue 117 = .ok (.ifCond .ne 17, 3) := by decide +kernel
theorem dX7_isTrue_120 : decode cX7_isTrue 120 = .ok (.lload_n 2, 1) := by decide +kernel
theorem dX7_isTrue_121 : decode cX7_isTrue 121 = .ok (.lconst 0, 1) := by decide +kernel
theorem dX7_isTrue_122 : decode cX7_isTrue 122 = .ok (.lcmp, 1) := by decide +kernel
theorem dX7_isTrue_123 : decode cX7_isTrue 123 = .ok (.ifCond .ne 7, 3) := by decide +kernel
theorem dX7_isTrue_126 : decode cX7_isTrue 126 = .ok (.iconst 1, 1) := by decide +kernel
theorem dX7_isTrue_127 : decode cX7_isTrue 127 = .ok (.goto 58, 3) := by decide +kernel
theorem dX7_isTrue_130 : decode cX7_isTrue 130 = .ok (.iconst 0, 1) := by decide +kernel
theorem dX7_isTrue_131 : decode cX7_isTrue 131 = .ok (.goto 54, 3) := by decide +kernel
theorem dX7_isTrue_134 : decode cX7_isTrue 134 = .ok (.iload 4, 2) := by decide +kernel
theorem dX7_isTrue_136 : decode cX7_isTrue 136 = .ok (.iconst 1, 1) := by decide +kernel
theorem dX7_isTrue_137 : decode cX7_isTrue 137 = .ok (.if_icmp .ne 17, 3) := by decide +kernel
theorem dX7_isTrue_140 : decode cX7_isTrue 140 = .ok (.lload_n 2, 1) := by decide +kernel
theorem dX7_isTrue_141 : decode cX7_isTrue 141 = .ok (.lconst 0, 1) := by decide +kernel
theorem dX7_isTrue_142 : decode cX7_isTrue 142 = .ok (.lcmp, 1) := by decide +kernel
theorem dX7_isTrue_143 : decode cX7_isTrue 143 = .ok (.ifCond .eq 7, 3) := by decide +kernel
theorem dX7_isTrue_146 : decode cX7_isTrue 146 = .ok (.iconst 1, 1) := by decide +kernel
theorem dX7_isTrue_147 : decode cX7_isTrue 147 = .ok (.goto 38, 3) := by decide +kernel
theorem dX7_isTrue_150 : decode cX7_isTrue 150 = .ok (.iconst 0, 1) := by decide +kernel
theorem dX7_isTrue_151 : decode cX7_isTrue 151 = .ok (.goto 34, 3) := by decide +kernel
theorem dX7_isTrue_154 : decode cX7_isTrue 154 = .ok (.iload 4, 2) := by decide +kernel
theorem dX7_isTrue_156 : decode cX7_isTrue 156 = .ok (.iconst 2, 1) := by decide +kernel
theorem dX7_isTrue_157 : decode cX7_isTrue 157 = .ok (.if_icmp .ne 17, 3) := by decide +kernel
theorem dX7_isTrue_160 : decode cX7_isTrue 160 = .ok (.lload_n 2, 1) := by decide +kernel
theorem dX7_isTrue_161 : decode cX7_isTrue 161 = .ok (.lconst 0, 1) := by decide +kernel
theorem dX7_isTrue_162 : decode cX7_isTrue 162 = .ok (.lcmp, 1) := by decide +kernel
theorem dX7_isTrue_163 : decode cX7_isTrue 163 = .ok (.ifCond .ge 7, 3) := by decide +kernel
theorem dX7_isTrue_166 : decode cX7_isTrue 166 = .ok (.iconst 1, 1) := by decide +kernel
theorem dX7_isTrue_167 : decode cX7_isTrue 167 = .ok (.goto 18, 3) := by decide +kernel
theorem dX7_isTrue_170 : decode cX7_isTrue 170 = .ok (.iconst 0, 1) := by decide +kernel
theorem dX7_isTrue_171 : decode cX7_isTrue 171 = .ok (.goto 14, 3) := by decide +kernel
theorem dX7_isTrue_174 : decode cX7_isTrue 174 = .ok (.lload_n 2, 1) := by decide +kernel
theorem dX7_isTrue_175 : decode cX7_isTrue 175 = .ok (.lconst 0, 1) := by decide +kernel
theorem dX7_isTrue_176 : decode cX7_isTrue 176 = .ok (.lcmp, 1) := by decide +kernel
theorem dX7_isTrue_177 : decode cX7_isTrue 177 = .ok (.ifCond .gt 7, 3) := by decide +kernel
theorem dX7_isTrue_180 : decode cX7_isTrue 180 = .ok (.iconst 1, 1) := by decide +kernel
theorem dX7_isTrue_181 : decode cX7_isTrue 181 = .ok (.goto 4, 3) := by decide +kernel
theorem dX7_isTrue_184 : decode cX7_isTrue 184 = .ok (.iconst 0, 1) := by decide +kernel
theorem dX7_isTrue_185 : decode cX7_isTrue 185 = .ok (.ireturn, 1) := by decide +kernel
theorem dX7_isTrue_186 : decode cX7_isTrue 186 = .ok (.aload_n 0, 1) := by decide +kernel
theorem dX7_isTrue_187 : decode cX7_isTrue 187 = .ok (.aload_n 0, 1) := by decide +kernel
theorem dX7_isTrue_188 : decode cX7_isTrue 188 = .ok (.getfield 13, 3) := by decide +kernel
theorem dX7_isTrue_191 : decode cX7_isTrue 191 = .ok (.iload_n 1, 1) := by decide +kernel
theorem dX7_isTrue_192 : decode cX7_isTrue 192 = .ok (.iaload, 1) := by decide +kernel
theorem dX7_isTrue_193 : decode cX7_isTrue 193 = .ok (.invokevirtual 231, 3) := by decide +kernel
theorem dX7_isTrue_196 : decode cX7_isTrue 196 = .ok (.istore_n 2, 1) := by decide +kernel
theorem dX7_isTrue_197 : decode cX7_isTrue 197 = .ok (.aload_n 0, 1) := by decide +kernel
theorem dX7_isTrue_198 : decode cX7_isTrue 198 = .ok (.aload_n 0, 1) := by decide +kernel
theorem dX7_isTrue_199 : decode cX7_isTrue 199 = .ok (.getfield 16, 3) := by decide +kernel
theorem dX7_isTrue_202 : decode cX7_isTrue 202 = .ok (.iload_n 1, 1) := by decide +kernel
theorem dX7_isTrue_203 : decode cX7_isTrue 203 = .ok (.iaload, 1) := by decide +kernel
theorem dX7_isTrue_204 : decode cX7_isTrue 204 = .ok (.invokevirtual 231, 3) := by decide +kernel
theorem dX7_isTrue_207 : decode cX7_isTrue 207 = .ok (.istore_n 3, 1) := by decide +kernel
theorem dX7_isTrue_208 : decode cX7_isTrue 208 = .ok (.aload_n 0, 1) := by decide +kernel
theorem dX7_isTrue_209 : decode cX7_isTrue 209 = .ok (.getfield 7, 3) := by decide +kernel
theorem dX7_isTrue_212 : decode cX7_isTrue 212 = .ok (.iload_n 1, 1) := by decide +kernel
theorem dX7_isTrue_213 : decode cX7_isTrue 213 = .ok (.iaload, 1) := by decide +kernel
theorem dX7_isTrue_214 : decode cX7_isTrue 214 = .ok (.iconst 3, 1) := by decide +kernel
theorem dX7_isTrue_215 : decode cX7_isTrue 215 = .ok (.if_icmp .ne 19, 3) := by decide +kernel
theorem dX7_isTrue_218 : decode cX7_isTrue 218 = .ok (.iload_n 2, 1) := by decide +kernel
theorem dX7_isTrue_219 : decode cX7_isTrue 219 = .ok (.ifCond .eq 11, 3) := by decide +kernel
theorem dX7_isTrue_222 : decode cX7_isTrue 222 = .ok (.iload_n 3, 1) := by decide +kernel
theorem dX7_isTrue_223 : decode cX7_isTrue 223 = .ok (.ifCond .eq 7, 3) := by decide +kernel
theorem dX7_isTrue_226 : decode cX7_isTrue 226 = .ok (.iconst 1, 1) := by decide +kernel
theorem dX7_isTrue_227 : decode cX7_isTrue 227 = .ok (.goto 20, 3) := by decide +kernel
theorem dX7_isTrue_230 : decode cX7_isTrue 230 = .ok (.iconst 0, 1) := by decide +kernel
theorem dX7_isTrue_231 : decode cX7_isTrue 231 = .ok (.goto 16, 3) := by decide +kernel
theorem dX7_isTrue_234 : decode cX7_isTrue 234 = .ok (.iload_n 2, 1) := by decide +kernel
theorem dX7_isTrue_235 : decode cX7_isTrue 235 = .ok (.ifCond .ne 7, 3) := by decide +kernel
theorem dX7_isTrue_238 : decode cX7_isTrue 238 = .ok (.iload_n 3, 1) := by decide +kernel
theorem dX7_isTrue_239 : decode cX7_isTrue 239 = .ok (.ifCond .eq 7, 3) := by decide +kernel
theorem dX7_isTrue_242 : decode cX7_isTrue 242 = .ok (.iconst 1, 1) := by decide +kernel
theorem dX7_isTrue_243 : decode cX7_isTrue 243 = .ok (.goto 4, 3) := by decide +kernel
theorem dX7_isTrue_246 : decode cX7_isTrue 246 = .ok (.iconst 0, 1) := by decide +kernel
theorem dX7_isTrue_247 : decode cX7_isTrue 247 = .ok (.ireturn, 1) := by decide +kernel
theorem dX7_holds_0 : decode cX7_holds 0 = .ok (.aload_n 0, 1) := by decide +kernel
theorem dX7_holds_1 : decode cX7_holds 1 = .ok (.aload_n 0, 1) := by decide +kernel
theorem dX7_holds_2 : decode cX7_holds 2 = .ok (.aload_n 0, 1) := by decide +kernel
theorem dX7_holds_3 : decode cX7_holds 3 = .ok (.getfield 33, 3) := by decide +kernel
theorem dX7_holds_6 : decode cX7_holds 6 = .ok (.iconst 0, 1) := by decide +kernel
theorem dX7_holds_7 : decode cX7_holds 7 = .ok (.iaload, 1) := by decide +kernel
theorem dX7_holds_8 : decode cX7_holds 8 = .ok (.iconst 2, 1) := by decide +kernel
theorem dX7_holds_9 : decode cX7_holds 9 = .ok (.invokevirtual 234, 3) := by decide +kernel
theorem dX7_holds_12 : decode cX7_holds 12 = .ok (.ifCond .le 7, 3) := by decide +kernel
theorem dX7_holds_15 : decode cX7_holds 15 = .ok (.iconst 1, 1) := by decide +kernel
theorem dX7_holds_16 : decode cX7_holds 16 = .ok (.goto 4, 3) := by decide +kernel
theorem dX7_holds_19 : decode cX7_holds 19 = .ok (.iconst 0, 1) := by decide +kernel
theorem dX7_holds_20 : decode cX7_holds 20 = .ok (.putfield 76, 3) := by decide +kernel
theorem dX7_holds_23 : decode cX7_holds 23 = .ok (.aload_n 0, 1) := by decide +kernel
theorem dX7_holds_24 : decode cX7_holds 24 = .ok (.getfield 76, 3) := by decide +kernel
theorem dX7_holds_27 : decode cX7_holds 27 = .ok (.ifCond .le 7, 3) := by decide +kernel
theorem dX7_holds_30 : decode cX7_holds 30 = .ok (.iconst 0, 1) := by decide +kernel
theorem dX7_holds_31 : decode cX7_holds 31 = .ok (.goto 21, 3) := by decide +kernel
theorem dX7_holds_34 : decode cX7_holds 34 = .ok (.aload_n 0, 1) := by decide +kernel
theorem dX7_holds_35 : decode cX7_holds 35 = .ok (.aload_n 0, 1) := by decide +kernel
theorem dX7_holds_36 : decode cX7_holds 36 = .ok (.getfield 33, 3) := by decide +kernel
theorem dX7_holds_39 : decode cX7_holds 39 = .ok (.iconst 0, 1) := by decide +kernel
theorem dX7_holds_40 : decode cX7_holds 40 = .ok (.iaload, 1) := by decide +kernel
theorem dX7_holds_41 : decode cX7_holds 41 = .ok (.invokevirtual 231, 3) := by decide +kernel
theorem dX7_holds_44 : decode cX7_holds 44 = .ok (.ifCond .eq 7, 3) := by decide +kernel
theorem dX7_holds_47 : decode cX7_holds 47 = .ok (.iconst 1, 1) := by decide +kernel
theorem dX7_holds_48 : decode cX7_holds 48 = .ok (.goto 4, 3) := by decide +kernel
theorem dX7_holds_51 : decode cX7_holds 51 = .ok (.iconst 0, 1) := by decide +kernel
theorem dX7_holds_52 : decode cX7_holds 52 = .ok (.ireturn, 1) := by decide +kernel
theorem dX7_valued_0 : decode cX7_valued 0 = .ok (.aload_n 0, 1) := by decide +kernel
theorem dX7_valued_1 : decode cX7_valued 1 = .ok (.getfield 22, 3) := by decide +kernel
theorem dX7_valued_4 : decode cX7_valued 4 = .ok (.iload_n 1, 1) := by decide +kernel
theorem dX7_valued_5 : decode cX7_valued 5 = .ok (.iaload, 1) := by decide +kernel
theorem dX7_valued_6 : decode cX7_valued 6 = .ok (.aload_n 0, 1) := by decide +kernel
theorem dX7_valued_7 : decode cX7_valued 7 = .ok (.getfield 184, 3) := by decide +kernel
theorem dX7_valued_10 : decode cX7_valued 10 = .ok (.ishr, 1) := by decide +kernel
theorem dX7_valued_11 : decode cX7_valued 11 = .ok (.iconst 1, 1) := by decide +kernel
theorem dX7_valued_12 : decode cX7_valued 12 = .ok (.iand, 1) := by decide +kernel
theorem dX7_valued_13 : decode cX7_valued 13 = .ok (.ifCond .eq 10, 3) := by decide +kernel
theorem dX7_valued_16 : decode cX7_valued 16 = .ok (.aload_n 0, 1) := by decide +kernel
theorem dX7_valued_17 : decode cX7_valued 17 = .ok (.getfield 99, 3) := by decide +kernel
theorem dX7_valued_20 : decode cX7_valued 20 = .ok (.ifCond .eq 5, 3) := by decide +kernel
theorem dX7_valued_23 : decode cX7_valued 23 = .ok (.iload_n 1, 1) := by decide +kernel
theorem dX7_valued_24 : decode cX7_valued 24 = .ok (.ireturn, 1) := by decide +kernel
theorem dX7_valued_25 : decode cX7_valued 25 = .ok (.aload_n 0, 1) := by decide +kernel
theorem dX7_valued_26 : decode cX7_valued 26 = .ok (.getfield 7, 3) := by decide +kernel
theorem dX7_valued_29 : decode cX7_valued 29 = .ok (.iload_n 1, 1) := by decide +kernel
theorem dX7_valued_30 : decode cX7_valued 30 = .ok (.iaload, 1) := by decide +kernel
theorem dX7_valued_31 : decode cX7_valued 31 = .ok (.iconst 2, 1) := by decide +kernel
theorem dX7_valued_32 : decode cX7_valued 32 = .ok (.if_icmp .ne 122, 3) := by decide +kernel
theorem dX7_valued_35 : decode cX7_valued 35 = .ok (.aload_n 0, 1) := by decide +kernel
theorem dX7_valued_36 : decode cX7_valued 36 = .ok (.getfield 46, 3) := by decide +kernel
theorem dX7_valued_39 : decode cX7_valued 39 = .ok (.aload_n 0, 1) := by decide +kernel
theorem dX7_valued_40 : decode cX7_valued 40 = .ok (.getfield 184, 3) := by decide +kernel
theorem dX7_valued_43 : decode cX7_valued 43 = .ok (.iaload, 1) := by decide +kernel
theorem dX7_valued_44 : decode cX7_valued 44 = .ok (.i2l, 1) := by decide +kernel
theorem dX7_valued_45 : decode cX7_valued 45 = .ok (.lstore_n 2, 1) := by decide +kernel
theorem dX7_valued_46 : decode cX7_valued 46 = .ok (.aload_n 0, 1) := by decide +kernel
theorem dX7_valued_47 : decode cX7_valued 47 = .ok (.getfield 49, 3) := by decide +kernel
theorem dX7_valued_50 : decode cX7_valued 50 = .ok (.aload_n 0, 1) := by decide +kernel
theorem dX7_valued_51 : decode cX7_valued 51 = .ok (.getfield 184, 3) := by decide +kernel
theorem dX7_valued_54 : decode cX7_valued 54 = .ok (.iaload, 1) := by decide +kernel
theorem dX7_valued_55 : decode cX7_valued 55 = .ok (.i2l, 1) := by decide +kernel
theorem dX7_valued_56 : decode cX7_valued 56 = .ok (.lstore 4, 2) := by decide +kernel
theorem dX7_valued_58 : decode cX7_valued 58 = .ok (.aload_n 0, 1) := by decide +kernel
theorem dX7_valued_59 : decode cX7_valued 59 = .ok (.getfield 26, 3) := by decide +kernel
theorem dX7_valued_62 : decode cX7_valued 62 = .ok (.bipush 9, 2) := by decide +kernel
theorem dX7_valued_64 : decode cX7_valued 64 = .ok (.iload_n 1, 1) := by decide +kernel
theorem dX7_valued_65 : decode cX7_valued 65 = .ok (.imul, 1) := by decide +kernel
theorem dX7_valued_66 : decode cX7_valued 66 = .ok (.aload_n 0, 1) := by decide +kernel
theorem dX7_valued_67 : decode cX7_valued 67 = .ok (.getfield 184, 3) := by decide +kernel
theorem dX7_valued_70 : decode cX7_valued 70 = .ok (.iadd, 1) := by decide +kernel
theorem dX7_valued_71 : decode cX7_valued 71 = .ok (.iaload, 1) := by decide +kernel
theorem dX7_valued_72 : decode cX7_valued 72 = .ok (.i2l, 1) := by decide +kernel
theorem dX7_valued_73 : decode cX7_valued 73 = .ok (.lstore 6, 2) := by decide +kernel
theorem dX7_valued_75 : decode cX7_valued 75 = .ok (.iconst 0, 1) := by decide +kernel
theorem dX7_valued_76 : decode cX7_valued 76 = .ok (.istore 8, 2) := by decide +kernel
theorem dX7_valued_78 : decode cX7_valued 78 = .ok (.iload 8, 2) := by decide +kernel
theorem dX7_valued_80 : decode cX7_valued 80 = .ok (.bipush 9, 2) := by decide +kernel
theorem dX7_valued_82 : decode cX7_valued 82 = .ok (.if_icmp .ge 61, 3) := by decide +kernel
theorem dX7_valued_85 : decode cX7_valued 85 = .ok (.aload_n 0, 1) := by decide +kernel
theorem dX7_valued_86 : decode cX7_valued 86 = .ok (.getfield 52, 3) := by decide +kernel
theorem dX7_valued_89 : decode cX7_valued 89 = .ok (.iload 8, 2) := by decide +kernel
theorem dX7_valued_91 : decode cX7_valued 91 = .ok (.iload 8, 2) := by decide +kernel
theorem dX7_valued_93 : decode cX7_valued 93 = .ok (.aload_n 0, 1) := by decide +kernel
theorem dX7_valued_94 : decode cX7_valued 94 = .ok (.getfield 184, 3) := by decide +kernel
theorem dX7_valued_97 : decode cX7_valued 97 = .ok (.if_icmp .ne 7, 3) := by decide +kernel
theorem dX7_valued_100 : decode cX7_valued 100 = .ok (.lconst 0, 1) := by decide +kernel
theorem dX7_valued_101 : decode cX7_valued 101 = .ok (.goto 35, 3) := by decide +kernel
theorem dX7_valued_104 : decode cX7_valued 104 = .ok (.lload 4, 2) := by decide +kernel
theorem dX7_valued_106 : decode cX7_valued 106 = .ok (.aload_n 0, 1) := by decide +kernel
theorem dX7_valued_107 : decode cX7_valued 107 = .ok (.getfield 26, 3) := by decide +kernel
theorem dX7_valued_110 : decode cX7_valued 110 = .ok (.bipush 9, 2) := by decide +kernel
theorem dX7_valued_112 : decode cX7_valued 112 = .ok (.iload_n 1, 1) := by decide +kernel
theorem dX7_valued_113 : decode cX7_valued 113 = .ok (.imul, 1) := by decide +kernel
theorem dX7_valued_114 : decode cX7_valued 114 = .ok (.iload 8, 2) := by decide +kernel
theorem dX7_valued_116 : decode cX7_valued 116 = .ok (.iadd, 1) := by decide +kernel
theorem dX7_valued_117 : decode cX7_valued 117 = .ok (.iaload, 1) := by decide +kernel
theorem dX7_valued_118 : decode cX7_valued 118 = .ok (.i2l, 1) := by decide +kernel
theorem dX7_valued_119 : decode cX7_valued 119 = .ok (.lmul, 1) := by decide +kernel
theorem dX7_valued_120 : decode cX7_valued 120 = .ok (.iload 8, 2) := by decide +kernel
theorem dX7_valued_122 : decode cX7_valued 122 = .ok (.bipush 8, 2) := by decide +kernel
theorem dX7_valued_124 : decode cX7_valued 124 = .ok (.if_icmp .ne 10, 3) := by decide +kernel
theorem dX7_valued_127 : decode cX7_valued 127 = .ok (.lload_n 2, 1) := by decide +kernel
theorem dX7_valued_128 : decode cX7_valued 128 = .ok (.lload 6, 2) := by decide +kernel
theorem dX7_valued_130 : decode cX7_valued 130 = .ok (.lmul, 1) := by decide +kernel
theorem dX7_valued_131 : decode cX7_valued 131 = .ok (.goto 4, 3) := by decide +kernel
theorem dX7_valued_134 : decode cX7_valued 134 = .ok (.lconst 0, 1) := by decide +kernel
theorem dX7_valued_135 : decode cX7_valued 135 = .ok (.ladd, 1) := by decide +kernel
theorem dX7_valued_136 : decode cX7_valued 136 = .ok (.lastore, 1) := by decide +kernel
theorem dX7_valued_137 : decode cX7_valued 137 = .ok (.iinc 8 1, 3) := by decide +kernel
theorem dX7_valued_140 : decode cX7_valued 140 = .ok (.goto (-62), 3) := by decide +kernel
theorem dX7_valued_143 : decode cX7_valued 143 = .ok (.aload_n 0, 1) := by decide +kernel
theorem dX7_valued_144 : decode cX7_valued 144 = .ok (.aload_n 0, 1) := by decide +kernel
theorem dX7_valued_145 : decode cX7_valued 145 = .ok (.getfield 13, 3) := by decide +kernel
theorem dX7_valued_148 : decode cX7_valued 148 = .ok (.iload_n 1, 1) := by decide +kernel
theorem dX7_valued_149 : decode cX7_valued 149 = .ok (.iaload, 1) := by decide +kernel
theorem dX7_valued_150 : decode cX7_valued 150 = .ok (.invokevirtual 168, 3) := by decide +kernel
theorem dX7_valued_153 : decode cX7_valued 153 = .ok (.ireturn, 1) := by decide +kernel
theorem dX7_valued_154 : decode cX7_valued 154 = .ok (.aload_n 0, 1) := by decide +kernel
theorem dX7_valued_155 : decode cX7_valued 155 = .ok (.getfield 7, 3) := by decide +kernel
theorem dX7_valued_158 : decode cX7_valued 158 = .ok (.iload_n 1, 1) := by decide +kernel
theorem dX7_valued_159 : decode cX7_valued 159 = .ok (.iaload, 1) := by decide +kernel
theorem dX7_valued_160 : decode cX7_valued 160 = .ok (.iconst 5, 1) := by decide +kernel
theorem dX7_valued_161 : decode cX7_valued 161 = .ok (.if_icmp .lt 52, 3) := by decide +kernel
theorem dX7_valued_164 : decode cX7_valued 164 = .ok (.aload_n 0, 1) := by decide +kernel
theorem dX7_valued_165 : decode cX7_valued 165 = .ok (.aload_n 0, 1) := by decide +kernel
theorem dX7_valued_166 : decode cX7_valued 166 = .ok (.getfield 16, 3) := by decide +kernel
theorem dX7_valued_169 : decode cX7_valued 169 = .ok (.iload_n 1, 1) := by decide +kernel
theorem dX7_valued_170 : decode cX7_valued 170 = .ok (.iaload, 1) := by decide +kernel
theorem dX7_valued_171 : decode cX7_valued 171 = .ok (.invokevirtual 238, 3) := by decide +kernel
theorem dX7_valued_174 : decode cX7_valued 174 = .ok (.istore_n 2, 1) := by decide +kernel
theorem dX7_valued_175 : decode cX7_valued 175 = .ok (.aload_n 0, 1) := by decide +kernel
theorem dX7_valued_176 : decode cX7_valued 176 = .ok (.getfield 99, 3) := by decide +kernel
theorem dX7_valued_179 : decode cX7_valued 179 = .ok (.ifCond .eq 7, 3) := by decide +kernel
theorem dX7_valued_182 : decode cX7_valued 182 = .ok (.iconst 0, 1) := by decide +kernel
theorem dX7_valued_183 : decode cX7_valued 183 = .ok (.goto 29, 3) := by decide +kernel
theorem dX7_valued_186 : decode cX7_valued 186 = .ok (.aload_n 0, 1) := by decide +kernel
theorem dX7_valued_187 : decode cX7_valued 187 = .ok (.aload_n 0, 1) := by decide +kernel
theorem dX7_valued_188 : decode cX7_valued 188 = .ok (.getfield 7, 3) := by decide +kernel
theorem dX7_valued_191 : decode cX7_valued 191 = .ok (.iload_n 1, 1) := by decide +kernel
theorem dX7_valued_192 : decode cX7_valued 192 = .ok (.iaload, 1) := by decide +kernel
theorem dX7_valued_193 : decode cX7_valued 193 = .ok (.iconst 5, 1) := by decide +kernel
theorem dX7_valued_194 : decode cX7_valued 194 = .ok (.if_icmp .ne 7, 3) := by decide +kernel
theorem dX7_valued_197 : decode cX7_valued 197 = .ok (.iconst 1, 1) := by decide +kernel
theorem dX7_valued_198 : decode cX7_valued 198 = .ok (.goto 4, 3) := by decide +kernel
theorem dX7_valued_201 : decode cX7_valued 201 = .ok (.iconst 0, 1) := by decide +kernel
theorem dX7_valued_202 : decode cX7_valued 202 = .ok (.aload_n 0, 1) := by decide +kernel
theorem dX7_valued_203 : decode cX7_valued 203 = .ok (.getfield 13, 3) := by decide +kernel
theorem dX7_valued_206 : decode cX7_valued 206 = .ok (.iload_n 1, 1) := by decide +kernel
theorem dX7_valued_207 : decode cX7_valued 207 = .ok (.iaload, 1) := by decide +kernel
theorem dX7_valued_208 : decode cX7_valued 208 = .ok (.iload_n 2, 1) := by decide +kernel
theorem dX7_valued_209 : decode cX7_valued 209 = .ok (.invokevirtual 159, 3) := by decide +kernel
theorem dX7_valued_212 : decode cX7_valued 212 = .ok (.ireturn, 1) := by decide +kernel
theorem dX7_valued_213 : decode cX7_valued 213 = .ok (.aload_n 0, 1) := by decide +kernel
theorem dX7_valued_214 : decode cX7_valued 214 = .ok (.aload_n 0, 1) := by decide +kernel
theorem dX7_valued_215 : decode cX7_valued 215 = .ok (.getfield 13, 3) := by decide +kernel
theorem dX7_valued_218 : decode cX7_valued 218 = .ok (.iload_n 1, 1) := by decide +kernel
theorem dX7_valued_219 : decode cX7_valued 219 = .ok (.iaload, 1) := by decide +kernel
theorem dX7_valued_220 : decode cX7_valued 220 = .ok (.invokevirtual 238, 3) := by decide +kernel
theorem dX7_valued_223 : decode cX7_valued 223 = .ok (.istore_n 2, 1) := by decide +kernel
theorem dX7_valued_224 : decode cX7_valued 224 = .ok (.aload_n 0, 1) := by decide +kernel
theorem dX7_valued_225 : decode cX7_valued 225 = .ok (.aload_n 0, 1) := by decide +kernel
theorem dX7_valued_226 : decode cX7_valued 226 = .ok (.getfield 16, 3) := by decide +kernel
theorem dX7_valued_229 : decode cX7_valued 229 = .ok (.iload_n 1, 1) := by decide +kernel
theorem dX7_valued_230 : decode cX7_valued 230 = .ok (.iaload, 1) := by decide +kernel
theorem dX7_valued_231 : decode cX7_valued 231 = .ok (.invokevirtual 238, 3) := by decide +kernel
theorem dX7_valued_234 : decode cX7_valued 234 = .ok (.istore_n 3, 1) := by decide +kernel
theorem dX7_valued_235 : decode cX7_valued 235 = .ok (.aload_n 0, 1) := by decide +kernel
theorem dX7_valued_236 : decode cX7_valued 236 = .ok (.getfield 99, 3) := by decide +kernel
theorem dX7_valued_239 : decode cX7_valued 239 = .ok (.ifCond .eq 7, 3) := by decide +kernel
theorem dX7_valued_242 : decode cX7_valued 242 = .ok (.iconst 0, 1) := by decide +kernel
theorem dX7_valued_243 : decode cX7_valued 243 = .ok (.goto 24, 3) := by decide +kernel
theorem dX7_valued_246 : decode cX7_valued 246 = .ok (.aload_n 0, 1) := by decide +kernel
theorem dX7_valued_247 : decode cX7_valued 247 = .ok (.aload_n 0, 1) := by decide +kernel
theorem dX7_valued_248 : decode cX7_valued 248 = .ok (.getfield 7, 3) := by decide +kernel
theorem dX7_valued_251 : decode cX7_valued 251 = .ok (.iload_n 1, 1) := by decide +kernel
theorem dX7_valued_252 : decode cX7_valued 252 = .ok (.iaload, 1) := by decide +kernel
theorem dX7_valued_253 : decode cX7_valued 253 = .ok (.iconst 3, 1) := by decide +kernel
theorem dX7_valued_254 : decode cX7_valued 254 = .ok (.if_icmp .ne 7, 3) := by decide +kernel
theorem dX7_valued_257 : decode cX7_valued 257 = .ok (.iconst 1, 1) := by decide +kernel
theorem dX7_valued_258 : decode cX7_valued 258 = .ok (.goto 4, 3) := by decide +kernel
theorem dX7_valued_261 : decode cX7_valued 261 = .ok (.iconst 0, 1) := by decide +kernel
theorem dX7_valued_262 : decode cX7_valued 262 = .ok (.iload_n 2, 1) := by decide +kernel
theorem dX7_valued_263 : decode cX7_valued 263 = .ok (.iload_n 3, 1) := by decide +kernel
theorem dX7_valued_264 : decode cX7_valued 264 = .ok (.invokevirtual 111, 3) := by decide +kernel
theorem dX7_valued_267 : decode cX7_valued 267 = .ok (.ireturn, 1) := by decide +kernel
theorem dX7_decide_0 : decode cX7_decide 0 = .ok (.aload_n 0, 1) := by decide +kernel
theorem dX7_decide_1 : decode cX7_decide 1 = .ok (.iconst 0, 1) := by decide +kernel
theorem dX7_decide_2 : decode cX7_decide 2 = .ok (.putfield 76, 3) := by decide +kernel
theorem dX7_decide_5 : decode cX7_decide 5 = .ok (.aload_n 0, 1) := by decide +kernel
theorem dX7_decide_6 : decode cX7_decide 6 = .ok (.invokevirtual 88, 3) := by decide +kernel
theorem dX7_decide_9 : decode cX7_decide 9 = .ok (.aload_n 0, 1) := by decide +kernel
theorem dX7_decide_10 : decode cX7_decide 10 = .ok (.invokevirtual 226, 3) := by decide +kernel
theorem dX7_decide_13 : decode cX7_decide 13 = .ok (.aload_n 0, 1) := by decide +kernel
theorem dX7_decide_14 : decode cX7_decide 14 = .ok (.aload_n 0, 1) := by decide +kernel
theorem dX7_decide_15 : decode cX7_decide 15 = .ok (.getfield 33, 3) := by decide +kernel
theorem dX7_decide_18 : decode cX7_decide 18 = .ok (.iconst 0, 1) := by decide +kernel
theorem dX7_decide_19 : decode cX7_decide 19 = .ok (.iaload, 1) := by decide +kernel
theorem dX7_decide_20 : decode cX7_decide 20 = .ok (.invokevirtual 210, 3) := by decide +kernel
theorem dX7_decide_23 : decode cX7_decide 23 = .ok (.istore_n 1, 1) := by decide +kernel
theorem dX7_decide_24 : decode cX7_decide 24 = .ok (.iconst 0, 1) := by decide +kernel
theorem dX7_decide_25 : decode cX7_decide 25 = .ok (.istore_n 2, 1) := by decide +kernel
theorem dX7_decide_26 : decode cX7_decide 26 = .ok (.iload_n 2, 1) := by decide +kernel
theorem dX7_decide_27 : decode cX7_decide 27 = .ok (.bipush 8, 2) := by decide +kernel
theorem dX7_decide_29 : decode cX7_decide 29 = .ok (.if_icmp .ge 37, 3) := by decide +kernel
theorem dX7_decide_32 : decode cX7_decide 32 = .ok (.aload_n 0, 1) := by decide +kernel
theorem dX7_decide_33 : decode cX7_decide 33 = .ok (.getfield 99, 3) := by decide +kernel
theorem dX7_decide_36 : decode cX7_decide 36 = .ok (.ifCond .ne 30, 3) := by decide +kernel
theorem dX7_decide_39 : decode cX7_decide 39 = .ok (.aload_n 0, 1) := by decide +kernel
theorem dX7_decide_40 : decode cX7_decide 40 = .ok (.iload_n 2, 1) := by decide +kernel
theorem dX7_decide_41 : decode cX7_decide 41 = .ok (.putfield 184, 3) := by decide +kernel
theorem dX7_decide_44 : decode cX7_decide 44 = .ok (.aload_n 0, 1) := by decide +kernel
theorem dX7_decide_45 : decode cX7_decide 45 = .ok (.getfield 33, 3) := by decide +kernel
theorem dX7_decide_48 : decode cX7_decide 48 = .ok (.iload_n 1, 1) := by decide +kernel
theorem dX7_decide_49 : decode cX7_decide 49 = .ok (.aload_n 0, 1) := by decide +kernel
theorem dX7_decide_50 : decode cX7_decide 50 = .ok (.aload_n 0, 1) := by decide +kernel
theorem dX7_decide_51 : decode cX7_decide 51 = .ok (.getfield 33, 3) := by decide +kernel
theorem dX7_decide_54 : decode cX7_decide 54 = .ok (.iload_n 1, 1) := by decide +kernel
theorem dX7_decide_55 : decode cX7_decide 55 = .ok (.iaload, 1) := by decide +kernel
theorem dX7_decide_56 : decode cX7_decide 56 = .ok (.invokevirtual 238, 3) := by decide +kernel
theorem dX7_decide_59 : decode cX7_decide 59 = .ok (.iastore, 1) := by decide +kernel
theorem dX7_decide_60 : decode cX7_decide 60 = .ok (.iinc 2 1, 3) := by decide +kernel
theorem dX7_decide_63 : decode cX7_decide 63 = .ok (.goto (-37), 3) := by decide +kernel
theorem dX7_decide_66 : decode cX7_decide 66 = .ok (.aload_n 0, 1) := by decide +kernel
theorem dX7_decide_67 : decode cX7_decide 67 = .ok (.getfield 99, 3) := by decide +kernel
theorem dX7_decide_70 : decode cX7_decide 70 = .ok (.ifCond .ne 8, 3) := by decide +kernel
theorem dX7_decide_73 : decode cX7_decide 73 = .ok (.aload_n 0, 1) := by decide +kernel
theorem dX7_decide_74 : decode cX7_decide 74 = .ok (.iload_n 1, 1) := by decide +kernel
theorem dX7_decide_75 : decode cX7_decide 75 = .ok (.invokevirtual 219, 3) := by decide +kernel
theorem dX7_decide_78 : decode cX7_decide 78 = .ok (.aload_n 0, 1) := by decide +kernel
theorem dX7_decide_79 : decode cX7_decide 79 = .ok (.getfield 33, 3) := by decide +kernel
theorem dX7_decide_82 : decode cX7_decide 82 = .ok (.iload_n 1, 1) := by decide +kernel
theorem dX7_decide_83 : decode cX7_decide 83 = .ok (.iaload, 1) := by decide +kernel
theorem dX7_decide_84 : decode cX7_decide 84 = .ok (.istore_n 2, 1) := by decide +kernel
theorem dX7_decide_85 : decode cX7_decide 85 = .ok (.aload_n 0, 1) := by decide +kernel
theorem dX7_decide_86 : decode cX7_decide 86 = .ok (.iconst 1, 1) := by decide +kernel
theorem dX7_decide_87 : decode cX7_decide 87 = .ok (.putfield 72, 3) := by decide +kernel
theorem dX7_decide_90 : decode cX7_decide 90 = .ok (.aload_n 0, 1) := by decide +kernel
theorem dX7_decide_91 : decode cX7_decide 91 = .ok (.getfield 99, 3) := by decide +kernel
theorem dX7_decide_94 : decode cX7_decide 94 = .ok (.ifCond .eq 8, 3) := by decide +kernel
theorem dX7_decide_97 : decode cX7_decide 97 = .ok (.bipush (-2), 2) := by decide +kernel
theorem dX7_decide_99 : decode cX7_decide 99 = .ok (.goto 12, 3) := by decide +kernel
theorem dX7_decide_102 : decode cX7_decide 102 = .ok (.iload_n 2, 1) := by decide +kernel
theorem dX7_decide_103 : decode cX7_decide 103 = .ok (.ifCond .ne 7, 3) := by decide +kernel
theorem dX7_decide_106 : decode cX7_decide 106 = .ok (.iconst 1, 1) := by decide +kernel
theorem dX7_decide_107 : decode cX7_decide 107 = .ok (.goto 4, 3) := by decide +kernel
theorem dX7_decide_110 : decode cX7_decide 110 = .ok (.iconst 0, 1) := by decide +kernel
theorem dX7_decide_111 : decode cX7_decide 111 = .ok (.ireturn, 1) := by decide +kernel
theorem dX7_not_0 : decode cX7_not 0 = .ok (.aload_n 0, 1) := by decide +kernel
theorem dX7_not_1 : decode cX7_not 1 = .ok (.iconst 0, 1) := by decide +kernel
theorem dX7_not_2 : decode cX7_not 2 = .ok (.putfield 76, 3) := by decide +kernel
theorem dX7_not_5 : decode cX7_not 5 = .ok (.aload_n 0, 1) := by decide +kernel
theorem dX7_not_6 : decode cX7_not 6 = .ok (.invokevirtual 88, 3) := by decide +kernel
theorem dX7_not_9 : decode cX7_not 9 = .ok (.aload_n 0, 1) := by decide +kernel
theorem dX7_not_10 : decode cX7_not 10 = .ok (.getfield 33, 3) := by decide +kernel
theorem dX7_not_13 : decode cX7_not 13 = .ok (.iconst 0, 1) := by decide +kernel
theorem dX7_not_14 : decode cX7_not 14 = .ok (.aload_n 0, 1) := by decide +kernel
theorem dX7_not_15 : decode cX7_not 15 = .ok (.aload_n 0, 1) := by decide +kernel
theorem dX7_not_16 : decode cX7_not 16 = .ok (.getfield 33, 3) := by decide +kernel
theorem dX7_not_19 : decode cX7_not 19 = .ok (.iconst 0, 1) := by decide +kernel
theorem dX7_not_20 : decode cX7_not 20 = .ok (.iaload, 1) := by decide +kernel
theorem dX7_not_21 : decode cX7_not 21 = .ok (.invokevirtual 107, 3) := by decide +kernel
theorem dX7_not_24 : decode cX7_not 24 = .ok (.iastore, 1) := by decide +kernel
theorem dX7_not_25 : decode cX7_not 25 = .ok (.aload_n 0, 1) := by decide +kernel
theorem dX7_not_26 : decode cX7_not 26 = .ok (.getfield 19, 3) := by decide +kernel
theorem dX7_not_29 : decode cX7_not 29 = .ok (.aload_n 0, 1) := by decide +kernel
theorem dX7_not_30 : decode cX7_not 30 = .ok (.getfield 33, 3) := by decide +kernel
theorem dX7_not_33 : decode cX7_not 33 = .ok (.iconst 0, 1) := by decide +kernel
theorem dX7_not_34 : decode cX7_not 34 = .ok (.iaload, 1) := by decide +kernel
theorem dX7_not_35 : decode cX7_not 35 = .ok (.iaload, 1) := by decide +kernel
theorem dX7_not_36 : decode cX7_not 36 = .ok (.ireturn, 1) := by decide +kernel
theorem dX7_count_0 : decode cX7_count 0 = .ok (.aload_n 0, 1) := by decide +kernel
theorem dX7_count_1 : decode cX7_count 1 = .ok (.getfield 7, 3) := by decide +kernel
theorem dX7_count_4 : decode cX7_count 4 = .ok (.iload_n 1, 1) := by decide +kernel
theorem dX7_count_5 : decode cX7_count 5 = .ok (.iaload, 1) := by decide +kernel
theorem dX7_count_6 : decode cX7_count 6 = .ok (.iconst 3, 1) := by decide +kernel
theorem dX7_count_7 : decode cX7_count 7 = .ok (.if_icmp .ge 29, 3) := by decide +kernel
theorem dX7_count_10 : decode cX7_count 10 = .ok (.iload_n 2, 1) := by decide +kernel
theorem dX7_count_11 : decode cX7_count 11 = .ok (.iconst 3, 1) := by decide +kernel
theorem dX7_count_12 : decode cX7_count 12 = .ok (.if_icmp .eq 18, 3) := by decide +kernel
theorem dX7_count_15 : decode cX7_count 15 = .ok (.iload_n 2, 1) := by decide +kernel
theorem dX7_count_16 : decode cX7_count 16 = .ok (.iconst 1, 1) := by decide +kernel
theorem dX7_count_17 : decode cX7_count 17 = .ok (.if_icmp .ne 17, 3) := by decide +kernel
theorem dX7_count_20 : decode cX7_count 20 = .ok (.aload_n 0, 1) := by decide +kernel
theorem dX7_count_21 : decode cX7_count 21 = .ok (.getfield 7, 3) := by decide +kernel
theorem dX7_count_24 : decode cX7_count 24 = .ok (.iload_n 1, 1) := by decide +kernel
theorem dX7_count_25 : decode cX7_count 25 = .ok (.iaload, 1) := by decide +kernel
theorem dX7_count_26 : decode cX7_count 26 = .ok (.iconst 2, 1) := by decide +kernel
theorem dX7_count_27 : decode cX7_count 27 = .ok (.if_icmp .ne 7, 3) := by decide +kernel
theorem dX7_count_30 : decode cX7_count 30 = .ok (.iconst 1, 1) := by decide +kernel
theorem dX7_count_31 : decode cX7_count 31 = .ok (.goto 4, 3) := by decide +kernel
theorem dX7_count_34 : decode cX7_count 34 = .ok (.iconst 0, 1) := by decide +kernel
theorem dX7_count_35 : decode cX7_count 35 = .ok (.ireturn, 1) := by decide +kernel
theorem dX7_count_36 : decode cX7_count 36 = .ok (.aload_n 0, 1) := by decide +kernel
theorem dX7_count_37 : decode cX7_count 37 = .ok (.getfield 7, 3) := by decide +kernel
theorem dX7_count_40 : decode cX7_count 40 = .ok (.iload_n 1, 1) := by decide +kernel
theorem dX7_count_41 : decode cX7_count 41 = .ok (.iaload, 1) := by decide +kernel
theorem dX7_count_42 : decode cX7_count 42 = .ok (.iconst 5, 1) := by decide +kernel
theorem dX7_count_43 : decode cX7_count 43 = .ok (.if_icmp .lt 26, 3) := by decide +kernel
theorem dX7_count_46 : decode cX7_count 46 = .ok (.aload_n 0, 1) := by decide +kernel
theorem dX7_count_47 : decode cX7_count 47 = .ok (.aload_n 0, 1) := by decide +kernel
theorem dX7_count_48 : decode cX7_count 48 = .ok (.getfield 16, 3) := by decide +kernel
theorem dX7_count_51 : decode cX7_count 51 = .ok (.iload_n 1, 1) := by decide +kernel
theorem dX7_count_52 : decode cX7_count 52 = .ok (.iaload, 1) := by decide +kernel
theorem dX7_count_53 : decode cX7_count 53 = .ok (.iload_n 2, 1) := by decide +kernel
theorem dX7_count_54 : decode cX7_count 54 = .ok (.invokevirtual 234, 3) := by decide +kernel
theorem dX7_count_57 : decode cX7_count 57 = .ok (.iload_n 2, 1) := by decide +kernel
theorem dX7_count_58 : decode cX7_count 58 = .ok (.iconst 1, 1) := by decide +kernel
theorem dX7_count_59 : decode cX7_count 59 = .ok (.if_icmp .ne 7, 3) := by decide +kernel
theorem dX7_count_62 : decode cX7_count 62 = .ok (.iconst 0, 1) := by decide +kernel
theorem dX7_count_63 : decode cX7_count 63 = .ok (.goto 4, 3) := by decide +kernel
theorem dX7_count_66 : decode cX7_count 66 = .ok (.iconst 1, 1) := by decide +kernel
theorem dX7_count_67 : decode cX7_count 67 = .ok (.iadd, 1) := by decide +kernel
theorem dX7_count_68 : decode cX7_count 68 = .ok (.ireturn, 1) := by decide +kernel
theorem dX7_count_69 : decode cX7_count 69 = .ok (.aload_n 0, 1) := by decide +kernel
theorem dX7_count_70 : decode cX7_count 70 = .ok (.aload_n 0, 1) := by decide +kernel
theorem dX7_count_71 : decode cX7_count 71 = .ok (.getfield 13, 3) := by decide +kernel
theorem dX7_count_74 : decode cX7_count 74 = .ok (.iload_n 1, 1) := by decide +kernel
theorem dX7_count_75 : decode cX7_count 75 = .ok (.iaload, 1) := by decide +kernel
theorem dX7_count_76 : decode cX7_count 76 = .ok (.iload_n 2, 1) := by decide +kernel
theorem dX7_count_77 : decode cX7_count 77 = .ok (.invokevirtual 234, 3) := by decide +kernel
theorem dX7_count_80 : decode cX7_count 80 = .ok (.istore_n 3, 1) := by decide +kernel
theorem dX7_count_81 : decode cX7_count 81 = .ok (.aload_n 0, 1) := by decide +kernel
theorem dX7_count_82 : decode cX7_count 82 = .ok (.aload_n 0, 1) := by decide +kernel
theorem dX7_count_83 : decode cX7_count 83 = .ok (.getfield 16, 3) := by decide +kernel
theorem dX7_count_86 : decode cX7_count 86 = .ok (.iload_n 1, 1) := by decide +kernel
theorem dX7_count_87 : decode cX7_count 87 = .ok (.iaload, 1) := by decide +kernel
theorem dX7_count_88 : decode cX7_count 88 = .ok (.iload_n 2, 1) := by decide +kernel
theorem dX7_count_89 : decode cX7_count 89 = .ok (.invokevirtual 234, 3) := by decide +kernel
theorem dX7_count_92 : decode cX7_count 92 = .ok (.istore 4, 2) := by decide +kernel
theorem dX7_count_94 : decode cX7_count 94 = .ok (.iload_n 2, 1) := by decide +kernel
theorem dX7_count_95 : decode cX7_count 95 = .ok (.iconst 3, 1) := by decide +kernel
theorem dX7_count_96 : decode cX7_count 96 = .ok (.if_icmp .ne 20, 3) := by decide +kernel
theorem dX7_count_99 : decode cX7_count 99 = .ok (.iconst 1, 1) := by decide +kernel
theorem dX7_count_100 : decode cX7_count 100 = .ok (.iload_n 3, 1) := by decide +kernel
theorem dX7_count_101 : decode cX7_count 101 = .ok (.iload 4, 2) := by decide +kernel
theorem dX7_count_103 : decode cX7_count 103 = .ok (.if_icmp .le 7, 3) := by decide +kernel
theorem dX7_count_106 : decode cX7_count 106 = .ok (.iload_n 3, 1) := by decide +kernel
theorem dX7_count_107 : decode cX7_count 107 = .ok (.goto 5, 3) := by decide +kernel
theorem dX7_count_110 : decode cX7_count 110 = .ok (.iload 4, 2) := by decide +kernel
theorem dX7_count_112 : decode cX7_count 112 = .ok (.iadd, 1) := by decide +kernel
theorem dX7_count_113 : decode cX7_count 113 = .ok (.goto 7, 3) := by decide +kernel
theorem dX7_count_116 : decode cX7_count 116 = .ok (.iload_n 3, 1) := by decide +kernel
theorem dX7_count_117 : decode cX7_count 117 = .ok (.iload 4, 2) := by decide +kernel
theorem dX7_count_119 : decode cX7_count 119 = .ok (.iadd, 1) := by decide +kernel
theorem dX7_count_120 : decode cX7_count 120 = .ok (.ireturn, 1) := by decide +kernel
theorem dX7_told_0 : decode cX7_told 0 = .ok (.aload_n 0, 1) := by decide +kernel
theorem dX7_told_1 : decode cX7_told 1 = .ok (.iload_n 1, 1) := by decide +kernel
theorem dX7_told_2 : decode cX7_told 2 = .ok (.ifCond .lt 8, 3) := by decide +kernel
theorem dX7_told_5 : decode cX7_told 5 = .ok (.iload_n 1, 1) := by decide +kernel
theorem dX7_told_6 : decode cX7_told 6 = .ok (.iconst 5, 1) := by decide +kernel
theorem dX7_told_7 : decode cX7_told 7 = .ok (.if_icmp .le 7, 3) := by decide +kernel
theorem dX7_told_10 : decode cX7_told 10 = .ok (.iconst 1, 1) := by decide +kernel
theorem dX7_told_11 : decode cX7_told 11 = .ok (.goto 4, 3) := by decide +kernel
theorem dX7_told_14 : decode cX7_told 14 = .ok (.iconst 0, 1) := by decide +kernel
theorem dX7_told_15 : decode cX7_told 15 = .ok (.putfield 76, 3) := by decide +kernel
theorem dX7_told_18 : decode cX7_told 18 = .ok (.aload_n 0, 1) := by decide +kernel
theorem dX7_told_19 : decode cX7_told 19 = .ok (.getfield 76, 3) := by decide +kernel
theorem dX7_told_22 : decode cX7_told 22 = .ok (.ifCond .le 8, 3) := by decide +kernel
theorem dX7_told_25 : decode cX7_told 25 = .ok (.bipush 6, 2) := by decide +kernel
theorem dX7_told_27 : decode cX7_told 27 = .ok (.goto 4, 3) := by decide +kernel
theorem dX7_told_30 : decode cX7_told 30 = .ok (.iload_n 1, 1) := by decide +kernel
theorem dX7_told_31 : decode cX7_told 31 = .ok (.tableswitch 71 0 5 #[37, 49, 49, 49, 61, 66], 37) := by decide +kernel
theorem dX7_told_68 : decode cX7_told 68 = .ok (.aload_n 0, 1) := by decide +kernel
theorem dX7_told_69 : decode cX7_told 69 = .ok (.getfield 19, 3) := by decide +kernel
theorem dX7_told_72 : decode cX7_told 72 = .ok (.aload_n 0, 1) := by decide +kernel
theorem dX7_told_73 : decode cX7_told 73 = .ok (.getfield 33, 3) := by decide +kernel
theorem dX7_told_76 : decode cX7_told 76 = .ok (.iconst 0, 1) := by decide +kernel
theorem dX7_told_77 : decode cX7_told 77 = .ok (.iaload, 1) := by decide +kernel
theorem dX7_told_78 : decode cX7_told 78 = .ok (.iaload, 1) := by decide +kernel
theorem dX7_told_79 : decode cX7_told 79 = .ok (.ireturn, 1) := by decide +kernel
theorem dX7_told_80 : decode cX7_told 80 = .ok (.aload_n 0, 1) := by decide +kernel
theorem dX7_told_81 : decode cX7_told 81 = .ok (.aload_n 0, 1) := by decide +kernel
theorem dX7_told_82 : decode cX7_told 82 = .ok (.getfield 33, 3) := by decide +kernel
theorem dX7_told_85 : decode cX7_told 85 = .ok (.iconst 0, 1) := by decide +kernel
theorem dX7_told_86 : decode cX7_told 86 = .ok (.iaload, 1) := by decide +kernel
theorem dX7_told_87 : decode cX7_told 87 = .ok (.iload_n 1, 1) := by decide +kernel
theorem dX7_told_88 : decode cX7_told 88 = .ok (.invokevirtual 234, 3) := by decide +kernel
theorem dX7_told_91 : decode cX7_told 91 = .ok (.ireturn, 1) := by decide +kernel
theorem dX7_told_92 : decode cX7_told 92 = .ok (.aload_n 0, 1) := by decide +kernel
theorem dX7_told_93 : decode cX7_told 93 = .ok (.getfield 213, 3) := by decide +kernel
theorem dX7_told_96 : decode cX7_told 96 = .ok (.ireturn, 1) := by decide +kernel
theorem dX7_told_97 : decode cX7_told 97 = .ok (.aload_n 0, 1) := by decide +kernel
theorem dX7_told_98 : decode cX7_told 98 = .ok (.getfield 207, 3) := by decide +kernel
theorem dX7_told_101 : decode cX7_told 101 = .ok (.ireturn, 1) := by decide +kernel
theorem dX7_told_102 : decode cX7_told 102 = .ok (.iconst 0, 1) := by decide +kernel
theorem dX7_told_103 : decode cX7_told 103 = .ok (.ireturn, 1) := by decide +kernel
theorem dX7_say_0 : decode cX7_say 0 = .ok (.aload_n 0, 1) := by decide +kernel
theorem dX7_say_1 : decode cX7_say 1 = .ok (.getfield 241, 3) := by decide +kernel
theorem dX7_say_4 : decode cX7_say 4 = .ok (.sipush 12000, 3) := by decide +kernel
theorem dX7_say_7 : decode cX7_say 7 = .ok (.if_icmp .ge 14, 3) := by decide +kernel
theorem dX7_say_10 : decode cX7_say 10 = .ok (.aload_n 0, 1) := by decide +kernel
theorem dX7_say_11 : decode cX7_say 11 = .ok (.getfield 43, 3) := by decide +kernel
theorem dX7_say_14 : decode cX7_say 14 = .ok (.aload_n 0, 1) := by decide +kernel
theorem dX7_say_15 : decode cX7_say 15 = .ok (.getfield 241, 3) := by decide +kernel
theorem dX7_say_18 : decode cX7_say 18 = .ok (.iload_n 1, 1) := by decide +kernel
theorem dX7_say_19 : decode cX7_say 19 = .ok (.i2b, 1) := by decide +kernel
theorem dX7_say_20 : decode cX7_say 20 = .ok (.bastore, 1) := by decide +kernel
theorem dX7_say_21 : decode cX7_say 21 = .ok (.aload_n 0, 1) := by decide +kernel
theorem dX7_say_22 : decode cX7_say 22 = .ok (.dup, 1) := by decide +kernel
theorem dX7_say_23 : decode cX7_say 23 = .ok (.getfield 241, 3) := by decide +kernel
theorem dX7_say_26 : decode cX7_say 26 = .ok (.iconst 1, 1) := by decide +kernel
theorem dX7_say_27 : decode cX7_say 27 = .ok (.iadd, 1) := by decide +kernel
theorem dX7_say_28 : decode cX7_say 28 = .ok (.putfield 241, 3) := by decide +kernel
theorem dX7_say_31 : decode cX7_say 31 = .ok (.return_, 1) := by decide +kernel
theorem dX7_sayNumber_0 : decode cX7_sayNumber 0 = .ok (.iconst 1, 1) := by decide +kernel
theorem dX7_sayNumber_1 : decode cX7_sayNumber 1 = .ok (.istore_n 2, 1) := by decide +kernel
theorem dX7_sayNumber_2 : decode cX7_sayNumber 2 = .ok (.iload_n 1, 1) := by decide +kernel
theorem dX7_sayNumber_3 : decode cX7_sayNumber 3 = .ok (.iload_n 2, 1) := by decide +kernel
theorem dX7_sayNumber_4 : decode cX7_sayNumber 4 = .ok (.idiv, 1) := by decide +kernel
theorem dX7_sayNumber_5 : decode cX7_sayNumber 5 = .ok (.bipush 10, 2) := by decide +kernel
theorem dX7_sayNumber_7 : decode cX7_sayNumber 7 = .ok (.if_icmp .lt 11, 3) := by decide +kernel
theorem dX7_sayNumber_10 : decode cX7_sayNumber 10 = .ok (.iload_n 2, 1) := by decide +kernel
theorem dX7_sayNumber_11 : decode cX7_sayNumber 11 = .ok (.bipush 10, 2) := by decide +kernel
theorem dX7_sayNumber_13 : decode cX7_sayNumber 13 = .ok (.imul, 1) := by decide +kernel
theorem dX7_sayNumber_14 : decode cX7_sayNumber 14 = .ok (.istore_n 2, 1) := by decide +kernel
theorem dX7_sayNumber_15 : decode cX7_sayNumber 15 = .ok (.goto (-13), 3) := by decide +kernel
theorem dX7_sayNumber_18 : decode cX7_sayNumber 18 = .ok (.iload_n 2, 1) := by decide +kernel
theorem dX7_sayNumber_19 : decode cX7_sayNumber 19 = .ok (.ifCond .le 24, 3) := by decide +kernel
theorem dX7_sayNumber_22 : decode cX7_sayNumber 22 = .ok (.aload_n 0, 1) := by decide +kernel
theorem dX7_sayNumber_23 : decode cX7_sayNumber 23 = .ok (.bipush 48, 2) := by decide +kernel
theorem dX7_sayNumber_25 : decode cX7_sayNumber 25 = .ok (.iload_n 1, 1) := by decide +kernel
theorem dX7_sayNumber_26 : decode cX7_sayNumber 26 = .ok (.iload_n 2, 1) := by decide +kernel
theorem dX7_sayNumber_27 : decode cX7_sayNumber 27 = .ok (.idiv, 1) := by decide +kernel
theorem dX7_sayNumber_28 : decode cX7_sayNumber 28 = .ok (.bipush 10, 2) := by decide +kernel
theorem dX7_sayNumber_30 : decode cX7_sayNumber 30 = .ok (.irem, 1) := by decide +kernel
theorem dX7_sayNumber_31 : decode cX7_sayNumber 31 = .ok (.iadd, 1) := by decide +kernel
theorem dX7_sayNumber_32 : decode cX7_sayNumber 32 = .ok (.invokevirtual 244, 3) := by decide +kernel
theorem dX7_sayNumber_35 : decode cX7_sayNumber 35 = .ok (.iload_n 2, 1) := by decide +kernel
theorem dX7_sayNumber_36 : decode cX7_sayNumber 36 = .ok (.bipush 10, 2) := by decide +kernel
theorem dX7_sayNumber_38 : decode cX7_sayNumber 38 = .ok (.idiv, 1) := by decide +kernel
theorem dX7_sayNumber_39 : decode cX7_sayNumber 39 = .ok (.istore_n 2, 1) := by decide +kernel
theorem dX7_sayNumber_40 : decode cX7_sayNumber 40 = .ok (.goto (-22), 3) := by decide +kernel
theorem dX7_sayNumber_43 : decode cX7_sayNumber 43 = .ok (.return_, 1) := by decide +kernel
theorem dX7_sayAtom_0 : decode cX7_sayAtom 0 = .ok (.iconst 1, 1) := by decide +kernel
theorem dX7_sayAtom_1 : decode cX7_sayAtom 1 = .ok (.istore_n 2, 1) := by decide +kernel
theorem dX7_sayAtom_2 : decode cX7_sayAtom 2 = .ok (.iconst 0, 1) := by decide +kernel
theorem dX7_sayAtom_3 : decode cX7_sayAtom 3 = .ok (.istore_n 3, 1) := by decide +kernel
theorem dX7_sayAtom_4 : decode cX7_sayAtom 4 = .ok (.iload_n 3, 1) := by decide +kernel
theorem dX7_sayAtom_5 : decode cX7_sayAtom 5 = .ok (.bipush 9, 2) := by decide +kernel
theorem dX7_sayAtom_7 : decode cX7_sayAtom 7 = .ok (.if_icmp .ge 100, 3) := by decide +kernel
theorem dX7_sayAtom_10 : decode cX7_sayAtom 10 = .ok (.aload_n 0, 1) := by decide +kernel
theorem dX7_sayAtom_11 : decode cX7_sayAtom 11 = .ok (.getfield 26, 3) := by decide +kernel
theorem dX7_sayAtom_14 : decode cX7_sayAtom 14 = .ok (.bipush 9, 2) := by decide +kernel
theorem dX7_sayAtom_16 : decode cX7_sayAtom 16 = .ok (.iload_n 1, 1) := by decide +kernel
theorem dX7_sayAtom_17 : decode cX7_sayAtom 17 = .ok (.imul, 1) := by decide +kernel
theorem dX7_sayAtom_18 : decode cX7_sayAtom 18 = .ok (.iload_n 3, 1) := by decide +kernel
theorem dX7_sayAtom_19 : decode cX7_sayAtom 19 = .ok (.iadd, 1) := by decide +kernel
theorem dX7_sayAtom_20 : decode cX7_sayAtom 20 = .ok (.iaload, 1) := by decide +kernel
theorem dX7_sayAtom_21 : decode cX7_sayAtom 21 = .ok (.istore 4, 2) := by decide +kernel
theorem dX7_sayAtom_23 : decode cX7_sayAtom 23 = .ok (.iload 4, 2) := by decide +kernel
theorem dX7_sayAtom_25 : decode cX7_sayAtom 25 = .ok (.ifCond .eq 76, 3) := by decide +kernel
theorem dX7_sayAtom_28 : decode cX7_sayAtom 28 = .ok (.iload 4, 2) := by decide +kernel
theorem dX7_sayAtom_30 : decode cX7_sayAtom 30 = .ok (.ifCond .ge 12, 3) := by decide +kernel
theorem dX7_sayAtom_33 : decode cX7_sayAtom 33 = .ok (.aload_n 0, 1) := by decide +kernel
theorem dX7_sayAtom_34 : decode cX7_sayAtom 34 = .ok (.bipush 45, 2) := by decide +kernel
theorem dX7_sayAtom_36 : decode cX7_sayAtom 36 = .ok (.invokevirtual 244, 3) := by decide +kernel
theorem dX7_sayAtom_39 : decode cX7_sayAtom 39 = .ok (.goto 13, 3) := by decide +kernel
theorem dX7_sayAtom_42 : decode cX7_sayAtom 42 = .ok (.iload_n 2, 1) := by decide +kernel
theorem dX7_sayAtom_43 : decode cX7_sayAtom 43 = .ok (.ifCond .ne 9, 3) := by decide +kernel
theorem dX7_sayAtom_46 : decode cX7_sayAtom 46 = .ok (.aload_n 0, 1) := by decide +kernel
theorem dX7_sayAtom_47 : decode cX7_sayAtom 47 = .ok (.bipush 43, 2) := by decide +kernel
theorem dX7_sayAtom_49 : decode cX7_sayAtom 49 = .ok (.invokevirtual 244, 3) := by decide +kernel
theorem dX7_sayAtom_52 : decode cX7_sayAtom 52 = .ok (.iload 4, 2) := by decide +kernel
theorem dX7_sayAtom_54 : decode cX7_sayAtom 54 = .ok (.ifCond .ge 9, 3) := by decide +kernel
theorem dX7_sayAtom_57 : decode cX7_sayAtom 57 = .ok (.iload 4, 2) := by decide +kernel
theorem dX7_sayAtom_59 : decode cX7_sayAtom 59 = .ok (.ineg, 1) := by decide +kernel
theorem dX7_sayAtom_60 : decode cX7_sayAtom 60 = .ok (.goto 5, 3) := by decide +kernel
theorem dX7_sayAtom_63 : decode cX7_sayAtom 63 = .ok (.iload 4, 2) := by decide +kernel
theorem dX7_sayAtom_65 : decode cX7_sayAtom 65 = .ok (.istore 5, 2) := by decide +kernel
theorem dX7_sayAtom_67 : decode cX7_sayAtom 67 = .ok (.iload_n 3, 1) := by decide +kernel
theorem dX7_sayAtom_68 : decode cX7_sayAtom 68 = .ok (.bipush 8, 2) := by decide +kernel
theorem dX7_sayAtom_70 : decode cX7_sayAtom 70 = .ok (.if_icmp .eq 9, 3) := by decide +kernel
theorem dX7_sayAtom_73 : decode cX7_sayAtom 73 = .ok (.iload 5, 2) := by decide +kernel
theorem dX7_sayAtom_75 : decode cX7_sayAtom 75 = .ok (.iconst 1, 1) := by decide +kernel
theorem dX7_sayAtom_76 : decode cX7_sayAtom 76 = .ok (.if_icmp .le 9, 3) := by decide +kernel
theorem dX7_sayAtom_79 : decode cX7_sayAtom 79 = .ok (.aload_n 0, 1) := by decide +kernel
theorem dX7_sayAtom_80 : decode cX7_sayAtom 80 = .ok (.iload 5, 2) := by decide +kernel
theorem dX7_sayAtom_82 : decode cX7_sayAtom 82 = .ok (.invokevirtual 247, 3) := by decide +kernel
theorem dX7_sayAtom_85 : decode cX7_sayAtom 85 = .ok (.iload_n 3, 1) := by decide +kernel
theorem dX7_sayAtom_86 : decode cX7_sayAtom 86 = .ok (.bipush 8, 2) := by decide +kernel
theorem dX7_sayAtom_88 : decode cX7_sayAtom 88 = .ok (.if_icmp .ge 11, 3) := by decide +kernel
theorem dX7_sayAtom_91 : decode cX7_sayAtom 91 = .ok (.aload_n 0, 1) := by decide +kernel
theorem dX7_sayAtom_92 : decode cX7_sayAtom 92 = .ok (.bipush 97, 2) := by decide +kernel
theorem dX7_sayAtom_94 : decode cX7_sayAtom 94 = .ok (.iload_n 3, 1) := by decide +kernel
theorem dX7_sayAtom_95 : decode cX7_sayAtom 95 = .ok (.iadd, 1) := by decide +kernel
theorem dX7_sayAtom_96 : decode cX7_sayAtom 96 = .ok (.invokevirtual 244, 3) := by decide +kernel
theorem dX7_sayAtom_99 : decode cX7_sayAtom 99 = .ok (.iconst 0, 1) := by decide +kernel
theorem dX7_sayAtom_100 : decode cX7_sayAtom 100 = .ok (.istore_n 2, 1) := by decide +kernel
theorem dX7_sayAtom_101 : decode cX7_sayAtom 101 = .ok (.iinc 3 1, 3) := by decide +kernel
theorem dX7_sayAtom_104 : decode cX7_sayAtom 104 = .ok (.goto (-100), 3) := by decide +kernel
theorem dX7_sayAtom_107 : decode cX7_sayAtom 107 = .ok (.aload_n 0, 1) := by decide +kernel
theorem dX7_sayAtom_108 : decode cX7_sayAtom 108 = .ok (.getfield 13, 3) := by decide +kernel
theorem dX7_sayAtom_111 : decode cX7_sayAtom 111 = .ok (.iload_n 1, 1) := by decide +kernel
theorem dX7_sayAtom_112 : decode cX7_sayAtom 112 = .ok (.iaload, 1) := by decide +kernel
theorem dX7_sayAtom_113 : decode cX7_sayAtom 113 = .ok (.istore_n 3, 1) := by decide +kernel
theorem dX7_sayAtom_114 : decode cX7_sayAtom 114 = .ok (.iload_n 3, 1) := by decide +kernel
theorem dX7_sayAtom_115 : decode cX7_sayAtom 115 = .ok (.iconst 1, 1) := by decide +kernel
theorem dX7_sayAtom_116 : decode cX7_sayAtom 116 = .ok (.if_icmp .ne 9, 3) := by decide +kernel
theorem dX7_sayAtom_119 : decode cX7_sayAtom 119 = .ok (.aload_n 0, 1) := by decide +kernel
theorem dX7_sayAtom_120 : decode cX7_sayAtom 120 = .ok (.bipush 33, 2) := by decide +kernel
theorem dX7_sayAtom_122 : decode cX7_sayAtom 122 = .ok (.invokevirtual 244, 3) := by decide +kernel
theorem dX7_sayAtom_125 : decode cX7_sayAtom 125 = .ok (.iload_n 3, 1) := by decide +kernel
theorem dX7_sayAtom_126 : decode cX7_sayAtom 126 = .ok (.iconst 2, 1) := by decide +kernel
theorem dX7_sayAtom_127 : decode cX7_sayAtom 127 = .ok (.if_icmp .lt 9, 3) := by decide +kernel
theorem dX7_sayAtom_130 : decode cX7_sayAtom 130 = .ok (.aload_n 0, 1) := by decide +kernel
theorem dX7_sayAtom_131 : decode cX7_sayAtom 131 = .ok (.bipush 60, 2) := by decide +kernel
theorem dX7_sayAtom_133 : decode cX7_sayAtom 133 = .ok (.invokevirtual 244, 3) := by decide +kernel
theorem dX7_sayAtom_136 : decode cX7_sayAtom 136 = .ok (.iload_n 3, 1) := by decide +kernel
theorem dX7_sayAtom_137 : decode cX7_sayAtom 137 = .ok (.iconst 2, 1) := by decide +kernel
theorem dX7_sayAtom_138 : decode cX7_sayAtom 138 = .ok (.if_icmp .eq 9, 3) := by decide +kernel
theorem dX7_sayAtom_141 : decode cX7_sayAtom 141 = .ok (.aload_n 0, 1) := by decide +kernel
theorem dX7_sayAtom_142 : decode cX7_sayAtom 142 = .ok (.bipush 61, 2) := by decide +kernel
theorem dX7_sayAtom_144 : decode cX7_sayAtom 144 = .ok (.invokevirtual 244, 3) := by decide +kernel
theorem dX7_sayAtom_147 : decode cX7_sayAtom 147 = .ok (.aload_n 0, 1) := by decide +kernel
theorem dX7_sayAtom_148 : decode cX7_sayAtom 148 = .ok (.bipush 48, 2) := by decide +kernel
theorem dX7_sayAtom_150 : decode cX7_sayAtom 150 = .ok (.invokevirtual 244, 3) := by decide +kernel
theorem dX7_sayAtom_153 : decode cX7_sayAtom 153 = .ok (.return_, 1) := by decide +kernel
theorem dX7_sayAll_0 : decode cX7_sayAll 0 = .ok (.aload_n 0, 1) := by decide +kernel
theorem dX7_sayAll_1 : decode cX7_sayAll 1 = .ok (.getfield 7, 3) := by decide +kernel
theorem dX7_sayAll_4 : decode cX7_sayAll 4 = .ok (.iload_n 1, 1) := by decide +kernel
theorem dX7_sayAll_5 : decode cX7_sayAll 5 = .ok (.iaload, 1) := by decide +kernel
theorem dX7_sayAll_6 : decode cX7_sayAll 6 = .ok (.tableswitch 116 0 4 #[34, 43, 52, 60, 60], 34) := by decide +kernel
theorem dX7_sayAll_40 : decode cX7_sayAll 40 = .ok (.aload_n 0, 1) := by decide +kernel
theorem dX7_sayAll_41 : decode cX7_sayAll 41 = .ok (.bipush 84, 2) := by decide +kernel
theorem dX7_sayAll_43 : decode cX7_sayAll 43 = .ok (.invokevirtual 244, 3) := by decide +kernel
theorem dX7_sayAll_46 : decode cX7_sayAll 46 = .ok (.goto 126, 3) := by decide +kernel
theorem dX7_sayAll_49 : decode cX7_sayAll 49 = .ok (.aload_n 0, 1) := by decide +kernel
theorem dX7_sayAll_50 : decode cX7_sayAll 50 = .ok (.bipush 70, 2) := by decide +kernel
theorem dX7_sayAll_52 : decode cX7_sayAll 52 = .ok (.invokevirtual 244, 3) := by decide +kernel
theorem dX7_sayAll_55 : decode cX7_sayAll 55 = .ok (.goto 117, 3) := by decide +kernel
theorem dX7_sayAll_58 : decode cX7_sayAll 58 = .ok (.aload_n 0, 1) := by decide +kernel
theorem dX7_sayAll_59 : decode cX7_sayAll 59 = .ok (.iload_n 1, 1) := by decide +kernel
theorem dX7_sayAll_60 : decode cX7_sayAll 60 = .ok (.invokevirtual 250, 3) := by decide +kernel
theorem dX7_sayAll_63 : decode cX7_sayAll 63 = .ok (.goto 109, 3) := by decide +kernel
theorem dX7_sayAll_66 : decode cX7_sayAll 66 = .ok (.aload_n 0, 1) := by decide +kernel
theorem dX7_sayAll_67 : decode cX7_sayAll 67 = .ok (.bipush 40, 2) := by decide +kernel
theorem dX7_sayAll_69 : decode cX7_sayAll 69 = .ok (.invokevirtual 244, 3) := by decide +kernel
theorem dX7_sayAll_72 : decode cX7_sayAll 72 = .ok (.aload_n 0, 1) := by decide +kernel
theorem dX7_sayAll_73 : decode cX7_sayAll 73 = .ok (.aload_n 0, 1) := by decide +kernel
theorem dX7_sayAll_74 : decode cX7_sayAll 74 = .ok (.getfield 13, 3) := by decide +kernel
theorem dX7_sayAll_77 : decode cX7_sayAll 77 = .ok (.iload_n 1, 1) := by decide +kernel
theorem dX7_sayAll_78 : decode cX7_sayAll 78 = .ok (.iaload, 1) := by decide +kernel
theorem dX7_sayAll_79 : decode cX7_sayAll 79 = .ok (.invokevirtual 253, 3) := by decide +kernel
theorem dX7_sayAll_82 : decode cX7_sayAll 82 = .ok (.aload_n 0, 1) := by decide +kernel
theorem dX7_sayAll_83 : decode cX7_sayAll 83 = .ok (.aload_n 0, 1) := by decide +kernel
theorem dX7_sayAll_84 : decode cX7_sayAll 84 = .ok (.getfield 7, 3) := by decide +kernel
theorem dX7_sayAll_87 : decode cX7_sayAll 87 = .ok (.iload_n 1, 1) := by decide +kernel
theorem dX7_sayAll_88 : decode cX7_sayAll 88 = .ok (.iaload, 1) := by decide +kernel
theorem dX7_sayAll_89 : decode cX7_sayAll 89 = .ok (.iconst 3, 1) := by decide +kernel
theorem dX7_sayAll_90 : decode cX7_sayAll 90 = .ok (.if_icmp .ne 8, 3) := by decide +kernel
theorem dX7_sayAll_93 : decode cX7_sayAll 93 = .ok (.bipush 38, 2) := by decide +kernel
theorem dX7_sayAll_95 : decode cX7_sayAll 95 = .ok (.goto 5, 3) := by decide +kernel
theorem dX7_sayAll_98 : decode cX7_sayAll 98 = .ok (.bipush 124, 2) := by decide +kernel
theorem dX7_sayAll_100 : decode cX7_sayAll 100 = .ok (.invokevirtual 244, 3) := by decide +kernel
theorem dX7_sayAll_103 : decode cX7_sayAll 103 = .ok (.aload_n 0, 1) := by decide +kernel
theorem dX7_sayAll_104 : decode cX7_sayAll 104 = .ok (.aload_n 0, 1) := by decide +kernel
theorem dX7_sayAll_105 : decode cX7_sayAll 105 = .ok (.getfield 16, 3) := by decide +kernel
theorem dX7_sayAll_108 : decode cX7_sayAll 108 = .ok (.iload_n 1, 1) := by decide +kernel
theorem dX7_sayAll_109 : decode cX7_sayAll 109 = .ok (.iaload, 1) := by decide +kernel
theorem dX7_sayAll_110 : decode cX7_sayAll 110 = .ok (.invokevirtual 253, 3) := by decide +kernel
theorem dX7_sayAll_113 : decode cX7_sayAll 113 = .ok (.aload_n 0, 1) := by decide +kernel
theorem dX7_sayAll_114 : decode cX7_sayAll 114 = .ok (.bipush 41, 2) := by decide +kernel
theorem dX7_sayAll_116 : decode cX7_sayAll 116 = .ok (.invokevirtual 244, 3) := by decide +kernel
theorem dX7_sayAll_119 : decode cX7_sayAll 119 = .ok (.goto 53, 3) := by decide +kernel
theorem dX7_sayAll_122 : decode cX7_sayAll 122 = .ok (.aload_n 0, 1) := by decide +kernel
theorem dX7_sayAll_123 : decode cX7_sayAll 123 = .ok (.aload_n 0, 1) := by decide +kernel
theorem dX7_sayAll_124 : decode cX7_sayAll 124 = .ok (.getfield 7, 3) := by decide +kernel
theorem dX7_sayAll_127 : decode cX7_sayAll 127 = .ok (.iload_n 1, 1) := by decide +kernel
theorem dX7_sayAll_128 : decode cX7_sayAll 128 = .ok (.iaload, 1) := by decide +kernel
theorem dX7_sayAll_129 : decode cX7_sayAll 129 = .ok (.iconst 5, 1) := by decide +kernel
theorem dX7_sayAll_130 : decode cX7_sayAll 130 = .ok (.if_icmp .ne 8, 3) := by decide +kernel
theorem dX7_sayAll_133 : decode cX7_sayAll 133 = .ok (.bipush 69, 2) := by decide +kernel
theorem dX7_sayAll_135 : decode cX7_sayAll 135 = .ok (.goto 5, 3) := by decide +kernel
theorem dX7_sayAll_138 : decode cX7_sayAll 138 = .ok (.bipush 65, 2) := by decide +kernel
theorem dX7_sayAll_140 : decode cX7_sayAll 140 = .ok (.invokevirtual 244, 3) := by decide +kernel
theorem dX7_sayAll_143 : decode cX7_sayAll 143 = .ok (.aload_n 0, 1) := by decide +kernel
theorem dX7_sayAll_144 : decode cX7_sayAll 144 = .ok (.bipush 97, 2) := by decide +kernel
theorem dX7_sayAll_146 : decode cX7_sayAll 146 = .ok (.aload_n 0, 1) := by decide +kernel
theorem dX7_sayAll_147 : decode cX7_sayAll 147 = .ok (.getfield 13, 3) := by decide +kernel
theorem dX7_sayAll_150 : decode cX7_sayAll 150 = .ok (.iload_n 1, 1) := by decide +kernel
theorem dX7_sayAll_151 : decode cX7_sayAll 151 = .ok (.iaload, 1) := by decide +kernel
theorem dX7_sayAll_152 : decode cX7_sayAll 152 = .ok (.iadd, 1) := by decide +kernel
theorem dX7_sayAll_153 : decode cX7_sayAll 153 = .ok (.invokevirtual 244, 3) := by decide +kernel
theorem dX7_sayAll_156 : decode cX7_sayAll 156 = .ok (.aload_n 0, 1) := by decide +kernel
theorem dX7_sayAll_157 : decode cX7_sayAll 157 = .ok (.bipush 46, 2) := by decide +kernel
theorem dX7_sayAll_159 : decode cX7_sayAll 159 = .ok (.invokevirtual 244, 3) := by decide +kernel
theorem dX7_sayAll_162 : decode cX7_sayAll 162 = .ok (.aload_n 0, 1) := by decide +kernel
theorem dX7_sayAll_163 : decode cX7_sayAll 163 = .ok (.aload_n 0, 1) := by decide +kernel
theorem dX7_sayAll_164 : decode cX7_sayAll 164 = .ok (.getfield 16, 3) := by decide +kernel
theorem dX7_sayAll_167 : decode cX7_sayAll 167 = .ok (.iload_n 1, 1) := by decide +kernel
theorem dX7_sayAll_168 : decode cX7_sayAll 168 = .ok (.iaload, 1) := by decide +kernel
theorem dX7_sayAll_169 : decode cX7_sayAll 169 = .ok (.invokevirtual 253, 3) := by decide +kernel
theorem dX7_sayAll_172 : decode cX7_sayAll 172 = .ok (.return_, 1) := by decide +kernel
theorem dX7_write_0 : decode cX7_write 0 = .ok (.aload_n 0, 1) := by decide +kernel
theorem dX7_write_1 : decode cX7_write 1 = .ok (.iconst 0, 1) := by decide +kernel
theorem dX7_write_2 : decode cX7_write 2 = .ok (.putfield 76, 3) := by decide +kernel
theorem dX7_write_5 : decode cX7_write 5 = .ok (.aload_n 0, 1) := by decide +kernel
theorem dX7_write_6 : decode cX7_write 6 = .ok (.iconst 0, 1) := by decide +kernel
theorem dX7_write_7 : decode cX7_write 7 = .ok (.putfield 241, 3) := by decide +kernel
theorem dX7_write_10 : decode cX7_write 10 = .ok (.aload_n 0, 1) := by decide +kernel
theorem dX7_write_11 : decode cX7_write 11 = .ok (.aload_n 0, 1) := by decide +kernel
theorem dX7_write_12 : decode cX7_write 12 = .ok (.getfield 33, 3) := by decide +kernel
theorem dX7_write_15 : decode cX7_write 15 = .ok (.iconst 0, 1) := by decide +kernel
theorem dX7_write_16 : decode cX7_write 16 = .ok (.iaload, 1) := by decide +kernel
theorem dX7_write_17 : decode cX7_write 17 = .ok (.invokevirtual 253, 3) := by decide +kernel
theorem dX7_write_20 : decode cX7_write 20 = .ok (.aload_n 0, 1) := by decide +kernel
theorem dX7_write_21 : decode cX7_write 21 = .ok (.getfield 241, 3) := by decide +kernel
theorem dX7_write_24 : decode cX7_write 24 = .ok (.ireturn, 1) := by decide +kernel
theorem dX7_out_0 : decode cX7_out 0 = .ok (.aload_n 0, 1) := by decide +kernel
theorem dX7_out_1 : decode cX7_out 1 = .ok (.iconst 0, 1) := by decide +kernel
theorem dX7_out_2 : decode cX7_out 2 = .ok (.putfield 76, 3) := by decide +kernel
theorem dX7_out_5 : decode cX7_out 5 = .ok (.lconst 0, 1) := by decide +kernel
theorem dX7_out_6 : decode cX7_out 6 = .ok (.lstore_n 2, 1) := by decide +kernel
theorem dX7_out_7 : decode cX7_out 7 = .ok (.iconst 0, 1) := by decide +kernel
theorem dX7_out_8 : decode cX7_out 8 = .ok (.istore 4, 2) := by decide +kernel
theorem dX7_out_10 : decode cX7_out 10 = .ok (.iload 4, 2) := by decide +kernel
theorem dX7_out_12 : decode cX7_out 12 = .ok (.bipush 8, 2) := by decide +kernel
theorem dX7_out_14 : decode cX7_out 14 = .ok (.if_icmp .ge 70, 3) := by decide +kernel
theorem dX7_out_17 : decode cX7_out 17 = .ok (.iload_n 1, 1) := by decide +kernel
theorem dX7_out_18 : decode cX7_out 18 = .ok (.i2l, 1) := by decide +kernel
theorem dX7_out_19 : decode cX7_out 19 = .ok (.iload 4, 2) := by decide +kernel
theorem dX7_out_21 : decode cX7_out 21 = .ok (.i2l, 1) := by decide +kernel
theorem dX7_out_22 : decode cX7_out 22 = .ok (.ladd, 1) := by decide +kernel
theorem dX7_out_23 : decode cX7_out 23 = .ok (.lstore 5, 2) := by decide +kernel
theorem dX7_out_25 : decode cX7_out 25 = .ok (.lload_n 2, 1) := by decide +kernel
theorem dX7_out_26 : decode cX7_out 26 = .ok (.lload 5, 2) := by decide +kernel
theorem dX7_out_28 : decode cX7_out 28 = .ok (.lconst 0, 1) := by decide +kernel
theorem dX7_out_29 : decode cX7_out 29 = .ok (.lcmp, 1) := by decide +kernel
theorem dX7_out_30 : decode cX7_out 30 = .ok (.ifCond .lt 45, 3) := by decide +kernel
theorem dX7_out_33 : decode cX7_out 33 = .ok (.lload 5, 2) := by decide +kernel
theorem dX7_out_35 : decode cX7_out 35 = .ok (.aload_n 0, 1) := by decide +kernel
theorem dX7_out_36 : decode cX7_out 36 = .ok (.getfield 241, 3) := by decide +kernel
theorem dX7_out_39 : decode cX7_out 39 = .ok (.i2l, 1) := by decide +kernel
theorem dX7_out_40 : decode cX7_out 40 = .ok (.lcmp, 1) := by decide +kernel
theorem dX7_out_41 : decode cX7_out 41 = .ok (.ifCond .ge 34, 3) := by decide +kernel
theorem dX7_out_44 : decode cX7_out 44 = .ok (.lload 5, 2) := by decide +kernel
theorem dX7_out_46 : decode cX7_out 46 = .ok (.ldc2_w 256, 3) := by decide +kernel
theorem dX7_out_49 : decode cX7_out 49 = .ok (.lcmp, 1) := by decide +kernel
theorem dX7_out_50 : decode cX7_out 50 = .ok (.ifCond .ge 25, 3) := by decide +kernel
theorem dX7_out_53 : decode cX7_out 53 = .ok (.aload_n 0, 1) := by decide +kernel
theorem dX7_out_54 : decode cX7_out 54 = .ok (.getfield 43, 3) := by decide +kernel
theorem dX7_out_57 : decode cX7_out 57 = .ok (.lload 5, 2) := by decide +kernel
theorem dX7_out_59 : decode cX7_out 59 = .ok (.l2i, 1) := by decide +kernel
theorem dX7_out_60 : decode cX7_out 60 = .ok (.baload, 1) := by decide +kernel
theorem dX7_out_61 : decode cX7_out 61 = .ok (.i2l, 1) := by decide +kernel
theorem dX7_out_62 : decode cX7_out 62 = .ok (.ldc2_w 258, 3) := by decide +kernel
theorem dX7_out_65 : decode cX7_out 65 = .ok (.land, 1) := by decide +kernel
theorem dX7_out_66 : decode cX7_out 66 = .ok (.bipush 8, 2) := by decide +kernel
theorem dX7_out_68 : decode cX7_out 68 = .ok (.iload 4, 2) := by decide +kernel
theorem dX7_out_70 : decode cX7_out 70 = .ok (.imul, 1) := by decide +kernel
theorem dX7_out_71 : decode cX7_out 71 = .ok (.lshl, 1) := by decide +kernel
theorem dX7_out_72 : decode cX7_out 72 = .ok (.goto 4, 3) := by decide +kernel
theorem dX7_out_75 : decode cX7_out 75 = .ok (.lconst 0, 1) := by decide +kernel
theorem dX7_out_76 : decode cX7_out 76 = .ok (.lor, 1) := by decide +kernel
theorem dX7_out_77 : decode cX7_out 77 = .ok (.lstore_n 2, 1) := by decide +kernel
theorem dX7_out_78 : decode cX7_out 78 = .ok (.iinc 4 1, 3) := by decide +kernel
theorem dX7_out_81 : decode cX7_out 81 = .ok (.goto (-71), 3) := by decide +kernel
theorem dX7_out_84 : decode cX7_out 84 = .ok (.lload_n 2, 1) := by decide +kernel
theorem dX7_out_85 : decode cX7_out 85 = .ok (.lreturn, 1) := by decide +kernel
theorem dX7_pass_0 : decode cX7_pass 0 = .ok (.aload_n 0, 1) := by decide +kernel
theorem dX7_pass_1 : decode cX7_pass 1 = .ok (.iconst 0, 1) := by decide +kernel
theorem dX7_pass_2 : decode cX7_pass 2 = .ok (.putfield 76, 3) := by decide +kernel
theorem dX7_pass_5 : decode cX7_pass 5 = .ok (.aload_n 0, 1) := by decide +kernel
theorem dX7_pass_6 : decode cX7_pass 6 = .ok (.aload_n 0, 1) := by decide +kernel
theorem dX7_pass_7 : decode cX7_pass 7 = .ok (.getfield 241, 3) := by decide +kernel
theorem dX7_pass_10 : decode cX7_pass 10 = .ok (.sipush 240, 3) := by decide +kernel
theorem dX7_pass_13 : decode cX7_pass 13 = .ok (.if_icmp .ge 10, 3) := by decide +kernel
theorem dX7_pass_16 : decode cX7_pass 16 = .ok (.aload_n 0, 1) := by decide +kernel
theorem dX7_pass_17 : decode cX7_pass 17 = .ok (.getfield 241, 3) := by decide +kernel
theorem dX7_pass_20 : decode cX7_pass 20 = .ok (.goto 6, 3) := by decide +kernel
theorem dX7_pass_23 : decode cX7_pass 23 = .ok (.sipush 240, 3) := by decide +kernel
theorem dX7_pass_26 : decode cX7_pass 26 = .ok (.putfield 118, 3) := by decide +kernel
theorem dX7_pass_29 : decode cX7_pass 29 = .ok (.iconst 0, 1) := by decide +kernel
theorem dX7_pass_30 : decode cX7_pass 30 = .ok (.istore_n 1, 1) := by decide +kernel
theorem dX7_pass_31 : decode cX7_pass 31 = .ok (.iload_n 1, 1) := by decide +kernel
theorem dX7_pass_32 : decode cX7_pass 32 = .ok (.aload_n 0, 1) := by decide +kernel
theorem dX7_pass_33 : decode cX7_pass 33 = .ok (.getfield 118, 3) := by decide +kernel
theorem dX7_pass_36 : decode cX7_pass 36 = .ok (.if_icmp .ge 21, 3) := by decide +kernel
theorem dX7_pass_39 : decode cX7_pass 39 = .ok (.aload_n 0, 1) := by decide +kernel
theorem dX7_pass_40 : decode cX7_pass 40 = .ok (.getfield 39, 3) := by decide +kernel
theorem dX7_pass_43 : decode cX7_pass 43 = .ok (.iload_n 1, 1) := by decide +kernel
theorem dX7_pass_44 : decode cX7_pass 44 = .ok (.aload_n 0, 1) := by decide +kernel
theorem dX7_pass_45 : decode cX7_pass 45 = .ok (.getfield 43, 3) := by decide +kernel
theorem dX7_pass_48 : decode cX7_pass 48 = .ok (.iload_n 1, 1) := by decide +kernel
theorem dX7_pass_49 : decode cX7_pass 49 = .ok (.baload, 1) := by decide +kernel
theorem dX7_pass_50 : decode cX7_pass 50 = .ok (.bastore, 1) := by decide +kernel
theorem dX7_pass_51 : decode cX7_pass 51 = .ok (.iinc 1 1, 3) := by decide +kernel
theorem dX7_pass_54 : decode cX7_pass 54 = .ok (.goto (-23), 3) := by decide +kernel
theorem dX7_pass_57 : decode cX7_pass 57 = .ok (.aload_n 0, 1) := by decide +kernel
theorem dX7_pass_58 : decode cX7_pass 58 = .ok (.getfield 118, 3) := by decide +kernel
theorem dX7_pass_61 : decode cX7_pass 61 = .ok (.ireturn, 1) := by decide +kernel
